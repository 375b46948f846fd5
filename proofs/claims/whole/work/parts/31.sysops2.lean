section SOPS
variable {σ0 σ : zS} {r F S W V ks n T : Nat} {P : Nat → Nat → Nat} {C : mC} {Q : Int32 → zS → Prop}
/-- a row of the course changes -/
theorem Fr_A (h : Fr σ0 σ r) {a i : Nat} {v : Int32} (ha : r ≤ a) (hb : a < r + 20) : Fr σ0 (zA σ a i v) r := by
  refine ⟨fun k j hk => ?_, h.2.1, h.2.2⟩
  rw [zA_2, if_neg (by omega)]
  exact h.1 k j hk
theorem Fr_I (h : Fr σ0 σ r) {k : Nat} {v : Int32} (h1 : k ≠ 11) (h2 : k ≠ 12) : Fr σ0 (zI σ r k v) r := by
  refine ⟨h.1, fun k' j hk => ?_, ?_, ?_⟩
  · rw [zI_1, if_neg (by omega)]
    exact h.2.1 k' j hk
  · rw [zI_1, if_neg (by omega)]
    exact h.2.2.1
  · rw [zI_1, if_neg (by omega)]
    exact h.2.2.2
theorem RB_st (h : RB σ0 σ r n F T C) (hF : F ≤ 8) {σ' : zS} (hfr : Fr σ0 σ' r) {p : Nat} (hp : p < n) (s w t : Nat) (e1 : σ'.2 (r + 1) p = nI (if s = 3 ∧ t < T then 4 else s)) (e2 : (s = 1 ∨ s = 2) → σ'.2 (r + 2) p = nI w) (e3 : (s = 3 ∨ s = 4) → σ'.2 (r + 3) p = nI t) (eo : ∀ k j, k ≠ 15 → ((k = 1 ∨ k = 2 ∨ k = 3) → j ≠ p) → σ'.2 (r + k) j = σ.2 (r + k) j) (ei : σ'.1 = σ.1) : RB σ0 σ' r n F T (fu C.1 p s, fu C.2.1 p w, fu C.2.2.1 p t, C.2.2.2) := by
  obtain ⟨h0, h1, h2, h3, h4, h5, h6, h7⟩ := h
  refine ⟨hfr, fun q hq => ?_, fun f hf => ?_, by rw [ei]; exact h3, by rw [ei]; exact h4, by rw [ei]; exact h5, by rw [ei]; exact h6, fun q hq hq2 => by rw [eo 1 q (by omega) (by omega), eo 4 q (by omega) (by omega)]; exact h7 q hq hq2⟩
  · obtain ⟨a1, a2, a3, a4⟩ := h1 q hq
    show _ = nI (if fu C.1 p s q = 3 ∧ fu C.2.2.1 p t q < T then 4 else fu C.1 p s q) ∧ ((fu C.1 p s q = 1 ∨ fu C.1 p s q = 2) → _ = nI (fu C.2.1 p w q)) ∧ ((fu C.1 p s q = 3 ∨ fu C.1 p s q = 4) → _ = nI (fu C.2.2.1 p t q)) ∧ _ = C.2.2.2.2.2.2.1 q
    by_cases e : q = p
    · subst e
      simp only [fu, if_true]
      exact ⟨e1, e2, e3, by rw [eo 4 q (by omega) (by omega)]; exact a4⟩
    · simp only [fu, e, if_false]
      rw [eo 1 q (by omega) (fun _ => e), eo 2 q (by omega) (fun _ => e), eo 3 q (by omega) (fun _ => e), eo 4 q (by omega) (fun _ => e)]
      exact ⟨a1, a2, a3, a4⟩
  · obtain ⟨a1, a2, a3, a4, a5⟩ := h2 f hf
    show _ = nI (C.2.2.2.1 f).length ∧ _ = C.2.2.2.2.1 f ∧ _ = C.2.2.2.2.2.1 f ∧ (∀ i q, (C.2.2.2.1 f)[i]? = some q → _ = nI q) ∧ _
    rw [eo 14 f (by omega) (by omega), eo 17 f (by omega) (by omega), eo 18 f (by omega) (by omega), eo 19 f (by omega) (by omega)]
    refine ⟨a1, a2, a3, fun i q hi => ?_, a5⟩
    rw [show r + 6 + f = r + (6 + f) by omega, eo (6 + f) i (by omega) (by omega), show r + (6 + f) = r + 6 + f by omega]
    exact a4 i q hi
/-- another line at f -/
theorem RB_ln (h : RB σ0 σ r n F T C) (hF : F ≤ 8) {σ' : zS} (hfr : Fr σ0 σ' r) {f : Nat} (l : List Nat) (e1 : σ'.2 (r + 14) f = nI l.length) (e2 : ∀ i q, l[i]? = some q → σ'.2 (r + 6 + f) i = nI q) (eo : ∀ k j, k ≠ 15 → k ≠ 6 + f → (k = 14 → j ≠ f) → σ'.2 (r + k) j = σ.2 (r + k) j) (ei : σ'.1 = σ.1) (hf : f < F) : RB σ0 σ' r n F T (C.1, C.2.1, C.2.2.1, fu C.2.2.2.1 f l, C.2.2.2.2) := by
  obtain ⟨h0, h1, h2, h3, h4, h5, h6, h7⟩ := h
  refine ⟨hfr, fun q hq => ?_, fun g hg => ?_, by rw [ei]; exact h3, by rw [ei]; exact h4, by rw [ei]; exact h5, by rw [ei]; exact h6, fun q hq hq2 => by rw [eo 1 q (by omega) (by omega) (by omega), eo 4 q (by omega) (by omega) (by omega)]; exact h7 q hq hq2⟩
  · obtain ⟨a1, a2, a3, a4⟩ := h1 q hq
    rw [eo 1 q (by omega) (by omega) (by omega), eo 2 q (by omega) (by omega) (by omega), eo 3 q (by omega) (by omega) (by omega), eo 4 q (by omega) (by omega) (by omega)]
    exact ⟨a1, a2, a3, a4⟩
  · obtain ⟨a1, a2, a3, a4, a5⟩ := h2 g hg
    show _ = nI (fu C.2.2.2.1 f l g).length ∧ _ = C.2.2.2.2.1 g ∧ _ = C.2.2.2.2.2.1 g ∧ (∀ i q, (fu C.2.2.2.1 f l g)[i]? = some q → _ = nI q) ∧ _
    rw [eo 17 g (by omega) (by omega) (by omega), eo 18 g (by omega) (by omega) (by omega), eo 19 g (by omega) (by omega) (by omega)]
    by_cases e : g = f
    · subst e
      simp only [fu, if_true]
      exact ⟨e1, a2, a3, e2, a5⟩
    · simp only [fu, e, if_false]
      rw [eo 14 g (by omega) (by omega) (fun _ => e)]
      refine ⟨a1, a2, a3, fun i q hi => ?_, a5⟩
      rw [show r + 6 + g = r + (6 + g) by omega, eo (6 + g) i (by omega) (by omega) (by omega), show r + (6 + g) = r + 6 + g by omega]
      exact a4 i q hi
theorem RB_ic (h : RB σ0 σ r n F T C) (hF : F ≤ 8) {f : Nat} (hf : f < F) (v : Int32) : RB σ0 (zA σ (r + 17) f v) r n F T (C.1, C.2.1, C.2.2.1, C.2.2.2.1, fu C.2.2.2.2.1 f v, C.2.2.2.2.2) := by
  obtain ⟨h0, h1, h2, h3, h4, h5, h6, h7⟩ := h
  refine ⟨Fr_A h0 (by omega) (by omega), fun q hq => ?_, fun g hg => ?_, h3, h4, h5, h6, fun q hq hq2 => by rw [zA_2, zA_2, if_neg (by omega), if_neg (by omega)]; exact h7 q hq hq2⟩
  · obtain ⟨a1, a2, a3, a4⟩ := h1 q hq
    rw [zA_2, zA_2, zA_2, zA_2, if_neg (by omega), if_neg (by omega), if_neg (by omega), if_neg (by omega)]
    exact ⟨a1, a2, a3, a4⟩
  · obtain ⟨a1, a2, a3, a4, a5⟩ := h2 g hg
    show _ = nI (C.2.2.2.1 g).length ∧ _ = fu C.2.2.2.2.1 f v g ∧ _ = C.2.2.2.2.2.1 g ∧ (∀ i q, (C.2.2.2.1 g)[i]? = some q → _ = nI q) ∧ _
    refine ⟨by rw [zA_2, if_neg (by omega)]; exact a1, ?_, by rw [zA_2, if_neg (by omega)]; exact a3, fun i q hi => by rw [zA_2, if_neg (by omega)]; exact a4 i q hi, by rw [zA_2, if_neg (by omega)]; exact a5⟩
    rw [zA_2]
    by_cases e : g = f
    · subst e
      simp [fu]
    · simp [fu, e, a2]
theorem RB_oc (h : RB σ0 σ r n F T C) (hF : F ≤ 8) {f : Nat} (hf : f < F) (v : Int32) : RB σ0 (zA σ (r + 18) f v) r n F T (C.1, C.2.1, C.2.2.1, C.2.2.2.1, C.2.2.2.2.1, fu C.2.2.2.2.2.1 f v, C.2.2.2.2.2.2) := by
  obtain ⟨h0, h1, h2, h3, h4, h5, h6, h7⟩ := h
  refine ⟨Fr_A h0 (by omega) (by omega), fun q hq => ?_, fun g hg => ?_, h3, h4, h5, h6, fun q hq hq2 => by rw [zA_2, zA_2, if_neg (by omega), if_neg (by omega)]; exact h7 q hq hq2⟩
  · obtain ⟨a1, a2, a3, a4⟩ := h1 q hq
    rw [zA_2, zA_2, zA_2, zA_2, if_neg (by omega), if_neg (by omega), if_neg (by omega), if_neg (by omega)]
    exact ⟨a1, a2, a3, a4⟩
  · obtain ⟨a1, a2, a3, a4, a5⟩ := h2 g hg
    show _ = nI (C.2.2.2.1 g).length ∧ _ = C.2.2.2.2.1 g ∧ _ = fu C.2.2.2.2.2.1 f v g ∧ (∀ i q, (C.2.2.2.1 g)[i]? = some q → _ = nI q) ∧ _
    refine ⟨by rw [zA_2, if_neg (by omega)]; exact a1, by rw [zA_2, if_neg (by omega)]; exact a2, ?_, fun i q hi => by rw [zA_2, if_neg (by omega)]; exact a4 i q hi, by rw [zA_2, if_neg (by omega)]; exact a5⟩
    rw [zA_2]
    by_cases e : g = f
    · subst e
      simp [fu]
    · simp [fu, e, a3]
/-- the widths' row changes: nothing else -/
theorem RB_wd (h : RB σ0 σ r n F T C) (hF : F ≤ 8) {b : Nat} {v : Int32} : RB σ0 (zA σ (r + 15) b v) r n F T C := by
  obtain ⟨h0, h1, h2, h3, h4, h5, h6, h7⟩ := h
  refine ⟨Fr_A h0 (by omega) (by omega), fun q hq => ?_, fun g hg => ?_, h3, h4, h5, h6, fun q hq hq2 => by rw [zA_2, zA_2, if_neg (by omega), if_neg (by omega)]; exact h7 q hq hq2⟩
  · obtain ⟨a1, a2, a3, a4⟩ := h1 q hq
    rw [zA_2, zA_2, zA_2, zA_2, if_neg (by omega), if_neg (by omega), if_neg (by omega), if_neg (by omega)]
    exact ⟨a1, a2, a3, a4⟩
  · obtain ⟨a1, a2, a3, a4, a5⟩ := h2 g hg
    exact ⟨by rw [zA_2, if_neg (by omega)]; exact a1, by rw [zA_2, if_neg (by omega)]; exact a2, by rw [zA_2, if_neg (by omega)]; exact a3, fun i q hi => by rw [zA_2, if_neg (by omega)]; exact a4 i q hi, by rw [zA_2, if_neg (by omega)]; exact a5⟩
theorem c8 {f : Nat} (h : f < 8) : (nI f).toNatClampNeg = f := nI_clamp (by omega)
theorem c30 {p : Nat} (h : p < 30) : (nI p).toNatClampNeg = p := nI_clamp (by omega)
theorem c18 {p : Nat} (h : p < 18) : (nI p).toNatClampNeg = p := nI_clamp (by omega)
theorem v8 {f : Nat} (h : f < 8) : vp_in (nI f) 8 := vp_in_nI h (by decide)
theorem v30 {p : Nat} (h : p < 30) : vp_in (nI p) 30 := vp_in_nI h (by decide)
theorem v18 {p : Nat} (h : p < 18) : vp_in (nI p) 18 := vp_in_nI h (by decide)
theorem s_stand (hF : F ≤ 8) (hn : n ≤ 30) (h : RB σ0 σ r n F T C) (g : GC n F C) {p f : Nat} (hp : p < n) (hf : f < F) (hs : C.1 p ≠ 1) (k : ∀ σ', RB σ0 σ' r n F T (mjoin C p f) → (∀ b, σ'.2 (r + 15) b = σ.2 (r + 15) b) → Q 0 σ') : w_X0_stand r (nI p) (nI f) σ Q := by
  have hlf := GC_lt g hf hp hs
  have hlen := (h.2.2.1 f hf).1
  unfold w_X0_stand
  simp only [zlet_def, c30 (show p < 30 by omega), v30 (show p < 30 by omega), c8 (show f < 8 by omega), v8 (show f < 8 by omega), true_and, hlen]
  have e3 : ¬ ((30 : Int32) ≤ nI (C.2.2.2.1 f).length) := by
    rw [show (30 : Int32) = nI 30 from rfl, nI_leI (by omega) (by omega)]
    omega
  refine ⟨fun hh => absurd hh e3, fun _ => ?_⟩
  rw [c30 (show (C.2.2.2.1 f).length < 30 by omega), nI_1]
  refine ⟨v30 (by omega), k _ ?_ (fun b => ?_)⟩
  · have h1 := RB_st h hF (σ' := zA (zA σ (r + 1) p 1) (r + 2) p (nI f)) (Fr_A (Fr_A h.1 (by omega) (by omega)) (by omega) (by omega)) (p := p) hp 1 f (C.2.2.1 p) (by rw [zA_2, if_neg (by omega), zA_2, if_pos ⟨rfl, rfl⟩]; rfl) (fun _ => by rw [zA_2, if_pos ⟨rfl, rfl⟩]) (fun hh => by omega) (fun k' j hk hj => by rw [zA_2, if_neg (by omega), zA_2, if_neg (by omega)]) rfl
    have e9 : fu C.2.2.1 p (C.2.2.1 p) = C.2.2.1 := by
      funext q
      simp only [fu]
      split
      · next e => rw [e]
      · rfl
    rw [e9] at h1
    refine RB_ln h1 hF (Fr_A (Fr_A h1.1 (by omega) (by omega)) (by omega) (by omega)) (f := f) (C.2.2.2.1 f ++ [p]) (by rw [zA_2, if_pos ⟨rfl, rfl⟩]; simp) (fun i q hi => ?_) (fun k' j hk hk2 hj => by rw [zA_2, if_neg (by omega), zA_2, if_neg (by omega)]) rfl hf
    have hil : i < (C.2.2.2.1 f ++ [p]).length := (List.getElem?_eq_some_iff.mp hi).1
    simp only [List.length_append, List.length_singleton] at hil
    rw [zA_2, if_neg (by omega), zA_2]
    by_cases ei : i = (C.2.2.2.1 f).length
    · subst ei
      simp at hi
      simp [hi]
    · rw [if_neg (by omega), zA_2, if_neg (by omega), zA_2, if_neg (by omega)]
      rw [List.getElem?_append_left (by omega)] at hi
      exact (h.2.2.1 f hf).2.2.2.1 i q hi
  · rw [zA_2, if_neg (by omega), zA_2, if_neg (by omega), zA_2, if_neg (by omega), zA_2, if_neg (by omega)]
theorem mjoin_out (C : mC) (p f : Nat) : (∀ q, q ≠ p → (mjoin C p f).1 q = C.1 q ∧ (mjoin C p f).2.1 q = C.2.1 q) ∧ (mjoin C p f).1 p = 1 := ⟨fun q hq => ⟨fu_n _ _ hq, fu_n _ _ hq⟩, fu_s _ _ _⟩
theorem mleave_out (P : Nat → Nat → Nat) (C : mC) (p f : Nat) : (∀ q, q ≠ p → (mleave P C p f).1 q = C.1 q ∧ (mleave P C p f).2.1 q = C.2.1 q) ∧ ((mleave P C p f).1 p = 4 ∨ (mleave P C p f).1 p = 1) := by
  unfold mleave
  split
  · exact ⟨fun q hq => ⟨fu_n _ _ hq, fu_n _ _ hq⟩, Or.inl (fu_s _ _ _)⟩
  · exact ⟨fun q hq => ⟨fu_n _ _ hq, fu_n _ _ hq⟩, Or.inr (fu_s _ _ _)⟩
theorem s_leave (hC : HC σ0 r F S W V ks n P) (h : RB σ0 σ r n F T C) (hw : WB σ r n F P C) (g : GC n F C) {p f b : Nat} (hp : p < n) (hf : f < F) (hb : b < 2 * F + 2) (hs : C.1 p = 2) (hwh : C.2.1 p = b) (k : ∀ σ', RB σ0 σ' r n F T (mleave P C p f) → WB σ' r n F P (mleave P C p f) → Q 0 σ') : w_X0_leave r (nI p) (nI b) (nI f) σ Q := by
  obtain ⟨a1, a2, a3, a4, a5, a6, a7, a8, a9, b1, b2, b3⟩ := HC_fr hC h.1
  have hF := a8.2.1
  have hn := a9.1
  have hpp := a9.2 p hp
  have hws := wsm_le (C := C) a9 b n (Nat.le_refl n)
  have hup := wsm_upd (P := P) (b := b) (mleave_out P C p f).1 n
  have hout : ¬ (p < n ∧ (mleave P C p f).1 p = 2 ∧ (mleave P C p f).2.1 p = b) := fun hh => by have := (mleave_out P C p f).2; omega
  rw [if_pos ⟨hp, hs, hwh⟩, if_neg hout] at hup
  have hoc := (h.2.2.1 f hf).2.2.1
  unfold w_X0_leave
  have p3 : σ.2 5 p = nI (P 3 p) := a7 3 (by decide) p hp
  simp only [zlet_def, c30 (show p < 30 by omega), v30 (show p < 30 by omega), c8 (show f < 8 by omega), v8 (show f < 8 by omega), c18 (show b < 18 by omega), v18 (show b < 18 by omega), true_and, cl1, hw b hb, p3, show vp_in (1 : Int32) 2 from vpk (k := 1) rfl (by decide) (by decide)]
  rw [pk_sub (show P 3 p ≤ wsm P C b n by omega), show wsm P C b n - P 3 p = wsm P (mleave P C p f) b n by omega]
  have e18 : (zA σ (r + 15) b (nI (wsm P (mleave P C p f) b n))).2 (r + 17 + 1) f = C.2.2.2.2.2.1 f := by
    rw [zA_2, if_neg (by omega)]
    exact hoc
  rw [e18]
  have h1 := RB_oc (RB_wd (b := b) (v := nI (wsm P (mleave P C p f) b n)) h hF) hF hf (C.2.2.2.2.2.1 f + 1)
  have p2 : (zA (zA σ (r + 15) b (nI (wsm P (mleave P C p f) b n))) (r + 17 + 1) f (C.2.2.2.2.2.1 f + 1)).2 4 p = nI (P 2 p) := by
    rw [zA_2, if_neg (by omega), zA_2, if_neg (by omega)]
    exact a7 2 (by decide) p hp
  rw [p2, nI_eq (by omega) (by omega)]
  have hwb : ∀ σ' : zS, (∀ b', σ'.2 (r + 15) b' = (zA (zA σ (r + 15) b (nI (wsm P (mleave P C p f) b n))) (r + 17 + 1) f (C.2.2.2.2.2.1 f + 1)).2 (r + 15) b') → WB σ' r n F P (mleave P C p f) := fun σ' hh b' hb' => by
    rw [hh, zA_2, if_neg (by omega), zA_2]
    by_cases e : b' = b
    · subst e
      rw [if_pos ⟨rfl, rfl⟩]
    · rw [if_neg (by omega), hw b' hb']
      congr 1
      refine (wsm_same (fun q => ?_) n).symm
      by_cases eq : q = p
      · subst eq
        have := (mleave_out P C q f).2
        constructor
        · intro hh; omega
        · intro hh; omega
      · rw [((mleave_out P C p f).1 q eq).1, ((mleave_out P C p f).1 q eq).2]
  refine ⟨fun e => ?_, fun e => ?_⟩
  · refine k _ ?_ (hwb _ (fun b' => by rw [zA_2, if_neg (by omega), zA_2, if_neg (by omega)]))
    have htk : (zA (zA (zA σ (r + 15) b (nI (wsm P (mleave P C p f) b n))) (r + 17 + 1) f (C.2.2.2.2.2.1 f + 1)) (r + 1) p 4).1 r 13 = nI C.2.2.2.2.2.2.2.1 := h.2.2.2.1
    rw [htk]
    have h2 := RB_st h1 hF (σ' := zA (zA (zA (zA σ (r + 15) b (nI (wsm P (mleave P C p f) b n))) (r + 17 + 1) f (C.2.2.2.2.2.1 f + 1)) (r + 1) p 4) (r + 3) p (nI C.2.2.2.2.2.2.2.1)) (Fr_A (Fr_A h1.1 (by omega) (by omega)) (by omega) (by omega)) (p := p) hp 4 f C.2.2.2.2.2.2.2.1 (by rw [zA_2, if_neg (by omega), zA_2, if_pos ⟨rfl, rfl⟩]; rfl) (fun hh => by omega) (fun _ => by rw [zA_2, if_pos ⟨rfl, rfl⟩]) (fun k' j hk hj => by rw [zA_2, if_neg (by omega), zA_2, if_neg (by omega)]) rfl
    have ee : mleave P C p f = (fu C.1 p 4, fu C.2.1 p f, fu C.2.2.1 p C.2.2.2.2.2.2.2.1, C.2.2.2.1, C.2.2.2.2.1, fu C.2.2.2.2.2.1 f (C.2.2.2.2.2.1 f + 1), C.2.2.2.2.2.2) := by unfold mleave; rw [if_pos e]
    rw [ee] at h2 ⊢
    exact h2
  · have ee : mleave P C p f = mjoin (C.1, C.2.1, C.2.2.1, C.2.2.2.1, C.2.2.2.2.1, fu C.2.2.2.2.2.1 f (C.2.2.2.2.2.1 f + 1), C.2.2.2.2.2.2) p f := by unfold mleave; rw [if_neg e]
    refine s_stand hF hn h1 g hp hf (by show C.1 p ≠ 1; rw [hs]; decide) (fun σ' h2 h3 => k σ' ?_ (hwb σ' h3))
    rw [ee]
    exact h2
end SOPS

/-! THE START: every cell is made, and both sides hold the smallest house -/
theorem RB_zero {σ : zS} {F : Nat} (hF : F ≤ 8) (h : ∀ a j, 10 ≤ a → a < 30 → σ.2 a j = 0) (h3 : σ.1 10 13 = 0) (h4 : σ.1 10 14 = 0) (h5 : σ.1 10 15 = 0) (h6 : σ.1 10 16 = 0) : RB σ σ 10 0 F 0 C00 := by
  refine ⟨⟨fun _ _ _ => rfl, fun _ _ _ => rfl, rfl, rfl⟩, fun p hp => absurd hp (Nat.not_lt_zero p), fun f hf => ⟨?_, ?_, ?_, fun i q hq => absurd hq (by show ¬ ([] : List Nat)[i]? = some q; simp), ?_⟩, h3, h4, h5, h6, fun p hp hp2 => ⟨h _ _ (by omega) (by omega), h _ _ (by omega) (by omega)⟩⟩
  · rw [h _ _ (by omega) (by omega)]
    rfl
  · rw [h _ _ (by omega) (by omega)]
    rfl
  · rw [h _ _ (by omega) (by omega)]
    rfl
  · rw [h _ _ (by omega) (by omega)]
    rfl
/-- rows are 0, ints are f, and from cell k on all is 0 -/
def zZ (σ : zS) (f : Nat → Nat → Int32) (k : Nat) : Prop := (∀ a j, σ.2 a j = 0) ∧ (∀ a j, σ.1 a j = f a j) ∧ ∀ a j, k ≤ a → f a j = 0
theorem zZ_S {σ : zS} {f : Nat → Nat → Int32} {k k' : Nat} {P : zS → Prop} (z : zZ σ f k) (hk : k ≤ k') (h : ∀ t, zZ t f k → P t) : zlet (zS0 σ k') P := by
  refine h _ ⟨fun a j => ?_, fun a j => ?_, z.2.2⟩
  · show (if k' ≤ a then 0 else σ.2 a j) = 0
    rw [z.1]
    split <;> rfl
  · show (if k' ≤ a then 0 else σ.1 a j) = f a j
    rw [z.2.1]
    split
    · next e => rw [z.2.2 a j (by omega)]
    · rfl
theorem zZ_I {σ : zS} {f : Nat → Nat → Int32} {k r c k' : Nat} {v : Int32} {P : zS → Prop} (z : zZ σ f k) (hk : k ≤ k') (hr : r < k') (h : ∀ t g, zZ t g k' → g r c = v → (∀ a j, ¬ (a = r ∧ j = c) → g a j = f a j) → P t) : zlet (zI σ r c v) P := by
  refine h _ (fun a j => if a = r ∧ j = c then v else f a j) ⟨z.1, fun a j => ?_, fun a j ha => ?_⟩ (if_pos ⟨rfl, rfl⟩) (fun a j hn => if_neg hn)
  · rw [zI_1, z.2.1]
  · show (if a = r ∧ j = c then v else f a j) = 0
    rw [if_neg (by omega)]
    exact z.2.2 a j (by omega)
theorem i_X4 {σ : zS} {f : Nat → Nat → Int32} {Q : Int32 → zS → Prop} (z : zZ σ f 0) (k : ∀ t, zZ t f 0 → Q 0 t) : w_X4_init σ Q := by
  unfold w_X4_init
  refine zZ_S z (by decide) (fun t z => ?_)
  refine zZ_S z (by decide) (fun t z => ?_)
  refine zZ_S z (by decide) (fun t z => ?_)
  refine zZ_S z (by decide) (fun t z => ?_)
  refine zZ_S z (by decide) (fun t z => ?_)
  refine zZ_S z (by decide) (fun t z => ?_)
  refine zZ_S z (by decide) (fun t z => ?_)
  exact k t z
theorem i_X2 {σ : zS} {f : Nat → Nat → Int32} {Q : Int32 → zS → Prop} (z : zZ σ f 0) (k : ∀ t g, zZ t g 10 → g 9 0 = nI 2 → g 9 1 = nI 4 → g 9 2 = nI 3 → g 9 3 = nI 6 → g 9 4 = nI 24 → (∀ a j, a ≠ 9 → g a j = f a j) → Q 0 t) : w_X2_init 2 4 3 σ Q := by
  unfold w_X2_init
  refine zZ_I (k' := 10) z (by decide) (by decide) (fun t1 g1 z1 e1 n1 => ?_)
  refine zZ_I (k' := 10) z1 (by decide) (by decide) (fun t2 g2 z2 e2 n2 => ?_)
  refine zZ_I (k' := 10) z2 (by decide) (by decide) (fun t3 g3 z3 e3 n3 => ?_)
  refine zZ_I (k' := 10) z3 (by decide) (by decide) (fun t4 g4 z4 e4 n4 => ?_)
  have e93 : t4.1 9 3 = 6 := by
    rw [z4.2.1, e4]
    decide
  rw [e93]
  refine zZ_I (k' := 10) z4 (by decide) (by decide) (fun t5 g5 z5 e5 n5 => ?_)
  refine k t5 g5 z5 ?_ ?_ ?_ ?_ ?_ (fun a j ha => ?_)
  · rw [n5 _ _ (by decide), n4 _ _ (by decide), n3 _ _ (by decide), n2 _ _ (by decide), e1]
    decide
  · rw [n5 _ _ (by decide), n4 _ _ (by decide), n3 _ _ (by decide), e2]
    decide
  · rw [n5 _ _ (by decide), n4 _ _ (by decide), e3]
    decide
  · rw [n5 _ _ (by decide), e4]
    decide
  · rw [e5]
    decide
  · rw [n5 _ _ (by omega), n4 _ _ (by omega), n3 _ _ (by omega), n2 _ _ (by omega), n1 _ _ (by omega)]
theorem i_X0a {σ : zS} {f : Nat → Nat → Int32} {Q : Int32 → zS → Prop} {x3 : Int32} (z : zZ σ f 10) (k : ∀ t g, zZ t g 11 → g 10 11 = x3 → g 10 12 = -1 → (∀ a j, ¬ (a = 10 ∧ (j = 11 ∨ j = 12)) → g a j = f a j) → Q 0 t) : w_X0_init_10 x3 σ Q := by
  unfold w_X0_init_10
  refine zZ_S z (by decide) (fun t z => ?_)
  refine zZ_S z (by decide) (fun t z => ?_)
  refine zZ_S z (by decide) (fun t z => ?_)
  refine zZ_S z (by decide) (fun t z => ?_)
  refine zZ_S z (by decide) (fun t z => ?_)
  refine zZ_S z (by decide) (fun t z => ?_)
  refine zZ_S z (by decide) (fun t z => ?_)
  refine zZ_S z (by decide) (fun t z => ?_)
  refine zZ_S z (by decide) (fun t z => ?_)
  refine zZ_I (k' := 11) z (by decide) (by decide) (fun t1 g1 z1 e1 n1 => ?_)
  refine zZ_I (k' := 11) z1 (by decide) (by decide) (fun t2 g2 z2 e2 n2 => ?_)
  exact k t2 g2 z2 (by rw [n2 _ _ (by decide), e1]) e2 (fun a j ha => by rw [n2 _ _ (by omega), n1 _ _ (by omega)])
theorem i_X0b {σ : zS} {f : Nat → Nat → Int32} {Q : Int32 → zS → Prop} {x3 : Int32} (z : zZ σ f 11) (k : ∀ t g, zZ t g 31 → (∀ a j, a ≠ 30 → g a j = f a j) → Q 0 t) : w_X0_init_30 x3 σ Q := by
  unfold w_X0_init_30
  refine zZ_S z (by decide) (fun t z => ?_)
  refine zZ_S z (by decide) (fun t z => ?_)
  refine zZ_S z (by decide) (fun t z => ?_)
  refine zZ_S z (by decide) (fun t z => ?_)
  refine zZ_S z (by decide) (fun t z => ?_)
  refine zZ_S z (by decide) (fun t z => ?_)
  refine zZ_S z (by decide) (fun t z => ?_)
  refine zZ_S z (by decide) (fun t z => ?_)
  refine zZ_S z (by decide) (fun t z => ?_)
  refine zZ_I (k' := 31) z (by decide) (by decide) (fun t1 g1 z1 e1 n1 => ?_)
  refine zZ_I (k' := 31) z1 (by decide) (by decide) (fun t2 g2 z2 e2 n2 => ?_)
  exact k t2 g2 z2 (fun a j ha => by rw [n2 _ _ (by omega), n1 _ _ (by omega)])
theorem h0_sys {Q : Int32 → zS → Prop} (k : ∀ σ : zS, σ.1 9 0 = nI 2 → σ.1 9 1 = nI 4 → σ.1 9 2 = nI 3 → σ.1 9 3 = nI 6 → σ.1 9 4 = nI 24 → σ.1 10 11 = 1 → σ.1 10 12 = -1 → (∀ a j, a ≠ 9 → a ≠ 30 → ¬ (a = 10 ∧ (j = 11 ∨ j = 12)) → σ.1 a j = 0) → (∀ a j, a ≠ 55 → a ≠ 56 → σ.2 a j = 0) → (∀ f, f < 8 → σ.2 55 f = -1) → (∀ f, f < 8 → σ.2 56 f = -1) → Q 0 σ) : w_X6_init zσ0 Q := by
  have z : zZ zσ0 (fun _ _ => 0) 0 := ⟨fun _ _ => rfl, fun _ _ => rfl, fun _ _ _ => rfl⟩
  unfold w_X6_init
  refine zZ_S z (by decide) (fun t1 z1 => ?_)
  refine i_X4 z1 (fun t2 z2 => ?_)
  refine zZ_S z2 (by decide) (fun t3 z3 => ?_)
  refine i_X2 z3 (fun t4 g4 z4 p0 p1 p2 p3 p4 q4 => ?_)
  refine zZ_S z4 (by decide) (fun t5 z5 => ?_)
  refine i_X0a z5 (fun t6 g6 z6 r1 r2 q6 => ?_)
  refine zZ_S z6 (by decide) (fun t7 z7 => ?_)
  refine i_X0b z7 (fun t8 g8 z8 q8 => ?_)
  refine zZ_S z8 (by decide) (fun t9 z9 => ?_)
  unfold w_X1_init
  refine zZ_S z9 (by decide) (fun t10 z10 => ?_)
  refine zZ_S z10 (by decide) (fun t11 z11 => ?_)
  refine zZ_S z11 (by decide) (fun t12 z12 => ?_)
  unfold w_X5_init
  refine zZ_S z12 (by decide) (fun t13 z13 => ?_)
  unfold w_X5_forget
  refine ⟨vpk (k := 0) rfl (by decide) (by decide), s_fill _ 8 _ (by decide) (fun σ2 i2 r2' => ⟨vpk (k := 1) rfl (by decide) (by decide), s_fill _ 8 _ (by decide) (fun σ3 i3 r3' => ?_)⟩)⟩
  rw [cl0] at r2'
  rw [cl1] at r3'
  have rz : ∀ a j, a ≠ 55 → a ≠ 56 → σ3.2 a j = 0 := fun a j h5 h6 => by
    rw [r3', if_neg (by omega), r2', if_neg (by omega)]
    exact z13.1 a j
  have e55 : ∀ f, f < 8 → σ3.2 55 f = -1 := fun f hf => by rw [r3', if_neg (by omega), r2', if_pos ⟨rfl, hf⟩]
  have e56 : ∀ f, f < 8 → σ3.2 56 f = -1 := fun f hf => by rw [r3', if_pos ⟨rfl, hf⟩]
  have iz : ∀ a j, σ3.1 a j = g8 a j := fun a j => by rw [i3, i2, z13.2.1]
  have i0 : ∀ a j, 31 ≤ a → σ3.1 a j = 0 := fun a j ha => by rw [iz, z8.2.2 a j ha]
  unfold w_X3_init
  rw [zlet_def, zlet_def, zlet_def]
  have ints : ∀ a j, (zS0 (zS0 (zS0 σ3 57) 58) 62).1 a j = g8 a j := fun a j => by
    show (if 62 ≤ a then 0 else if 58 ≤ a then 0 else if 57 ≤ a then 0 else σ3.1 a j) = _
    by_cases ha : 57 ≤ a
    · rw [z8.2.2 a j (by omega)]
      split
      · rfl
      · split
        · rfl
        · first | rfl | rw [if_pos ha]
    · rw [if_neg (by omega), if_neg (by omega), if_neg ha, iz]
  have rws : ∀ a j, a < 57 → (zS0 (zS0 (zS0 σ3 57) 58) 62).2 a j = σ3.2 a j := fun a j ha => by
    show (if 62 ≤ a then 0 else if 58 ≤ a then 0 else if 57 ≤ a then 0 else σ3.2 a j) = _
    rw [if_neg (by omega), if_neg (by omega), if_neg (by omega)]
  have rws2 : ∀ a j, 57 ≤ a → (zS0 (zS0 (zS0 σ3 57) 58) 62).2 a j = 0 := fun a j ha => by
    show (if 62 ≤ a then 0 else if 58 ≤ a then 0 else if 57 ≤ a then 0 else σ3.2 a j) = _
    split
    · rfl
    · split
      · rfl
      · first | rfl | rw [if_pos ha]
  generalize zS0 (zS0 (zS0 σ3 57) 58) 62 = σ4 at *
  refine k σ4 ?_ ?_ ?_ ?_ ?_ ?_ ?_ (fun a j h9 h30 h10 => ?_) (fun a j h5 h6 => ?_) (fun f hf => ?_) (fun f hf => ?_)
  · rw [ints, q8 _ _ (by decide), q6 _ _ (by decide), p0]
  · rw [ints, q8 _ _ (by decide), q6 _ _ (by decide), p1]
  · rw [ints, q8 _ _ (by decide), q6 _ _ (by decide), p2]
  · rw [ints, q8 _ _ (by decide), q6 _ _ (by decide), p3]
  · rw [ints, q8 _ _ (by decide), q6 _ _ (by decide), p4]
  · rw [ints, q8 _ _ (by decide), r1]
  · rw [ints, q8 _ _ (by decide), r2]
  · rw [ints, q8 _ _ h30, q6 _ _ h10, q4 _ _ h9]
  · by_cases ha : 57 ≤ a
    · exact rws2 a j ha
    · rw [rws a j (by omega)]
      exact rz a j h5 h6
  · rw [rws _ _ (by decide)]
    exact e55 f hf
  · rw [rws _ _ (by decide)]
    exact e56 f hf
theorem h0_ref {Q : Int32 → zS → Prop} (k : ∀ (τ' : zS) (m' : Nat → Int32), τ'.1 0 0 = nI 2 → τ'.1 0 1 = nI 4 → τ'.1 0 2 = nI 3 → τ'.1 0 3 = nI 1 → τ'.1 0 4 = -1 → (∀ j, 5 ≤ j → τ'.1 0 j = 0) → RM m' 0 2 C00 → (∀ x, x < 16 → τ'.2 10 x = -1) → Q 0 (zm τ' m')) : w_X7_init zσ0 Q := by
  have y : zZ zσ0 (fun _ _ => 0) 0 := ⟨fun _ _ => rfl, fun _ _ => rfl, fun _ _ _ => rfl⟩
  unfold w_X7_init
  refine zZ_I (k' := 1) y (by decide) (by decide) (fun t1 g1 z1 e1 n1 => ?_)
  refine zZ_I (k' := 1) z1 (by decide) (by decide) (fun t2 g2 z2 e2 n2 => ?_)
  refine zZ_I (k' := 1) z2 (by decide) (by decide) (fun t3 g3 z3 e3 n3 => ?_)
  refine zZ_I (k' := 1) z3 (by decide) (by decide) (fun t4 g4 z4 e4 n4 => ?_)
  refine zZ_I (k' := 1) z4 (by decide) (by decide) (fun t5 g5 z5 e5 n5 => ?_)
  refine zZ_S z5 (by decide) (fun t y => ?_)
  refine zZ_S y (by decide) (fun t y => ?_)
  refine zZ_S y (by decide) (fun t y => ?_)
  refine zZ_S y (by decide) (fun t y => ?_)
  refine zZ_S y (by decide) (fun t y => ?_)
  refine zZ_S y (by decide) (fun t y => ?_)
  refine zZ_S y (by decide) (fun t y => ?_)
  refine zZ_S y (by decide) (fun t y => ?_)
  refine zZ_S y (by decide) (fun t y => ?_)
  refine zZ_S y (by decide) (fun t y => ?_)
  refine zZ_S y (by decide) (fun t y => ?_)
  refine zZ_S y (by decide) (fun t y => ?_)
  rw [← zm_self t]
  refine m_begins (n := 0) (F := 2) (by decide) (by decide) (fun m' hm' => ⟨17, ?_⟩)
  refine m_init132 (fun τ' e1' e2' => ?_)
  refine k τ' m' ?_ ?_ ?_ ?_ ?_ (fun j hj => ?_) hm' e2'
  · rw [e1', y.2.1, n5 _ _ (by decide), n4 _ _ (by decide), n3 _ _ (by decide), n2 _ _ (by decide), e1]
    decide
  · rw [e1', y.2.1, n5 _ _ (by decide), n4 _ _ (by decide), n3 _ _ (by decide), e2]
    decide
  · rw [e1', y.2.1, n5 _ _ (by decide), n4 _ _ (by decide), e3]
    decide
  · rw [e1', y.2.1, n5 _ _ (by decide), e4]
    decide
  · rw [e1', y.2.1, e5]
  · rw [e1', y.2.1, n5 _ _ (by omega), n4 _ _ (by omega), n3 _ _ (by omega), n2 _ _ (by omega), n1 _ _ (by omega)]
theorem h0_inv : w_X6_init zσ0 (fun _ σ => w_X7_init zσ0 (fun _ τ => Inv σ τ)) := by
  refine h0_sys (fun σ p0 p1 p2 p3 p4 r1 r2 iz rz e55 e56 => ?_)
  refine h0_ref (fun τ' m' t0 t1 t2 t3 t4 t5 hm tl => ?_)
  have hH : GH 2 4 3 1 := ⟨by decide, by decide, by decide, by decide, by decide, by decide, by decide, by decide, by decide⟩
  refine Inv_new hH σ τ' m' p0 p1 p2 p3 p4 (iz _ _ (by decide) (by decide) (by decide)) ?_ r2 ?_ (fun b hb => rz _ _ (by decide) (by decide)) t0 t1 t2 t3 t4 (t5 _ (by decide)) hm e55 e56 tl (iz _ _ (by decide) (by decide) (by decide)) (t5 _ (by decide))
  · rw [r1]
    decide
  · exact RB_zero (by decide) (fun a j h1 h2 => rz a j (by omega) (by omega)) (iz _ _ (by decide) (by decide) (by decide)) (iz _ _ (by decide) (by decide) (by decide)) (iz _ _ (by decide) (by decide) (by decide)) (iz _ _ (by decide) (by decide) (by decide))

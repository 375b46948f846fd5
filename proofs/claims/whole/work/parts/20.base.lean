/-! THE PURE PART: numbers -/
theorem zix {k p : Nat} {c : Int32} (hc : c = nI k) (h : k + p < 2 ^ 31) : (c + nI p).toNatClampNeg = k + p := by rw [hc, nI_add, nI_clamp h]
theorem zvp {k p n : Nat} {c : Int32} (hc : c = nI k) (h : k + p < n) (hn : n < 2 ^ 31) : vp_in (c + nI p) n := by rw [hc, nI_add]; exact vp_in_nI h hn
theorem zcl {p : Nat} (h : p < 30) : (nI p).toNatClampNeg = p := nI_clamp (by omega)
theorem zvi {p n : Nat} (h : p < n) (hn : n < 2 ^ 31) : vp_in (nI p) n := vp_in_nI h hn
theorem ix5 {p : Nat} (h : p < 30) : ((5 : Int32) + nI p).toNatClampNeg = 5 + p := zix rfl (by omega)
theorem ix35 {p : Nat} (h : p < 30) : ((35 : Int32) + nI p).toNatClampNeg = 35 + p := zix rfl (by omega)
theorem ix65 {p : Nat} (h : p < 30) : ((65 : Int32) + nI p).toNatClampNeg = 65 + p := zix rfl (by omega)
theorem ix95 {p : Nat} (h : p < 30) : ((95 : Int32) + nI p).toNatClampNeg = 95 + p := zix rfl (by omega)
theorem ix125 {p : Nat} (h : p < 8) : ((125 : Int32) + nI p).toNatClampNeg = 125 + p := zix rfl (by omega)
theorem ix133 {p : Nat} (h : p < 8) : ((133 : Int32) + nI p).toNatClampNeg = 133 + p := zix rfl (by omega)
theorem ix141 {p : Nat} (h : p < 8) : ((141 : Int32) + nI p).toNatClampNeg = 141 + p := zix rfl (by omega)
theorem ixL {f i : Nat} (hf : f < 8) (hi : i < 30) : (((149 : Int32) + ((30 : Int32) * nI f)) + nI i).toNatClampNeg = 149 + 30 * f + i := by
  rw [show (149 : Int32) = nI 149 from rfl, show (30 : Int32) = nI 30 from rfl, pk_mul, nI_add, nI_add, nI_clamp (by omega)]
theorem vp5 {p : Nat} (h : p < 30) : vp_in ((5 : Int32) + nI p) 389 := zvp (k := 5) rfl (by omega) (by decide)
theorem vp35 {p : Nat} (h : p < 30) : vp_in ((35 : Int32) + nI p) 389 := zvp (k := 35) rfl (by omega) (by decide)
theorem vp65 {p : Nat} (h : p < 30) : vp_in ((65 : Int32) + nI p) 389 := zvp (k := 65) rfl (by omega) (by decide)
theorem vp95 {p : Nat} (h : p < 30) : vp_in ((95 : Int32) + nI p) 389 := zvp (k := 95) rfl (by omega) (by decide)
theorem vp125 {p : Nat} (h : p < 8) : vp_in ((125 : Int32) + nI p) 389 := zvp (k := 125) rfl (by omega) (by decide)
theorem vp133 {p : Nat} (h : p < 8) : vp_in ((133 : Int32) + nI p) 389 := zvp (k := 133) rfl (by omega) (by decide)
theorem vp141 {p : Nat} (h : p < 8) : vp_in ((141 : Int32) + nI p) 389 := zvp (k := 141) rfl (by omega) (by decide)
theorem vpL {f i : Nat} (hf : f < 8) (hi : i < 30) : vp_in (((149 : Int32) + ((30 : Int32) * nI f)) + nI i) 389 := by
  rw [show (149 : Int32) = nI 149 from rfl, show (30 : Int32) = nI 30 from rfl, pk_mul, nI_add, nI_add]
  exact vp_in_nI (by omega) (by decide)
theorem vpk {k n : Nat} {c : Int32} (hc : c = nI k) (h : k < n) (hn : n < 2 ^ 31) : vp_in c n := by rw [hc]; exact vp_in_nI h hn
theorem vpc0 : vp_in (0 : Int32) 389 := vpk (k := 0) rfl (by decide) (by decide)
theorem vpc1 : vp_in (1 : Int32) 389 := vpk (k := 1) rfl (by decide) (by decide)
theorem vpc2 : vp_in (2 : Int32) 389 := vpk (k := 2) rfl (by decide) (by decide)
theorem vpc3 : vp_in (3 : Int32) 389 := vpk (k := 3) rfl (by decide) (by decide)
theorem vpc4 : vp_in (4 : Int32) 389 := vpk (k := 4) rfl (by decide) (by decide)
theorem cl0 : (0 : Int32).toNatClampNeg = 0 := by decide
theorem cl1 : (1 : Int32).toNatClampNeg = 1 := by decide
theorem cl2 : (2 : Int32).toNatClampNeg = 2 := by decide
theorem cl3 : (3 : Int32).toNatClampNeg = 3 := by decide
theorem cl4 : (4 : Int32).toNatClampNeg = 4 := by decide
/-! the store's words -/
theorem zI_1 (σ : zS) (r k : Nat) (v : Int32) (a b : Nat) : (zI σ r k v).1 a b = if a = r ∧ b = k then v else σ.1 a b := rfl
theorem zI_2 (σ : zS) (r k : Nat) (v : Int32) : (zI σ r k v).2 = σ.2 := rfl
theorem zA_1 (σ : zS) (r k : Nat) (v : Int32) : (zA σ r k v).1 = σ.1 := rfl
theorem zA_2 (σ : zS) (r k : Nat) (v : Int32) (a b : Nat) : (zA σ r k v).2 a b = if a = r ∧ b = k then v else σ.2 a b := rfl
theorem zlet_def {α : Type} (x : α) (f : α → Prop) : zlet x f = f x := rfl
/-! branches of a picture -/
theorem zif {c : Prop} [Decidable c] {Q : Int32 → Prop} {a b : Int32} : ((c → Q a) ∧ (¬ c → Q b)) ↔ Q (if c then a else b) := by
  by_cases h : c <;> simp [h]
theorem z01_0 : ((0 : Int32) = 0 ∨ (0 : Int32) = 1) := Or.inl rfl
theorem z01_1 : ((1 : Int32) = 0 ∨ (1 : Int32) = 1) := Or.inr rfl
/-- a Boolean as the machine has it -/
def zB01 (c : Bool) : Int32 := if c then 1 else 0
theorem zB01_or (c : Bool) : zB01 c = 0 ∨ zB01 c = 1 := by cases c <;> simp [zB01]
theorem zB01_0 (c : Bool) : (zB01 c = 0) = (c = false) := by cases c <;> simp [zB01]
theorem zB01_n (c : Bool) : (¬ zB01 c = 0) = (c = true) := by cases c <;> simp [zB01]
/-! the reference's leaves -/
section REFL
variable {τ : zS} {Q : Int32 → zS → Prop}
theorem r_in (x a b : Int32) : w_X7_in x a b τ Q ↔ Q (zB01 (decide (a ≤ x ∧ x ≤ b))) τ := by
  unfold w_X7_in zB01
  by_cases h1 : x < a
  · have : ¬ (a ≤ x ∧ x ≤ b) := fun h => by rw [Int32.lt_iff_toInt_lt] at h1; rw [Int32.le_iff_toInt_le] at h; omega
    simp [h1, this]
  · have h1' : a ≤ x := by rw [Int32.lt_iff_toInt_lt] at h1; rw [Int32.le_iff_toInt_le]; omega
    by_cases h2 : b < x
    · have : ¬ (a ≤ x ∧ x ≤ b) := fun h => by rw [Int32.lt_iff_toInt_lt] at h2; rw [Int32.le_iff_toInt_le, Int32.le_iff_toInt_le] at h; omega
      simp [h1, h2, this]
    · have : a ≤ x ∧ x ≤ b := ⟨h1', by rw [Int32.lt_iff_toInt_lt] at h2; rw [Int32.le_iff_toInt_le]; omega⟩
      simp [h1, h2, this]
theorem r_isFloor (x : Int32) : w_X7_isFloor x τ Q ↔ Q (zB01 (decide (0 ≤ x ∧ x ≤ τ.1 0 0 - 1))) τ := by
  unfold w_X7_isFloor
  rw [r_in]
  simp [zB01_or]
theorem r_isPerson (x : Int32) : w_X7_isPerson x τ Q ↔ Q (zB01 (decide (0 ≤ x ∧ x ≤ τ.1 0 5 - 1))) τ := by
  unfold w_X7_isPerson
  rw [r_in]
  simp [zB01_or]
theorem r_boxes : w_X7_boxes τ Q ↔ Q (2 * τ.1 0 0 + 2) τ := Iff.rfl
theorem r_isAside (x : Int32) : w_X7_isAside x τ Q ↔ Q (zB01 (decide (x = τ.1 0 0 ∨ x = 2 * τ.1 0 0 + 1))) τ := by
  unfold w_X7_isAside w_X7_isAside_J20 zB01
  by_cases h1 : x = τ.1 0 0 <;> by_cases h2 : x = 2 * τ.1 0 0 + 1 <;> simp [h1, h2]
theorem r_floorOf (x : Int32) : w_X7_floorOf x τ Q ↔ Q (if τ.1 0 0 ≤ x then 2 * τ.1 0 0 - x else x) τ := by
  unfold w_X7_floorOf
  exact zif (Q := fun v => Q v τ)
theorem r_rides {p : Nat} (hp : p < 30) (x : Int32) : w_X7_rides (nI p) x τ Q ↔ Q (zB01 (decide (τ.2 8 (5 + p) = 2 ∧ τ.2 8 (35 + p) = x))) τ := by
  unfold w_X7_rides zB01
  simp only [ix5 hp, ix35 hp, vp5 hp, vp35 hp, true_and, z01_0, z01_1]
  by_cases h1 : τ.2 8 (5 + p) = 2 <;> by_cases h2 : τ.2 8 (35 + p) = x <;> simp [h1, h2]
theorem r_joins {p f k : Nat} (hp : p < 30) (hf : f < 8) (hk : k < 30) (hm : τ.2 8 (141 + f) = nI k) : w_X7_joins (nI p) (nI f) τ Q ↔ Q 0 (zA (zA (zA (zA τ 8 (5 + p) 1) 8 (35 + p) (nI f)) 8 (149 + 30 * f + k) (nI p)) 8 (141 + f) (nI (k + 1))) := by
  unfold w_X7_joins
  have e1 : ¬ (141 + f = 35 + p) := by omega
  have e2 : ¬ (141 + f = 5 + p) := by omega
  have e3 : ¬ (141 + f = 149 + 30 * f + k) := by omega
  simp only [zlet_def, ix5 hp, ix35 hp, vp5 hp, vp35 hp, ix141 hf, vp141 hf, zA_2, true_and, hm, e1, e2, e3, and_false, if_false, ixL hf hk, vpL hf hk, nI_1]
end REFL

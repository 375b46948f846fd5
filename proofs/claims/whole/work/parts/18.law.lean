section LAWW
variable {p : Program} {l : Launch} {e : Env} {s : State} {m : MethodId} {below : List Frame} {meth : Method} {c : Code} {b L : Nat} {xs : Nat → Int32}
variable {pc pc' ax am ce sl : Nat} {rest : List Value} {D : va_G} {cy : zC} {σ τ : zS} {H : Heap} {locs : List Loc} {ls : Array Slot}
theorem law_sld {i : Int32} (C0 : lw_At p s m meth c b L xs) (hH : zLH s D cy ax am σ τ H locs) (hin : vp_in i L) (hd : zd cL_law pc .iaload 1 pc') (kk : W p l e room_1 s m #[Value.ref b] below meth c H locs ce sl (lw_Z below #[Value.ref b] s) (F0 m pc' ls (.int (xs i.toNatClampNeg) :: rest))) : W p l e room_1 s m #[Value.ref b] below meth c H locs ce sl (lw_Z below #[Value.ref b] s) (F0 m pc ls (.int i :: .ref b :: rest)) := by
  obtain ⟨hx, hb, hr, hml, hown, hts0, hX, hbl, hlocks, hgv⟩ := C0
  obtain ⟨hd, rfl⟩ := hd
  obtain ⟨ad, ad2, e1, e2, hP, hD, hS⟩ := hH
  exact va_sld hx hb hX hbl (Nat.not_le.mpr hbl) hS hin hd kk
theorem law_slen (C0 : lw_At p s m meth c b L xs) (hH : zLH s D cy ax am σ τ H locs) (hd : zd cL_law pc .arraylength 1 pc') (kk : W p l e room_1 s m #[Value.ref b] below meth c H locs ce sl (lw_Z below #[Value.ref b] s) (F0 m pc' ls (.int (nI L) :: rest))) : W p l e room_1 s m #[Value.ref b] below meth c H locs ce sl (lw_Z below #[Value.ref b] s) (F0 m pc ls (.ref b :: rest)) := by
  obtain ⟨hx, hb, hr, hml, hown, hts0, hX, hbl, hlocks, hgv⟩ := C0
  obtain ⟨hd, rfl⟩ := hd
  obtain ⟨ad, ad2, e1, e2, hP, hD, hS⟩ := hH
  exact va_slen hx hb hX hbl (Nat.not_le.mpr hbl) hS hd kk
theorem law_in {i k : Nat} (hL : L ≤ 4096) (h : i + k < L) : vp_in (nI i + nI k) L := by rw [nI_add]; exact vp_in_nI h (by omega)
theorem law_in0 {i : Nat} (hL : L ≤ 4096) (h : i < L) : vp_in (nI i) L := vp_in_nI h (by omega)
end LAWW
/-- house: both answer alike, and the invariant holds behind it -/
def zStep_house (Inv : zS → zS → Prop) : Prop := ∀ σ τ : zS, Inv σ τ → ∀ x1 x2 x3 x4 : Int32, w_X6_house x1 x2 x3 x4 σ (fun v σ2 => w_X7_house x1 x2 x3 x4 τ (fun v2 τ2 => v = v2 ∧ Inv σ2 τ2))
/-- person: both answer alike, and the invariant holds behind it -/
def zStep_person (Inv : zS → zS → Prop) : Prop := ∀ σ τ : zS, Inv σ τ → ∀ x1 x2 x3 x4 x5 x6 x7 : Int32, w_X6_person x1 x2 x3 x4 x5 x6 x7 σ (fun v σ2 => w_X7_person x1 x2 x3 x4 x5 x6 x7 τ (fun v2 τ2 => v = v2 ∧ Inv σ2 τ2))
/-- speed: both answer alike, and the invariant holds behind it -/
def zStep_speed (Inv : zS → zS → Prop) : Prop := ∀ σ τ : zS, Inv σ τ → ∀ x1 : Int32, w_X6_speed x1 σ (fun v σ2 => w_X7_speed x1 τ (fun v2 τ2 => v = v2 ∧ Inv σ2 τ2))
/-- anew: both answer alike, and the invariant holds behind it -/
def zStep_anew (Inv : zS → zS → Prop) : Prop := ∀ σ τ : zS, Inv σ τ → w_X6_anew  σ (fun v σ2 => w_X7_anew  τ (fun v2 τ2 => v = v2 ∧ Inv σ2 τ2))
/-- ticks: both answer alike, and the invariant holds behind it -/
def zStep_ticks (Inv : zS → zS → Prop) : Prop := ∀ σ τ : zS, Inv σ τ → ∀ x1 : Int32, w_X6_ticks x1 σ (fun v σ2 => w_X7_ticks x1 τ (fun v2 τ2 => v = v2 ∧ Inv σ2 τ2))
/-- stop: both answer alike, and the invariant holds behind it -/
def zStep_stop (Inv : zS → zS → Prop) : Prop := ∀ σ τ : zS, Inv σ τ → ∀ x1 : Int32, (x1 = 0 ∨ x1 = 1) → w_X6_stop x1 σ (fun v σ2 => w_X7_stop x1 τ (fun v2 τ2 => v = v2 ∧ Inv σ2 τ2))
/-- shut: both answer alike, and the invariant holds behind it -/
def zStep_shut (Inv : zS → zS → Prop) : Prop := ∀ σ τ : zS, Inv σ τ → ∀ x1 x2 : Int32, (x2 = 0 ∨ x2 = 1) → w_X6_shut x1 x2 σ (fun v σ2 => w_X7_shut x1 x2 τ (fun v2 τ2 => v = v2 ∧ Inv σ2 τ2))
/-- box: both answer alike, and the invariant holds behind it -/
def zStep_box (Inv : zS → zS → Prop) : Prop := ∀ σ τ : zS, Inv σ τ → ∀ x1 x2 : Int32, w_X6_box x1 x2 σ (fun v σ2 => w_X7_box x1 x2 τ (fun v2 τ2 => v = v2 ∧ Inv σ2 τ2))
/-- left: both answer alike, and the invariant holds behind it -/
def zStep_left (Inv : zS → zS → Prop) : Prop := ∀ σ τ : zS, Inv σ τ → w_X6_left  σ (fun v σ2 => w_X7_left  τ (fun v2 τ2 => v = v2 ∧ Inv σ2 τ2))
/-- about: both answer alike, and the invariant holds behind it -/
def zStep_about (Inv : zS → zS → Prop) : Prop := ∀ σ τ : zS, Inv σ τ → ∀ x1 x2 : Int32, w_X6_about x1 x2 σ (fun v σ2 => w_X7_about x1 x2 τ (fun v2 τ2 => v = v2 ∧ Inv σ2 τ2))
/-- stands: both answer alike, and the invariant holds behind it -/
def zStep_stands (Inv : zS → zS → Prop) : Prop := ∀ σ τ : zS, Inv σ τ → ∀ x1 x2 : Int32, w_X6_stands x1 x2 σ (fun v σ2 => w_X7_stands x1 x2 τ (fun v2 τ2 => v = v2 ∧ Inv σ2 τ2))
/-- safe: both answer alike, and the invariant holds behind it -/
def zStep_safe (Inv : zS → zS → Prop) : Prop := ∀ σ τ : zS, Inv σ τ → ∀ x1 : Int32, w_X6_safe x1 σ (fun v σ2 => w_X7_safe x1 τ (fun v2 τ2 => v = v2 ∧ Inv σ2 τ2))
/-- cost: both answer alike, and the invariant holds behind it -/
def zStep_cost (Inv : zS → zS → Prop) : Prop := ∀ σ τ : zS, Inv σ τ → ∀ x1 x2 : Int32, w_X6_cost x1 x2 σ (fun v σ2 => w_X7_cost x1 x2 τ (fun v2 τ2 => v = v2 ∧ Inv σ2 τ2))
/-- bestSpeed: both answer alike, and the invariant holds behind it -/
def zStep_bestSpeed (Inv : zS → zS → Prop) : Prop := ∀ σ τ : zS, Inv σ τ → w_X6_bestSpeed  σ (fun v σ2 => w_X7_bestSpeed  τ (fun v2 τ2 => v = v2 ∧ Inv σ2 τ2))
/-- bestStairs: both answer alike, and the invariant holds behind it -/
def zStep_bestStairs (Inv : zS → zS → Prop) : Prop := ∀ σ τ : zS, Inv σ τ → w_X6_bestStairs  σ (fun v σ2 => w_X7_bestStairs  τ (fun v2 τ2 => v = v2 ∧ Inv σ2 τ2))
/-- day: both answer alike, and the invariant holds behind it -/
def zStep_day (Inv : zS → zS → Prop) : Prop := ∀ σ τ : zS, Inv σ τ → ∀ x1 : Int32, w_X6_day x1 σ (fun v σ2 => w_X7_day x1 τ (fun v2 τ2 => v = v2 ∧ Inv σ2 τ2))
/-- wheel: both answer alike, and the invariant holds behind it -/
def zStep_wheel (Inv : zS → zS → Prop) : Prop := ∀ σ τ : zS, Inv σ τ → w_X6_wheel  σ (fun v σ2 => w_X7_wheel  τ (fun v2 τ2 => v = v2 ∧ Inv σ2 τ2))
/-- turn: both answer alike, and the invariant holds behind it -/
def zStep_turn (Inv : zS → zS → Prop) : Prop := ∀ σ τ : zS, Inv σ τ → ∀ x1 : Int32, w_X6_turn x1 σ (fun v σ2 => w_X7_turn x1 τ (fun v2 τ2 => v = v2 ∧ Inv σ2 τ2))
/-- counted: both answer alike, and the invariant holds behind it -/
def zStep_counted (Inv : zS → zS → Prop) : Prop := ∀ σ τ : zS, Inv σ τ → ∀ x1 x2 : Int32, w_X6_counted x1 x2 σ (fun v σ2 => w_X7_counted x1 x2 τ (fun v2 τ2 => v = v2 ∧ Inv σ2 τ2))
/-- tell: both answer alike, and the invariant holds behind it -/
def zStep_tell (Inv : zS → zS → Prop) : Prop := ∀ σ τ : zS, Inv σ τ → ∀ x1 x2 x3 : Int32, w_X6_tell x1 x2 x3 σ (fun v σ2 => w_X7_tell x1 x2 x3 τ (fun v2 τ2 => v = v2 ∧ Inv σ2 τ2))
/-- fits: both answer alike, and the invariant holds behind it -/
def zStep_fits (Inv : zS → zS → Prop) : Prop := ∀ σ τ : zS, Inv σ τ → ∀ x1 : Int32, w_X6_fits x1 σ (fun v σ2 => w_X7_fits x1 τ (fun v2 τ2 => v = v2 ∧ Inv σ2 τ2))
/-- wrong: both answer alike, and the invariant holds behind it -/
def zStep_wrong (Inv : zS → zS → Prop) : Prop := ∀ σ τ : zS, Inv σ τ → w_X6_wrong  σ (fun v σ2 => w_X7_wrong  τ (fun v2 τ2 => v = v2 ∧ Inv σ2 τ2))
/-- keep: both answer alike, and the invariant holds behind it -/
def zStep_keep (Inv : zS → zS → Prop) : Prop := ∀ σ τ : zS, Inv σ τ → w_X6_keep  σ (fun v σ2 => w_X7_keep  τ (fun v2 τ2 => v = v2 ∧ Inv σ2 τ2))
/-- beside: both answer alike, and the invariant holds behind it -/
def zStep_beside (Inv : zS → zS → Prop) : Prop := ∀ σ τ : zS, Inv σ τ → ∀ x1 x2 : Int32, w_X6_beside x1 x2 σ (fun v σ2 => w_X7_beside x1 x2 τ (fun v2 τ2 => v = v2 ∧ Inv σ2 τ2))
/-- count: both answer alike, and the invariant holds behind it -/
def zStep_count (Inv : zS → zS → Prop) : Prop := ∀ σ τ : zS, Inv σ τ → ∀ x1 : Int32, w_X6_count x1 σ (fun v σ2 => w_X7_count x1 τ (fun v2 τ2 => v = v2 ∧ Inv σ2 τ2))
set_option maxHeartbeats 4000000 in
set_option maxRecDepth 100000 in
theorem law_case_house {p : Program} {l : Launch} {e : Env} {s : State} {m : MethodId} {below : List Frame} {meth : Method} {c : Code} {b L : Nat} {xs : Nat → Int32} (hL : L ≤ 4096) (C0 : lw_At p s m meth c b L xs) {D : va_G} {cy : zC} (hK : va_K D vwCl (zty cy) s) (hns : zNs s) {Inv : zS → zS → Prop} (hst : zStep_house Inv) {ax am ce sl i : Nat} {σ τ : zS} {H : Heap} {locs : List Loc} {ls : Array Slot} (hi : i + 8 ≤ L) (hce : ce + 1 ≤ 600000) (hsl : sl + 5 ≤ 7302250) (hI : Inv σ τ) (hH : zLH s D cy ax am σ τ H locs) (hl : lv_has ls 4 [(0, .ref b), (1, .ref ax), (2, .ref am), (3, .int (nI i))])
    (kk : ∀ (σ τ : zS) (H : Heap) (locs : List Loc), Inv σ τ → zLH s D cy ax am σ τ H locs → W p l e room_1 s m #[Value.ref b] below meth c H locs (ce + 1) (sl + 5) (lw_Z below #[Value.ref b] s) (F0 m 869 ls [])) : W p l e room_1 s m #[Value.ref b] below meth c H locs ce sl (lw_Z below #[Value.ref b] s) (F0 m 148 ls []) := by
  have hx := C0.1
  have hb := C0.2.1
  refine lv_aload_n hx hb dL_law_148.1 rfl (lv_at hl 1 rfl) ?_
  refine lv_aload_n hx hb dL_law_149.1 rfl (lv_at hl 0 rfl) ?_
  refine lv_iload_n hx hb dL_law_150.1 rfl (lv_at hl 3 rfl) ?_
  refine lv_iconst hx hb dL_law_151.1 zi1 ?_
  refine lv_iadd hx hb dL_law_152.1 ?_
  refine law_sld C0 hH (law_in (k := 1) hL (by omega)) dL_law_153 ?_
  refine lv_aload_n hx hb dL_law_154.1 rfl (lv_at hl 0 rfl) ?_
  refine lv_iload_n hx hb dL_law_155.1 rfl (lv_at hl 3 rfl) ?_
  refine lv_iconst hx hb dL_law_156.1 zi2 ?_
  refine lv_iadd hx hb dL_law_157.1 ?_
  refine law_sld C0 hH (law_in (k := 2) hL (by omega)) dL_law_158 ?_
  refine lv_aload_n hx hb dL_law_159.1 rfl (lv_at hl 0 rfl) ?_
  refine lv_iload_n hx hb dL_law_160.1 rfl (lv_at hl 3 rfl) ?_
  refine lv_iconst hx hb dL_law_161.1 zi3 ?_
  refine lv_iadd hx hb dL_law_162.1 ?_
  refine law_sld C0 hH (law_in (k := 3) hL (by omega)) dL_law_163 ?_
  refine lv_aload_n hx hb dL_law_164.1 rfl (lv_at hl 0 rfl) ?_
  refine lv_iload_n hx hb dL_law_165.1 rfl (lv_at hl 3 rfl) ?_
  refine lv_iconst hx hb dL_law_166.1 zi4 ?_
  refine lv_iadd hx hb dL_law_167.1 ?_
  refine law_sld C0 hH (law_in (k := 4) hL (by omega)) dL_law_168 ?_
  have hw := hst σ τ hI (xs (nI i + (1 : Int32)).toNatClampNeg) (xs (nI i + (2 : Int32)).toNatClampNeg) (xs (nI i + (3 : Int32)).toNatClampNeg) (xs (nI i + (4 : Int32)).toNatClampNeg)
  refine law_callH C0 hK hns dL_law_169 mL_13 (c_X6_house hw) rfl (fun _ => rfl) hl.1 (Nat.le_of_ble_eq_true rfl) ⟨(Nat.le_of_ble_eq_true rfl), (Nat.le_of_ble_eq_true rfl)⟩ ⟨hce, hsl⟩ hH (fun v1 σ1 H1 locs1 hw hH => ?_)
  refine lv_aload_n hx hb dL_law_172.1 rfl (lv_at hl 2 rfl) ?_
  refine lv_aload_n hx hb dL_law_173.1 rfl (lv_at hl 0 rfl) ?_
  refine lv_iload_n hx hb dL_law_174.1 rfl (lv_at hl 3 rfl) ?_
  refine lv_iconst hx hb dL_law_175.1 zi1 ?_
  refine lv_iadd hx hb dL_law_176.1 ?_
  refine law_sld C0 hH (law_in (k := 1) hL (by omega)) dL_law_177 ?_
  refine lv_aload_n hx hb dL_law_178.1 rfl (lv_at hl 0 rfl) ?_
  refine lv_iload_n hx hb dL_law_179.1 rfl (lv_at hl 3 rfl) ?_
  refine lv_iconst hx hb dL_law_180.1 zi2 ?_
  refine lv_iadd hx hb dL_law_181.1 ?_
  refine law_sld C0 hH (law_in (k := 2) hL (by omega)) dL_law_182 ?_
  refine lv_aload_n hx hb dL_law_183.1 rfl (lv_at hl 0 rfl) ?_
  refine lv_iload_n hx hb dL_law_184.1 rfl (lv_at hl 3 rfl) ?_
  refine lv_iconst hx hb dL_law_185.1 zi3 ?_
  refine lv_iadd hx hb dL_law_186.1 ?_
  refine law_sld C0 hH (law_in (k := 3) hL (by omega)) dL_law_187 ?_
  refine lv_aload_n hx hb dL_law_188.1 rfl (lv_at hl 0 rfl) ?_
  refine lv_iload_n hx hb dL_law_189.1 rfl (lv_at hl 3 rfl) ?_
  refine lv_iconst hx hb dL_law_190.1 zi4 ?_
  refine lv_iadd hx hb dL_law_191.1 ?_
  refine law_sld C0 hH (law_in (k := 4) hL (by omega)) dL_law_192 ?_
  refine law_callM C0 hK hns dL_law_193 mL_17 (c_X7_house hw) rfl (fun _ => rfl) hl.1 (Nat.le_of_ble_eq_true rfl) ⟨(Nat.le_of_ble_eq_true rfl), (Nat.le_of_ble_eq_true rfl)⟩ ⟨hce, hsl⟩ hH (fun v2 τ1 H2 locs2 hw hH => ?_)
  refine lv_icmp_eq hx hb dL_law_196.1 dL_law_196.2.2 (fun _ => ?_) (fun h => absurd hw.1 h)
  exact kk _ _ _ _ hw.2 hH
set_option maxHeartbeats 4000000 in
set_option maxRecDepth 100000 in
theorem law_case_person {p : Program} {l : Launch} {e : Env} {s : State} {m : MethodId} {below : List Frame} {meth : Method} {c : Code} {b L : Nat} {xs : Nat → Int32} (hL : L ≤ 4096) (C0 : lw_At p s m meth c b L xs) {D : va_G} {cy : zC} (hK : va_K D vwCl (zty cy) s) (hns : zNs s) {Inv : zS → zS → Prop} (hst : zStep_person Inv) {ax am ce sl i : Nat} {σ τ : zS} {H : Heap} {locs : List Loc} {ls : Array Slot} (hi : i + 8 ≤ L) (hce : ce + 1 ≤ 600000) (hsl : sl + 5 ≤ 7302250) (hI : Inv σ τ) (hH : zLH s D cy ax am σ τ H locs) (hl : lv_has ls 4 [(0, .ref b), (1, .ref ax), (2, .ref am), (3, .int (nI i))])
    (kk : ∀ (σ τ : zS) (H : Heap) (locs : List Loc), Inv σ τ → zLH s D cy ax am σ τ H locs → W p l e room_1 s m #[Value.ref b] below meth c H locs (ce + 1) (sl + 5) (lw_Z below #[Value.ref b] s) (F0 m 869 ls [])) : W p l e room_1 s m #[Value.ref b] below meth c H locs ce sl (lw_Z below #[Value.ref b] s) (F0 m 201 ls []) := by
  have hx := C0.1
  have hb := C0.2.1
  refine lv_aload_n hx hb dL_law_201.1 rfl (lv_at hl 1 rfl) ?_
  refine lv_aload_n hx hb dL_law_202.1 rfl (lv_at hl 0 rfl) ?_
  refine lv_iload_n hx hb dL_law_203.1 rfl (lv_at hl 3 rfl) ?_
  refine lv_iconst hx hb dL_law_204.1 zi1 ?_
  refine lv_iadd hx hb dL_law_205.1 ?_
  refine law_sld C0 hH (law_in (k := 1) hL (by omega)) dL_law_206 ?_
  refine lv_aload_n hx hb dL_law_207.1 rfl (lv_at hl 0 rfl) ?_
  refine lv_iload_n hx hb dL_law_208.1 rfl (lv_at hl 3 rfl) ?_
  refine lv_iconst hx hb dL_law_209.1 zi2 ?_
  refine lv_iadd hx hb dL_law_210.1 ?_
  refine law_sld C0 hH (law_in (k := 2) hL (by omega)) dL_law_211 ?_
  refine lv_aload_n hx hb dL_law_212.1 rfl (lv_at hl 0 rfl) ?_
  refine lv_iload_n hx hb dL_law_213.1 rfl (lv_at hl 3 rfl) ?_
  refine lv_iconst hx hb dL_law_214.1 zi3 ?_
  refine lv_iadd hx hb dL_law_215.1 ?_
  refine law_sld C0 hH (law_in (k := 3) hL (by omega)) dL_law_216 ?_
  refine lv_aload_n hx hb dL_law_217.1 rfl (lv_at hl 0 rfl) ?_
  refine lv_iload_n hx hb dL_law_218.1 rfl (lv_at hl 3 rfl) ?_
  refine lv_iconst hx hb dL_law_219.1 zi4 ?_
  refine lv_iadd hx hb dL_law_220.1 ?_
  refine law_sld C0 hH (law_in (k := 4) hL (by omega)) dL_law_221 ?_
  refine lv_aload_n hx hb dL_law_222.1 rfl (lv_at hl 0 rfl) ?_
  refine lv_iload_n hx hb dL_law_223.1 rfl (lv_at hl 3 rfl) ?_
  refine lv_iconst hx hb dL_law_224.1 zi5 ?_
  refine lv_iadd hx hb dL_law_225.1 ?_
  refine law_sld C0 hH (law_in (k := 5) hL (by omega)) dL_law_226 ?_
  refine lv_aload_n hx hb dL_law_227.1 rfl (lv_at hl 0 rfl) ?_
  refine lv_iload_n hx hb dL_law_228.1 rfl (lv_at hl 3 rfl) ?_
  refine lv_bipush hx hb dL_law_229.1 zbp6 ?_
  refine lv_iadd hx hb dL_law_231.1 ?_
  refine law_sld C0 hH (law_in (k := 6) hL (by omega)) dL_law_232 ?_
  refine lv_aload_n hx hb dL_law_233.1 rfl (lv_at hl 0 rfl) ?_
  refine lv_iload_n hx hb dL_law_234.1 rfl (lv_at hl 3 rfl) ?_
  refine lv_bipush hx hb dL_law_235.1 zbp7 ?_
  refine lv_iadd hx hb dL_law_237.1 ?_
  refine law_sld C0 hH (law_in (k := 7) hL (by omega)) dL_law_238 ?_
  have hw := hst σ τ hI (xs (nI i + (1 : Int32)).toNatClampNeg) (xs (nI i + (2 : Int32)).toNatClampNeg) (xs (nI i + (3 : Int32)).toNatClampNeg) (xs (nI i + (4 : Int32)).toNatClampNeg) (xs (nI i + (5 : Int32)).toNatClampNeg) (xs (nI i + (6 : Int32)).toNatClampNeg) (xs (nI i + (7 : Int32)).toNatClampNeg)
  refine law_callC C0 hK hns dL_law_239 mL_18 (c_X6_person hw) rfl (fun _ => rfl) hl.1 (Nat.le_of_ble_eq_true rfl) ⟨(Nat.le_of_ble_eq_true rfl), (Nat.le_of_ble_eq_true rfl)⟩ ⟨by omega, by omega⟩ hH (fun v1 σ1 H1 locs1 hw hH => ?_)
  refine lv_aload_n hx hb dL_law_242.1 rfl (lv_at hl 2 rfl) ?_
  refine lv_aload_n hx hb dL_law_243.1 rfl (lv_at hl 0 rfl) ?_
  refine lv_iload_n hx hb dL_law_244.1 rfl (lv_at hl 3 rfl) ?_
  refine lv_iconst hx hb dL_law_245.1 zi1 ?_
  refine lv_iadd hx hb dL_law_246.1 ?_
  refine law_sld C0 hH (law_in (k := 1) hL (by omega)) dL_law_247 ?_
  refine lv_aload_n hx hb dL_law_248.1 rfl (lv_at hl 0 rfl) ?_
  refine lv_iload_n hx hb dL_law_249.1 rfl (lv_at hl 3 rfl) ?_
  refine lv_iconst hx hb dL_law_250.1 zi2 ?_
  refine lv_iadd hx hb dL_law_251.1 ?_
  refine law_sld C0 hH (law_in (k := 2) hL (by omega)) dL_law_252 ?_
  refine lv_aload_n hx hb dL_law_253.1 rfl (lv_at hl 0 rfl) ?_
  refine lv_iload_n hx hb dL_law_254.1 rfl (lv_at hl 3 rfl) ?_
  refine lv_iconst hx hb dL_law_255.1 zi3 ?_
  refine lv_iadd hx hb dL_law_256.1 ?_
  refine law_sld C0 hH (law_in (k := 3) hL (by omega)) dL_law_257 ?_
  refine lv_aload_n hx hb dL_law_258.1 rfl (lv_at hl 0 rfl) ?_
  refine lv_iload_n hx hb dL_law_259.1 rfl (lv_at hl 3 rfl) ?_
  refine lv_iconst hx hb dL_law_260.1 zi4 ?_
  refine lv_iadd hx hb dL_law_261.1 ?_
  refine law_sld C0 hH (law_in (k := 4) hL (by omega)) dL_law_262 ?_
  refine lv_aload_n hx hb dL_law_263.1 rfl (lv_at hl 0 rfl) ?_
  refine lv_iload_n hx hb dL_law_264.1 rfl (lv_at hl 3 rfl) ?_
  refine lv_iconst hx hb dL_law_265.1 zi5 ?_
  refine lv_iadd hx hb dL_law_266.1 ?_
  refine law_sld C0 hH (law_in (k := 5) hL (by omega)) dL_law_267 ?_
  refine lv_aload_n hx hb dL_law_268.1 rfl (lv_at hl 0 rfl) ?_
  refine lv_iload_n hx hb dL_law_269.1 rfl (lv_at hl 3 rfl) ?_
  refine lv_bipush hx hb dL_law_270.1 zbp6 ?_
  refine lv_iadd hx hb dL_law_272.1 ?_
  refine law_sld C0 hH (law_in (k := 6) hL (by omega)) dL_law_273 ?_
  refine lv_aload_n hx hb dL_law_274.1 rfl (lv_at hl 0 rfl) ?_
  refine lv_iload_n hx hb dL_law_275.1 rfl (lv_at hl 3 rfl) ?_
  refine lv_bipush hx hb dL_law_276.1 zbp7 ?_
  refine lv_iadd hx hb dL_law_278.1 ?_
  refine law_sld C0 hH (law_in (k := 7) hL (by omega)) dL_law_279 ?_
  refine law_callM C0 hK hns dL_law_280 mL_22 (c_X7_person hw) rfl (fun _ => rfl) hl.1 (Nat.le_of_ble_eq_true rfl) ⟨(Nat.le_of_ble_eq_true rfl), (Nat.le_of_ble_eq_true rfl)⟩ ⟨by omega, by omega⟩ hH (fun v2 τ1 H2 locs2 hw hH => ?_)
  refine lv_icmp_eq hx hb dL_law_283.1 dL_law_283.2.2 (fun _ => ?_) (fun h => absurd hw.1 h)
  refine W.widen (k := ce + 1) (n := sl + 5) (by omega) (by omega) ?_
  exact kk _ _ _ _ hw.2 hH
set_option maxHeartbeats 4000000 in
set_option maxRecDepth 100000 in
theorem law_case_speed {p : Program} {l : Launch} {e : Env} {s : State} {m : MethodId} {below : List Frame} {meth : Method} {c : Code} {b L : Nat} {xs : Nat → Int32} (hL : L ≤ 4096) (C0 : lw_At p s m meth c b L xs) {D : va_G} {cy : zC} (hK : va_K D vwCl (zty cy) s) (hns : zNs s) {Inv : zS → zS → Prop} (hst : zStep_speed Inv) {ax am ce sl i : Nat} {σ τ : zS} {H : Heap} {locs : List Loc} {ls : Array Slot} (hi : i + 8 ≤ L) (hce : ce + 1 ≤ 600000) (hsl : sl + 5 ≤ 7302250) (hI : Inv σ τ) (hH : zLH s D cy ax am σ τ H locs) (hl : lv_has ls 4 [(0, .ref b), (1, .ref ax), (2, .ref am), (3, .int (nI i))])
    (kk : ∀ (σ τ : zS) (H : Heap) (locs : List Loc), Inv σ τ → zLH s D cy ax am σ τ H locs → W p l e room_1 s m #[Value.ref b] below meth c H locs (ce + 1) (sl + 5) (lw_Z below #[Value.ref b] s) (F0 m 869 ls [])) : W p l e room_1 s m #[Value.ref b] below meth c H locs ce sl (lw_Z below #[Value.ref b] s) (F0 m 288 ls []) := by
  have hx := C0.1
  have hb := C0.2.1
  refine lv_aload_n hx hb dL_law_288.1 rfl (lv_at hl 1 rfl) ?_
  refine lv_aload_n hx hb dL_law_289.1 rfl (lv_at hl 0 rfl) ?_
  refine lv_iload_n hx hb dL_law_290.1 rfl (lv_at hl 3 rfl) ?_
  refine lv_iconst hx hb dL_law_291.1 zi1 ?_
  refine lv_iadd hx hb dL_law_292.1 ?_
  refine law_sld C0 hH (law_in (k := 1) hL (by omega)) dL_law_293 ?_
  have hw := hst σ τ hI (xs (nI i + (1 : Int32)).toNatClampNeg)
  refine law_callC C0 hK hns dL_law_294 mL_23 (c_X6_speed hw) rfl (fun _ => rfl) hl.1 (Nat.le_of_ble_eq_true rfl) ⟨(Nat.le_of_ble_eq_true rfl), (Nat.le_of_ble_eq_true rfl)⟩ ⟨by omega, by omega⟩ hH (fun v1 σ1 H1 locs1 hw hH => ?_)
  refine lv_aload_n hx hb dL_law_297.1 rfl (lv_at hl 2 rfl) ?_
  refine lv_aload_n hx hb dL_law_298.1 rfl (lv_at hl 0 rfl) ?_
  refine lv_iload_n hx hb dL_law_299.1 rfl (lv_at hl 3 rfl) ?_
  refine lv_iconst hx hb dL_law_300.1 zi1 ?_
  refine lv_iadd hx hb dL_law_301.1 ?_
  refine law_sld C0 hH (law_in (k := 1) hL (by omega)) dL_law_302 ?_
  refine law_callM C0 hK hns dL_law_303 mL_27 (c_X7_speed hw) rfl (fun _ => rfl) hl.1 (Nat.le_of_ble_eq_true rfl) ⟨(Nat.le_of_ble_eq_true rfl), (Nat.le_of_ble_eq_true rfl)⟩ ⟨by omega, by omega⟩ hH (fun v2 τ1 H2 locs2 hw hH => ?_)
  refine lv_icmp_eq hx hb dL_law_306.1 dL_law_306.2.2 (fun _ => ?_) (fun h => absurd hw.1 h)
  refine W.widen (k := ce + 1) (n := sl + 5) (by omega) (by omega) ?_
  exact kk _ _ _ _ hw.2 hH
set_option maxHeartbeats 4000000 in
set_option maxRecDepth 100000 in
theorem law_case_anew {p : Program} {l : Launch} {e : Env} {s : State} {m : MethodId} {below : List Frame} {meth : Method} {c : Code} {b L : Nat} {xs : Nat → Int32} (hL : L ≤ 4096) (C0 : lw_At p s m meth c b L xs) {D : va_G} {cy : zC} (hK : va_K D vwCl (zty cy) s) (hns : zNs s) {Inv : zS → zS → Prop} (hst : zStep_anew Inv) {ax am ce sl i : Nat} {σ τ : zS} {H : Heap} {locs : List Loc} {ls : Array Slot} (hi : i + 8 ≤ L) (hce : ce + 1 ≤ 600000) (hsl : sl + 5 ≤ 7302250) (hI : Inv σ τ) (hH : zLH s D cy ax am σ τ H locs) (hl : lv_has ls 4 [(0, .ref b), (1, .ref ax), (2, .ref am), (3, .int (nI i))])
    (kk : ∀ (σ τ : zS) (H : Heap) (locs : List Loc), Inv σ τ → zLH s D cy ax am σ τ H locs → W p l e room_1 s m #[Value.ref b] below meth c H locs (ce + 1) (sl + 5) (lw_Z below #[Value.ref b] s) (F0 m 869 ls [])) : W p l e room_1 s m #[Value.ref b] below meth c H locs ce sl (lw_Z below #[Value.ref b] s) (F0 m 311 ls []) := by
  have hx := C0.1
  have hb := C0.2.1
  refine lv_aload_n hx hb dL_law_311.1 rfl (lv_at hl 1 rfl) ?_
  have hw := hst σ τ hI 
  refine law_callC C0 hK hns dL_law_312 mL_28 (c_X6_anew hw) rfl (fun _ => rfl) hl.1 (Nat.le_of_ble_eq_true rfl) ⟨(Nat.le_of_ble_eq_true rfl), (Nat.le_of_ble_eq_true rfl)⟩ ⟨by omega, by omega⟩ hH (fun v1 σ1 H1 locs1 hw hH => ?_)
  refine lv_aload_n hx hb dL_law_315.1 rfl (lv_at hl 2 rfl) ?_
  refine law_callM C0 hK hns dL_law_316 mL_32 (c_X7_anew hw) rfl (fun _ => rfl) hl.1 (Nat.le_of_ble_eq_true rfl) ⟨(Nat.le_of_ble_eq_true rfl), (Nat.le_of_ble_eq_true rfl)⟩ ⟨by omega, by omega⟩ hH (fun v2 τ1 H2 locs2 hw hH => ?_)
  refine lv_icmp_eq hx hb dL_law_319.1 dL_law_319.2.2 (fun _ => ?_) (fun h => absurd hw.1 h)
  refine W.widen (k := ce + 1) (n := sl + 5) (by omega) (by omega) ?_
  exact kk _ _ _ _ hw.2 hH
set_option maxHeartbeats 4000000 in
set_option maxRecDepth 100000 in
theorem law_case_ticks {p : Program} {l : Launch} {e : Env} {s : State} {m : MethodId} {below : List Frame} {meth : Method} {c : Code} {b L : Nat} {xs : Nat → Int32} (hL : L ≤ 4096) (C0 : lw_At p s m meth c b L xs) {D : va_G} {cy : zC} (hK : va_K D vwCl (zty cy) s) (hns : zNs s) {Inv : zS → zS → Prop} (hst : zStep_ticks Inv) {ax am ce sl i : Nat} {σ τ : zS} {H : Heap} {locs : List Loc} {ls : Array Slot} (hi : i + 8 ≤ L) (hce : ce + 1 ≤ 600000) (hsl : sl + 5 ≤ 7302250) (hI : Inv σ τ) (hH : zLH s D cy ax am σ τ H locs) (hl : lv_has ls 4 [(0, .ref b), (1, .ref ax), (2, .ref am), (3, .int (nI i))])
    (kk : ∀ (σ τ : zS) (H : Heap) (locs : List Loc), Inv σ τ → zLH s D cy ax am σ τ H locs → W p l e room_1 s m #[Value.ref b] below meth c H locs (ce + 1) (sl + 5) (lw_Z below #[Value.ref b] s) (F0 m 869 ls [])) : W p l e room_1 s m #[Value.ref b] below meth c H locs ce sl (lw_Z below #[Value.ref b] s) (F0 m 324 ls []) := by
  have hx := C0.1
  have hb := C0.2.1
  refine lv_aload_n hx hb dL_law_324.1 rfl (lv_at hl 1 rfl) ?_
  refine lv_aload_n hx hb dL_law_325.1 rfl (lv_at hl 0 rfl) ?_
  refine lv_iload_n hx hb dL_law_326.1 rfl (lv_at hl 3 rfl) ?_
  refine lv_iconst hx hb dL_law_327.1 zi1 ?_
  refine lv_iadd hx hb dL_law_328.1 ?_
  refine law_sld C0 hH (law_in (k := 1) hL (by omega)) dL_law_329 ?_
  have hw := hst σ τ hI (xs (nI i + (1 : Int32)).toNatClampNeg)
  refine law_callC C0 hK hns dL_law_330 mL_33 (c_X6_ticks hw) rfl (fun _ => rfl) hl.1 (Nat.le_of_ble_eq_true rfl) ⟨(Nat.le_of_ble_eq_true rfl), (Nat.le_of_ble_eq_true rfl)⟩ ⟨by omega, by omega⟩ hH (fun v1 σ1 H1 locs1 hw hH => ?_)
  refine lv_aload_n hx hb dL_law_333.1 rfl (lv_at hl 2 rfl) ?_
  refine lv_aload_n hx hb dL_law_334.1 rfl (lv_at hl 0 rfl) ?_
  refine lv_iload_n hx hb dL_law_335.1 rfl (lv_at hl 3 rfl) ?_
  refine lv_iconst hx hb dL_law_336.1 zi1 ?_
  refine lv_iadd hx hb dL_law_337.1 ?_
  refine law_sld C0 hH (law_in (k := 1) hL (by omega)) dL_law_338 ?_
  refine law_callM C0 hK hns dL_law_339 mL_36 (c_X7_ticks hw) rfl (fun _ => rfl) hl.1 (Nat.le_of_ble_eq_true rfl) ⟨(Nat.le_of_ble_eq_true rfl), (Nat.le_of_ble_eq_true rfl)⟩ ⟨by omega, by omega⟩ hH (fun v2 τ1 H2 locs2 hw hH => ?_)
  refine lv_icmp_eq hx hb dL_law_342.1 dL_law_342.2.2 (fun _ => ?_) (fun h => absurd hw.1 h)
  refine W.widen (k := ce + 1) (n := sl + 5) (by omega) (by omega) ?_
  exact kk _ _ _ _ hw.2 hH
set_option maxHeartbeats 4000000 in
set_option maxRecDepth 100000 in
theorem law_case_stop {p : Program} {l : Launch} {e : Env} {s : State} {m : MethodId} {below : List Frame} {meth : Method} {c : Code} {b L : Nat} {xs : Nat → Int32} (hL : L ≤ 4096) (C0 : lw_At p s m meth c b L xs) {D : va_G} {cy : zC} (hK : va_K D vwCl (zty cy) s) (hns : zNs s) {Inv : zS → zS → Prop} (hst : zStep_stop Inv) {ax am ce sl i : Nat} {σ τ : zS} {H : Heap} {locs : List Loc} {ls : Array Slot} (hi : i + 8 ≤ L) (hce : ce + 1 ≤ 600000) (hsl : sl + 5 ≤ 7302250) (hI : Inv σ τ) (hH : zLH s D cy ax am σ τ H locs) (hl : lv_has ls 4 [(0, .ref b), (1, .ref ax), (2, .ref am), (3, .int (nI i))])
    (kk : ∀ (σ τ : zS) (H : Heap) (locs : List Loc), Inv σ τ → zLH s D cy ax am σ τ H locs → W p l e room_1 s m #[Value.ref b] below meth c H locs (ce + 1) (sl + 5) (lw_Z below #[Value.ref b] s) (F0 m 869 ls [])) : W p l e room_1 s m #[Value.ref b] below meth c H locs ce sl (lw_Z below #[Value.ref b] s) (F0 m 347 ls []) := by
  have hx := C0.1
  have hb := C0.2.1
  by_cases hz : xs (nI i + (1 : Int32)).toNatClampNeg = 0
  · refine lv_aload_n hx hb dL_law_347.1 rfl (lv_at hl 1 rfl) ?_
    refine lv_aload_n hx hb dL_law_348.1 rfl (lv_at hl 0 rfl) ?_
    refine lv_iload_n hx hb dL_law_349.1 rfl (lv_at hl 3 rfl) ?_
    refine lv_iconst hx hb dL_law_350.1 zi1 ?_
    refine lv_iadd hx hb dL_law_351.1 ?_
    refine law_sld C0 hH (law_in (k := 1) hL (by omega)) dL_law_352 ?_
    refine lv_if_eq hx hb dL_law_353.1 dL_law_353.2.2 (fun h => ?_) (fun h => absurd hz h)
    refine lv_iconst hx hb dL_law_360.1 zi0 ?_
    have hw := hst σ τ hI (0 : Int32) (Or.inl rfl)
    refine law_callC C0 hK hns dL_law_361 mL_37 (c_X6_stop hw) rfl (fun _ => rfl) hl.1 (Nat.le_of_ble_eq_true rfl) ⟨(Nat.le_of_ble_eq_true rfl), (Nat.le_of_ble_eq_true rfl)⟩ ⟨by omega, by omega⟩ hH (fun v1 σ1 H1 locs1 hw hH => ?_)
    refine lv_aload_n hx hb dL_law_364.1 rfl (lv_at hl 2 rfl) ?_
    refine lv_aload_n hx hb dL_law_365.1 rfl (lv_at hl 0 rfl) ?_
    refine lv_iload_n hx hb dL_law_366.1 rfl (lv_at hl 3 rfl) ?_
    refine lv_iconst hx hb dL_law_367.1 zi1 ?_
    refine lv_iadd hx hb dL_law_368.1 ?_
    refine law_sld C0 hH (law_in (k := 1) hL (by omega)) dL_law_369 ?_
    refine lv_if_eq hx hb dL_law_370.1 dL_law_370.2.2 (fun h => ?_) (fun h => absurd hz h)
    refine lv_iconst hx hb dL_law_377.1 zi0 ?_
    refine law_callM C0 hK hns dL_law_378 mL_41 (c_X7_stop hw) rfl (fun _ => rfl) hl.1 (Nat.le_of_ble_eq_true rfl) ⟨(Nat.le_of_ble_eq_true rfl), (Nat.le_of_ble_eq_true rfl)⟩ ⟨by omega, by omega⟩ hH (fun v2 τ1 H2 locs2 hw hH => ?_)
    refine lv_icmp_eq hx hb dL_law_381.1 dL_law_381.2.2 (fun _ => ?_) (fun h => absurd hw.1 h)
    refine W.widen (k := ce + 1) (n := sl + 5) (by omega) (by omega) ?_
    exact kk _ _ _ _ hw.2 hH
  · refine lv_aload_n hx hb dL_law_347.1 rfl (lv_at hl 1 rfl) ?_
    refine lv_aload_n hx hb dL_law_348.1 rfl (lv_at hl 0 rfl) ?_
    refine lv_iload_n hx hb dL_law_349.1 rfl (lv_at hl 3 rfl) ?_
    refine lv_iconst hx hb dL_law_350.1 zi1 ?_
    refine lv_iadd hx hb dL_law_351.1 ?_
    refine law_sld C0 hH (law_in (k := 1) hL (by omega)) dL_law_352 ?_
    refine lv_if_eq hx hb dL_law_353.1 dL_law_353.2.2 (fun h => absurd h hz) (fun h => ?_)
    refine lv_iconst hx hb dL_law_356.1 zi1 ?_
    refine lv_goto hx hb dL_law_357.1 dL_law_357.2.2 ?_
    have hw := hst σ τ hI (1 : Int32) (Or.inr rfl)
    refine law_callC C0 hK hns dL_law_361 mL_37 (c_X6_stop hw) rfl (fun _ => rfl) hl.1 (Nat.le_of_ble_eq_true rfl) ⟨(Nat.le_of_ble_eq_true rfl), (Nat.le_of_ble_eq_true rfl)⟩ ⟨by omega, by omega⟩ hH (fun v1 σ1 H1 locs1 hw hH => ?_)
    refine lv_aload_n hx hb dL_law_364.1 rfl (lv_at hl 2 rfl) ?_
    refine lv_aload_n hx hb dL_law_365.1 rfl (lv_at hl 0 rfl) ?_
    refine lv_iload_n hx hb dL_law_366.1 rfl (lv_at hl 3 rfl) ?_
    refine lv_iconst hx hb dL_law_367.1 zi1 ?_
    refine lv_iadd hx hb dL_law_368.1 ?_
    refine law_sld C0 hH (law_in (k := 1) hL (by omega)) dL_law_369 ?_
    refine lv_if_eq hx hb dL_law_370.1 dL_law_370.2.2 (fun h => absurd h hz) (fun h => ?_)
    refine lv_iconst hx hb dL_law_373.1 zi1 ?_
    refine lv_goto hx hb dL_law_374.1 dL_law_374.2.2 ?_
    refine law_callM C0 hK hns dL_law_378 mL_41 (c_X7_stop hw) rfl (fun _ => rfl) hl.1 (Nat.le_of_ble_eq_true rfl) ⟨(Nat.le_of_ble_eq_true rfl), (Nat.le_of_ble_eq_true rfl)⟩ ⟨by omega, by omega⟩ hH (fun v2 τ1 H2 locs2 hw hH => ?_)
    refine lv_icmp_eq hx hb dL_law_381.1 dL_law_381.2.2 (fun _ => ?_) (fun h => absurd hw.1 h)
    refine W.widen (k := ce + 1) (n := sl + 5) (by omega) (by omega) ?_
    exact kk _ _ _ _ hw.2 hH
set_option maxHeartbeats 4000000 in
set_option maxRecDepth 100000 in
theorem law_case_shut {p : Program} {l : Launch} {e : Env} {s : State} {m : MethodId} {below : List Frame} {meth : Method} {c : Code} {b L : Nat} {xs : Nat → Int32} (hL : L ≤ 4096) (C0 : lw_At p s m meth c b L xs) {D : va_G} {cy : zC} (hK : va_K D vwCl (zty cy) s) (hns : zNs s) {Inv : zS → zS → Prop} (hst : zStep_shut Inv) {ax am ce sl i : Nat} {σ τ : zS} {H : Heap} {locs : List Loc} {ls : Array Slot} (hi : i + 8 ≤ L) (hce : ce + 1 ≤ 600000) (hsl : sl + 5 ≤ 7302250) (hI : Inv σ τ) (hH : zLH s D cy ax am σ τ H locs) (hl : lv_has ls 4 [(0, .ref b), (1, .ref ax), (2, .ref am), (3, .int (nI i))])
    (kk : ∀ (σ τ : zS) (H : Heap) (locs : List Loc), Inv σ τ → zLH s D cy ax am σ τ H locs → W p l e room_1 s m #[Value.ref b] below meth c H locs (ce + 1) (sl + 5) (lw_Z below #[Value.ref b] s) (F0 m 869 ls [])) : W p l e room_1 s m #[Value.ref b] below meth c H locs ce sl (lw_Z below #[Value.ref b] s) (F0 m 386 ls []) := by
  have hx := C0.1
  have hb := C0.2.1
  by_cases hz : xs (nI i + (2 : Int32)).toNatClampNeg = 0
  · refine lv_aload_n hx hb dL_law_386.1 rfl (lv_at hl 1 rfl) ?_
    refine lv_aload_n hx hb dL_law_387.1 rfl (lv_at hl 0 rfl) ?_
    refine lv_iload_n hx hb dL_law_388.1 rfl (lv_at hl 3 rfl) ?_
    refine lv_iconst hx hb dL_law_389.1 zi1 ?_
    refine lv_iadd hx hb dL_law_390.1 ?_
    refine law_sld C0 hH (law_in (k := 1) hL (by omega)) dL_law_391 ?_
    refine lv_aload_n hx hb dL_law_392.1 rfl (lv_at hl 0 rfl) ?_
    refine lv_iload_n hx hb dL_law_393.1 rfl (lv_at hl 3 rfl) ?_
    refine lv_iconst hx hb dL_law_394.1 zi2 ?_
    refine lv_iadd hx hb dL_law_395.1 ?_
    refine law_sld C0 hH (law_in (k := 2) hL (by omega)) dL_law_396 ?_
    refine lv_if_eq hx hb dL_law_397.1 dL_law_397.2.2 (fun h => ?_) (fun h => absurd hz h)
    refine lv_iconst hx hb dL_law_404.1 zi0 ?_
    have hw := hst σ τ hI (xs (nI i + (1 : Int32)).toNatClampNeg) (0 : Int32) (Or.inl rfl)
    refine law_callC C0 hK hns dL_law_405 mL_42 (c_X6_shut hw) rfl (fun _ => rfl) hl.1 (Nat.le_of_ble_eq_true rfl) ⟨(Nat.le_of_ble_eq_true rfl), (Nat.le_of_ble_eq_true rfl)⟩ ⟨by omega, by omega⟩ hH (fun v1 σ1 H1 locs1 hw hH => ?_)
    refine lv_aload_n hx hb dL_law_408.1 rfl (lv_at hl 2 rfl) ?_
    refine lv_aload_n hx hb dL_law_409.1 rfl (lv_at hl 0 rfl) ?_
    refine lv_iload_n hx hb dL_law_410.1 rfl (lv_at hl 3 rfl) ?_
    refine lv_iconst hx hb dL_law_411.1 zi1 ?_
    refine lv_iadd hx hb dL_law_412.1 ?_
    refine law_sld C0 hH (law_in (k := 1) hL (by omega)) dL_law_413 ?_
    refine lv_aload_n hx hb dL_law_414.1 rfl (lv_at hl 0 rfl) ?_
    refine lv_iload_n hx hb dL_law_415.1 rfl (lv_at hl 3 rfl) ?_
    refine lv_iconst hx hb dL_law_416.1 zi2 ?_
    refine lv_iadd hx hb dL_law_417.1 ?_
    refine law_sld C0 hH (law_in (k := 2) hL (by omega)) dL_law_418 ?_
    refine lv_if_eq hx hb dL_law_419.1 dL_law_419.2.2 (fun h => ?_) (fun h => absurd hz h)
    refine lv_iconst hx hb dL_law_426.1 zi0 ?_
    refine law_callM C0 hK hns dL_law_427 mL_46 (c_X7_shut hw) rfl (fun _ => rfl) hl.1 (Nat.le_of_ble_eq_true rfl) ⟨(Nat.le_of_ble_eq_true rfl), (Nat.le_of_ble_eq_true rfl)⟩ ⟨by omega, by omega⟩ hH (fun v2 τ1 H2 locs2 hw hH => ?_)
    refine lv_icmp_eq hx hb dL_law_430.1 dL_law_430.2.2 (fun _ => ?_) (fun h => absurd hw.1 h)
    refine W.widen (k := ce + 1) (n := sl + 5) (by omega) (by omega) ?_
    exact kk _ _ _ _ hw.2 hH
  · refine lv_aload_n hx hb dL_law_386.1 rfl (lv_at hl 1 rfl) ?_
    refine lv_aload_n hx hb dL_law_387.1 rfl (lv_at hl 0 rfl) ?_
    refine lv_iload_n hx hb dL_law_388.1 rfl (lv_at hl 3 rfl) ?_
    refine lv_iconst hx hb dL_law_389.1 zi1 ?_
    refine lv_iadd hx hb dL_law_390.1 ?_
    refine law_sld C0 hH (law_in (k := 1) hL (by omega)) dL_law_391 ?_
    refine lv_aload_n hx hb dL_law_392.1 rfl (lv_at hl 0 rfl) ?_
    refine lv_iload_n hx hb dL_law_393.1 rfl (lv_at hl 3 rfl) ?_
    refine lv_iconst hx hb dL_law_394.1 zi2 ?_
    refine lv_iadd hx hb dL_law_395.1 ?_
    refine law_sld C0 hH (law_in (k := 2) hL (by omega)) dL_law_396 ?_
    refine lv_if_eq hx hb dL_law_397.1 dL_law_397.2.2 (fun h => absurd h hz) (fun h => ?_)
    refine lv_iconst hx hb dL_law_400.1 zi1 ?_
    refine lv_goto hx hb dL_law_401.1 dL_law_401.2.2 ?_
    have hw := hst σ τ hI (xs (nI i + (1 : Int32)).toNatClampNeg) (1 : Int32) (Or.inr rfl)
    refine law_callC C0 hK hns dL_law_405 mL_42 (c_X6_shut hw) rfl (fun _ => rfl) hl.1 (Nat.le_of_ble_eq_true rfl) ⟨(Nat.le_of_ble_eq_true rfl), (Nat.le_of_ble_eq_true rfl)⟩ ⟨by omega, by omega⟩ hH (fun v1 σ1 H1 locs1 hw hH => ?_)
    refine lv_aload_n hx hb dL_law_408.1 rfl (lv_at hl 2 rfl) ?_
    refine lv_aload_n hx hb dL_law_409.1 rfl (lv_at hl 0 rfl) ?_
    refine lv_iload_n hx hb dL_law_410.1 rfl (lv_at hl 3 rfl) ?_
    refine lv_iconst hx hb dL_law_411.1 zi1 ?_
    refine lv_iadd hx hb dL_law_412.1 ?_
    refine law_sld C0 hH (law_in (k := 1) hL (by omega)) dL_law_413 ?_
    refine lv_aload_n hx hb dL_law_414.1 rfl (lv_at hl 0 rfl) ?_
    refine lv_iload_n hx hb dL_law_415.1 rfl (lv_at hl 3 rfl) ?_
    refine lv_iconst hx hb dL_law_416.1 zi2 ?_
    refine lv_iadd hx hb dL_law_417.1 ?_
    refine law_sld C0 hH (law_in (k := 2) hL (by omega)) dL_law_418 ?_
    refine lv_if_eq hx hb dL_law_419.1 dL_law_419.2.2 (fun h => absurd h hz) (fun h => ?_)
    refine lv_iconst hx hb dL_law_422.1 zi1 ?_
    refine lv_goto hx hb dL_law_423.1 dL_law_423.2.2 ?_
    refine law_callM C0 hK hns dL_law_427 mL_46 (c_X7_shut hw) rfl (fun _ => rfl) hl.1 (Nat.le_of_ble_eq_true rfl) ⟨(Nat.le_of_ble_eq_true rfl), (Nat.le_of_ble_eq_true rfl)⟩ ⟨by omega, by omega⟩ hH (fun v2 τ1 H2 locs2 hw hH => ?_)
    refine lv_icmp_eq hx hb dL_law_430.1 dL_law_430.2.2 (fun _ => ?_) (fun h => absurd hw.1 h)
    refine W.widen (k := ce + 1) (n := sl + 5) (by omega) (by omega) ?_
    exact kk _ _ _ _ hw.2 hH
set_option maxHeartbeats 4000000 in
set_option maxRecDepth 100000 in
theorem law_case_box {p : Program} {l : Launch} {e : Env} {s : State} {m : MethodId} {below : List Frame} {meth : Method} {c : Code} {b L : Nat} {xs : Nat → Int32} (hL : L ≤ 4096) (C0 : lw_At p s m meth c b L xs) {D : va_G} {cy : zC} (hK : va_K D vwCl (zty cy) s) (hns : zNs s) {Inv : zS → zS → Prop} (hst : zStep_box Inv) {ax am ce sl i : Nat} {σ τ : zS} {H : Heap} {locs : List Loc} {ls : Array Slot} (hi : i + 8 ≤ L) (hce : ce + 1 ≤ 600000) (hsl : sl + 5 ≤ 7302250) (hI : Inv σ τ) (hH : zLH s D cy ax am σ τ H locs) (hl : lv_has ls 4 [(0, .ref b), (1, .ref ax), (2, .ref am), (3, .int (nI i))])
    (kk : ∀ (σ τ : zS) (H : Heap) (locs : List Loc), Inv σ τ → zLH s D cy ax am σ τ H locs → W p l e room_1 s m #[Value.ref b] below meth c H locs (ce + 1) (sl + 5) (lw_Z below #[Value.ref b] s) (F0 m 869 ls [])) : W p l e room_1 s m #[Value.ref b] below meth c H locs ce sl (lw_Z below #[Value.ref b] s) (F0 m 435 ls []) := by
  have hx := C0.1
  have hb := C0.2.1
  refine lv_aload_n hx hb dL_law_435.1 rfl (lv_at hl 1 rfl) ?_
  refine lv_aload_n hx hb dL_law_436.1 rfl (lv_at hl 0 rfl) ?_
  refine lv_iload_n hx hb dL_law_437.1 rfl (lv_at hl 3 rfl) ?_
  refine lv_iconst hx hb dL_law_438.1 zi1 ?_
  refine lv_iadd hx hb dL_law_439.1 ?_
  refine law_sld C0 hH (law_in (k := 1) hL (by omega)) dL_law_440 ?_
  refine lv_aload_n hx hb dL_law_441.1 rfl (lv_at hl 0 rfl) ?_
  refine lv_iload_n hx hb dL_law_442.1 rfl (lv_at hl 3 rfl) ?_
  refine lv_iconst hx hb dL_law_443.1 zi2 ?_
  refine lv_iadd hx hb dL_law_444.1 ?_
  refine law_sld C0 hH (law_in (k := 2) hL (by omega)) dL_law_445 ?_
  have hw := hst σ τ hI (xs (nI i + (1 : Int32)).toNatClampNeg) (xs (nI i + (2 : Int32)).toNatClampNeg)
  refine law_callC C0 hK hns dL_law_446 mL_47 (c_X6_box hw) rfl (fun _ => rfl) hl.1 (Nat.le_of_ble_eq_true rfl) ⟨(Nat.le_of_ble_eq_true rfl), (Nat.le_of_ble_eq_true rfl)⟩ ⟨by omega, by omega⟩ hH (fun v1 σ1 H1 locs1 hw hH => ?_)
  refine lv_aload_n hx hb dL_law_449.1 rfl (lv_at hl 2 rfl) ?_
  refine lv_aload_n hx hb dL_law_450.1 rfl (lv_at hl 0 rfl) ?_
  refine lv_iload_n hx hb dL_law_451.1 rfl (lv_at hl 3 rfl) ?_
  refine lv_iconst hx hb dL_law_452.1 zi1 ?_
  refine lv_iadd hx hb dL_law_453.1 ?_
  refine law_sld C0 hH (law_in (k := 1) hL (by omega)) dL_law_454 ?_
  refine lv_aload_n hx hb dL_law_455.1 rfl (lv_at hl 0 rfl) ?_
  refine lv_iload_n hx hb dL_law_456.1 rfl (lv_at hl 3 rfl) ?_
  refine lv_iconst hx hb dL_law_457.1 zi2 ?_
  refine lv_iadd hx hb dL_law_458.1 ?_
  refine law_sld C0 hH (law_in (k := 2) hL (by omega)) dL_law_459 ?_
  refine law_callM C0 hK hns dL_law_460 mL_51 (c_X7_box hw) rfl (fun _ => rfl) hl.1 (Nat.le_of_ble_eq_true rfl) ⟨(Nat.le_of_ble_eq_true rfl), (Nat.le_of_ble_eq_true rfl)⟩ ⟨by omega, by omega⟩ hH (fun v2 τ1 H2 locs2 hw hH => ?_)
  refine lv_icmp_eq hx hb dL_law_463.1 dL_law_463.2.2 (fun _ => ?_) (fun h => absurd hw.1 h)
  refine W.widen (k := ce + 1) (n := sl + 5) (by omega) (by omega) ?_
  exact kk _ _ _ _ hw.2 hH
set_option maxHeartbeats 4000000 in
set_option maxRecDepth 100000 in
theorem law_case_left {p : Program} {l : Launch} {e : Env} {s : State} {m : MethodId} {below : List Frame} {meth : Method} {c : Code} {b L : Nat} {xs : Nat → Int32} (hL : L ≤ 4096) (C0 : lw_At p s m meth c b L xs) {D : va_G} {cy : zC} (hK : va_K D vwCl (zty cy) s) (hns : zNs s) {Inv : zS → zS → Prop} (hst : zStep_left Inv) {ax am ce sl i : Nat} {σ τ : zS} {H : Heap} {locs : List Loc} {ls : Array Slot} (hi : i + 8 ≤ L) (hce : ce + 1 ≤ 600000) (hsl : sl + 5 ≤ 7302250) (hI : Inv σ τ) (hH : zLH s D cy ax am σ τ H locs) (hl : lv_has ls 4 [(0, .ref b), (1, .ref ax), (2, .ref am), (3, .int (nI i))])
    (kk : ∀ (σ τ : zS) (H : Heap) (locs : List Loc), Inv σ τ → zLH s D cy ax am σ τ H locs → W p l e room_1 s m #[Value.ref b] below meth c H locs (ce + 1) (sl + 5) (lw_Z below #[Value.ref b] s) (F0 m 869 ls [])) : W p l e room_1 s m #[Value.ref b] below meth c H locs ce sl (lw_Z below #[Value.ref b] s) (F0 m 468 ls []) := by
  have hx := C0.1
  have hb := C0.2.1
  refine lv_aload_n hx hb dL_law_468.1 rfl (lv_at hl 1 rfl) ?_
  have hw := hst σ τ hI 
  refine law_callC C0 hK hns dL_law_469 mL_52 (c_X6_left hw) rfl (fun _ => rfl) hl.1 (Nat.le_of_ble_eq_true rfl) ⟨(Nat.le_of_ble_eq_true rfl), (Nat.le_of_ble_eq_true rfl)⟩ ⟨by omega, by omega⟩ hH (fun v1 σ1 H1 locs1 hw hH => ?_)
  refine lv_aload_n hx hb dL_law_472.1 rfl (lv_at hl 2 rfl) ?_
  refine law_callM C0 hK hns dL_law_473 mL_55 (c_X7_left hw) rfl (fun _ => rfl) hl.1 (Nat.le_of_ble_eq_true rfl) ⟨(Nat.le_of_ble_eq_true rfl), (Nat.le_of_ble_eq_true rfl)⟩ ⟨by omega, by omega⟩ hH (fun v2 τ1 H2 locs2 hw hH => ?_)
  refine lv_icmp_eq hx hb dL_law_476.1 dL_law_476.2.2 (fun _ => ?_) (fun h => absurd hw.1 h)
  refine W.widen (k := ce + 1) (n := sl + 5) (by omega) (by omega) ?_
  exact kk _ _ _ _ hw.2 hH
set_option maxHeartbeats 4000000 in
set_option maxRecDepth 100000 in
theorem law_case_about {p : Program} {l : Launch} {e : Env} {s : State} {m : MethodId} {below : List Frame} {meth : Method} {c : Code} {b L : Nat} {xs : Nat → Int32} (hL : L ≤ 4096) (C0 : lw_At p s m meth c b L xs) {D : va_G} {cy : zC} (hK : va_K D vwCl (zty cy) s) (hns : zNs s) {Inv : zS → zS → Prop} (hst : zStep_about Inv) {ax am ce sl i : Nat} {σ τ : zS} {H : Heap} {locs : List Loc} {ls : Array Slot} (hi : i + 8 ≤ L) (hce : ce + 1 ≤ 600000) (hsl : sl + 5 ≤ 7302250) (hI : Inv σ τ) (hH : zLH s D cy ax am σ τ H locs) (hl : lv_has ls 4 [(0, .ref b), (1, .ref ax), (2, .ref am), (3, .int (nI i))])
    (kk : ∀ (σ τ : zS) (H : Heap) (locs : List Loc), Inv σ τ → zLH s D cy ax am σ τ H locs → W p l e room_1 s m #[Value.ref b] below meth c H locs (ce + 1) (sl + 5) (lw_Z below #[Value.ref b] s) (F0 m 869 ls [])) : W p l e room_1 s m #[Value.ref b] below meth c H locs ce sl (lw_Z below #[Value.ref b] s) (F0 m 481 ls []) := by
  have hx := C0.1
  have hb := C0.2.1
  refine lv_aload_n hx hb dL_law_481.1 rfl (lv_at hl 1 rfl) ?_
  refine lv_aload_n hx hb dL_law_482.1 rfl (lv_at hl 0 rfl) ?_
  refine lv_iload_n hx hb dL_law_483.1 rfl (lv_at hl 3 rfl) ?_
  refine lv_iconst hx hb dL_law_484.1 zi1 ?_
  refine lv_iadd hx hb dL_law_485.1 ?_
  refine law_sld C0 hH (law_in (k := 1) hL (by omega)) dL_law_486 ?_
  refine lv_aload_n hx hb dL_law_487.1 rfl (lv_at hl 0 rfl) ?_
  refine lv_iload_n hx hb dL_law_488.1 rfl (lv_at hl 3 rfl) ?_
  refine lv_iconst hx hb dL_law_489.1 zi2 ?_
  refine lv_iadd hx hb dL_law_490.1 ?_
  refine law_sld C0 hH (law_in (k := 2) hL (by omega)) dL_law_491 ?_
  have hw := hst σ τ hI (xs (nI i + (1 : Int32)).toNatClampNeg) (xs (nI i + (2 : Int32)).toNatClampNeg)
  refine law_callC C0 hK hns dL_law_492 mL_56 (c_X6_about hw) rfl (fun _ => rfl) hl.1 (Nat.le_of_ble_eq_true rfl) ⟨(Nat.le_of_ble_eq_true rfl), (Nat.le_of_ble_eq_true rfl)⟩ ⟨by omega, by omega⟩ hH (fun v1 σ1 H1 locs1 hw hH => ?_)
  refine lv_aload_n hx hb dL_law_495.1 rfl (lv_at hl 2 rfl) ?_
  refine lv_aload_n hx hb dL_law_496.1 rfl (lv_at hl 0 rfl) ?_
  refine lv_iload_n hx hb dL_law_497.1 rfl (lv_at hl 3 rfl) ?_
  refine lv_iconst hx hb dL_law_498.1 zi1 ?_
  refine lv_iadd hx hb dL_law_499.1 ?_
  refine law_sld C0 hH (law_in (k := 1) hL (by omega)) dL_law_500 ?_
  refine lv_aload_n hx hb dL_law_501.1 rfl (lv_at hl 0 rfl) ?_
  refine lv_iload_n hx hb dL_law_502.1 rfl (lv_at hl 3 rfl) ?_
  refine lv_iconst hx hb dL_law_503.1 zi2 ?_
  refine lv_iadd hx hb dL_law_504.1 ?_
  refine law_sld C0 hH (law_in (k := 2) hL (by omega)) dL_law_505 ?_
  refine law_callM C0 hK hns dL_law_506 mL_59 (c_X7_about hw) rfl (fun _ => rfl) hl.1 (Nat.le_of_ble_eq_true rfl) ⟨(Nat.le_of_ble_eq_true rfl), (Nat.le_of_ble_eq_true rfl)⟩ ⟨by omega, by omega⟩ hH (fun v2 τ1 H2 locs2 hw hH => ?_)
  refine lv_icmp_eq hx hb dL_law_509.1 dL_law_509.2.2 (fun _ => ?_) (fun h => absurd hw.1 h)
  refine W.widen (k := ce + 1) (n := sl + 5) (by omega) (by omega) ?_
  exact kk _ _ _ _ hw.2 hH
set_option maxHeartbeats 4000000 in
set_option maxRecDepth 100000 in
theorem law_case_stands {p : Program} {l : Launch} {e : Env} {s : State} {m : MethodId} {below : List Frame} {meth : Method} {c : Code} {b L : Nat} {xs : Nat → Int32} (hL : L ≤ 4096) (C0 : lw_At p s m meth c b L xs) {D : va_G} {cy : zC} (hK : va_K D vwCl (zty cy) s) (hns : zNs s) {Inv : zS → zS → Prop} (hst : zStep_stands Inv) {ax am ce sl i : Nat} {σ τ : zS} {H : Heap} {locs : List Loc} {ls : Array Slot} (hi : i + 8 ≤ L) (hce : ce + 1 ≤ 600000) (hsl : sl + 5 ≤ 7302250) (hI : Inv σ τ) (hH : zLH s D cy ax am σ τ H locs) (hl : lv_has ls 4 [(0, .ref b), (1, .ref ax), (2, .ref am), (3, .int (nI i))])
    (kk : ∀ (σ τ : zS) (H : Heap) (locs : List Loc), Inv σ τ → zLH s D cy ax am σ τ H locs → W p l e room_1 s m #[Value.ref b] below meth c H locs (ce + 1) (sl + 5) (lw_Z below #[Value.ref b] s) (F0 m 869 ls [])) : W p l e room_1 s m #[Value.ref b] below meth c H locs ce sl (lw_Z below #[Value.ref b] s) (F0 m 514 ls []) := by
  have hx := C0.1
  have hb := C0.2.1
  refine lv_aload_n hx hb dL_law_514.1 rfl (lv_at hl 1 rfl) ?_
  refine lv_aload_n hx hb dL_law_515.1 rfl (lv_at hl 0 rfl) ?_
  refine lv_iload_n hx hb dL_law_516.1 rfl (lv_at hl 3 rfl) ?_
  refine lv_iconst hx hb dL_law_517.1 zi1 ?_
  refine lv_iadd hx hb dL_law_518.1 ?_
  refine law_sld C0 hH (law_in (k := 1) hL (by omega)) dL_law_519 ?_
  refine lv_aload_n hx hb dL_law_520.1 rfl (lv_at hl 0 rfl) ?_
  refine lv_iload_n hx hb dL_law_521.1 rfl (lv_at hl 3 rfl) ?_
  refine lv_iconst hx hb dL_law_522.1 zi2 ?_
  refine lv_iadd hx hb dL_law_523.1 ?_
  refine law_sld C0 hH (law_in (k := 2) hL (by omega)) dL_law_524 ?_
  have hw := hst σ τ hI (xs (nI i + (1 : Int32)).toNatClampNeg) (xs (nI i + (2 : Int32)).toNatClampNeg)
  refine law_callC C0 hK hns dL_law_525 mL_60 (c_X6_stands hw) rfl (fun _ => rfl) hl.1 (Nat.le_of_ble_eq_true rfl) ⟨(Nat.le_of_ble_eq_true rfl), (Nat.le_of_ble_eq_true rfl)⟩ ⟨by omega, by omega⟩ hH (fun v1 σ1 H1 locs1 hw hH => ?_)
  refine lv_aload_n hx hb dL_law_528.1 rfl (lv_at hl 2 rfl) ?_
  refine lv_aload_n hx hb dL_law_529.1 rfl (lv_at hl 0 rfl) ?_
  refine lv_iload_n hx hb dL_law_530.1 rfl (lv_at hl 3 rfl) ?_
  refine lv_iconst hx hb dL_law_531.1 zi1 ?_
  refine lv_iadd hx hb dL_law_532.1 ?_
  refine law_sld C0 hH (law_in (k := 1) hL (by omega)) dL_law_533 ?_
  refine lv_aload_n hx hb dL_law_534.1 rfl (lv_at hl 0 rfl) ?_
  refine lv_iload_n hx hb dL_law_535.1 rfl (lv_at hl 3 rfl) ?_
  refine lv_iconst hx hb dL_law_536.1 zi2 ?_
  refine lv_iadd hx hb dL_law_537.1 ?_
  refine law_sld C0 hH (law_in (k := 2) hL (by omega)) dL_law_538 ?_
  refine law_callM C0 hK hns dL_law_539 mL_63 (c_X7_stands hw) rfl (fun _ => rfl) hl.1 (Nat.le_of_ble_eq_true rfl) ⟨(Nat.le_of_ble_eq_true rfl), (Nat.le_of_ble_eq_true rfl)⟩ ⟨by omega, by omega⟩ hH (fun v2 τ1 H2 locs2 hw hH => ?_)
  refine lv_icmp_eq hx hb dL_law_542.1 dL_law_542.2.2 (fun _ => ?_) (fun h => absurd hw.1 h)
  refine W.widen (k := ce + 1) (n := sl + 5) (by omega) (by omega) ?_
  exact kk _ _ _ _ hw.2 hH
set_option maxHeartbeats 4000000 in
set_option maxRecDepth 100000 in
theorem law_case_safe {p : Program} {l : Launch} {e : Env} {s : State} {m : MethodId} {below : List Frame} {meth : Method} {c : Code} {b L : Nat} {xs : Nat → Int32} (hL : L ≤ 4096) (C0 : lw_At p s m meth c b L xs) {D : va_G} {cy : zC} (hK : va_K D vwCl (zty cy) s) (hns : zNs s) {Inv : zS → zS → Prop} (hst : zStep_safe Inv) {ax am ce sl i : Nat} {σ τ : zS} {H : Heap} {locs : List Loc} {ls : Array Slot} (hi : i + 8 ≤ L) (hce : ce + 1 ≤ 600000) (hsl : sl + 5 ≤ 7302250) (hI : Inv σ τ) (hH : zLH s D cy ax am σ τ H locs) (hl : lv_has ls 4 [(0, .ref b), (1, .ref ax), (2, .ref am), (3, .int (nI i))])
    (kk : ∀ (σ τ : zS) (H : Heap) (locs : List Loc), Inv σ τ → zLH s D cy ax am σ τ H locs → W p l e room_1 s m #[Value.ref b] below meth c H locs (ce + 1) (sl + 5) (lw_Z below #[Value.ref b] s) (F0 m 869 ls [])) : W p l e room_1 s m #[Value.ref b] below meth c H locs ce sl (lw_Z below #[Value.ref b] s) (F0 m 547 ls []) := by
  have hx := C0.1
  have hb := C0.2.1
  refine lv_aload_n hx hb dL_law_547.1 rfl (lv_at hl 1 rfl) ?_
  refine lv_aload_n hx hb dL_law_548.1 rfl (lv_at hl 0 rfl) ?_
  refine lv_iload_n hx hb dL_law_549.1 rfl (lv_at hl 3 rfl) ?_
  refine lv_iconst hx hb dL_law_550.1 zi1 ?_
  refine lv_iadd hx hb dL_law_551.1 ?_
  refine law_sld C0 hH (law_in (k := 1) hL (by omega)) dL_law_552 ?_
  have hw := hst σ τ hI (xs (nI i + (1 : Int32)).toNatClampNeg)
  refine law_callC C0 hK hns dL_law_553 mL_64 (c_X6_safe hw) rfl (fun _ => rfl) hl.1 (Nat.le_of_ble_eq_true rfl) ⟨(Nat.le_of_ble_eq_true rfl), (Nat.le_of_ble_eq_true rfl)⟩ ⟨by omega, by omega⟩ hH (fun v1 σ1 H1 locs1 hw hH => ?_)
  refine lv_aload_n hx hb dL_law_556.1 rfl (lv_at hl 2 rfl) ?_
  refine lv_aload_n hx hb dL_law_557.1 rfl (lv_at hl 0 rfl) ?_
  refine lv_iload_n hx hb dL_law_558.1 rfl (lv_at hl 3 rfl) ?_
  refine lv_iconst hx hb dL_law_559.1 zi1 ?_
  refine lv_iadd hx hb dL_law_560.1 ?_
  refine law_sld C0 hH (law_in (k := 1) hL (by omega)) dL_law_561 ?_
  refine law_callM C0 hK hns dL_law_562 mL_67 (c_X7_safe hw) rfl (fun _ => rfl) hl.1 (Nat.le_of_ble_eq_true rfl) ⟨(Nat.le_of_ble_eq_true rfl), (Nat.le_of_ble_eq_true rfl)⟩ ⟨by omega, by omega⟩ hH (fun v2 τ1 H2 locs2 hw hH => ?_)
  refine lv_icmp_eq hx hb dL_law_565.1 dL_law_565.2.2 (fun _ => ?_) (fun h => absurd hw.1 h)
  refine W.widen (k := ce + 1) (n := sl + 5) (by omega) (by omega) ?_
  exact kk _ _ _ _ hw.2 hH
set_option maxHeartbeats 4000000 in
set_option maxRecDepth 100000 in
theorem law_case_cost {p : Program} {l : Launch} {e : Env} {s : State} {m : MethodId} {below : List Frame} {meth : Method} {c : Code} {b L : Nat} {xs : Nat → Int32} (hL : L ≤ 4096) (C0 : lw_At p s m meth c b L xs) {D : va_G} {cy : zC} (hK : va_K D vwCl (zty cy) s) (hns : zNs s) {Inv : zS → zS → Prop} (hst : zStep_cost Inv) {ax am ce sl i : Nat} {σ τ : zS} {H : Heap} {locs : List Loc} {ls : Array Slot} (hi : i + 8 ≤ L) (hce : ce + 1 ≤ 600000) (hsl : sl + 5 ≤ 7302250) (hI : Inv σ τ) (hH : zLH s D cy ax am σ τ H locs) (hl : lv_has ls 4 [(0, .ref b), (1, .ref ax), (2, .ref am), (3, .int (nI i))])
    (kk : ∀ (σ τ : zS) (H : Heap) (locs : List Loc), Inv σ τ → zLH s D cy ax am σ τ H locs → W p l e room_1 s m #[Value.ref b] below meth c H locs (ce + 1) (sl + 5) (lw_Z below #[Value.ref b] s) (F0 m 869 ls [])) : W p l e room_1 s m #[Value.ref b] below meth c H locs ce sl (lw_Z below #[Value.ref b] s) (F0 m 570 ls []) := by
  have hx := C0.1
  have hb := C0.2.1
  refine lv_aload_n hx hb dL_law_570.1 rfl (lv_at hl 1 rfl) ?_
  refine lv_aload_n hx hb dL_law_571.1 rfl (lv_at hl 0 rfl) ?_
  refine lv_iload_n hx hb dL_law_572.1 rfl (lv_at hl 3 rfl) ?_
  refine lv_iconst hx hb dL_law_573.1 zi1 ?_
  refine lv_iadd hx hb dL_law_574.1 ?_
  refine law_sld C0 hH (law_in (k := 1) hL (by omega)) dL_law_575 ?_
  refine lv_aload_n hx hb dL_law_576.1 rfl (lv_at hl 0 rfl) ?_
  refine lv_iload_n hx hb dL_law_577.1 rfl (lv_at hl 3 rfl) ?_
  refine lv_iconst hx hb dL_law_578.1 zi2 ?_
  refine lv_iadd hx hb dL_law_579.1 ?_
  refine law_sld C0 hH (law_in (k := 2) hL (by omega)) dL_law_580 ?_
  have hw := hst σ τ hI (xs (nI i + (1 : Int32)).toNatClampNeg) (xs (nI i + (2 : Int32)).toNatClampNeg)
  refine law_callC C0 hK hns dL_law_581 mL_68 (c_X6_cost hw) rfl (fun _ => rfl) hl.1 (Nat.le_of_ble_eq_true rfl) ⟨(Nat.le_of_ble_eq_true rfl), (Nat.le_of_ble_eq_true rfl)⟩ ⟨by omega, by omega⟩ hH (fun v1 σ1 H1 locs1 hw hH => ?_)
  refine lv_aload_n hx hb dL_law_584.1 rfl (lv_at hl 2 rfl) ?_
  refine lv_aload_n hx hb dL_law_585.1 rfl (lv_at hl 0 rfl) ?_
  refine lv_iload_n hx hb dL_law_586.1 rfl (lv_at hl 3 rfl) ?_
  refine lv_iconst hx hb dL_law_587.1 zi1 ?_
  refine lv_iadd hx hb dL_law_588.1 ?_
  refine law_sld C0 hH (law_in (k := 1) hL (by omega)) dL_law_589 ?_
  refine lv_aload_n hx hb dL_law_590.1 rfl (lv_at hl 0 rfl) ?_
  refine lv_iload_n hx hb dL_law_591.1 rfl (lv_at hl 3 rfl) ?_
  refine lv_iconst hx hb dL_law_592.1 zi2 ?_
  refine lv_iadd hx hb dL_law_593.1 ?_
  refine law_sld C0 hH (law_in (k := 2) hL (by omega)) dL_law_594 ?_
  refine law_callM C0 hK hns dL_law_595 mL_71 (c_X7_cost hw) rfl (fun _ => rfl) hl.1 (Nat.le_of_ble_eq_true rfl) ⟨(Nat.le_of_ble_eq_true rfl), (Nat.le_of_ble_eq_true rfl)⟩ ⟨by omega, by omega⟩ hH (fun v2 τ1 H2 locs2 hw hH => ?_)
  refine lv_icmp_eq hx hb dL_law_598.1 dL_law_598.2.2 (fun _ => ?_) (fun h => absurd hw.1 h)
  refine W.widen (k := ce + 1) (n := sl + 5) (by omega) (by omega) ?_
  exact kk _ _ _ _ hw.2 hH
set_option maxHeartbeats 4000000 in
set_option maxRecDepth 100000 in
theorem law_case_bestSpeed {p : Program} {l : Launch} {e : Env} {s : State} {m : MethodId} {below : List Frame} {meth : Method} {c : Code} {b L : Nat} {xs : Nat → Int32} (hL : L ≤ 4096) (C0 : lw_At p s m meth c b L xs) {D : va_G} {cy : zC} (hK : va_K D vwCl (zty cy) s) (hns : zNs s) {Inv : zS → zS → Prop} (hst : zStep_bestSpeed Inv) {ax am ce sl i : Nat} {σ τ : zS} {H : Heap} {locs : List Loc} {ls : Array Slot} (hi : i + 8 ≤ L) (hce : ce + 1 ≤ 600000) (hsl : sl + 5 ≤ 7302250) (hI : Inv σ τ) (hH : zLH s D cy ax am σ τ H locs) (hl : lv_has ls 4 [(0, .ref b), (1, .ref ax), (2, .ref am), (3, .int (nI i))])
    (kk : ∀ (σ τ : zS) (H : Heap) (locs : List Loc), Inv σ τ → zLH s D cy ax am σ τ H locs → W p l e room_1 s m #[Value.ref b] below meth c H locs (ce + 1) (sl + 5) (lw_Z below #[Value.ref b] s) (F0 m 869 ls [])) : W p l e room_1 s m #[Value.ref b] below meth c H locs ce sl (lw_Z below #[Value.ref b] s) (F0 m 603 ls []) := by
  have hx := C0.1
  have hb := C0.2.1
  refine lv_aload_n hx hb dL_law_603.1 rfl (lv_at hl 1 rfl) ?_
  have hw := hst σ τ hI 
  refine law_callC C0 hK hns dL_law_604 mL_72 (c_X6_bestSpeed hw) rfl (fun _ => rfl) hl.1 (Nat.le_of_ble_eq_true rfl) ⟨(Nat.le_of_ble_eq_true rfl), (Nat.le_of_ble_eq_true rfl)⟩ ⟨by omega, by omega⟩ hH (fun v1 σ1 H1 locs1 hw hH => ?_)
  refine lv_aload_n hx hb dL_law_607.1 rfl (lv_at hl 2 rfl) ?_
  refine law_callM C0 hK hns dL_law_608 mL_75 (c_X7_bestSpeed hw) rfl (fun _ => rfl) hl.1 (Nat.le_of_ble_eq_true rfl) ⟨(Nat.le_of_ble_eq_true rfl), (Nat.le_of_ble_eq_true rfl)⟩ ⟨by omega, by omega⟩ hH (fun v2 τ1 H2 locs2 hw hH => ?_)
  refine lv_icmp_eq hx hb dL_law_611.1 dL_law_611.2.2 (fun _ => ?_) (fun h => absurd hw.1 h)
  refine W.widen (k := ce + 1) (n := sl + 5) (by omega) (by omega) ?_
  exact kk _ _ _ _ hw.2 hH
set_option maxHeartbeats 4000000 in
set_option maxRecDepth 100000 in
theorem law_case_bestStairs {p : Program} {l : Launch} {e : Env} {s : State} {m : MethodId} {below : List Frame} {meth : Method} {c : Code} {b L : Nat} {xs : Nat → Int32} (hL : L ≤ 4096) (C0 : lw_At p s m meth c b L xs) {D : va_G} {cy : zC} (hK : va_K D vwCl (zty cy) s) (hns : zNs s) {Inv : zS → zS → Prop} (hst : zStep_bestStairs Inv) {ax am ce sl i : Nat} {σ τ : zS} {H : Heap} {locs : List Loc} {ls : Array Slot} (hi : i + 8 ≤ L) (hce : ce + 1 ≤ 600000) (hsl : sl + 5 ≤ 7302250) (hI : Inv σ τ) (hH : zLH s D cy ax am σ τ H locs) (hl : lv_has ls 4 [(0, .ref b), (1, .ref ax), (2, .ref am), (3, .int (nI i))])
    (kk : ∀ (σ τ : zS) (H : Heap) (locs : List Loc), Inv σ τ → zLH s D cy ax am σ τ H locs → W p l e room_1 s m #[Value.ref b] below meth c H locs (ce + 1) (sl + 5) (lw_Z below #[Value.ref b] s) (F0 m 869 ls [])) : W p l e room_1 s m #[Value.ref b] below meth c H locs ce sl (lw_Z below #[Value.ref b] s) (F0 m 616 ls []) := by
  have hx := C0.1
  have hb := C0.2.1
  refine lv_aload_n hx hb dL_law_616.1 rfl (lv_at hl 1 rfl) ?_
  have hw := hst σ τ hI 
  refine law_callC C0 hK hns dL_law_617 mL_76 (c_X6_bestStairs hw) rfl (fun _ => rfl) hl.1 (Nat.le_of_ble_eq_true rfl) ⟨(Nat.le_of_ble_eq_true rfl), (Nat.le_of_ble_eq_true rfl)⟩ ⟨by omega, by omega⟩ hH (fun v1 σ1 H1 locs1 hw hH => ?_)
  refine lv_aload_n hx hb dL_law_620.1 rfl (lv_at hl 2 rfl) ?_
  refine law_callM C0 hK hns dL_law_621 mL_79 (c_X7_bestStairs hw) rfl (fun _ => rfl) hl.1 (Nat.le_of_ble_eq_true rfl) ⟨(Nat.le_of_ble_eq_true rfl), (Nat.le_of_ble_eq_true rfl)⟩ ⟨by omega, by omega⟩ hH (fun v2 τ1 H2 locs2 hw hH => ?_)
  refine lv_icmp_eq hx hb dL_law_624.1 dL_law_624.2.2 (fun _ => ?_) (fun h => absurd hw.1 h)
  refine W.widen (k := ce + 1) (n := sl + 5) (by omega) (by omega) ?_
  exact kk _ _ _ _ hw.2 hH
set_option maxHeartbeats 4000000 in
set_option maxRecDepth 100000 in
theorem law_case_day {p : Program} {l : Launch} {e : Env} {s : State} {m : MethodId} {below : List Frame} {meth : Method} {c : Code} {b L : Nat} {xs : Nat → Int32} (hL : L ≤ 4096) (C0 : lw_At p s m meth c b L xs) {D : va_G} {cy : zC} (hK : va_K D vwCl (zty cy) s) (hns : zNs s) {Inv : zS → zS → Prop} (hst : zStep_day Inv) {ax am ce sl i : Nat} {σ τ : zS} {H : Heap} {locs : List Loc} {ls : Array Slot} (hi : i + 8 ≤ L) (hce : ce + 1 ≤ 600000) (hsl : sl + 5 ≤ 7302250) (hI : Inv σ τ) (hH : zLH s D cy ax am σ τ H locs) (hl : lv_has ls 4 [(0, .ref b), (1, .ref ax), (2, .ref am), (3, .int (nI i))])
    (kk : ∀ (σ τ : zS) (H : Heap) (locs : List Loc), Inv σ τ → zLH s D cy ax am σ τ H locs → W p l e room_1 s m #[Value.ref b] below meth c H locs (ce + 1) (sl + 5) (lw_Z below #[Value.ref b] s) (F0 m 869 ls [])) : W p l e room_1 s m #[Value.ref b] below meth c H locs ce sl (lw_Z below #[Value.ref b] s) (F0 m 629 ls []) := by
  have hx := C0.1
  have hb := C0.2.1
  refine lv_aload_n hx hb dL_law_629.1 rfl (lv_at hl 1 rfl) ?_
  refine lv_aload_n hx hb dL_law_630.1 rfl (lv_at hl 0 rfl) ?_
  refine lv_iload_n hx hb dL_law_631.1 rfl (lv_at hl 3 rfl) ?_
  refine lv_iconst hx hb dL_law_632.1 zi1 ?_
  refine lv_iadd hx hb dL_law_633.1 ?_
  refine law_sld C0 hH (law_in (k := 1) hL (by omega)) dL_law_634 ?_
  have hw := hst σ τ hI (xs (nI i + (1 : Int32)).toNatClampNeg)
  refine law_callC C0 hK hns dL_law_635 mL_80 (c_X6_day hw) rfl (fun _ => rfl) hl.1 (Nat.le_of_ble_eq_true rfl) ⟨(Nat.le_of_ble_eq_true rfl), (Nat.le_of_ble_eq_true rfl)⟩ ⟨by omega, by omega⟩ hH (fun v1 σ1 H1 locs1 hw hH => ?_)
  refine lv_aload_n hx hb dL_law_638.1 rfl (lv_at hl 2 rfl) ?_
  refine lv_aload_n hx hb dL_law_639.1 rfl (lv_at hl 0 rfl) ?_
  refine lv_iload_n hx hb dL_law_640.1 rfl (lv_at hl 3 rfl) ?_
  refine lv_iconst hx hb dL_law_641.1 zi1 ?_
  refine lv_iadd hx hb dL_law_642.1 ?_
  refine law_sld C0 hH (law_in (k := 1) hL (by omega)) dL_law_643 ?_
  refine law_callM C0 hK hns dL_law_644 mL_83 (c_X7_day hw) rfl (fun _ => rfl) hl.1 (Nat.le_of_ble_eq_true rfl) ⟨(Nat.le_of_ble_eq_true rfl), (Nat.le_of_ble_eq_true rfl)⟩ ⟨by omega, by omega⟩ hH (fun v2 τ1 H2 locs2 hw hH => ?_)
  refine lv_icmp_eq hx hb dL_law_647.1 dL_law_647.2.2 (fun _ => ?_) (fun h => absurd hw.1 h)
  refine W.widen (k := ce + 1) (n := sl + 5) (by omega) (by omega) ?_
  exact kk _ _ _ _ hw.2 hH
set_option maxHeartbeats 4000000 in
set_option maxRecDepth 100000 in
theorem law_case_wheel {p : Program} {l : Launch} {e : Env} {s : State} {m : MethodId} {below : List Frame} {meth : Method} {c : Code} {b L : Nat} {xs : Nat → Int32} (hL : L ≤ 4096) (C0 : lw_At p s m meth c b L xs) {D : va_G} {cy : zC} (hK : va_K D vwCl (zty cy) s) (hns : zNs s) {Inv : zS → zS → Prop} (hst : zStep_wheel Inv) {ax am ce sl i : Nat} {σ τ : zS} {H : Heap} {locs : List Loc} {ls : Array Slot} (hi : i + 8 ≤ L) (hce : ce + 1 ≤ 600000) (hsl : sl + 5 ≤ 7302250) (hI : Inv σ τ) (hH : zLH s D cy ax am σ τ H locs) (hl : lv_has ls 4 [(0, .ref b), (1, .ref ax), (2, .ref am), (3, .int (nI i))])
    (kk : ∀ (σ τ : zS) (H : Heap) (locs : List Loc), Inv σ τ → zLH s D cy ax am σ τ H locs → W p l e room_1 s m #[Value.ref b] below meth c H locs (ce + 1) (sl + 5) (lw_Z below #[Value.ref b] s) (F0 m 869 ls [])) : W p l e room_1 s m #[Value.ref b] below meth c H locs ce sl (lw_Z below #[Value.ref b] s) (F0 m 652 ls []) := by
  have hx := C0.1
  have hb := C0.2.1
  refine lv_aload_n hx hb dL_law_652.1 rfl (lv_at hl 1 rfl) ?_
  have hw := hst σ τ hI 
  refine law_callC C0 hK hns dL_law_653 mL_84 (c_X6_wheel hw) rfl (fun _ => rfl) hl.1 (Nat.le_of_ble_eq_true rfl) ⟨(Nat.le_of_ble_eq_true rfl), (Nat.le_of_ble_eq_true rfl)⟩ ⟨by omega, by omega⟩ hH (fun v1 σ1 H1 locs1 hw hH => ?_)
  refine lv_aload_n hx hb dL_law_656.1 rfl (lv_at hl 2 rfl) ?_
  refine law_callM C0 hK hns dL_law_657 mL_87 (c_X7_wheel hw) rfl (fun _ => rfl) hl.1 (Nat.le_of_ble_eq_true rfl) ⟨(Nat.le_of_ble_eq_true rfl), (Nat.le_of_ble_eq_true rfl)⟩ ⟨by omega, by omega⟩ hH (fun v2 τ1 H2 locs2 hw hH => ?_)
  refine lv_icmp_eq hx hb dL_law_660.1 dL_law_660.2.2 (fun _ => ?_) (fun h => absurd hw.1 h)
  refine W.widen (k := ce + 1) (n := sl + 5) (by omega) (by omega) ?_
  exact kk _ _ _ _ hw.2 hH
set_option maxHeartbeats 4000000 in
set_option maxRecDepth 100000 in
theorem law_case_turn {p : Program} {l : Launch} {e : Env} {s : State} {m : MethodId} {below : List Frame} {meth : Method} {c : Code} {b L : Nat} {xs : Nat → Int32} (hL : L ≤ 4096) (C0 : lw_At p s m meth c b L xs) {D : va_G} {cy : zC} (hK : va_K D vwCl (zty cy) s) (hns : zNs s) {Inv : zS → zS → Prop} (hst : zStep_turn Inv) {ax am ce sl i : Nat} {σ τ : zS} {H : Heap} {locs : List Loc} {ls : Array Slot} (hi : i + 8 ≤ L) (hce : ce + 1 ≤ 600000) (hsl : sl + 5 ≤ 7302250) (hI : Inv σ τ) (hH : zLH s D cy ax am σ τ H locs) (hl : lv_has ls 4 [(0, .ref b), (1, .ref ax), (2, .ref am), (3, .int (nI i))])
    (kk : ∀ (σ τ : zS) (H : Heap) (locs : List Loc), Inv σ τ → zLH s D cy ax am σ τ H locs → W p l e room_1 s m #[Value.ref b] below meth c H locs (ce + 1) (sl + 5) (lw_Z below #[Value.ref b] s) (F0 m 869 ls [])) : W p l e room_1 s m #[Value.ref b] below meth c H locs ce sl (lw_Z below #[Value.ref b] s) (F0 m 665 ls []) := by
  have hx := C0.1
  have hb := C0.2.1
  refine lv_aload_n hx hb dL_law_665.1 rfl (lv_at hl 1 rfl) ?_
  refine lv_aload_n hx hb dL_law_666.1 rfl (lv_at hl 0 rfl) ?_
  refine lv_iload_n hx hb dL_law_667.1 rfl (lv_at hl 3 rfl) ?_
  refine lv_iconst hx hb dL_law_668.1 zi1 ?_
  refine lv_iadd hx hb dL_law_669.1 ?_
  refine law_sld C0 hH (law_in (k := 1) hL (by omega)) dL_law_670 ?_
  have hw := hst σ τ hI (xs (nI i + (1 : Int32)).toNatClampNeg)
  refine law_callC C0 hK hns dL_law_671 mL_88 (c_X6_turn hw) rfl (fun _ => rfl) hl.1 (Nat.le_of_ble_eq_true rfl) ⟨(Nat.le_of_ble_eq_true rfl), (Nat.le_of_ble_eq_true rfl)⟩ ⟨by omega, by omega⟩ hH (fun v1 σ1 H1 locs1 hw hH => ?_)
  refine lv_aload_n hx hb dL_law_674.1 rfl (lv_at hl 2 rfl) ?_
  refine lv_aload_n hx hb dL_law_675.1 rfl (lv_at hl 0 rfl) ?_
  refine lv_iload_n hx hb dL_law_676.1 rfl (lv_at hl 3 rfl) ?_
  refine lv_iconst hx hb dL_law_677.1 zi1 ?_
  refine lv_iadd hx hb dL_law_678.1 ?_
  refine law_sld C0 hH (law_in (k := 1) hL (by omega)) dL_law_679 ?_
  refine law_callM C0 hK hns dL_law_680 mL_91 (c_X7_turn hw) rfl (fun _ => rfl) hl.1 (Nat.le_of_ble_eq_true rfl) ⟨(Nat.le_of_ble_eq_true rfl), (Nat.le_of_ble_eq_true rfl)⟩ ⟨by omega, by omega⟩ hH (fun v2 τ1 H2 locs2 hw hH => ?_)
  refine lv_icmp_eq hx hb dL_law_683.1 dL_law_683.2.2 (fun _ => ?_) (fun h => absurd hw.1 h)
  refine W.widen (k := ce + 1) (n := sl + 5) (by omega) (by omega) ?_
  exact kk _ _ _ _ hw.2 hH
set_option maxHeartbeats 4000000 in
set_option maxRecDepth 100000 in
theorem law_case_counted {p : Program} {l : Launch} {e : Env} {s : State} {m : MethodId} {below : List Frame} {meth : Method} {c : Code} {b L : Nat} {xs : Nat → Int32} (hL : L ≤ 4096) (C0 : lw_At p s m meth c b L xs) {D : va_G} {cy : zC} (hK : va_K D vwCl (zty cy) s) (hns : zNs s) {Inv : zS → zS → Prop} (hst : zStep_counted Inv) {ax am ce sl i : Nat} {σ τ : zS} {H : Heap} {locs : List Loc} {ls : Array Slot} (hi : i + 8 ≤ L) (hce : ce + 1 ≤ 600000) (hsl : sl + 5 ≤ 7302250) (hI : Inv σ τ) (hH : zLH s D cy ax am σ τ H locs) (hl : lv_has ls 4 [(0, .ref b), (1, .ref ax), (2, .ref am), (3, .int (nI i))])
    (kk : ∀ (σ τ : zS) (H : Heap) (locs : List Loc), Inv σ τ → zLH s D cy ax am σ τ H locs → W p l e room_1 s m #[Value.ref b] below meth c H locs (ce + 1) (sl + 5) (lw_Z below #[Value.ref b] s) (F0 m 869 ls [])) : W p l e room_1 s m #[Value.ref b] below meth c H locs ce sl (lw_Z below #[Value.ref b] s) (F0 m 688 ls []) := by
  have hx := C0.1
  have hb := C0.2.1
  refine lv_aload_n hx hb dL_law_688.1 rfl (lv_at hl 1 rfl) ?_
  refine lv_aload_n hx hb dL_law_689.1 rfl (lv_at hl 0 rfl) ?_
  refine lv_iload_n hx hb dL_law_690.1 rfl (lv_at hl 3 rfl) ?_
  refine lv_iconst hx hb dL_law_691.1 zi1 ?_
  refine lv_iadd hx hb dL_law_692.1 ?_
  refine law_sld C0 hH (law_in (k := 1) hL (by omega)) dL_law_693 ?_
  refine lv_aload_n hx hb dL_law_694.1 rfl (lv_at hl 0 rfl) ?_
  refine lv_iload_n hx hb dL_law_695.1 rfl (lv_at hl 3 rfl) ?_
  refine lv_iconst hx hb dL_law_696.1 zi2 ?_
  refine lv_iadd hx hb dL_law_697.1 ?_
  refine law_sld C0 hH (law_in (k := 2) hL (by omega)) dL_law_698 ?_
  have hw := hst σ τ hI (xs (nI i + (1 : Int32)).toNatClampNeg) (xs (nI i + (2 : Int32)).toNatClampNeg)
  refine law_callC C0 hK hns dL_law_699 mL_92 (c_X6_counted hw) rfl (fun _ => rfl) hl.1 (Nat.le_of_ble_eq_true rfl) ⟨(Nat.le_of_ble_eq_true rfl), (Nat.le_of_ble_eq_true rfl)⟩ ⟨by omega, by omega⟩ hH (fun v1 σ1 H1 locs1 hw hH => ?_)
  refine lv_aload_n hx hb dL_law_702.1 rfl (lv_at hl 2 rfl) ?_
  refine lv_aload_n hx hb dL_law_703.1 rfl (lv_at hl 0 rfl) ?_
  refine lv_iload_n hx hb dL_law_704.1 rfl (lv_at hl 3 rfl) ?_
  refine lv_iconst hx hb dL_law_705.1 zi1 ?_
  refine lv_iadd hx hb dL_law_706.1 ?_
  refine law_sld C0 hH (law_in (k := 1) hL (by omega)) dL_law_707 ?_
  refine lv_aload_n hx hb dL_law_708.1 rfl (lv_at hl 0 rfl) ?_
  refine lv_iload_n hx hb dL_law_709.1 rfl (lv_at hl 3 rfl) ?_
  refine lv_iconst hx hb dL_law_710.1 zi2 ?_
  refine lv_iadd hx hb dL_law_711.1 ?_
  refine law_sld C0 hH (law_in (k := 2) hL (by omega)) dL_law_712 ?_
  refine law_callM C0 hK hns dL_law_713 mL_95 (c_X7_counted hw) rfl (fun _ => rfl) hl.1 (Nat.le_of_ble_eq_true rfl) ⟨(Nat.le_of_ble_eq_true rfl), (Nat.le_of_ble_eq_true rfl)⟩ ⟨by omega, by omega⟩ hH (fun v2 τ1 H2 locs2 hw hH => ?_)
  refine lv_icmp_eq hx hb dL_law_716.1 dL_law_716.2.2 (fun _ => ?_) (fun h => absurd hw.1 h)
  refine W.widen (k := ce + 1) (n := sl + 5) (by omega) (by omega) ?_
  exact kk _ _ _ _ hw.2 hH
set_option maxHeartbeats 4000000 in
set_option maxRecDepth 100000 in
theorem law_case_tell {p : Program} {l : Launch} {e : Env} {s : State} {m : MethodId} {below : List Frame} {meth : Method} {c : Code} {b L : Nat} {xs : Nat → Int32} (hL : L ≤ 4096) (C0 : lw_At p s m meth c b L xs) {D : va_G} {cy : zC} (hK : va_K D vwCl (zty cy) s) (hns : zNs s) {Inv : zS → zS → Prop} (hst : zStep_tell Inv) {ax am ce sl i : Nat} {σ τ : zS} {H : Heap} {locs : List Loc} {ls : Array Slot} (hi : i + 8 ≤ L) (hce : ce + 1 ≤ 600000) (hsl : sl + 5 ≤ 7302250) (hI : Inv σ τ) (hH : zLH s D cy ax am σ τ H locs) (hl : lv_has ls 4 [(0, .ref b), (1, .ref ax), (2, .ref am), (3, .int (nI i))])
    (kk : ∀ (σ τ : zS) (H : Heap) (locs : List Loc), Inv σ τ → zLH s D cy ax am σ τ H locs → W p l e room_1 s m #[Value.ref b] below meth c H locs (ce + 1) (sl + 5) (lw_Z below #[Value.ref b] s) (F0 m 869 ls [])) : W p l e room_1 s m #[Value.ref b] below meth c H locs ce sl (lw_Z below #[Value.ref b] s) (F0 m 721 ls []) := by
  have hx := C0.1
  have hb := C0.2.1
  refine lv_aload_n hx hb dL_law_721.1 rfl (lv_at hl 1 rfl) ?_
  refine lv_aload_n hx hb dL_law_722.1 rfl (lv_at hl 0 rfl) ?_
  refine lv_iload_n hx hb dL_law_723.1 rfl (lv_at hl 3 rfl) ?_
  refine lv_iconst hx hb dL_law_724.1 zi1 ?_
  refine lv_iadd hx hb dL_law_725.1 ?_
  refine law_sld C0 hH (law_in (k := 1) hL (by omega)) dL_law_726 ?_
  refine lv_aload_n hx hb dL_law_727.1 rfl (lv_at hl 0 rfl) ?_
  refine lv_iload_n hx hb dL_law_728.1 rfl (lv_at hl 3 rfl) ?_
  refine lv_iconst hx hb dL_law_729.1 zi2 ?_
  refine lv_iadd hx hb dL_law_730.1 ?_
  refine law_sld C0 hH (law_in (k := 2) hL (by omega)) dL_law_731 ?_
  refine lv_aload_n hx hb dL_law_732.1 rfl (lv_at hl 0 rfl) ?_
  refine lv_iload_n hx hb dL_law_733.1 rfl (lv_at hl 3 rfl) ?_
  refine lv_iconst hx hb dL_law_734.1 zi3 ?_
  refine lv_iadd hx hb dL_law_735.1 ?_
  refine law_sld C0 hH (law_in (k := 3) hL (by omega)) dL_law_736 ?_
  have hw := hst σ τ hI (xs (nI i + (1 : Int32)).toNatClampNeg) (xs (nI i + (2 : Int32)).toNatClampNeg) (xs (nI i + (3 : Int32)).toNatClampNeg)
  refine law_callC C0 hK hns dL_law_737 mL_96 (c_X6_tell hw) rfl (fun _ => rfl) hl.1 (Nat.le_of_ble_eq_true rfl) ⟨(Nat.le_of_ble_eq_true rfl), (Nat.le_of_ble_eq_true rfl)⟩ ⟨by omega, by omega⟩ hH (fun v1 σ1 H1 locs1 hw hH => ?_)
  refine lv_aload_n hx hb dL_law_740.1 rfl (lv_at hl 2 rfl) ?_
  refine lv_aload_n hx hb dL_law_741.1 rfl (lv_at hl 0 rfl) ?_
  refine lv_iload_n hx hb dL_law_742.1 rfl (lv_at hl 3 rfl) ?_
  refine lv_iconst hx hb dL_law_743.1 zi1 ?_
  refine lv_iadd hx hb dL_law_744.1 ?_
  refine law_sld C0 hH (law_in (k := 1) hL (by omega)) dL_law_745 ?_
  refine lv_aload_n hx hb dL_law_746.1 rfl (lv_at hl 0 rfl) ?_
  refine lv_iload_n hx hb dL_law_747.1 rfl (lv_at hl 3 rfl) ?_
  refine lv_iconst hx hb dL_law_748.1 zi2 ?_
  refine lv_iadd hx hb dL_law_749.1 ?_
  refine law_sld C0 hH (law_in (k := 2) hL (by omega)) dL_law_750 ?_
  refine lv_aload_n hx hb dL_law_751.1 rfl (lv_at hl 0 rfl) ?_
  refine lv_iload_n hx hb dL_law_752.1 rfl (lv_at hl 3 rfl) ?_
  refine lv_iconst hx hb dL_law_753.1 zi3 ?_
  refine lv_iadd hx hb dL_law_754.1 ?_
  refine law_sld C0 hH (law_in (k := 3) hL (by omega)) dL_law_755 ?_
  refine law_callM C0 hK hns dL_law_756 mL_100 (c_X7_tell hw) rfl (fun _ => rfl) hl.1 (Nat.le_of_ble_eq_true rfl) ⟨(Nat.le_of_ble_eq_true rfl), (Nat.le_of_ble_eq_true rfl)⟩ ⟨by omega, by omega⟩ hH (fun v2 τ1 H2 locs2 hw hH => ?_)
  refine lv_icmp_eq hx hb dL_law_759.1 dL_law_759.2.2 (fun _ => ?_) (fun h => absurd hw.1 h)
  refine W.widen (k := ce + 1) (n := sl + 5) (by omega) (by omega) ?_
  exact kk _ _ _ _ hw.2 hH
set_option maxHeartbeats 4000000 in
set_option maxRecDepth 100000 in
theorem law_case_fits {p : Program} {l : Launch} {e : Env} {s : State} {m : MethodId} {below : List Frame} {meth : Method} {c : Code} {b L : Nat} {xs : Nat → Int32} (hL : L ≤ 4096) (C0 : lw_At p s m meth c b L xs) {D : va_G} {cy : zC} (hK : va_K D vwCl (zty cy) s) (hns : zNs s) {Inv : zS → zS → Prop} (hst : zStep_fits Inv) {ax am ce sl i : Nat} {σ τ : zS} {H : Heap} {locs : List Loc} {ls : Array Slot} (hi : i + 8 ≤ L) (hce : ce + 1 ≤ 600000) (hsl : sl + 5 ≤ 7302250) (hI : Inv σ τ) (hH : zLH s D cy ax am σ τ H locs) (hl : lv_has ls 4 [(0, .ref b), (1, .ref ax), (2, .ref am), (3, .int (nI i))])
    (kk : ∀ (σ τ : zS) (H : Heap) (locs : List Loc), Inv σ τ → zLH s D cy ax am σ τ H locs → W p l e room_1 s m #[Value.ref b] below meth c H locs (ce + 1) (sl + 5) (lw_Z below #[Value.ref b] s) (F0 m 869 ls [])) : W p l e room_1 s m #[Value.ref b] below meth c H locs ce sl (lw_Z below #[Value.ref b] s) (F0 m 764 ls []) := by
  have hx := C0.1
  have hb := C0.2.1
  refine lv_aload_n hx hb dL_law_764.1 rfl (lv_at hl 1 rfl) ?_
  refine lv_aload_n hx hb dL_law_765.1 rfl (lv_at hl 0 rfl) ?_
  refine lv_iload_n hx hb dL_law_766.1 rfl (lv_at hl 3 rfl) ?_
  refine lv_iconst hx hb dL_law_767.1 zi1 ?_
  refine lv_iadd hx hb dL_law_768.1 ?_
  refine law_sld C0 hH (law_in (k := 1) hL (by omega)) dL_law_769 ?_
  have hw := hst σ τ hI (xs (nI i + (1 : Int32)).toNatClampNeg)
  refine law_callC C0 hK hns dL_law_770 mL_101 (c_X6_fits hw) rfl (fun _ => rfl) hl.1 (Nat.le_of_ble_eq_true rfl) ⟨(Nat.le_of_ble_eq_true rfl), (Nat.le_of_ble_eq_true rfl)⟩ ⟨by omega, by omega⟩ hH (fun v1 σ1 H1 locs1 hw hH => ?_)
  refine lv_aload_n hx hb dL_law_773.1 rfl (lv_at hl 2 rfl) ?_
  refine lv_aload_n hx hb dL_law_774.1 rfl (lv_at hl 0 rfl) ?_
  refine lv_iload_n hx hb dL_law_775.1 rfl (lv_at hl 3 rfl) ?_
  refine lv_iconst hx hb dL_law_776.1 zi1 ?_
  refine lv_iadd hx hb dL_law_777.1 ?_
  refine law_sld C0 hH (law_in (k := 1) hL (by omega)) dL_law_778 ?_
  refine law_callM C0 hK hns dL_law_779 mL_104 (c_X7_fits hw) rfl (fun _ => rfl) hl.1 (Nat.le_of_ble_eq_true rfl) ⟨(Nat.le_of_ble_eq_true rfl), (Nat.le_of_ble_eq_true rfl)⟩ ⟨by omega, by omega⟩ hH (fun v2 τ1 H2 locs2 hw hH => ?_)
  refine lv_icmp_eq hx hb dL_law_782.1 dL_law_782.2.2 (fun _ => ?_) (fun h => absurd hw.1 h)
  refine W.widen (k := ce + 1) (n := sl + 5) (by omega) (by omega) ?_
  exact kk _ _ _ _ hw.2 hH
set_option maxHeartbeats 4000000 in
set_option maxRecDepth 100000 in
theorem law_case_wrong {p : Program} {l : Launch} {e : Env} {s : State} {m : MethodId} {below : List Frame} {meth : Method} {c : Code} {b L : Nat} {xs : Nat → Int32} (hL : L ≤ 4096) (C0 : lw_At p s m meth c b L xs) {D : va_G} {cy : zC} (hK : va_K D vwCl (zty cy) s) (hns : zNs s) {Inv : zS → zS → Prop} (hst : zStep_wrong Inv) {ax am ce sl i : Nat} {σ τ : zS} {H : Heap} {locs : List Loc} {ls : Array Slot} (hi : i + 8 ≤ L) (hce : ce + 1 ≤ 600000) (hsl : sl + 5 ≤ 7302250) (hI : Inv σ τ) (hH : zLH s D cy ax am σ τ H locs) (hl : lv_has ls 4 [(0, .ref b), (1, .ref ax), (2, .ref am), (3, .int (nI i))])
    (kk : ∀ (σ τ : zS) (H : Heap) (locs : List Loc), Inv σ τ → zLH s D cy ax am σ τ H locs → W p l e room_1 s m #[Value.ref b] below meth c H locs (ce + 1) (sl + 5) (lw_Z below #[Value.ref b] s) (F0 m 869 ls [])) : W p l e room_1 s m #[Value.ref b] below meth c H locs ce sl (lw_Z below #[Value.ref b] s) (F0 m 787 ls []) := by
  have hx := C0.1
  have hb := C0.2.1
  refine lv_aload_n hx hb dL_law_787.1 rfl (lv_at hl 1 rfl) ?_
  have hw := hst σ τ hI 
  refine law_callC C0 hK hns dL_law_788 mL_105 (c_X6_wrong hw) rfl (fun _ => rfl) hl.1 (Nat.le_of_ble_eq_true rfl) ⟨(Nat.le_of_ble_eq_true rfl), (Nat.le_of_ble_eq_true rfl)⟩ ⟨by omega, by omega⟩ hH (fun v1 σ1 H1 locs1 hw hH => ?_)
  refine lv_aload_n hx hb dL_law_791.1 rfl (lv_at hl 2 rfl) ?_
  refine law_callM C0 hK hns dL_law_792 mL_108 (c_X7_wrong hw) rfl (fun _ => rfl) hl.1 (Nat.le_of_ble_eq_true rfl) ⟨(Nat.le_of_ble_eq_true rfl), (Nat.le_of_ble_eq_true rfl)⟩ ⟨by omega, by omega⟩ hH (fun v2 τ1 H2 locs2 hw hH => ?_)
  refine lv_icmp_eq hx hb dL_law_795.1 dL_law_795.2.2 (fun _ => ?_) (fun h => absurd hw.1 h)
  refine W.widen (k := ce + 1) (n := sl + 5) (by omega) (by omega) ?_
  exact kk _ _ _ _ hw.2 hH
set_option maxHeartbeats 4000000 in
set_option maxRecDepth 100000 in
theorem law_case_keep {p : Program} {l : Launch} {e : Env} {s : State} {m : MethodId} {below : List Frame} {meth : Method} {c : Code} {b L : Nat} {xs : Nat → Int32} (hL : L ≤ 4096) (C0 : lw_At p s m meth c b L xs) {D : va_G} {cy : zC} (hK : va_K D vwCl (zty cy) s) (hns : zNs s) {Inv : zS → zS → Prop} (hst : zStep_keep Inv) {ax am ce sl i : Nat} {σ τ : zS} {H : Heap} {locs : List Loc} {ls : Array Slot} (hi : i + 8 ≤ L) (hce : ce + 1 ≤ 600000) (hsl : sl + 5 ≤ 7302250) (hI : Inv σ τ) (hH : zLH s D cy ax am σ τ H locs) (hl : lv_has ls 4 [(0, .ref b), (1, .ref ax), (2, .ref am), (3, .int (nI i))])
    (kk : ∀ (σ τ : zS) (H : Heap) (locs : List Loc), Inv σ τ → zLH s D cy ax am σ τ H locs → W p l e room_1 s m #[Value.ref b] below meth c H locs (ce + 1) (sl + 5) (lw_Z below #[Value.ref b] s) (F0 m 869 ls [])) : W p l e room_1 s m #[Value.ref b] below meth c H locs ce sl (lw_Z below #[Value.ref b] s) (F0 m 800 ls []) := by
  have hx := C0.1
  have hb := C0.2.1
  refine lv_aload_n hx hb dL_law_800.1 rfl (lv_at hl 1 rfl) ?_
  have hw := hst σ τ hI 
  refine law_callC C0 hK hns dL_law_801 mL_109 (c_X6_keep hw) rfl (fun _ => rfl) hl.1 (Nat.le_of_ble_eq_true rfl) ⟨(Nat.le_of_ble_eq_true rfl), (Nat.le_of_ble_eq_true rfl)⟩ ⟨by omega, by omega⟩ hH (fun v1 σ1 H1 locs1 hw hH => ?_)
  refine lv_aload_n hx hb dL_law_804.1 rfl (lv_at hl 2 rfl) ?_
  refine law_callM C0 hK hns dL_law_805 mL_112 (c_X7_keep hw) rfl (fun _ => rfl) hl.1 (Nat.le_of_ble_eq_true rfl) ⟨(Nat.le_of_ble_eq_true rfl), (Nat.le_of_ble_eq_true rfl)⟩ ⟨by omega, by omega⟩ hH (fun v2 τ1 H2 locs2 hw hH => ?_)
  refine lv_icmp_eq hx hb dL_law_808.1 dL_law_808.2.2 (fun _ => ?_) (fun h => absurd hw.1 h)
  refine W.widen (k := ce + 1) (n := sl + 5) (by omega) (by omega) ?_
  exact kk _ _ _ _ hw.2 hH
set_option maxHeartbeats 4000000 in
set_option maxRecDepth 100000 in
theorem law_case_beside {p : Program} {l : Launch} {e : Env} {s : State} {m : MethodId} {below : List Frame} {meth : Method} {c : Code} {b L : Nat} {xs : Nat → Int32} (hL : L ≤ 4096) (C0 : lw_At p s m meth c b L xs) {D : va_G} {cy : zC} (hK : va_K D vwCl (zty cy) s) (hns : zNs s) {Inv : zS → zS → Prop} (hst : zStep_beside Inv) {ax am ce sl i : Nat} {σ τ : zS} {H : Heap} {locs : List Loc} {ls : Array Slot} (hi : i + 8 ≤ L) (hce : ce + 1 ≤ 600000) (hsl : sl + 5 ≤ 7302250) (hI : Inv σ τ) (hH : zLH s D cy ax am σ τ H locs) (hl : lv_has ls 4 [(0, .ref b), (1, .ref ax), (2, .ref am), (3, .int (nI i))])
    (kk : ∀ (σ τ : zS) (H : Heap) (locs : List Loc), Inv σ τ → zLH s D cy ax am σ τ H locs → W p l e room_1 s m #[Value.ref b] below meth c H locs (ce + 1) (sl + 5) (lw_Z below #[Value.ref b] s) (F0 m 869 ls [])) : W p l e room_1 s m #[Value.ref b] below meth c H locs ce sl (lw_Z below #[Value.ref b] s) (F0 m 813 ls []) := by
  have hx := C0.1
  have hb := C0.2.1
  refine lv_aload_n hx hb dL_law_813.1 rfl (lv_at hl 1 rfl) ?_
  refine lv_aload_n hx hb dL_law_814.1 rfl (lv_at hl 0 rfl) ?_
  refine lv_iload_n hx hb dL_law_815.1 rfl (lv_at hl 3 rfl) ?_
  refine lv_iconst hx hb dL_law_816.1 zi1 ?_
  refine lv_iadd hx hb dL_law_817.1 ?_
  refine law_sld C0 hH (law_in (k := 1) hL (by omega)) dL_law_818 ?_
  refine lv_aload_n hx hb dL_law_819.1 rfl (lv_at hl 0 rfl) ?_
  refine lv_iload_n hx hb dL_law_820.1 rfl (lv_at hl 3 rfl) ?_
  refine lv_iconst hx hb dL_law_821.1 zi2 ?_
  refine lv_iadd hx hb dL_law_822.1 ?_
  refine law_sld C0 hH (law_in (k := 2) hL (by omega)) dL_law_823 ?_
  have hw := hst σ τ hI (xs (nI i + (1 : Int32)).toNatClampNeg) (xs (nI i + (2 : Int32)).toNatClampNeg)
  refine law_callC C0 hK hns dL_law_824 mL_113 (c_X6_beside hw) rfl (fun _ => rfl) hl.1 (Nat.le_of_ble_eq_true rfl) ⟨(Nat.le_of_ble_eq_true rfl), (Nat.le_of_ble_eq_true rfl)⟩ ⟨by omega, by omega⟩ hH (fun v1 σ1 H1 locs1 hw hH => ?_)
  refine lv_aload_n hx hb dL_law_827.1 rfl (lv_at hl 2 rfl) ?_
  refine lv_aload_n hx hb dL_law_828.1 rfl (lv_at hl 0 rfl) ?_
  refine lv_iload_n hx hb dL_law_829.1 rfl (lv_at hl 3 rfl) ?_
  refine lv_iconst hx hb dL_law_830.1 zi1 ?_
  refine lv_iadd hx hb dL_law_831.1 ?_
  refine law_sld C0 hH (law_in (k := 1) hL (by omega)) dL_law_832 ?_
  refine lv_aload_n hx hb dL_law_833.1 rfl (lv_at hl 0 rfl) ?_
  refine lv_iload_n hx hb dL_law_834.1 rfl (lv_at hl 3 rfl) ?_
  refine lv_iconst hx hb dL_law_835.1 zi2 ?_
  refine lv_iadd hx hb dL_law_836.1 ?_
  refine law_sld C0 hH (law_in (k := 2) hL (by omega)) dL_law_837 ?_
  refine law_callM C0 hK hns dL_law_838 mL_116 (c_X7_beside hw) rfl (fun _ => rfl) hl.1 (Nat.le_of_ble_eq_true rfl) ⟨(Nat.le_of_ble_eq_true rfl), (Nat.le_of_ble_eq_true rfl)⟩ ⟨by omega, by omega⟩ hH (fun v2 τ1 H2 locs2 hw hH => ?_)
  refine lv_icmp_eq hx hb dL_law_841.1 dL_law_841.2.2 (fun _ => ?_) (fun h => absurd hw.1 h)
  refine W.widen (k := ce + 1) (n := sl + 5) (by omega) (by omega) ?_
  exact kk _ _ _ _ hw.2 hH
set_option maxHeartbeats 4000000 in
set_option maxRecDepth 100000 in
theorem law_case_count {p : Program} {l : Launch} {e : Env} {s : State} {m : MethodId} {below : List Frame} {meth : Method} {c : Code} {b L : Nat} {xs : Nat → Int32} (hL : L ≤ 4096) (C0 : lw_At p s m meth c b L xs) {D : va_G} {cy : zC} (hK : va_K D vwCl (zty cy) s) (hns : zNs s) {Inv : zS → zS → Prop} (hst : zStep_count Inv) {ax am ce sl i : Nat} {σ τ : zS} {H : Heap} {locs : List Loc} {ls : Array Slot} (hi : i + 8 ≤ L) (hce : ce + 1 ≤ 600000) (hsl : sl + 5 ≤ 7302250) (hI : Inv σ τ) (hH : zLH s D cy ax am σ τ H locs) (hl : lv_has ls 4 [(0, .ref b), (1, .ref ax), (2, .ref am), (3, .int (nI i))])
    (kk : ∀ (σ τ : zS) (H : Heap) (locs : List Loc), Inv σ τ → zLH s D cy ax am σ τ H locs → W p l e room_1 s m #[Value.ref b] below meth c H locs (ce + 1) (sl + 5) (lw_Z below #[Value.ref b] s) (F0 m 869 ls [])) : W p l e room_1 s m #[Value.ref b] below meth c H locs ce sl (lw_Z below #[Value.ref b] s) (F0 m 846 ls []) := by
  have hx := C0.1
  have hb := C0.2.1
  refine lv_aload_n hx hb dL_law_846.1 rfl (lv_at hl 1 rfl) ?_
  refine lv_aload_n hx hb dL_law_847.1 rfl (lv_at hl 0 rfl) ?_
  refine lv_iload_n hx hb dL_law_848.1 rfl (lv_at hl 3 rfl) ?_
  refine lv_iconst hx hb dL_law_849.1 zi1 ?_
  refine lv_iadd hx hb dL_law_850.1 ?_
  refine law_sld C0 hH (law_in (k := 1) hL (by omega)) dL_law_851 ?_
  have hw := hst σ τ hI (xs (nI i + (1 : Int32)).toNatClampNeg)
  refine law_callC C0 hK hns dL_law_852 mL_117 (c_X6_count hw) rfl (fun _ => rfl) hl.1 (Nat.le_of_ble_eq_true rfl) ⟨(Nat.le_of_ble_eq_true rfl), (Nat.le_of_ble_eq_true rfl)⟩ ⟨by omega, by omega⟩ hH (fun v1 σ1 H1 locs1 hw hH => ?_)
  refine lv_aload_n hx hb dL_law_855.1 rfl (lv_at hl 2 rfl) ?_
  refine lv_aload_n hx hb dL_law_856.1 rfl (lv_at hl 0 rfl) ?_
  refine lv_iload_n hx hb dL_law_857.1 rfl (lv_at hl 3 rfl) ?_
  refine lv_iconst hx hb dL_law_858.1 zi1 ?_
  refine lv_iadd hx hb dL_law_859.1 ?_
  refine law_sld C0 hH (law_in (k := 1) hL (by omega)) dL_law_860 ?_
  refine law_callM C0 hK hns dL_law_861 mL_120 (c_X7_count hw) rfl (fun _ => rfl) hl.1 (Nat.le_of_ble_eq_true rfl) ⟨(Nat.le_of_ble_eq_true rfl), (Nat.le_of_ble_eq_true rfl)⟩ ⟨by omega, by omega⟩ hH (fun v2 τ1 H2 locs2 hw hH => ?_)
  refine lv_icmp_eq hx hb dL_law_864.1 dL_law_864.2.2 (fun _ => ?_) (fun h => absurd hw.1 h)
  refine W.widen (k := ce + 1) (n := sl + 5) (by omega) (by omega) ?_
  exact kk _ _ _ _ hw.2 hH
/-- every call, one after the other -/
def zSteps (Inv : zS → zS → Prop) : Prop := zStep_house Inv ∧ zStep_person Inv ∧ zStep_speed Inv ∧ zStep_anew Inv ∧ zStep_ticks Inv ∧ zStep_stop Inv ∧ zStep_shut Inv ∧ zStep_box Inv ∧ zStep_left Inv ∧ zStep_about Inv ∧ zStep_stands Inv ∧ zStep_safe Inv ∧ zStep_cost Inv ∧ zStep_bestSpeed Inv ∧ zStep_bestStairs Inv ∧ zStep_day Inv ∧ zStep_wheel Inv ∧ zStep_turn Inv ∧ zStep_counted Inv ∧ zStep_tell Inv ∧ zStep_fits Inv ∧ zStep_wrong Inv ∧ zStep_keep Inv ∧ zStep_beside Inv ∧ zStep_count Inv
set_option maxHeartbeats 4000000 in
set_option maxRecDepth 100000 in
theorem law_loop {p : Program} {l : Launch} {e : Env} {s : State} {m : MethodId} {below : List Frame} {meth : Method} {c : Code} {b L : Nat} {xs : Nat → Int32} (hL : L ≤ 4096) (C0 : lw_At p s m meth c b L xs) {D : va_G} {cy : zC} (hK : va_K D vwCl (zty cy) s) (hns : zNs s) {Inv : zS → zS → Prop} (hst : zSteps Inv) {ax am : Nat} : ∀ (n j : Nat) (σ τ : zS) (H : Heap) (locs : List Loc) (ls : Array Slot), 8 * j ≤ 4096 → 513 ≤ j + n → Inv σ τ → zLH s D cy ax am σ τ H locs → lv_has ls 4 [(0, .ref b), (1, .ref ax), (2, .ref am), (3, .int (nI (8 * j)))] → W p l e room_1 s m #[Value.ref b] below meth c H locs (76 + j) (2376 + 5 * j) (lw_Z below #[Value.ref b] s) (F0 m 18 ls []) := by
  have hx := C0.1
  have hb := C0.2.1
  obtain ⟨h_house, h_person, h_speed, h_anew, h_ticks, h_stop, h_shut, h_box, h_left, h_about, h_stands, h_safe, h_cost, h_bestSpeed, h_bestStairs, h_day, h_wheel, h_turn, h_counted, h_tell, h_fits, h_wrong, h_keep, h_beside, h_count⟩ := hst
  intro n
  induction n with
  | zero => intro j σ τ H locs ls h1 h2; omega
  | succ n ih =>
    intro j σ τ H locs ls h1 h2 hI hH hl
    refine lv_iload_n hx hb dL_law_18.1 rfl (lv_at hl 3 rfl) ?_
    refine lv_aload_n hx hb dL_law_19.1 rfl (lv_at hl 0 rfl) ?_
    refine law_slen C0 hH dL_law_20 ?_
    refine lv_bipush hx hb dL_law_21.1 zbp8 ?_
    refine lv_isub hx hb dL_law_23.1 ?_
    refine lv_icmp_gt hx hb dL_law_24.1 dL_law_24.2.2 (fun _ => ?_) (fun hlt => ?_)
    · refine lv_iconst hx hb dL_law_875.1 zi1 ?_
      obtain ⟨ad, ad2, e1, e2, hP, hD, hS⟩ := hH
      refine va_forget (fun q hq => hS.2.2 q hq) ?_
      refine W.widen (k := 600000) (n := 7302250) (by omega) (by omega) ?_
      exact lw_ret hx hb C0.2.2.1 C0.2.2.2.2.2.2.2.2.1 dL_law_876.1
    have hi : 8 * j + 8 ≤ L := by
      have h3 : ¬ (nI L - nI 8 < nI (8 * j)) := hlt
      rw [Int32.lt_iff_toInt_lt, pk_sub_toInt (by omega) (by omega), nI_toInt (by omega)] at h3
      omega
    have kend : ∀ (σ τ : zS) (H : Heap) (locs : List Loc), Inv σ τ → zLH s D cy ax am σ τ H locs → W p l e room_1 s m #[Value.ref b] below meth c H locs (76 + j + 1) (2376 + 5 * j + 5) (lw_Z below #[Value.ref b] s) (F0 m 869 ls []) := fun σ τ H locs hI hH => by
      refine lv_iinc (k := 3) (v := nI (8 * (j + 1))) (lv' := [(3, .int (nI (8 * (j + 1)))), (0, .ref b), (1, .ref ax), (2, .ref am)]) hx hb dL_law_869.1 hl rfl ?_ (by decide) rfl (fun ls hl => ?_)
      · rw [zi8]; show nI (8 * j) + nI 8 = _; rw [nI_add]; rfl
      · refine lv_goto hx hb dL_law_872.1 dL_law_872.2.2 ?_
        exact ih (j + 1) σ τ H locs ls (by omega) (by omega) hI hH (lv_sub hl [1, 2, 3, 0] rfl)
    refine lv_aload_n hx hb dL_law_27.1 rfl (lv_at hl 0 rfl) ?_
    refine lv_iload_n hx hb dL_law_28.1 rfl (lv_at hl 3 rfl) ?_
    refine law_sld C0 hH (law_in0 hL (by omega)) dL_law_29 ?_
    refine lv_bipush hx hb dL_law_30.1 zbp31 ?_
    refine lv_iand hx hb dL_law_32.1 ?_
    generalize (xs (nI (8 * j)).toNatClampNeg &&& 31) = q
    by_cases s0 : q = (0 : Int32)
    · refine lv_tableIn (tgt := 148) (off := 115) hx hb dL_law_33.1 (by rw [s0]; decide) (by rw [s0]; decide) (by rw [s0]; decide) (by decide) ?_
      exact law_case_house hL C0 hK hns h_house hi (by omega) (by omega) hI hH hl kend
    by_cases s1 : q = (1 : Int32)
    · refine lv_tableIn (tgt := 201) (off := 168) hx hb dL_law_33.1 (by rw [s1]; decide) (by rw [s1]; decide) (by rw [s1]; decide) (by decide) ?_
      exact law_case_person hL C0 hK hns h_person hi (by omega) (by omega) hI hH hl kend
    by_cases s2 : q = (2 : Int32)
    · refine lv_tableIn (tgt := 288) (off := 255) hx hb dL_law_33.1 (by rw [s2]; decide) (by rw [s2]; decide) (by rw [s2]; decide) (by decide) ?_
      exact law_case_speed hL C0 hK hns h_speed hi (by omega) (by omega) hI hH hl kend
    by_cases s3 : q = (3 : Int32)
    · refine lv_tableIn (tgt := 311) (off := 278) hx hb dL_law_33.1 (by rw [s3]; decide) (by rw [s3]; decide) (by rw [s3]; decide) (by decide) ?_
      exact law_case_anew hL C0 hK hns h_anew hi (by omega) (by omega) hI hH hl kend
    by_cases s4 : q = (4 : Int32)
    · refine lv_tableIn (tgt := 324) (off := 291) hx hb dL_law_33.1 (by rw [s4]; decide) (by rw [s4]; decide) (by rw [s4]; decide) (by decide) ?_
      exact law_case_ticks hL C0 hK hns h_ticks hi (by omega) (by omega) hI hH hl kend
    by_cases s5 : q = (5 : Int32)
    · refine lv_tableIn (tgt := 347) (off := 314) hx hb dL_law_33.1 (by rw [s5]; decide) (by rw [s5]; decide) (by rw [s5]; decide) (by decide) ?_
      exact law_case_stop hL C0 hK hns h_stop hi (by omega) (by omega) hI hH hl kend
    by_cases s6 : q = (6 : Int32)
    · refine lv_tableIn (tgt := 386) (off := 353) hx hb dL_law_33.1 (by rw [s6]; decide) (by rw [s6]; decide) (by rw [s6]; decide) (by decide) ?_
      exact law_case_shut hL C0 hK hns h_shut hi (by omega) (by omega) hI hH hl kend
    by_cases s7 : q = (7 : Int32)
    · refine lv_tableIn (tgt := 435) (off := 402) hx hb dL_law_33.1 (by rw [s7]; decide) (by rw [s7]; decide) (by rw [s7]; decide) (by decide) ?_
      exact law_case_box hL C0 hK hns h_box hi (by omega) (by omega) hI hH hl kend
    by_cases s8 : q = (8 : Int32)
    · refine lv_tableIn (tgt := 468) (off := 435) hx hb dL_law_33.1 (by rw [s8]; decide) (by rw [s8]; decide) (by rw [s8]; decide) (by decide) ?_
      exact law_case_left hL C0 hK hns h_left hi (by omega) (by omega) hI hH hl kend
    by_cases s9 : q = (9 : Int32)
    · refine lv_tableIn (tgt := 481) (off := 448) hx hb dL_law_33.1 (by rw [s9]; decide) (by rw [s9]; decide) (by rw [s9]; decide) (by decide) ?_
      exact law_case_about hL C0 hK hns h_about hi (by omega) (by omega) hI hH hl kend
    by_cases s10 : q = (10 : Int32)
    · refine lv_tableIn (tgt := 514) (off := 481) hx hb dL_law_33.1 (by rw [s10]; decide) (by rw [s10]; decide) (by rw [s10]; decide) (by decide) ?_
      exact law_case_stands hL C0 hK hns h_stands hi (by omega) (by omega) hI hH hl kend
    by_cases s11 : q = (11 : Int32)
    · refine lv_tableIn (tgt := 547) (off := 514) hx hb dL_law_33.1 (by rw [s11]; decide) (by rw [s11]; decide) (by rw [s11]; decide) (by decide) ?_
      exact law_case_safe hL C0 hK hns h_safe hi (by omega) (by omega) hI hH hl kend
    by_cases s12 : q = (12 : Int32)
    · refine lv_tableIn (tgt := 570) (off := 537) hx hb dL_law_33.1 (by rw [s12]; decide) (by rw [s12]; decide) (by rw [s12]; decide) (by decide) ?_
      exact law_case_cost hL C0 hK hns h_cost hi (by omega) (by omega) hI hH hl kend
    by_cases s13 : q = (13 : Int32)
    · refine lv_tableIn (tgt := 603) (off := 570) hx hb dL_law_33.1 (by rw [s13]; decide) (by rw [s13]; decide) (by rw [s13]; decide) (by decide) ?_
      exact law_case_bestSpeed hL C0 hK hns h_bestSpeed hi (by omega) (by omega) hI hH hl kend
    by_cases s14 : q = (14 : Int32)
    · refine lv_tableIn (tgt := 616) (off := 583) hx hb dL_law_33.1 (by rw [s14]; decide) (by rw [s14]; decide) (by rw [s14]; decide) (by decide) ?_
      exact law_case_bestStairs hL C0 hK hns h_bestStairs hi (by omega) (by omega) hI hH hl kend
    by_cases s15 : q = (15 : Int32)
    · refine lv_tableIn (tgt := 629) (off := 596) hx hb dL_law_33.1 (by rw [s15]; decide) (by rw [s15]; decide) (by rw [s15]; decide) (by decide) ?_
      exact law_case_day hL C0 hK hns h_day hi (by omega) (by omega) hI hH hl kend
    by_cases s16 : q = (16 : Int32)
    · refine lv_tableIn (tgt := 652) (off := 619) hx hb dL_law_33.1 (by rw [s16]; decide) (by rw [s16]; decide) (by rw [s16]; decide) (by decide) ?_
      exact law_case_wheel hL C0 hK hns h_wheel hi (by omega) (by omega) hI hH hl kend
    by_cases s17 : q = (17 : Int32)
    · refine lv_tableIn (tgt := 665) (off := 632) hx hb dL_law_33.1 (by rw [s17]; decide) (by rw [s17]; decide) (by rw [s17]; decide) (by decide) ?_
      exact law_case_turn hL C0 hK hns h_turn hi (by omega) (by omega) hI hH hl kend
    by_cases s18 : q = (18 : Int32)
    · refine lv_tableIn (tgt := 688) (off := 655) hx hb dL_law_33.1 (by rw [s18]; decide) (by rw [s18]; decide) (by rw [s18]; decide) (by decide) ?_
      exact law_case_counted hL C0 hK hns h_counted hi (by omega) (by omega) hI hH hl kend
    by_cases s19 : q = (19 : Int32)
    · refine lv_tableIn (tgt := 721) (off := 688) hx hb dL_law_33.1 (by rw [s19]; decide) (by rw [s19]; decide) (by rw [s19]; decide) (by decide) ?_
      exact law_case_tell hL C0 hK hns h_tell hi (by omega) (by omega) hI hH hl kend
    by_cases s20 : q = (20 : Int32)
    · refine lv_tableIn (tgt := 764) (off := 731) hx hb dL_law_33.1 (by rw [s20]; decide) (by rw [s20]; decide) (by rw [s20]; decide) (by decide) ?_
      exact law_case_fits hL C0 hK hns h_fits hi (by omega) (by omega) hI hH hl kend
    by_cases s21 : q = (21 : Int32)
    · refine lv_tableIn (tgt := 787) (off := 754) hx hb dL_law_33.1 (by rw [s21]; decide) (by rw [s21]; decide) (by rw [s21]; decide) (by decide) ?_
      exact law_case_wrong hL C0 hK hns h_wrong hi (by omega) (by omega) hI hH hl kend
    by_cases s22 : q = (22 : Int32)
    · refine lv_tableIn (tgt := 800) (off := 767) hx hb dL_law_33.1 (by rw [s22]; decide) (by rw [s22]; decide) (by rw [s22]; decide) (by decide) ?_
      exact law_case_keep hL C0 hK hns h_keep hi (by omega) (by omega) hI hH hl kend
    by_cases s23 : q = (23 : Int32)
    · refine lv_tableIn (tgt := 813) (off := 780) hx hb dL_law_33.1 (by rw [s23]; decide) (by rw [s23]; decide) (by rw [s23]; decide) (by decide) ?_
      exact law_case_beside hL C0 hK hns h_beside hi (by omega) (by omega) hI hH hl kend
    by_cases s24 : q = (24 : Int32)
    · refine lv_tableIn (tgt := 846) (off := 813) hx hb dL_law_33.1 (by rw [s24]; decide) (by rw [s24]; decide) (by rw [s24]; decide) (by decide) ?_
      exact law_case_count hL C0 hK hns h_count hi (by omega) (by omega) hI hH hl kend
    have s0 := zne (0 : Int32) (0) (by decide) s0
    have s1 := zne (1 : Int32) (1) (by decide) s1
    have s2 := zne (2 : Int32) (2) (by decide) s2
    have s3 := zne (3 : Int32) (3) (by decide) s3
    have s4 := zne (4 : Int32) (4) (by decide) s4
    have s5 := zne (5 : Int32) (5) (by decide) s5
    have s6 := zne (6 : Int32) (6) (by decide) s6
    have s7 := zne (7 : Int32) (7) (by decide) s7
    have s8 := zne (8 : Int32) (8) (by decide) s8
    have s9 := zne (9 : Int32) (9) (by decide) s9
    have s10 := zne (10 : Int32) (10) (by decide) s10
    have s11 := zne (11 : Int32) (11) (by decide) s11
    have s12 := zne (12 : Int32) (12) (by decide) s12
    have s13 := zne (13 : Int32) (13) (by decide) s13
    have s14 := zne (14 : Int32) (14) (by decide) s14
    have s15 := zne (15 : Int32) (15) (by decide) s15
    have s16 := zne (16 : Int32) (16) (by decide) s16
    have s17 := zne (17 : Int32) (17) (by decide) s17
    have s18 := zne (18 : Int32) (18) (by decide) s18
    have s19 := zne (19 : Int32) (19) (by decide) s19
    have s20 := zne (20 : Int32) (20) (by decide) s20
    have s21 := zne (21 : Int32) (21) (by decide) s21
    have s22 := zne (22 : Int32) (22) (by decide) s22
    have s23 := zne (23 : Int32) (23) (by decide) s23
    have s24 := zne (24 : Int32) (24) (by decide) s24
    refine lv_tableOut (tgt := 869) hx hb dL_law_33.1 (by omega) (by decide) ?_
    refine W.widen (k := 76 + j + 1) (n := 2376 + 5 * j + 5) (by omega) (by omega) ?_
    exact kend σ τ H locs hI hH

def w_X7_in  (x0 x1 x2 : Int32) (σ : zS) (Q : Int32 → zS → Prop) : Prop := ((x0 < x1 → (((0 : Int32) = 0 ∨ (0 : Int32) = 1) ∧ Q (0 : Int32) σ)) ∧ (¬ (x0 < x1) → ((x2 < x0 → (((0 : Int32) = 0 ∨ (0 : Int32) = 1) ∧ Q (0 : Int32) σ)) ∧ (¬ (x2 < x0) → (((1 : Int32) = 0 ∨ (1 : Int32) = 1) ∧ Q (1 : Int32) σ)))))
set_option maxHeartbeats 4000000 in
set_option maxRecDepth 100000 in
theorem c_X7_in  {x0 x1 x2 : Int32} {σ : zS} {Q : Int32 → zS → Prop} (hw : w_X7_in x0 x1 x2 σ Q) : zAC yX7_in cX7_in 3 (some .boolean) { frames := 0, cells := 0, slots := 0, locals := 0 } [.int x0, .int x1, .int x2] zΓM zρM σ (zN zΓM zρM Q) := by
  refine z_entry (own := RX7) (ini := false) (plainFor_of_name pnX7) rfl (fun h => by cases h) (Nat.le_of_ble_eq_true rfl) ?_
  unfold w_X7_in at hw
  refine z_iload_n dX7_in_0 rfl rfl ?_
  refine z_iload_n dX7_in_1 rfl rfl ?_
  refine z_icmp_lt dX7_in_2 hw (fun hw => ?_) (fun hw => ?_)
  · refine z_iconst dX7_in_14 zi0 ?_
    exact z_zret dX7_in_15 (Nat.le_refl _) (Nat.le_refl _) rfl ⟨hw.1, ⟨rfl, rfl, hw.2⟩⟩
  · refine z_iload_n dX7_in_5 rfl rfl ?_
    refine z_iload_n dX7_in_6 rfl rfl ?_
    refine z_icmp_gt dX7_in_7 hw (fun hw => ?_) (fun hw => ?_)
    · refine z_iconst dX7_in_14 zi0 ?_
      exact z_zret dX7_in_15 (Nat.le_refl _) (Nat.le_refl _) rfl ⟨hw.1, ⟨rfl, rfl, hw.2⟩⟩
    · refine z_iconst dX7_in_10 zi1 ?_
      refine z_goto dX7_in_11 ?_
      exact z_zret dX7_in_15 (Nat.le_refl _) (Nat.le_refl _) rfl ⟨hw.1, ⟨rfl, rfl, hw.2⟩⟩
def w_X7_begins_J31 (Q : Int32 → zS → Prop) (K2 : Int32 → zS → Prop) (x1 s0 s1 : Int32) (σ : zS) : Prop := (vp_in s1 389 ∧ zlet (zA σ 8 s1.toNatClampNeg s0) fun t1 => K2 ((x1 + (1 : Int32))) t1)
def w_X7_begins_L2 (Q : Int32 → zS → Prop)  : Nat → Int32 → zS → Prop
  | 0, _, _ => False
  | n + 1, x1, σ => (((389 : Int32) ≤ x1 → Q 0 σ) ∧ (¬ ((389 : Int32) ≤ x1) → (w_X7_in x1 ((35 : Int32)) ((94 : Int32)) σ fun v1 t2 => ((v1 = 0 → w_X7_begins_J31 Q (fun a1 aσ => w_X7_begins_L2 Q  n a1 aσ) x1 ((0 : Int32)) x1 t2) ∧ (¬ (v1 = 0) → w_X7_begins_J31 Q (fun a1 aσ => w_X7_begins_L2 Q  n a1 aσ) x1 ((-4 : Int32)) x1 t2)))))
def w_X7_begins  (σ : zS) (Q : Int32 → zS → Prop) : Prop := ∃ m2, w_X7_begins_L2 Q  m2 ((0 : Int32)) σ
set_option maxHeartbeats 4000000 in
set_option maxRecDepth 100000 in
theorem j_X7_begins_31  {Q : Int32 → zS → Prop} {K2 : Int32 → zS → Prop} (hK2 : ∀ (a1 : Int32) (σ : zS), K2 a1 σ → zAW RX7 cX7_begins 2 none false { frames := 1, cells := 0, slots := 0, locals := 22 } zΓM.length (zN zΓM zρM Q) 2 [(0, .ref 0), (1, .int a1)] [] zΓM zρM σ 0 0) {x1 s0 s1 : Int32} {σ : zS} (hw : w_X7_begins_J31 Q K2 x1 s0 s1 σ) : zAW RX7 cX7_begins 2 none false { frames := 1, cells := 0, slots := 0, locals := 22 } zΓM.length (zN zΓM zρM Q) 31 [(0, .ref 0), (1, .int x1)] [.int s0, .int s1, .ref 8] zΓM zρM σ 0 0 := by
  unfold w_X7_begins_J31 at hw
  refine z_iastL dX7_begins_31 zm8 hw (fun hw => ?_)
  refine z_iinc dX7_begins_32 rfl zi1 (Nat.le_of_ble_eq_true rfl) ?_
  refine z_goto dX7_begins_35 ?_
  exact z_to (hK2 _ _ hw) ⟨rfl, rfl, trivial⟩
set_option maxHeartbeats 4000000 in
set_option maxRecDepth 100000 in
theorem l_X7_begins_2  {Q : Int32 → zS → Prop}   : ∀ (n : Nat) (x1 : Int32) (σ : zS), w_X7_begins_L2 Q  n x1 σ → zAW RX7 cX7_begins 2 none false { frames := 1, cells := 0, slots := 0, locals := 22 } zΓM.length (zN zΓM zρM Q) 2 [(0, .ref 0), (1, .int x1)] [] zΓM zρM σ 0 0 := by
  intro n
  induction n with
  | zero => intro x1 σ hw; exact hw.elim
  | succ n hK2 =>
    intro x1 σ hw
    rw [w_X7_begins_L2] at hw
    refine z_iload_n dX7_begins_2 rfl rfl ?_
    refine z_sipush dX7_begins_3 zsp389 ?_
    refine z_icmp_ge dX7_begins_6 hw (fun hw => ?_) (fun hw => ?_)
    · exact z_vret dX7_begins_38 (Nat.le_refl _) (Nat.le_refl _) rfl ⟨rfl, rfl, hw⟩
    · refine z_aload_n dX7_begins_9 rfl rfl ?_
      refine z_getr dX7_begins_10 fX7_47 zm0 zkX7_13 zrM13 ?_
      refine z_iload_n dX7_begins_13 rfl rfl ?_
      refine z_iload_n dX7_begins_14 rfl rfl ?_
      refine z_bipush dX7_begins_15 zbp35 ?_
      refine z_bipush dX7_begins_17 zbp94 ?_
      refine z_callS dX7_begins_19 mX7_65 (c_X7_in  hw) rfl rfl (Nat.le_of_ble_eq_true rfl) ⟨Nat.le_of_ble_eq_true rfl, Nat.le_of_ble_eq_true rfl⟩ ⟨Nat.le_refl _, Nat.le_refl _⟩ (fun _ _ hw => ?_)
      refine z_if_eq dX7_begins_22 hw (fun hw => ?_) (fun hw => ?_)
      · refine z_iconst dX7_begins_30 zi0 ?_
        exact z_to (j_X7_begins_31  hK2 hw) ⟨rfl, rfl, trivial⟩
      · refine z_bipush dX7_begins_25 zbpm4 ?_
        refine z_goto dX7_begins_27 ?_
        exact z_to (j_X7_begins_31  hK2 hw) ⟨rfl, rfl, trivial⟩
set_option maxHeartbeats 4000000 in
set_option maxRecDepth 100000 in
theorem c_X7_begins  {σ : zS} {Q : Int32 → zS → Prop} (hw : w_X7_begins  σ Q) : zAC yX7_begins cX7_begins 2 none { frames := 1, cells := 0, slots := 0, locals := 22 } [.ref 0] zΓM zρM σ (zN zΓM zρM Q) := by
  refine z_entry (own := RX7) (ini := false) (plainFor_of_name pnX7) rfl (fun h => by cases h) (Nat.le_of_ble_eq_true rfl) ?_
  unfold w_X7_begins at hw
  refine z_iconst dX7_begins_0 zi0 ?_
  refine z_istore_n dX7_begins_1 rfl (Nat.le_of_ble_eq_true rfl) ?_
  obtain ⟨n, hw⟩ := hw
  exact z_to (l_X7_begins_2   n _ _ hw) ⟨rfl, rfl, trivial⟩
def w_X7_isSpeed  (x1 : Int32) (σ : zS) (Q : Int32 → zS → Prop) : Prop := (w_X7_in x1 ((1 : Int32)) ((4 : Int32)) σ fun v1 t2 => ((v1 = 0 → (((0 : Int32) = 0 ∨ (0 : Int32) = 1) ∧ Q (0 : Int32) t2)) ∧ (¬ (v1 = 0) → (((t2.1 0 1) < x1 → (((0 : Int32) = 0 ∨ (0 : Int32) = 1) ∧ Q (0 : Int32) t2)) ∧ (¬ ((t2.1 0 1) < x1) → (((1 : Int32) = 0 ∨ (1 : Int32) = 1) ∧ Q (1 : Int32) t2))))))
set_option maxHeartbeats 4000000 in
set_option maxRecDepth 100000 in
theorem c_X7_isSpeed  {x1 : Int32} {σ : zS} {Q : Int32 → zS → Prop} (hw : w_X7_isSpeed x1 σ Q) : zAC yX7_isSpeed cX7_isSpeed 2 (some .boolean) { frames := 1, cells := 0, slots := 0, locals := 22 } [.ref 0, .int x1] zΓM zρM σ (zN zΓM zρM Q) := by
  refine z_entry (own := RX7) (ini := false) (plainFor_of_name pnX7) rfl (fun h => by cases h) (Nat.le_of_ble_eq_true rfl) ?_
  unfold w_X7_isSpeed at hw
  refine z_iload_n dX7_isSpeed_0 rfl rfl ?_
  refine z_iconst dX7_isSpeed_1 zi1 ?_
  refine z_iconst dX7_isSpeed_2 zi4 ?_
  refine z_callS dX7_isSpeed_3 mX7_65 (c_X7_in  hw) rfl rfl (Nat.le_of_ble_eq_true rfl) ⟨Nat.le_of_ble_eq_true rfl, Nat.le_of_ble_eq_true rfl⟩ ⟨Nat.le_refl _, Nat.le_refl _⟩ (fun _ _ hw => ?_)
  refine z_if_eq dX7_isSpeed_6 hw (fun hw => ?_) (fun hw => ?_)
  · refine z_iconst dX7_isSpeed_21 zi0 ?_
    exact z_zret dX7_isSpeed_22 (Nat.le_refl _) (Nat.le_refl _) rfl ⟨hw.1, ⟨rfl, rfl, hw.2⟩⟩
  · refine z_iload_n dX7_isSpeed_9 rfl rfl ?_
    refine z_aload_n dX7_isSpeed_10 rfl rfl ?_
    refine z_geti dX7_isSpeed_11 fX7_13 zm0 zkX7_1 ?_
    refine z_icmp_gt dX7_isSpeed_14 hw (fun hw => ?_) (fun hw => ?_)
    · refine z_iconst dX7_isSpeed_21 zi0 ?_
      exact z_zret dX7_isSpeed_22 (Nat.le_refl _) (Nat.le_refl _) rfl ⟨hw.1, ⟨rfl, rfl, hw.2⟩⟩
    · refine z_iconst dX7_isSpeed_17 zi1 ?_
      refine z_goto dX7_isSpeed_18 ?_
      exact z_zret dX7_isSpeed_22 (Nat.le_refl _) (Nat.le_refl _) rfl ⟨hw.1, ⟨rfl, rfl, hw.2⟩⟩
def w_X7_boxes  (σ : zS) (Q : Int32 → zS → Prop) : Prop := Q (((2 : Int32) * (σ.1 0 0)) + (2 : Int32)) σ
set_option maxHeartbeats 4000000 in
set_option maxRecDepth 100000 in
theorem c_X7_boxes  {σ : zS} {Q : Int32 → zS → Prop} (hw : w_X7_boxes  σ Q) : zAC yX7_boxes cX7_boxes 1 (some .int) { frames := 0, cells := 0, slots := 0, locals := 0 } [.ref 0] zΓM zρM σ (zN zΓM zρM Q) := by
  refine z_entry (own := RX7) (ini := false) (plainFor_of_name pnX7) rfl (fun h => by cases h) (Nat.le_of_ble_eq_true rfl) ?_
  unfold w_X7_boxes at hw
  refine z_iconst dX7_boxes_0 zi2 ?_
  refine z_aload_n dX7_boxes_1 rfl rfl ?_
  refine z_geti dX7_boxes_2 fX7_7 zm0 zkX7_0 ?_
  refine z_imul dX7_boxes_5 ?_
  refine z_iconst dX7_boxes_6 zi2 ?_
  refine z_iadd dX7_boxes_7 ?_
  exact z_iret dX7_boxes_8 (Nat.le_refl _) (Nat.le_refl _) rfl ⟨rfl, rfl, hw⟩
def w_X7_house_L85 (Q : Int32 → zS → Prop)  : Nat → Int32 → zS → Prop
  | 0, _, _ => False
  | n + 1, x5, σ => (((16 : Int32) ≤ x5 → (w_X7_boxes  σ fun v1 t2 => Q v1 t2)) ∧ (¬ ((16 : Int32) ≤ x5) → (vp_in x5 16 ∧ zlet (zA σ 10 x5.toNatClampNeg (-1 : Int32)) fun t3 => (fun a5 aσ => w_X7_house_L85 Q  n a5 aσ) ((x5 + (1 : Int32))) t3)))
def w_X7_house  (x1 x2 x3 x4 : Int32) (σ : zS) (Q : Int32 → zS → Prop) : Prop := (w_X7_in x1 ((2 : Int32)) ((8 : Int32)) σ fun v1 t2 => ((v1 = 0 → Q (-1 : Int32) t2) ∧ (¬ (v1 = 0) → (w_X7_in x2 ((2 : Int32)) ((12 : Int32)) t2 fun v3 t4 => ((v3 = 0 → Q (-1 : Int32) t4) ∧ (¬ (v3 = 0) → (w_X7_in x3 ((1 : Int32)) x2 t4 fun v5 t6 => ((v5 = 0 → Q (-1 : Int32) t6) ∧ (¬ (v5 = 0) → (w_X7_in x4 ((1 : Int32)) ((4 : Int32)) t6 fun v7 t8 => ((v7 = 0 → Q (-1 : Int32) t8) ∧ (¬ (v7 = 0) → ((x4 ≤ x2 → (zlet (zI t8 0 0 x1) fun t9 => (zlet (zI t9 0 1 x2) fun t10 => (zlet (zI t10 0 2 x3) fun t11 => (zlet (zI t11 0 3 x4) fun t12 => (zlet (zI t12 0 5 (0 : Int32)) fun t13 => (zlet (zI t13 0 16 (0 : Int32)) fun t14 => (w_X7_begins  t14 fun _ t15 => ∃ m85, w_X7_house_L85 Q  m85 ((0 : Int32)) t15)))))))) ∧ (¬ (x4 ≤ x2) → Q (-1 : Int32) t8))))))))))))))
set_option maxHeartbeats 4000000 in
set_option maxRecDepth 100000 in
theorem l_X7_house_85  {Q : Int32 → zS → Prop}   : ∀ (n : Nat) (x5 : Int32) (σ : zS), w_X7_house_L85 Q  n x5 σ → zAW RX7 cX7_house 6 (some .int) false { frames := 2, cells := 0, slots := 0, locals := 43 } zΓM.length (zN zΓM zρM Q) 85 [(0, .ref 0), (5, .int x5)] [] zΓM zρM σ 0 0 := by
  intro n
  induction n with
  | zero => intro x5 σ hw; exact hw.elim
  | succ n hK85 =>
    intro x5 σ hw
    rw [w_X7_house_L85] at hw
    refine z_iload dX7_house_85 rfl ?_
    refine z_bipush dX7_house_87 zbp16 ?_
    refine z_icmp_ge dX7_house_89 hw (fun hw => ?_) (fun hw => ?_)
    · refine z_aload_n dX7_house_106 rfl rfl ?_
      refine z_callV dX7_house_107 mX7_75 (c_X7_boxes  hw) zm0 rfl rfl (Nat.le_of_ble_eq_true rfl) ⟨Nat.le_of_ble_eq_true rfl, Nat.le_of_ble_eq_true rfl⟩ ⟨Nat.le_refl _, Nat.le_refl _⟩ (fun _ _ hw => ?_)
      exact z_iret dX7_house_110 (Nat.le_refl _) (Nat.le_refl _) rfl ⟨rfl, rfl, hw⟩
    · refine z_aload_n dX7_house_92 rfl rfl ?_
      refine z_getr dX7_house_93 fX7_53 zm0 zkX7_15 zrM15 ?_
      refine z_iload dX7_house_96 rfl ?_
      refine z_iconst dX7_house_98 zim1 ?_
      refine z_iastL dX7_house_99 zm10 hw (fun hw => ?_)
      refine z_iinc dX7_house_100 rfl zi1 (Nat.le_of_ble_eq_true rfl) ?_
      refine z_goto dX7_house_103 ?_
      exact z_to (hK85 _ _ hw) ⟨rfl, rfl, trivial⟩
set_option maxHeartbeats 4000000 in
set_option maxRecDepth 100000 in
theorem c_X7_house  {x1 x2 x3 x4 : Int32} {σ : zS} {Q : Int32 → zS → Prop} (hw : w_X7_house x1 x2 x3 x4 σ Q) : zAC yX7_house cX7_house 6 (some .int) { frames := 2, cells := 0, slots := 0, locals := 43 } [.ref 0, .int x1, .int x2, .int x3, .int x4] zΓM zρM σ (zN zΓM zρM Q) := by
  refine z_entry (own := RX7) (ini := false) (plainFor_of_name pnX7) rfl (fun h => by cases h) (Nat.le_of_ble_eq_true rfl) ?_
  unfold w_X7_house at hw
  refine z_iload_n dX7_house_0 rfl rfl ?_
  refine z_iconst dX7_house_1 zi2 ?_
  refine z_bipush dX7_house_2 zbp8 ?_
  refine z_callS dX7_house_4 mX7_65 (c_X7_in  hw) rfl rfl (Nat.le_of_ble_eq_true rfl) ⟨Nat.le_of_ble_eq_true rfl, Nat.le_of_ble_eq_true rfl⟩ ⟨Nat.le_refl _, Nat.le_refl _⟩ (fun _ _ hw => ?_)
  refine z_if_eq dX7_house_7 hw (fun hw => ?_) (fun hw => ?_)
  · refine z_iconst dX7_house_45 zim1 ?_
    exact z_iret dX7_house_46 (Nat.le_refl _) (Nat.le_refl _) rfl ⟨rfl, rfl, hw⟩
  · refine z_iload_n dX7_house_10 rfl rfl ?_
    refine z_iconst dX7_house_11 zi2 ?_
    refine z_bipush dX7_house_12 zbp12 ?_
    refine z_callS dX7_house_14 mX7_65 (c_X7_in  hw) rfl rfl (Nat.le_of_ble_eq_true rfl) ⟨Nat.le_of_ble_eq_true rfl, Nat.le_of_ble_eq_true rfl⟩ ⟨Nat.le_refl _, Nat.le_refl _⟩ (fun _ _ hw => ?_)
    refine z_if_eq dX7_house_17 hw (fun hw => ?_) (fun hw => ?_)
    · refine z_iconst dX7_house_45 zim1 ?_
      exact z_iret dX7_house_46 (Nat.le_refl _) (Nat.le_refl _) rfl ⟨rfl, rfl, hw⟩
    · refine z_iload_n dX7_house_20 rfl rfl ?_
      refine z_iconst dX7_house_21 zi1 ?_
      refine z_iload_n dX7_house_22 rfl rfl ?_
      refine z_callS dX7_house_23 mX7_65 (c_X7_in  hw) rfl rfl (Nat.le_of_ble_eq_true rfl) ⟨Nat.le_of_ble_eq_true rfl, Nat.le_of_ble_eq_true rfl⟩ ⟨Nat.le_refl _, Nat.le_refl _⟩ (fun _ _ hw => ?_)
      refine z_if_eq dX7_house_26 hw (fun hw => ?_) (fun hw => ?_)
      · refine z_iconst dX7_house_45 zim1 ?_
        exact z_iret dX7_house_46 (Nat.le_refl _) (Nat.le_refl _) rfl ⟨rfl, rfl, hw⟩
      · refine z_iload dX7_house_29 rfl ?_
        refine z_iconst dX7_house_31 zi1 ?_
        refine z_iconst dX7_house_32 zi4 ?_
        refine z_callS dX7_house_33 mX7_65 (c_X7_in  hw) rfl rfl (Nat.le_of_ble_eq_true rfl) ⟨Nat.le_of_ble_eq_true rfl, Nat.le_of_ble_eq_true rfl⟩ ⟨Nat.le_refl _, Nat.le_refl _⟩ (fun _ _ hw => ?_)
        refine z_if_eq dX7_house_36 hw (fun hw => ?_) (fun hw => ?_)
        · refine z_iconst dX7_house_45 zim1 ?_
          exact z_iret dX7_house_46 (Nat.le_refl _) (Nat.le_refl _) rfl ⟨rfl, rfl, hw⟩
        · refine z_iload dX7_house_39 rfl ?_
          refine z_iload_n dX7_house_41 rfl rfl ?_
          refine z_icmp_le dX7_house_42 hw (fun hw => ?_) (fun hw => ?_)
          · refine z_aload_n dX7_house_47 rfl rfl ?_
            refine z_iload_n dX7_house_48 rfl rfl ?_
            refine z_putiL dX7_house_49 fX7_7 zm0 zkX7_0 hw (fun hw => ?_)
            refine z_aload_n dX7_house_52 rfl rfl ?_
            refine z_iload_n dX7_house_53 rfl rfl ?_
            refine z_putiL dX7_house_54 fX7_13 zm0 zkX7_1 hw (fun hw => ?_)
            refine z_aload_n dX7_house_57 rfl rfl ?_
            refine z_iload_n dX7_house_58 rfl rfl ?_
            refine z_putiL dX7_house_59 fX7_16 zm0 zkX7_2 hw (fun hw => ?_)
            refine z_aload_n dX7_house_62 rfl rfl ?_
            refine z_iload dX7_house_63 rfl ?_
            refine z_putiL dX7_house_65 fX7_19 zm0 zkX7_3 hw (fun hw => ?_)
            refine z_aload_n dX7_house_68 rfl rfl ?_
            refine z_iconst dX7_house_69 zi0 ?_
            refine z_putiL dX7_house_70 fX7_69 zm0 zkX7_5 hw (fun hw => ?_)
            refine z_aload_n dX7_house_73 rfl rfl ?_
            refine z_iconst dX7_house_74 zi0 ?_
            refine z_putiL dX7_house_75 fX7_72 zm0 zkX7_16 hw (fun hw => ?_)
            refine z_aload_n dX7_house_78 rfl rfl ?_
            refine z_callVv dX7_house_79 mX7_62 (c_X7_begins  hw) zm0 rfl rfl (Nat.le_of_ble_eq_true rfl) ⟨Nat.le_of_ble_eq_true rfl, Nat.le_of_ble_eq_true rfl⟩ ⟨Nat.le_refl _, Nat.le_refl _⟩ (fun _ hw => ?_)
            refine z_iconst dX7_house_82 zi0 ?_
            refine z_istore dX7_house_83 (Nat.le_of_ble_eq_true rfl) ?_
            obtain ⟨n, hw⟩ := hw
            exact z_to (l_X7_house_85   n _ _ hw) ⟨rfl, rfl, trivial⟩
          · refine z_iconst dX7_house_45 zim1 ?_
            exact z_iret dX7_house_46 (Nat.le_refl _) (Nat.le_refl _) rfl ⟨rfl, rfl, hw⟩
def w_X7_isFloor  (x1 : Int32) (σ : zS) (Q : Int32 → zS → Prop) : Prop := (w_X7_in x1 ((0 : Int32)) (((σ.1 0 0) - (1 : Int32))) σ fun v1 t2 => ((v1 = 0 ∨ v1 = 1) ∧ Q v1 t2))
set_option maxHeartbeats 4000000 in
set_option maxRecDepth 100000 in
theorem c_X7_isFloor  {x1 : Int32} {σ : zS} {Q : Int32 → zS → Prop} (hw : w_X7_isFloor x1 σ Q) : zAC yX7_isFloor cX7_isFloor 2 (some .boolean) { frames := 1, cells := 0, slots := 0, locals := 22 } [.ref 0, .int x1] zΓM zρM σ (zN zΓM zρM Q) := by
  refine z_entry (own := RX7) (ini := false) (plainFor_of_name pnX7) rfl (fun h => by cases h) (Nat.le_of_ble_eq_true rfl) ?_
  unfold w_X7_isFloor at hw
  refine z_iload_n dX7_isFloor_0 rfl rfl ?_
  refine z_iconst dX7_isFloor_1 zi0 ?_
  refine z_aload_n dX7_isFloor_2 rfl rfl ?_
  refine z_geti dX7_isFloor_3 fX7_7 zm0 zkX7_0 ?_
  refine z_iconst dX7_isFloor_6 zi1 ?_
  refine z_isub dX7_isFloor_7 ?_
  refine z_callS dX7_isFloor_8 mX7_65 (c_X7_in  hw) rfl rfl (Nat.le_of_ble_eq_true rfl) ⟨Nat.le_of_ble_eq_true rfl, Nat.le_of_ble_eq_true rfl⟩ ⟨Nat.le_refl _, Nat.le_refl _⟩ (fun _ _ hw => ?_)
  exact z_zret dX7_isFloor_11 (Nat.le_refl _) (Nat.le_refl _) rfl ⟨hw.1, ⟨rfl, rfl, hw.2⟩⟩
def w_X7_isPerson  (x1 : Int32) (σ : zS) (Q : Int32 → zS → Prop) : Prop := (w_X7_in x1 ((0 : Int32)) (((σ.1 0 5) - (1 : Int32))) σ fun v1 t2 => ((v1 = 0 ∨ v1 = 1) ∧ Q v1 t2))
set_option maxHeartbeats 4000000 in
set_option maxRecDepth 100000 in
theorem c_X7_isPerson  {x1 : Int32} {σ : zS} {Q : Int32 → zS → Prop} (hw : w_X7_isPerson x1 σ Q) : zAC yX7_isPerson cX7_isPerson 2 (some .boolean) { frames := 1, cells := 0, slots := 0, locals := 22 } [.ref 0, .int x1] zΓM zρM σ (zN zΓM zρM Q) := by
  refine z_entry (own := RX7) (ini := false) (plainFor_of_name pnX7) rfl (fun h => by cases h) (Nat.le_of_ble_eq_true rfl) ?_
  unfold w_X7_isPerson at hw
  refine z_iload_n dX7_isPerson_0 rfl rfl ?_
  refine z_iconst dX7_isPerson_1 zi0 ?_
  refine z_aload_n dX7_isPerson_2 rfl rfl ?_
  refine z_geti dX7_isPerson_3 fX7_69 zm0 zkX7_5 ?_
  refine z_iconst dX7_isPerson_6 zi1 ?_
  refine z_isub dX7_isPerson_7 ?_
  refine z_callS dX7_isPerson_8 mX7_65 (c_X7_in  hw) rfl rfl (Nat.le_of_ble_eq_true rfl) ⟨Nat.le_of_ble_eq_true rfl, Nat.le_of_ble_eq_true rfl⟩ ⟨Nat.le_refl _, Nat.le_refl _⟩ (fun _ _ hw => ?_)
  exact z_zret dX7_isPerson_11 (Nat.le_refl _) (Nat.le_refl _) rfl ⟨hw.1, ⟨rfl, rfl, hw.2⟩⟩
def w_X7_person  (x1 x2 x3 x4 x5 x6 x7 : Int32) (σ : zS) (Q : Int32 → zS → Prop) : Prop := (w_X7_in x1 ((0 : Int32)) ((900 : Int32)) σ fun v1 t2 => ((v1 = 0 → Q (-1 : Int32) t2) ∧ (¬ (v1 = 0) → (w_X7_isFloor x2 t2 fun v3 t4 => ((v3 = 0 → Q (-1 : Int32) t4) ∧ (¬ (v3 = 0) → (w_X7_isFloor x3 t4 fun v5 t6 => ((v5 = 0 → Q (-1 : Int32) t6) ∧ (¬ (v5 = 0) → ((x2 = x3 → Q (-1 : Int32) t6) ∧ (¬ (x2 = x3) → (w_X7_in x4 ((1 : Int32)) ((2 : Int32)) t6 fun v7 t8 => ((v7 = 0 → Q (-1 : Int32) t8) ∧ (¬ (v7 = 0) → (w_X7_in x5 ((1 : Int32)) ((6 : Int32)) t8 fun v9 t10 => ((v9 = 0 → Q (-1 : Int32) t10) ∧ (¬ (v9 = 0) → (w_X7_in x6 ((0 : Int32)) ((1 : Int32)) t10 fun v11 t12 => ((v11 = 0 → Q (-1 : Int32) t12) ∧ (¬ (v11 = 0) → (w_X7_in x7 ((0 : Int32)) ((7 : Int32)) t12 fun v13 t14 => ((v13 = 0 → Q (-1 : Int32) t14) ∧ (¬ (v13 = 0) → (vp_in ((0 : Int32)) 389 ∧ (((t14.2 8 ((0 : Int32)).toNatClampNeg) ≤ x1 → (((t14.1 0 5) = (30 : Int32) → Q (-3 : Int32) t14) ∧ (¬ ((t14.1 0 5) = (30 : Int32)) → (vp_in ((t14.1 0 5)) 30 ∧ zlet (zA t14 1 ((t14.1 0 5)).toNatClampNeg x1) fun t15 => (vp_in ((t15.1 0 5)) 30 ∧ zlet (zA t15 2 ((t15.1 0 5)).toNatClampNeg x2) fun t16 => (vp_in ((t16.1 0 5)) 30 ∧ zlet (zA t16 3 ((t16.1 0 5)).toNatClampNeg x3) fun t17 => (vp_in ((t17.1 0 5)) 30 ∧ zlet (zA t17 4 ((t17.1 0 5)).toNatClampNeg x4) fun t18 => (vp_in ((t18.1 0 5)) 30 ∧ zlet (zA t18 5 ((t18.1 0 5)).toNatClampNeg x5) fun t19 => (vp_in ((t19.1 0 5)) 30 ∧ zlet (zA t19 6 ((t19.1 0 5)).toNatClampNeg x6) fun t20 => (vp_in ((t20.1 0 5)) 30 ∧ zlet (zA t20 7 ((t20.1 0 5)).toNatClampNeg x7) fun t21 => (zlet (zI t21 0 5 ((t21.1 0 5) + (1 : Int32))) fun t22 => Q ((t22.1 0 5) - (1 : Int32)) t22))))))))))) ∧ (¬ ((t14.2 8 ((0 : Int32)).toNatClampNeg) ≤ x1) → Q (-2 : Int32) t14))))))))))))))))))))))))))
set_option maxHeartbeats 4000000 in
set_option maxRecDepth 100000 in
theorem c_X7_person  {x1 x2 x3 x4 x5 x6 x7 : Int32} {σ : zS} {Q : Int32 → zS → Prop} (hw : w_X7_person x1 x2 x3 x4 x5 x6 x7 σ Q) : zAC yX7_person cX7_person 8 (some .int) { frames := 2, cells := 0, slots := 0, locals := 43 } [.ref 0, .int x1, .int x2, .int x3, .int x4, .int x5, .int x6, .int x7] zΓM zρM σ (zN zΓM zρM Q) := by
  refine z_entry (own := RX7) (ini := false) (plainFor_of_name pnX7) rfl (fun h => by cases h) (Nat.le_of_ble_eq_true rfl) ?_
  unfold w_X7_person at hw
  refine z_iload_n dX7_person_0 rfl rfl ?_
  refine z_iconst dX7_person_1 zi0 ?_
  refine z_sipush dX7_person_2 zsp900 ?_
  refine z_callS dX7_person_5 mX7_65 (c_X7_in  hw) rfl rfl (Nat.le_of_ble_eq_true rfl) ⟨Nat.le_of_ble_eq_true rfl, Nat.le_of_ble_eq_true rfl⟩ ⟨Nat.le_refl _, Nat.le_refl _⟩ (fun _ _ hw => ?_)
  refine z_if_eq dX7_person_8 hw (fun hw => ?_) (fun hw => ?_)
  · refine z_iconst dX7_person_74 zim1 ?_
    exact z_iret dX7_person_75 (Nat.le_refl _) (Nat.le_refl _) rfl ⟨rfl, rfl, hw⟩
  · refine z_aload_n dX7_person_11 rfl rfl ?_
    refine z_iload_n dX7_person_12 rfl rfl ?_
    refine z_callV dX7_person_13 mX7_79 (c_X7_isFloor  hw) zm0 rfl rfl (Nat.le_of_ble_eq_true rfl) ⟨Nat.le_of_ble_eq_true rfl, Nat.le_of_ble_eq_true rfl⟩ ⟨Nat.le_refl _, Nat.le_refl _⟩ (fun _ _ hw => ?_)
    refine z_if_eq dX7_person_16 hw (fun hw => ?_) (fun hw => ?_)
    · refine z_iconst dX7_person_74 zim1 ?_
      exact z_iret dX7_person_75 (Nat.le_refl _) (Nat.le_refl _) rfl ⟨rfl, rfl, hw⟩
    · refine z_aload_n dX7_person_19 rfl rfl ?_
      refine z_iload_n dX7_person_20 rfl rfl ?_
      refine z_callV dX7_person_21 mX7_79 (c_X7_isFloor  hw) zm0 rfl rfl (Nat.le_of_ble_eq_true rfl) ⟨Nat.le_of_ble_eq_true rfl, Nat.le_of_ble_eq_true rfl⟩ ⟨Nat.le_refl _, Nat.le_refl _⟩ (fun _ _ hw => ?_)
      refine z_if_eq dX7_person_24 hw (fun hw => ?_) (fun hw => ?_)
      · refine z_iconst dX7_person_74 zim1 ?_
        exact z_iret dX7_person_75 (Nat.le_refl _) (Nat.le_refl _) rfl ⟨rfl, rfl, hw⟩
      · refine z_iload_n dX7_person_27 rfl rfl ?_
        refine z_iload_n dX7_person_28 rfl rfl ?_
        refine z_icmp_eq dX7_person_29 hw (fun hw => ?_) (fun hw => ?_)
        · refine z_iconst dX7_person_74 zim1 ?_
          exact z_iret dX7_person_75 (Nat.le_refl _) (Nat.le_refl _) rfl ⟨rfl, rfl, hw⟩
        · refine z_iload dX7_person_32 rfl ?_
          refine z_iconst dX7_person_34 zi1 ?_
          refine z_iconst dX7_person_35 zi2 ?_
          refine z_callS dX7_person_36 mX7_65 (c_X7_in  hw) rfl rfl (Nat.le_of_ble_eq_true rfl) ⟨Nat.le_of_ble_eq_true rfl, Nat.le_of_ble_eq_true rfl⟩ ⟨Nat.le_refl _, Nat.le_refl _⟩ (fun _ _ hw => ?_)
          refine z_if_eq dX7_person_39 hw (fun hw => ?_) (fun hw => ?_)
          · refine z_iconst dX7_person_74 zim1 ?_
            exact z_iret dX7_person_75 (Nat.le_refl _) (Nat.le_refl _) rfl ⟨rfl, rfl, hw⟩
          · refine z_iload dX7_person_42 rfl ?_
            refine z_iconst dX7_person_44 zi1 ?_
            refine z_bipush dX7_person_45 zbp6 ?_
            refine z_callS dX7_person_47 mX7_65 (c_X7_in  hw) rfl rfl (Nat.le_of_ble_eq_true rfl) ⟨Nat.le_of_ble_eq_true rfl, Nat.le_of_ble_eq_true rfl⟩ ⟨Nat.le_refl _, Nat.le_refl _⟩ (fun _ _ hw => ?_)
            refine z_if_eq dX7_person_50 hw (fun hw => ?_) (fun hw => ?_)
            · refine z_iconst dX7_person_74 zim1 ?_
              exact z_iret dX7_person_75 (Nat.le_refl _) (Nat.le_refl _) rfl ⟨rfl, rfl, hw⟩
            · refine z_iload dX7_person_53 rfl ?_
              refine z_iconst dX7_person_55 zi0 ?_
              refine z_iconst dX7_person_56 zi1 ?_
              refine z_callS dX7_person_57 mX7_65 (c_X7_in  hw) rfl rfl (Nat.le_of_ble_eq_true rfl) ⟨Nat.le_of_ble_eq_true rfl, Nat.le_of_ble_eq_true rfl⟩ ⟨Nat.le_refl _, Nat.le_refl _⟩ (fun _ _ hw => ?_)
              refine z_if_eq dX7_person_60 hw (fun hw => ?_) (fun hw => ?_)
              · refine z_iconst dX7_person_74 zim1 ?_
                exact z_iret dX7_person_75 (Nat.le_refl _) (Nat.le_refl _) rfl ⟨rfl, rfl, hw⟩
              · refine z_iload dX7_person_63 rfl ?_
                refine z_iconst dX7_person_65 zi0 ?_
                refine z_bipush dX7_person_66 zbp7 ?_
                refine z_callS dX7_person_68 mX7_65 (c_X7_in  hw) rfl rfl (Nat.le_of_ble_eq_true rfl) ⟨Nat.le_of_ble_eq_true rfl, Nat.le_of_ble_eq_true rfl⟩ ⟨Nat.le_refl _, Nat.le_refl _⟩ (fun _ _ hw => ?_)
                refine z_if_ne dX7_person_71 hw (fun hw => ?_) (fun hw => ?_)
                · refine z_iload_n dX7_person_76 rfl rfl ?_
                  refine z_aload_n dX7_person_77 rfl rfl ?_
                  refine z_getr dX7_person_78 fX7_47 zm0 zkX7_13 zrM13 ?_
                  refine z_iconst dX7_person_81 zi0 ?_
                  refine z_iald dX7_person_82 zm8 hw (fun hw => ?_)
                  refine z_icmp_ge dX7_person_83 hw (fun hw => ?_) (fun hw => ?_)
                  · refine z_aload_n dX7_person_89 rfl rfl ?_
                    refine z_geti dX7_person_90 fX7_69 zm0 zkX7_5 ?_
                    refine z_bipush dX7_person_93 zbp30 ?_
                    refine z_icmp_ne dX7_person_95 hw (fun hw => ?_) (fun hw => ?_)
                    · refine z_aload_n dX7_person_101 rfl rfl ?_
                      refine z_getr dX7_person_102 fX7_25 zm0 zkX7_6 zrM6 ?_
                      refine z_aload_n dX7_person_105 rfl rfl ?_
                      refine z_geti dX7_person_106 fX7_69 zm0 zkX7_5 ?_
                      refine z_iload_n dX7_person_109 rfl rfl ?_
                      refine z_iastL dX7_person_110 zm1 hw (fun hw => ?_)
                      refine z_aload_n dX7_person_111 rfl rfl ?_
                      refine z_getr dX7_person_112 fX7_29 zm0 zkX7_7 zrM7 ?_
                      refine z_aload_n dX7_person_115 rfl rfl ?_
                      refine z_geti dX7_person_116 fX7_69 zm0 zkX7_5 ?_
                      refine z_iload_n dX7_person_119 rfl rfl ?_
                      refine z_iastL dX7_person_120 zm2 hw (fun hw => ?_)
                      refine z_aload_n dX7_person_121 rfl rfl ?_
                      refine z_getr dX7_person_122 fX7_32 zm0 zkX7_8 zrM8 ?_
                      refine z_aload_n dX7_person_125 rfl rfl ?_
                      refine z_geti dX7_person_126 fX7_69 zm0 zkX7_5 ?_
                      refine z_iload_n dX7_person_129 rfl rfl ?_
                      refine z_iastL dX7_person_130 zm3 hw (fun hw => ?_)
                      refine z_aload_n dX7_person_131 rfl rfl ?_
                      refine z_getr dX7_person_132 fX7_35 zm0 zkX7_9 zrM9 ?_
                      refine z_aload_n dX7_person_135 rfl rfl ?_
                      refine z_geti dX7_person_136 fX7_69 zm0 zkX7_5 ?_
                      refine z_iload dX7_person_139 rfl ?_
                      refine z_iastL dX7_person_141 zm4 hw (fun hw => ?_)
                      refine z_aload_n dX7_person_142 rfl rfl ?_
                      refine z_getr dX7_person_143 fX7_38 zm0 zkX7_10 zrM10 ?_
                      refine z_aload_n dX7_person_146 rfl rfl ?_
                      refine z_geti dX7_person_147 fX7_69 zm0 zkX7_5 ?_
                      refine z_iload dX7_person_150 rfl ?_
                      refine z_iastL dX7_person_152 zm5 hw (fun hw => ?_)
                      refine z_aload_n dX7_person_153 rfl rfl ?_
                      refine z_getr dX7_person_154 fX7_41 zm0 zkX7_11 zrM11 ?_
                      refine z_aload_n dX7_person_157 rfl rfl ?_
                      refine z_geti dX7_person_158 fX7_69 zm0 zkX7_5 ?_
                      refine z_iload dX7_person_161 rfl ?_
                      refine z_iastL dX7_person_163 zm6 hw (fun hw => ?_)
                      refine z_aload_n dX7_person_164 rfl rfl ?_
                      refine z_getr dX7_person_165 fX7_44 zm0 zkX7_12 zrM12 ?_
                      refine z_aload_n dX7_person_168 rfl rfl ?_
                      refine z_geti dX7_person_169 fX7_69 zm0 zkX7_5 ?_
                      refine z_iload dX7_person_172 rfl ?_
                      refine z_iastL dX7_person_174 zm7 hw (fun hw => ?_)
                      refine z_aload_n dX7_person_175 rfl rfl ?_
                      refine z_dup dX7_person_176 rfl ?_
                      refine z_geti dX7_person_177 fX7_69 zm0 zkX7_5 ?_
                      refine z_iconst dX7_person_180 zi1 ?_
                      refine z_iadd dX7_person_181 ?_
                      refine z_putiL dX7_person_182 fX7_69 zm0 zkX7_5 hw (fun hw => ?_)
                      refine z_aload_n dX7_person_185 rfl rfl ?_
                      refine z_geti dX7_person_186 fX7_69 zm0 zkX7_5 ?_
                      refine z_iconst dX7_person_189 zi1 ?_
                      refine z_isub dX7_person_190 ?_
                      exact z_iret dX7_person_191 (Nat.le_refl _) (Nat.le_refl _) rfl ⟨rfl, rfl, hw⟩
                    · refine z_bipush dX7_person_98 zbpm3 ?_
                      exact z_iret dX7_person_100 (Nat.le_refl _) (Nat.le_refl _) rfl ⟨rfl, rfl, hw⟩
                  · refine z_bipush dX7_person_86 zbpm2 ?_
                    exact z_iret dX7_person_88 (Nat.le_refl _) (Nat.le_refl _) rfl ⟨rfl, rfl, hw⟩
                · refine z_iconst dX7_person_74 zim1 ?_
                  exact z_iret dX7_person_75 (Nat.le_refl _) (Nat.le_refl _) rfl ⟨rfl, rfl, hw⟩
def w_X7_speed  (x1 : Int32) (σ : zS) (Q : Int32 → zS → Prop) : Prop := (w_X7_isSpeed x1 σ fun v1 t2 => ((v1 = 0 → Q (-1 : Int32) t2) ∧ (¬ (v1 = 0) → (zlet (zI t2 0 3 x1) fun t3 => Q (t2.1 0 3) t3))))
set_option maxHeartbeats 4000000 in
set_option maxRecDepth 100000 in
theorem c_X7_speed  {x1 : Int32} {σ : zS} {Q : Int32 → zS → Prop} (hw : w_X7_speed x1 σ Q) : zAC yX7_speed cX7_speed 3 (some .int) { frames := 2, cells := 0, slots := 0, locals := 43 } [.ref 0, .int x1] zΓM zρM σ (zN zΓM zρM Q) := by
  refine z_entry (own := RX7) (ini := false) (plainFor_of_name pnX7) rfl (fun h => by cases h) (Nat.le_of_ble_eq_true rfl) ?_
  unfold w_X7_speed at hw
  refine z_aload_n dX7_speed_0 rfl rfl ?_
  refine z_iload_n dX7_speed_1 rfl rfl ?_
  refine z_callV dX7_speed_2 mX7_83 (c_X7_isSpeed  hw) zm0 rfl rfl (Nat.le_of_ble_eq_true rfl) ⟨Nat.le_of_ble_eq_true rfl, Nat.le_of_ble_eq_true rfl⟩ ⟨Nat.le_refl _, Nat.le_refl _⟩ (fun _ _ hw => ?_)
  refine z_if_ne dX7_speed_5 hw (fun hw => ?_) (fun hw => ?_)
  · refine z_aload_n dX7_speed_10 rfl rfl ?_
    refine z_geti dX7_speed_11 fX7_19 zm0 zkX7_3 ?_
    refine z_istore_n dX7_speed_14 rfl (Nat.le_of_ble_eq_true rfl) ?_
    refine z_aload_n dX7_speed_15 rfl rfl ?_
    refine z_iload_n dX7_speed_16 rfl rfl ?_
    refine z_putiL dX7_speed_17 fX7_19 zm0 zkX7_3 hw (fun hw => ?_)
    refine z_iload_n dX7_speed_20 rfl rfl ?_
    exact z_iret dX7_speed_21 (Nat.le_refl _) (Nat.le_refl _) rfl ⟨rfl, rfl, hw⟩
  · refine z_iconst dX7_speed_8 zim1 ?_
    exact z_iret dX7_speed_9 (Nat.le_refl _) (Nat.le_refl _) rfl ⟨rfl, rfl, hw⟩
def w_X7_anew  (σ : zS) (Q : Int32 → zS → Prop) : Prop := (vp_in ((0 : Int32)) 389 ∧ (w_X7_begins  σ fun _ t1 => Q (σ.2 8 ((0 : Int32)).toNatClampNeg) t1))
set_option maxHeartbeats 4000000 in
set_option maxRecDepth 100000 in
theorem c_X7_anew  {σ : zS} {Q : Int32 → zS → Prop} (hw : w_X7_anew  σ Q) : zAC yX7_anew cX7_anew 2 (some .int) { frames := 2, cells := 0, slots := 0, locals := 43 } [.ref 0] zΓM zρM σ (zN zΓM zρM Q) := by
  refine z_entry (own := RX7) (ini := false) (plainFor_of_name pnX7) rfl (fun h => by cases h) (Nat.le_of_ble_eq_true rfl) ?_
  unfold w_X7_anew at hw
  refine z_aload_n dX7_anew_0 rfl rfl ?_
  refine z_getr dX7_anew_1 fX7_47 zm0 zkX7_13 zrM13 ?_
  refine z_iconst dX7_anew_4 zi0 ?_
  refine z_iald dX7_anew_5 zm8 hw (fun hw => ?_)
  refine z_istore_n dX7_anew_6 rfl (Nat.le_of_ble_eq_true rfl) ?_
  refine z_aload_n dX7_anew_7 rfl rfl ?_
  refine z_callVv dX7_anew_8 mX7_62 (c_X7_begins  hw) zm0 rfl rfl (Nat.le_of_ble_eq_true rfl) ⟨Nat.le_of_ble_eq_true rfl, Nat.le_of_ble_eq_true rfl⟩ ⟨Nat.le_refl _, Nat.le_refl _⟩ (fun _ hw => ?_)
  refine z_iload_n dX7_anew_11 rfl rfl ?_
  exact z_iret dX7_anew_12 (Nat.le_refl _) (Nat.le_refl _) rfl ⟨rfl, rfl, hw⟩
def w_X7_placeOf  (x1 : Int32) (σ : zS) (Q : Int32 → zS → Prop) : Prop := (vp_in ((1 : Int32)) 389 ∧ (w_X7_boxes  σ fun v1 t2 => ((¬ (v1 * (t2.1 0 1)) = 0) ∧ Q (((x1 * (σ.1 0 1)) + (σ.2 8 ((1 : Int32)).toNatClampNeg)) - ((x1 * (σ.1 0 1)) + (σ.2 8 ((1 : Int32)).toNatClampNeg)) / (v1 * (t2.1 0 1)) * (v1 * (t2.1 0 1))) t2)))
set_option maxHeartbeats 4000000 in
set_option maxRecDepth 100000 in
theorem c_X7_placeOf  {x1 : Int32} {σ : zS} {Q : Int32 → zS → Prop} (hw : w_X7_placeOf x1 σ Q) : zAC yX7_placeOf cX7_placeOf 2 (some .int) { frames := 1, cells := 0, slots := 0, locals := 20 } [.ref 0, .int x1] zΓM zρM σ (zN zΓM zρM Q) := by
  refine z_entry (own := RX7) (ini := false) (plainFor_of_name pnX7) rfl (fun h => by cases h) (Nat.le_of_ble_eq_true rfl) ?_
  unfold w_X7_placeOf at hw
  refine z_iload_n dX7_placeOf_0 rfl rfl ?_
  refine z_aload_n dX7_placeOf_1 rfl rfl ?_
  refine z_geti dX7_placeOf_2 fX7_13 zm0 zkX7_1 ?_
  refine z_imul dX7_placeOf_5 ?_
  refine z_aload_n dX7_placeOf_6 rfl rfl ?_
  refine z_getr dX7_placeOf_7 fX7_47 zm0 zkX7_13 zrM13 ?_
  refine z_iconst dX7_placeOf_10 zi1 ?_
  refine z_iald dX7_placeOf_11 zm8 hw (fun hw => ?_)
  refine z_iadd dX7_placeOf_12 ?_
  refine z_aload_n dX7_placeOf_13 rfl rfl ?_
  refine z_callV dX7_placeOf_14 mX7_75 (c_X7_boxes  hw) zm0 rfl rfl (Nat.le_of_ble_eq_true rfl) ⟨Nat.le_of_ble_eq_true rfl, Nat.le_of_ble_eq_true rfl⟩ ⟨Nat.le_refl _, Nat.le_refl _⟩ (fun _ _ hw => ?_)
  refine z_aload_n dX7_placeOf_17 rfl rfl ?_
  refine z_geti dX7_placeOf_18 fX7_13 zm0 zkX7_1 ?_
  refine z_imul dX7_placeOf_21 ?_
  refine z_irem dX7_placeOf_22 hw (fun hw => ?_)
  exact z_iret dX7_placeOf_23 (Nat.le_refl _) (Nat.le_refl _) rfl ⟨rfl, rfl, hw⟩
def w_X7_partOf  (x1 : Int32) (σ : zS) (Q : Int32 → zS → Prop) : Prop := (w_X7_placeOf x1 σ fun v1 t2 => ((¬ (t2.1 0 1) = 0) ∧ Q (v1 / (t2.1 0 1)) t2))
set_option maxHeartbeats 4000000 in
set_option maxRecDepth 100000 in
theorem c_X7_partOf  {x1 : Int32} {σ : zS} {Q : Int32 → zS → Prop} (hw : w_X7_partOf x1 σ Q) : zAC yX7_partOf cX7_partOf 2 (some .int) { frames := 2, cells := 0, slots := 0, locals := 41 } [.ref 0, .int x1] zΓM zρM σ (zN zΓM zρM Q) := by
  refine z_entry (own := RX7) (ini := false) (plainFor_of_name pnX7) rfl (fun h => by cases h) (Nat.le_of_ble_eq_true rfl) ?_
  unfold w_X7_partOf at hw
  refine z_aload_n dX7_partOf_0 rfl rfl ?_
  refine z_iload_n dX7_partOf_1 rfl rfl ?_
  refine z_callV dX7_partOf_2 mX7_86 (c_X7_placeOf  hw) zm0 rfl rfl (Nat.le_of_ble_eq_true rfl) ⟨Nat.le_of_ble_eq_true rfl, Nat.le_of_ble_eq_true rfl⟩ ⟨Nat.le_refl _, Nat.le_refl _⟩ (fun _ _ hw => ?_)
  refine z_aload_n dX7_partOf_5 rfl rfl ?_
  refine z_geti dX7_partOf_6 fX7_13 zm0 zkX7_1 ?_
  refine z_idiv dX7_partOf_9 hw (fun hw => ?_)
  exact z_iret dX7_partOf_10 (Nat.le_refl _) (Nat.le_refl _) rfl ⟨rfl, rfl, hw⟩
def w_X7_isAside_J20 (Q : Int32 → zS → Prop)  (σ : zS) : Prop := (((1 : Int32) = 0 ∨ (1 : Int32) = 1) ∧ Q (1 : Int32) σ)
def w_X7_isAside  (x1 : Int32) (σ : zS) (Q : Int32 → zS → Prop) : Prop := ((x1 = (σ.1 0 0) → w_X7_isAside_J20 Q    σ) ∧ (¬ (x1 = (σ.1 0 0)) → ((x1 = (((2 : Int32) * (σ.1 0 0)) + (1 : Int32)) → w_X7_isAside_J20 Q    σ) ∧ (¬ (x1 = (((2 : Int32) * (σ.1 0 0)) + (1 : Int32))) → (((0 : Int32) = 0 ∨ (0 : Int32) = 1) ∧ Q (0 : Int32) σ)))))
set_option maxHeartbeats 4000000 in
set_option maxRecDepth 100000 in
theorem j_X7_isAside_20  {Q : Int32 → zS → Prop}   {σ : zS} (hw : w_X7_isAside_J20 Q   σ) : zAW RX7 cX7_isAside 2 (some .boolean) false { frames := 0, cells := 0, slots := 0, locals := 0 } zΓM.length (zN zΓM zρM Q) 20 [] [] zΓM zρM σ 0 0 := by
  unfold w_X7_isAside_J20 at hw
  refine z_iconst dX7_isAside_20 zi1 ?_
  refine z_goto dX7_isAside_21 ?_
  exact z_zret dX7_isAside_25 (Nat.le_refl _) (Nat.le_refl _) rfl ⟨hw.1, ⟨rfl, rfl, hw.2⟩⟩
set_option maxHeartbeats 4000000 in
set_option maxRecDepth 100000 in
theorem c_X7_isAside  {x1 : Int32} {σ : zS} {Q : Int32 → zS → Prop} (hw : w_X7_isAside x1 σ Q) : zAC yX7_isAside cX7_isAside 2 (some .boolean) { frames := 0, cells := 0, slots := 0, locals := 0 } [.ref 0, .int x1] zΓM zρM σ (zN zΓM zρM Q) := by
  refine z_entry (own := RX7) (ini := false) (plainFor_of_name pnX7) rfl (fun h => by cases h) (Nat.le_of_ble_eq_true rfl) ?_
  unfold w_X7_isAside at hw
  refine z_iload_n dX7_isAside_0 rfl rfl ?_
  refine z_aload_n dX7_isAside_1 rfl rfl ?_
  refine z_geti dX7_isAside_2 fX7_7 zm0 zkX7_0 ?_
  refine z_icmp_eq dX7_isAside_5 hw (fun hw => ?_) (fun hw => ?_)
  · exact z_to (j_X7_isAside_20   hw) trivial
  · refine z_iload_n dX7_isAside_8 rfl rfl ?_
    refine z_iconst dX7_isAside_9 zi2 ?_
    refine z_aload_n dX7_isAside_10 rfl rfl ?_
    refine z_geti dX7_isAside_11 fX7_7 zm0 zkX7_0 ?_
    refine z_imul dX7_isAside_14 ?_
    refine z_iconst dX7_isAside_15 zi1 ?_
    refine z_iadd dX7_isAside_16 ?_
    refine z_icmp_ne dX7_isAside_17 hw (fun hw => ?_) (fun hw => ?_)
    · refine z_iconst dX7_isAside_24 zi0 ?_
      exact z_zret dX7_isAside_25 (Nat.le_refl _) (Nat.le_refl _) rfl ⟨hw.1, ⟨rfl, rfl, hw.2⟩⟩
    · exact z_to (j_X7_isAside_20   hw) trivial
def w_X7_floorOf  (x1 : Int32) (σ : zS) (Q : Int32 → zS → Prop) : Prop := (((σ.1 0 0) ≤ x1 → Q (((2 : Int32) * (σ.1 0 0)) - x1) σ) ∧ (¬ ((σ.1 0 0) ≤ x1) → Q x1 σ))
set_option maxHeartbeats 4000000 in
set_option maxRecDepth 100000 in
theorem c_X7_floorOf  {x1 : Int32} {σ : zS} {Q : Int32 → zS → Prop} (hw : w_X7_floorOf x1 σ Q) : zAC yX7_floorOf cX7_floorOf 2 (some .int) { frames := 0, cells := 0, slots := 0, locals := 0 } [.ref 0, .int x1] zΓM zρM σ (zN zΓM zρM Q) := by
  refine z_entry (own := RX7) (ini := false) (plainFor_of_name pnX7) rfl (fun h => by cases h) (Nat.le_of_ble_eq_true rfl) ?_
  unfold w_X7_floorOf at hw
  refine z_iload_n dX7_floorOf_0 rfl rfl ?_
  refine z_aload_n dX7_floorOf_1 rfl rfl ?_
  refine z_geti dX7_floorOf_2 fX7_7 zm0 zkX7_0 ?_
  refine z_icmp_ge dX7_floorOf_5 hw (fun hw => ?_) (fun hw => ?_)
  · refine z_iconst dX7_floorOf_12 zi2 ?_
    refine z_aload_n dX7_floorOf_13 rfl rfl ?_
    refine z_geti dX7_floorOf_14 fX7_7 zm0 zkX7_0 ?_
    refine z_imul dX7_floorOf_17 ?_
    refine z_iload_n dX7_floorOf_18 rfl rfl ?_
    refine z_isub dX7_floorOf_19 ?_
    exact z_iret dX7_floorOf_20 (Nat.le_refl _) (Nat.le_refl _) rfl ⟨rfl, rfl, hw⟩
  · refine z_iload_n dX7_floorOf_8 rfl rfl ?_
    refine z_goto dX7_floorOf_9 ?_
    exact z_iret dX7_floorOf_20 (Nat.le_refl _) (Nat.le_refl _) rfl ⟨rfl, rfl, hw⟩
def w_X7_leftOf  (x1 : Int32) (σ : zS) (Q : Int32 → zS → Prop) : Prop := ((¬ (σ.1 0 1) = 0) ∧ (((σ.1 0 2) ≤ (x1 - x1 / (σ.1 0 1) * (σ.1 0 1)) → Q (0 : Int32) σ) ∧ (¬ ((σ.1 0 2) ≤ (x1 - x1 / (σ.1 0 1) * (σ.1 0 1))) → ((¬ (σ.1 0 3) = 0) ∧ Q (((((σ.1 0 2) - (x1 - x1 / (σ.1 0 1) * (σ.1 0 1))) + (σ.1 0 3)) - (1 : Int32)) / (σ.1 0 3)) σ))))
set_option maxHeartbeats 4000000 in
set_option maxRecDepth 100000 in
theorem c_X7_leftOf  {x1 : Int32} {σ : zS} {Q : Int32 → zS → Prop} (hw : w_X7_leftOf x1 σ Q) : zAC yX7_leftOf cX7_leftOf 3 (some .int) { frames := 0, cells := 0, slots := 0, locals := 0 } [.ref 0, .int x1] zΓM zρM σ (zN zΓM zρM Q) := by
  refine z_entry (own := RX7) (ini := false) (plainFor_of_name pnX7) rfl (fun h => by cases h) (Nat.le_of_ble_eq_true rfl) ?_
  unfold w_X7_leftOf at hw
  refine z_iload_n dX7_leftOf_0 rfl rfl ?_
  refine z_aload_n dX7_leftOf_1 rfl rfl ?_
  refine z_geti dX7_leftOf_2 fX7_13 zm0 zkX7_1 ?_
  refine z_irem dX7_leftOf_5 hw (fun hw => ?_)
  refine z_istore_n dX7_leftOf_6 rfl (Nat.le_of_ble_eq_true rfl) ?_
  refine z_iload_n dX7_leftOf_7 rfl rfl ?_
  refine z_aload_n dX7_leftOf_8 rfl rfl ?_
  refine z_geti dX7_leftOf_9 fX7_16 zm0 zkX7_2 ?_
  refine z_icmp_ge dX7_leftOf_12 hw (fun hw => ?_) (fun hw => ?_)
  · refine z_iconst dX7_leftOf_36 zi0 ?_
    exact z_iret dX7_leftOf_37 (Nat.le_refl _) (Nat.le_refl _) rfl ⟨rfl, rfl, hw⟩
  · refine z_aload_n dX7_leftOf_15 rfl rfl ?_
    refine z_geti dX7_leftOf_16 fX7_16 zm0 zkX7_2 ?_
    refine z_iload_n dX7_leftOf_19 rfl rfl ?_
    refine z_isub dX7_leftOf_20 ?_
    refine z_aload_n dX7_leftOf_21 rfl rfl ?_
    refine z_geti dX7_leftOf_22 fX7_19 zm0 zkX7_3 ?_
    refine z_iadd dX7_leftOf_25 ?_
    refine z_iconst dX7_leftOf_26 zi1 ?_
    refine z_isub dX7_leftOf_27 ?_
    refine z_aload_n dX7_leftOf_28 rfl rfl ?_
    refine z_geti dX7_leftOf_29 fX7_19 zm0 zkX7_3 ?_
    refine z_idiv dX7_leftOf_32 hw (fun hw => ?_)
    refine z_goto dX7_leftOf_33 ?_
    exact z_iret dX7_leftOf_37 (Nat.le_refl _) (Nat.le_refl _) rfl ⟨rfl, rfl, hw⟩
def w_X7_joins  (x1 x2 : Int32) (σ : zS) (Q : Int32 → zS → Prop) : Prop := (vp_in (((5 : Int32) + x1)) 389 ∧ zlet (zA σ 8 (((5 : Int32) + x1)).toNatClampNeg (1 : Int32)) fun t1 => (vp_in (((35 : Int32) + x1)) 389 ∧ zlet (zA t1 8 (((35 : Int32) + x1)).toNatClampNeg x2) fun t2 => (vp_in (((141 : Int32) + x2)) 389 ∧ (vp_in ((((149 : Int32) + ((30 : Int32) * x2)) + (t2.2 8 (((141 : Int32) + x2)).toNatClampNeg))) 389 ∧ zlet (zA t2 8 ((((149 : Int32) + ((30 : Int32) * x2)) + (t2.2 8 (((141 : Int32) + x2)).toNatClampNeg))).toNatClampNeg x1) fun t3 => (vp_in (((141 : Int32) + x2)) 389 ∧ (vp_in (((141 : Int32) + x2)) 389 ∧ zlet (zA t3 8 (((141 : Int32) + x2)).toNatClampNeg ((t3.2 8 (((141 : Int32) + x2)).toNatClampNeg) + (1 : Int32))) fun t4 => Q 0 t4))))))
set_option maxHeartbeats 4000000 in
set_option maxRecDepth 100000 in
theorem c_X7_joins  {x1 x2 : Int32} {σ : zS} {Q : Int32 → zS → Prop} (hw : w_X7_joins x1 x2 σ Q) : zAC yX7_joins cX7_joins 3 none { frames := 0, cells := 0, slots := 0, locals := 0 } [.ref 0, .int x1, .int x2] zΓM zρM σ (zN zΓM zρM Q) := by
  refine z_entry (own := RX7) (ini := false) (plainFor_of_name pnX7) rfl (fun h => by cases h) (Nat.le_of_ble_eq_true rfl) ?_
  unfold w_X7_joins at hw
  refine z_aload_n dX7_joins_0 rfl rfl ?_
  refine z_getr dX7_joins_1 fX7_47 zm0 zkX7_13 zrM13 ?_
  refine z_iconst dX7_joins_4 zi5 ?_
  refine z_iload_n dX7_joins_5 rfl rfl ?_
  refine z_iadd dX7_joins_6 ?_
  refine z_iconst dX7_joins_7 zi1 ?_
  refine z_iastL dX7_joins_8 zm8 hw (fun hw => ?_)
  refine z_aload_n dX7_joins_9 rfl rfl ?_
  refine z_getr dX7_joins_10 fX7_47 zm0 zkX7_13 zrM13 ?_
  refine z_bipush dX7_joins_13 zbp35 ?_
  refine z_iload_n dX7_joins_15 rfl rfl ?_
  refine z_iadd dX7_joins_16 ?_
  refine z_iload_n dX7_joins_17 rfl rfl ?_
  refine z_iastL dX7_joins_18 zm8 hw (fun hw => ?_)
  refine z_aload_n dX7_joins_19 rfl rfl ?_
  refine z_getr dX7_joins_20 fX7_47 zm0 zkX7_13 zrM13 ?_
  refine z_sipush dX7_joins_23 zsp149 ?_
  refine z_bipush dX7_joins_26 zbp30 ?_
  refine z_iload_n dX7_joins_28 rfl rfl ?_
  refine z_imul dX7_joins_29 ?_
  refine z_iadd dX7_joins_30 ?_
  refine z_aload_n dX7_joins_31 rfl rfl ?_
  refine z_getr dX7_joins_32 fX7_47 zm0 zkX7_13 zrM13 ?_
  refine z_sipush dX7_joins_35 zsp141 ?_
  refine z_iload_n dX7_joins_38 rfl rfl ?_
  refine z_iadd dX7_joins_39 ?_
  refine z_iald dX7_joins_40 zm8 hw (fun hw => ?_)
  refine z_iadd dX7_joins_41 ?_
  refine z_iload_n dX7_joins_42 rfl rfl ?_
  refine z_iastL dX7_joins_43 zm8 hw (fun hw => ?_)
  refine z_aload_n dX7_joins_44 rfl rfl ?_
  refine z_getr dX7_joins_45 fX7_47 zm0 zkX7_13 zrM13 ?_
  refine z_sipush dX7_joins_48 zsp141 ?_
  refine z_iload_n dX7_joins_51 rfl rfl ?_
  refine z_iadd dX7_joins_52 ?_
  refine z_dup2 dX7_joins_53 rfl rfl ?_
  refine z_iald dX7_joins_54 zm8 hw (fun hw => ?_)
  refine z_iconst dX7_joins_55 zi1 ?_
  refine z_iadd dX7_joins_56 ?_
  refine z_iastL dX7_joins_57 zm8 hw (fun hw => ?_)
  exact z_vret dX7_joins_58 (Nat.le_refl _) (Nat.le_refl _) rfl ⟨rfl, rfl, hw⟩
def w_X7_parts_L16 (Q : Int32 → zS → Prop)  : Nat → Int32 → Int32 → zS → Prop
  | 0, _, _, _ => False
  | n + 1, x1, x3, σ => (vp_in (((141 : Int32) + x1)) 389 ∧ (((σ.2 8 (((141 : Int32) + x1)).toNatClampNeg) ≤ x3 → Q 0 σ) ∧ (¬ ((σ.2 8 (((141 : Int32) + x1)).toNatClampNeg) ≤ x3) → (vp_in (((((149 : Int32) + ((30 : Int32) * x1)) + x3) + (1 : Int32))) 389 ∧ (vp_in ((((149 : Int32) + ((30 : Int32) * x1)) + x3)) 389 ∧ zlet (zA σ 8 ((((149 : Int32) + ((30 : Int32) * x1)) + x3)).toNatClampNeg (σ.2 8 (((((149 : Int32) + ((30 : Int32) * x1)) + x3) + (1 : Int32))).toNatClampNeg)) fun t1 => (fun a1 a3 aσ => w_X7_parts_L16 Q  n a1 a3 aσ) x1 ((x3 + (1 : Int32))) t1)))))
def w_X7_parts  (x1 x2 : Int32) (σ : zS) (Q : Int32 → zS → Prop) : Prop := (vp_in (((141 : Int32) + x1)) 389 ∧ (vp_in (((141 : Int32) + x1)) 389 ∧ zlet (zA σ 8 (((141 : Int32) + x1)).toNatClampNeg ((σ.2 8 (((141 : Int32) + x1)).toNatClampNeg) - (1 : Int32))) fun t1 => ∃ m16, w_X7_parts_L16 Q  m16 x1 x2 t1))
set_option maxHeartbeats 4000000 in
set_option maxRecDepth 100000 in
theorem l_X7_parts_16  {Q : Int32 → zS → Prop}   : ∀ (n : Nat) (x1 x3 : Int32) (σ : zS), w_X7_parts_L16 Q  n x1 x3 σ → zAW RX7 cX7_parts 4 none false { frames := 0, cells := 0, slots := 0, locals := 0 } zΓM.length (zN zΓM zρM Q) 16 [(0, .ref 0), (1, .int x1), (3, .int x3)] [] zΓM zρM σ 0 0 := by
  intro n
  induction n with
  | zero => intro x1 x3 σ hw; exact hw.elim
  | succ n hK16 =>
    intro x1 x3 σ hw
    rw [w_X7_parts_L16] at hw
    refine z_iload_n dX7_parts_16 rfl rfl ?_
    refine z_aload_n dX7_parts_17 rfl rfl ?_
    refine z_getr dX7_parts_18 fX7_47 zm0 zkX7_13 zrM13 ?_
    refine z_sipush dX7_parts_21 zsp141 ?_
    refine z_iload_n dX7_parts_24 rfl rfl ?_
    refine z_iadd dX7_parts_25 ?_
    refine z_iald dX7_parts_26 zm8 hw (fun hw => ?_)
    refine z_icmp_ge dX7_parts_27 hw (fun hw => ?_) (fun hw => ?_)
    · exact z_vret dX7_parts_68 (Nat.le_refl _) (Nat.le_refl _) rfl ⟨rfl, rfl, hw⟩
    · refine z_aload_n dX7_parts_30 rfl rfl ?_
      refine z_getr dX7_parts_31 fX7_47 zm0 zkX7_13 zrM13 ?_
      refine z_sipush dX7_parts_34 zsp149 ?_
      refine z_bipush dX7_parts_37 zbp30 ?_
      refine z_iload_n dX7_parts_39 rfl rfl ?_
      refine z_imul dX7_parts_40 ?_
      refine z_iadd dX7_parts_41 ?_
      refine z_iload_n dX7_parts_42 rfl rfl ?_
      refine z_iadd dX7_parts_43 ?_
      refine z_aload_n dX7_parts_44 rfl rfl ?_
      refine z_getr dX7_parts_45 fX7_47 zm0 zkX7_13 zrM13 ?_
      refine z_sipush dX7_parts_48 zsp149 ?_
      refine z_bipush dX7_parts_51 zbp30 ?_
      refine z_iload_n dX7_parts_53 rfl rfl ?_
      refine z_imul dX7_parts_54 ?_
      refine z_iadd dX7_parts_55 ?_
      refine z_iload_n dX7_parts_56 rfl rfl ?_
      refine z_iadd dX7_parts_57 ?_
      refine z_iconst dX7_parts_58 zi1 ?_
      refine z_iadd dX7_parts_59 ?_
      refine z_iald dX7_parts_60 zm8 hw (fun hw => ?_)
      refine z_iastL dX7_parts_61 zm8 hw (fun hw => ?_)
      refine z_iinc dX7_parts_62 rfl zi1 (Nat.le_of_ble_eq_true rfl) ?_
      refine z_goto dX7_parts_65 ?_
      exact z_to (hK16 _ _ _ hw) ⟨rfl, rfl, rfl, trivial⟩
set_option maxHeartbeats 4000000 in
set_option maxRecDepth 100000 in
theorem c_X7_parts  {x1 x2 : Int32} {σ : zS} {Q : Int32 → zS → Prop} (hw : w_X7_parts x1 x2 σ Q) : zAC yX7_parts cX7_parts 4 none { frames := 0, cells := 0, slots := 0, locals := 0 } [.ref 0, .int x1, .int x2] zΓM zρM σ (zN zΓM zρM Q) := by
  refine z_entry (own := RX7) (ini := false) (plainFor_of_name pnX7) rfl (fun h => by cases h) (Nat.le_of_ble_eq_true rfl) ?_
  unfold w_X7_parts at hw
  refine z_aload_n dX7_parts_0 rfl rfl ?_
  refine z_getr dX7_parts_1 fX7_47 zm0 zkX7_13 zrM13 ?_
  refine z_sipush dX7_parts_4 zsp141 ?_
  refine z_iload_n dX7_parts_7 rfl rfl ?_
  refine z_iadd dX7_parts_8 ?_
  refine z_dup2 dX7_parts_9 rfl rfl ?_
  refine z_iald dX7_parts_10 zm8 hw (fun hw => ?_)
  refine z_iconst dX7_parts_11 zi1 ?_
  refine z_isub dX7_parts_12 ?_
  refine z_iastL dX7_parts_13 zm8 hw (fun hw => ?_)
  refine z_iload_n dX7_parts_14 rfl rfl ?_
  refine z_istore_n dX7_parts_15 rfl (Nat.le_of_ble_eq_true rfl) ?_
  obtain ⟨n, hw⟩ := hw
  exact z_to (l_X7_parts_16   n _ _ _ hw) ⟨rfl, rfl, rfl, trivial⟩
def w_X7_rides  (x1 x2 : Int32) (σ : zS) (Q : Int32 → zS → Prop) : Prop := (vp_in (((5 : Int32) + x1)) 389 ∧ (((σ.2 8 (((5 : Int32) + x1)).toNatClampNeg) = (2 : Int32) → (vp_in (((35 : Int32) + x1)) 389 ∧ (((σ.2 8 (((35 : Int32) + x1)).toNatClampNeg) = x2 → (((1 : Int32) = 0 ∨ (1 : Int32) = 1) ∧ Q (1 : Int32) σ)) ∧ (¬ ((σ.2 8 (((35 : Int32) + x1)).toNatClampNeg) = x2) → (((0 : Int32) = 0 ∨ (0 : Int32) = 1) ∧ Q (0 : Int32) σ))))) ∧ (¬ ((σ.2 8 (((5 : Int32) + x1)).toNatClampNeg) = (2 : Int32)) → (((0 : Int32) = 0 ∨ (0 : Int32) = 1) ∧ Q (0 : Int32) σ))))
set_option maxHeartbeats 4000000 in
set_option maxRecDepth 100000 in
theorem c_X7_rides  {x1 x2 : Int32} {σ : zS} {Q : Int32 → zS → Prop} (hw : w_X7_rides x1 x2 σ Q) : zAC yX7_rides cX7_rides 3 (some .boolean) { frames := 0, cells := 0, slots := 0, locals := 0 } [.ref 0, .int x1, .int x2] zΓM zρM σ (zN zΓM zρM Q) := by
  refine z_entry (own := RX7) (ini := false) (plainFor_of_name pnX7) rfl (fun h => by cases h) (Nat.le_of_ble_eq_true rfl) ?_
  unfold w_X7_rides at hw
  refine z_aload_n dX7_rides_0 rfl rfl ?_
  refine z_getr dX7_rides_1 fX7_47 zm0 zkX7_13 zrM13 ?_
  refine z_iconst dX7_rides_4 zi5 ?_
  refine z_iload_n dX7_rides_5 rfl rfl ?_
  refine z_iadd dX7_rides_6 ?_
  refine z_iald dX7_rides_7 zm8 hw (fun hw => ?_)
  refine z_iconst dX7_rides_8 zi2 ?_
  refine z_icmp_ne dX7_rides_9 hw (fun hw => ?_) (fun hw => ?_)
  · refine z_iconst dX7_rides_29 zi0 ?_
    exact z_zret dX7_rides_30 (Nat.le_refl _) (Nat.le_refl _) rfl ⟨hw.1, ⟨rfl, rfl, hw.2⟩⟩
  · refine z_aload_n dX7_rides_12 rfl rfl ?_
    refine z_getr dX7_rides_13 fX7_47 zm0 zkX7_13 zrM13 ?_
    refine z_bipush dX7_rides_16 zbp35 ?_
    refine z_iload_n dX7_rides_18 rfl rfl ?_
    refine z_iadd dX7_rides_19 ?_
    refine z_iald dX7_rides_20 zm8 hw (fun hw => ?_)
    refine z_iload_n dX7_rides_21 rfl rfl ?_
    refine z_icmp_ne dX7_rides_22 hw (fun hw => ?_) (fun hw => ?_)
    · refine z_iconst dX7_rides_29 zi0 ?_
      exact z_zret dX7_rides_30 (Nat.le_refl _) (Nat.le_refl _) rfl ⟨hw.1, ⟨rfl, rfl, hw.2⟩⟩
    · refine z_iconst dX7_rides_25 zi1 ?_
      refine z_goto dX7_rides_26 ?_
      exact z_zret dX7_rides_30 (Nat.le_refl _) (Nat.le_refl _) rfl ⟨hw.1, ⟨rfl, rfl, hw.2⟩⟩
def w_X7_widths_J32 (Q : Int32 → zS → Prop) (K4 : Int32 → Int32 → Int32 → zS → Prop) (x1 x3 s0 s1 : Int32) (σ : zS) : Prop := K4 x1 ((s1 + s0)) ((x3 + (1 : Int32))) σ
def w_X7_widths_L4 (Q : Int32 → zS → Prop)  : Nat → Int32 → Int32 → Int32 → zS → Prop
  | 0, _, _, _, _ => False
  | n + 1, x1, x2, x3, σ => (((σ.1 0 5) ≤ x3 → Q x2 σ) ∧ (¬ ((σ.1 0 5) ≤ x3) → (w_X7_rides x3 x1 σ fun v1 t2 => ((v1 = 0 → w_X7_widths_J32 Q (fun a1 a2 a3 aσ => w_X7_widths_L4 Q  n a1 a2 a3 aσ) x1 x3 ((0 : Int32)) x2 t2) ∧ (¬ (v1 = 0) → (vp_in x3 30 ∧ w_X7_widths_J32 Q (fun a1 a2 a3 aσ => w_X7_widths_L4 Q  n a1 a2 a3 aσ) x1 x3 ((t2.2 4 x3.toNatClampNeg)) x2 t2))))))
def w_X7_widths  (x1 : Int32) (σ : zS) (Q : Int32 → zS → Prop) : Prop := ∃ m4, w_X7_widths_L4 Q  m4 x1 ((0 : Int32)) ((0 : Int32)) σ
set_option maxHeartbeats 4000000 in
set_option maxRecDepth 100000 in
theorem j_X7_widths_32  {Q : Int32 → zS → Prop} {K4 : Int32 → Int32 → Int32 → zS → Prop} (hK4 : ∀ (a1 a2 a3 : Int32) (σ : zS), K4 a1 a2 a3 σ → zAW RX7 cX7_widths 4 (some .int) false { frames := 1, cells := 0, slots := 0, locals := 22 } zΓM.length (zN zΓM zρM Q) 4 [(0, .ref 0), (1, .int a1), (2, .int a2), (3, .int a3)] [] zΓM zρM σ 0 0) {x1 x3 s0 s1 : Int32} {σ : zS} (hw : w_X7_widths_J32 Q K4 x1 x3 s0 s1 σ) : zAW RX7 cX7_widths 4 (some .int) false { frames := 1, cells := 0, slots := 0, locals := 22 } zΓM.length (zN zΓM zρM Q) 32 [(0, .ref 0), (1, .int x1), (3, .int x3)] [.int s0, .int s1] zΓM zρM σ 0 0 := by
  unfold w_X7_widths_J32 at hw
  refine z_iadd dX7_widths_32 ?_
  refine z_istore_n dX7_widths_33 rfl (Nat.le_of_ble_eq_true rfl) ?_
  refine z_iinc dX7_widths_34 rfl zi1 (Nat.le_of_ble_eq_true rfl) ?_
  refine z_goto dX7_widths_37 ?_
  exact z_to (hK4 _ _ _ _ hw) ⟨rfl, rfl, rfl, rfl, trivial⟩
set_option maxHeartbeats 4000000 in
set_option maxRecDepth 100000 in
theorem l_X7_widths_4  {Q : Int32 → zS → Prop}   : ∀ (n : Nat) (x1 x2 x3 : Int32) (σ : zS), w_X7_widths_L4 Q  n x1 x2 x3 σ → zAW RX7 cX7_widths 4 (some .int) false { frames := 1, cells := 0, slots := 0, locals := 22 } zΓM.length (zN zΓM zρM Q) 4 [(0, .ref 0), (1, .int x1), (2, .int x2), (3, .int x3)] [] zΓM zρM σ 0 0 := by
  intro n
  induction n with
  | zero => intro x1 x2 x3 σ hw; exact hw.elim
  | succ n hK4 =>
    intro x1 x2 x3 σ hw
    rw [w_X7_widths_L4] at hw
    refine z_iload_n dX7_widths_4 rfl rfl ?_
    refine z_aload_n dX7_widths_5 rfl rfl ?_
    refine z_geti dX7_widths_6 fX7_69 zm0 zkX7_5 ?_
    refine z_icmp_ge dX7_widths_9 hw (fun hw => ?_) (fun hw => ?_)
    · refine z_iload_n dX7_widths_40 rfl rfl ?_
      exact z_iret dX7_widths_41 (Nat.le_refl _) (Nat.le_refl _) rfl ⟨rfl, rfl, hw⟩
    · refine z_iload_n dX7_widths_12 rfl rfl ?_
      refine z_aload_n dX7_widths_13 rfl rfl ?_
      refine z_iload_n dX7_widths_14 rfl rfl ?_
      refine z_iload_n dX7_widths_15 rfl rfl ?_
      refine z_callV dX7_widths_16 mX7_90 (c_X7_rides  hw) zm0 rfl rfl (Nat.le_of_ble_eq_true rfl) ⟨Nat.le_of_ble_eq_true rfl, Nat.le_of_ble_eq_true rfl⟩ ⟨Nat.le_refl _, Nat.le_refl _⟩ (fun _ _ hw => ?_)
      refine z_if_eq dX7_widths_19 hw (fun hw => ?_) (fun hw => ?_)
      · refine z_iconst dX7_widths_31 zi0 ?_
        exact z_to (j_X7_widths_32  hK4 hw) ⟨rfl, rfl, rfl, trivial⟩
      · refine z_aload_n dX7_widths_22 rfl rfl ?_
        refine z_getr dX7_widths_23 fX7_35 zm0 zkX7_9 zrM9 ?_
        refine z_iload_n dX7_widths_26 rfl rfl ?_
        refine z_iald dX7_widths_27 zm4 hw (fun hw => ?_)
        refine z_goto dX7_widths_28 ?_
        exact z_to (j_X7_widths_32  hK4 hw) ⟨rfl, rfl, rfl, trivial⟩
set_option maxHeartbeats 4000000 in
set_option maxRecDepth 100000 in
theorem c_X7_widths  {x1 : Int32} {σ : zS} {Q : Int32 → zS → Prop} (hw : w_X7_widths x1 σ Q) : zAC yX7_widths cX7_widths 4 (some .int) { frames := 1, cells := 0, slots := 0, locals := 22 } [.ref 0, .int x1] zΓM zρM σ (zN zΓM zρM Q) := by
  refine z_entry (own := RX7) (ini := false) (plainFor_of_name pnX7) rfl (fun h => by cases h) (Nat.le_of_ble_eq_true rfl) ?_
  unfold w_X7_widths at hw
  refine z_iconst dX7_widths_0 zi0 ?_
  refine z_istore_n dX7_widths_1 rfl (Nat.le_of_ble_eq_true rfl) ?_
  refine z_iconst dX7_widths_2 zi0 ?_
  refine z_istore_n dX7_widths_3 rfl (Nat.le_of_ble_eq_true rfl) ?_
  obtain ⟨n, hw⟩ := hw
  exact z_to (l_X7_widths_4   n _ _ _ _ hw) ⟨rfl, rfl, rfl, rfl, trivial⟩
def w_X7_moves_J113 (Q : Int32 → zS → Prop) (K12 : Int32 → Int32 → zS → Prop) (x1 x2 : Int32) (σ : zS) : Prop := K12 x1 ((x2 + (1 : Int32))) σ
def w_X7_moves_J105 (Q : Int32 → zS → Prop) (K12 : Int32 → Int32 → zS → Prop) (K65 : Int32 → Int32 → Int32 → Int32 → zS → Prop) (x1 x2 x4 x5 s0 s1 s2 : Int32) (σ : zS) : Prop := (vp_in s2 389 ∧ zlet (zA σ 8 s2.toNatClampNeg (s1 + s0)) fun t1 => K65 x1 x2 x4 ((x5 + (1 : Int32))) t1)
def w_X7_moves_L65 (Q : Int32 → zS → Prop) (K12 : Int32 → Int32 → zS → Prop) : Nat → Int32 → Int32 → Int32 → Int32 → zS → Prop
  | 0, _, _, _, _, _ => False
  | n + 1, x1, x2, x4, x5, σ => (((σ.1 0 5) ≤ x5 → w_X7_moves_J113 Q K12 x1 x2  σ) ∧ (¬ ((σ.1 0 5) ≤ x5) → ((x4 = 0 → w_X7_moves_J113 Q K12 x1 x2  σ) ∧ (¬ (x4 = 0) → (vp_in (((95 : Int32) + x5)) 389 ∧ (w_X7_rides x5 x2 σ fun v1 t2 => ((v1 = 0 → w_X7_moves_J105 Q K12 (fun a1 a2 a4 a5 aσ => w_X7_moves_L65 Q K12 n a1 a2 a4 a5 aσ) x1 x2 x4 x5 ((0 : Int32)) ((σ.2 8 (((95 : Int32) + x5)).toNatClampNeg)) (((95 : Int32) + x5)) t2) ∧ (¬ (v1 = 0) → w_X7_moves_J105 Q K12 (fun a1 a2 a4 a5 aσ => w_X7_moves_L65 Q K12 n a1 a2 a4 a5 aσ) x1 x2 x4 x5 ((1 : Int32)) ((σ.2 8 (((95 : Int32) + x5)).toNatClampNeg)) (((95 : Int32) + x5)) t2))))))))
def w_X7_moves_J60 (Q : Int32 → zS → Prop) (K12 : Int32 → Int32 → zS → Prop) (x1 x2 s0 : Int32) (σ : zS) : Prop := ∃ m65, w_X7_moves_L65 Q K12 m65 x1 x2 s0 ((0 : Int32)) σ
def w_X7_moves_J59 (Q : Int32 → zS → Prop) (K12 : Int32 → Int32 → zS → Prop) (x1 x2 : Int32) (σ : zS) : Prop := w_X7_moves_J60 Q K12 x1 x2 ((0 : Int32)) σ
def w_X7_moves_L12 (Q : Int32 → zS → Prop)  : Nat → Int32 → Int32 → zS → Prop
  | 0, _, _, _ => False
  | n + 1, x1, x2, σ => (w_X7_boxes  σ fun v1 t2 => ((v1 ≤ x2 → (vp_in ((1 : Int32)) 389 ∧ ((¬ x1 = 0) ∧ (vp_in ((1 : Int32)) 389 ∧ zlet (zA t2 8 ((1 : Int32)).toNatClampNeg (((t2.2 8 ((1 : Int32)).toNatClampNeg) + (t2.1 0 3)) - ((t2.2 8 ((1 : Int32)).toNatClampNeg) + (t2.1 0 3)) / x1 * x1)) fun t3 => Q 0 t3)))) ∧ (¬ (v1 ≤ x2) → (w_X7_placeOf x2 t2 fun v4 t5 => ((¬ x1 = 0) ∧ ((¬ (t5.1 0 1) = 0) ∧ (w_X7_isAside ((((v4 + (t5.1 0 3)) - (v4 + (t5.1 0 3)) / x1 * x1) / (t5.1 0 1))) t5 fun v6 t7 => ((v6 = 0 → w_X7_moves_J59 Q (fun a1 a2 aσ => w_X7_moves_L12 Q  n a1 a2 aσ) x1 x2  t7) ∧ (¬ (v6 = 0) → (w_X7_partOf x2 t7 fun v8 t9 => (((((v4 + (t5.1 0 3)) - (v4 + (t5.1 0 3)) / x1 * x1) / (t5.1 0 1)) = v8 → w_X7_moves_J59 Q (fun a1 a2 aσ => w_X7_moves_L12 Q  n a1 a2 aσ) x1 x2  t9) ∧ (¬ ((((v4 + (t5.1 0 3)) - (v4 + (t5.1 0 3)) / x1 * x1) / (t5.1 0 1)) = v8) → w_X7_moves_J60 Q (fun a1 a2 aσ => w_X7_moves_L12 Q  n a1 a2 aσ) x1 x2 ((1 : Int32)) t9))))))))))))
def w_X7_moves  (σ : zS) (Q : Int32 → zS → Prop) : Prop := (w_X7_boxes  σ fun v1 t2 => ∃ m12, w_X7_moves_L12 Q  m12 ((v1 * (t2.1 0 1))) ((0 : Int32)) t2)
set_option maxHeartbeats 4000000 in
set_option maxRecDepth 100000 in
theorem j_X7_moves_113  {Q : Int32 → zS → Prop} {K12 : Int32 → Int32 → zS → Prop} (hK12 : ∀ (a1 a2 : Int32) (σ : zS), K12 a1 a2 σ → zAW RX7 cX7_moves 6 none false { frames := 3, cells := 0, slots := 0, locals := 62 } zΓM.length (zN zΓM zρM Q) 12 [(0, .ref 0), (1, .int a1), (2, .int a2)] [] zΓM zρM σ 0 0) {x1 x2 : Int32} {σ : zS} (hw : w_X7_moves_J113 Q K12 x1 x2 σ) : zAW RX7 cX7_moves 6 none false { frames := 3, cells := 0, slots := 0, locals := 62 } zΓM.length (zN zΓM zρM Q) 113 [(0, .ref 0), (1, .int x1), (2, .int x2)] [] zΓM zρM σ 0 0 := by
  unfold w_X7_moves_J113 at hw
  refine z_iinc dX7_moves_113 rfl zi1 (Nat.le_of_ble_eq_true rfl) ?_
  refine z_goto dX7_moves_116 ?_
  exact z_to (hK12 _ _ _ hw) ⟨rfl, rfl, rfl, trivial⟩
set_option maxHeartbeats 4000000 in
set_option maxRecDepth 100000 in
theorem j_X7_moves_105  {Q : Int32 → zS → Prop} {K12 : Int32 → Int32 → zS → Prop} {K65 : Int32 → Int32 → Int32 → Int32 → zS → Prop} (hK12 : ∀ (a1 a2 : Int32) (σ : zS), K12 a1 a2 σ → zAW RX7 cX7_moves 6 none false { frames := 3, cells := 0, slots := 0, locals := 62 } zΓM.length (zN zΓM zρM Q) 12 [(0, .ref 0), (1, .int a1), (2, .int a2)] [] zΓM zρM σ 0 0) (hK65 : ∀ (a1 a2 a4 a5 : Int32) (σ : zS), K65 a1 a2 a4 a5 σ → zAW RX7 cX7_moves 6 none false { frames := 3, cells := 0, slots := 0, locals := 62 } zΓM.length (zN zΓM zρM Q) 65 [(0, .ref 0), (1, .int a1), (2, .int a2), (4, .int a4), (5, .int a5)] [] zΓM zρM σ 0 0) {x1 x2 x4 x5 s0 s1 s2 : Int32} {σ : zS} (hw : w_X7_moves_J105 Q K12 K65 x1 x2 x4 x5 s0 s1 s2 σ) : zAW RX7 cX7_moves 6 none false { frames := 3, cells := 0, slots := 0, locals := 62 } zΓM.length (zN zΓM zρM Q) 105 [(0, .ref 0), (1, .int x1), (2, .int x2), (4, .int x4), (5, .int x5)] [.int s0, .int s1, .int s2, .ref 8] zΓM zρM σ 0 0 := by
  unfold w_X7_moves_J105 at hw
  refine z_iadd dX7_moves_105 ?_
  refine z_iastL dX7_moves_106 zm8 hw (fun hw => ?_)
  refine z_iinc dX7_moves_107 rfl zi1 (Nat.le_of_ble_eq_true rfl) ?_
  refine z_goto dX7_moves_110 ?_
  exact z_to (hK65 _ _ _ _ _ hw) ⟨rfl, rfl, rfl, rfl, rfl, trivial⟩
set_option maxHeartbeats 4000000 in
set_option maxRecDepth 100000 in
theorem l_X7_moves_65  {Q : Int32 → zS → Prop} {K12 : Int32 → Int32 → zS → Prop} (hK12 : ∀ (a1 a2 : Int32) (σ : zS), K12 a1 a2 σ → zAW RX7 cX7_moves 6 none false { frames := 3, cells := 0, slots := 0, locals := 62 } zΓM.length (zN zΓM zρM Q) 12 [(0, .ref 0), (1, .int a1), (2, .int a2)] [] zΓM zρM σ 0 0) : ∀ (n : Nat) (x1 x2 x4 x5 : Int32) (σ : zS), w_X7_moves_L65 Q K12 n x1 x2 x4 x5 σ → zAW RX7 cX7_moves 6 none false { frames := 3, cells := 0, slots := 0, locals := 62 } zΓM.length (zN zΓM zρM Q) 65 [(0, .ref 0), (1, .int x1), (2, .int x2), (4, .int x4), (5, .int x5)] [] zΓM zρM σ 0 0 := by
  intro n
  induction n with
  | zero => intro x1 x2 x4 x5 σ hw; exact hw.elim
  | succ n hK65 =>
    intro x1 x2 x4 x5 σ hw
    rw [w_X7_moves_L65] at hw
    refine z_iload dX7_moves_65 rfl ?_
    refine z_aload_n dX7_moves_67 rfl rfl ?_
    refine z_geti dX7_moves_68 fX7_69 zm0 zkX7_5 ?_
    refine z_icmp_ge dX7_moves_71 hw (fun hw => ?_) (fun hw => ?_)
    · exact z_to (j_X7_moves_113  hK12 hw) ⟨rfl, rfl, rfl, trivial⟩
    · refine z_iload dX7_moves_74 rfl ?_
      refine z_if_eq dX7_moves_76 hw (fun hw => ?_) (fun hw => ?_)
      · exact z_to (j_X7_moves_113  hK12 hw) ⟨rfl, rfl, rfl, trivial⟩
      · refine z_aload_n dX7_moves_79 rfl rfl ?_
        refine z_getr dX7_moves_80 fX7_47 zm0 zkX7_13 zrM13 ?_
        refine z_bipush dX7_moves_83 zbp95 ?_
        refine z_iload dX7_moves_85 rfl ?_
        refine z_iadd dX7_moves_87 ?_
        refine z_dup2 dX7_moves_88 rfl rfl ?_
        refine z_iald dX7_moves_89 zm8 hw (fun hw => ?_)
        refine z_aload_n dX7_moves_90 rfl rfl ?_
        refine z_iload dX7_moves_91 rfl ?_
        refine z_iload_n dX7_moves_93 rfl rfl ?_
        refine z_callV dX7_moves_94 mX7_90 (c_X7_rides  hw) zm0 rfl rfl (Nat.le_of_ble_eq_true rfl) ⟨Nat.le_of_ble_eq_true rfl, Nat.le_of_ble_eq_true rfl⟩ ⟨Nat.le_refl _, Nat.le_refl _⟩ (fun _ _ hw => ?_)
        refine z_if_eq dX7_moves_97 hw (fun hw => ?_) (fun hw => ?_)
        · refine z_iconst dX7_moves_104 zi0 ?_
          exact z_to (j_X7_moves_105  hK12 hK65 hw) ⟨rfl, rfl, rfl, rfl, rfl, trivial⟩
        · refine z_iconst dX7_moves_100 zi1 ?_
          refine z_goto dX7_moves_101 ?_
          exact z_to (j_X7_moves_105  hK12 hK65 hw) ⟨rfl, rfl, rfl, rfl, rfl, trivial⟩
set_option maxHeartbeats 4000000 in
set_option maxRecDepth 100000 in
theorem j_X7_moves_60  {Q : Int32 → zS → Prop} {K12 : Int32 → Int32 → zS → Prop} (hK12 : ∀ (a1 a2 : Int32) (σ : zS), K12 a1 a2 σ → zAW RX7 cX7_moves 6 none false { frames := 3, cells := 0, slots := 0, locals := 62 } zΓM.length (zN zΓM zρM Q) 12 [(0, .ref 0), (1, .int a1), (2, .int a2)] [] zΓM zρM σ 0 0) {x1 x2 s0 : Int32} {σ : zS} (hw : w_X7_moves_J60 Q K12 x1 x2 s0 σ) : zAW RX7 cX7_moves 6 none false { frames := 3, cells := 0, slots := 0, locals := 62 } zΓM.length (zN zΓM zρM Q) 60 [(0, .ref 0), (1, .int x1), (2, .int x2)] [.int s0] zΓM zρM σ 0 0 := by
  unfold w_X7_moves_J60 at hw
  refine z_istore dX7_moves_60 (Nat.le_of_ble_eq_true rfl) ?_
  refine z_iconst dX7_moves_62 zi0 ?_
  refine z_istore dX7_moves_63 (Nat.le_of_ble_eq_true rfl) ?_
  obtain ⟨n, hw⟩ := hw
  exact z_to (l_X7_moves_65  hK12 n _ _ _ _ _ hw) ⟨rfl, rfl, rfl, rfl, rfl, trivial⟩
set_option maxHeartbeats 4000000 in
set_option maxRecDepth 100000 in
theorem j_X7_moves_59  {Q : Int32 → zS → Prop} {K12 : Int32 → Int32 → zS → Prop} (hK12 : ∀ (a1 a2 : Int32) (σ : zS), K12 a1 a2 σ → zAW RX7 cX7_moves 6 none false { frames := 3, cells := 0, slots := 0, locals := 62 } zΓM.length (zN zΓM zρM Q) 12 [(0, .ref 0), (1, .int a1), (2, .int a2)] [] zΓM zρM σ 0 0) {x1 x2 : Int32} {σ : zS} (hw : w_X7_moves_J59 Q K12 x1 x2 σ) : zAW RX7 cX7_moves 6 none false { frames := 3, cells := 0, slots := 0, locals := 62 } zΓM.length (zN zΓM zρM Q) 59 [(0, .ref 0), (1, .int x1), (2, .int x2)] [] zΓM zρM σ 0 0 := by
  unfold w_X7_moves_J59 at hw
  refine z_iconst dX7_moves_59 zi0 ?_
  exact z_to (j_X7_moves_60  hK12 hw) ⟨rfl, rfl, rfl, trivial⟩
set_option maxHeartbeats 4000000 in
set_option maxRecDepth 100000 in
theorem l_X7_moves_12  {Q : Int32 → zS → Prop}   : ∀ (n : Nat) (x1 x2 : Int32) (σ : zS), w_X7_moves_L12 Q  n x1 x2 σ → zAW RX7 cX7_moves 6 none false { frames := 3, cells := 0, slots := 0, locals := 62 } zΓM.length (zN zΓM zρM Q) 12 [(0, .ref 0), (1, .int x1), (2, .int x2)] [] zΓM zρM σ 0 0 := by
  intro n
  induction n with
  | zero => intro x1 x2 σ hw; exact hw.elim
  | succ n hK12 =>
    intro x1 x2 σ hw
    rw [w_X7_moves_L12] at hw
    refine z_iload_n dX7_moves_12 rfl rfl ?_
    refine z_aload_n dX7_moves_13 rfl rfl ?_
    refine z_callV dX7_moves_14 mX7_75 (c_X7_boxes  hw) zm0 rfl rfl (Nat.le_of_ble_eq_true rfl) ⟨Nat.le_of_ble_eq_true rfl, Nat.le_of_ble_eq_true rfl⟩ ⟨Nat.le_refl _, Nat.le_refl _⟩ (fun _ _ hw => ?_)
    refine z_icmp_ge dX7_moves_17 hw (fun hw => ?_) (fun hw => ?_)
    · refine z_aload_n dX7_moves_119 rfl rfl ?_
      refine z_getr dX7_moves_120 fX7_47 zm0 zkX7_13 zrM13 ?_
      refine z_iconst dX7_moves_123 zi1 ?_
      refine z_aload_n dX7_moves_124 rfl rfl ?_
      refine z_getr dX7_moves_125 fX7_47 zm0 zkX7_13 zrM13 ?_
      refine z_iconst dX7_moves_128 zi1 ?_
      refine z_iald dX7_moves_129 zm8 hw (fun hw => ?_)
      refine z_aload_n dX7_moves_130 rfl rfl ?_
      refine z_geti dX7_moves_131 fX7_19 zm0 zkX7_3 ?_
      refine z_iadd dX7_moves_134 ?_
      refine z_iload_n dX7_moves_135 rfl rfl ?_
      refine z_irem dX7_moves_136 hw (fun hw => ?_)
      refine z_iastL dX7_moves_137 zm8 hw (fun hw => ?_)
      exact z_vret dX7_moves_138 (Nat.le_refl _) (Nat.le_refl _) rfl ⟨rfl, rfl, hw⟩
    · refine z_aload_n dX7_moves_20 rfl rfl ?_
      refine z_iload_n dX7_moves_21 rfl rfl ?_
      refine z_callV dX7_moves_22 mX7_86 (c_X7_placeOf  hw) zm0 rfl rfl (Nat.le_of_ble_eq_true rfl) ⟨Nat.le_of_ble_eq_true rfl, Nat.le_of_ble_eq_true rfl⟩ ⟨Nat.le_refl _, Nat.le_refl _⟩ (fun _ _ hw => ?_)
      refine z_aload_n dX7_moves_25 rfl rfl ?_
      refine z_geti dX7_moves_26 fX7_19 zm0 zkX7_3 ?_
      refine z_iadd dX7_moves_29 ?_
      refine z_iload_n dX7_moves_30 rfl rfl ?_
      refine z_irem dX7_moves_31 hw (fun hw => ?_)
      refine z_aload_n dX7_moves_32 rfl rfl ?_
      refine z_geti dX7_moves_33 fX7_13 zm0 zkX7_1 ?_
      refine z_idiv dX7_moves_36 hw (fun hw => ?_)
      refine z_istore_n dX7_moves_37 rfl (Nat.le_of_ble_eq_true rfl) ?_
      refine z_aload_n dX7_moves_38 rfl rfl ?_
      refine z_iload_n dX7_moves_39 rfl rfl ?_
      refine z_callV dX7_moves_40 mX7_94 (c_X7_isAside  hw) zm0 rfl rfl (Nat.le_of_ble_eq_true rfl) ⟨Nat.le_of_ble_eq_true rfl, Nat.le_of_ble_eq_true rfl⟩ ⟨Nat.le_refl _, Nat.le_refl _⟩ (fun _ _ hw => ?_)
      refine z_if_eq dX7_moves_43 hw (fun hw => ?_) (fun hw => ?_)
      · exact z_to (j_X7_moves_59  hK12 hw) ⟨rfl, rfl, rfl, trivial⟩
      · refine z_iload_n dX7_moves_46 rfl rfl ?_
        refine z_aload_n dX7_moves_47 rfl rfl ?_
        refine z_iload_n dX7_moves_48 rfl rfl ?_
        refine z_callV dX7_moves_49 mX7_97 (c_X7_partOf  hw) zm0 rfl rfl (Nat.le_of_ble_eq_true rfl) ⟨Nat.le_of_ble_eq_true rfl, Nat.le_of_ble_eq_true rfl⟩ ⟨Nat.le_refl _, Nat.le_refl _⟩ (fun _ _ hw => ?_)
        refine z_icmp_eq dX7_moves_52 hw (fun hw => ?_) (fun hw => ?_)
        · exact z_to (j_X7_moves_59  hK12 hw) ⟨rfl, rfl, rfl, trivial⟩
        · refine z_iconst dX7_moves_55 zi1 ?_
          refine z_goto dX7_moves_56 ?_
          exact z_to (j_X7_moves_60  hK12 hw) ⟨rfl, rfl, rfl, trivial⟩
set_option maxHeartbeats 4000000 in
set_option maxRecDepth 100000 in
theorem c_X7_moves  {σ : zS} {Q : Int32 → zS → Prop} (hw : w_X7_moves  σ Q) : zAC yX7_moves cX7_moves 6 none { frames := 3, cells := 0, slots := 0, locals := 62 } [.ref 0] zΓM zρM σ (zN zΓM zρM Q) := by
  refine z_entry (own := RX7) (ini := false) (plainFor_of_name pnX7) rfl (fun h => by cases h) (Nat.le_of_ble_eq_true rfl) ?_
  unfold w_X7_moves at hw
  refine z_aload_n dX7_moves_0 rfl rfl ?_
  refine z_callV dX7_moves_1 mX7_75 (c_X7_boxes  hw) zm0 rfl rfl (Nat.le_of_ble_eq_true rfl) ⟨Nat.le_of_ble_eq_true rfl, Nat.le_of_ble_eq_true rfl⟩ ⟨Nat.le_refl _, Nat.le_refl _⟩ (fun _ _ hw => ?_)
  refine z_aload_n dX7_moves_4 rfl rfl ?_
  refine z_geti dX7_moves_5 fX7_13 zm0 zkX7_1 ?_
  refine z_imul dX7_moves_8 ?_
  refine z_istore_n dX7_moves_9 rfl (Nat.le_of_ble_eq_true rfl) ?_
  refine z_iconst dX7_moves_10 zi0 ?_
  refine z_istore_n dX7_moves_11 rfl (Nat.le_of_ble_eq_true rfl) ?_
  obtain ⟨n, hw⟩ := hw
  exact z_to (l_X7_moves_12   n _ _ _ hw) ⟨rfl, rfl, rfl, trivial⟩
def w_X7_far  (x1 : Int32) (σ : zS) (Q : Int32 → zS → Prop) : Prop := (vp_in x1 30 ∧ (vp_in x1 30 ∧ (((σ.2 3 x1.toNatClampNeg) ≤ (σ.2 2 x1.toNatClampNeg) → (vp_in x1 30 ∧ (vp_in x1 30 ∧ Q ((σ.2 2 x1.toNatClampNeg) - (σ.2 3 x1.toNatClampNeg)) σ))) ∧ (¬ ((σ.2 3 x1.toNatClampNeg) ≤ (σ.2 2 x1.toNatClampNeg)) → (vp_in x1 30 ∧ (vp_in x1 30 ∧ Q ((σ.2 3 x1.toNatClampNeg) - (σ.2 2 x1.toNatClampNeg)) σ))))))
set_option maxHeartbeats 4000000 in
set_option maxRecDepth 100000 in
theorem c_X7_far  {x1 : Int32} {σ : zS} {Q : Int32 → zS → Prop} (hw : w_X7_far x1 σ Q) : zAC yX7_far cX7_far 2 (some .int) { frames := 0, cells := 0, slots := 0, locals := 0 } [.ref 0, .int x1] zΓM zρM σ (zN zΓM zρM Q) := by
  refine z_entry (own := RX7) (ini := false) (plainFor_of_name pnX7) rfl (fun h => by cases h) (Nat.le_of_ble_eq_true rfl) ?_
  unfold w_X7_far at hw
  refine z_aload_n dX7_far_0 rfl rfl ?_
  refine z_getr dX7_far_1 fX7_29 zm0 zkX7_7 zrM7 ?_
  refine z_iload_n dX7_far_4 rfl rfl ?_
  refine z_iald dX7_far_5 zm2 hw (fun hw => ?_)
  refine z_aload_n dX7_far_6 rfl rfl ?_
  refine z_getr dX7_far_7 fX7_32 zm0 zkX7_8 zrM8 ?_
  refine z_iload_n dX7_far_10 rfl rfl ?_
  refine z_iald dX7_far_11 zm3 hw (fun hw => ?_)
  refine z_icmp_ge dX7_far_12 hw (fun hw => ?_) (fun hw => ?_)
  · refine z_aload_n dX7_far_31 rfl rfl ?_
    refine z_getr dX7_far_32 fX7_29 zm0 zkX7_7 zrM7 ?_
    refine z_iload_n dX7_far_35 rfl rfl ?_
    refine z_iald dX7_far_36 zm2 hw (fun hw => ?_)
    refine z_aload_n dX7_far_37 rfl rfl ?_
    refine z_getr dX7_far_38 fX7_32 zm0 zkX7_8 zrM8 ?_
    refine z_iload_n dX7_far_41 rfl rfl ?_
    refine z_iald dX7_far_42 zm3 hw (fun hw => ?_)
    refine z_isub dX7_far_43 ?_
    exact z_iret dX7_far_44 (Nat.le_refl _) (Nat.le_refl _) rfl ⟨rfl, rfl, hw⟩
  · refine z_aload_n dX7_far_15 rfl rfl ?_
    refine z_getr dX7_far_16 fX7_32 zm0 zkX7_8 zrM8 ?_
    refine z_iload_n dX7_far_19 rfl rfl ?_
    refine z_iald dX7_far_20 zm3 hw (fun hw => ?_)
    refine z_aload_n dX7_far_21 rfl rfl ?_
    refine z_getr dX7_far_22 fX7_29 zm0 zkX7_7 zrM7 ?_
    refine z_iload_n dX7_far_25 rfl rfl ?_
    refine z_iald dX7_far_26 zm2 hw (fun hw => ?_)
    refine z_isub dX7_far_27 ?_
    refine z_goto dX7_far_28 ?_
    exact z_iret dX7_far_44 (Nat.le_refl _) (Nat.le_refl _) rfl ⟨rfl, rfl, hw⟩
def w_X7_walks_J25 (Q : Int32 → zS → Prop)  (s0 s1 : Int32) (σ : zS) : Prop := ((s0 < s1 → (((0 : Int32) = 0 ∨ (0 : Int32) = 1) ∧ Q (0 : Int32) σ)) ∧ (¬ (s0 < s1) → (((1 : Int32) = 0 ∨ (1 : Int32) = 1) ∧ Q (1 : Int32) σ)))
def w_X7_walks  (x1 : Int32) (σ : zS) (Q : Int32 → zS → Prop) : Prop := (w_X7_far x1 σ fun v1 t2 => ((0 ≤ (t2.1 0 4) → w_X7_walks_J25 Q   ((t2.1 0 4)) v1 t2) ∧ (¬ (0 ≤ (t2.1 0 4)) → (vp_in x1 30 ∧ w_X7_walks_J25 Q   ((t2.2 7 x1.toNatClampNeg)) v1 t2))))
set_option maxHeartbeats 4000000 in
set_option maxRecDepth 100000 in
theorem j_X7_walks_25  {Q : Int32 → zS → Prop}   {s0 s1 : Int32} {σ : zS} (hw : w_X7_walks_J25 Q  s0 s1 σ) : zAW RX7 cX7_walks 2 (some .boolean) false { frames := 1, cells := 0, slots := 0, locals := 21 } zΓM.length (zN zΓM zρM Q) 25 [] [.int s0, .int s1] zΓM zρM σ 0 0 := by
  unfold w_X7_walks_J25 at hw
  refine z_icmp_gt dX7_walks_25 hw (fun hw => ?_) (fun hw => ?_)
  · refine z_iconst dX7_walks_32 zi0 ?_
    exact z_zret dX7_walks_33 (Nat.le_refl _) (Nat.le_refl _) rfl ⟨hw.1, ⟨rfl, rfl, hw.2⟩⟩
  · refine z_iconst dX7_walks_28 zi1 ?_
    refine z_goto dX7_walks_29 ?_
    exact z_zret dX7_walks_33 (Nat.le_refl _) (Nat.le_refl _) rfl ⟨hw.1, ⟨rfl, rfl, hw.2⟩⟩
set_option maxHeartbeats 4000000 in
set_option maxRecDepth 100000 in
theorem c_X7_walks  {x1 : Int32} {σ : zS} {Q : Int32 → zS → Prop} (hw : w_X7_walks x1 σ Q) : zAC yX7_walks cX7_walks 2 (some .boolean) { frames := 1, cells := 0, slots := 0, locals := 21 } [.ref 0, .int x1] zΓM zρM σ (zN zΓM zρM Q) := by
  refine z_entry (own := RX7) (ini := false) (plainFor_of_name pnX7) rfl (fun h => by cases h) (Nat.le_of_ble_eq_true rfl) ?_
  unfold w_X7_walks at hw
  refine z_aload_n dX7_walks_0 rfl rfl ?_
  refine z_iload_n dX7_walks_1 rfl rfl ?_
  refine z_callV dX7_walks_2 mX7_100 (c_X7_far  hw) zm0 rfl rfl (Nat.le_of_ble_eq_true rfl) ⟨Nat.le_of_ble_eq_true rfl, Nat.le_of_ble_eq_true rfl⟩ ⟨Nat.le_refl _, Nat.le_refl _⟩ (fun _ _ hw => ?_)
  refine z_aload_n dX7_walks_5 rfl rfl ?_
  refine z_geti dX7_walks_6 fX7_22 zm0 zkX7_4 ?_
  refine z_if_ge dX7_walks_9 hw (fun hw => ?_) (fun hw => ?_)
  · refine z_aload_n dX7_walks_21 rfl rfl ?_
    refine z_geti dX7_walks_22 fX7_22 zm0 zkX7_4 ?_
    exact z_to (j_X7_walks_25   hw) trivial
  · refine z_aload_n dX7_walks_12 rfl rfl ?_
    refine z_getr dX7_walks_13 fX7_44 zm0 zkX7_12 zrM12 ?_
    refine z_iload_n dX7_walks_16 rfl rfl ?_
    refine z_iald dX7_walks_17 zm7 hw (fun hw => ?_)
    refine z_goto dX7_walks_18 ?_
    exact z_to (j_X7_walks_25   hw) trivial
def w_X7_comes_J80 (Q : Int32 → zS → Prop) (K2 : Int32 → zS → Prop) (x1 : Int32) (σ : zS) : Prop := K2 ((x1 + (1 : Int32))) σ
def w_X7_comes_L2 (Q : Int32 → zS → Prop)  : Nat → Int32 → zS → Prop
  | 0, _, _ => False
  | n + 1, x1, σ => (((σ.1 0 5) ≤ x1 → Q 0 σ) ∧ (¬ ((σ.1 0 5) ≤ x1) → (vp_in x1 30 ∧ (vp_in ((0 : Int32)) 389 ∧ (((σ.2 1 x1.toNatClampNeg) = (σ.2 8 ((0 : Int32)).toNatClampNeg) → (w_X7_walks x1 σ fun v1 t2 => ((v1 = 0 → (vp_in x1 30 ∧ (w_X7_joins x1 ((t2.2 2 x1.toNatClampNeg)) t2 fun _ t3 => w_X7_comes_J80 Q (fun a1 aσ => w_X7_comes_L2 Q  n a1 aσ) x1  t3))) ∧ (¬ (v1 = 0) → (vp_in (((5 : Int32) + x1)) 389 ∧ zlet (zA t2 8 (((5 : Int32) + x1)).toNatClampNeg (3 : Int32)) fun t4 => (vp_in ((0 : Int32)) 389 ∧ (w_X7_far x1 t4 fun v5 t6 => (vp_in (((65 : Int32) + x1)) 389 ∧ zlet (zA t6 8 (((65 : Int32) + x1)).toNatClampNeg ((t4.2 8 ((0 : Int32)).toNatClampNeg) + ((6 : Int32) * v5))) fun t7 => w_X7_comes_J80 Q (fun a1 aσ => w_X7_comes_L2 Q  n a1 aσ) x1  t7)))))))) ∧ (¬ ((σ.2 1 x1.toNatClampNeg) = (σ.2 8 ((0 : Int32)).toNatClampNeg)) → w_X7_comes_J80 Q (fun a1 aσ => w_X7_comes_L2 Q  n a1 aσ) x1  σ))))))
def w_X7_comes  (σ : zS) (Q : Int32 → zS → Prop) : Prop := ∃ m2, w_X7_comes_L2 Q  m2 ((0 : Int32)) σ
set_option maxHeartbeats 4000000 in
set_option maxRecDepth 100000 in
theorem j_X7_comes_80  {Q : Int32 → zS → Prop} {K2 : Int32 → zS → Prop} (hK2 : ∀ (a1 : Int32) (σ : zS), K2 a1 σ → zAW RX7 cX7_comes 2 none false { frames := 2, cells := 0, slots := 0, locals := 42 } zΓM.length (zN zΓM zρM Q) 2 [(0, .ref 0), (1, .int a1)] [] zΓM zρM σ 0 0) {x1 : Int32} {σ : zS} (hw : w_X7_comes_J80 Q K2 x1 σ) : zAW RX7 cX7_comes 2 none false { frames := 2, cells := 0, slots := 0, locals := 42 } zΓM.length (zN zΓM zρM Q) 80 [(0, .ref 0), (1, .int x1)] [] zΓM zρM σ 0 0 := by
  unfold w_X7_comes_J80 at hw
  refine z_iinc dX7_comes_80 rfl zi1 (Nat.le_of_ble_eq_true rfl) ?_
  refine z_goto dX7_comes_83 ?_
  exact z_to (hK2 _ _ hw) ⟨rfl, rfl, trivial⟩
set_option maxHeartbeats 4000000 in
set_option maxRecDepth 100000 in
theorem l_X7_comes_2  {Q : Int32 → zS → Prop}   : ∀ (n : Nat) (x1 : Int32) (σ : zS), w_X7_comes_L2 Q  n x1 σ → zAW RX7 cX7_comes 2 none false { frames := 2, cells := 0, slots := 0, locals := 42 } zΓM.length (zN zΓM zρM Q) 2 [(0, .ref 0), (1, .int x1)] [] zΓM zρM σ 0 0 := by
  intro n
  induction n with
  | zero => intro x1 σ hw; exact hw.elim
  | succ n hK2 =>
    intro x1 σ hw
    rw [w_X7_comes_L2] at hw
    refine z_iload_n dX7_comes_2 rfl rfl ?_
    refine z_aload_n dX7_comes_3 rfl rfl ?_
    refine z_geti dX7_comes_4 fX7_69 zm0 zkX7_5 ?_
    refine z_icmp_ge dX7_comes_7 hw (fun hw => ?_) (fun hw => ?_)
    · exact z_vret dX7_comes_86 (Nat.le_refl _) (Nat.le_refl _) rfl ⟨rfl, rfl, hw⟩
    · refine z_aload_n dX7_comes_10 rfl rfl ?_
      refine z_getr dX7_comes_11 fX7_25 zm0 zkX7_6 zrM6 ?_
      refine z_iload_n dX7_comes_14 rfl rfl ?_
      refine z_iald dX7_comes_15 zm1 hw (fun hw => ?_)
      refine z_aload_n dX7_comes_16 rfl rfl ?_
      refine z_getr dX7_comes_17 fX7_47 zm0 zkX7_13 zrM13 ?_
      refine z_iconst dX7_comes_20 zi0 ?_
      refine z_iald dX7_comes_21 zm8 hw (fun hw => ?_)
      refine z_icmp_ne dX7_comes_22 hw (fun hw => ?_) (fun hw => ?_)
      · exact z_to (j_X7_comes_80  hK2 hw) ⟨rfl, rfl, trivial⟩
      · refine z_aload_n dX7_comes_25 rfl rfl ?_
        refine z_iload_n dX7_comes_26 rfl rfl ?_
        refine z_callV dX7_comes_27 mX7_103 (c_X7_walks  hw) zm0 rfl rfl (Nat.le_of_ble_eq_true rfl) ⟨Nat.le_of_ble_eq_true rfl, Nat.le_of_ble_eq_true rfl⟩ ⟨Nat.le_refl _, Nat.le_refl _⟩ (fun _ _ hw => ?_)
        refine z_if_eq dX7_comes_30 hw (fun hw => ?_) (fun hw => ?_)
        · refine z_aload_n dX7_comes_69 rfl rfl ?_
          refine z_iload_n dX7_comes_70 rfl rfl ?_
          refine z_aload_n dX7_comes_71 rfl rfl ?_
          refine z_getr dX7_comes_72 fX7_29 zm0 zkX7_7 zrM7 ?_
          refine z_iload_n dX7_comes_75 rfl rfl ?_
          refine z_iald dX7_comes_76 zm2 hw (fun hw => ?_)
          refine z_callVv dX7_comes_77 mX7_106 (c_X7_joins  hw) zm0 rfl rfl (Nat.le_of_ble_eq_true rfl) ⟨Nat.le_of_ble_eq_true rfl, Nat.le_of_ble_eq_true rfl⟩ ⟨Nat.le_refl _, Nat.le_refl _⟩ (fun _ hw => ?_)
          exact z_to (j_X7_comes_80  hK2 hw) ⟨rfl, rfl, trivial⟩
        · refine z_aload_n dX7_comes_33 rfl rfl ?_
          refine z_getr dX7_comes_34 fX7_47 zm0 zkX7_13 zrM13 ?_
          refine z_iconst dX7_comes_37 zi5 ?_
          refine z_iload_n dX7_comes_38 rfl rfl ?_
          refine z_iadd dX7_comes_39 ?_
          refine z_iconst dX7_comes_40 zi3 ?_
          refine z_iastL dX7_comes_41 zm8 hw (fun hw => ?_)
          refine z_aload_n dX7_comes_42 rfl rfl ?_
          refine z_getr dX7_comes_43 fX7_47 zm0 zkX7_13 zrM13 ?_
          refine z_bipush dX7_comes_46 zbp65 ?_
          refine z_iload_n dX7_comes_48 rfl rfl ?_
          refine z_iadd dX7_comes_49 ?_
          refine z_aload_n dX7_comes_50 rfl rfl ?_
          refine z_getr dX7_comes_51 fX7_47 zm0 zkX7_13 zrM13 ?_
          refine z_iconst dX7_comes_54 zi0 ?_
          refine z_iald dX7_comes_55 zm8 hw (fun hw => ?_)
          refine z_bipush dX7_comes_56 zbp6 ?_
          refine z_aload_n dX7_comes_58 rfl rfl ?_
          refine z_iload_n dX7_comes_59 rfl rfl ?_
          refine z_callV dX7_comes_60 mX7_100 (c_X7_far  hw) zm0 rfl rfl (Nat.le_of_ble_eq_true rfl) ⟨Nat.le_of_ble_eq_true rfl, Nat.le_of_ble_eq_true rfl⟩ ⟨Nat.le_refl _, Nat.le_refl _⟩ (fun _ _ hw => ?_)
          refine z_imul dX7_comes_63 ?_
          refine z_iadd dX7_comes_64 ?_
          refine z_iastL dX7_comes_65 zm8 hw (fun hw => ?_)
          refine z_goto dX7_comes_66 ?_
          exact z_to (j_X7_comes_80  hK2 hw) ⟨rfl, rfl, trivial⟩
set_option maxHeartbeats 4000000 in
set_option maxRecDepth 100000 in
theorem c_X7_comes  {σ : zS} {Q : Int32 → zS → Prop} (hw : w_X7_comes  σ Q) : zAC yX7_comes cX7_comes 2 none { frames := 2, cells := 0, slots := 0, locals := 42 } [.ref 0] zΓM zρM σ (zN zΓM zρM Q) := by
  refine z_entry (own := RX7) (ini := false) (plainFor_of_name pnX7) rfl (fun h => by cases h) (Nat.le_of_ble_eq_true rfl) ?_
  unfold w_X7_comes at hw
  refine z_iconst dX7_comes_0 zi0 ?_
  refine z_istore_n dX7_comes_1 rfl (Nat.le_of_ble_eq_true rfl) ?_
  obtain ⟨n, hw⟩ := hw
  exact z_to (l_X7_comes_2   n _ _ hw) ⟨rfl, rfl, trivial⟩
def w_X7_leaves  (x1 x2 : Int32) (σ : zS) (Q : Int32 → zS → Prop) : Prop := (vp_in (((133 : Int32) + x2)) 389 ∧ (vp_in (((133 : Int32) + x2)) 389 ∧ zlet (zA σ 8 (((133 : Int32) + x2)).toNatClampNeg ((σ.2 8 (((133 : Int32) + x2)).toNatClampNeg) + (1 : Int32))) fun t1 => (vp_in x1 30 ∧ (((t1.2 3 x1.toNatClampNeg) = x2 → (vp_in (((5 : Int32) + x1)) 389 ∧ zlet (zA t1 8 (((5 : Int32) + x1)).toNatClampNeg (4 : Int32)) fun t3 => (vp_in (((35 : Int32) + x1)) 389 ∧ zlet (zA t3 8 (((35 : Int32) + x1)).toNatClampNeg x2) fun t4 => (vp_in ((0 : Int32)) 389 ∧ (vp_in (((65 : Int32) + x1)) 389 ∧ zlet (zA t4 8 (((65 : Int32) + x1)).toNatClampNeg (t4.2 8 ((0 : Int32)).toNatClampNeg)) fun t5 => Q 0 t5))))) ∧ (¬ ((t1.2 3 x1.toNatClampNeg) = x2) → (w_X7_joins x1 x2 t1 fun _ t2 => Q 0 t2))))))
set_option maxHeartbeats 4000000 in
set_option maxRecDepth 100000 in
theorem c_X7_leaves  {x1 x2 : Int32} {σ : zS} {Q : Int32 → zS → Prop} (hw : w_X7_leaves x1 x2 σ Q) : zAC yX7_leaves cX7_leaves 3 none { frames := 1, cells := 0, slots := 0, locals := 22 } [.ref 0, .int x1, .int x2] zΓM zρM σ (zN zΓM zρM Q) := by
  refine z_entry (own := RX7) (ini := false) (plainFor_of_name pnX7) rfl (fun h => by cases h) (Nat.le_of_ble_eq_true rfl) ?_
  unfold w_X7_leaves at hw
  refine z_aload_n dX7_leaves_0 rfl rfl ?_
  refine z_getr dX7_leaves_1 fX7_47 zm0 zkX7_13 zrM13 ?_
  refine z_sipush dX7_leaves_4 zsp133 ?_
  refine z_iload_n dX7_leaves_7 rfl rfl ?_
  refine z_iadd dX7_leaves_8 ?_
  refine z_dup2 dX7_leaves_9 rfl rfl ?_
  refine z_iald dX7_leaves_10 zm8 hw (fun hw => ?_)
  refine z_iconst dX7_leaves_11 zi1 ?_
  refine z_iadd dX7_leaves_12 ?_
  refine z_iastL dX7_leaves_13 zm8 hw (fun hw => ?_)
  refine z_aload_n dX7_leaves_14 rfl rfl ?_
  refine z_getr dX7_leaves_15 fX7_32 zm0 zkX7_8 zrM8 ?_
  refine z_iload_n dX7_leaves_18 rfl rfl ?_
  refine z_iald dX7_leaves_19 zm3 hw (fun hw => ?_)
  refine z_iload_n dX7_leaves_20 rfl rfl ?_
  refine z_icmp_ne dX7_leaves_21 hw (fun hw => ?_) (fun hw => ?_)
  · refine z_aload_n dX7_leaves_61 rfl rfl ?_
    refine z_iload_n dX7_leaves_62 rfl rfl ?_
    refine z_iload_n dX7_leaves_63 rfl rfl ?_
    refine z_callVv dX7_leaves_64 mX7_106 (c_X7_joins  hw) zm0 rfl rfl (Nat.le_of_ble_eq_true rfl) ⟨Nat.le_of_ble_eq_true rfl, Nat.le_of_ble_eq_true rfl⟩ ⟨Nat.le_refl _, Nat.le_refl _⟩ (fun _ hw => ?_)
    exact z_vret dX7_leaves_67 (Nat.le_refl _) (Nat.le_refl _) rfl ⟨rfl, rfl, hw⟩
  · refine z_aload_n dX7_leaves_24 rfl rfl ?_
    refine z_getr dX7_leaves_25 fX7_47 zm0 zkX7_13 zrM13 ?_
    refine z_iconst dX7_leaves_28 zi5 ?_
    refine z_iload_n dX7_leaves_29 rfl rfl ?_
    refine z_iadd dX7_leaves_30 ?_
    refine z_iconst dX7_leaves_31 zi4 ?_
    refine z_iastL dX7_leaves_32 zm8 hw (fun hw => ?_)
    refine z_aload_n dX7_leaves_33 rfl rfl ?_
    refine z_getr dX7_leaves_34 fX7_47 zm0 zkX7_13 zrM13 ?_
    refine z_bipush dX7_leaves_37 zbp35 ?_
    refine z_iload_n dX7_leaves_39 rfl rfl ?_
    refine z_iadd dX7_leaves_40 ?_
    refine z_iload_n dX7_leaves_41 rfl rfl ?_
    refine z_iastL dX7_leaves_42 zm8 hw (fun hw => ?_)
    refine z_aload_n dX7_leaves_43 rfl rfl ?_
    refine z_getr dX7_leaves_44 fX7_47 zm0 zkX7_13 zrM13 ?_
    refine z_bipush dX7_leaves_47 zbp65 ?_
    refine z_iload_n dX7_leaves_49 rfl rfl ?_
    refine z_iadd dX7_leaves_50 ?_
    refine z_aload_n dX7_leaves_51 rfl rfl ?_
    refine z_getr dX7_leaves_52 fX7_47 zm0 zkX7_13 zrM13 ?_
    refine z_iconst dX7_leaves_55 zi0 ?_
    refine z_iald dX7_leaves_56 zm8 hw (fun hw => ?_)
    refine z_iastL dX7_leaves_57 zm8 hw (fun hw => ?_)
    refine z_goto dX7_leaves_58 ?_
    exact z_vret dX7_leaves_67 (Nat.le_refl _) (Nat.le_refl _) rfl ⟨rfl, rfl, hw⟩
def w_X7_serves_J313 (Q : Int32 → zS → Prop) (K205 : Int32 → Int32 → Int32 → Int32 → Int32 → Int32 → Int32 → Int32 → zS → Prop) (x1 x2 x4 x5 x7 x8 x10 s0 : Int32) (σ : zS) : Prop := K205 x1 x2 x4 x5 x7 x8 s0 ((x10 + (-1 : Int32))) σ
def w_X7_serves_J299 (Q : Int32 → zS → Prop) (K205 : Int32 → Int32 → Int32 → Int32 → Int32 → Int32 → Int32 → Int32 → zS → Prop) (x1 x2 x4 x5 x7 x8 x9 x10 s0 : Int32) (σ : zS) : Prop := ((s0 = 0 → w_X7_serves_J313 Q K205 x1 x2 x4 x5 x7 x8 x10 x9 σ) ∧ (¬ (s0 = 0) → w_X7_serves_J313 Q K205 x1 x2 x4 x5 x7 x8 x10 x10 σ))
def w_X7_serves_J298 (Q : Int32 → zS → Prop) (K205 : Int32 → Int32 → Int32 → Int32 → Int32 → Int32 → Int32 → Int32 → zS → Prop) (x1 x2 x4 x5 x7 x8 x9 x10 : Int32) (σ : zS) : Prop := w_X7_serves_J299 Q K205 x1 x2 x4 x5 x7 x8 x9 x10 ((0 : Int32)) σ
def w_X7_serves_J294 (Q : Int32 → zS → Prop) (K205 : Int32 → Int32 → Int32 → Int32 → Int32 → Int32 → Int32 → Int32 → zS → Prop) (x1 x2 x4 x5 x7 x8 x9 x10 : Int32) (σ : zS) : Prop := w_X7_serves_J299 Q K205 x1 x2 x4 x5 x7 x8 x9 x10 ((1 : Int32)) σ
def w_X7_serves_L205 (Q : Int32 → zS → Prop)  : Nat → Int32 → Int32 → Int32 → Int32 → Int32 → Int32 → Int32 → Int32 → zS → Prop
  | 0, _, _, _, _, _, _, _, _, _ => False
  | n + 1, x1, x2, x4, x5, x7, x8, x9, x10, σ => ((x10 < 0 → ((x9 < 0 → Q 0 σ) ∧ (¬ (x9 < 0) → (vp_in ((((149 : Int32) + ((30 : Int32) * x4)) + x9)) 389 ∧ (w_X7_parts x4 x9 σ fun _ t1 => (vp_in (((5 : Int32) + (σ.2 8 ((((149 : Int32) + ((30 : Int32) * x4)) + x9)).toNatClampNeg))) 389 ∧ zlet (zA t1 8 (((5 : Int32) + (σ.2 8 ((((149 : Int32) + ((30 : Int32) * x4)) + x9)).toNatClampNeg))).toNatClampNeg (2 : Int32)) fun t2 => (vp_in (((35 : Int32) + (σ.2 8 ((((149 : Int32) + ((30 : Int32) * x4)) + x9)).toNatClampNeg))) 389 ∧ zlet (zA t2 8 (((35 : Int32) + (σ.2 8 ((((149 : Int32) + ((30 : Int32) * x4)) + x9)).toNatClampNeg))).toNatClampNeg x1) fun t3 => (vp_in (((125 : Int32) + x4)) 389 ∧ (vp_in (((125 : Int32) + x4)) 389 ∧ zlet (zA t3 8 (((125 : Int32) + x4)).toNatClampNeg ((t3.2 8 (((125 : Int32) + x4)).toNatClampNeg) + (1 : Int32))) fun t4 => Q 0 t4))))))))) ∧ (¬ (x10 < 0) → (vp_in ((((149 : Int32) + ((30 : Int32) * x4)) + x10)) 389 ∧ (vp_in ((σ.2 8 ((((149 : Int32) + ((30 : Int32) * x4)) + x10)).toNatClampNeg)) 30 ∧ ((x2 < (σ.2 5 ((σ.2 8 ((((149 : Int32) + ((30 : Int32) * x4)) + x10)).toNatClampNeg)).toNatClampNeg) → w_X7_serves_J298 Q (fun a1 a2 a4 a5 a7 a8 a9 a10 aσ => w_X7_serves_L205 Q  n a1 a2 a4 a5 a7 a8 a9 a10 aσ) x1 x2 x4 x5 x7 x8 x9 x10  σ) ∧ (¬ (x2 < (σ.2 5 ((σ.2 8 ((((149 : Int32) + ((30 : Int32) * x4)) + x10)).toNatClampNeg)).toNatClampNeg)) → (vp_in ((σ.2 8 ((((149 : Int32) + ((30 : Int32) * x4)) + x10)).toNatClampNeg)) 30 ∧ ((x8 < (σ.2 4 ((σ.2 8 ((((149 : Int32) + ((30 : Int32) * x4)) + x10)).toNatClampNeg)).toNatClampNeg) → w_X7_serves_J298 Q (fun a1 a2 a4 a5 a7 a8 a9 a10 aσ => w_X7_serves_L205 Q  n a1 a2 a4 a5 a7 a8 a9 a10 aσ) x1 x2 x4 x5 x7 x8 x9 x10  σ) ∧ (¬ (x8 < (σ.2 4 ((σ.2 8 ((((149 : Int32) + ((30 : Int32) * x4)) + x10)).toNatClampNeg)).toNatClampNeg)) → ((((x7 >>> ((σ.2 8 ((((149 : Int32) + ((30 : Int32) * x4)) + x10)).toNatClampNeg) &&& 31)) &&& (1 : Int32)) = 0 → ((x5 = 0 → (vp_in ((σ.2 8 ((((149 : Int32) + ((30 : Int32) * x4)) + x10)).toNatClampNeg)) 30 ∧ ((x4 ≤ (σ.2 3 ((σ.2 8 ((((149 : Int32) + ((30 : Int32) * x4)) + x10)).toNatClampNeg)).toNatClampNeg) → w_X7_serves_J298 Q (fun a1 a2 a4 a5 a7 a8 a9 a10 aσ => w_X7_serves_L205 Q  n a1 a2 a4 a5 a7 a8 a9 a10 aσ) x1 x2 x4 x5 x7 x8 x9 x10  σ) ∧ (¬ (x4 ≤ (σ.2 3 ((σ.2 8 ((((149 : Int32) + ((30 : Int32) * x4)) + x10)).toNatClampNeg)).toNatClampNeg)) → w_X7_serves_J294 Q (fun a1 a2 a4 a5 a7 a8 a9 a10 aσ => w_X7_serves_L205 Q  n a1 a2 a4 a5 a7 a8 a9 a10 aσ) x1 x2 x4 x5 x7 x8 x9 x10  σ)))) ∧ (¬ (x5 = 0) → (vp_in ((σ.2 8 ((((149 : Int32) + ((30 : Int32) * x4)) + x10)).toNatClampNeg)) 30 ∧ (((σ.2 3 ((σ.2 8 ((((149 : Int32) + ((30 : Int32) * x4)) + x10)).toNatClampNeg)).toNatClampNeg) ≤ x4 → w_X7_serves_J298 Q (fun a1 a2 a4 a5 a7 a8 a9 a10 aσ => w_X7_serves_L205 Q  n a1 a2 a4 a5 a7 a8 a9 a10 aσ) x1 x2 x4 x5 x7 x8 x9 x10  σ) ∧ (¬ ((σ.2 3 ((σ.2 8 ((((149 : Int32) + ((30 : Int32) * x4)) + x10)).toNatClampNeg)).toNatClampNeg) ≤ x4) → w_X7_serves_J294 Q (fun a1 a2 a4 a5 a7 a8 a9 a10 aσ => w_X7_serves_L205 Q  n a1 a2 a4 a5 a7 a8 a9 a10 aσ) x1 x2 x4 x5 x7 x8 x9 x10  σ)))))) ∧ (¬ (((x7 >>> ((σ.2 8 ((((149 : Int32) + ((30 : Int32) * x4)) + x10)).toNatClampNeg) &&& 31)) &&& (1 : Int32)) = 0) → w_X7_serves_J298 Q (fun a1 a2 a4 a5 a7 a8 a9 a10 aσ => w_X7_serves_L205 Q  n a1 a2 a4 a5 a7 a8 a9 a10 aσ) x1 x2 x4 x5 x7 x8 x9 x10  σ)))))))))))
def w_X7_serves_J172 (Q : Int32 → zS → Prop) (K97 : Int32 → Int32 → Int32 → Int32 → Int32 → Int32 → Int32 → zS → Prop) (x1 x2 x4 x5 x6 x7 x8 : Int32) (σ : zS) : Prop := K97 x1 x2 x4 x5 x6 x7 ((x8 + (1 : Int32))) σ
def w_X7_serves_J155 (Q : Int32 → zS → Prop) (K97 : Int32 → Int32 → Int32 → Int32 → Int32 → Int32 → Int32 → zS → Prop) (x1 x2 x4 x5 x6 x7 x8 : Int32) (σ : zS) : Prop := (w_X7_leaves x8 x4 σ fun _ t1 => w_X7_serves_J172 Q K97 x1 x2 x4 x5 x6 ((x7 ||| ((1 : Int32) <<< (x8 &&& 31)))) x8  t1)
def w_X7_serves_L97 (Q : Int32 → zS → Prop)  : Nat → Int32 → Int32 → Int32 → Int32 → Int32 → Int32 → Int32 → zS → Prop
  | 0, _, _, _, _, _, _, _, _ => False
  | n + 1, x1, x2, x4, x5, x6, x7, x8, σ => (((σ.1 0 5) ≤ x8 → (w_X7_widths x1 σ fun v1 t2 => (vp_in (((141 : Int32) + x4)) 389 ∧ ∃ m205, w_X7_serves_L205 Q  m205 x1 x2 x4 x5 x7 (((4 : Int32) - v1)) ((-1 : Int32)) (((t2.2 8 (((141 : Int32) + x4)).toNatClampNeg) - (1 : Int32))) t2))) ∧ (¬ ((σ.1 0 5) ≤ x8) → (w_X7_rides x8 x1 σ fun v3 t4 => ((v3 = 0 → w_X7_serves_J172 Q (fun a1 a2 a4 a5 a6 a7 a8 aσ => w_X7_serves_L97 Q  n a1 a2 a4 a5 a6 a7 a8 aσ) x1 x2 x4 x5 x6 x7 x8  t4) ∧ (¬ (v3 = 0) → (vp_in x8 30 ∧ ((x2 < (t4.2 5 x8.toNatClampNeg) → w_X7_serves_J172 Q (fun a1 a2 a4 a5 a6 a7 a8 aσ => w_X7_serves_L97 Q  n a1 a2 a4 a5 a6 a7 a8 aσ) x1 x2 x4 x5 x6 x7 x8  t4) ∧ (¬ (x2 < (t4.2 5 x8.toNatClampNeg)) → (vp_in x8 30 ∧ (((t4.2 3 x8.toNatClampNeg) = x4 → w_X7_serves_J155 Q (fun a1 a2 a4 a5 a6 a7 a8 aσ => w_X7_serves_L97 Q  n a1 a2 a4 a5 a6 a7 a8 aσ) x1 x2 x4 x5 x6 x7 x8  t4) ∧ (¬ ((t4.2 3 x8.toNatClampNeg) = x4) → (vp_in x8 30 ∧ (((t4.2 6 x8.toNatClampNeg) = (1 : Int32) → ((x6 = 0 → w_X7_serves_J172 Q (fun a1 a2 a4 a5 a6 a7 a8 aσ => w_X7_serves_L97 Q  n a1 a2 a4 a5 a6 a7 a8 aσ) x1 x2 x4 x5 x6 x7 x8  t4) ∧ (¬ (x6 = 0) → w_X7_serves_J155 Q (fun a1 a2 a4 a5 a6 a7 a8 aσ => w_X7_serves_L97 Q  n a1 a2 a4 a5 a6 a7 a8 aσ) x1 x2 x4 x5 x6 x7 x8  t4))) ∧ (¬ ((t4.2 6 x8.toNatClampNeg) = (1 : Int32)) → w_X7_serves_J172 Q (fun a1 a2 a4 a5 a6 a7 a8 aσ => w_X7_serves_L97 Q  n a1 a2 a4 a5 a6 a7 a8 aσ) x1 x2 x4 x5 x6 x7 x8  t4))))))))))))))
def w_X7_serves_J89 (Q : Int32 → zS → Prop)  (x1 x2 x4 x5 s0 : Int32) (σ : zS) : Prop := ∃ m97, w_X7_serves_L97 Q  m97 x1 x2 x4 x5 s0 ((0 : Int32)) ((0 : Int32)) σ
def w_X7_serves_J53 (Q : Int32 → zS → Prop)  (x1 x2 x4 s0 : Int32) (σ : zS) : Prop := ((s0 = 0 → ((x4 = 0 → w_X7_serves_J89 Q  x1 x2 x4 s0 ((1 : Int32)) σ) ∧ (¬ (x4 = 0) → w_X7_serves_J89 Q  x1 x2 x4 s0 ((0 : Int32)) σ))) ∧ (¬ (s0 = 0) → ((x4 = ((σ.1 0 0) - (1 : Int32)) → w_X7_serves_J89 Q  x1 x2 x4 s0 ((1 : Int32)) σ) ∧ (¬ (x4 = ((σ.1 0 0) - (1 : Int32))) → w_X7_serves_J89 Q  x1 x2 x4 s0 ((0 : Int32)) σ))))
def w_X7_serves  (x1 x2 : Int32) (σ : zS) (Q : Int32 → zS → Prop) : Prop := (w_X7_partOf x1 σ fun v1 t2 => (w_X7_isAside v1 t2 fun v3 t4 => ((v3 = 0 → (vp_in ((3 : Int32)) 389 ∧ (w_X7_floorOf v1 t4 fun v5 t6 => (((((t4.2 8 ((3 : Int32)).toNatClampNeg) >>> (v5 &&& 31)) &&& (1 : Int32)) = (1 : Int32) → Q 0 t6) ∧ (¬ ((((t4.2 8 ((3 : Int32)).toNatClampNeg) >>> (v5 &&& 31)) &&& (1 : Int32)) = (1 : Int32)) → (w_X7_floorOf v1 t6 fun v7 t8 => (((t8.1 0 0) ≤ v1 → w_X7_serves_J53 Q  x1 x2 v7 ((0 : Int32)) t8) ∧ (¬ ((t8.1 0 0) ≤ v1) → w_X7_serves_J53 Q  x1 x2 v7 ((1 : Int32)) t8)))))))) ∧ (¬ (v3 = 0) → Q 0 t4))))
set_option maxHeartbeats 4000000 in
set_option maxRecDepth 100000 in
theorem j_X7_serves_313  {Q : Int32 → zS → Prop} {K205 : Int32 → Int32 → Int32 → Int32 → Int32 → Int32 → Int32 → Int32 → zS → Prop} (hK205 : ∀ (a1 a2 a4 a5 a7 a8 a9 a10 : Int32) (σ : zS), K205 a1 a2 a4 a5 a7 a8 a9 a10 σ → zAW RX7 cX7_serves 13 none false { frames := 3, cells := 0, slots := 0, locals := 62 } zΓM.length (zN zΓM zρM Q) 205 [(0, .ref 0), (1, .int a1), (2, .int a2), (4, .int a4), (5, .int a5), (7, .int a7), (8, .int a8), (9, .int a9), (10, .int a10)] [] zΓM zρM σ 0 0) {x1 x2 x4 x5 x7 x8 x10 s0 : Int32} {σ : zS} (hw : w_X7_serves_J313 Q K205 x1 x2 x4 x5 x7 x8 x10 s0 σ) : zAW RX7 cX7_serves 13 none false { frames := 3, cells := 0, slots := 0, locals := 62 } zΓM.length (zN zΓM zρM Q) 313 [(0, .ref 0), (1, .int x1), (2, .int x2), (4, .int x4), (5, .int x5), (7, .int x7), (8, .int x8), (10, .int x10)] [.int s0] zΓM zρM σ 0 0 := by
  unfold w_X7_serves_J313 at hw
  refine z_istore dX7_serves_313 (Nat.le_of_ble_eq_true rfl) ?_
  refine z_iinc dX7_serves_315 rfl zim1 (Nat.le_of_ble_eq_true rfl) ?_
  refine z_goto dX7_serves_318 ?_
  exact z_to (hK205 _ _ _ _ _ _ _ _ _ hw) ⟨rfl, rfl, rfl, rfl, rfl, rfl, rfl, rfl, rfl, trivial⟩
set_option maxHeartbeats 4000000 in
set_option maxRecDepth 100000 in
theorem j_X7_serves_299  {Q : Int32 → zS → Prop} {K205 : Int32 → Int32 → Int32 → Int32 → Int32 → Int32 → Int32 → Int32 → zS → Prop} (hK205 : ∀ (a1 a2 a4 a5 a7 a8 a9 a10 : Int32) (σ : zS), K205 a1 a2 a4 a5 a7 a8 a9 a10 σ → zAW RX7 cX7_serves 13 none false { frames := 3, cells := 0, slots := 0, locals := 62 } zΓM.length (zN zΓM zρM Q) 205 [(0, .ref 0), (1, .int a1), (2, .int a2), (4, .int a4), (5, .int a5), (7, .int a7), (8, .int a8), (9, .int a9), (10, .int a10)] [] zΓM zρM σ 0 0) {x1 x2 x4 x5 x7 x8 x9 x10 s0 : Int32} {σ : zS} (hw : w_X7_serves_J299 Q K205 x1 x2 x4 x5 x7 x8 x9 x10 s0 σ) : zAW RX7 cX7_serves 13 none false { frames := 3, cells := 0, slots := 0, locals := 62 } zΓM.length (zN zΓM zρM Q) 299 [(0, .ref 0), (1, .int x1), (2, .int x2), (4, .int x4), (5, .int x5), (7, .int x7), (8, .int x8), (9, .int x9), (10, .int x10)] [.int s0] zΓM zρM σ 0 0 := by
  unfold w_X7_serves_J299 at hw
  refine z_istore dX7_serves_299 (Nat.le_of_ble_eq_true rfl) ?_
  refine z_iload dX7_serves_301 rfl ?_
  refine z_if_eq dX7_serves_303 hw (fun hw => ?_) (fun hw => ?_)
  · refine z_iload dX7_serves_311 rfl ?_
    exact z_to (j_X7_serves_313  hK205 hw) ⟨rfl, rfl, rfl, rfl, rfl, rfl, rfl, rfl, trivial⟩
  · refine z_iload dX7_serves_306 rfl ?_
    refine z_goto dX7_serves_308 ?_
    exact z_to (j_X7_serves_313  hK205 hw) ⟨rfl, rfl, rfl, rfl, rfl, rfl, rfl, rfl, trivial⟩
set_option maxHeartbeats 4000000 in
set_option maxRecDepth 100000 in
theorem j_X7_serves_298  {Q : Int32 → zS → Prop} {K205 : Int32 → Int32 → Int32 → Int32 → Int32 → Int32 → Int32 → Int32 → zS → Prop} (hK205 : ∀ (a1 a2 a4 a5 a7 a8 a9 a10 : Int32) (σ : zS), K205 a1 a2 a4 a5 a7 a8 a9 a10 σ → zAW RX7 cX7_serves 13 none false { frames := 3, cells := 0, slots := 0, locals := 62 } zΓM.length (zN zΓM zρM Q) 205 [(0, .ref 0), (1, .int a1), (2, .int a2), (4, .int a4), (5, .int a5), (7, .int a7), (8, .int a8), (9, .int a9), (10, .int a10)] [] zΓM zρM σ 0 0) {x1 x2 x4 x5 x7 x8 x9 x10 : Int32} {σ : zS} (hw : w_X7_serves_J298 Q K205 x1 x2 x4 x5 x7 x8 x9 x10 σ) : zAW RX7 cX7_serves 13 none false { frames := 3, cells := 0, slots := 0, locals := 62 } zΓM.length (zN zΓM zρM Q) 298 [(0, .ref 0), (1, .int x1), (2, .int x2), (4, .int x4), (5, .int x5), (7, .int x7), (8, .int x8), (9, .int x9), (10, .int x10)] [] zΓM zρM σ 0 0 := by
  unfold w_X7_serves_J298 at hw
  refine z_iconst dX7_serves_298 zi0 ?_
  exact z_to (j_X7_serves_299  hK205 hw) ⟨rfl, rfl, rfl, rfl, rfl, rfl, rfl, rfl, rfl, trivial⟩
set_option maxHeartbeats 4000000 in
set_option maxRecDepth 100000 in
theorem j_X7_serves_294  {Q : Int32 → zS → Prop} {K205 : Int32 → Int32 → Int32 → Int32 → Int32 → Int32 → Int32 → Int32 → zS → Prop} (hK205 : ∀ (a1 a2 a4 a5 a7 a8 a9 a10 : Int32) (σ : zS), K205 a1 a2 a4 a5 a7 a8 a9 a10 σ → zAW RX7 cX7_serves 13 none false { frames := 3, cells := 0, slots := 0, locals := 62 } zΓM.length (zN zΓM zρM Q) 205 [(0, .ref 0), (1, .int a1), (2, .int a2), (4, .int a4), (5, .int a5), (7, .int a7), (8, .int a8), (9, .int a9), (10, .int a10)] [] zΓM zρM σ 0 0) {x1 x2 x4 x5 x7 x8 x9 x10 : Int32} {σ : zS} (hw : w_X7_serves_J294 Q K205 x1 x2 x4 x5 x7 x8 x9 x10 σ) : zAW RX7 cX7_serves 13 none false { frames := 3, cells := 0, slots := 0, locals := 62 } zΓM.length (zN zΓM zρM Q) 294 [(0, .ref 0), (1, .int x1), (2, .int x2), (4, .int x4), (5, .int x5), (7, .int x7), (8, .int x8), (9, .int x9), (10, .int x10)] [] zΓM zρM σ 0 0 := by
  unfold w_X7_serves_J294 at hw
  refine z_iconst dX7_serves_294 zi1 ?_
  refine z_goto dX7_serves_295 ?_
  exact z_to (j_X7_serves_299  hK205 hw) ⟨rfl, rfl, rfl, rfl, rfl, rfl, rfl, rfl, rfl, trivial⟩
set_option maxHeartbeats 4000000 in
set_option maxRecDepth 100000 in
theorem l_X7_serves_205  {Q : Int32 → zS → Prop}   : ∀ (n : Nat) (x1 x2 x4 x5 x7 x8 x9 x10 : Int32) (σ : zS), w_X7_serves_L205 Q  n x1 x2 x4 x5 x7 x8 x9 x10 σ → zAW RX7 cX7_serves 13 none false { frames := 3, cells := 0, slots := 0, locals := 62 } zΓM.length (zN zΓM zρM Q) 205 [(0, .ref 0), (1, .int x1), (2, .int x2), (4, .int x4), (5, .int x5), (7, .int x7), (8, .int x8), (9, .int x9), (10, .int x10)] [] zΓM zρM σ 0 0 := by
  intro n
  induction n with
  | zero => intro x1 x2 x4 x5 x7 x8 x9 x10 σ hw; exact hw.elim
  | succ n hK205 =>
    intro x1 x2 x4 x5 x7 x8 x9 x10 σ hw
    rw [w_X7_serves_L205] at hw
    refine z_iload dX7_serves_205 rfl ?_
    refine z_if_lt dX7_serves_207 hw (fun hw => ?_) (fun hw => ?_)
    · refine z_iload dX7_serves_321 rfl ?_
      refine z_if_lt dX7_serves_323 hw (fun hw => ?_) (fun hw => ?_)
      · exact z_vret dX7_serves_388 (Nat.le_refl _) (Nat.le_refl _) rfl ⟨rfl, rfl, hw⟩
      · refine z_aload_n dX7_serves_326 rfl rfl ?_
        refine z_getr dX7_serves_327 fX7_47 zm0 zkX7_13 zrM13 ?_
        refine z_sipush dX7_serves_330 zsp149 ?_
        refine z_bipush dX7_serves_333 zbp30 ?_
        refine z_iload dX7_serves_335 rfl ?_
        refine z_imul dX7_serves_337 ?_
        refine z_iadd dX7_serves_338 ?_
        refine z_iload dX7_serves_339 rfl ?_
        refine z_iadd dX7_serves_341 ?_
        refine z_iald dX7_serves_342 zm8 hw (fun hw => ?_)
        refine z_istore dX7_serves_343 (Nat.le_of_ble_eq_true rfl) ?_
        refine z_aload_n dX7_serves_345 rfl rfl ?_
        refine z_iload dX7_serves_346 rfl ?_
        refine z_iload dX7_serves_348 rfl ?_
        refine z_callVv dX7_serves_350 mX7_119 (c_X7_parts  hw) zm0 rfl rfl (Nat.le_of_ble_eq_true rfl) ⟨Nat.le_of_ble_eq_true rfl, Nat.le_of_ble_eq_true rfl⟩ ⟨Nat.le_refl _, Nat.le_refl _⟩ (fun _ hw => ?_)
        refine z_aload_n dX7_serves_353 rfl rfl ?_
        refine z_getr dX7_serves_354 fX7_47 zm0 zkX7_13 zrM13 ?_
        refine z_iconst dX7_serves_357 zi5 ?_
        refine z_iload dX7_serves_358 rfl ?_
        refine z_iadd dX7_serves_360 ?_
        refine z_iconst dX7_serves_361 zi2 ?_
        refine z_iastL dX7_serves_362 zm8 hw (fun hw => ?_)
        refine z_aload_n dX7_serves_363 rfl rfl ?_
        refine z_getr dX7_serves_364 fX7_47 zm0 zkX7_13 zrM13 ?_
        refine z_bipush dX7_serves_367 zbp35 ?_
        refine z_iload dX7_serves_369 rfl ?_
        refine z_iadd dX7_serves_371 ?_
        refine z_iload_n dX7_serves_372 rfl rfl ?_
        refine z_iastL dX7_serves_373 zm8 hw (fun hw => ?_)
        refine z_aload_n dX7_serves_374 rfl rfl ?_
        refine z_getr dX7_serves_375 fX7_47 zm0 zkX7_13 zrM13 ?_
        refine z_bipush dX7_serves_378 zbp125 ?_
        refine z_iload dX7_serves_380 rfl ?_
        refine z_iadd dX7_serves_382 ?_
        refine z_dup2 dX7_serves_383 rfl rfl ?_
        refine z_iald dX7_serves_384 zm8 hw (fun hw => ?_)
        refine z_iconst dX7_serves_385 zi1 ?_
        refine z_iadd dX7_serves_386 ?_
        refine z_iastL dX7_serves_387 zm8 hw (fun hw => ?_)
        exact z_vret dX7_serves_388 (Nat.le_refl _) (Nat.le_refl _) rfl ⟨rfl, rfl, hw⟩
    · refine z_aload_n dX7_serves_210 rfl rfl ?_
      refine z_getr dX7_serves_211 fX7_47 zm0 zkX7_13 zrM13 ?_
      refine z_sipush dX7_serves_214 zsp149 ?_
      refine z_bipush dX7_serves_217 zbp30 ?_
      refine z_iload dX7_serves_219 rfl ?_
      refine z_imul dX7_serves_221 ?_
      refine z_iadd dX7_serves_222 ?_
      refine z_iload dX7_serves_223 rfl ?_
      refine z_iadd dX7_serves_225 ?_
      refine z_iald dX7_serves_226 zm8 hw (fun hw => ?_)
      refine z_istore dX7_serves_227 (Nat.le_of_ble_eq_true rfl) ?_
      refine z_aload_n dX7_serves_229 rfl rfl ?_
      refine z_getr dX7_serves_230 fX7_38 zm0 zkX7_10 zrM10 ?_
      refine z_iload dX7_serves_233 rfl ?_
      refine z_iald dX7_serves_235 zm5 hw (fun hw => ?_)
      refine z_iload_n dX7_serves_236 rfl rfl ?_
      refine z_icmp_gt dX7_serves_237 hw (fun hw => ?_) (fun hw => ?_)
      · exact z_to (j_X7_serves_298  hK205 hw) ⟨rfl, rfl, rfl, rfl, rfl, rfl, rfl, rfl, rfl, trivial⟩
      · refine z_aload_n dX7_serves_240 rfl rfl ?_
        refine z_getr dX7_serves_241 fX7_35 zm0 zkX7_9 zrM9 ?_
        refine z_iload dX7_serves_244 rfl ?_
        refine z_iald dX7_serves_246 zm4 hw (fun hw => ?_)
        refine z_iload dX7_serves_247 rfl ?_
        refine z_icmp_gt dX7_serves_249 hw (fun hw => ?_) (fun hw => ?_)
        · exact z_to (j_X7_serves_298  hK205 hw) ⟨rfl, rfl, rfl, rfl, rfl, rfl, rfl, rfl, rfl, trivial⟩
        · refine z_iload dX7_serves_252 rfl ?_
          refine z_iload dX7_serves_254 rfl ?_
          refine z_ishr dX7_serves_256 ?_
          refine z_iconst dX7_serves_257 zi1 ?_
          refine z_iand dX7_serves_258 ?_
          refine z_if_ne dX7_serves_259 hw (fun hw => ?_) (fun hw => ?_)
          · exact z_to (j_X7_serves_298  hK205 hw) ⟨rfl, rfl, rfl, rfl, rfl, rfl, rfl, rfl, rfl, trivial⟩
          · refine z_iload dX7_serves_262 rfl ?_
            refine z_if_eq dX7_serves_264 hw (fun hw => ?_) (fun hw => ?_)
            · refine z_aload_n dX7_serves_282 rfl rfl ?_
              refine z_getr dX7_serves_283 fX7_32 zm0 zkX7_8 zrM8 ?_
              refine z_iload dX7_serves_286 rfl ?_
              refine z_iald dX7_serves_288 zm3 hw (fun hw => ?_)
              refine z_iload dX7_serves_289 rfl ?_
              refine z_icmp_ge dX7_serves_291 hw (fun hw => ?_) (fun hw => ?_)
              · exact z_to (j_X7_serves_298  hK205 hw) ⟨rfl, rfl, rfl, rfl, rfl, rfl, rfl, rfl, rfl, trivial⟩
              · exact z_to (j_X7_serves_294  hK205 hw) ⟨rfl, rfl, rfl, rfl, rfl, rfl, rfl, rfl, rfl, trivial⟩
            · refine z_aload_n dX7_serves_267 rfl rfl ?_
              refine z_getr dX7_serves_268 fX7_32 zm0 zkX7_8 zrM8 ?_
              refine z_iload dX7_serves_271 rfl ?_
              refine z_iald dX7_serves_273 zm3 hw (fun hw => ?_)
              refine z_iload dX7_serves_274 rfl ?_
              refine z_icmp_le dX7_serves_276 hw (fun hw => ?_) (fun hw => ?_)
              · exact z_to (j_X7_serves_298  hK205 hw) ⟨rfl, rfl, rfl, rfl, rfl, rfl, rfl, rfl, rfl, trivial⟩
              · refine z_goto dX7_serves_279 ?_
                exact z_to (j_X7_serves_294  hK205 hw) ⟨rfl, rfl, rfl, rfl, rfl, rfl, rfl, rfl, rfl, trivial⟩
set_option maxHeartbeats 4000000 in
set_option maxRecDepth 100000 in
theorem j_X7_serves_172  {Q : Int32 → zS → Prop} {K97 : Int32 → Int32 → Int32 → Int32 → Int32 → Int32 → Int32 → zS → Prop} (hK97 : ∀ (a1 a2 a4 a5 a6 a7 a8 : Int32) (σ : zS), K97 a1 a2 a4 a5 a6 a7 a8 σ → zAW RX7 cX7_serves 13 none false { frames := 3, cells := 0, slots := 0, locals := 62 } zΓM.length (zN zΓM zρM Q) 97 [(0, .ref 0), (1, .int a1), (2, .int a2), (4, .int a4), (5, .int a5), (6, .int a6), (7, .int a7), (8, .int a8)] [] zΓM zρM σ 0 0) {x1 x2 x4 x5 x6 x7 x8 : Int32} {σ : zS} (hw : w_X7_serves_J172 Q K97 x1 x2 x4 x5 x6 x7 x8 σ) : zAW RX7 cX7_serves 13 none false { frames := 3, cells := 0, slots := 0, locals := 62 } zΓM.length (zN zΓM zρM Q) 172 [(0, .ref 0), (1, .int x1), (2, .int x2), (4, .int x4), (5, .int x5), (6, .int x6), (7, .int x7), (8, .int x8)] [] zΓM zρM σ 0 0 := by
  unfold w_X7_serves_J172 at hw
  refine z_iinc dX7_serves_172 rfl zi1 (Nat.le_of_ble_eq_true rfl) ?_
  refine z_goto dX7_serves_175 ?_
  exact z_to (hK97 _ _ _ _ _ _ _ _ hw) ⟨rfl, rfl, rfl, rfl, rfl, rfl, rfl, rfl, trivial⟩
set_option maxHeartbeats 4000000 in
set_option maxRecDepth 100000 in
theorem j_X7_serves_155  {Q : Int32 → zS → Prop} {K97 : Int32 → Int32 → Int32 → Int32 → Int32 → Int32 → Int32 → zS → Prop} (hK97 : ∀ (a1 a2 a4 a5 a6 a7 a8 : Int32) (σ : zS), K97 a1 a2 a4 a5 a6 a7 a8 σ → zAW RX7 cX7_serves 13 none false { frames := 3, cells := 0, slots := 0, locals := 62 } zΓM.length (zN zΓM zρM Q) 97 [(0, .ref 0), (1, .int a1), (2, .int a2), (4, .int a4), (5, .int a5), (6, .int a6), (7, .int a7), (8, .int a8)] [] zΓM zρM σ 0 0) {x1 x2 x4 x5 x6 x7 x8 : Int32} {σ : zS} (hw : w_X7_serves_J155 Q K97 x1 x2 x4 x5 x6 x7 x8 σ) : zAW RX7 cX7_serves 13 none false { frames := 3, cells := 0, slots := 0, locals := 62 } zΓM.length (zN zΓM zρM Q) 155 [(0, .ref 0), (1, .int x1), (2, .int x2), (4, .int x4), (5, .int x5), (6, .int x6), (7, .int x7), (8, .int x8)] [] zΓM zρM σ 0 0 := by
  unfold w_X7_serves_J155 at hw
  refine z_aload_n dX7_serves_155 rfl rfl ?_
  refine z_iload dX7_serves_156 rfl ?_
  refine z_iload dX7_serves_158 rfl ?_
  refine z_callVv dX7_serves_160 mX7_113 (c_X7_leaves  hw) zm0 rfl rfl (Nat.le_of_ble_eq_true rfl) ⟨Nat.le_of_ble_eq_true rfl, Nat.le_of_ble_eq_true rfl⟩ ⟨Nat.le_refl _, Nat.le_refl _⟩ (fun _ hw => ?_)
  refine z_iload dX7_serves_163 rfl ?_
  refine z_iconst dX7_serves_165 zi1 ?_
  refine z_iload dX7_serves_166 rfl ?_
  refine z_ishl dX7_serves_168 ?_
  refine z_ior dX7_serves_169 ?_
  refine z_istore dX7_serves_170 (Nat.le_of_ble_eq_true rfl) ?_
  exact z_to (j_X7_serves_172  hK97 hw) ⟨rfl, rfl, rfl, rfl, rfl, rfl, rfl, rfl, trivial⟩
set_option maxHeartbeats 4000000 in
set_option maxRecDepth 100000 in
theorem l_X7_serves_97  {Q : Int32 → zS → Prop}   : ∀ (n : Nat) (x1 x2 x4 x5 x6 x7 x8 : Int32) (σ : zS), w_X7_serves_L97 Q  n x1 x2 x4 x5 x6 x7 x8 σ → zAW RX7 cX7_serves 13 none false { frames := 3, cells := 0, slots := 0, locals := 62 } zΓM.length (zN zΓM zρM Q) 97 [(0, .ref 0), (1, .int x1), (2, .int x2), (4, .int x4), (5, .int x5), (6, .int x6), (7, .int x7), (8, .int x8)] [] zΓM zρM σ 0 0 := by
  intro n
  induction n with
  | zero => intro x1 x2 x4 x5 x6 x7 x8 σ hw; exact hw.elim
  | succ n hK97 =>
    intro x1 x2 x4 x5 x6 x7 x8 σ hw
    rw [w_X7_serves_L97] at hw
    refine z_iload dX7_serves_97 rfl ?_
    refine z_aload_n dX7_serves_99 rfl rfl ?_
    refine z_geti dX7_serves_100 fX7_69 zm0 zkX7_5 ?_
    refine z_icmp_ge dX7_serves_103 hw (fun hw => ?_) (fun hw => ?_)
    · refine z_iconst dX7_serves_178 zi4 ?_
      refine z_aload_n dX7_serves_179 rfl rfl ?_
      refine z_iload_n dX7_serves_180 rfl rfl ?_
      refine z_callV dX7_serves_181 mX7_116 (c_X7_widths  hw) zm0 rfl rfl (Nat.le_of_ble_eq_true rfl) ⟨Nat.le_of_ble_eq_true rfl, Nat.le_of_ble_eq_true rfl⟩ ⟨Nat.le_refl _, Nat.le_refl _⟩ (fun _ _ hw => ?_)
      refine z_isub dX7_serves_184 ?_
      refine z_istore dX7_serves_185 (Nat.le_of_ble_eq_true rfl) ?_
      refine z_iconst dX7_serves_187 zim1 ?_
      refine z_istore dX7_serves_188 (Nat.le_of_ble_eq_true rfl) ?_
      refine z_aload_n dX7_serves_190 rfl rfl ?_
      refine z_getr dX7_serves_191 fX7_47 zm0 zkX7_13 zrM13 ?_
      refine z_sipush dX7_serves_194 zsp141 ?_
      refine z_iload dX7_serves_197 rfl ?_
      refine z_iadd dX7_serves_199 ?_
      refine z_iald dX7_serves_200 zm8 hw (fun hw => ?_)
      refine z_iconst dX7_serves_201 zi1 ?_
      refine z_isub dX7_serves_202 ?_
      refine z_istore dX7_serves_203 (Nat.le_of_ble_eq_true rfl) ?_
      obtain ⟨n, hw⟩ := hw
      exact z_to (l_X7_serves_205   n _ _ _ _ _ _ _ _ _ hw) ⟨rfl, rfl, rfl, rfl, rfl, rfl, rfl, rfl, rfl, trivial⟩
    · refine z_aload_n dX7_serves_106 rfl rfl ?_
      refine z_iload dX7_serves_107 rfl ?_
      refine z_iload_n dX7_serves_109 rfl rfl ?_
      refine z_callV dX7_serves_110 mX7_90 (c_X7_rides  hw) zm0 rfl rfl (Nat.le_of_ble_eq_true rfl) ⟨Nat.le_of_ble_eq_true rfl, Nat.le_of_ble_eq_true rfl⟩ ⟨Nat.le_refl _, Nat.le_refl _⟩ (fun _ _ hw => ?_)
      refine z_if_eq dX7_serves_113 hw (fun hw => ?_) (fun hw => ?_)
      · exact z_to (j_X7_serves_172  hK97 hw) ⟨rfl, rfl, rfl, rfl, rfl, rfl, rfl, rfl, trivial⟩
      · refine z_aload_n dX7_serves_116 rfl rfl ?_
        refine z_getr dX7_serves_117 fX7_38 zm0 zkX7_10 zrM10 ?_
        refine z_iload dX7_serves_120 rfl ?_
        refine z_iald dX7_serves_122 zm5 hw (fun hw => ?_)
        refine z_iload_n dX7_serves_123 rfl rfl ?_
        refine z_icmp_gt dX7_serves_124 hw (fun hw => ?_) (fun hw => ?_)
        · exact z_to (j_X7_serves_172  hK97 hw) ⟨rfl, rfl, rfl, rfl, rfl, rfl, rfl, rfl, trivial⟩
        · refine z_aload_n dX7_serves_127 rfl rfl ?_
          refine z_getr dX7_serves_128 fX7_32 zm0 zkX7_8 zrM8 ?_
          refine z_iload dX7_serves_131 rfl ?_
          refine z_iald dX7_serves_133 zm3 hw (fun hw => ?_)
          refine z_iload dX7_serves_134 rfl ?_
          refine z_icmp_eq dX7_serves_136 hw (fun hw => ?_) (fun hw => ?_)
          · exact z_to (j_X7_serves_155  hK97 hw) ⟨rfl, rfl, rfl, rfl, rfl, rfl, rfl, rfl, trivial⟩
          · refine z_aload_n dX7_serves_139 rfl rfl ?_
            refine z_getr dX7_serves_140 fX7_41 zm0 zkX7_11 zrM11 ?_
            refine z_iload dX7_serves_143 rfl ?_
            refine z_iald dX7_serves_145 zm6 hw (fun hw => ?_)
            refine z_iconst dX7_serves_146 zi1 ?_
            refine z_icmp_ne dX7_serves_147 hw (fun hw => ?_) (fun hw => ?_)
            · exact z_to (j_X7_serves_172  hK97 hw) ⟨rfl, rfl, rfl, rfl, rfl, rfl, rfl, rfl, trivial⟩
            · refine z_iload dX7_serves_150 rfl ?_
              refine z_if_eq dX7_serves_152 hw (fun hw => ?_) (fun hw => ?_)
              · exact z_to (j_X7_serves_172  hK97 hw) ⟨rfl, rfl, rfl, rfl, rfl, rfl, rfl, rfl, trivial⟩
              · exact z_to (j_X7_serves_155  hK97 hw) ⟨rfl, rfl, rfl, rfl, rfl, rfl, rfl, rfl, trivial⟩
set_option maxHeartbeats 4000000 in
set_option maxRecDepth 100000 in
theorem j_X7_serves_89  {Q : Int32 → zS → Prop}   {x1 x2 x4 x5 s0 : Int32} {σ : zS} (hw : w_X7_serves_J89 Q  x1 x2 x4 x5 s0 σ) : zAW RX7 cX7_serves 13 none false { frames := 3, cells := 0, slots := 0, locals := 62 } zΓM.length (zN zΓM zρM Q) 89 [(0, .ref 0), (1, .int x1), (2, .int x2), (4, .int x4), (5, .int x5)] [.int s0] zΓM zρM σ 0 0 := by
  unfold w_X7_serves_J89 at hw
  refine z_istore dX7_serves_89 (Nat.le_of_ble_eq_true rfl) ?_
  refine z_iconst dX7_serves_91 zi0 ?_
  refine z_istore dX7_serves_92 (Nat.le_of_ble_eq_true rfl) ?_
  refine z_iconst dX7_serves_94 zi0 ?_
  refine z_istore dX7_serves_95 (Nat.le_of_ble_eq_true rfl) ?_
  obtain ⟨n, hw⟩ := hw
  exact z_to (l_X7_serves_97   n _ _ _ _ _ _ _ _ hw) ⟨rfl, rfl, rfl, rfl, rfl, rfl, rfl, rfl, trivial⟩
set_option maxHeartbeats 4000000 in
set_option maxRecDepth 100000 in
theorem j_X7_serves_53  {Q : Int32 → zS → Prop}   {x1 x2 x4 s0 : Int32} {σ : zS} (hw : w_X7_serves_J53 Q  x1 x2 x4 s0 σ) : zAW RX7 cX7_serves 13 none false { frames := 3, cells := 0, slots := 0, locals := 62 } zΓM.length (zN zΓM zρM Q) 53 [(0, .ref 0), (1, .int x1), (2, .int x2), (4, .int x4)] [.int s0] zΓM zρM σ 0 0 := by
  unfold w_X7_serves_J53 at hw
  refine z_istore dX7_serves_53 (Nat.le_of_ble_eq_true rfl) ?_
  refine z_iload dX7_serves_55 rfl ?_
  refine z_if_eq dX7_serves_57 hw (fun hw => ?_) (fun hw => ?_)
  · refine z_iload dX7_serves_79 rfl ?_
    refine z_if_ne dX7_serves_81 hw (fun hw => ?_) (fun hw => ?_)
    · refine z_iconst dX7_serves_88 zi0 ?_
      exact z_to (j_X7_serves_89   hw) ⟨rfl, rfl, rfl, rfl, rfl, trivial⟩
    · refine z_iconst dX7_serves_84 zi1 ?_
      refine z_goto dX7_serves_85 ?_
      exact z_to (j_X7_serves_89   hw) ⟨rfl, rfl, rfl, rfl, rfl, trivial⟩
  · refine z_iload dX7_serves_60 rfl ?_
    refine z_aload_n dX7_serves_62 rfl rfl ?_
    refine z_geti dX7_serves_63 fX7_7 zm0 zkX7_0 ?_
    refine z_iconst dX7_serves_66 zi1 ?_
    refine z_isub dX7_serves_67 ?_
    refine z_icmp_ne dX7_serves_68 hw (fun hw => ?_) (fun hw => ?_)
    · refine z_iconst dX7_serves_75 zi0 ?_
      refine z_goto dX7_serves_76 ?_
      exact z_to (j_X7_serves_89   hw) ⟨rfl, rfl, rfl, rfl, rfl, trivial⟩
    · refine z_iconst dX7_serves_71 zi1 ?_
      refine z_goto dX7_serves_72 ?_
      exact z_to (j_X7_serves_89   hw) ⟨rfl, rfl, rfl, rfl, rfl, trivial⟩
set_option maxHeartbeats 4000000 in
set_option maxRecDepth 100000 in
theorem c_X7_serves  {x1 x2 : Int32} {σ : zS} {Q : Int32 → zS → Prop} (hw : w_X7_serves x1 x2 σ Q) : zAC yX7_serves cX7_serves 13 none { frames := 3, cells := 0, slots := 0, locals := 62 } [.ref 0, .int x1, .int x2] zΓM zρM σ (zN zΓM zρM Q) := by
  refine z_entry (own := RX7) (ini := false) (plainFor_of_name pnX7) rfl (fun h => by cases h) (Nat.le_of_ble_eq_true rfl) ?_
  unfold w_X7_serves at hw
  refine z_aload_n dX7_serves_0 rfl rfl ?_
  refine z_iload_n dX7_serves_1 rfl rfl ?_
  refine z_callV dX7_serves_2 mX7_97 (c_X7_partOf  hw) zm0 rfl rfl (Nat.le_of_ble_eq_true rfl) ⟨Nat.le_of_ble_eq_true rfl, Nat.le_of_ble_eq_true rfl⟩ ⟨Nat.le_refl _, Nat.le_refl _⟩ (fun _ _ hw => ?_)
  refine z_istore_n dX7_serves_5 rfl (Nat.le_of_ble_eq_true rfl) ?_
  refine z_aload_n dX7_serves_6 rfl rfl ?_
  refine z_iload_n dX7_serves_7 rfl rfl ?_
  refine z_callV dX7_serves_8 mX7_94 (c_X7_isAside  hw) zm0 rfl rfl (Nat.le_of_ble_eq_true rfl) ⟨Nat.le_of_ble_eq_true rfl, Nat.le_of_ble_eq_true rfl⟩ ⟨Nat.le_refl _, Nat.le_refl _⟩ (fun _ _ hw => ?_)
  refine z_if_ne dX7_serves_11 hw (fun hw => ?_) (fun hw => ?_)
  · exact z_vret dX7_serves_32 (Nat.le_refl _) (Nat.le_refl _) rfl ⟨rfl, rfl, hw⟩
  · refine z_aload_n dX7_serves_14 rfl rfl ?_
    refine z_getr dX7_serves_15 fX7_47 zm0 zkX7_13 zrM13 ?_
    refine z_iconst dX7_serves_18 zi3 ?_
    refine z_iald dX7_serves_19 zm8 hw (fun hw => ?_)
    refine z_aload_n dX7_serves_20 rfl rfl ?_
    refine z_iload_n dX7_serves_21 rfl rfl ?_
    refine z_callV dX7_serves_22 mX7_110 (c_X7_floorOf  hw) zm0 rfl rfl (Nat.le_of_ble_eq_true rfl) ⟨Nat.le_of_ble_eq_true rfl, Nat.le_of_ble_eq_true rfl⟩ ⟨Nat.le_refl _, Nat.le_refl _⟩ (fun _ _ hw => ?_)
    refine z_ishr dX7_serves_25 ?_
    refine z_iconst dX7_serves_26 zi1 ?_
    refine z_iand dX7_serves_27 ?_
    refine z_iconst dX7_serves_28 zi1 ?_
    refine z_icmp_ne dX7_serves_29 hw (fun hw => ?_) (fun hw => ?_)
    · refine z_aload_n dX7_serves_33 rfl rfl ?_
      refine z_iload_n dX7_serves_34 rfl rfl ?_
      refine z_callV dX7_serves_35 mX7_110 (c_X7_floorOf  hw) zm0 rfl rfl (Nat.le_of_ble_eq_true rfl) ⟨Nat.le_of_ble_eq_true rfl, Nat.le_of_ble_eq_true rfl⟩ ⟨Nat.le_refl _, Nat.le_refl _⟩ (fun _ _ hw => ?_)
      refine z_istore dX7_serves_38 (Nat.le_of_ble_eq_true rfl) ?_
      refine z_iload_n dX7_serves_40 rfl rfl ?_
      refine z_aload_n dX7_serves_41 rfl rfl ?_
      refine z_geti dX7_serves_42 fX7_7 zm0 zkX7_0 ?_
      refine z_icmp_ge dX7_serves_45 hw (fun hw => ?_) (fun hw => ?_)
      · refine z_iconst dX7_serves_52 zi0 ?_
        exact z_to (j_X7_serves_53   hw) ⟨rfl, rfl, rfl, rfl, trivial⟩
      · refine z_iconst dX7_serves_48 zi1 ?_
        refine z_goto dX7_serves_49 ?_
        exact z_to (j_X7_serves_53   hw) ⟨rfl, rfl, rfl, rfl, trivial⟩
    · exact z_vret dX7_serves_32 (Nat.le_refl _) (Nat.le_refl _) rfl ⟨rfl, rfl, hw⟩
def w_X7_passes_J107 (Q : Int32 → zS → Prop) (K56 : Int32 → zS → Prop) (x2 s0 s1 : Int32) (σ : zS) : Prop := (vp_in s1 389 ∧ zlet (zA σ 8 s1.toNatClampNeg s0) fun t1 => K56 ((x2 + (1 : Int32))) t1)
def w_X7_passes_L56 (Q : Int32 → zS → Prop)  : Nat → Int32 → zS → Prop
  | 0, _, _ => False
  | n + 1, x2, σ => (((σ.1 0 0) ≤ x2 → (vp_in ((0 : Int32)) 389 ∧ (vp_in ((0 : Int32)) 389 ∧ zlet (zA σ 8 ((0 : Int32)).toNatClampNeg ((σ.2 8 ((0 : Int32)).toNatClampNeg) + (1 : Int32))) fun t1 => Q 0 t1))) ∧ (¬ ((σ.1 0 0) ≤ x2) → (vp_in (((141 : Int32) + x2)) 389 ∧ (vp_in ((4 : Int32)) 389 ∧ (((σ.2 8 (((141 : Int32) + x2)).toNatClampNeg) ≤ (σ.2 8 ((4 : Int32)).toNatClampNeg) → (vp_in ((4 : Int32)) 389 ∧ w_X7_passes_J107 Q (fun a2 aσ => w_X7_passes_L56 Q  n a2 aσ) x2 ((σ.2 8 ((4 : Int32)).toNatClampNeg)) ((4 : Int32)) σ)) ∧ (¬ ((σ.2 8 (((141 : Int32) + x2)).toNatClampNeg) ≤ (σ.2 8 ((4 : Int32)).toNatClampNeg)) → (vp_in (((141 : Int32) + x2)) 389 ∧ w_X7_passes_J107 Q (fun a2 aσ => w_X7_passes_L56 Q  n a2 aσ) x2 ((σ.2 8 (((141 : Int32) + x2)).toNatClampNeg)) ((4 : Int32)) σ)))))))
def w_X7_passes_J54 (Q : Int32 → zS → Prop)  (σ : zS) : Prop := ∃ m56, w_X7_passes_L56 Q  m56 ((0 : Int32)) σ
def w_X7_passes_L30 (Q : Int32 → zS → Prop)  : Nat → Int32 → Int32 → zS → Prop
  | 0, _, _, _ => False
  | n + 1, x1, x2, σ => (w_X7_boxes  σ fun v1 t2 => ((v1 ≤ x2 → w_X7_passes_J54 Q    t2) ∧ (¬ (v1 ≤ x2) → ((x1 ≤ 0 → w_X7_passes_J54 Q    t2) ∧ (¬ (x1 ≤ 0) → (w_X7_serves x2 x1 t2 fun _ t3 => (fun a1 a2 aσ => w_X7_passes_L30 Q  n a1 a2 aσ) x1 ((x2 + (1 : Int32))) t3))))))
def w_X7_passes_J13 (Q : Int32 → zS → Prop)  (σ : zS) : Prop := (w_X7_comes  σ fun _ t1 => (vp_in ((1 : Int32)) 389 ∧ (w_X7_leftOf ((t1.2 8 ((1 : Int32)).toNatClampNeg)) t1 fun v2 t3 => ∃ m30, w_X7_passes_L30 Q  m30 v2 ((0 : Int32)) t3)))
def w_X7_passes  (σ : zS) (Q : Int32 → zS → Prop) : Prop := (vp_in ((2 : Int32)) 389 ∧ (((σ.2 8 ((2 : Int32)).toNatClampNeg) = 0 → (w_X7_moves  σ fun _ t1 => w_X7_passes_J13 Q    t1)) ∧ (¬ ((σ.2 8 ((2 : Int32)).toNatClampNeg) = 0) → w_X7_passes_J13 Q    σ)))
set_option maxHeartbeats 4000000 in
set_option maxRecDepth 100000 in
theorem j_X7_passes_107  {Q : Int32 → zS → Prop} {K56 : Int32 → zS → Prop} (hK56 : ∀ (a2 : Int32) (σ : zS), K56 a2 σ → zAW RX7 cX7_passes 3 none false { frames := 4, cells := 0, slots := 0, locals := 94 } zΓM.length (zN zΓM zρM Q) 56 [(0, .ref 0), (2, .int a2)] [] zΓM zρM σ 0 0) {x2 s0 s1 : Int32} {σ : zS} (hw : w_X7_passes_J107 Q K56 x2 s0 s1 σ) : zAW RX7 cX7_passes 3 none false { frames := 4, cells := 0, slots := 0, locals := 94 } zΓM.length (zN zΓM zρM Q) 107 [(0, .ref 0), (2, .int x2)] [.int s0, .int s1, .ref 8] zΓM zρM σ 0 0 := by
  unfold w_X7_passes_J107 at hw
  refine z_iastL dX7_passes_107 zm8 hw (fun hw => ?_)
  refine z_iinc dX7_passes_108 rfl zi1 (Nat.le_of_ble_eq_true rfl) ?_
  refine z_goto dX7_passes_111 ?_
  exact z_to (hK56 _ _ hw) ⟨rfl, rfl, trivial⟩
set_option maxHeartbeats 4000000 in
set_option maxRecDepth 100000 in
theorem l_X7_passes_56  {Q : Int32 → zS → Prop}   : ∀ (n : Nat) (x2 : Int32) (σ : zS), w_X7_passes_L56 Q  n x2 σ → zAW RX7 cX7_passes 3 none false { frames := 4, cells := 0, slots := 0, locals := 94 } zΓM.length (zN zΓM zρM Q) 56 [(0, .ref 0), (2, .int x2)] [] zΓM zρM σ 0 0 := by
  intro n
  induction n with
  | zero => intro x2 σ hw; exact hw.elim
  | succ n hK56 =>
    intro x2 σ hw
    rw [w_X7_passes_L56] at hw
    refine z_iload_n dX7_passes_56 rfl rfl ?_
    refine z_aload_n dX7_passes_57 rfl rfl ?_
    refine z_geti dX7_passes_58 fX7_7 zm0 zkX7_0 ?_
    refine z_icmp_ge dX7_passes_61 hw (fun hw => ?_) (fun hw => ?_)
    · refine z_aload_n dX7_passes_114 rfl rfl ?_
      refine z_getr dX7_passes_115 fX7_47 zm0 zkX7_13 zrM13 ?_
      refine z_iconst dX7_passes_118 zi0 ?_
      refine z_dup2 dX7_passes_119 rfl rfl ?_
      refine z_iald dX7_passes_120 zm8 hw (fun hw => ?_)
      refine z_iconst dX7_passes_121 zi1 ?_
      refine z_iadd dX7_passes_122 ?_
      refine z_iastL dX7_passes_123 zm8 hw (fun hw => ?_)
      exact z_vret dX7_passes_124 (Nat.le_refl _) (Nat.le_refl _) rfl ⟨rfl, rfl, hw⟩
    · refine z_aload_n dX7_passes_64 rfl rfl ?_
      refine z_getr dX7_passes_65 fX7_47 zm0 zkX7_13 zrM13 ?_
      refine z_iconst dX7_passes_68 zi4 ?_
      refine z_aload_n dX7_passes_69 rfl rfl ?_
      refine z_getr dX7_passes_70 fX7_47 zm0 zkX7_13 zrM13 ?_
      refine z_sipush dX7_passes_73 zsp141 ?_
      refine z_iload_n dX7_passes_76 rfl rfl ?_
      refine z_iadd dX7_passes_77 ?_
      refine z_iald dX7_passes_78 zm8 hw (fun hw => ?_)
      refine z_aload_n dX7_passes_79 rfl rfl ?_
      refine z_getr dX7_passes_80 fX7_47 zm0 zkX7_13 zrM13 ?_
      refine z_iconst dX7_passes_83 zi4 ?_
      refine z_iald dX7_passes_84 zm8 hw (fun hw => ?_)
      refine z_icmp_le dX7_passes_85 hw (fun hw => ?_) (fun hw => ?_)
      · refine z_aload_n dX7_passes_101 rfl rfl ?_
        refine z_getr dX7_passes_102 fX7_47 zm0 zkX7_13 zrM13 ?_
        refine z_iconst dX7_passes_105 zi4 ?_
        refine z_iald dX7_passes_106 zm8 hw (fun hw => ?_)
        exact z_to (j_X7_passes_107  hK56 hw) ⟨rfl, rfl, trivial⟩
      · refine z_aload_n dX7_passes_88 rfl rfl ?_
        refine z_getr dX7_passes_89 fX7_47 zm0 zkX7_13 zrM13 ?_
        refine z_sipush dX7_passes_92 zsp141 ?_
        refine z_iload_n dX7_passes_95 rfl rfl ?_
        refine z_iadd dX7_passes_96 ?_
        refine z_iald dX7_passes_97 zm8 hw (fun hw => ?_)
        refine z_goto dX7_passes_98 ?_
        exact z_to (j_X7_passes_107  hK56 hw) ⟨rfl, rfl, trivial⟩
set_option maxHeartbeats 4000000 in
set_option maxRecDepth 100000 in
theorem j_X7_passes_54  {Q : Int32 → zS → Prop}   {σ : zS} (hw : w_X7_passes_J54 Q   σ) : zAW RX7 cX7_passes 3 none false { frames := 4, cells := 0, slots := 0, locals := 94 } zΓM.length (zN zΓM zρM Q) 54 [(0, .ref 0)] [] zΓM zρM σ 0 0 := by
  unfold w_X7_passes_J54 at hw
  refine z_iconst dX7_passes_54 zi0 ?_
  refine z_istore_n dX7_passes_55 rfl (Nat.le_of_ble_eq_true rfl) ?_
  obtain ⟨n, hw⟩ := hw
  exact z_to (l_X7_passes_56   n _ _ hw) ⟨rfl, rfl, trivial⟩
set_option maxHeartbeats 4000000 in
set_option maxRecDepth 100000 in
theorem l_X7_passes_30  {Q : Int32 → zS → Prop}   : ∀ (n : Nat) (x1 x2 : Int32) (σ : zS), w_X7_passes_L30 Q  n x1 x2 σ → zAW RX7 cX7_passes 3 none false { frames := 4, cells := 0, slots := 0, locals := 94 } zΓM.length (zN zΓM zρM Q) 30 [(0, .ref 0), (1, .int x1), (2, .int x2)] [] zΓM zρM σ 0 0 := by
  intro n
  induction n with
  | zero => intro x1 x2 σ hw; exact hw.elim
  | succ n hK30 =>
    intro x1 x2 σ hw
    rw [w_X7_passes_L30] at hw
    refine z_iload_n dX7_passes_30 rfl rfl ?_
    refine z_aload_n dX7_passes_31 rfl rfl ?_
    refine z_callV dX7_passes_32 mX7_75 (c_X7_boxes  hw) zm0 rfl rfl (Nat.le_of_ble_eq_true rfl) ⟨Nat.le_of_ble_eq_true rfl, Nat.le_of_ble_eq_true rfl⟩ ⟨Nat.le_refl _, Nat.le_refl _⟩ (fun _ _ hw => ?_)
    refine z_icmp_ge dX7_passes_35 hw (fun hw => ?_) (fun hw => ?_)
    · exact z_to (j_X7_passes_54   hw) ⟨rfl, trivial⟩
    · refine z_iload_n dX7_passes_38 rfl rfl ?_
      refine z_if_le dX7_passes_39 hw (fun hw => ?_) (fun hw => ?_)
      · exact z_to (j_X7_passes_54   hw) ⟨rfl, trivial⟩
      · refine z_aload_n dX7_passes_42 rfl rfl ?_
        refine z_iload_n dX7_passes_43 rfl rfl ?_
        refine z_iload_n dX7_passes_44 rfl rfl ?_
        refine z_callVv dX7_passes_45 mX7_131 (c_X7_serves  hw) zm0 rfl rfl (Nat.le_of_ble_eq_true rfl) ⟨Nat.le_of_ble_eq_true rfl, Nat.le_of_ble_eq_true rfl⟩ ⟨Nat.le_refl _, Nat.le_refl _⟩ (fun _ hw => ?_)
        refine z_iinc dX7_passes_48 rfl zi1 (Nat.le_of_ble_eq_true rfl) ?_
        refine z_goto dX7_passes_51 ?_
        exact z_to (hK30 _ _ _ hw) ⟨rfl, rfl, rfl, trivial⟩
set_option maxHeartbeats 4000000 in
set_option maxRecDepth 100000 in
theorem j_X7_passes_13  {Q : Int32 → zS → Prop}   {σ : zS} (hw : w_X7_passes_J13 Q   σ) : zAW RX7 cX7_passes 3 none false { frames := 4, cells := 0, slots := 0, locals := 94 } zΓM.length (zN zΓM zρM Q) 13 [(0, .ref 0)] [] zΓM zρM σ 0 0 := by
  unfold w_X7_passes_J13 at hw
  refine z_aload_n dX7_passes_13 rfl rfl ?_
  refine z_callVv dX7_passes_14 mX7_125 (c_X7_comes  hw) zm0 rfl rfl (Nat.le_of_ble_eq_true rfl) ⟨Nat.le_of_ble_eq_true rfl, Nat.le_of_ble_eq_true rfl⟩ ⟨Nat.le_refl _, Nat.le_refl _⟩ (fun _ hw => ?_)
  refine z_aload_n dX7_passes_17 rfl rfl ?_
  refine z_aload_n dX7_passes_18 rfl rfl ?_
  refine z_getr dX7_passes_19 fX7_47 zm0 zkX7_13 zrM13 ?_
  refine z_iconst dX7_passes_22 zi1 ?_
  refine z_iald dX7_passes_23 zm8 hw (fun hw => ?_)
  refine z_callV dX7_passes_24 mX7_128 (c_X7_leftOf  hw) zm0 rfl rfl (Nat.le_of_ble_eq_true rfl) ⟨Nat.le_of_ble_eq_true rfl, Nat.le_of_ble_eq_true rfl⟩ ⟨Nat.le_refl _, Nat.le_refl _⟩ (fun _ _ hw => ?_)
  refine z_istore_n dX7_passes_27 rfl (Nat.le_of_ble_eq_true rfl) ?_
  refine z_iconst dX7_passes_28 zi0 ?_
  refine z_istore_n dX7_passes_29 rfl (Nat.le_of_ble_eq_true rfl) ?_
  obtain ⟨n, hw⟩ := hw
  exact z_to (l_X7_passes_30   n _ _ _ hw) ⟨rfl, rfl, rfl, trivial⟩
set_option maxHeartbeats 4000000 in
set_option maxRecDepth 100000 in
theorem c_X7_passes  {σ : zS} {Q : Int32 → zS → Prop} (hw : w_X7_passes  σ Q) : zAC yX7_passes cX7_passes 3 none { frames := 4, cells := 0, slots := 0, locals := 94 } [.ref 0] zΓM zρM σ (zN zΓM zρM Q) := by
  refine z_entry (own := RX7) (ini := false) (plainFor_of_name pnX7) rfl (fun h => by cases h) (Nat.le_of_ble_eq_true rfl) ?_
  unfold w_X7_passes at hw
  refine z_aload_n dX7_passes_0 rfl rfl ?_
  refine z_getr dX7_passes_1 fX7_47 zm0 zkX7_13 zrM13 ?_
  refine z_iconst dX7_passes_4 zi2 ?_
  refine z_iald dX7_passes_5 zm8 hw (fun hw => ?_)
  refine z_if_ne dX7_passes_6 hw (fun hw => ?_) (fun hw => ?_)
  · exact z_to (j_X7_passes_13   hw) ⟨rfl, trivial⟩
  · refine z_aload_n dX7_passes_9 rfl rfl ?_
    refine z_callVv dX7_passes_10 mX7_122 (c_X7_moves  hw) zm0 rfl rfl (Nat.le_of_ble_eq_true rfl) ⟨Nat.le_of_ble_eq_true rfl, Nat.le_of_ble_eq_true rfl⟩ ⟨Nat.le_refl _, Nat.le_refl _⟩ (fun _ hw => ?_)
    exact z_to (j_X7_passes_13   hw) ⟨rfl, trivial⟩
def w_X7_ticks_L32 (Q : Int32 → zS → Prop)  : Nat → Int32 → Int32 → zS → Prop
  | 0, _, _, _ => False
  | n + 1, x1, x2, σ => ((x1 ≤ x2 → (vp_in ((0 : Int32)) 389 ∧ Q (σ.2 8 ((0 : Int32)).toNatClampNeg) σ)) ∧ (¬ (x1 ≤ x2) → (w_X7_passes  σ fun _ t1 => (fun a1 a2 aσ => w_X7_ticks_L32 Q  n a1 a2 aσ) x1 ((x2 + (1 : Int32))) t1)))
def w_X7_ticks  (x1 : Int32) (σ : zS) (Q : Int32 → zS → Prop) : Prop := (w_X7_in x1 ((1 : Int32)) ((200 : Int32)) σ fun v1 t2 => ((v1 = 0 → Q (-1 : Int32) t2) ∧ (¬ (v1 = 0) → (vp_in ((0 : Int32)) 389 ∧ ((((t2.2 8 ((0 : Int32)).toNatClampNeg) + x1) ≤ (2000 : Int32) → ∃ m32, w_X7_ticks_L32 Q  m32 x1 ((0 : Int32)) t2) ∧ (¬ (((t2.2 8 ((0 : Int32)).toNatClampNeg) + x1) ≤ (2000 : Int32)) → Q (-3 : Int32) t2))))))
set_option maxHeartbeats 4000000 in
set_option maxRecDepth 100000 in
theorem l_X7_ticks_32  {Q : Int32 → zS → Prop}   : ∀ (n : Nat) (x1 x2 : Int32) (σ : zS), w_X7_ticks_L32 Q  n x1 x2 σ → zAW RX7 cX7_ticks 3 (some .int) false { frames := 5, cells := 0, slots := 0, locals := 116 } zΓM.length (zN zΓM zρM Q) 32 [(0, .ref 0), (1, .int x1), (2, .int x2)] [] zΓM zρM σ 0 0 := by
  intro n
  induction n with
  | zero => intro x1 x2 σ hw; exact hw.elim
  | succ n hK32 =>
    intro x1 x2 σ hw
    rw [w_X7_ticks_L32] at hw
    refine z_iload_n dX7_ticks_32 rfl rfl ?_
    refine z_iload_n dX7_ticks_33 rfl rfl ?_
    refine z_icmp_ge dX7_ticks_34 hw (fun hw => ?_) (fun hw => ?_)
    · refine z_aload_n dX7_ticks_47 rfl rfl ?_
      refine z_getr dX7_ticks_48 fX7_47 zm0 zkX7_13 zrM13 ?_
      refine z_iconst dX7_ticks_51 zi0 ?_
      refine z_iald dX7_ticks_52 zm8 hw (fun hw => ?_)
      exact z_iret dX7_ticks_53 (Nat.le_refl _) (Nat.le_refl _) rfl ⟨rfl, rfl, hw⟩
    · refine z_aload_n dX7_ticks_37 rfl rfl ?_
      refine z_callVv dX7_ticks_38 mX7_134 (c_X7_passes  hw) zm0 rfl rfl (Nat.le_of_ble_eq_true rfl) ⟨Nat.le_of_ble_eq_true rfl, Nat.le_of_ble_eq_true rfl⟩ ⟨Nat.le_refl _, Nat.le_refl _⟩ (fun _ hw => ?_)
      refine z_iinc dX7_ticks_41 rfl zi1 (Nat.le_of_ble_eq_true rfl) ?_
      refine z_goto dX7_ticks_44 ?_
      exact z_to (hK32 _ _ _ hw) ⟨rfl, rfl, rfl, trivial⟩
set_option maxHeartbeats 4000000 in
set_option maxRecDepth 100000 in
theorem c_X7_ticks  {x1 : Int32} {σ : zS} {Q : Int32 → zS → Prop} (hw : w_X7_ticks x1 σ Q) : zAC yX7_ticks cX7_ticks 3 (some .int) { frames := 5, cells := 0, slots := 0, locals := 116 } [.ref 0, .int x1] zΓM zρM σ (zN zΓM zρM Q) := by
  refine z_entry (own := RX7) (ini := false) (plainFor_of_name pnX7) rfl (fun h => by cases h) (Nat.le_of_ble_eq_true rfl) ?_
  unfold w_X7_ticks at hw
  refine z_iload_n dX7_ticks_0 rfl rfl ?_
  refine z_iconst dX7_ticks_1 zi1 ?_
  refine z_sipush dX7_ticks_2 zsp200 ?_
  refine z_callS dX7_ticks_5 mX7_65 (c_X7_in  hw) rfl rfl (Nat.le_of_ble_eq_true rfl) ⟨Nat.le_of_ble_eq_true rfl, Nat.le_of_ble_eq_true rfl⟩ ⟨Nat.le_refl _, Nat.le_refl _⟩ (fun _ _ hw => ?_)
  refine z_if_ne dX7_ticks_8 hw (fun hw => ?_) (fun hw => ?_)
  · refine z_aload_n dX7_ticks_13 rfl rfl ?_
    refine z_getr dX7_ticks_14 fX7_47 zm0 zkX7_13 zrM13 ?_
    refine z_iconst dX7_ticks_17 zi0 ?_
    refine z_iald dX7_ticks_18 zm8 hw (fun hw => ?_)
    refine z_iload_n dX7_ticks_19 rfl rfl ?_
    refine z_iadd dX7_ticks_20 ?_
    refine z_sipush dX7_ticks_21 zsp2000 ?_
    refine z_icmp_le dX7_ticks_24 hw (fun hw => ?_) (fun hw => ?_)
    · refine z_iconst dX7_ticks_30 zi0 ?_
      refine z_istore_n dX7_ticks_31 rfl (Nat.le_of_ble_eq_true rfl) ?_
      obtain ⟨n, hw⟩ := hw
      exact z_to (l_X7_ticks_32   n _ _ _ hw) ⟨rfl, rfl, rfl, trivial⟩
    · refine z_bipush dX7_ticks_27 zbpm3 ?_
      exact z_iret dX7_ticks_29 (Nat.le_refl _) (Nat.le_refl _) rfl ⟨rfl, rfl, hw⟩
  · refine z_iconst dX7_ticks_11 zim1 ?_
    exact z_iret dX7_ticks_12 (Nat.le_refl _) (Nat.le_refl _) rfl ⟨rfl, rfl, hw⟩
def w_X7_stop_J21 (Q : Int32 → zS → Prop)  (x2 s0 s1 : Int32) (σ : zS) : Prop := (vp_in s1 389 ∧ zlet (zA σ 8 s1.toNatClampNeg s0) fun t1 => Q x2 t1)
def w_X7_stop  (x1 : Int32) (σ : zS) (Q : Int32 → zS → Prop) : Prop := (vp_in ((2 : Int32)) 389 ∧ ((x1 = 0 → w_X7_stop_J21 Q  ((σ.2 8 ((2 : Int32)).toNatClampNeg)) ((0 : Int32)) ((2 : Int32)) σ) ∧ (¬ (x1 = 0) → w_X7_stop_J21 Q  ((σ.2 8 ((2 : Int32)).toNatClampNeg)) ((1 : Int32)) ((2 : Int32)) σ)))
set_option maxHeartbeats 4000000 in
set_option maxRecDepth 100000 in
theorem j_X7_stop_21  {Q : Int32 → zS → Prop}   {x2 s0 s1 : Int32} {σ : zS} (hw : w_X7_stop_J21 Q  x2 s0 s1 σ) : zAW RX7 cX7_stop 3 (some .int) false { frames := 0, cells := 0, slots := 0, locals := 0 } zΓM.length (zN zΓM zρM Q) 21 [(2, .int x2)] [.int s0, .int s1, .ref 8] zΓM zρM σ 0 0 := by
  unfold w_X7_stop_J21 at hw
  refine z_iastL dX7_stop_21 zm8 hw (fun hw => ?_)
  refine z_iload_n dX7_stop_22 rfl rfl ?_
  exact z_iret dX7_stop_23 (Nat.le_refl _) (Nat.le_refl _) rfl ⟨rfl, rfl, hw⟩
set_option maxHeartbeats 4000000 in
set_option maxRecDepth 100000 in
theorem c_X7_stop  {x1 : Int32} {σ : zS} {Q : Int32 → zS → Prop} (hw : w_X7_stop x1 σ Q) : zAC yX7_stop cX7_stop 3 (some .int) { frames := 0, cells := 0, slots := 0, locals := 0 } [.ref 0, .int x1] zΓM zρM σ (zN zΓM zρM Q) := by
  refine z_entry (own := RX7) (ini := false) (plainFor_of_name pnX7) rfl (fun h => by cases h) (Nat.le_of_ble_eq_true rfl) ?_
  unfold w_X7_stop at hw
  refine z_aload_n dX7_stop_0 rfl rfl ?_
  refine z_getr dX7_stop_1 fX7_47 zm0 zkX7_13 zrM13 ?_
  refine z_iconst dX7_stop_4 zi2 ?_
  refine z_iald dX7_stop_5 zm8 hw (fun hw => ?_)
  refine z_istore_n dX7_stop_6 rfl (Nat.le_of_ble_eq_true rfl) ?_
  refine z_aload_n dX7_stop_7 rfl rfl ?_
  refine z_getr dX7_stop_8 fX7_47 zm0 zkX7_13 zrM13 ?_
  refine z_iconst dX7_stop_11 zi2 ?_
  refine z_iload_n dX7_stop_12 rfl rfl ?_
  refine z_if_eq dX7_stop_13 hw (fun hw => ?_) (fun hw => ?_)
  · refine z_iconst dX7_stop_20 zi0 ?_
    exact z_to (j_X7_stop_21   hw) ⟨rfl, trivial⟩
  · refine z_iconst dX7_stop_16 zi1 ?_
    refine z_goto dX7_stop_17 ?_
    exact z_to (j_X7_stop_21   hw) ⟨rfl, trivial⟩
def w_X7_shut_J55 (Q : Int32 → zS → Prop)  (x3 s0 s1 : Int32) (σ : zS) : Prop := (vp_in s1 389 ∧ zlet (zA σ 8 s1.toNatClampNeg s0) fun t1 => Q x3 t1)
def w_X7_shut  (x1 x2 : Int32) (σ : zS) (Q : Int32 → zS → Prop) : Prop := (w_X7_isFloor x1 σ fun v1 t2 => ((v1 = 0 → Q (-1 : Int32) t2) ∧ (¬ (v1 = 0) → (vp_in ((3 : Int32)) 389 ∧ ((x2 = 0 → (vp_in ((3 : Int32)) 389 ∧ w_X7_shut_J55 Q  ((((t2.2 8 ((3 : Int32)).toNatClampNeg) >>> (x1 &&& 31)) &&& (1 : Int32))) (((t2.2 8 ((3 : Int32)).toNatClampNeg) &&& (((1 : Int32) <<< (x1 &&& 31)) ^^^ (-1 : Int32)))) ((3 : Int32)) t2)) ∧ (¬ (x2 = 0) → (vp_in ((3 : Int32)) 389 ∧ w_X7_shut_J55 Q  ((((t2.2 8 ((3 : Int32)).toNatClampNeg) >>> (x1 &&& 31)) &&& (1 : Int32))) (((t2.2 8 ((3 : Int32)).toNatClampNeg) ||| ((1 : Int32) <<< (x1 &&& 31)))) ((3 : Int32)) t2)))))))
set_option maxHeartbeats 4000000 in
set_option maxRecDepth 100000 in
theorem j_X7_shut_55  {Q : Int32 → zS → Prop}   {x3 s0 s1 : Int32} {σ : zS} (hw : w_X7_shut_J55 Q  x3 s0 s1 σ) : zAW RX7 cX7_shut 4 (some .int) false { frames := 2, cells := 0, slots := 0, locals := 43 } zΓM.length (zN zΓM zρM Q) 55 [(3, .int x3)] [.int s0, .int s1, .ref 8] zΓM zρM σ 0 0 := by
  unfold w_X7_shut_J55 at hw
  refine z_iastL dX7_shut_55 zm8 hw (fun hw => ?_)
  refine z_iload_n dX7_shut_56 rfl rfl ?_
  exact z_iret dX7_shut_57 (Nat.le_refl _) (Nat.le_refl _) rfl ⟨rfl, rfl, hw⟩
set_option maxHeartbeats 4000000 in
set_option maxRecDepth 100000 in
theorem c_X7_shut  {x1 x2 : Int32} {σ : zS} {Q : Int32 → zS → Prop} (hw : w_X7_shut x1 x2 σ Q) : zAC yX7_shut cX7_shut 4 (some .int) { frames := 2, cells := 0, slots := 0, locals := 43 } [.ref 0, .int x1, .int x2] zΓM zρM σ (zN zΓM zρM Q) := by
  refine z_entry (own := RX7) (ini := false) (plainFor_of_name pnX7) rfl (fun h => by cases h) (Nat.le_of_ble_eq_true rfl) ?_
  unfold w_X7_shut at hw
  refine z_aload_n dX7_shut_0 rfl rfl ?_
  refine z_iload_n dX7_shut_1 rfl rfl ?_
  refine z_callV dX7_shut_2 mX7_79 (c_X7_isFloor  hw) zm0 rfl rfl (Nat.le_of_ble_eq_true rfl) ⟨Nat.le_of_ble_eq_true rfl, Nat.le_of_ble_eq_true rfl⟩ ⟨Nat.le_refl _, Nat.le_refl _⟩ (fun _ _ hw => ?_)
  refine z_if_ne dX7_shut_5 hw (fun hw => ?_) (fun hw => ?_)
  · refine z_aload_n dX7_shut_10 rfl rfl ?_
    refine z_getr dX7_shut_11 fX7_47 zm0 zkX7_13 zrM13 ?_
    refine z_iconst dX7_shut_14 zi3 ?_
    refine z_iald dX7_shut_15 zm8 hw (fun hw => ?_)
    refine z_iload_n dX7_shut_16 rfl rfl ?_
    refine z_ishr dX7_shut_17 ?_
    refine z_iconst dX7_shut_18 zi1 ?_
    refine z_iand dX7_shut_19 ?_
    refine z_istore_n dX7_shut_20 rfl (Nat.le_of_ble_eq_true rfl) ?_
    refine z_aload_n dX7_shut_21 rfl rfl ?_
    refine z_getr dX7_shut_22 fX7_47 zm0 zkX7_13 zrM13 ?_
    refine z_iconst dX7_shut_25 zi3 ?_
    refine z_iload_n dX7_shut_26 rfl rfl ?_
    refine z_if_eq dX7_shut_27 hw (fun hw => ?_) (fun hw => ?_)
    · refine z_aload_n dX7_shut_43 rfl rfl ?_
      refine z_getr dX7_shut_44 fX7_47 zm0 zkX7_13 zrM13 ?_
      refine z_iconst dX7_shut_47 zi3 ?_
      refine z_iald dX7_shut_48 zm8 hw (fun hw => ?_)
      refine z_iconst dX7_shut_49 zi1 ?_
      refine z_iload_n dX7_shut_50 rfl rfl ?_
      refine z_ishl dX7_shut_51 ?_
      refine z_iconst dX7_shut_52 zim1 ?_
      refine z_ixor dX7_shut_53 ?_
      refine z_iand dX7_shut_54 ?_
      exact z_to (j_X7_shut_55   hw) ⟨rfl, trivial⟩
    · refine z_aload_n dX7_shut_30 rfl rfl ?_
      refine z_getr dX7_shut_31 fX7_47 zm0 zkX7_13 zrM13 ?_
      refine z_iconst dX7_shut_34 zi3 ?_
      refine z_iald dX7_shut_35 zm8 hw (fun hw => ?_)
      refine z_iconst dX7_shut_36 zi1 ?_
      refine z_iload_n dX7_shut_37 rfl rfl ?_
      refine z_ishl dX7_shut_38 ?_
      refine z_ior dX7_shut_39 ?_
      refine z_goto dX7_shut_40 ?_
      exact z_to (j_X7_shut_55   hw) ⟨rfl, trivial⟩
  · refine z_iconst dX7_shut_8 zim1 ?_
    exact z_iret dX7_shut_9 (Nat.le_refl _) (Nat.le_refl _) rfl ⟨rfl, rfl, hw⟩
def w_X7_ridersOf_J29 (Q : Int32 → zS → Prop) (K4 : Int32 → Int32 → Int32 → zS → Prop) (x1 x3 s0 s1 : Int32) (σ : zS) : Prop := K4 x1 ((s1 ||| s0)) ((x3 + (1 : Int32))) σ
def w_X7_ridersOf_L4 (Q : Int32 → zS → Prop)  : Nat → Int32 → Int32 → Int32 → zS → Prop
  | 0, _, _, _, _ => False
  | n + 1, x1, x2, x3, σ => (((σ.1 0 5) ≤ x3 → Q x2 σ) ∧ (¬ ((σ.1 0 5) ≤ x3) → (w_X7_rides x3 x1 σ fun v1 t2 => ((v1 = 0 → w_X7_ridersOf_J29 Q (fun a1 a2 a3 aσ => w_X7_ridersOf_L4 Q  n a1 a2 a3 aσ) x1 x3 ((0 : Int32)) x2 t2) ∧ (¬ (v1 = 0) → w_X7_ridersOf_J29 Q (fun a1 a2 a3 aσ => w_X7_ridersOf_L4 Q  n a1 a2 a3 aσ) x1 x3 (((1 : Int32) <<< (x3 &&& 31))) x2 t2)))))
def w_X7_ridersOf  (x1 : Int32) (σ : zS) (Q : Int32 → zS → Prop) : Prop := ∃ m4, w_X7_ridersOf_L4 Q  m4 x1 ((0 : Int32)) ((0 : Int32)) σ
set_option maxHeartbeats 4000000 in
set_option maxRecDepth 100000 in
theorem j_X7_ridersOf_29  {Q : Int32 → zS → Prop} {K4 : Int32 → Int32 → Int32 → zS → Prop} (hK4 : ∀ (a1 a2 a3 : Int32) (σ : zS), K4 a1 a2 a3 σ → zAW RX7 cX7_ridersOf 4 (some .int) false { frames := 1, cells := 0, slots := 0, locals := 22 } zΓM.length (zN zΓM zρM Q) 4 [(0, .ref 0), (1, .int a1), (2, .int a2), (3, .int a3)] [] zΓM zρM σ 0 0) {x1 x3 s0 s1 : Int32} {σ : zS} (hw : w_X7_ridersOf_J29 Q K4 x1 x3 s0 s1 σ) : zAW RX7 cX7_ridersOf 4 (some .int) false { frames := 1, cells := 0, slots := 0, locals := 22 } zΓM.length (zN zΓM zρM Q) 29 [(0, .ref 0), (1, .int x1), (3, .int x3)] [.int s0, .int s1] zΓM zρM σ 0 0 := by
  unfold w_X7_ridersOf_J29 at hw
  refine z_ior dX7_ridersOf_29 ?_
  refine z_istore_n dX7_ridersOf_30 rfl (Nat.le_of_ble_eq_true rfl) ?_
  refine z_iinc dX7_ridersOf_31 rfl zi1 (Nat.le_of_ble_eq_true rfl) ?_
  refine z_goto dX7_ridersOf_34 ?_
  exact z_to (hK4 _ _ _ _ hw) ⟨rfl, rfl, rfl, rfl, trivial⟩
set_option maxHeartbeats 4000000 in
set_option maxRecDepth 100000 in
theorem l_X7_ridersOf_4  {Q : Int32 → zS → Prop}   : ∀ (n : Nat) (x1 x2 x3 : Int32) (σ : zS), w_X7_ridersOf_L4 Q  n x1 x2 x3 σ → zAW RX7 cX7_ridersOf 4 (some .int) false { frames := 1, cells := 0, slots := 0, locals := 22 } zΓM.length (zN zΓM zρM Q) 4 [(0, .ref 0), (1, .int x1), (2, .int x2), (3, .int x3)] [] zΓM zρM σ 0 0 := by
  intro n
  induction n with
  | zero => intro x1 x2 x3 σ hw; exact hw.elim
  | succ n hK4 =>
    intro x1 x2 x3 σ hw
    rw [w_X7_ridersOf_L4] at hw
    refine z_iload_n dX7_ridersOf_4 rfl rfl ?_
    refine z_aload_n dX7_ridersOf_5 rfl rfl ?_
    refine z_geti dX7_ridersOf_6 fX7_69 zm0 zkX7_5 ?_
    refine z_icmp_ge dX7_ridersOf_9 hw (fun hw => ?_) (fun hw => ?_)
    · refine z_iload_n dX7_ridersOf_37 rfl rfl ?_
      exact z_iret dX7_ridersOf_38 (Nat.le_refl _) (Nat.le_refl _) rfl ⟨rfl, rfl, hw⟩
    · refine z_iload_n dX7_ridersOf_12 rfl rfl ?_
      refine z_aload_n dX7_ridersOf_13 rfl rfl ?_
      refine z_iload_n dX7_ridersOf_14 rfl rfl ?_
      refine z_iload_n dX7_ridersOf_15 rfl rfl ?_
      refine z_callV dX7_ridersOf_16 mX7_90 (c_X7_rides  hw) zm0 rfl rfl (Nat.le_of_ble_eq_true rfl) ⟨Nat.le_of_ble_eq_true rfl, Nat.le_of_ble_eq_true rfl⟩ ⟨Nat.le_refl _, Nat.le_refl _⟩ (fun _ _ hw => ?_)
      refine z_if_eq dX7_ridersOf_19 hw (fun hw => ?_) (fun hw => ?_)
      · refine z_iconst dX7_ridersOf_28 zi0 ?_
        exact z_to (j_X7_ridersOf_29  hK4 hw) ⟨rfl, rfl, rfl, trivial⟩
      · refine z_iconst dX7_ridersOf_22 zi1 ?_
        refine z_iload_n dX7_ridersOf_23 rfl rfl ?_
        refine z_ishl dX7_ridersOf_24 ?_
        refine z_goto dX7_ridersOf_25 ?_
        exact z_to (j_X7_ridersOf_29  hK4 hw) ⟨rfl, rfl, rfl, trivial⟩
set_option maxHeartbeats 4000000 in
set_option maxRecDepth 100000 in
theorem c_X7_ridersOf  {x1 : Int32} {σ : zS} {Q : Int32 → zS → Prop} (hw : w_X7_ridersOf x1 σ Q) : zAC yX7_ridersOf cX7_ridersOf 4 (some .int) { frames := 1, cells := 0, slots := 0, locals := 22 } [.ref 0, .int x1] zΓM zρM σ (zN zΓM zρM Q) := by
  refine z_entry (own := RX7) (ini := false) (plainFor_of_name pnX7) rfl (fun h => by cases h) (Nat.le_of_ble_eq_true rfl) ?_
  unfold w_X7_ridersOf at hw
  refine z_iconst dX7_ridersOf_0 zi0 ?_
  refine z_istore_n dX7_ridersOf_1 rfl (Nat.le_of_ble_eq_true rfl) ?_
  refine z_iconst dX7_ridersOf_2 zi0 ?_
  refine z_istore_n dX7_ridersOf_3 rfl (Nat.le_of_ble_eq_true rfl) ?_
  obtain ⟨n, hw⟩ := hw
  exact z_to (l_X7_ridersOf_4   n _ _ _ _ hw) ⟨rfl, rfl, rfl, rfl, trivial⟩
def w_X7_box  (x1 x2 : Int32) (σ : zS) (Q : Int32 → zS → Prop) : Prop := (w_X7_boxes  σ fun v1 t2 => (w_X7_in x1 ((0 : Int32)) ((v1 - (1 : Int32))) t2 fun v3 t4 => ((v3 = 0 → Q (-1 : Int32) t4) ∧ (¬ (v3 = 0) → (w_X7_in x2 ((0 : Int32)) ((4 : Int32)) t4 fun v5 t6 => ((v5 = 0 → Q (-1 : Int32) t6) ∧ (¬ (v5 = 0) → (w_X7_partOf x1 t6 fun v7 t8 => ((x2 = (0 : Int32) → (w_X7_placeOf x1 t8 fun v9 t10 => Q v9 t10)) ∧ (¬ (x2 = (0 : Int32)) → ((x2 = (1 : Int32) → ((v7 = (t8.1 0 0) → Q (100 : Int32) t8) ∧ (¬ (v7 = (t8.1 0 0)) → (w_X7_isAside v7 t8 fun v12 t13 => ((v12 = 0 → (w_X7_floorOf v7 t13 fun v14 t15 => Q v14 t15)) ∧ (¬ (v12 = 0) → Q (101 : Int32) t13)))))) ∧ (¬ (x2 = (1 : Int32)) → ((x2 = (2 : Int32) → (w_X7_isAside v7 t8 fun v17 t18 => ((v17 = 0 → (((t18.1 0 0) ≤ v7 → Q (0 : Int32) t18) ∧ (¬ ((t18.1 0 0) ≤ v7) → Q (1 : Int32) t18))) ∧ (¬ (v17 = 0) → Q (-4 : Int32) t18)))) ∧ (¬ (x2 = (2 : Int32)) → ((x2 = (3 : Int32) → (w_X7_widths x1 t8 fun v20 t21 => Q v20 t21)) ∧ (¬ (x2 = (3 : Int32)) → (w_X7_ridersOf x1 t8 fun v23 t24 => Q v23 t24)))))))))))))))))
set_option maxHeartbeats 4000000 in
set_option maxRecDepth 100000 in
theorem c_X7_box  {x1 x2 : Int32} {σ : zS} {Q : Int32 → zS → Prop} (hw : w_X7_box x1 x2 σ Q) : zAC yX7_box cX7_box 4 (some .int) { frames := 3, cells := 0, slots := 0, locals := 62 } [.ref 0, .int x1, .int x2] zΓM zρM σ (zN zΓM zρM Q) := by
  refine z_entry (own := RX7) (ini := false) (plainFor_of_name pnX7) rfl (fun h => by cases h) (Nat.le_of_ble_eq_true rfl) ?_
  unfold w_X7_box at hw
  refine z_iload_n dX7_box_0 rfl rfl ?_
  refine z_iconst dX7_box_1 zi0 ?_
  refine z_aload_n dX7_box_2 rfl rfl ?_
  refine z_callV dX7_box_3 mX7_75 (c_X7_boxes  hw) zm0 rfl rfl (Nat.le_of_ble_eq_true rfl) ⟨Nat.le_of_ble_eq_true rfl, Nat.le_of_ble_eq_true rfl⟩ ⟨Nat.le_refl _, Nat.le_refl _⟩ (fun _ _ hw => ?_)
  refine z_iconst dX7_box_6 zi1 ?_
  refine z_isub dX7_box_7 ?_
  refine z_callS dX7_box_8 mX7_65 (c_X7_in  hw) rfl rfl (Nat.le_of_ble_eq_true rfl) ⟨Nat.le_of_ble_eq_true rfl, Nat.le_of_ble_eq_true rfl⟩ ⟨Nat.le_refl _, Nat.le_refl _⟩ (fun _ _ hw => ?_)
  refine z_if_eq dX7_box_11 hw (fun hw => ?_) (fun hw => ?_)
  · refine z_iconst dX7_box_23 zim1 ?_
    exact z_iret dX7_box_24 (Nat.le_refl _) (Nat.le_refl _) rfl ⟨rfl, rfl, hw⟩
  · refine z_iload_n dX7_box_14 rfl rfl ?_
    refine z_iconst dX7_box_15 zi0 ?_
    refine z_iconst dX7_box_16 zi4 ?_
    refine z_callS dX7_box_17 mX7_65 (c_X7_in  hw) rfl rfl (Nat.le_of_ble_eq_true rfl) ⟨Nat.le_of_ble_eq_true rfl, Nat.le_of_ble_eq_true rfl⟩ ⟨Nat.le_refl _, Nat.le_refl _⟩ (fun _ _ hw => ?_)
    refine z_if_ne dX7_box_20 hw (fun hw => ?_) (fun hw => ?_)
    · refine z_aload_n dX7_box_25 rfl rfl ?_
      refine z_iload_n dX7_box_26 rfl rfl ?_
      refine z_callV dX7_box_27 mX7_97 (c_X7_partOf  hw) zm0 rfl rfl (Nat.le_of_ble_eq_true rfl) ⟨Nat.le_of_ble_eq_true rfl, Nat.le_of_ble_eq_true rfl⟩ ⟨Nat.le_refl _, Nat.le_refl _⟩ (fun _ _ hw => ?_)
      refine z_istore_n dX7_box_30 rfl (Nat.le_of_ble_eq_true rfl) ?_
      refine z_iload_n dX7_box_31 rfl rfl ?_
      by_cases hs11 : x2 = (0 : Int32)
      · refine z_tabIn (tgt := 64) (off := 32) dX7_box_32 hs11 (by decide) (by decide) (by decide) (by decide) ?_
        have hw := hw.1 hs11
        refine z_aload_n dX7_box_64 rfl rfl ?_
        refine z_iload_n dX7_box_65 rfl rfl ?_
        refine z_callV dX7_box_66 mX7_86 (c_X7_placeOf  hw) zm0 rfl rfl (Nat.le_of_ble_eq_true rfl) ⟨Nat.le_of_ble_eq_true rfl, Nat.le_of_ble_eq_true rfl⟩ ⟨Nat.le_refl _, Nat.le_refl _⟩ (fun _ _ hw => ?_)
        exact z_iret dX7_box_69 (Nat.le_refl _) (Nat.le_refl _) rfl ⟨rfl, rfl, hw⟩
      have hw := hw.2 hs11
      by_cases hs16 : x2 = (1 : Int32)
      · refine z_tabIn (tgt := 70) (off := 38) dX7_box_32 hs16 (by decide) (by decide) (by decide) (by decide) ?_
        have hw := hw.1 hs16
        refine z_iload_n dX7_box_70 rfl rfl ?_
        refine z_aload_n dX7_box_71 rfl rfl ?_
        refine z_geti dX7_box_72 fX7_7 zm0 zkX7_0 ?_
        refine z_icmp_ne dX7_box_75 hw (fun hw => ?_) (fun hw => ?_)
        · refine z_aload_n dX7_box_83 rfl rfl ?_
          refine z_iload_n dX7_box_84 rfl rfl ?_
          refine z_callV dX7_box_85 mX7_94 (c_X7_isAside  hw) zm0 rfl rfl (Nat.le_of_ble_eq_true rfl) ⟨Nat.le_of_ble_eq_true rfl, Nat.le_of_ble_eq_true rfl⟩ ⟨Nat.le_refl _, Nat.le_refl _⟩ (fun _ _ hw => ?_)
          refine z_if_eq dX7_box_88 hw (fun hw => ?_) (fun hw => ?_)
          · refine z_aload_n dX7_box_96 rfl rfl ?_
            refine z_iload_n dX7_box_97 rfl rfl ?_
            refine z_callV dX7_box_98 mX7_110 (c_X7_floorOf  hw) zm0 rfl rfl (Nat.le_of_ble_eq_true rfl) ⟨Nat.le_of_ble_eq_true rfl, Nat.le_of_ble_eq_true rfl⟩ ⟨Nat.le_refl _, Nat.le_refl _⟩ (fun _ _ hw => ?_)
            exact z_iret dX7_box_101 (Nat.le_refl _) (Nat.le_refl _) rfl ⟨rfl, rfl, hw⟩
          · refine z_bipush dX7_box_91 zbp101 ?_
            refine z_goto dX7_box_93 ?_
            exact z_iret dX7_box_101 (Nat.le_refl _) (Nat.le_refl _) rfl ⟨rfl, rfl, hw⟩
        · refine z_bipush dX7_box_78 zbp100 ?_
          refine z_goto dX7_box_80 ?_
          exact z_iret dX7_box_101 (Nat.le_refl _) (Nat.le_refl _) rfl ⟨rfl, rfl, hw⟩
      have hw := hw.2 hs16
      by_cases hs19 : x2 = (2 : Int32)
      · refine z_tabIn (tgt := 102) (off := 70) dX7_box_32 hs19 (by decide) (by decide) (by decide) (by decide) ?_
        have hw := hw.1 hs19
        refine z_aload_n dX7_box_102 rfl rfl ?_
        refine z_iload_n dX7_box_103 rfl rfl ?_
        refine z_callV dX7_box_104 mX7_94 (c_X7_isAside  hw) zm0 rfl rfl (Nat.le_of_ble_eq_true rfl) ⟨Nat.le_of_ble_eq_true rfl, Nat.le_of_ble_eq_true rfl⟩ ⟨Nat.le_refl _, Nat.le_refl _⟩ (fun _ _ hw => ?_)
        refine z_if_eq dX7_box_107 hw (fun hw => ?_) (fun hw => ?_)
        · refine z_iload_n dX7_box_115 rfl rfl ?_
          refine z_aload_n dX7_box_116 rfl rfl ?_
          refine z_geti dX7_box_117 fX7_7 zm0 zkX7_0 ?_
          refine z_icmp_ge dX7_box_120 hw (fun hw => ?_) (fun hw => ?_)
          · refine z_iconst dX7_box_127 zi0 ?_
            exact z_iret dX7_box_128 (Nat.le_refl _) (Nat.le_refl _) rfl ⟨rfl, rfl, hw⟩
          · refine z_iconst dX7_box_123 zi1 ?_
            refine z_goto dX7_box_124 ?_
            exact z_iret dX7_box_128 (Nat.le_refl _) (Nat.le_refl _) rfl ⟨rfl, rfl, hw⟩
        · refine z_bipush dX7_box_110 zbpm4 ?_
          refine z_goto dX7_box_112 ?_
          exact z_iret dX7_box_128 (Nat.le_refl _) (Nat.le_refl _) rfl ⟨rfl, rfl, hw⟩
      have hw := hw.2 hs19
      by_cases hs22 : x2 = (3 : Int32)
      · refine z_tabIn (tgt := 129) (off := 97) dX7_box_32 hs22 (by decide) (by decide) (by decide) (by decide) ?_
        have hw := hw.1 hs22
        refine z_aload_n dX7_box_129 rfl rfl ?_
        refine z_iload_n dX7_box_130 rfl rfl ?_
        refine z_callV dX7_box_131 mX7_116 (c_X7_widths  hw) zm0 rfl rfl (Nat.le_of_ble_eq_true rfl) ⟨Nat.le_of_ble_eq_true rfl, Nat.le_of_ble_eq_true rfl⟩ ⟨Nat.le_refl _, Nat.le_refl _⟩ (fun _ _ hw => ?_)
        exact z_iret dX7_box_134 (Nat.le_refl _) (Nat.le_refl _) rfl ⟨rfl, rfl, hw⟩
      have hw := hw.2 hs22
      have hs11 := zne (0 : Int32) (0) (by decide) hs11
      have hs16 := zne (1 : Int32) (1) (by decide) hs16
      have hs19 := zne (2 : Int32) (2) (by decide) hs19
      have hs22 := zne (3 : Int32) (3) (by decide) hs22
      refine z_tabOut (tgt := 135) dX7_box_32 (by omega) (by decide) ?_
      refine z_aload_n dX7_box_135 rfl rfl ?_
      refine z_iload_n dX7_box_136 rfl rfl ?_
      refine z_callV dX7_box_137 mX7_137 (c_X7_ridersOf  hw) zm0 rfl rfl (Nat.le_of_ble_eq_true rfl) ⟨Nat.le_of_ble_eq_true rfl, Nat.le_of_ble_eq_true rfl⟩ ⟨Nat.le_refl _, Nat.le_refl _⟩ (fun _ _ hw => ?_)
      exact z_iret dX7_box_140 (Nat.le_refl _) (Nat.le_refl _) rfl ⟨rfl, rfl, hw⟩
    · refine z_iconst dX7_box_23 zim1 ?_
      exact z_iret dX7_box_24 (Nat.le_refl _) (Nat.le_refl _) rfl ⟨rfl, rfl, hw⟩
def w_X7_left  (σ : zS) (Q : Int32 → zS → Prop) : Prop := (vp_in ((1 : Int32)) 389 ∧ (w_X7_leftOf ((σ.2 8 ((1 : Int32)).toNatClampNeg)) σ fun v1 t2 => Q v1 t2))
set_option maxHeartbeats 4000000 in
set_option maxRecDepth 100000 in
theorem c_X7_left  {σ : zS} {Q : Int32 → zS → Prop} (hw : w_X7_left  σ Q) : zAC yX7_left cX7_left 1 (some .int) { frames := 1, cells := 0, slots := 0, locals := 22 } [.ref 0] zΓM zρM σ (zN zΓM zρM Q) := by
  refine z_entry (own := RX7) (ini := false) (plainFor_of_name pnX7) rfl (fun h => by cases h) (Nat.le_of_ble_eq_true rfl) ?_
  unfold w_X7_left at hw
  refine z_aload_n dX7_left_0 rfl rfl ?_
  refine z_aload_n dX7_left_1 rfl rfl ?_
  refine z_getr dX7_left_2 fX7_47 zm0 zkX7_13 zrM13 ?_
  refine z_iconst dX7_left_5 zi1 ?_
  refine z_iald dX7_left_6 zm8 hw (fun hw => ?_)
  refine z_callV dX7_left_7 mX7_128 (c_X7_leftOf  hw) zm0 rfl rfl (Nat.le_of_ble_eq_true rfl) ⟨Nat.le_of_ble_eq_true rfl, Nat.le_of_ble_eq_true rfl⟩ ⟨Nat.le_refl _, Nat.le_refl _⟩ (fun _ _ hw => ?_)
  exact z_iret dX7_left_10 (Nat.le_refl _) (Nat.le_refl _) rfl ⟨rfl, rfl, hw⟩
def w_X7_stateOf  (x1 : Int32) (σ : zS) (Q : Int32 → zS → Prop) : Prop := (vp_in (((5 : Int32) + x1)) 389 ∧ (((σ.2 8 (((5 : Int32) + x1)).toNatClampNeg) = (3 : Int32) → (vp_in ((0 : Int32)) 389 ∧ (vp_in (((65 : Int32) + x1)) 389 ∧ (((σ.2 8 ((0 : Int32)).toNatClampNeg) ≤ (σ.2 8 (((65 : Int32) + x1)).toNatClampNeg) → Q (σ.2 8 (((5 : Int32) + x1)).toNatClampNeg) σ) ∧ (¬ ((σ.2 8 ((0 : Int32)).toNatClampNeg) ≤ (σ.2 8 (((65 : Int32) + x1)).toNatClampNeg)) → Q (4 : Int32) σ))))) ∧ (¬ ((σ.2 8 (((5 : Int32) + x1)).toNatClampNeg) = (3 : Int32)) → Q (σ.2 8 (((5 : Int32) + x1)).toNatClampNeg) σ)))
set_option maxHeartbeats 4000000 in
set_option maxRecDepth 100000 in
theorem c_X7_stateOf  {x1 : Int32} {σ : zS} {Q : Int32 → zS → Prop} (hw : w_X7_stateOf x1 σ Q) : zAC yX7_stateOf cX7_stateOf 3 (some .int) { frames := 0, cells := 0, slots := 0, locals := 0 } [.ref 0, .int x1] zΓM zρM σ (zN zΓM zρM Q) := by
  refine z_entry (own := RX7) (ini := false) (plainFor_of_name pnX7) rfl (fun h => by cases h) (Nat.le_of_ble_eq_true rfl) ?_
  unfold w_X7_stateOf at hw
  refine z_aload_n dX7_stateOf_0 rfl rfl ?_
  refine z_getr dX7_stateOf_1 fX7_47 zm0 zkX7_13 zrM13 ?_
  refine z_iconst dX7_stateOf_4 zi5 ?_
  refine z_iload_n dX7_stateOf_5 rfl rfl ?_
  refine z_iadd dX7_stateOf_6 ?_
  refine z_iald dX7_stateOf_7 zm8 hw (fun hw => ?_)
  refine z_istore_n dX7_stateOf_8 rfl (Nat.le_of_ble_eq_true rfl) ?_
  refine z_iload_n dX7_stateOf_9 rfl rfl ?_
  refine z_iconst dX7_stateOf_10 zi3 ?_
  refine z_icmp_ne dX7_stateOf_11 hw (fun hw => ?_) (fun hw => ?_)
  · refine z_iload_n dX7_stateOf_36 rfl rfl ?_
    exact z_iret dX7_stateOf_37 (Nat.le_refl _) (Nat.le_refl _) rfl ⟨rfl, rfl, hw⟩
  · refine z_aload_n dX7_stateOf_14 rfl rfl ?_
    refine z_getr dX7_stateOf_15 fX7_47 zm0 zkX7_13 zrM13 ?_
    refine z_iconst dX7_stateOf_18 zi0 ?_
    refine z_iald dX7_stateOf_19 zm8 hw (fun hw => ?_)
    refine z_aload_n dX7_stateOf_20 rfl rfl ?_
    refine z_getr dX7_stateOf_21 fX7_47 zm0 zkX7_13 zrM13 ?_
    refine z_bipush dX7_stateOf_24 zbp65 ?_
    refine z_iload_n dX7_stateOf_26 rfl rfl ?_
    refine z_iadd dX7_stateOf_27 ?_
    refine z_iald dX7_stateOf_28 zm8 hw (fun hw => ?_)
    refine z_icmp_le dX7_stateOf_29 hw (fun hw => ?_) (fun hw => ?_)
    · refine z_iload_n dX7_stateOf_36 rfl rfl ?_
      exact z_iret dX7_stateOf_37 (Nat.le_refl _) (Nat.le_refl _) rfl ⟨rfl, rfl, hw⟩
    · refine z_iconst dX7_stateOf_32 zi4 ?_
      refine z_goto dX7_stateOf_33 ?_
      exact z_iret dX7_stateOf_37 (Nat.le_refl _) (Nat.le_refl _) rfl ⟨rfl, rfl, hw⟩
def w_X7_costOf_J39 (Q : Int32 → zS → Prop)  (x1 s0 : Int32) (σ : zS) : Prop := (vp_in x1 30 ∧ Q (s0 - (σ.2 1 x1.toNatClampNeg)) σ)
def w_X7_costOf_J36 (Q : Int32 → zS → Prop)  (x1 : Int32) (σ : zS) : Prop := w_X7_costOf_J39 Q  x1 ((1000 : Int32)) σ
def w_X7_costOf  (x1 : Int32) (σ : zS) (Q : Int32 → zS → Prop) : Prop := (w_X7_stateOf x1 σ fun v1 t2 => ((v1 = (4 : Int32) → (vp_in (((65 : Int32) + x1)) 389 ∧ (((1000 : Int32) ≤ (t2.2 8 (((65 : Int32) + x1)).toNatClampNeg) → w_X7_costOf_J36 Q  x1  t2) ∧ (¬ ((1000 : Int32) ≤ (t2.2 8 (((65 : Int32) + x1)).toNatClampNeg)) → (vp_in (((65 : Int32) + x1)) 389 ∧ w_X7_costOf_J39 Q  x1 ((t2.2 8 (((65 : Int32) + x1)).toNatClampNeg)) t2))))) ∧ (¬ (v1 = (4 : Int32)) → w_X7_costOf_J36 Q  x1  t2)))
set_option maxHeartbeats 4000000 in
set_option maxRecDepth 100000 in
theorem j_X7_costOf_39  {Q : Int32 → zS → Prop}   {x1 s0 : Int32} {σ : zS} (hw : w_X7_costOf_J39 Q  x1 s0 σ) : zAW RX7 cX7_costOf 3 (some .int) false { frames := 1, cells := 0, slots := 0, locals := 22 } zΓM.length (zN zΓM zρM Q) 39 [(0, .ref 0), (1, .int x1)] [.int s0] zΓM zρM σ 0 0 := by
  unfold w_X7_costOf_J39 at hw
  refine z_istore_n dX7_costOf_39 rfl (Nat.le_of_ble_eq_true rfl) ?_
  refine z_iload_n dX7_costOf_40 rfl rfl ?_
  refine z_aload_n dX7_costOf_41 rfl rfl ?_
  refine z_getr dX7_costOf_42 fX7_25 zm0 zkX7_6 zrM6 ?_
  refine z_iload_n dX7_costOf_45 rfl rfl ?_
  refine z_iald dX7_costOf_46 zm1 hw (fun hw => ?_)
  refine z_isub dX7_costOf_47 ?_
  exact z_iret dX7_costOf_48 (Nat.le_refl _) (Nat.le_refl _) rfl ⟨rfl, rfl, hw⟩
set_option maxHeartbeats 4000000 in
set_option maxRecDepth 100000 in
theorem j_X7_costOf_36  {Q : Int32 → zS → Prop}   {x1 : Int32} {σ : zS} (hw : w_X7_costOf_J36 Q  x1 σ) : zAW RX7 cX7_costOf 3 (some .int) false { frames := 1, cells := 0, slots := 0, locals := 22 } zΓM.length (zN zΓM zρM Q) 36 [(0, .ref 0), (1, .int x1)] [] zΓM zρM σ 0 0 := by
  unfold w_X7_costOf_J36 at hw
  refine z_sipush dX7_costOf_36 zsp1000 ?_
  exact z_to (j_X7_costOf_39   hw) ⟨rfl, rfl, trivial⟩
set_option maxHeartbeats 4000000 in
set_option maxRecDepth 100000 in
theorem c_X7_costOf  {x1 : Int32} {σ : zS} {Q : Int32 → zS → Prop} (hw : w_X7_costOf x1 σ Q) : zAC yX7_costOf cX7_costOf 3 (some .int) { frames := 1, cells := 0, slots := 0, locals := 22 } [.ref 0, .int x1] zΓM zρM σ (zN zΓM zρM Q) := by
  refine z_entry (own := RX7) (ini := false) (plainFor_of_name pnX7) rfl (fun h => by cases h) (Nat.le_of_ble_eq_true rfl) ?_
  unfold w_X7_costOf at hw
  refine z_aload_n dX7_costOf_0 rfl rfl ?_
  refine z_iload_n dX7_costOf_1 rfl rfl ?_
  refine z_callV dX7_costOf_2 mX7_140 (c_X7_stateOf  hw) zm0 rfl rfl (Nat.le_of_ble_eq_true rfl) ⟨Nat.le_of_ble_eq_true rfl, Nat.le_of_ble_eq_true rfl⟩ ⟨Nat.le_refl _, Nat.le_refl _⟩ (fun _ _ hw => ?_)
  refine z_iconst dX7_costOf_5 zi4 ?_
  refine z_icmp_ne dX7_costOf_6 hw (fun hw => ?_) (fun hw => ?_)
  · exact z_to (j_X7_costOf_36   hw) ⟨rfl, rfl, trivial⟩
  · refine z_aload_n dX7_costOf_9 rfl rfl ?_
    refine z_getr dX7_costOf_10 fX7_47 zm0 zkX7_13 zrM13 ?_
    refine z_bipush dX7_costOf_13 zbp65 ?_
    refine z_iload_n dX7_costOf_15 rfl rfl ?_
    refine z_iadd dX7_costOf_16 ?_
    refine z_iald dX7_costOf_17 zm8 hw (fun hw => ?_)
    refine z_sipush dX7_costOf_18 zsp1000 ?_
    refine z_icmp_ge dX7_costOf_21 hw (fun hw => ?_) (fun hw => ?_)
    · exact z_to (j_X7_costOf_36   hw) ⟨rfl, rfl, trivial⟩
    · refine z_aload_n dX7_costOf_24 rfl rfl ?_
      refine z_getr dX7_costOf_25 fX7_47 zm0 zkX7_13 zrM13 ?_
      refine z_bipush dX7_costOf_28 zbp65 ?_
      refine z_iload_n dX7_costOf_30 rfl rfl ?_
      refine z_iadd dX7_costOf_31 ?_
      refine z_iald dX7_costOf_32 zm8 hw (fun hw => ?_)
      refine z_goto dX7_costOf_33 ?_
      exact z_to (j_X7_costOf_39   hw) ⟨rfl, rfl, trivial⟩
def w_X7_about_J82 (Q : Int32 → zS → Prop)  (x1 : Int32) (σ : zS) : Prop := (vp_in (((35 : Int32) + x1)) 389 ∧ Q (σ.2 8 (((35 : Int32) + x1)).toNatClampNeg) σ)
def w_X7_about  (x1 x2 : Int32) (σ : zS) (Q : Int32 → zS → Prop) : Prop := (w_X7_isPerson x1 σ fun v1 t2 => ((v1 = 0 → Q (-1 : Int32) t2) ∧ (¬ (v1 = 0) → (w_X7_in x2 ((0 : Int32)) ((4 : Int32)) t2 fun v3 t4 => ((v3 = 0 → Q (-1 : Int32) t4) ∧ (¬ (v3 = 0) → (w_X7_stateOf x1 t4 fun v5 t6 => ((x2 = (0 : Int32) → Q v5 t6) ∧ (¬ (x2 = (0 : Int32)) → ((x2 = (1 : Int32) → ((v5 = (4 : Int32) → (vp_in x1 30 ∧ Q (t6.2 3 x1.toNatClampNeg) t6)) ∧ (¬ (v5 = (4 : Int32)) → ((v5 = (1 : Int32) → w_X7_about_J82 Q  x1  t6) ∧ (¬ (v5 = (1 : Int32)) → ((v5 = (2 : Int32) → w_X7_about_J82 Q  x1  t6) ∧ (¬ (v5 = (2 : Int32)) → Q (-4 : Int32) t6))))))) ∧ (¬ (x2 = (1 : Int32)) → ((x2 = (2 : Int32) → ((v5 = (4 : Int32) → (vp_in (((65 : Int32) + x1)) 389 ∧ Q (t6.2 8 (((65 : Int32) + x1)).toNatClampNeg) t6)) ∧ (¬ (v5 = (4 : Int32)) → Q (-4 : Int32) t6))) ∧ (¬ (x2 = (2 : Int32)) → ((x2 = (3 : Int32) → (vp_in (((95 : Int32) + x1)) 389 ∧ Q (t6.2 8 (((95 : Int32) + x1)).toNatClampNeg) t6)) ∧ (¬ (x2 = (3 : Int32)) → (w_X7_costOf x1 t6 fun v11 t12 => Q v11 t12))))))))))))))))
set_option maxHeartbeats 4000000 in
set_option maxRecDepth 100000 in
theorem j_X7_about_82  {Q : Int32 → zS → Prop}   {x1 : Int32} {σ : zS} (hw : w_X7_about_J82 Q  x1 σ) : zAW RX7 cX7_about 4 (some .int) false { frames := 2, cells := 0, slots := 0, locals := 44 } zΓM.length (zN zΓM zρM Q) 82 [(0, .ref 0), (1, .int x1)] [] zΓM zρM σ 0 0 := by
  unfold w_X7_about_J82 at hw
  refine z_aload_n dX7_about_82 rfl rfl ?_
  refine z_getr dX7_about_83 fX7_47 zm0 zkX7_13 zrM13 ?_
  refine z_bipush dX7_about_86 zbp35 ?_
  refine z_iload_n dX7_about_88 rfl rfl ?_
  refine z_iadd dX7_about_89 ?_
  refine z_iald dX7_about_90 zm8 hw (fun hw => ?_)
  refine z_goto dX7_about_91 ?_
  exact z_iret dX7_about_96 (Nat.le_refl _) (Nat.le_refl _) rfl ⟨rfl, rfl, hw⟩
set_option maxHeartbeats 4000000 in
set_option maxRecDepth 100000 in
theorem c_X7_about  {x1 x2 : Int32} {σ : zS} {Q : Int32 → zS → Prop} (hw : w_X7_about x1 x2 σ Q) : zAC yX7_about cX7_about 4 (some .int) { frames := 2, cells := 0, slots := 0, locals := 44 } [.ref 0, .int x1, .int x2] zΓM zρM σ (zN zΓM zρM Q) := by
  refine z_entry (own := RX7) (ini := false) (plainFor_of_name pnX7) rfl (fun h => by cases h) (Nat.le_of_ble_eq_true rfl) ?_
  unfold w_X7_about at hw
  refine z_aload_n dX7_about_0 rfl rfl ?_
  refine z_iload_n dX7_about_1 rfl rfl ?_
  refine z_callV dX7_about_2 mX7_143 (c_X7_isPerson  hw) zm0 rfl rfl (Nat.le_of_ble_eq_true rfl) ⟨Nat.le_of_ble_eq_true rfl, Nat.le_of_ble_eq_true rfl⟩ ⟨Nat.le_refl _, Nat.le_refl _⟩ (fun _ _ hw => ?_)
  refine z_if_eq dX7_about_5 hw (fun hw => ?_) (fun hw => ?_)
  · refine z_iconst dX7_about_17 zim1 ?_
    exact z_iret dX7_about_18 (Nat.le_refl _) (Nat.le_refl _) rfl ⟨rfl, rfl, hw⟩
  · refine z_iload_n dX7_about_8 rfl rfl ?_
    refine z_iconst dX7_about_9 zi0 ?_
    refine z_iconst dX7_about_10 zi4 ?_
    refine z_callS dX7_about_11 mX7_65 (c_X7_in  hw) rfl rfl (Nat.le_of_ble_eq_true rfl) ⟨Nat.le_of_ble_eq_true rfl, Nat.le_of_ble_eq_true rfl⟩ ⟨Nat.le_refl _, Nat.le_refl _⟩ (fun _ _ hw => ?_)
    refine z_if_ne dX7_about_14 hw (fun hw => ?_) (fun hw => ?_)
    · refine z_aload_n dX7_about_19 rfl rfl ?_
      refine z_iload_n dX7_about_20 rfl rfl ?_
      refine z_callV dX7_about_21 mX7_140 (c_X7_stateOf  hw) zm0 rfl rfl (Nat.le_of_ble_eq_true rfl) ⟨Nat.le_of_ble_eq_true rfl, Nat.le_of_ble_eq_true rfl⟩ ⟨Nat.le_refl _, Nat.le_refl _⟩ (fun _ _ hw => ?_)
      refine z_istore_n dX7_about_24 rfl (Nat.le_of_ble_eq_true rfl) ?_
      refine z_iload_n dX7_about_25 rfl rfl ?_
      by_cases hs7 : x2 = (0 : Int32)
      · refine z_tabIn (tgt := 56) (off := 30) dX7_about_26 hs7 (by decide) (by decide) (by decide) (by decide) ?_
        have hw := hw.1 hs7
        refine z_iload_n dX7_about_56 rfl rfl ?_
        exact z_iret dX7_about_57 (Nat.le_refl _) (Nat.le_refl _) rfl ⟨rfl, rfl, hw⟩
      have hw := hw.2 hs7
      by_cases hs8 : x2 = (1 : Int32)
      · refine z_tabIn (tgt := 58) (off := 32) dX7_about_26 hs8 (by decide) (by decide) (by decide) (by decide) ?_
        have hw := hw.1 hs8
        refine z_iload_n dX7_about_58 rfl rfl ?_
        refine z_iconst dX7_about_59 zi4 ?_
        refine z_icmp_ne dX7_about_60 hw (fun hw => ?_) (fun hw => ?_)
        · refine z_iload_n dX7_about_72 rfl rfl ?_
          refine z_iconst dX7_about_73 zi1 ?_
          refine z_icmp_eq dX7_about_74 hw (fun hw => ?_) (fun hw => ?_)
          · exact z_to (j_X7_about_82   hw) ⟨rfl, rfl, trivial⟩
          · refine z_iload_n dX7_about_77 rfl rfl ?_
            refine z_iconst dX7_about_78 zi2 ?_
            refine z_icmp_ne dX7_about_79 hw (fun hw => ?_) (fun hw => ?_)
            · refine z_bipush dX7_about_94 zbpm4 ?_
              exact z_iret dX7_about_96 (Nat.le_refl _) (Nat.le_refl _) rfl ⟨rfl, rfl, hw⟩
            · exact z_to (j_X7_about_82   hw) ⟨rfl, rfl, trivial⟩
        · refine z_aload_n dX7_about_63 rfl rfl ?_
          refine z_getr dX7_about_64 fX7_32 zm0 zkX7_8 zrM8 ?_
          refine z_iload_n dX7_about_67 rfl rfl ?_
          refine z_iald dX7_about_68 zm3 hw (fun hw => ?_)
          refine z_goto dX7_about_69 ?_
          exact z_iret dX7_about_96 (Nat.le_refl _) (Nat.le_refl _) rfl ⟨rfl, rfl, hw⟩
      have hw := hw.2 hs8
      by_cases hs9 : x2 = (2 : Int32)
      · refine z_tabIn (tgt := 97) (off := 71) dX7_about_26 hs9 (by decide) (by decide) (by decide) (by decide) ?_
        have hw := hw.1 hs9
        refine z_iload_n dX7_about_97 rfl rfl ?_
        refine z_iconst dX7_about_98 zi4 ?_
        refine z_icmp_ne dX7_about_99 hw (fun hw => ?_) (fun hw => ?_)
        · refine z_bipush dX7_about_114 zbpm4 ?_
          exact z_iret dX7_about_116 (Nat.le_refl _) (Nat.le_refl _) rfl ⟨rfl, rfl, hw⟩
        · refine z_aload_n dX7_about_102 rfl rfl ?_
          refine z_getr dX7_about_103 fX7_47 zm0 zkX7_13 zrM13 ?_
          refine z_bipush dX7_about_106 zbp65 ?_
          refine z_iload_n dX7_about_108 rfl rfl ?_
          refine z_iadd dX7_about_109 ?_
          refine z_iald dX7_about_110 zm8 hw (fun hw => ?_)
          refine z_goto dX7_about_111 ?_
          exact z_iret dX7_about_116 (Nat.le_refl _) (Nat.le_refl _) rfl ⟨rfl, rfl, hw⟩
      have hw := hw.2 hs9
      by_cases hs10 : x2 = (3 : Int32)
      · refine z_tabIn (tgt := 117) (off := 91) dX7_about_26 hs10 (by decide) (by decide) (by decide) (by decide) ?_
        have hw := hw.1 hs10
        refine z_aload_n dX7_about_117 rfl rfl ?_
        refine z_getr dX7_about_118 fX7_47 zm0 zkX7_13 zrM13 ?_
        refine z_bipush dX7_about_121 zbp95 ?_
        refine z_iload_n dX7_about_123 rfl rfl ?_
        refine z_iadd dX7_about_124 ?_
        refine z_iald dX7_about_125 zm8 hw (fun hw => ?_)
        exact z_iret dX7_about_126 (Nat.le_refl _) (Nat.le_refl _) rfl ⟨rfl, rfl, hw⟩
      have hw := hw.2 hs10
      have hs7 := zne (0 : Int32) (0) (by decide) hs7
      have hs8 := zne (1 : Int32) (1) (by decide) hs8
      have hs9 := zne (2 : Int32) (2) (by decide) hs9
      have hs10 := zne (3 : Int32) (3) (by decide) hs10
      refine z_tabOut (tgt := 127) dX7_about_26 (by omega) (by decide) ?_
      refine z_aload_n dX7_about_127 rfl rfl ?_
      refine z_iload_n dX7_about_128 rfl rfl ?_
      refine z_callV dX7_about_129 mX7_146 (c_X7_costOf  hw) zm0 rfl rfl (Nat.le_of_ble_eq_true rfl) ⟨Nat.le_of_ble_eq_true rfl, Nat.le_of_ble_eq_true rfl⟩ ⟨Nat.le_refl _, Nat.le_refl _⟩ (fun _ _ hw => ?_)
      exact z_iret dX7_about_132 (Nat.le_refl _) (Nat.le_refl _) rfl ⟨rfl, rfl, hw⟩
    · refine z_iconst dX7_about_17 zim1 ?_
      exact z_iret dX7_about_18 (Nat.le_refl _) (Nat.le_refl _) rfl ⟨rfl, rfl, hw⟩
def w_X7_stands  (x1 x2 : Int32) (σ : zS) (Q : Int32 → zS → Prop) : Prop := (w_X7_isFloor x1 σ fun v1 t2 => ((v1 = 0 → Q (-1 : Int32) t2) ∧ (¬ (v1 = 0) → ((0 ≤ x2 → (vp_in (((141 : Int32) + x1)) 389 ∧ (((t2.2 8 (((141 : Int32) + x1)).toNatClampNeg) ≤ x2 → Q (-4 : Int32) t2) ∧ (¬ ((t2.2 8 (((141 : Int32) + x1)).toNatClampNeg) ≤ x2) → (vp_in ((((149 : Int32) + ((30 : Int32) * x1)) + x2)) 389 ∧ Q (t2.2 8 ((((149 : Int32) + ((30 : Int32) * x1)) + x2)).toNatClampNeg) t2))))) ∧ (¬ (0 ≤ x2) → Q (-1 : Int32) t2)))))
set_option maxHeartbeats 4000000 in
set_option maxRecDepth 100000 in
theorem c_X7_stands  {x1 x2 : Int32} {σ : zS} {Q : Int32 → zS → Prop} (hw : w_X7_stands x1 x2 σ Q) : zAC yX7_stands cX7_stands 3 (some .int) { frames := 2, cells := 0, slots := 0, locals := 43 } [.ref 0, .int x1, .int x2] zΓM zρM σ (zN zΓM zρM Q) := by
  refine z_entry (own := RX7) (ini := false) (plainFor_of_name pnX7) rfl (fun h => by cases h) (Nat.le_of_ble_eq_true rfl) ?_
  unfold w_X7_stands at hw
  refine z_aload_n dX7_stands_0 rfl rfl ?_
  refine z_iload_n dX7_stands_1 rfl rfl ?_
  refine z_callV dX7_stands_2 mX7_79 (c_X7_isFloor  hw) zm0 rfl rfl (Nat.le_of_ble_eq_true rfl) ⟨Nat.le_of_ble_eq_true rfl, Nat.le_of_ble_eq_true rfl⟩ ⟨Nat.le_refl _, Nat.le_refl _⟩ (fun _ _ hw => ?_)
  refine z_if_eq dX7_stands_5 hw (fun hw => ?_) (fun hw => ?_)
  · refine z_iconst dX7_stands_12 zim1 ?_
    exact z_iret dX7_stands_13 (Nat.le_refl _) (Nat.le_refl _) rfl ⟨rfl, rfl, hw⟩
  · refine z_iload_n dX7_stands_8 rfl rfl ?_
    refine z_if_ge dX7_stands_9 hw (fun hw => ?_) (fun hw => ?_)
    · refine z_iload_n dX7_stands_14 rfl rfl ?_
      refine z_aload_n dX7_stands_15 rfl rfl ?_
      refine z_getr dX7_stands_16 fX7_47 zm0 zkX7_13 zrM13 ?_
      refine z_sipush dX7_stands_19 zsp141 ?_
      refine z_iload_n dX7_stands_22 rfl rfl ?_
      refine z_iadd dX7_stands_23 ?_
      refine z_iald dX7_stands_24 zm8 hw (fun hw => ?_)
      refine z_icmp_ge dX7_stands_25 hw (fun hw => ?_) (fun hw => ?_)
      · refine z_bipush dX7_stands_46 zbpm4 ?_
        exact z_iret dX7_stands_48 (Nat.le_refl _) (Nat.le_refl _) rfl ⟨rfl, rfl, hw⟩
      · refine z_aload_n dX7_stands_28 rfl rfl ?_
        refine z_getr dX7_stands_29 fX7_47 zm0 zkX7_13 zrM13 ?_
        refine z_sipush dX7_stands_32 zsp149 ?_
        refine z_bipush dX7_stands_35 zbp30 ?_
        refine z_iload_n dX7_stands_37 rfl rfl ?_
        refine z_imul dX7_stands_38 ?_
        refine z_iadd dX7_stands_39 ?_
        refine z_iload_n dX7_stands_40 rfl rfl ?_
        refine z_iadd dX7_stands_41 ?_
        refine z_iald dX7_stands_42 zm8 hw (fun hw => ?_)
        refine z_goto dX7_stands_43 ?_
        exact z_iret dX7_stands_48 (Nat.le_refl _) (Nat.le_refl _) rfl ⟨rfl, rfl, hw⟩
    · refine z_iconst dX7_stands_12 zim1 ?_
      exact z_iret dX7_stands_13 (Nat.le_refl _) (Nat.le_refl _) rfl ⟨rfl, rfl, hw⟩
def w_X7_dayBy_L83 (Q : Int32 → zS → Prop)  : Nat → Int32 → Int32 → zS → Prop
  | 0, _, _, _ => False
  | n + 1, x4, x5, σ => (((σ.1 0 5) ≤ x5 → Q x4 σ) ∧ (¬ ((σ.1 0 5) ≤ x5) → (w_X7_costOf x5 σ fun v1 t2 => (fun a4 a5 aσ => w_X7_dayBy_L83 Q  n a4 a5 aσ) ((x4 + v1)) ((x5 + (1 : Int32))) t2)))
def w_X7_dayBy_L49 (Q : Int32 → zS → Prop)  : Nat → Int32 → Int32 → zS → Prop
  | 0, _, _, _ => False
  | n + 1, x3, x4, σ => (((1000 : Int32) ≤ x4 → (zlet (zI σ 0 3 x3) fun t1 => (zlet (zI t1 0 4 (-1 : Int32)) fun t2 => ∃ m83, w_X7_dayBy_L83 Q  m83 ((0 : Int32)) ((0 : Int32)) t2))) ∧ (¬ ((1000 : Int32) ≤ x4) → (w_X7_passes  σ fun _ t3 => (fun a3 a4 aσ => w_X7_dayBy_L49 Q  n a3 a4 aσ) x3 ((x4 + (1 : Int32))) t3)))
def w_X7_dayBy_L2 (Q : Int32 → zS → Prop)  : Nat → Int32 → Int32 → Int32 → zS → Prop
  | 0, _, _, _, _ => False
  | n + 1, x1, x2, x3, σ => (((389 : Int32) ≤ x3 → (w_X7_begins  σ fun _ t1 => (zlet (zI t1 0 3 x1) fun t2 => (zlet (zI t2 0 4 x2) fun t3 => ∃ m49, w_X7_dayBy_L49 Q  m49 ((t1.1 0 3)) ((0 : Int32)) t3)))) ∧ (¬ ((389 : Int32) ≤ x3) → (vp_in x3 389 ∧ (vp_in x3 389 ∧ zlet (zA σ 9 x3.toNatClampNeg (σ.2 8 x3.toNatClampNeg)) fun t4 => (fun a1 a2 a3 aσ => w_X7_dayBy_L2 Q  n a1 a2 a3 aσ) x1 x2 ((x3 + (1 : Int32))) t4))))
def w_X7_dayBy  (x1 x2 : Int32) (σ : zS) (Q : Int32 → zS → Prop) : Prop := ∃ m2, w_X7_dayBy_L2 Q  m2 x1 x2 ((0 : Int32)) σ
set_option maxHeartbeats 4000000 in
set_option maxRecDepth 100000 in
theorem l_X7_dayBy_83  {Q : Int32 → zS → Prop}   : ∀ (n : Nat) (x4 x5 : Int32) (σ : zS), w_X7_dayBy_L83 Q  n x4 x5 σ → zAW RX7 cX7_dayBy 6 (some .int) false { frames := 5, cells := 0, slots := 0, locals := 116 } zΓM.length (zN zΓM zρM Q) 83 [(0, .ref 0), (4, .int x4), (5, .int x5)] [] zΓM zρM σ 0 0 := by
  intro n
  induction n with
  | zero => intro x4 x5 σ hw; exact hw.elim
  | succ n hK83 =>
    intro x4 x5 σ hw
    rw [w_X7_dayBy_L83] at hw
    refine z_iload dX7_dayBy_83 rfl ?_
    refine z_aload_n dX7_dayBy_85 rfl rfl ?_
    refine z_geti dX7_dayBy_86 fX7_69 zm0 zkX7_5 ?_
    refine z_icmp_ge dX7_dayBy_89 hw (fun hw => ?_) (fun hw => ?_)
    · refine z_iload dX7_dayBy_109 rfl ?_
      exact z_iret dX7_dayBy_111 (Nat.le_refl _) (Nat.le_refl _) rfl ⟨rfl, rfl, hw⟩
    · refine z_iload dX7_dayBy_92 rfl ?_
      refine z_aload_n dX7_dayBy_94 rfl rfl ?_
      refine z_iload dX7_dayBy_95 rfl ?_
      refine z_callV dX7_dayBy_97 mX7_146 (c_X7_costOf  hw) zm0 rfl rfl (Nat.le_of_ble_eq_true rfl) ⟨Nat.le_of_ble_eq_true rfl, Nat.le_of_ble_eq_true rfl⟩ ⟨Nat.le_refl _, Nat.le_refl _⟩ (fun _ _ hw => ?_)
      refine z_iadd dX7_dayBy_100 ?_
      refine z_istore dX7_dayBy_101 (Nat.le_of_ble_eq_true rfl) ?_
      refine z_iinc dX7_dayBy_103 rfl zi1 (Nat.le_of_ble_eq_true rfl) ?_
      refine z_goto dX7_dayBy_106 ?_
      exact z_to (hK83 _ _ _ hw) ⟨rfl, rfl, rfl, trivial⟩
set_option maxHeartbeats 4000000 in
set_option maxRecDepth 100000 in
theorem l_X7_dayBy_49  {Q : Int32 → zS → Prop}   : ∀ (n : Nat) (x3 x4 : Int32) (σ : zS), w_X7_dayBy_L49 Q  n x3 x4 σ → zAW RX7 cX7_dayBy 6 (some .int) false { frames := 5, cells := 0, slots := 0, locals := 116 } zΓM.length (zN zΓM zρM Q) 49 [(0, .ref 0), (3, .int x3), (4, .int x4)] [] zΓM zρM σ 0 0 := by
  intro n
  induction n with
  | zero => intro x3 x4 σ hw; exact hw.elim
  | succ n hK49 =>
    intro x3 x4 σ hw
    rw [w_X7_dayBy_L49] at hw
    refine z_iload dX7_dayBy_49 rfl ?_
    refine z_sipush dX7_dayBy_51 zsp1000 ?_
    refine z_icmp_ge dX7_dayBy_54 hw (fun hw => ?_) (fun hw => ?_)
    · refine z_aload_n dX7_dayBy_67 rfl rfl ?_
      refine z_iload_n dX7_dayBy_68 rfl rfl ?_
      refine z_putiL dX7_dayBy_69 fX7_19 zm0 zkX7_3 hw (fun hw => ?_)
      refine z_aload_n dX7_dayBy_72 rfl rfl ?_
      refine z_iconst dX7_dayBy_73 zim1 ?_
      refine z_putiL dX7_dayBy_74 fX7_22 zm0 zkX7_4 hw (fun hw => ?_)
      refine z_iconst dX7_dayBy_77 zi0 ?_
      refine z_istore dX7_dayBy_78 (Nat.le_of_ble_eq_true rfl) ?_
      refine z_iconst dX7_dayBy_80 zi0 ?_
      refine z_istore dX7_dayBy_81 (Nat.le_of_ble_eq_true rfl) ?_
      obtain ⟨n, hw⟩ := hw
      exact z_to (l_X7_dayBy_83   n _ _ _ hw) ⟨rfl, rfl, rfl, trivial⟩
    · refine z_aload_n dX7_dayBy_57 rfl rfl ?_
      refine z_callVv dX7_dayBy_58 mX7_134 (c_X7_passes  hw) zm0 rfl rfl (Nat.le_of_ble_eq_true rfl) ⟨Nat.le_of_ble_eq_true rfl, Nat.le_of_ble_eq_true rfl⟩ ⟨Nat.le_refl _, Nat.le_refl _⟩ (fun _ hw => ?_)
      refine z_iinc dX7_dayBy_61 rfl zi1 (Nat.le_of_ble_eq_true rfl) ?_
      refine z_goto dX7_dayBy_64 ?_
      exact z_to (hK49 _ _ _ hw) ⟨rfl, rfl, rfl, trivial⟩
set_option maxHeartbeats 4000000 in
set_option maxRecDepth 100000 in
theorem l_X7_dayBy_2  {Q : Int32 → zS → Prop}   : ∀ (n : Nat) (x1 x2 x3 : Int32) (σ : zS), w_X7_dayBy_L2 Q  n x1 x2 x3 σ → zAW RX7 cX7_dayBy 6 (some .int) false { frames := 5, cells := 0, slots := 0, locals := 116 } zΓM.length (zN zΓM zρM Q) 2 [(0, .ref 0), (1, .int x1), (2, .int x2), (3, .int x3)] [] zΓM zρM σ 0 0 := by
  intro n
  induction n with
  | zero => intro x1 x2 x3 σ hw; exact hw.elim
  | succ n hK2 =>
    intro x1 x2 x3 σ hw
    rw [w_X7_dayBy_L2] at hw
    refine z_iload_n dX7_dayBy_2 rfl rfl ?_
    refine z_sipush dX7_dayBy_3 zsp389 ?_
    refine z_icmp_ge dX7_dayBy_6 hw (fun hw => ?_) (fun hw => ?_)
    · refine z_aload_n dX7_dayBy_27 rfl rfl ?_
      refine z_callVv dX7_dayBy_28 mX7_62 (c_X7_begins  hw) zm0 rfl rfl (Nat.le_of_ble_eq_true rfl) ⟨Nat.le_of_ble_eq_true rfl, Nat.le_of_ble_eq_true rfl⟩ ⟨Nat.le_refl _, Nat.le_refl _⟩ (fun _ hw => ?_)
      refine z_aload_n dX7_dayBy_31 rfl rfl ?_
      refine z_geti dX7_dayBy_32 fX7_19 zm0 zkX7_3 ?_
      refine z_istore_n dX7_dayBy_35 rfl (Nat.le_of_ble_eq_true rfl) ?_
      refine z_aload_n dX7_dayBy_36 rfl rfl ?_
      refine z_iload_n dX7_dayBy_37 rfl rfl ?_
      refine z_putiL dX7_dayBy_38 fX7_19 zm0 zkX7_3 hw (fun hw => ?_)
      refine z_aload_n dX7_dayBy_41 rfl rfl ?_
      refine z_iload_n dX7_dayBy_42 rfl rfl ?_
      refine z_putiL dX7_dayBy_43 fX7_22 zm0 zkX7_4 hw (fun hw => ?_)
      refine z_iconst dX7_dayBy_46 zi0 ?_
      refine z_istore dX7_dayBy_47 (Nat.le_of_ble_eq_true rfl) ?_
      obtain ⟨n, hw⟩ := hw
      exact z_to (l_X7_dayBy_49   n _ _ _ hw) ⟨rfl, rfl, rfl, trivial⟩
    · refine z_aload_n dX7_dayBy_9 rfl rfl ?_
      refine z_getr dX7_dayBy_10 fX7_50 zm0 zkX7_14 zrM14 ?_
      refine z_iload_n dX7_dayBy_13 rfl rfl ?_
      refine z_aload_n dX7_dayBy_14 rfl rfl ?_
      refine z_getr dX7_dayBy_15 fX7_47 zm0 zkX7_13 zrM13 ?_
      refine z_iload_n dX7_dayBy_18 rfl rfl ?_
      refine z_iald dX7_dayBy_19 zm8 hw (fun hw => ?_)
      refine z_iastL dX7_dayBy_20 zm9 hw (fun hw => ?_)
      refine z_iinc dX7_dayBy_21 rfl zi1 (Nat.le_of_ble_eq_true rfl) ?_
      refine z_goto dX7_dayBy_24 ?_
      exact z_to (hK2 _ _ _ _ hw) ⟨rfl, rfl, rfl, rfl, trivial⟩
set_option maxHeartbeats 4000000 in
set_option maxRecDepth 100000 in
theorem c_X7_dayBy  {x1 x2 : Int32} {σ : zS} {Q : Int32 → zS → Prop} (hw : w_X7_dayBy x1 x2 σ Q) : zAC yX7_dayBy cX7_dayBy 6 (some .int) { frames := 5, cells := 0, slots := 0, locals := 116 } [.ref 0, .int x1, .int x2] zΓM zρM σ (zN zΓM zρM Q) := by
  refine z_entry (own := RX7) (ini := false) (plainFor_of_name pnX7) rfl (fun h => by cases h) (Nat.le_of_ble_eq_true rfl) ?_
  unfold w_X7_dayBy at hw
  refine z_iconst dX7_dayBy_0 zi0 ?_
  refine z_istore_n dX7_dayBy_1 rfl (Nat.le_of_ble_eq_true rfl) ?_
  obtain ⟨n, hw⟩ := hw
  exact z_to (l_X7_dayBy_2   n _ _ _ _ hw) ⟨rfl, rfl, rfl, rfl, trivial⟩
def w_X7_returns_L2 (Q : Int32 → zS → Prop)  : Nat → Int32 → zS → Prop
  | 0, _, _ => False
  | n + 1, x1, σ => (((389 : Int32) ≤ x1 → Q 0 σ) ∧ (¬ ((389 : Int32) ≤ x1) → (vp_in x1 389 ∧ (vp_in x1 389 ∧ zlet (zA σ 8 x1.toNatClampNeg (σ.2 9 x1.toNatClampNeg)) fun t1 => (fun a1 aσ => w_X7_returns_L2 Q  n a1 aσ) ((x1 + (1 : Int32))) t1))))
def w_X7_returns  (σ : zS) (Q : Int32 → zS → Prop) : Prop := ∃ m2, w_X7_returns_L2 Q  m2 ((0 : Int32)) σ
set_option maxHeartbeats 4000000 in
set_option maxRecDepth 100000 in
theorem l_X7_returns_2  {Q : Int32 → zS → Prop}   : ∀ (n : Nat) (x1 : Int32) (σ : zS), w_X7_returns_L2 Q  n x1 σ → zAW RX7 cX7_returns 2 none false { frames := 0, cells := 0, slots := 0, locals := 0 } zΓM.length (zN zΓM zρM Q) 2 [(0, .ref 0), (1, .int x1)] [] zΓM zρM σ 0 0 := by
  intro n
  induction n with
  | zero => intro x1 σ hw; exact hw.elim
  | succ n hK2 =>
    intro x1 σ hw
    rw [w_X7_returns_L2] at hw
    refine z_iload_n dX7_returns_2 rfl rfl ?_
    refine z_sipush dX7_returns_3 zsp389 ?_
    refine z_icmp_ge dX7_returns_6 hw (fun hw => ?_) (fun hw => ?_)
    · exact z_vret dX7_returns_27 (Nat.le_refl _) (Nat.le_refl _) rfl ⟨rfl, rfl, hw⟩
    · refine z_aload_n dX7_returns_9 rfl rfl ?_
      refine z_getr dX7_returns_10 fX7_47 zm0 zkX7_13 zrM13 ?_
      refine z_iload_n dX7_returns_13 rfl rfl ?_
      refine z_aload_n dX7_returns_14 rfl rfl ?_
      refine z_getr dX7_returns_15 fX7_50 zm0 zkX7_14 zrM14 ?_
      refine z_iload_n dX7_returns_18 rfl rfl ?_
      refine z_iald dX7_returns_19 zm9 hw (fun hw => ?_)
      refine z_iastL dX7_returns_20 zm8 hw (fun hw => ?_)
      refine z_iinc dX7_returns_21 rfl zi1 (Nat.le_of_ble_eq_true rfl) ?_
      refine z_goto dX7_returns_24 ?_
      exact z_to (hK2 _ _ hw) ⟨rfl, rfl, trivial⟩
set_option maxHeartbeats 4000000 in
set_option maxRecDepth 100000 in
theorem c_X7_returns  {σ : zS} {Q : Int32 → zS → Prop} (hw : w_X7_returns  σ Q) : zAC yX7_returns cX7_returns 2 none { frames := 0, cells := 0, slots := 0, locals := 0 } [.ref 0] zΓM zρM σ (zN zΓM zρM Q) := by
  refine z_entry (own := RX7) (ini := false) (plainFor_of_name pnX7) rfl (fun h => by cases h) (Nat.le_of_ble_eq_true rfl) ?_
  unfold w_X7_returns at hw
  refine z_iconst dX7_returns_0 zi0 ?_
  refine z_istore_n dX7_returns_1 rfl (Nat.le_of_ble_eq_true rfl) ?_
  obtain ⟨n, hw⟩ := hw
  exact z_to (l_X7_returns_2   n _ _ hw) ⟨rfl, rfl, trivial⟩
def w_X7_dayCost  (x1 x2 : Int32) (σ : zS) (Q : Int32 → zS → Prop) : Prop := (w_X7_dayBy x1 x2 σ fun v1 t2 => (w_X7_returns  t2 fun _ t3 => Q v1 t3))
set_option maxHeartbeats 4000000 in
set_option maxRecDepth 100000 in
theorem c_X7_dayCost  {x1 x2 : Int32} {σ : zS} {Q : Int32 → zS → Prop} (hw : w_X7_dayCost x1 x2 σ Q) : zAC yX7_dayCost cX7_dayCost 4 (some .int) { frames := 6, cells := 0, slots := 0, locals := 141 } [.ref 0, .int x1, .int x2] zΓM zρM σ (zN zΓM zρM Q) := by
  refine z_entry (own := RX7) (ini := false) (plainFor_of_name pnX7) rfl (fun h => by cases h) (Nat.le_of_ble_eq_true rfl) ?_
  unfold w_X7_dayCost at hw
  refine z_aload_n dX7_dayCost_0 rfl rfl ?_
  refine z_iload_n dX7_dayCost_1 rfl rfl ?_
  refine z_iload_n dX7_dayCost_2 rfl rfl ?_
  refine z_callV dX7_dayCost_3 mX7_149 (c_X7_dayBy  hw) zm0 rfl rfl (Nat.le_of_ble_eq_true rfl) ⟨Nat.le_of_ble_eq_true rfl, Nat.le_of_ble_eq_true rfl⟩ ⟨Nat.le_refl _, Nat.le_refl _⟩ (fun _ _ hw => ?_)
  refine z_istore_n dX7_dayCost_6 rfl (Nat.le_of_ble_eq_true rfl) ?_
  refine z_aload_n dX7_dayCost_7 rfl rfl ?_
  refine z_callVv dX7_dayCost_8 mX7_153 (c_X7_returns  hw) zm0 rfl rfl (Nat.le_of_ble_eq_true rfl) ⟨Nat.le_of_ble_eq_true rfl, Nat.le_of_ble_eq_true rfl⟩ ⟨Nat.le_refl _, Nat.le_refl _⟩ (fun _ hw => ?_)
  refine z_iload_n dX7_dayCost_11 rfl rfl ?_
  exact z_iret dX7_dayCost_12 (Nat.le_refl _) (Nat.le_refl _) rfl ⟨rfl, rfl, hw⟩
def w_X7_isSafe_J48 (Q : Int32 → zS → Prop) (K4 : Int32 → Int32 → Int32 → zS → Prop) (x1 x3 s0 : Int32) (σ : zS) : Prop := K4 x1 s0 ((x3 + (1 : Int32))) σ
def w_X7_isSafe_J47 (Q : Int32 → zS → Prop) (K4 : Int32 → Int32 → Int32 → zS → Prop) (x1 x3 : Int32) (σ : zS) : Prop := w_X7_isSafe_J48 Q K4 x1 x3 ((0 : Int32)) σ
def w_X7_isSafe_J43 (Q : Int32 → zS → Prop) (K4 : Int32 → Int32 → Int32 → zS → Prop) (x1 x3 : Int32) (σ : zS) : Prop := w_X7_isSafe_J48 Q K4 x1 x3 ((1 : Int32)) σ
def w_X7_isSafe_L4 (Q : Int32 → zS → Prop)  : Nat → Int32 → Int32 → Int32 → zS → Prop
  | 0, _, _, _, _ => False
  | n + 1, x1, x2, x3, σ => (((σ.1 0 5) ≤ x3 → ((x2 = 0 ∨ x2 = 1) ∧ Q x2 σ)) ∧ (¬ ((σ.1 0 5) ≤ x3) → ((x2 = 0 → w_X7_isSafe_J47 Q (fun a1 a2 a3 aσ => w_X7_isSafe_L4 Q  n a1 a2 a3 aσ) x1 x3  σ) ∧ (¬ (x2 = 0) → (w_X7_walks x3 σ fun v1 t2 => ((v1 = 0 → (vp_in x3 30 ∧ ((¬ x1 = 0) ∧ ((((((t2.1 0 2) + x1) - (1 : Int32)) / x1) < (t2.2 5 x3.toNatClampNeg) → w_X7_isSafe_J47 Q (fun a1 a2 a3 aσ => w_X7_isSafe_L4 Q  n a1 a2 a3 aσ) x1 x3  t2) ∧ (¬ (((((t2.1 0 2) + x1) - (1 : Int32)) / x1) < (t2.2 5 x3.toNatClampNeg)) → w_X7_isSafe_J43 Q (fun a1 a2 a3 aσ => w_X7_isSafe_L4 Q  n a1 a2 a3 aσ) x1 x3  t2))))) ∧ (¬ (v1 = 0) → w_X7_isSafe_J43 Q (fun a1 a2 a3 aσ => w_X7_isSafe_L4 Q  n a1 a2 a3 aσ) x1 x3  t2)))))))
def w_X7_isSafe  (x1 : Int32) (σ : zS) (Q : Int32 → zS → Prop) : Prop := ∃ m4, w_X7_isSafe_L4 Q  m4 x1 ((1 : Int32)) ((0 : Int32)) σ
set_option maxHeartbeats 4000000 in
set_option maxRecDepth 100000 in
theorem j_X7_isSafe_48  {Q : Int32 → zS → Prop} {K4 : Int32 → Int32 → Int32 → zS → Prop} (hK4 : ∀ (a1 a2 a3 : Int32) (σ : zS), K4 a1 a2 a3 σ → zAW RX7 cX7_isSafe 4 (some .boolean) false { frames := 2, cells := 0, slots := 0, locals := 42 } zΓM.length (zN zΓM zρM Q) 4 [(0, .ref 0), (1, .int a1), (2, .int a2), (3, .int a3)] [] zΓM zρM σ 0 0) {x1 x3 s0 : Int32} {σ : zS} (hw : w_X7_isSafe_J48 Q K4 x1 x3 s0 σ) : zAW RX7 cX7_isSafe 4 (some .boolean) false { frames := 2, cells := 0, slots := 0, locals := 42 } zΓM.length (zN zΓM zρM Q) 48 [(0, .ref 0), (1, .int x1), (3, .int x3)] [.int s0] zΓM zρM σ 0 0 := by
  unfold w_X7_isSafe_J48 at hw
  refine z_istore_n dX7_isSafe_48 rfl (Nat.le_of_ble_eq_true rfl) ?_
  refine z_iinc dX7_isSafe_49 rfl zi1 (Nat.le_of_ble_eq_true rfl) ?_
  refine z_goto dX7_isSafe_52 ?_
  exact z_to (hK4 _ _ _ _ hw) ⟨rfl, rfl, rfl, rfl, trivial⟩
set_option maxHeartbeats 4000000 in
set_option maxRecDepth 100000 in
theorem j_X7_isSafe_47  {Q : Int32 → zS → Prop} {K4 : Int32 → Int32 → Int32 → zS → Prop} (hK4 : ∀ (a1 a2 a3 : Int32) (σ : zS), K4 a1 a2 a3 σ → zAW RX7 cX7_isSafe 4 (some .boolean) false { frames := 2, cells := 0, slots := 0, locals := 42 } zΓM.length (zN zΓM zρM Q) 4 [(0, .ref 0), (1, .int a1), (2, .int a2), (3, .int a3)] [] zΓM zρM σ 0 0) {x1 x3 : Int32} {σ : zS} (hw : w_X7_isSafe_J47 Q K4 x1 x3 σ) : zAW RX7 cX7_isSafe 4 (some .boolean) false { frames := 2, cells := 0, slots := 0, locals := 42 } zΓM.length (zN zΓM zρM Q) 47 [(0, .ref 0), (1, .int x1), (3, .int x3)] [] zΓM zρM σ 0 0 := by
  unfold w_X7_isSafe_J47 at hw
  refine z_iconst dX7_isSafe_47 zi0 ?_
  exact z_to (j_X7_isSafe_48  hK4 hw) ⟨rfl, rfl, rfl, trivial⟩
set_option maxHeartbeats 4000000 in
set_option maxRecDepth 100000 in
theorem j_X7_isSafe_43  {Q : Int32 → zS → Prop} {K4 : Int32 → Int32 → Int32 → zS → Prop} (hK4 : ∀ (a1 a2 a3 : Int32) (σ : zS), K4 a1 a2 a3 σ → zAW RX7 cX7_isSafe 4 (some .boolean) false { frames := 2, cells := 0, slots := 0, locals := 42 } zΓM.length (zN zΓM zρM Q) 4 [(0, .ref 0), (1, .int a1), (2, .int a2), (3, .int a3)] [] zΓM zρM σ 0 0) {x1 x3 : Int32} {σ : zS} (hw : w_X7_isSafe_J43 Q K4 x1 x3 σ) : zAW RX7 cX7_isSafe 4 (some .boolean) false { frames := 2, cells := 0, slots := 0, locals := 42 } zΓM.length (zN zΓM zρM Q) 43 [(0, .ref 0), (1, .int x1), (3, .int x3)] [] zΓM zρM σ 0 0 := by
  unfold w_X7_isSafe_J43 at hw
  refine z_iconst dX7_isSafe_43 zi1 ?_
  refine z_goto dX7_isSafe_44 ?_
  exact z_to (j_X7_isSafe_48  hK4 hw) ⟨rfl, rfl, rfl, trivial⟩
set_option maxHeartbeats 4000000 in
set_option maxRecDepth 100000 in
theorem l_X7_isSafe_4  {Q : Int32 → zS → Prop}   : ∀ (n : Nat) (x1 x2 x3 : Int32) (σ : zS), w_X7_isSafe_L4 Q  n x1 x2 x3 σ → zAW RX7 cX7_isSafe 4 (some .boolean) false { frames := 2, cells := 0, slots := 0, locals := 42 } zΓM.length (zN zΓM zρM Q) 4 [(0, .ref 0), (1, .int x1), (2, .int x2), (3, .int x3)] [] zΓM zρM σ 0 0 := by
  intro n
  induction n with
  | zero => intro x1 x2 x3 σ hw; exact hw.elim
  | succ n hK4 =>
    intro x1 x2 x3 σ hw
    rw [w_X7_isSafe_L4] at hw
    refine z_iload_n dX7_isSafe_4 rfl rfl ?_
    refine z_aload_n dX7_isSafe_5 rfl rfl ?_
    refine z_geti dX7_isSafe_6 fX7_69 zm0 zkX7_5 ?_
    refine z_icmp_ge dX7_isSafe_9 hw (fun hw => ?_) (fun hw => ?_)
    · refine z_iload_n dX7_isSafe_55 rfl rfl ?_
      exact z_zret dX7_isSafe_56 (Nat.le_refl _) (Nat.le_refl _) rfl ⟨hw.1, ⟨rfl, rfl, hw.2⟩⟩
    · refine z_iload_n dX7_isSafe_12 rfl rfl ?_
      refine z_if_eq dX7_isSafe_13 hw (fun hw => ?_) (fun hw => ?_)
      · exact z_to (j_X7_isSafe_47  hK4 hw) ⟨rfl, rfl, rfl, trivial⟩
      · refine z_aload_n dX7_isSafe_16 rfl rfl ?_
        refine z_iload_n dX7_isSafe_17 rfl rfl ?_
        refine z_callV dX7_isSafe_18 mX7_103 (c_X7_walks  hw) zm0 rfl rfl (Nat.le_of_ble_eq_true rfl) ⟨Nat.le_of_ble_eq_true rfl, Nat.le_of_ble_eq_true rfl⟩ ⟨Nat.le_refl _, Nat.le_refl _⟩ (fun _ _ hw => ?_)
        refine z_if_ne dX7_isSafe_21 hw (fun hw => ?_) (fun hw => ?_)
        · exact z_to (j_X7_isSafe_43  hK4 hw) ⟨rfl, rfl, rfl, trivial⟩
        · refine z_aload_n dX7_isSafe_24 rfl rfl ?_
          refine z_getr dX7_isSafe_25 fX7_38 zm0 zkX7_10 zrM10 ?_
          refine z_iload_n dX7_isSafe_28 rfl rfl ?_
          refine z_iald dX7_isSafe_29 zm5 hw (fun hw => ?_)
          refine z_aload_n dX7_isSafe_30 rfl rfl ?_
          refine z_geti dX7_isSafe_31 fX7_16 zm0 zkX7_2 ?_
          refine z_iload_n dX7_isSafe_34 rfl rfl ?_
          refine z_iadd dX7_isSafe_35 ?_
          refine z_iconst dX7_isSafe_36 zi1 ?_
          refine z_isub dX7_isSafe_37 ?_
          refine z_iload_n dX7_isSafe_38 rfl rfl ?_
          refine z_idiv dX7_isSafe_39 hw (fun hw => ?_)
          refine z_icmp_gt dX7_isSafe_40 hw (fun hw => ?_) (fun hw => ?_)
          · exact z_to (j_X7_isSafe_47  hK4 hw) ⟨rfl, rfl, rfl, trivial⟩
          · exact z_to (j_X7_isSafe_43  hK4 hw) ⟨rfl, rfl, rfl, trivial⟩
set_option maxHeartbeats 4000000 in
set_option maxRecDepth 100000 in
theorem c_X7_isSafe  {x1 : Int32} {σ : zS} {Q : Int32 → zS → Prop} (hw : w_X7_isSafe x1 σ Q) : zAC yX7_isSafe cX7_isSafe 4 (some .boolean) { frames := 2, cells := 0, slots := 0, locals := 42 } [.ref 0, .int x1] zΓM zρM σ (zN zΓM zρM Q) := by
  refine z_entry (own := RX7) (ini := false) (plainFor_of_name pnX7) rfl (fun h => by cases h) (Nat.le_of_ble_eq_true rfl) ?_
  unfold w_X7_isSafe at hw
  refine z_iconst dX7_isSafe_0 zi1 ?_
  refine z_istore_n dX7_isSafe_1 rfl (Nat.le_of_ble_eq_true rfl) ?_
  refine z_iconst dX7_isSafe_2 zi0 ?_
  refine z_istore_n dX7_isSafe_3 rfl (Nat.le_of_ble_eq_true rfl) ?_
  obtain ⟨n, hw⟩ := hw
  exact z_to (l_X7_isSafe_4   n _ _ _ _ hw) ⟨rfl, rfl, rfl, rfl, trivial⟩
def w_X7_safe  (x1 : Int32) (σ : zS) (Q : Int32 → zS → Prop) : Prop := (w_X7_isSpeed x1 σ fun v1 t2 => ((v1 = 0 → Q (-1 : Int32) t2) ∧ (¬ (v1 = 0) → (w_X7_isSafe x1 t2 fun v3 t4 => ((v3 = 0 → Q (0 : Int32) t4) ∧ (¬ (v3 = 0) → Q (1 : Int32) t4))))))
set_option maxHeartbeats 4000000 in
set_option maxRecDepth 100000 in
theorem c_X7_safe  {x1 : Int32} {σ : zS} {Q : Int32 → zS → Prop} (hw : w_X7_safe x1 σ Q) : zAC yX7_safe cX7_safe 2 (some .int) { frames := 3, cells := 0, slots := 0, locals := 65 } [.ref 0, .int x1] zΓM zρM σ (zN zΓM zρM Q) := by
  refine z_entry (own := RX7) (ini := false) (plainFor_of_name pnX7) rfl (fun h => by cases h) (Nat.le_of_ble_eq_true rfl) ?_
  unfold w_X7_safe at hw
  refine z_aload_n dX7_safe_0 rfl rfl ?_
  refine z_iload_n dX7_safe_1 rfl rfl ?_
  refine z_callV dX7_safe_2 mX7_83 (c_X7_isSpeed  hw) zm0 rfl rfl (Nat.le_of_ble_eq_true rfl) ⟨Nat.le_of_ble_eq_true rfl, Nat.le_of_ble_eq_true rfl⟩ ⟨Nat.le_refl _, Nat.le_refl _⟩ (fun _ _ hw => ?_)
  refine z_if_ne dX7_safe_5 hw (fun hw => ?_) (fun hw => ?_)
  · refine z_aload_n dX7_safe_12 rfl rfl ?_
    refine z_iload_n dX7_safe_13 rfl rfl ?_
    refine z_callV dX7_safe_14 mX7_156 (c_X7_isSafe  hw) zm0 rfl rfl (Nat.le_of_ble_eq_true rfl) ⟨Nat.le_of_ble_eq_true rfl, Nat.le_of_ble_eq_true rfl⟩ ⟨Nat.le_refl _, Nat.le_refl _⟩ (fun _ _ hw => ?_)
    refine z_if_eq dX7_safe_17 hw (fun hw => ?_) (fun hw => ?_)
    · refine z_iconst dX7_safe_24 zi0 ?_
      exact z_iret dX7_safe_25 (Nat.le_refl _) (Nat.le_refl _) rfl ⟨rfl, rfl, hw⟩
    · refine z_iconst dX7_safe_20 zi1 ?_
      refine z_goto dX7_safe_21 ?_
      exact z_iret dX7_safe_25 (Nat.le_refl _) (Nat.le_refl _) rfl ⟨rfl, rfl, hw⟩
  · refine z_iconst dX7_safe_8 zim1 ?_
    refine z_goto dX7_safe_9 ?_
    exact z_iret dX7_safe_25 (Nat.le_refl _) (Nat.le_refl _) rfl ⟨rfl, rfl, hw⟩
def w_X7_cost_J18 (Q : Int32 → zS → Prop)  (σ : zS) : Prop := Q (-1 : Int32) σ
def w_X7_cost  (x1 x2 : Int32) (σ : zS) (Q : Int32 → zS → Prop) : Prop := (w_X7_isSpeed x1 σ fun v1 t2 => ((v1 = 0 → w_X7_cost_J18 Q    t2) ∧ (¬ (v1 = 0) → (w_X7_in x2 ((-1 : Int32)) ((7 : Int32)) t2 fun v3 t4 => ((v3 = 0 → w_X7_cost_J18 Q    t4) ∧ (¬ (v3 = 0) → (w_X7_dayCost x1 x2 t4 fun v5 t6 => Q v5 t6)))))))
set_option maxHeartbeats 4000000 in
set_option maxRecDepth 100000 in
theorem j_X7_cost_18  {Q : Int32 → zS → Prop}   {σ : zS} (hw : w_X7_cost_J18 Q   σ) : zAW RX7 cX7_cost 3 (some .int) false { frames := 7, cells := 0, slots := 0, locals := 164 } zΓM.length (zN zΓM zρM Q) 18 [] [] zΓM zρM σ 0 0 := by
  unfold w_X7_cost_J18 at hw
  refine z_iconst dX7_cost_18 zim1 ?_
  refine z_goto dX7_cost_19 ?_
  exact z_iret dX7_cost_28 (Nat.le_refl _) (Nat.le_refl _) rfl ⟨rfl, rfl, hw⟩
set_option maxHeartbeats 4000000 in
set_option maxRecDepth 100000 in
theorem c_X7_cost  {x1 x2 : Int32} {σ : zS} {Q : Int32 → zS → Prop} (hw : w_X7_cost x1 x2 σ Q) : zAC yX7_cost cX7_cost 3 (some .int) { frames := 7, cells := 0, slots := 0, locals := 164 } [.ref 0, .int x1, .int x2] zΓM zρM σ (zN zΓM zρM Q) := by
  refine z_entry (own := RX7) (ini := false) (plainFor_of_name pnX7) rfl (fun h => by cases h) (Nat.le_of_ble_eq_true rfl) ?_
  unfold w_X7_cost at hw
  refine z_aload_n dX7_cost_0 rfl rfl ?_
  refine z_iload_n dX7_cost_1 rfl rfl ?_
  refine z_callV dX7_cost_2 mX7_83 (c_X7_isSpeed  hw) zm0 rfl rfl (Nat.le_of_ble_eq_true rfl) ⟨Nat.le_of_ble_eq_true rfl, Nat.le_of_ble_eq_true rfl⟩ ⟨Nat.le_refl _, Nat.le_refl _⟩ (fun _ _ hw => ?_)
  refine z_if_eq dX7_cost_5 hw (fun hw => ?_) (fun hw => ?_)
  · exact z_to (j_X7_cost_18   hw) trivial
  · refine z_iload_n dX7_cost_8 rfl rfl ?_
    refine z_iconst dX7_cost_9 zim1 ?_
    refine z_bipush dX7_cost_10 zbp7 ?_
    refine z_callS dX7_cost_12 mX7_65 (c_X7_in  hw) rfl rfl (Nat.le_of_ble_eq_true rfl) ⟨Nat.le_of_ble_eq_true rfl, Nat.le_of_ble_eq_true rfl⟩ ⟨Nat.le_refl _, Nat.le_refl _⟩ (fun _ _ hw => ?_)
    refine z_if_ne dX7_cost_15 hw (fun hw => ?_) (fun hw => ?_)
    · refine z_aload_n dX7_cost_22 rfl rfl ?_
      refine z_iload_n dX7_cost_23 rfl rfl ?_
      refine z_iload_n dX7_cost_24 rfl rfl ?_
      refine z_callV dX7_cost_25 mX7_159 (c_X7_dayCost  hw) zm0 rfl rfl (Nat.le_of_ble_eq_true rfl) ⟨Nat.le_of_ble_eq_true rfl, Nat.le_of_ble_eq_true rfl⟩ ⟨Nat.le_refl _, Nat.le_refl _⟩ (fun _ _ hw => ?_)
      exact z_iret dX7_cost_28 (Nat.le_refl _) (Nat.le_refl _) rfl ⟨rfl, rfl, hw⟩
    · exact z_to (j_X7_cost_18   hw) trivial
def w_X7_bestSpeed_J46 (Q : Int32 → zS → Prop) (K7 : Int32 → Int32 → Int32 → zS → Prop) (x1 x2 x3 : Int32) (σ : zS) : Prop := K7 x1 x2 ((x3 + (1 : Int32))) σ
def w_X7_bestSpeed_J41 (Q : Int32 → zS → Prop) (K7 : Int32 → Int32 → Int32 → zS → Prop) (x3 x4 : Int32) (σ : zS) : Prop := w_X7_bestSpeed_J46 Q K7 x3 x4 x3  σ
def w_X7_bestSpeed_L7 (Q : Int32 → zS → Prop)  : Nat → Int32 → Int32 → Int32 → zS → Prop
  | 0, _, _, _, _ => False
  | n + 1, x1, x2, x3, σ => (w_X7_isSpeed x3 σ fun v1 t2 => ((v1 = 0 → Q x1 t2) ∧ (¬ (v1 = 0) → (w_X7_isSafe x3 t2 fun v3 t4 => ((v3 = 0 → w_X7_bestSpeed_J46 Q (fun a1 a2 a3 aσ => w_X7_bestSpeed_L7 Q  n a1 a2 a3 aσ) x1 x2 x3  t4) ∧ (¬ (v3 = 0) → (w_X7_dayCost x3 ((-1 : Int32)) t4 fun v5 t6 => ((x1 < 0 → w_X7_bestSpeed_J41 Q (fun a1 a2 a3 aσ => w_X7_bestSpeed_L7 Q  n a1 a2 a3 aσ) x3 v5  t6) ∧ (¬ (x1 < 0) → ((x2 ≤ v5 → w_X7_bestSpeed_J46 Q (fun a1 a2 a3 aσ => w_X7_bestSpeed_L7 Q  n a1 a2 a3 aσ) x1 x2 x3  t6) ∧ (¬ (x2 ≤ v5) → w_X7_bestSpeed_J41 Q (fun a1 a2 a3 aσ => w_X7_bestSpeed_L7 Q  n a1 a2 a3 aσ) x3 v5  t6)))))))))))
def w_X7_bestSpeed  (σ : zS) (Q : Int32 → zS → Prop) : Prop := ∃ m7, w_X7_bestSpeed_L7 Q  m7 ((-4 : Int32)) ((0 : Int32)) ((1 : Int32)) σ
set_option maxHeartbeats 4000000 in
set_option maxRecDepth 100000 in
theorem j_X7_bestSpeed_46  {Q : Int32 → zS → Prop} {K7 : Int32 → Int32 → Int32 → zS → Prop} (hK7 : ∀ (a1 a2 a3 : Int32) (σ : zS), K7 a1 a2 a3 σ → zAW RX7 cX7_bestSpeed 5 (some .int) false { frames := 7, cells := 0, slots := 0, locals := 164 } zΓM.length (zN zΓM zρM Q) 7 [(0, .ref 0), (1, .int a1), (2, .int a2), (3, .int a3)] [] zΓM zρM σ 0 0) {x1 x2 x3 : Int32} {σ : zS} (hw : w_X7_bestSpeed_J46 Q K7 x1 x2 x3 σ) : zAW RX7 cX7_bestSpeed 5 (some .int) false { frames := 7, cells := 0, slots := 0, locals := 164 } zΓM.length (zN zΓM zρM Q) 46 [(0, .ref 0), (1, .int x1), (2, .int x2), (3, .int x3)] [] zΓM zρM σ 0 0 := by
  unfold w_X7_bestSpeed_J46 at hw
  refine z_iinc dX7_bestSpeed_46 rfl zi1 (Nat.le_of_ble_eq_true rfl) ?_
  refine z_goto dX7_bestSpeed_49 ?_
  exact z_to (hK7 _ _ _ _ hw) ⟨rfl, rfl, rfl, rfl, trivial⟩
set_option maxHeartbeats 4000000 in
set_option maxRecDepth 100000 in
theorem j_X7_bestSpeed_41  {Q : Int32 → zS → Prop} {K7 : Int32 → Int32 → Int32 → zS → Prop} (hK7 : ∀ (a1 a2 a3 : Int32) (σ : zS), K7 a1 a2 a3 σ → zAW RX7 cX7_bestSpeed 5 (some .int) false { frames := 7, cells := 0, slots := 0, locals := 164 } zΓM.length (zN zΓM zρM Q) 7 [(0, .ref 0), (1, .int a1), (2, .int a2), (3, .int a3)] [] zΓM zρM σ 0 0) {x3 x4 : Int32} {σ : zS} (hw : w_X7_bestSpeed_J41 Q K7 x3 x4 σ) : zAW RX7 cX7_bestSpeed 5 (some .int) false { frames := 7, cells := 0, slots := 0, locals := 164 } zΓM.length (zN zΓM zρM Q) 41 [(0, .ref 0), (3, .int x3), (4, .int x4)] [] zΓM zρM σ 0 0 := by
  unfold w_X7_bestSpeed_J41 at hw
  refine z_iload_n dX7_bestSpeed_41 rfl rfl ?_
  refine z_istore_n dX7_bestSpeed_42 rfl (Nat.le_of_ble_eq_true rfl) ?_
  refine z_iload dX7_bestSpeed_43 rfl ?_
  refine z_istore_n dX7_bestSpeed_45 rfl (Nat.le_of_ble_eq_true rfl) ?_
  exact z_to (j_X7_bestSpeed_46  hK7 hw) ⟨rfl, rfl, rfl, rfl, trivial⟩
set_option maxHeartbeats 4000000 in
set_option maxRecDepth 100000 in
theorem l_X7_bestSpeed_7  {Q : Int32 → zS → Prop}   : ∀ (n : Nat) (x1 x2 x3 : Int32) (σ : zS), w_X7_bestSpeed_L7 Q  n x1 x2 x3 σ → zAW RX7 cX7_bestSpeed 5 (some .int) false { frames := 7, cells := 0, slots := 0, locals := 164 } zΓM.length (zN zΓM zρM Q) 7 [(0, .ref 0), (1, .int x1), (2, .int x2), (3, .int x3)] [] zΓM zρM σ 0 0 := by
  intro n
  induction n with
  | zero => intro x1 x2 x3 σ hw; exact hw.elim
  | succ n hK7 =>
    intro x1 x2 x3 σ hw
    rw [w_X7_bestSpeed_L7] at hw
    refine z_aload_n dX7_bestSpeed_7 rfl rfl ?_
    refine z_iload_n dX7_bestSpeed_8 rfl rfl ?_
    refine z_callV dX7_bestSpeed_9 mX7_83 (c_X7_isSpeed  hw) zm0 rfl rfl (Nat.le_of_ble_eq_true rfl) ⟨Nat.le_of_ble_eq_true rfl, Nat.le_of_ble_eq_true rfl⟩ ⟨Nat.le_refl _, Nat.le_refl _⟩ (fun _ _ hw => ?_)
    refine z_if_eq dX7_bestSpeed_12 hw (fun hw => ?_) (fun hw => ?_)
    · refine z_iload_n dX7_bestSpeed_52 rfl rfl ?_
      exact z_iret dX7_bestSpeed_53 (Nat.le_refl _) (Nat.le_refl _) rfl ⟨rfl, rfl, hw⟩
    · refine z_aload_n dX7_bestSpeed_15 rfl rfl ?_
      refine z_iload_n dX7_bestSpeed_16 rfl rfl ?_
      refine z_callV dX7_bestSpeed_17 mX7_156 (c_X7_isSafe  hw) zm0 rfl rfl (Nat.le_of_ble_eq_true rfl) ⟨Nat.le_of_ble_eq_true rfl, Nat.le_of_ble_eq_true rfl⟩ ⟨Nat.le_refl _, Nat.le_refl _⟩ (fun _ _ hw => ?_)
      refine z_if_eq dX7_bestSpeed_20 hw (fun hw => ?_) (fun hw => ?_)
      · exact z_to (j_X7_bestSpeed_46  hK7 hw) ⟨rfl, rfl, rfl, rfl, trivial⟩
      · refine z_aload_n dX7_bestSpeed_23 rfl rfl ?_
        refine z_iload_n dX7_bestSpeed_24 rfl rfl ?_
        refine z_iconst dX7_bestSpeed_25 zim1 ?_
        refine z_callV dX7_bestSpeed_26 mX7_159 (c_X7_dayCost  hw) zm0 rfl rfl (Nat.le_of_ble_eq_true rfl) ⟨Nat.le_of_ble_eq_true rfl, Nat.le_of_ble_eq_true rfl⟩ ⟨Nat.le_refl _, Nat.le_refl _⟩ (fun _ _ hw => ?_)
        refine z_istore dX7_bestSpeed_29 (Nat.le_of_ble_eq_true rfl) ?_
        refine z_iload_n dX7_bestSpeed_31 rfl rfl ?_
        refine z_if_lt dX7_bestSpeed_32 hw (fun hw => ?_) (fun hw => ?_)
        · exact z_to (j_X7_bestSpeed_41  hK7 hw) ⟨rfl, rfl, rfl, trivial⟩
        · refine z_iload dX7_bestSpeed_35 rfl ?_
          refine z_iload_n dX7_bestSpeed_37 rfl rfl ?_
          refine z_icmp_ge dX7_bestSpeed_38 hw (fun hw => ?_) (fun hw => ?_)
          · exact z_to (j_X7_bestSpeed_46  hK7 hw) ⟨rfl, rfl, rfl, rfl, trivial⟩
          · exact z_to (j_X7_bestSpeed_41  hK7 hw) ⟨rfl, rfl, rfl, trivial⟩
set_option maxHeartbeats 4000000 in
set_option maxRecDepth 100000 in
theorem c_X7_bestSpeed  {σ : zS} {Q : Int32 → zS → Prop} (hw : w_X7_bestSpeed  σ Q) : zAC yX7_bestSpeed cX7_bestSpeed 5 (some .int) { frames := 7, cells := 0, slots := 0, locals := 164 } [.ref 0] zΓM zρM σ (zN zΓM zρM Q) := by
  refine z_entry (own := RX7) (ini := false) (plainFor_of_name pnX7) rfl (fun h => by cases h) (Nat.le_of_ble_eq_true rfl) ?_
  unfold w_X7_bestSpeed at hw
  refine z_bipush dX7_bestSpeed_0 zbpm4 ?_
  refine z_istore_n dX7_bestSpeed_2 rfl (Nat.le_of_ble_eq_true rfl) ?_
  refine z_iconst dX7_bestSpeed_3 zi0 ?_
  refine z_istore_n dX7_bestSpeed_4 rfl (Nat.le_of_ble_eq_true rfl) ?_
  refine z_iconst dX7_bestSpeed_5 zi1 ?_
  refine z_istore_n dX7_bestSpeed_6 rfl (Nat.le_of_ble_eq_true rfl) ?_
  obtain ⟨n, hw⟩ := hw
  exact z_to (l_X7_bestSpeed_7   n _ _ _ _ hw) ⟨rfl, rfl, rfl, rfl, trivial⟩
def w_X7_bestStairs_J57 (Q : Int32 → zS → Prop) (K14 : Int32 → Int32 → Int32 → zS → Prop) (x1 x3 s0 : Int32) (σ : zS) : Prop := K14 x1 s0 ((x3 + (1 : Int32))) σ
def w_X7_bestStairs_J44 (Q : Int32 → zS → Prop) (K14 : Int32 → Int32 → Int32 → zS → Prop) (x2 x3 x4 s0 : Int32) (σ : zS) : Prop := ((x2 ≤ x4 → w_X7_bestStairs_J57 Q K14 s0 x3 x2 σ) ∧ (¬ (x2 ≤ x4) → w_X7_bestStairs_J57 Q K14 s0 x3 x4 σ))
def w_X7_bestStairs_L14 (Q : Int32 → zS → Prop)  : Nat → Int32 → Int32 → Int32 → zS → Prop
  | 0, _, _, _, _ => False
  | n + 1, x1, x2, x3, σ => (((σ.1 0 0) ≤ x3 → Q x1 σ) ∧ (¬ ((σ.1 0 0) ≤ x3) → (w_X7_dayCost ((σ.1 0 3)) x3 σ fun v1 t2 => ((x2 ≤ v1 → w_X7_bestStairs_J44 Q (fun a1 a2 a3 aσ => w_X7_bestStairs_L14 Q  n a1 a2 a3 aσ) x2 x3 v1 x1 t2) ∧ (¬ (x2 ≤ v1) → w_X7_bestStairs_J44 Q (fun a1 a2 a3 aσ => w_X7_bestStairs_L14 Q  n a1 a2 a3 aσ) x2 x3 v1 x3 t2)))))
def w_X7_bestStairs  (σ : zS) (Q : Int32 → zS → Prop) : Prop := (w_X7_dayCost ((σ.1 0 3)) ((0 : Int32)) σ fun v1 t2 => ∃ m14, w_X7_bestStairs_L14 Q  m14 ((0 : Int32)) v1 ((1 : Int32)) t2)
set_option maxHeartbeats 4000000 in
set_option maxRecDepth 100000 in
theorem j_X7_bestStairs_57  {Q : Int32 → zS → Prop} {K14 : Int32 → Int32 → Int32 → zS → Prop} (hK14 : ∀ (a1 a2 a3 : Int32) (σ : zS), K14 a1 a2 a3 σ → zAW RX7 cX7_bestStairs 5 (some .int) false { frames := 7, cells := 0, slots := 0, locals := 164 } zΓM.length (zN zΓM zρM Q) 14 [(0, .ref 0), (1, .int a1), (2, .int a2), (3, .int a3)] [] zΓM zρM σ 0 0) {x1 x3 s0 : Int32} {σ : zS} (hw : w_X7_bestStairs_J57 Q K14 x1 x3 s0 σ) : zAW RX7 cX7_bestStairs 5 (some .int) false { frames := 7, cells := 0, slots := 0, locals := 164 } zΓM.length (zN zΓM zρM Q) 57 [(0, .ref 0), (1, .int x1), (3, .int x3)] [.int s0] zΓM zρM σ 0 0 := by
  unfold w_X7_bestStairs_J57 at hw
  refine z_istore_n dX7_bestStairs_57 rfl (Nat.le_of_ble_eq_true rfl) ?_
  refine z_iinc dX7_bestStairs_58 rfl zi1 (Nat.le_of_ble_eq_true rfl) ?_
  refine z_goto dX7_bestStairs_61 ?_
  exact z_to (hK14 _ _ _ _ hw) ⟨rfl, rfl, rfl, rfl, trivial⟩
set_option maxHeartbeats 4000000 in
set_option maxRecDepth 100000 in
theorem j_X7_bestStairs_44  {Q : Int32 → zS → Prop} {K14 : Int32 → Int32 → Int32 → zS → Prop} (hK14 : ∀ (a1 a2 a3 : Int32) (σ : zS), K14 a1 a2 a3 σ → zAW RX7 cX7_bestStairs 5 (some .int) false { frames := 7, cells := 0, slots := 0, locals := 164 } zΓM.length (zN zΓM zρM Q) 14 [(0, .ref 0), (1, .int a1), (2, .int a2), (3, .int a3)] [] zΓM zρM σ 0 0) {x2 x3 x4 s0 : Int32} {σ : zS} (hw : w_X7_bestStairs_J44 Q K14 x2 x3 x4 s0 σ) : zAW RX7 cX7_bestStairs 5 (some .int) false { frames := 7, cells := 0, slots := 0, locals := 164 } zΓM.length (zN zΓM zρM Q) 44 [(0, .ref 0), (2, .int x2), (3, .int x3), (4, .int x4)] [.int s0] zΓM zρM σ 0 0 := by
  unfold w_X7_bestStairs_J44 at hw
  refine z_istore_n dX7_bestStairs_44 rfl (Nat.le_of_ble_eq_true rfl) ?_
  refine z_iload dX7_bestStairs_45 rfl ?_
  refine z_iload_n dX7_bestStairs_47 rfl rfl ?_
  refine z_icmp_ge dX7_bestStairs_48 hw (fun hw => ?_) (fun hw => ?_)
  · refine z_iload_n dX7_bestStairs_56 rfl rfl ?_
    exact z_to (j_X7_bestStairs_57  hK14 hw) ⟨rfl, rfl, rfl, trivial⟩
  · refine z_iload dX7_bestStairs_51 rfl ?_
    refine z_goto dX7_bestStairs_53 ?_
    exact z_to (j_X7_bestStairs_57  hK14 hw) ⟨rfl, rfl, rfl, trivial⟩
set_option maxHeartbeats 4000000 in
set_option maxRecDepth 100000 in
theorem l_X7_bestStairs_14  {Q : Int32 → zS → Prop}   : ∀ (n : Nat) (x1 x2 x3 : Int32) (σ : zS), w_X7_bestStairs_L14 Q  n x1 x2 x3 σ → zAW RX7 cX7_bestStairs 5 (some .int) false { frames := 7, cells := 0, slots := 0, locals := 164 } zΓM.length (zN zΓM zρM Q) 14 [(0, .ref 0), (1, .int x1), (2, .int x2), (3, .int x3)] [] zΓM zρM σ 0 0 := by
  intro n
  induction n with
  | zero => intro x1 x2 x3 σ hw; exact hw.elim
  | succ n hK14 =>
    intro x1 x2 x3 σ hw
    rw [w_X7_bestStairs_L14] at hw
    refine z_iload_n dX7_bestStairs_14 rfl rfl ?_
    refine z_aload_n dX7_bestStairs_15 rfl rfl ?_
    refine z_geti dX7_bestStairs_16 fX7_7 zm0 zkX7_0 ?_
    refine z_icmp_ge dX7_bestStairs_19 hw (fun hw => ?_) (fun hw => ?_)
    · refine z_iload_n dX7_bestStairs_64 rfl rfl ?_
      exact z_iret dX7_bestStairs_65 (Nat.le_refl _) (Nat.le_refl _) rfl ⟨rfl, rfl, hw⟩
    · refine z_aload_n dX7_bestStairs_22 rfl rfl ?_
      refine z_aload_n dX7_bestStairs_23 rfl rfl ?_
      refine z_geti dX7_bestStairs_24 fX7_19 zm0 zkX7_3 ?_
      refine z_iload_n dX7_bestStairs_27 rfl rfl ?_
      refine z_callV dX7_bestStairs_28 mX7_159 (c_X7_dayCost  hw) zm0 rfl rfl (Nat.le_of_ble_eq_true rfl) ⟨Nat.le_of_ble_eq_true rfl, Nat.le_of_ble_eq_true rfl⟩ ⟨Nat.le_refl _, Nat.le_refl _⟩ (fun _ _ hw => ?_)
      refine z_istore dX7_bestStairs_31 (Nat.le_of_ble_eq_true rfl) ?_
      refine z_iload dX7_bestStairs_33 rfl ?_
      refine z_iload_n dX7_bestStairs_35 rfl rfl ?_
      refine z_icmp_ge dX7_bestStairs_36 hw (fun hw => ?_) (fun hw => ?_)
      · refine z_iload_n dX7_bestStairs_43 rfl rfl ?_
        exact z_to (j_X7_bestStairs_44  hK14 hw) ⟨rfl, rfl, rfl, rfl, trivial⟩
      · refine z_iload_n dX7_bestStairs_39 rfl rfl ?_
        refine z_goto dX7_bestStairs_40 ?_
        exact z_to (j_X7_bestStairs_44  hK14 hw) ⟨rfl, rfl, rfl, rfl, trivial⟩
set_option maxHeartbeats 4000000 in
set_option maxRecDepth 100000 in
theorem c_X7_bestStairs  {σ : zS} {Q : Int32 → zS → Prop} (hw : w_X7_bestStairs  σ Q) : zAC yX7_bestStairs cX7_bestStairs 5 (some .int) { frames := 7, cells := 0, slots := 0, locals := 164 } [.ref 0] zΓM zρM σ (zN zΓM zρM Q) := by
  refine z_entry (own := RX7) (ini := false) (plainFor_of_name pnX7) rfl (fun h => by cases h) (Nat.le_of_ble_eq_true rfl) ?_
  unfold w_X7_bestStairs at hw
  refine z_iconst dX7_bestStairs_0 zi0 ?_
  refine z_istore_n dX7_bestStairs_1 rfl (Nat.le_of_ble_eq_true rfl) ?_
  refine z_aload_n dX7_bestStairs_2 rfl rfl ?_
  refine z_aload_n dX7_bestStairs_3 rfl rfl ?_
  refine z_geti dX7_bestStairs_4 fX7_19 zm0 zkX7_3 ?_
  refine z_iconst dX7_bestStairs_7 zi0 ?_
  refine z_callV dX7_bestStairs_8 mX7_159 (c_X7_dayCost  hw) zm0 rfl rfl (Nat.le_of_ble_eq_true rfl) ⟨Nat.le_of_ble_eq_true rfl, Nat.le_of_ble_eq_true rfl⟩ ⟨Nat.le_refl _, Nat.le_refl _⟩ (fun _ _ hw => ?_)
  refine z_istore_n dX7_bestStairs_11 rfl (Nat.le_of_ble_eq_true rfl) ?_
  refine z_iconst dX7_bestStairs_12 zi1 ?_
  refine z_istore_n dX7_bestStairs_13 rfl (Nat.le_of_ble_eq_true rfl) ?_
  obtain ⟨n, hw⟩ := hw
  exact z_to (l_X7_bestStairs_14   n _ _ _ _ hw) ⟨rfl, rfl, rfl, rfl, trivial⟩
def w_X7_day_J125 (Q : Int32 → zS → Prop) (K43 : Int32 → Int32 → Int32 → Int32 → Int32 → Int32 → Int32 → zS → Prop) (x1 x2 x3 x4 x5 x7 s0 : Int32) (σ : zS) : Prop := K43 x1 x2 x3 x4 x5 s0 ((x7 + (1 : Int32))) σ
def w_X7_day_J101 (Q : Int32 → zS → Prop) (K43 : Int32 → Int32 → Int32 → Int32 → Int32 → Int32 → Int32 → zS → Prop) (x1 x2 x3 x4 x6 x7 s0 : Int32) (σ : zS) : Prop := (w_X7_costOf x7 σ fun v1 t2 => ((v1 ≤ x6 → w_X7_day_J125 Q K43 x1 x2 x3 x4 s0 x7 x6 t2) ∧ (¬ (v1 ≤ x6) → (w_X7_costOf x7 t2 fun v3 t4 => w_X7_day_J125 Q K43 x1 x2 x3 x4 s0 x7 v3 t4))))
def w_X7_day_J68 (Q : Int32 → zS → Prop) (K43 : Int32 → Int32 → Int32 → Int32 → Int32 → Int32 → Int32 → zS → Prop) (x1 x3 x4 x5 x6 x7 s0 s1 : Int32) (σ : zS) : Prop := (vp_in (((95 : Int32) + x7)) 389 ∧ (w_X7_costOf x7 σ fun v1 t2 => ((v1 ≤ x6 → w_X7_day_J101 Q K43 x1 ((s1 + s0)) ((x3 + (σ.2 8 (((95 : Int32) + x7)).toNatClampNeg))) x4 x6 x7 x5 t2) ∧ (¬ (v1 ≤ x6) → w_X7_day_J101 Q K43 x1 ((s1 + s0)) ((x3 + (σ.2 8 (((95 : Int32) + x7)).toNatClampNeg))) x4 x6 x7 x7 t2))))
def w_X7_day_L43 (Q : Int32 → zS → Prop)  : Nat → Int32 → Int32 → Int32 → Int32 → Int32 → Int32 → Int32 → zS → Prop
  | 0, _, _, _, _, _, _, _, _ => False
  | n + 1, x1, x2, x3, x4, x5, x6, x7, σ => (((σ.1 0 5) ≤ x7 → (w_X7_returns  σ fun _ t1 => ((x1 = 0 → Q x2 t1) ∧ (¬ (x1 = 0) → ((x1 = (1 : Int32) → Q x3 t1) ∧ (¬ (x1 = (1 : Int32)) → ((x1 = (2 : Int32) → Q x4 t1) ∧ (¬ (x1 = (2 : Int32)) → Q x5 t1)))))))) ∧ (¬ ((σ.1 0 5) ≤ x7) → (w_X7_stateOf x7 σ fun v2 t3 => ((v2 = (4 : Int32) → w_X7_day_J68 Q (fun a1 a2 a3 a4 a5 a6 a7 aσ => w_X7_day_L43 Q  n a1 a2 a3 a4 a5 a6 a7 aσ) x1 x3 x4 x5 x6 x7 ((0 : Int32)) x2 t3) ∧ (¬ (v2 = (4 : Int32)) → w_X7_day_J68 Q (fun a1 a2 a3 a4 a5 a6 a7 aσ => w_X7_day_L43 Q  n a1 a2 a3 a4 a5 a6 a7 aσ) x1 x3 x4 x5 x6 x7 ((1 : Int32)) x2 t3)))))
def w_X7_day  (x1 : Int32) (σ : zS) (Q : Int32 → zS → Prop) : Prop := (w_X7_in x1 ((0 : Int32)) ((3 : Int32)) σ fun v1 t2 => ((v1 = 0 → Q (-1 : Int32) t2) ∧ (¬ (v1 = 0) → (w_X7_dayBy ((t2.1 0 3)) ((-1 : Int32)) t2 fun v3 t4 => (vp_in ((4 : Int32)) 389 ∧ ∃ m43, w_X7_day_L43 Q  m43 x1 ((0 : Int32)) ((0 : Int32)) ((t4.2 8 ((4 : Int32)).toNatClampNeg)) ((-4 : Int32)) ((-1 : Int32)) ((0 : Int32)) t4)))))
set_option maxHeartbeats 4000000 in
set_option maxRecDepth 100000 in
theorem j_X7_day_125  {Q : Int32 → zS → Prop} {K43 : Int32 → Int32 → Int32 → Int32 → Int32 → Int32 → Int32 → zS → Prop} (hK43 : ∀ (a1 a2 a3 a4 a5 a6 a7 : Int32) (σ : zS), K43 a1 a2 a3 a4 a5 a6 a7 σ → zAW RX7 cX7_day 8 (some .int) false { frames := 6, cells := 0, slots := 0, locals := 141 } zΓM.length (zN zΓM zρM Q) 43 [(0, .ref 0), (1, .int a1), (2, .int a2), (3, .int a3), (4, .int a4), (5, .int a5), (6, .int a6), (7, .int a7)] [] zΓM zρM σ 0 0) {x1 x2 x3 x4 x5 x7 s0 : Int32} {σ : zS} (hw : w_X7_day_J125 Q K43 x1 x2 x3 x4 x5 x7 s0 σ) : zAW RX7 cX7_day 8 (some .int) false { frames := 6, cells := 0, slots := 0, locals := 141 } zΓM.length (zN zΓM zρM Q) 125 [(0, .ref 0), (1, .int x1), (2, .int x2), (3, .int x3), (4, .int x4), (5, .int x5), (7, .int x7)] [.int s0] zΓM zρM σ 0 0 := by
  unfold w_X7_day_J125 at hw
  refine z_istore dX7_day_125 (Nat.le_of_ble_eq_true rfl) ?_
  refine z_iinc dX7_day_127 rfl zi1 (Nat.le_of_ble_eq_true rfl) ?_
  refine z_goto dX7_day_130 ?_
  exact z_to (hK43 _ _ _ _ _ _ _ _ hw) ⟨rfl, rfl, rfl, rfl, rfl, rfl, rfl, rfl, trivial⟩
set_option maxHeartbeats 4000000 in
set_option maxRecDepth 100000 in
theorem j_X7_day_101  {Q : Int32 → zS → Prop} {K43 : Int32 → Int32 → Int32 → Int32 → Int32 → Int32 → Int32 → zS → Prop} (hK43 : ∀ (a1 a2 a3 a4 a5 a6 a7 : Int32) (σ : zS), K43 a1 a2 a3 a4 a5 a6 a7 σ → zAW RX7 cX7_day 8 (some .int) false { frames := 6, cells := 0, slots := 0, locals := 141 } zΓM.length (zN zΓM zρM Q) 43 [(0, .ref 0), (1, .int a1), (2, .int a2), (3, .int a3), (4, .int a4), (5, .int a5), (6, .int a6), (7, .int a7)] [] zΓM zρM σ 0 0) {x1 x2 x3 x4 x6 x7 s0 : Int32} {σ : zS} (hw : w_X7_day_J101 Q K43 x1 x2 x3 x4 x6 x7 s0 σ) : zAW RX7 cX7_day 8 (some .int) false { frames := 6, cells := 0, slots := 0, locals := 141 } zΓM.length (zN zΓM zρM Q) 101 [(0, .ref 0), (1, .int x1), (2, .int x2), (3, .int x3), (4, .int x4), (6, .int x6), (7, .int x7)] [.int s0] zΓM zρM σ 0 0 := by
  unfold w_X7_day_J101 at hw
  refine z_istore dX7_day_101 (Nat.le_of_ble_eq_true rfl) ?_
  refine z_aload_n dX7_day_103 rfl rfl ?_
  refine z_iload dX7_day_104 rfl ?_
  refine z_callV dX7_day_106 mX7_146 (c_X7_costOf  hw) zm0 rfl rfl (Nat.le_of_ble_eq_true rfl) ⟨Nat.le_of_ble_eq_true rfl, Nat.le_of_ble_eq_true rfl⟩ ⟨Nat.le_refl _, Nat.le_refl _⟩ (fun _ _ hw => ?_)
  refine z_iload dX7_day_109 rfl ?_
  refine z_icmp_le dX7_day_111 hw (fun hw => ?_) (fun hw => ?_)
  · refine z_iload dX7_day_123 rfl ?_
    exact z_to (j_X7_day_125  hK43 hw) ⟨rfl, rfl, rfl, rfl, rfl, rfl, rfl, trivial⟩
  · refine z_aload_n dX7_day_114 rfl rfl ?_
    refine z_iload dX7_day_115 rfl ?_
    refine z_callV dX7_day_117 mX7_146 (c_X7_costOf  hw) zm0 rfl rfl (Nat.le_of_ble_eq_true rfl) ⟨Nat.le_of_ble_eq_true rfl, Nat.le_of_ble_eq_true rfl⟩ ⟨Nat.le_refl _, Nat.le_refl _⟩ (fun _ _ hw => ?_)
    refine z_goto dX7_day_120 ?_
    exact z_to (j_X7_day_125  hK43 hw) ⟨rfl, rfl, rfl, rfl, rfl, rfl, rfl, trivial⟩
set_option maxHeartbeats 4000000 in
set_option maxRecDepth 100000 in
theorem j_X7_day_68  {Q : Int32 → zS → Prop} {K43 : Int32 → Int32 → Int32 → Int32 → Int32 → Int32 → Int32 → zS → Prop} (hK43 : ∀ (a1 a2 a3 a4 a5 a6 a7 : Int32) (σ : zS), K43 a1 a2 a3 a4 a5 a6 a7 σ → zAW RX7 cX7_day 8 (some .int) false { frames := 6, cells := 0, slots := 0, locals := 141 } zΓM.length (zN zΓM zρM Q) 43 [(0, .ref 0), (1, .int a1), (2, .int a2), (3, .int a3), (4, .int a4), (5, .int a5), (6, .int a6), (7, .int a7)] [] zΓM zρM σ 0 0) {x1 x3 x4 x5 x6 x7 s0 s1 : Int32} {σ : zS} (hw : w_X7_day_J68 Q K43 x1 x3 x4 x5 x6 x7 s0 s1 σ) : zAW RX7 cX7_day 8 (some .int) false { frames := 6, cells := 0, slots := 0, locals := 141 } zΓM.length (zN zΓM zρM Q) 68 [(0, .ref 0), (1, .int x1), (3, .int x3), (4, .int x4), (5, .int x5), (6, .int x6), (7, .int x7)] [.int s0, .int s1] zΓM zρM σ 0 0 := by
  unfold w_X7_day_J68 at hw
  refine z_iadd dX7_day_68 ?_
  refine z_istore_n dX7_day_69 rfl (Nat.le_of_ble_eq_true rfl) ?_
  refine z_iload_n dX7_day_70 rfl rfl ?_
  refine z_aload_n dX7_day_71 rfl rfl ?_
  refine z_getr dX7_day_72 fX7_47 zm0 zkX7_13 zrM13 ?_
  refine z_bipush dX7_day_75 zbp95 ?_
  refine z_iload dX7_day_77 rfl ?_
  refine z_iadd dX7_day_79 ?_
  refine z_iald dX7_day_80 zm8 hw (fun hw => ?_)
  refine z_iadd dX7_day_81 ?_
  refine z_istore_n dX7_day_82 rfl (Nat.le_of_ble_eq_true rfl) ?_
  refine z_aload_n dX7_day_83 rfl rfl ?_
  refine z_iload dX7_day_84 rfl ?_
  refine z_callV dX7_day_86 mX7_146 (c_X7_costOf  hw) zm0 rfl rfl (Nat.le_of_ble_eq_true rfl) ⟨Nat.le_of_ble_eq_true rfl, Nat.le_of_ble_eq_true rfl⟩ ⟨Nat.le_refl _, Nat.le_refl _⟩ (fun _ _ hw => ?_)
  refine z_iload dX7_day_89 rfl ?_
  refine z_icmp_le dX7_day_91 hw (fun hw => ?_) (fun hw => ?_)
  · refine z_iload dX7_day_99 rfl ?_
    exact z_to (j_X7_day_101  hK43 hw) ⟨rfl, rfl, rfl, rfl, rfl, rfl, rfl, trivial⟩
  · refine z_iload dX7_day_94 rfl ?_
    refine z_goto dX7_day_96 ?_
    exact z_to (j_X7_day_101  hK43 hw) ⟨rfl, rfl, rfl, rfl, rfl, rfl, rfl, trivial⟩
set_option maxHeartbeats 4000000 in
set_option maxRecDepth 100000 in
theorem l_X7_day_43  {Q : Int32 → zS → Prop}   : ∀ (n : Nat) (x1 x2 x3 x4 x5 x6 x7 : Int32) (σ : zS), w_X7_day_L43 Q  n x1 x2 x3 x4 x5 x6 x7 σ → zAW RX7 cX7_day 8 (some .int) false { frames := 6, cells := 0, slots := 0, locals := 141 } zΓM.length (zN zΓM zρM Q) 43 [(0, .ref 0), (1, .int x1), (2, .int x2), (3, .int x3), (4, .int x4), (5, .int x5), (6, .int x6), (7, .int x7)] [] zΓM zρM σ 0 0 := by
  intro n
  induction n with
  | zero => intro x1 x2 x3 x4 x5 x6 x7 σ hw; exact hw.elim
  | succ n hK43 =>
    intro x1 x2 x3 x4 x5 x6 x7 σ hw
    rw [w_X7_day_L43] at hw
    refine z_iload dX7_day_43 rfl ?_
    refine z_aload_n dX7_day_45 rfl rfl ?_
    refine z_geti dX7_day_46 fX7_69 zm0 zkX7_5 ?_
    refine z_icmp_ge dX7_day_49 hw (fun hw => ?_) (fun hw => ?_)
    · refine z_aload_n dX7_day_133 rfl rfl ?_
      refine z_callVv dX7_day_134 mX7_153 (c_X7_returns  hw) zm0 rfl rfl (Nat.le_of_ble_eq_true rfl) ⟨Nat.le_of_ble_eq_true rfl, Nat.le_of_ble_eq_true rfl⟩ ⟨Nat.le_refl _, Nat.le_refl _⟩ (fun _ hw => ?_)
      refine z_iload_n dX7_day_137 rfl rfl ?_
      refine z_if_ne dX7_day_138 hw (fun hw => ?_) (fun hw => ?_)
      · refine z_iload_n dX7_day_145 rfl rfl ?_
        refine z_iconst dX7_day_146 zi1 ?_
        refine z_icmp_ne dX7_day_147 hw (fun hw => ?_) (fun hw => ?_)
        · refine z_iload_n dX7_day_154 rfl rfl ?_
          refine z_iconst dX7_day_155 zi2 ?_
          refine z_icmp_ne dX7_day_156 hw (fun hw => ?_) (fun hw => ?_)
          · refine z_iload dX7_day_164 rfl ?_
            exact z_iret dX7_day_166 (Nat.le_refl _) (Nat.le_refl _) rfl ⟨rfl, rfl, hw⟩
          · refine z_iload dX7_day_159 rfl ?_
            refine z_goto dX7_day_161 ?_
            exact z_iret dX7_day_166 (Nat.le_refl _) (Nat.le_refl _) rfl ⟨rfl, rfl, hw⟩
        · refine z_iload_n dX7_day_150 rfl rfl ?_
          refine z_goto dX7_day_151 ?_
          exact z_iret dX7_day_166 (Nat.le_refl _) (Nat.le_refl _) rfl ⟨rfl, rfl, hw⟩
      · refine z_iload_n dX7_day_141 rfl rfl ?_
        refine z_goto dX7_day_142 ?_
        exact z_iret dX7_day_166 (Nat.le_refl _) (Nat.le_refl _) rfl ⟨rfl, rfl, hw⟩
    · refine z_iload_n dX7_day_52 rfl rfl ?_
      refine z_aload_n dX7_day_53 rfl rfl ?_
      refine z_iload dX7_day_54 rfl ?_
      refine z_callV dX7_day_56 mX7_140 (c_X7_stateOf  hw) zm0 rfl rfl (Nat.le_of_ble_eq_true rfl) ⟨Nat.le_of_ble_eq_true rfl, Nat.le_of_ble_eq_true rfl⟩ ⟨Nat.le_refl _, Nat.le_refl _⟩ (fun _ _ hw => ?_)
      refine z_iconst dX7_day_59 zi4 ?_
      refine z_icmp_ne dX7_day_60 hw (fun hw => ?_) (fun hw => ?_)
      · refine z_iconst dX7_day_67 zi1 ?_
        exact z_to (j_X7_day_68  hK43 hw) ⟨rfl, rfl, rfl, rfl, rfl, rfl, rfl, trivial⟩
      · refine z_iconst dX7_day_63 zi0 ?_
        refine z_goto dX7_day_64 ?_
        exact z_to (j_X7_day_68  hK43 hw) ⟨rfl, rfl, rfl, rfl, rfl, rfl, rfl, trivial⟩
set_option maxHeartbeats 4000000 in
set_option maxRecDepth 100000 in
theorem c_X7_day  {x1 : Int32} {σ : zS} {Q : Int32 → zS → Prop} (hw : w_X7_day x1 σ Q) : zAC yX7_day cX7_day 8 (some .int) { frames := 6, cells := 0, slots := 0, locals := 141 } [.ref 0, .int x1] zΓM zρM σ (zN zΓM zρM Q) := by
  refine z_entry (own := RX7) (ini := false) (plainFor_of_name pnX7) rfl (fun h => by cases h) (Nat.le_of_ble_eq_true rfl) ?_
  unfold w_X7_day at hw
  refine z_iload_n dX7_day_0 rfl rfl ?_
  refine z_iconst dX7_day_1 zi0 ?_
  refine z_iconst dX7_day_2 zi3 ?_
  refine z_callS dX7_day_3 mX7_65 (c_X7_in  hw) rfl rfl (Nat.le_of_ble_eq_true rfl) ⟨Nat.le_of_ble_eq_true rfl, Nat.le_of_ble_eq_true rfl⟩ ⟨Nat.le_refl _, Nat.le_refl _⟩ (fun _ _ hw => ?_)
  refine z_if_ne dX7_day_6 hw (fun hw => ?_) (fun hw => ?_)
  · refine z_aload_n dX7_day_11 rfl rfl ?_
    refine z_aload_n dX7_day_12 rfl rfl ?_
    refine z_geti dX7_day_13 fX7_19 zm0 zkX7_3 ?_
    refine z_iconst dX7_day_16 zim1 ?_
    refine z_callV dX7_day_17 mX7_149 (c_X7_dayBy  hw) zm0 rfl rfl (Nat.le_of_ble_eq_true rfl) ⟨Nat.le_of_ble_eq_true rfl, Nat.le_of_ble_eq_true rfl⟩ ⟨Nat.le_refl _, Nat.le_refl _⟩ (fun _ _ hw => ?_)
    refine z_pop dX7_day_20 rfl ?_
    refine z_iconst dX7_day_21 zi0 ?_
    refine z_istore_n dX7_day_22 rfl (Nat.le_of_ble_eq_true rfl) ?_
    refine z_iconst dX7_day_23 zi0 ?_
    refine z_istore_n dX7_day_24 rfl (Nat.le_of_ble_eq_true rfl) ?_
    refine z_aload_n dX7_day_25 rfl rfl ?_
    refine z_getr dX7_day_26 fX7_47 zm0 zkX7_13 zrM13 ?_
    refine z_iconst dX7_day_29 zi4 ?_
    refine z_iald dX7_day_30 zm8 hw (fun hw => ?_)
    refine z_istore dX7_day_31 (Nat.le_of_ble_eq_true rfl) ?_
    refine z_bipush dX7_day_33 zbpm4 ?_
    refine z_istore dX7_day_35 (Nat.le_of_ble_eq_true rfl) ?_
    refine z_iconst dX7_day_37 zim1 ?_
    refine z_istore dX7_day_38 (Nat.le_of_ble_eq_true rfl) ?_
    refine z_iconst dX7_day_40 zi0 ?_
    refine z_istore dX7_day_41 (Nat.le_of_ble_eq_true rfl) ?_
    obtain ⟨n, hw⟩ := hw
    exact z_to (l_X7_day_43   n _ _ _ _ _ _ _ _ hw) ⟨rfl, rfl, rfl, rfl, rfl, rfl, rfl, rfl, trivial⟩
  · refine z_iconst dX7_day_9 zim1 ?_
    exact z_iret dX7_day_10 (Nat.le_refl _) (Nat.le_refl _) rfl ⟨rfl, rfl, hw⟩
def w_X7_opens_J35 (Q : Int32 → zS → Prop)  (s0 : Int32) (σ : zS) : Prop := ((¬ (σ.1 0 1) = 0) ∧ (w_X7_isAside ((s0 / (σ.1 0 1))) σ fun v1 t2 => ((v1 = 0 → ((¬ (t2.1 0 1) = 0) ∧ (((t2.1 0 2) ≤ (s0 - s0 / (t2.1 0 1) * (t2.1 0 1)) → (((0 : Int32) = 0 ∨ (0 : Int32) = 1) ∧ Q (0 : Int32) t2)) ∧ (¬ ((t2.1 0 2) ≤ (s0 - s0 / (t2.1 0 1) * (t2.1 0 1))) → (vp_in ((3 : Int32)) 389 ∧ (w_X7_floorOf ((s0 / (σ.1 0 1))) t2 fun v3 t4 => (((((t2.2 8 ((3 : Int32)).toNatClampNeg) >>> (v3 &&& 31)) &&& (1 : Int32)) = 0 → (((1 : Int32) = 0 ∨ (1 : Int32) = 1) ∧ Q (1 : Int32) t4)) ∧ (¬ ((((t2.2 8 ((3 : Int32)).toNatClampNeg) >>> (v3 &&& 31)) &&& (1 : Int32)) = 0) → (((0 : Int32) = 0 ∨ (0 : Int32) = 1) ∧ Q (0 : Int32) t4))))))))) ∧ (¬ (v1 = 0) → (((0 : Int32) = 0 ∨ (0 : Int32) = 1) ∧ Q (0 : Int32) t2)))))
def w_X7_opens  (x1 x2 : Int32) (σ : zS) (Q : Int32 → zS → Prop) : Prop := (w_X7_boxes  σ fun v1 t2 => (w_X7_placeOf x1 t2 fun v3 t4 => ((¬ (v1 * (t2.1 0 1)) = 0) ∧ ((0 ≤ ((v3 + x2) - (v3 + x2) / (v1 * (t2.1 0 1)) * (v1 * (t2.1 0 1))) → w_X7_opens_J35 Q   (((v3 + x2) - (v3 + x2) / (v1 * (t2.1 0 1)) * (v1 * (t2.1 0 1)))) t4) ∧ (¬ (0 ≤ ((v3 + x2) - (v3 + x2) / (v1 * (t2.1 0 1)) * (v1 * (t2.1 0 1)))) → w_X7_opens_J35 Q   ((((v3 + x2) - (v3 + x2) / (v1 * (t2.1 0 1)) * (v1 * (t2.1 0 1))) + (v1 * (t2.1 0 1)))) t4)))))
set_option maxHeartbeats 4000000 in
set_option maxRecDepth 100000 in
theorem j_X7_opens_35  {Q : Int32 → zS → Prop}   {s0 : Int32} {σ : zS} (hw : w_X7_opens_J35 Q  s0 σ) : zAW RX7 cX7_opens 6 (some .boolean) false { frames := 2, cells := 0, slots := 0, locals := 41 } zΓM.length (zN zΓM zρM Q) 35 [(0, .ref 0)] [.int s0] zΓM zρM σ 0 0 := by
  unfold w_X7_opens_J35 at hw
  refine z_istore dX7_opens_35 (Nat.le_of_ble_eq_true rfl) ?_
  refine z_iload dX7_opens_37 rfl ?_
  refine z_aload_n dX7_opens_39 rfl rfl ?_
  refine z_geti dX7_opens_40 fX7_13 zm0 zkX7_1 ?_
  refine z_idiv dX7_opens_43 hw (fun hw => ?_)
  refine z_istore dX7_opens_44 (Nat.le_of_ble_eq_true rfl) ?_
  refine z_aload_n dX7_opens_46 rfl rfl ?_
  refine z_iload dX7_opens_47 rfl ?_
  refine z_callV dX7_opens_49 mX7_94 (c_X7_isAside  hw) zm0 rfl rfl (Nat.le_of_ble_eq_true rfl) ⟨Nat.le_of_ble_eq_true rfl, Nat.le_of_ble_eq_true rfl⟩ ⟨Nat.le_refl _, Nat.le_refl _⟩ (fun _ _ hw => ?_)
  refine z_if_ne dX7_opens_52 hw (fun hw => ?_) (fun hw => ?_)
  · refine z_iconst dX7_opens_91 zi0 ?_
    exact z_zret dX7_opens_92 (Nat.le_refl _) (Nat.le_refl _) rfl ⟨hw.1, ⟨rfl, rfl, hw.2⟩⟩
  · refine z_iload dX7_opens_55 rfl ?_
    refine z_aload_n dX7_opens_57 rfl rfl ?_
    refine z_geti dX7_opens_58 fX7_13 zm0 zkX7_1 ?_
    refine z_irem dX7_opens_61 hw (fun hw => ?_)
    refine z_aload_n dX7_opens_62 rfl rfl ?_
    refine z_geti dX7_opens_63 fX7_16 zm0 zkX7_2 ?_
    refine z_icmp_ge dX7_opens_66 hw (fun hw => ?_) (fun hw => ?_)
    · refine z_iconst dX7_opens_91 zi0 ?_
      exact z_zret dX7_opens_92 (Nat.le_refl _) (Nat.le_refl _) rfl ⟨hw.1, ⟨rfl, rfl, hw.2⟩⟩
    · refine z_aload_n dX7_opens_69 rfl rfl ?_
      refine z_getr dX7_opens_70 fX7_47 zm0 zkX7_13 zrM13 ?_
      refine z_iconst dX7_opens_73 zi3 ?_
      refine z_iald dX7_opens_74 zm8 hw (fun hw => ?_)
      refine z_aload_n dX7_opens_75 rfl rfl ?_
      refine z_iload dX7_opens_76 rfl ?_
      refine z_callV dX7_opens_78 mX7_110 (c_X7_floorOf  hw) zm0 rfl rfl (Nat.le_of_ble_eq_true rfl) ⟨Nat.le_of_ble_eq_true rfl, Nat.le_of_ble_eq_true rfl⟩ ⟨Nat.le_refl _, Nat.le_refl _⟩ (fun _ _ hw => ?_)
      refine z_ishr dX7_opens_81 ?_
      refine z_iconst dX7_opens_82 zi1 ?_
      refine z_iand dX7_opens_83 ?_
      refine z_if_ne dX7_opens_84 hw (fun hw => ?_) (fun hw => ?_)
      · refine z_iconst dX7_opens_91 zi0 ?_
        exact z_zret dX7_opens_92 (Nat.le_refl _) (Nat.le_refl _) rfl ⟨hw.1, ⟨rfl, rfl, hw.2⟩⟩
      · refine z_iconst dX7_opens_87 zi1 ?_
        refine z_goto dX7_opens_88 ?_
        exact z_zret dX7_opens_92 (Nat.le_refl _) (Nat.le_refl _) rfl ⟨hw.1, ⟨rfl, rfl, hw.2⟩⟩
set_option maxHeartbeats 4000000 in
set_option maxRecDepth 100000 in
theorem c_X7_opens  {x1 x2 : Int32} {σ : zS} {Q : Int32 → zS → Prop} (hw : w_X7_opens x1 x2 σ Q) : zAC yX7_opens cX7_opens 6 (some .boolean) { frames := 2, cells := 0, slots := 0, locals := 41 } [.ref 0, .int x1, .int x2] zΓM zρM σ (zN zΓM zρM Q) := by
  refine z_entry (own := RX7) (ini := false) (plainFor_of_name pnX7) rfl (fun h => by cases h) (Nat.le_of_ble_eq_true rfl) ?_
  unfold w_X7_opens at hw
  refine z_aload_n dX7_opens_0 rfl rfl ?_
  refine z_callV dX7_opens_1 mX7_75 (c_X7_boxes  hw) zm0 rfl rfl (Nat.le_of_ble_eq_true rfl) ⟨Nat.le_of_ble_eq_true rfl, Nat.le_of_ble_eq_true rfl⟩ ⟨Nat.le_refl _, Nat.le_refl _⟩ (fun _ _ hw => ?_)
  refine z_aload_n dX7_opens_4 rfl rfl ?_
  refine z_geti dX7_opens_5 fX7_13 zm0 zkX7_1 ?_
  refine z_imul dX7_opens_8 ?_
  refine z_istore_n dX7_opens_9 rfl (Nat.le_of_ble_eq_true rfl) ?_
  refine z_aload_n dX7_opens_10 rfl rfl ?_
  refine z_iload_n dX7_opens_11 rfl rfl ?_
  refine z_callV dX7_opens_12 mX7_86 (c_X7_placeOf  hw) zm0 rfl rfl (Nat.le_of_ble_eq_true rfl) ⟨Nat.le_of_ble_eq_true rfl, Nat.le_of_ble_eq_true rfl⟩ ⟨Nat.le_refl _, Nat.le_refl _⟩ (fun _ _ hw => ?_)
  refine z_iload_n dX7_opens_15 rfl rfl ?_
  refine z_iadd dX7_opens_16 ?_
  refine z_iload_n dX7_opens_17 rfl rfl ?_
  refine z_irem dX7_opens_18 hw (fun hw => ?_)
  refine z_istore dX7_opens_19 (Nat.le_of_ble_eq_true rfl) ?_
  refine z_iload dX7_opens_21 rfl ?_
  refine z_if_ge dX7_opens_23 hw (fun hw => ?_) (fun hw => ?_)
  · refine z_iload dX7_opens_33 rfl ?_
    exact z_to (j_X7_opens_35   hw) ⟨rfl, trivial⟩
  · refine z_iload dX7_opens_26 rfl ?_
    refine z_iload_n dX7_opens_28 rfl rfl ?_
    refine z_iadd dX7_opens_29 ?_
    refine z_goto dX7_opens_30 ?_
    exact z_to (j_X7_opens_35   hw) ⟨rfl, trivial⟩
def w_X7_frees_J75 (Q : Int32 → zS → Prop) (K5 : Int32 → Int32 → Int32 → Int32 → zS → Prop) (x1 x2 x4 s0 : Int32) (σ : zS) : Prop := K5 x1 x2 s0 ((x4 + (1 : Int32))) σ
def w_X7_frees_J74 (Q : Int32 → zS → Prop) (K5 : Int32 → Int32 → Int32 → Int32 → zS → Prop) (x1 x2 x4 : Int32) (σ : zS) : Prop := w_X7_frees_J75 Q K5 x1 x2 x4 ((0 : Int32)) σ
def w_X7_frees_J61 (Q : Int32 → zS → Prop) (K5 : Int32 → Int32 → Int32 → Int32 → zS → Prop) (x1 x2 x3 x4 x5 : Int32) (σ : zS) : Prop := ((x3 = 0 → w_X7_frees_J74 Q K5 x1 x2 x4  σ) ∧ (¬ (x3 = 0) → ((x5 = 0 → w_X7_frees_J74 Q K5 x1 x2 x4  σ) ∧ (¬ (x5 = 0) → w_X7_frees_J75 Q K5 x1 x2 x4 ((1 : Int32)) σ))))
def w_X7_frees_L34 (Q : Int32 → zS → Prop) (K5 : Int32 → Int32 → Int32 → Int32 → zS → Prop) : Nat → Int32 → Int32 → Int32 → Int32 → Int32 → Int32 → zS → Prop
  | 0, _, _, _, _, _, _, _ => False
  | n + 1, x1, x2, x3, x4, x5, x6, σ => ((x2 < x6 → w_X7_frees_J61 Q K5 x1 x2 x3 x4 x5  σ) ∧ (¬ (x2 < x6) → ((x5 = 0 → (w_X7_opens x4 x6 σ fun v1 t2 => (fun a1 a2 a3 a4 a5 a6 aσ => w_X7_frees_L34 Q K5 n a1 a2 a3 a4 a5 a6 aσ) x1 x2 x3 x4 v1 ((x6 + (1 : Int32))) t2)) ∧ (¬ (x5 = 0) → w_X7_frees_J61 Q K5 x1 x2 x3 x4 x5  σ))))
def w_X7_frees_J28 (Q : Int32 → zS → Prop) (K5 : Int32 → Int32 → Int32 → Int32 → zS → Prop) (x1 x2 x3 x4 s0 : Int32) (σ : zS) : Prop := ∃ m34, w_X7_frees_L34 Q K5 m34 x1 x2 x3 x4 s0 ((-x1)) σ
def w_X7_frees_L5 (Q : Int32 → zS → Prop)  : Nat → Int32 → Int32 → Int32 → Int32 → zS → Prop
  | 0, _, _, _, _, _ => False
  | n + 1, x1, x2, x3, x4, σ => (w_X7_boxes  σ fun v1 t2 => ((v1 ≤ x4 → ((x3 = 0 ∨ x3 = 1) ∧ Q x3 t2)) ∧ (¬ (v1 ≤ x4) → (w_X7_ridersOf x4 t2 fun v3 t4 => ((v3 = 0 → w_X7_frees_J28 Q (fun a1 a2 a3 a4 aσ => w_X7_frees_L5 Q  n a1 a2 a3 a4 aσ) x1 x2 x3 x4 ((1 : Int32)) t4) ∧ (¬ (v3 = 0) → w_X7_frees_J28 Q (fun a1 a2 a3 a4 aσ => w_X7_frees_L5 Q  n a1 a2 a3 a4 aσ) x1 x2 x3 x4 ((0 : Int32)) t4))))))
def w_X7_frees  (x1 x2 : Int32) (σ : zS) (Q : Int32 → zS → Prop) : Prop := ∃ m5, w_X7_frees_L5 Q  m5 x1 x2 ((1 : Int32)) ((0 : Int32)) σ
set_option maxHeartbeats 4000000 in
set_option maxRecDepth 100000 in
theorem j_X7_frees_75  {Q : Int32 → zS → Prop} {K5 : Int32 → Int32 → Int32 → Int32 → zS → Prop} (hK5 : ∀ (a1 a2 a3 a4 : Int32) (σ : zS), K5 a1 a2 a3 a4 σ → zAW RX7 cX7_frees 7 (some .boolean) false { frames := 3, cells := 0, slots := 0, locals := 66 } zΓM.length (zN zΓM zρM Q) 5 [(0, .ref 0), (1, .int a1), (2, .int a2), (3, .int a3), (4, .int a4)] [] zΓM zρM σ 0 0) {x1 x2 x4 s0 : Int32} {σ : zS} (hw : w_X7_frees_J75 Q K5 x1 x2 x4 s0 σ) : zAW RX7 cX7_frees 7 (some .boolean) false { frames := 3, cells := 0, slots := 0, locals := 66 } zΓM.length (zN zΓM zρM Q) 75 [(0, .ref 0), (1, .int x1), (2, .int x2), (4, .int x4)] [.int s0] zΓM zρM σ 0 0 := by
  unfold w_X7_frees_J75 at hw
  refine z_istore_n dX7_frees_75 rfl (Nat.le_of_ble_eq_true rfl) ?_
  refine z_iinc dX7_frees_76 rfl zi1 (Nat.le_of_ble_eq_true rfl) ?_
  refine z_goto dX7_frees_79 ?_
  exact z_to (hK5 _ _ _ _ _ hw) ⟨rfl, rfl, rfl, rfl, rfl, trivial⟩
set_option maxHeartbeats 4000000 in
set_option maxRecDepth 100000 in
theorem j_X7_frees_74  {Q : Int32 → zS → Prop} {K5 : Int32 → Int32 → Int32 → Int32 → zS → Prop} (hK5 : ∀ (a1 a2 a3 a4 : Int32) (σ : zS), K5 a1 a2 a3 a4 σ → zAW RX7 cX7_frees 7 (some .boolean) false { frames := 3, cells := 0, slots := 0, locals := 66 } zΓM.length (zN zΓM zρM Q) 5 [(0, .ref 0), (1, .int a1), (2, .int a2), (3, .int a3), (4, .int a4)] [] zΓM zρM σ 0 0) {x1 x2 x4 : Int32} {σ : zS} (hw : w_X7_frees_J74 Q K5 x1 x2 x4 σ) : zAW RX7 cX7_frees 7 (some .boolean) false { frames := 3, cells := 0, slots := 0, locals := 66 } zΓM.length (zN zΓM zρM Q) 74 [(0, .ref 0), (1, .int x1), (2, .int x2), (4, .int x4)] [] zΓM zρM σ 0 0 := by
  unfold w_X7_frees_J74 at hw
  refine z_iconst dX7_frees_74 zi0 ?_
  exact z_to (j_X7_frees_75  hK5 hw) ⟨rfl, rfl, rfl, rfl, trivial⟩
set_option maxHeartbeats 4000000 in
set_option maxRecDepth 100000 in
theorem j_X7_frees_61  {Q : Int32 → zS → Prop} {K5 : Int32 → Int32 → Int32 → Int32 → zS → Prop} (hK5 : ∀ (a1 a2 a3 a4 : Int32) (σ : zS), K5 a1 a2 a3 a4 σ → zAW RX7 cX7_frees 7 (some .boolean) false { frames := 3, cells := 0, slots := 0, locals := 66 } zΓM.length (zN zΓM zρM Q) 5 [(0, .ref 0), (1, .int a1), (2, .int a2), (3, .int a3), (4, .int a4)] [] zΓM zρM σ 0 0) {x1 x2 x3 x4 x5 : Int32} {σ : zS} (hw : w_X7_frees_J61 Q K5 x1 x2 x3 x4 x5 σ) : zAW RX7 cX7_frees 7 (some .boolean) false { frames := 3, cells := 0, slots := 0, locals := 66 } zΓM.length (zN zΓM zρM Q) 61 [(0, .ref 0), (1, .int x1), (2, .int x2), (3, .int x3), (4, .int x4), (5, .int x5)] [] zΓM zρM σ 0 0 := by
  unfold w_X7_frees_J61 at hw
  refine z_iload_n dX7_frees_61 rfl rfl ?_
  refine z_if_eq dX7_frees_62 hw (fun hw => ?_) (fun hw => ?_)
  · exact z_to (j_X7_frees_74  hK5 hw) ⟨rfl, rfl, rfl, rfl, trivial⟩
  · refine z_iload dX7_frees_65 rfl ?_
    refine z_if_eq dX7_frees_67 hw (fun hw => ?_) (fun hw => ?_)
    · exact z_to (j_X7_frees_74  hK5 hw) ⟨rfl, rfl, rfl, rfl, trivial⟩
    · refine z_iconst dX7_frees_70 zi1 ?_
      refine z_goto dX7_frees_71 ?_
      exact z_to (j_X7_frees_75  hK5 hw) ⟨rfl, rfl, rfl, rfl, trivial⟩
set_option maxHeartbeats 4000000 in
set_option maxRecDepth 100000 in
theorem l_X7_frees_34  {Q : Int32 → zS → Prop} {K5 : Int32 → Int32 → Int32 → Int32 → zS → Prop} (hK5 : ∀ (a1 a2 a3 a4 : Int32) (σ : zS), K5 a1 a2 a3 a4 σ → zAW RX7 cX7_frees 7 (some .boolean) false { frames := 3, cells := 0, slots := 0, locals := 66 } zΓM.length (zN zΓM zρM Q) 5 [(0, .ref 0), (1, .int a1), (2, .int a2), (3, .int a3), (4, .int a4)] [] zΓM zρM σ 0 0) : ∀ (n : Nat) (x1 x2 x3 x4 x5 x6 : Int32) (σ : zS), w_X7_frees_L34 Q K5 n x1 x2 x3 x4 x5 x6 σ → zAW RX7 cX7_frees 7 (some .boolean) false { frames := 3, cells := 0, slots := 0, locals := 66 } zΓM.length (zN zΓM zρM Q) 34 [(0, .ref 0), (1, .int x1), (2, .int x2), (3, .int x3), (4, .int x4), (5, .int x5), (6, .int x6)] [] zΓM zρM σ 0 0 := by
  intro n
  induction n with
  | zero => intro x1 x2 x3 x4 x5 x6 σ hw; exact hw.elim
  | succ n hK34 =>
    intro x1 x2 x3 x4 x5 x6 σ hw
    rw [w_X7_frees_L34] at hw
    refine z_iload dX7_frees_34 rfl ?_
    refine z_iload_n dX7_frees_36 rfl rfl ?_
    refine z_icmp_gt dX7_frees_37 hw (fun hw => ?_) (fun hw => ?_)
    · exact z_to (j_X7_frees_61  hK5 hw) ⟨rfl, rfl, rfl, rfl, rfl, rfl, trivial⟩
    · refine z_iload dX7_frees_40 rfl ?_
      refine z_if_ne dX7_frees_42 hw (fun hw => ?_) (fun hw => ?_)
      · exact z_to (j_X7_frees_61  hK5 hw) ⟨rfl, rfl, rfl, rfl, rfl, rfl, trivial⟩
      · refine z_aload_n dX7_frees_45 rfl rfl ?_
        refine z_iload dX7_frees_46 rfl ?_
        refine z_iload dX7_frees_48 rfl ?_
        refine z_callV dX7_frees_50 mX7_162 (c_X7_opens  hw) zm0 rfl rfl (Nat.le_of_ble_eq_true rfl) ⟨Nat.le_of_ble_eq_true rfl, Nat.le_of_ble_eq_true rfl⟩ ⟨Nat.le_refl _, Nat.le_refl _⟩ (fun _ _ hw => ?_)
        refine z_istore dX7_frees_53 (Nat.le_of_ble_eq_true rfl) ?_
        refine z_iinc dX7_frees_55 rfl zi1 (Nat.le_of_ble_eq_true rfl) ?_
        refine z_goto dX7_frees_58 ?_
        exact z_to (hK34 _ _ _ _ _ _ _ hw) ⟨rfl, rfl, rfl, rfl, rfl, rfl, rfl, trivial⟩
set_option maxHeartbeats 4000000 in
set_option maxRecDepth 100000 in
theorem j_X7_frees_28  {Q : Int32 → zS → Prop} {K5 : Int32 → Int32 → Int32 → Int32 → zS → Prop} (hK5 : ∀ (a1 a2 a3 a4 : Int32) (σ : zS), K5 a1 a2 a3 a4 σ → zAW RX7 cX7_frees 7 (some .boolean) false { frames := 3, cells := 0, slots := 0, locals := 66 } zΓM.length (zN zΓM zρM Q) 5 [(0, .ref 0), (1, .int a1), (2, .int a2), (3, .int a3), (4, .int a4)] [] zΓM zρM σ 0 0) {x1 x2 x3 x4 s0 : Int32} {σ : zS} (hw : w_X7_frees_J28 Q K5 x1 x2 x3 x4 s0 σ) : zAW RX7 cX7_frees 7 (some .boolean) false { frames := 3, cells := 0, slots := 0, locals := 66 } zΓM.length (zN zΓM zρM Q) 28 [(0, .ref 0), (1, .int x1), (2, .int x2), (3, .int x3), (4, .int x4)] [.int s0] zΓM zρM σ 0 0 := by
  unfold w_X7_frees_J28 at hw
  refine z_istore dX7_frees_28 (Nat.le_of_ble_eq_true rfl) ?_
  refine z_iload_n dX7_frees_30 rfl rfl ?_
  refine z_ineg dX7_frees_31 ?_
  refine z_istore dX7_frees_32 (Nat.le_of_ble_eq_true rfl) ?_
  obtain ⟨n, hw⟩ := hw
  exact z_to (l_X7_frees_34  hK5 n _ _ _ _ _ _ _ hw) ⟨rfl, rfl, rfl, rfl, rfl, rfl, rfl, trivial⟩
set_option maxHeartbeats 4000000 in
set_option maxRecDepth 100000 in
theorem l_X7_frees_5  {Q : Int32 → zS → Prop}   : ∀ (n : Nat) (x1 x2 x3 x4 : Int32) (σ : zS), w_X7_frees_L5 Q  n x1 x2 x3 x4 σ → zAW RX7 cX7_frees 7 (some .boolean) false { frames := 3, cells := 0, slots := 0, locals := 66 } zΓM.length (zN zΓM zρM Q) 5 [(0, .ref 0), (1, .int x1), (2, .int x2), (3, .int x3), (4, .int x4)] [] zΓM zρM σ 0 0 := by
  intro n
  induction n with
  | zero => intro x1 x2 x3 x4 σ hw; exact hw.elim
  | succ n hK5 =>
    intro x1 x2 x3 x4 σ hw
    rw [w_X7_frees_L5] at hw
    refine z_iload dX7_frees_5 rfl ?_
    refine z_aload_n dX7_frees_7 rfl rfl ?_
    refine z_callV dX7_frees_8 mX7_75 (c_X7_boxes  hw) zm0 rfl rfl (Nat.le_of_ble_eq_true rfl) ⟨Nat.le_of_ble_eq_true rfl, Nat.le_of_ble_eq_true rfl⟩ ⟨Nat.le_refl _, Nat.le_refl _⟩ (fun _ _ hw => ?_)
    refine z_icmp_ge dX7_frees_11 hw (fun hw => ?_) (fun hw => ?_)
    · refine z_iload_n dX7_frees_82 rfl rfl ?_
      exact z_zret dX7_frees_83 (Nat.le_refl _) (Nat.le_refl _) rfl ⟨hw.1, ⟨rfl, rfl, hw.2⟩⟩
    · refine z_aload_n dX7_frees_14 rfl rfl ?_
      refine z_iload dX7_frees_15 rfl ?_
      refine z_callV dX7_frees_17 mX7_137 (c_X7_ridersOf  hw) zm0 rfl rfl (Nat.le_of_ble_eq_true rfl) ⟨Nat.le_of_ble_eq_true rfl, Nat.le_of_ble_eq_true rfl⟩ ⟨Nat.le_refl _, Nat.le_refl _⟩ (fun _ _ hw => ?_)
      refine z_if_ne dX7_frees_20 hw (fun hw => ?_) (fun hw => ?_)
      · refine z_iconst dX7_frees_27 zi0 ?_
        exact z_to (j_X7_frees_28  hK5 hw) ⟨rfl, rfl, rfl, rfl, rfl, trivial⟩
      · refine z_iconst dX7_frees_23 zi1 ?_
        refine z_goto dX7_frees_24 ?_
        exact z_to (j_X7_frees_28  hK5 hw) ⟨rfl, rfl, rfl, rfl, rfl, trivial⟩
set_option maxHeartbeats 4000000 in
set_option maxRecDepth 100000 in
theorem c_X7_frees  {x1 x2 : Int32} {σ : zS} {Q : Int32 → zS → Prop} (hw : w_X7_frees x1 x2 σ Q) : zAC yX7_frees cX7_frees 7 (some .boolean) { frames := 3, cells := 0, slots := 0, locals := 66 } [.ref 0, .int x1, .int x2] zΓM zρM σ (zN zΓM zρM Q) := by
  refine z_entry (own := RX7) (ini := false) (plainFor_of_name pnX7) rfl (fun h => by cases h) (Nat.le_of_ble_eq_true rfl) ?_
  unfold w_X7_frees at hw
  refine z_iconst dX7_frees_0 zi1 ?_
  refine z_istore_n dX7_frees_1 rfl (Nat.le_of_ble_eq_true rfl) ?_
  refine z_iconst dX7_frees_2 zi0 ?_
  refine z_istore dX7_frees_3 (Nat.le_of_ble_eq_true rfl) ?_
  obtain ⟨n, hw⟩ := hw
  exact z_to (l_X7_frees_5   n _ _ _ _ _ hw) ⟨rfl, rfl, rfl, rfl, rfl, trivial⟩
def w_X7_wheel_J84 (Q : Int32 → zS → Prop) (K17 : Int32 → Int32 → zS → Prop) (K29 : Int32 → Int32 → Int32 → zS → Prop) (x2 x3 s0 : Int32) (σ : zS) : Prop := K29 s0 x2 ((x3 + (1 : Int32))) σ
def w_X7_wheel_J83 (Q : Int32 → zS → Prop) (K17 : Int32 → Int32 → zS → Prop) (K29 : Int32 → Int32 → Int32 → zS → Prop) (x1 x2 x3 : Int32) (σ : zS) : Prop := w_X7_wheel_J84 Q K17 K29 x2 x3 x1 σ
def w_X7_wheel_J69 (Q : Int32 → zS → Prop) (K17 : Int32 → Int32 → zS → Prop) (K29 : Int32 → Int32 → Int32 → zS → Prop) (x1 x2 x3 x4 : Int32) (σ : zS) : Prop := (w_X7_frees x3 x2 σ fun v1 t2 => ((v1 = 0 → w_X7_wheel_J83 Q K17 K29 x1 x2 x3  t2) ∧ (¬ (v1 = 0) → w_X7_wheel_J84 Q K17 K29 x2 x3 x4 t2)))
def w_X7_wheel_J57 (Q : Int32 → zS → Prop) (K17 : Int32 → Int32 → zS → Prop) (K29 : Int32 → Int32 → Int32 → zS → Prop) (x1 x2 x3 s0 : Int32) (σ : zS) : Prop := ((x1 < 0 → w_X7_wheel_J69 Q K17 K29 x1 x2 x3 s0  σ) ∧ (¬ (x1 < 0) → ((x1 ≤ s0 → w_X7_wheel_J83 Q K17 K29 x1 x2 x3  σ) ∧ (¬ (x1 ≤ s0) → w_X7_wheel_J69 Q K17 K29 x1 x2 x3 s0  σ))))
def w_X7_wheel_L29 (Q : Int32 → zS → Prop) (K17 : Int32 → Int32 → zS → Prop) : Nat → Int32 → Int32 → Int32 → zS → Prop
  | 0, _, _, _, _ => False
  | n + 1, x1, x2, x3, σ => ((((3 : Int32) * (σ.1 0 1)) < x3 → K17 x1 ((x2 + (1 : Int32))) σ) ∧ (¬ (((3 : Int32) * (σ.1 0 1)) < x3) → ((x3 ≤ x2 → w_X7_wheel_J57 Q K17 (fun a1 a2 a3 aσ => w_X7_wheel_L29 Q K17 n a1 a2 a3 aσ) x1 x2 x3 ((x2 + ((2 : Int32) * x3))) σ) ∧ (¬ (x3 ≤ x2) → w_X7_wheel_J57 Q K17 (fun a1 a2 a3 aσ => w_X7_wheel_L29 Q K17 n a1 a2 a3 aσ) x1 x2 x3 ((((2 : Int32) * x2) + x3)) σ))))
def w_X7_wheel_L17 (Q : Int32 → zS → Prop)  : Nat → Int32 → Int32 → zS → Prop
  | 0, _, _, _ => False
  | n + 1, x1, x2, σ => ((((3 : Int32) * (σ.1 0 1)) < x2 → Q x1 σ) ∧ (¬ (((3 : Int32) * (σ.1 0 1)) < x2) → ∃ m29, w_X7_wheel_L29 Q (fun a1 a2 aσ => w_X7_wheel_L17 Q  n a1 a2 aσ) m29 x1 x2 ((0 : Int32)) σ))
def w_X7_wheel  (σ : zS) (Q : Int32 → zS → Prop) : Prop := (vp_in ((2 : Int32)) 389 ∧ (((σ.2 8 ((2 : Int32)).toNatClampNeg) = 0 → Q (-2 : Int32) σ) ∧ (¬ ((σ.2 8 ((2 : Int32)).toNatClampNeg) = 0) → ∃ m17, w_X7_wheel_L17 Q  m17 ((-4 : Int32)) ((0 : Int32)) σ)))
set_option maxHeartbeats 4000000 in
set_option maxRecDepth 100000 in
theorem j_X7_wheel_84  {Q : Int32 → zS → Prop} {K17 : Int32 → Int32 → zS → Prop} {K29 : Int32 → Int32 → Int32 → zS → Prop} (hK17 : ∀ (a1 a2 : Int32) (σ : zS), K17 a1 a2 σ → zAW RX7 cX7_wheel 5 (some .int) false { frames := 4, cells := 0, slots := 0, locals := 92 } zΓM.length (zN zΓM zρM Q) 17 [(0, .ref 0), (1, .int a1), (2, .int a2)] [] zΓM zρM σ 0 0) (hK29 : ∀ (a1 a2 a3 : Int32) (σ : zS), K29 a1 a2 a3 σ → zAW RX7 cX7_wheel 5 (some .int) false { frames := 4, cells := 0, slots := 0, locals := 92 } zΓM.length (zN zΓM zρM Q) 29 [(0, .ref 0), (1, .int a1), (2, .int a2), (3, .int a3)] [] zΓM zρM σ 0 0) {x2 x3 s0 : Int32} {σ : zS} (hw : w_X7_wheel_J84 Q K17 K29 x2 x3 s0 σ) : zAW RX7 cX7_wheel 5 (some .int) false { frames := 4, cells := 0, slots := 0, locals := 92 } zΓM.length (zN zΓM zρM Q) 84 [(0, .ref 0), (2, .int x2), (3, .int x3)] [.int s0] zΓM zρM σ 0 0 := by
  unfold w_X7_wheel_J84 at hw
  refine z_istore_n dX7_wheel_84 rfl (Nat.le_of_ble_eq_true rfl) ?_
  refine z_iinc dX7_wheel_85 rfl zi1 (Nat.le_of_ble_eq_true rfl) ?_
  refine z_goto dX7_wheel_88 ?_
  exact z_to (hK29 _ _ _ _ hw) ⟨rfl, rfl, rfl, rfl, trivial⟩
set_option maxHeartbeats 4000000 in
set_option maxRecDepth 100000 in
theorem j_X7_wheel_83  {Q : Int32 → zS → Prop} {K17 : Int32 → Int32 → zS → Prop} {K29 : Int32 → Int32 → Int32 → zS → Prop} (hK17 : ∀ (a1 a2 : Int32) (σ : zS), K17 a1 a2 σ → zAW RX7 cX7_wheel 5 (some .int) false { frames := 4, cells := 0, slots := 0, locals := 92 } zΓM.length (zN zΓM zρM Q) 17 [(0, .ref 0), (1, .int a1), (2, .int a2)] [] zΓM zρM σ 0 0) (hK29 : ∀ (a1 a2 a3 : Int32) (σ : zS), K29 a1 a2 a3 σ → zAW RX7 cX7_wheel 5 (some .int) false { frames := 4, cells := 0, slots := 0, locals := 92 } zΓM.length (zN zΓM zρM Q) 29 [(0, .ref 0), (1, .int a1), (2, .int a2), (3, .int a3)] [] zΓM zρM σ 0 0) {x1 x2 x3 : Int32} {σ : zS} (hw : w_X7_wheel_J83 Q K17 K29 x1 x2 x3 σ) : zAW RX7 cX7_wheel 5 (some .int) false { frames := 4, cells := 0, slots := 0, locals := 92 } zΓM.length (zN zΓM zρM Q) 83 [(0, .ref 0), (1, .int x1), (2, .int x2), (3, .int x3)] [] zΓM zρM σ 0 0 := by
  unfold w_X7_wheel_J83 at hw
  refine z_iload_n dX7_wheel_83 rfl rfl ?_
  exact z_to (j_X7_wheel_84  hK17 hK29 hw) ⟨rfl, rfl, rfl, trivial⟩
set_option maxHeartbeats 4000000 in
set_option maxRecDepth 100000 in
theorem j_X7_wheel_69  {Q : Int32 → zS → Prop} {K17 : Int32 → Int32 → zS → Prop} {K29 : Int32 → Int32 → Int32 → zS → Prop} (hK17 : ∀ (a1 a2 : Int32) (σ : zS), K17 a1 a2 σ → zAW RX7 cX7_wheel 5 (some .int) false { frames := 4, cells := 0, slots := 0, locals := 92 } zΓM.length (zN zΓM zρM Q) 17 [(0, .ref 0), (1, .int a1), (2, .int a2)] [] zΓM zρM σ 0 0) (hK29 : ∀ (a1 a2 a3 : Int32) (σ : zS), K29 a1 a2 a3 σ → zAW RX7 cX7_wheel 5 (some .int) false { frames := 4, cells := 0, slots := 0, locals := 92 } zΓM.length (zN zΓM zρM Q) 29 [(0, .ref 0), (1, .int a1), (2, .int a2), (3, .int a3)] [] zΓM zρM σ 0 0) {x1 x2 x3 x4 : Int32} {σ : zS} (hw : w_X7_wheel_J69 Q K17 K29 x1 x2 x3 x4 σ) : zAW RX7 cX7_wheel 5 (some .int) false { frames := 4, cells := 0, slots := 0, locals := 92 } zΓM.length (zN zΓM zρM Q) 69 [(0, .ref 0), (1, .int x1), (2, .int x2), (3, .int x3), (4, .int x4)] [] zΓM zρM σ 0 0 := by
  unfold w_X7_wheel_J69 at hw
  refine z_aload_n dX7_wheel_69 rfl rfl ?_
  refine z_iload_n dX7_wheel_70 rfl rfl ?_
  refine z_iload_n dX7_wheel_71 rfl rfl ?_
  refine z_callV dX7_wheel_72 mX7_165 (c_X7_frees  hw) zm0 rfl rfl (Nat.le_of_ble_eq_true rfl) ⟨Nat.le_of_ble_eq_true rfl, Nat.le_of_ble_eq_true rfl⟩ ⟨Nat.le_refl _, Nat.le_refl _⟩ (fun _ _ hw => ?_)
  refine z_if_eq dX7_wheel_75 hw (fun hw => ?_) (fun hw => ?_)
  · exact z_to (j_X7_wheel_83  hK17 hK29 hw) ⟨rfl, rfl, rfl, rfl, trivial⟩
  · refine z_iload dX7_wheel_78 rfl ?_
    refine z_goto dX7_wheel_80 ?_
    exact z_to (j_X7_wheel_84  hK17 hK29 hw) ⟨rfl, rfl, rfl, trivial⟩
set_option maxHeartbeats 4000000 in
set_option maxRecDepth 100000 in
theorem j_X7_wheel_57  {Q : Int32 → zS → Prop} {K17 : Int32 → Int32 → zS → Prop} {K29 : Int32 → Int32 → Int32 → zS → Prop} (hK17 : ∀ (a1 a2 : Int32) (σ : zS), K17 a1 a2 σ → zAW RX7 cX7_wheel 5 (some .int) false { frames := 4, cells := 0, slots := 0, locals := 92 } zΓM.length (zN zΓM zρM Q) 17 [(0, .ref 0), (1, .int a1), (2, .int a2)] [] zΓM zρM σ 0 0) (hK29 : ∀ (a1 a2 a3 : Int32) (σ : zS), K29 a1 a2 a3 σ → zAW RX7 cX7_wheel 5 (some .int) false { frames := 4, cells := 0, slots := 0, locals := 92 } zΓM.length (zN zΓM zρM Q) 29 [(0, .ref 0), (1, .int a1), (2, .int a2), (3, .int a3)] [] zΓM zρM σ 0 0) {x1 x2 x3 s0 : Int32} {σ : zS} (hw : w_X7_wheel_J57 Q K17 K29 x1 x2 x3 s0 σ) : zAW RX7 cX7_wheel 5 (some .int) false { frames := 4, cells := 0, slots := 0, locals := 92 } zΓM.length (zN zΓM zρM Q) 57 [(0, .ref 0), (1, .int x1), (2, .int x2), (3, .int x3)] [.int s0] zΓM zρM σ 0 0 := by
  unfold w_X7_wheel_J57 at hw
  refine z_istore dX7_wheel_57 (Nat.le_of_ble_eq_true rfl) ?_
  refine z_iload_n dX7_wheel_59 rfl rfl ?_
  refine z_if_lt dX7_wheel_60 hw (fun hw => ?_) (fun hw => ?_)
  · exact z_to (j_X7_wheel_69  hK17 hK29 hw) ⟨rfl, rfl, rfl, rfl, rfl, trivial⟩
  · refine z_iload dX7_wheel_63 rfl ?_
    refine z_iload_n dX7_wheel_65 rfl rfl ?_
    refine z_icmp_ge dX7_wheel_66 hw (fun hw => ?_) (fun hw => ?_)
    · exact z_to (j_X7_wheel_83  hK17 hK29 hw) ⟨rfl, rfl, rfl, rfl, trivial⟩
    · exact z_to (j_X7_wheel_69  hK17 hK29 hw) ⟨rfl, rfl, rfl, rfl, rfl, trivial⟩
set_option maxHeartbeats 4000000 in
set_option maxRecDepth 100000 in
theorem l_X7_wheel_29  {Q : Int32 → zS → Prop} {K17 : Int32 → Int32 → zS → Prop} (hK17 : ∀ (a1 a2 : Int32) (σ : zS), K17 a1 a2 σ → zAW RX7 cX7_wheel 5 (some .int) false { frames := 4, cells := 0, slots := 0, locals := 92 } zΓM.length (zN zΓM zρM Q) 17 [(0, .ref 0), (1, .int a1), (2, .int a2)] [] zΓM zρM σ 0 0) : ∀ (n : Nat) (x1 x2 x3 : Int32) (σ : zS), w_X7_wheel_L29 Q K17 n x1 x2 x3 σ → zAW RX7 cX7_wheel 5 (some .int) false { frames := 4, cells := 0, slots := 0, locals := 92 } zΓM.length (zN zΓM zρM Q) 29 [(0, .ref 0), (1, .int x1), (2, .int x2), (3, .int x3)] [] zΓM zρM σ 0 0 := by
  intro n
  induction n with
  | zero => intro x1 x2 x3 σ hw; exact hw.elim
  | succ n hK29 =>
    intro x1 x2 x3 σ hw
    rw [w_X7_wheel_L29] at hw
    refine z_iload_n dX7_wheel_29 rfl rfl ?_
    refine z_iconst dX7_wheel_30 zi3 ?_
    refine z_aload_n dX7_wheel_31 rfl rfl ?_
    refine z_geti dX7_wheel_32 fX7_13 zm0 zkX7_1 ?_
    refine z_imul dX7_wheel_35 ?_
    refine z_icmp_gt dX7_wheel_36 hw (fun hw => ?_) (fun hw => ?_)
    · refine z_iinc dX7_wheel_91 rfl zi1 (Nat.le_of_ble_eq_true rfl) ?_
      refine z_goto dX7_wheel_94 ?_
      exact z_to (hK17 _ _ _ hw) ⟨rfl, rfl, rfl, trivial⟩
    · refine z_iload_n dX7_wheel_39 rfl rfl ?_
      refine z_iload_n dX7_wheel_40 rfl rfl ?_
      refine z_icmp_ge dX7_wheel_41 hw (fun hw => ?_) (fun hw => ?_)
      · refine z_iload_n dX7_wheel_52 rfl rfl ?_
        refine z_iconst dX7_wheel_53 zi2 ?_
        refine z_iload_n dX7_wheel_54 rfl rfl ?_
        refine z_imul dX7_wheel_55 ?_
        refine z_iadd dX7_wheel_56 ?_
        exact z_to (j_X7_wheel_57  hK17 hK29 hw) ⟨rfl, rfl, rfl, rfl, trivial⟩
      · refine z_iconst dX7_wheel_44 zi2 ?_
        refine z_iload_n dX7_wheel_45 rfl rfl ?_
        refine z_imul dX7_wheel_46 ?_
        refine z_iload_n dX7_wheel_47 rfl rfl ?_
        refine z_iadd dX7_wheel_48 ?_
        refine z_goto dX7_wheel_49 ?_
        exact z_to (j_X7_wheel_57  hK17 hK29 hw) ⟨rfl, rfl, rfl, rfl, trivial⟩
set_option maxHeartbeats 4000000 in
set_option maxRecDepth 100000 in
theorem l_X7_wheel_17  {Q : Int32 → zS → Prop}   : ∀ (n : Nat) (x1 x2 : Int32) (σ : zS), w_X7_wheel_L17 Q  n x1 x2 σ → zAW RX7 cX7_wheel 5 (some .int) false { frames := 4, cells := 0, slots := 0, locals := 92 } zΓM.length (zN zΓM zρM Q) 17 [(0, .ref 0), (1, .int x1), (2, .int x2)] [] zΓM zρM σ 0 0 := by
  intro n
  induction n with
  | zero => intro x1 x2 σ hw; exact hw.elim
  | succ n hK17 =>
    intro x1 x2 σ hw
    rw [w_X7_wheel_L17] at hw
    refine z_iload_n dX7_wheel_17 rfl rfl ?_
    refine z_iconst dX7_wheel_18 zi3 ?_
    refine z_aload_n dX7_wheel_19 rfl rfl ?_
    refine z_geti dX7_wheel_20 fX7_13 zm0 zkX7_1 ?_
    refine z_imul dX7_wheel_23 ?_
    refine z_icmp_gt dX7_wheel_24 hw (fun hw => ?_) (fun hw => ?_)
    · refine z_iload_n dX7_wheel_97 rfl rfl ?_
      exact z_iret dX7_wheel_98 (Nat.le_refl _) (Nat.le_refl _) rfl ⟨rfl, rfl, hw⟩
    · refine z_iconst dX7_wheel_27 zi0 ?_
      refine z_istore_n dX7_wheel_28 rfl (Nat.le_of_ble_eq_true rfl) ?_
      obtain ⟨n, hw⟩ := hw
      exact z_to (l_X7_wheel_29  hK17 n _ _ _ _ hw) ⟨rfl, rfl, rfl, rfl, trivial⟩
set_option maxHeartbeats 4000000 in
set_option maxRecDepth 100000 in
theorem c_X7_wheel  {σ : zS} {Q : Int32 → zS → Prop} (hw : w_X7_wheel  σ Q) : zAC yX7_wheel cX7_wheel 5 (some .int) { frames := 4, cells := 0, slots := 0, locals := 92 } [.ref 0] zΓM zρM σ (zN zΓM zρM Q) := by
  refine z_entry (own := RX7) (ini := false) (plainFor_of_name pnX7) rfl (fun h => by cases h) (Nat.le_of_ble_eq_true rfl) ?_
  unfold w_X7_wheel at hw
  refine z_aload_n dX7_wheel_0 rfl rfl ?_
  refine z_getr dX7_wheel_1 fX7_47 zm0 zkX7_13 zrM13 ?_
  refine z_iconst dX7_wheel_4 zi2 ?_
  refine z_iald dX7_wheel_5 zm8 hw (fun hw => ?_)
  refine z_if_ne dX7_wheel_6 hw (fun hw => ?_) (fun hw => ?_)
  · refine z_bipush dX7_wheel_12 zbpm4 ?_
    refine z_istore_n dX7_wheel_14 rfl (Nat.le_of_ble_eq_true rfl) ?_
    refine z_iconst dX7_wheel_15 zi0 ?_
    refine z_istore_n dX7_wheel_16 rfl (Nat.le_of_ble_eq_true rfl) ?_
    obtain ⟨n, hw⟩ := hw
    exact z_to (l_X7_wheel_17   n _ _ _ hw) ⟨rfl, rfl, rfl, trivial⟩
  · refine z_bipush dX7_wheel_9 zbpm2 ?_
    exact z_iret dX7_wheel_11 (Nat.le_refl _) (Nat.le_refl _) rfl ⟨rfl, rfl, hw⟩
def w_X7_turn_J121 (Q : Int32 → zS → Prop) (K60 : Int32 → Int32 → zS → Prop) (K72 : Int32 → Int32 → Int32 → zS → Prop) (x3 x4 x5 : Int32) (σ : zS) : Prop := K72 x3 x4 ((x5 + (1 : Int32))) σ
def w_X7_turn_L72 (Q : Int32 → zS → Prop) (K60 : Int32 → Int32 → zS → Prop) : Nat → Int32 → Int32 → Int32 → zS → Prop
  | 0, _, _, _, _ => False
  | n + 1, x3, x4, x5, σ => (((σ.1 0 5) ≤ x5 → K60 x3 ((x4 + (1 : Int32))) σ) ∧ (¬ ((σ.1 0 5) ≤ x5) → (w_X7_rides x5 x4 σ fun v1 t2 => ((v1 = 0 → w_X7_turn_J121 Q K60 (fun a3 a4 a5 aσ => w_X7_turn_L72 Q K60 n a3 a4 a5 aσ) x3 x4 x5  t2) ∧ (¬ (v1 = 0) → (w_X7_opens x4 ((0 : Int32)) t2 fun v3 t4 => ((v3 = 0 → w_X7_turn_J121 Q K60 (fun a3 a4 a5 aσ => w_X7_turn_L72 Q K60 n a3 a4 a5 aσ) x3 x4 x5  t4) ∧ (¬ (v3 = 0) → (w_X7_partOf x4 t4 fun v5 t6 => (w_X7_floorOf v5 t6 fun v7 t8 => (w_X7_leaves x5 v7 t8 fun _ t9 => w_X7_turn_J121 Q K60 (fun a3 a4 a5 aσ => w_X7_turn_L72 Q K60 n a3 a4 a5 aσ) ((x3 + (1 : Int32))) x4 x5  t9)))))))))))
def w_X7_turn_L60 (Q : Int32 → zS → Prop)  : Nat → Int32 → Int32 → zS → Prop
  | 0, _, _, _ => False
  | n + 1, x3, x4, σ => (w_X7_boxes  σ fun v1 t2 => ((v1 ≤ x4 → Q x3 t2) ∧ (¬ (v1 ≤ x4) → ∃ m72, w_X7_turn_L72 Q (fun a3 a4 aσ => w_X7_turn_L60 Q  n a3 a4 aσ) m72 x3 x4 ((0 : Int32)) t2)))
def w_X7_turn  (x1 : Int32) (σ : zS) (Q : Int32 → zS → Prop) : Prop := (w_X7_in x1 ((-100 : Int32)) ((100 : Int32)) σ fun v1 t2 => ((v1 = 0 → Q (-1 : Int32) t2) ∧ (¬ (v1 = 0) → (vp_in ((2 : Int32)) 389 ∧ (((t2.2 8 ((2 : Int32)).toNatClampNeg) = 0 → Q (-2 : Int32) t2) ∧ (¬ ((t2.2 8 ((2 : Int32)).toNatClampNeg) = 0) → (w_X7_boxes  t2 fun v3 t4 => (vp_in ((1 : Int32)) 389 ∧ ((¬ (v3 * (t4.1 0 1)) = 0) ∧ ((¬ (v3 * (t4.1 0 1)) = 0) ∧ (vp_in ((1 : Int32)) 389 ∧ zlet (zA t4 8 ((1 : Int32)).toNatClampNeg (((((t4.2 8 ((1 : Int32)).toNatClampNeg) + x1) - ((t4.2 8 ((1 : Int32)).toNatClampNeg) + x1) / (v3 * (t4.1 0 1)) * (v3 * (t4.1 0 1))) + (v3 * (t4.1 0 1))) - ((((t4.2 8 ((1 : Int32)).toNatClampNeg) + x1) - ((t4.2 8 ((1 : Int32)).toNatClampNeg) + x1) / (v3 * (t4.1 0 1)) * (v3 * (t4.1 0 1))) + (v3 * (t4.1 0 1))) / (v3 * (t4.1 0 1)) * (v3 * (t4.1 0 1)))) fun t5 => ∃ m60, w_X7_turn_L60 Q  m60 ((0 : Int32)) ((0 : Int32)) t5)))))))))))
set_option maxHeartbeats 4000000 in
set_option maxRecDepth 100000 in
theorem j_X7_turn_121  {Q : Int32 → zS → Prop} {K60 : Int32 → Int32 → zS → Prop} {K72 : Int32 → Int32 → Int32 → zS → Prop} (hK60 : ∀ (a3 a4 : Int32) (σ : zS), K60 a3 a4 σ → zAW RX7 cX7_turn 6 (some .int) false { frames := 3, cells := 0, slots := 0, locals := 66 } zΓM.length (zN zΓM zρM Q) 60 [(0, .ref 0), (3, .int a3), (4, .int a4)] [] zΓM zρM σ 0 0) (hK72 : ∀ (a3 a4 a5 : Int32) (σ : zS), K72 a3 a4 a5 σ → zAW RX7 cX7_turn 6 (some .int) false { frames := 3, cells := 0, slots := 0, locals := 66 } zΓM.length (zN zΓM zρM Q) 72 [(0, .ref 0), (3, .int a3), (4, .int a4), (5, .int a5)] [] zΓM zρM σ 0 0) {x3 x4 x5 : Int32} {σ : zS} (hw : w_X7_turn_J121 Q K60 K72 x3 x4 x5 σ) : zAW RX7 cX7_turn 6 (some .int) false { frames := 3, cells := 0, slots := 0, locals := 66 } zΓM.length (zN zΓM zρM Q) 121 [(0, .ref 0), (3, .int x3), (4, .int x4), (5, .int x5)] [] zΓM zρM σ 0 0 := by
  unfold w_X7_turn_J121 at hw
  refine z_iinc dX7_turn_121 rfl zi1 (Nat.le_of_ble_eq_true rfl) ?_
  refine z_goto dX7_turn_124 ?_
  exact z_to (hK72 _ _ _ _ hw) ⟨rfl, rfl, rfl, rfl, trivial⟩
set_option maxHeartbeats 4000000 in
set_option maxRecDepth 100000 in
theorem l_X7_turn_72  {Q : Int32 → zS → Prop} {K60 : Int32 → Int32 → zS → Prop} (hK60 : ∀ (a3 a4 : Int32) (σ : zS), K60 a3 a4 σ → zAW RX7 cX7_turn 6 (some .int) false { frames := 3, cells := 0, slots := 0, locals := 66 } zΓM.length (zN zΓM zρM Q) 60 [(0, .ref 0), (3, .int a3), (4, .int a4)] [] zΓM zρM σ 0 0) : ∀ (n : Nat) (x3 x4 x5 : Int32) (σ : zS), w_X7_turn_L72 Q K60 n x3 x4 x5 σ → zAW RX7 cX7_turn 6 (some .int) false { frames := 3, cells := 0, slots := 0, locals := 66 } zΓM.length (zN zΓM zρM Q) 72 [(0, .ref 0), (3, .int x3), (4, .int x4), (5, .int x5)] [] zΓM zρM σ 0 0 := by
  intro n
  induction n with
  | zero => intro x3 x4 x5 σ hw; exact hw.elim
  | succ n hK72 =>
    intro x3 x4 x5 σ hw
    rw [w_X7_turn_L72] at hw
    refine z_iload dX7_turn_72 rfl ?_
    refine z_aload_n dX7_turn_74 rfl rfl ?_
    refine z_geti dX7_turn_75 fX7_69 zm0 zkX7_5 ?_
    refine z_icmp_ge dX7_turn_78 hw (fun hw => ?_) (fun hw => ?_)
    · refine z_iinc dX7_turn_127 rfl zi1 (Nat.le_of_ble_eq_true rfl) ?_
      refine z_goto dX7_turn_130 ?_
      exact z_to (hK60 _ _ _ hw) ⟨rfl, rfl, rfl, trivial⟩
    · refine z_aload_n dX7_turn_81 rfl rfl ?_
      refine z_iload dX7_turn_82 rfl ?_
      refine z_iload dX7_turn_84 rfl ?_
      refine z_callV dX7_turn_86 mX7_90 (c_X7_rides  hw) zm0 rfl rfl (Nat.le_of_ble_eq_true rfl) ⟨Nat.le_of_ble_eq_true rfl, Nat.le_of_ble_eq_true rfl⟩ ⟨Nat.le_refl _, Nat.le_refl _⟩ (fun _ _ hw => ?_)
      refine z_if_eq dX7_turn_89 hw (fun hw => ?_) (fun hw => ?_)
      · exact z_to (j_X7_turn_121  hK60 hK72 hw) ⟨rfl, rfl, rfl, rfl, trivial⟩
      · refine z_aload_n dX7_turn_92 rfl rfl ?_
        refine z_iload dX7_turn_93 rfl ?_
        refine z_iconst dX7_turn_95 zi0 ?_
        refine z_callV dX7_turn_96 mX7_162 (c_X7_opens  hw) zm0 rfl rfl (Nat.le_of_ble_eq_true rfl) ⟨Nat.le_of_ble_eq_true rfl, Nat.le_of_ble_eq_true rfl⟩ ⟨Nat.le_refl _, Nat.le_refl _⟩ (fun _ _ hw => ?_)
        refine z_if_eq dX7_turn_99 hw (fun hw => ?_) (fun hw => ?_)
        · exact z_to (j_X7_turn_121  hK60 hK72 hw) ⟨rfl, rfl, rfl, rfl, trivial⟩
        · refine z_aload_n dX7_turn_102 rfl rfl ?_
          refine z_iload dX7_turn_103 rfl ?_
          refine z_aload_n dX7_turn_105 rfl rfl ?_
          refine z_aload_n dX7_turn_106 rfl rfl ?_
          refine z_iload dX7_turn_107 rfl ?_
          refine z_callV dX7_turn_109 mX7_97 (c_X7_partOf  hw) zm0 rfl rfl (Nat.le_of_ble_eq_true rfl) ⟨Nat.le_of_ble_eq_true rfl, Nat.le_of_ble_eq_true rfl⟩ ⟨Nat.le_refl _, Nat.le_refl _⟩ (fun _ _ hw => ?_)
          refine z_callV dX7_turn_112 mX7_110 (c_X7_floorOf  hw) zm0 rfl rfl (Nat.le_of_ble_eq_true rfl) ⟨Nat.le_of_ble_eq_true rfl, Nat.le_of_ble_eq_true rfl⟩ ⟨Nat.le_refl _, Nat.le_refl _⟩ (fun _ _ hw => ?_)
          refine z_callVv dX7_turn_115 mX7_113 (c_X7_leaves  hw) zm0 rfl rfl (Nat.le_of_ble_eq_true rfl) ⟨Nat.le_of_ble_eq_true rfl, Nat.le_of_ble_eq_true rfl⟩ ⟨Nat.le_refl _, Nat.le_refl _⟩ (fun _ hw => ?_)
          refine z_iinc dX7_turn_118 rfl zi1 (Nat.le_of_ble_eq_true rfl) ?_
          exact z_to (j_X7_turn_121  hK60 hK72 hw) ⟨rfl, rfl, rfl, rfl, trivial⟩
set_option maxHeartbeats 4000000 in
set_option maxRecDepth 100000 in
theorem l_X7_turn_60  {Q : Int32 → zS → Prop}   : ∀ (n : Nat) (x3 x4 : Int32) (σ : zS), w_X7_turn_L60 Q  n x3 x4 σ → zAW RX7 cX7_turn 6 (some .int) false { frames := 3, cells := 0, slots := 0, locals := 66 } zΓM.length (zN zΓM zρM Q) 60 [(0, .ref 0), (3, .int x3), (4, .int x4)] [] zΓM zρM σ 0 0 := by
  intro n
  induction n with
  | zero => intro x3 x4 σ hw; exact hw.elim
  | succ n hK60 =>
    intro x3 x4 σ hw
    rw [w_X7_turn_L60] at hw
    refine z_iload dX7_turn_60 rfl ?_
    refine z_aload_n dX7_turn_62 rfl rfl ?_
    refine z_callV dX7_turn_63 mX7_75 (c_X7_boxes  hw) zm0 rfl rfl (Nat.le_of_ble_eq_true rfl) ⟨Nat.le_of_ble_eq_true rfl, Nat.le_of_ble_eq_true rfl⟩ ⟨Nat.le_refl _, Nat.le_refl _⟩ (fun _ _ hw => ?_)
    refine z_icmp_ge dX7_turn_66 hw (fun hw => ?_) (fun hw => ?_)
    · refine z_iload_n dX7_turn_133 rfl rfl ?_
      exact z_iret dX7_turn_134 (Nat.le_refl _) (Nat.le_refl _) rfl ⟨rfl, rfl, hw⟩
    · refine z_iconst dX7_turn_69 zi0 ?_
      refine z_istore dX7_turn_70 (Nat.le_of_ble_eq_true rfl) ?_
      obtain ⟨n, hw⟩ := hw
      exact z_to (l_X7_turn_72  hK60 n _ _ _ _ hw) ⟨rfl, rfl, rfl, rfl, trivial⟩
set_option maxHeartbeats 4000000 in
set_option maxRecDepth 100000 in
theorem c_X7_turn  {x1 : Int32} {σ : zS} {Q : Int32 → zS → Prop} (hw : w_X7_turn x1 σ Q) : zAC yX7_turn cX7_turn 6 (some .int) { frames := 3, cells := 0, slots := 0, locals := 66 } [.ref 0, .int x1] zΓM zρM σ (zN zΓM zρM Q) := by
  refine z_entry (own := RX7) (ini := false) (plainFor_of_name pnX7) rfl (fun h => by cases h) (Nat.le_of_ble_eq_true rfl) ?_
  unfold w_X7_turn at hw
  refine z_iload_n dX7_turn_0 rfl rfl ?_
  refine z_bipush dX7_turn_1 zbpm100 ?_
  refine z_bipush dX7_turn_3 zbp100 ?_
  refine z_callS dX7_turn_5 mX7_65 (c_X7_in  hw) rfl rfl (Nat.le_of_ble_eq_true rfl) ⟨Nat.le_of_ble_eq_true rfl, Nat.le_of_ble_eq_true rfl⟩ ⟨Nat.le_refl _, Nat.le_refl _⟩ (fun _ _ hw => ?_)
  refine z_if_ne dX7_turn_8 hw (fun hw => ?_) (fun hw => ?_)
  · refine z_aload_n dX7_turn_13 rfl rfl ?_
    refine z_getr dX7_turn_14 fX7_47 zm0 zkX7_13 zrM13 ?_
    refine z_iconst dX7_turn_17 zi2 ?_
    refine z_iald dX7_turn_18 zm8 hw (fun hw => ?_)
    refine z_if_ne dX7_turn_19 hw (fun hw => ?_) (fun hw => ?_)
    · refine z_aload_n dX7_turn_25 rfl rfl ?_
      refine z_callV dX7_turn_26 mX7_75 (c_X7_boxes  hw) zm0 rfl rfl (Nat.le_of_ble_eq_true rfl) ⟨Nat.le_of_ble_eq_true rfl, Nat.le_of_ble_eq_true rfl⟩ ⟨Nat.le_refl _, Nat.le_refl _⟩ (fun _ _ hw => ?_)
      refine z_aload_n dX7_turn_29 rfl rfl ?_
      refine z_geti dX7_turn_30 fX7_13 zm0 zkX7_1 ?_
      refine z_imul dX7_turn_33 ?_
      refine z_istore_n dX7_turn_34 rfl (Nat.le_of_ble_eq_true rfl) ?_
      refine z_aload_n dX7_turn_35 rfl rfl ?_
      refine z_getr dX7_turn_36 fX7_47 zm0 zkX7_13 zrM13 ?_
      refine z_iconst dX7_turn_39 zi1 ?_
      refine z_aload_n dX7_turn_40 rfl rfl ?_
      refine z_getr dX7_turn_41 fX7_47 zm0 zkX7_13 zrM13 ?_
      refine z_iconst dX7_turn_44 zi1 ?_
      refine z_iald dX7_turn_45 zm8 hw (fun hw => ?_)
      refine z_iload_n dX7_turn_46 rfl rfl ?_
      refine z_iadd dX7_turn_47 ?_
      refine z_iload_n dX7_turn_48 rfl rfl ?_
      refine z_irem dX7_turn_49 hw (fun hw => ?_)
      refine z_iload_n dX7_turn_50 rfl rfl ?_
      refine z_iadd dX7_turn_51 ?_
      refine z_iload_n dX7_turn_52 rfl rfl ?_
      refine z_irem dX7_turn_53 hw (fun hw => ?_)
      refine z_iastL dX7_turn_54 zm8 hw (fun hw => ?_)
      refine z_iconst dX7_turn_55 zi0 ?_
      refine z_istore_n dX7_turn_56 rfl (Nat.le_of_ble_eq_true rfl) ?_
      refine z_iconst dX7_turn_57 zi0 ?_
      refine z_istore dX7_turn_58 (Nat.le_of_ble_eq_true rfl) ?_
      obtain ⟨n, hw⟩ := hw
      exact z_to (l_X7_turn_60   n _ _ _ hw) ⟨rfl, rfl, rfl, trivial⟩
    · refine z_bipush dX7_turn_22 zbpm2 ?_
      exact z_iret dX7_turn_24 (Nat.le_refl _) (Nat.le_refl _) rfl ⟨rfl, rfl, hw⟩
  · refine z_iconst dX7_turn_11 zim1 ?_
    exact z_iret dX7_turn_12 (Nat.le_refl _) (Nat.le_refl _) rfl ⟨rfl, rfl, hw⟩
def w_X7_counted_J35 (Q : Int32 → zS → Prop)  (x1 s0 : Int32) (σ : zS) : Prop := (vp_in ((s0 + x1)) 389 ∧ Q (σ.2 8 ((s0 + x1)).toNatClampNeg) σ)
def w_X7_counted  (x1 x2 : Int32) (σ : zS) (Q : Int32 → zS → Prop) : Prop := (w_X7_isFloor x1 σ fun v1 t2 => ((v1 = 0 → Q (-1 : Int32) t2) ∧ (¬ (v1 = 0) → (w_X7_in x2 ((0 : Int32)) ((1 : Int32)) t2 fun v3 t4 => ((v3 = 0 → Q (-1 : Int32) t4) ∧ (¬ (v3 = 0) → ((x2 = 0 → w_X7_counted_J35 Q  x1 ((125 : Int32)) t4) ∧ (¬ (x2 = 0) → w_X7_counted_J35 Q  x1 ((133 : Int32)) t4))))))))
set_option maxHeartbeats 4000000 in
set_option maxRecDepth 100000 in
theorem j_X7_counted_35  {Q : Int32 → zS → Prop}   {x1 s0 : Int32} {σ : zS} (hw : w_X7_counted_J35 Q  x1 s0 σ) : zAW RX7 cX7_counted 3 (some .int) false { frames := 2, cells := 0, slots := 0, locals := 43 } zΓM.length (zN zΓM zρM Q) 35 [(1, .int x1)] [.int s0, .ref 8] zΓM zρM σ 0 0 := by
  unfold w_X7_counted_J35 at hw
  refine z_iload_n dX7_counted_35 rfl rfl ?_
  refine z_iadd dX7_counted_36 ?_
  refine z_iald dX7_counted_37 zm8 hw (fun hw => ?_)
  exact z_iret dX7_counted_38 (Nat.le_refl _) (Nat.le_refl _) rfl ⟨rfl, rfl, hw⟩
set_option maxHeartbeats 4000000 in
set_option maxRecDepth 100000 in
theorem c_X7_counted  {x1 x2 : Int32} {σ : zS} {Q : Int32 → zS → Prop} (hw : w_X7_counted x1 x2 σ Q) : zAC yX7_counted cX7_counted 3 (some .int) { frames := 2, cells := 0, slots := 0, locals := 43 } [.ref 0, .int x1, .int x2] zΓM zρM σ (zN zΓM zρM Q) := by
  refine z_entry (own := RX7) (ini := false) (plainFor_of_name pnX7) rfl (fun h => by cases h) (Nat.le_of_ble_eq_true rfl) ?_
  unfold w_X7_counted at hw
  refine z_aload_n dX7_counted_0 rfl rfl ?_
  refine z_iload_n dX7_counted_1 rfl rfl ?_
  refine z_callV dX7_counted_2 mX7_79 (c_X7_isFloor  hw) zm0 rfl rfl (Nat.le_of_ble_eq_true rfl) ⟨Nat.le_of_ble_eq_true rfl, Nat.le_of_ble_eq_true rfl⟩ ⟨Nat.le_refl _, Nat.le_refl _⟩ (fun _ _ hw => ?_)
  refine z_if_eq dX7_counted_5 hw (fun hw => ?_) (fun hw => ?_)
  · refine z_iconst dX7_counted_17 zim1 ?_
    exact z_iret dX7_counted_18 (Nat.le_refl _) (Nat.le_refl _) rfl ⟨rfl, rfl, hw⟩
  · refine z_iload_n dX7_counted_8 rfl rfl ?_
    refine z_iconst dX7_counted_9 zi0 ?_
    refine z_iconst dX7_counted_10 zi1 ?_
    refine z_callS dX7_counted_11 mX7_65 (c_X7_in  hw) rfl rfl (Nat.le_of_ble_eq_true rfl) ⟨Nat.le_of_ble_eq_true rfl, Nat.le_of_ble_eq_true rfl⟩ ⟨Nat.le_refl _, Nat.le_refl _⟩ (fun _ _ hw => ?_)
    refine z_if_ne dX7_counted_14 hw (fun hw => ?_) (fun hw => ?_)
    · refine z_aload_n dX7_counted_19 rfl rfl ?_
      refine z_getr dX7_counted_20 fX7_47 zm0 zkX7_13 zrM13 ?_
      refine z_iload_n dX7_counted_23 rfl rfl ?_
      refine z_if_ne dX7_counted_24 hw (fun hw => ?_) (fun hw => ?_)
      · refine z_sipush dX7_counted_32 zsp133 ?_
        exact z_to (j_X7_counted_35   hw) ⟨rfl, trivial⟩
      · refine z_bipush dX7_counted_27 zbp125 ?_
        refine z_goto dX7_counted_29 ?_
        exact z_to (j_X7_counted_35   hw) ⟨rfl, trivial⟩
    · refine z_iconst dX7_counted_17 zim1 ?_
      exact z_iret dX7_counted_18 (Nat.le_refl _) (Nat.le_refl _) rfl ⟨rfl, rfl, hw⟩
def w_X7_tell  (x1 x2 x3 : Int32) (σ : zS) (Q : Int32 → zS → Prop) : Prop := (w_X7_isFloor x1 σ fun v1 t2 => ((v1 = 0 → Q (-100 : Int32) t2) ∧ (¬ (v1 = 0) → (w_X7_in x2 ((0 : Int32)) ((1 : Int32)) t2 fun v3 t4 => ((v3 = 0 → Q (-100 : Int32) t4) ∧ (¬ (v3 = 0) → (w_X7_in x3 ((-1 : Int32)) ((100 : Int32)) t4 fun v5 t6 => ((v5 = 0 → Q (-100 : Int32) t6) ∧ (¬ (v5 = 0) → (vp_in ((((2 : Int32) * x1) + x2)) 16 ∧ (vp_in ((((2 : Int32) * x1) + x2)) 16 ∧ zlet (zA t6 10 ((((2 : Int32) * x1) + x2)).toNatClampNeg x3) fun t7 => Q (t6.2 10 ((((2 : Int32) * x1) + x2)).toNatClampNeg) t7)))))))))))
set_option maxHeartbeats 4000000 in
set_option maxRecDepth 100000 in
theorem c_X7_tell  {x1 x2 x3 : Int32} {σ : zS} {Q : Int32 → zS → Prop} (hw : w_X7_tell x1 x2 x3 σ Q) : zAC yX7_tell cX7_tell 5 (some .int) { frames := 2, cells := 0, slots := 0, locals := 43 } [.ref 0, .int x1, .int x2, .int x3] zΓM zρM σ (zN zΓM zρM Q) := by
  refine z_entry (own := RX7) (ini := false) (plainFor_of_name pnX7) rfl (fun h => by cases h) (Nat.le_of_ble_eq_true rfl) ?_
  unfold w_X7_tell at hw
  refine z_aload_n dX7_tell_0 rfl rfl ?_
  refine z_iload_n dX7_tell_1 rfl rfl ?_
  refine z_callV dX7_tell_2 mX7_79 (c_X7_isFloor  hw) zm0 rfl rfl (Nat.le_of_ble_eq_true rfl) ⟨Nat.le_of_ble_eq_true rfl, Nat.le_of_ble_eq_true rfl⟩ ⟨Nat.le_refl _, Nat.le_refl _⟩ (fun _ _ hw => ?_)
  refine z_if_eq dX7_tell_5 hw (fun hw => ?_) (fun hw => ?_)
  · refine z_bipush dX7_tell_27 zbpm100 ?_
    exact z_iret dX7_tell_29 (Nat.le_refl _) (Nat.le_refl _) rfl ⟨rfl, rfl, hw⟩
  · refine z_iload_n dX7_tell_8 rfl rfl ?_
    refine z_iconst dX7_tell_9 zi0 ?_
    refine z_iconst dX7_tell_10 zi1 ?_
    refine z_callS dX7_tell_11 mX7_65 (c_X7_in  hw) rfl rfl (Nat.le_of_ble_eq_true rfl) ⟨Nat.le_of_ble_eq_true rfl, Nat.le_of_ble_eq_true rfl⟩ ⟨Nat.le_refl _, Nat.le_refl _⟩ (fun _ _ hw => ?_)
    refine z_if_eq dX7_tell_14 hw (fun hw => ?_) (fun hw => ?_)
    · refine z_bipush dX7_tell_27 zbpm100 ?_
      exact z_iret dX7_tell_29 (Nat.le_refl _) (Nat.le_refl _) rfl ⟨rfl, rfl, hw⟩
    · refine z_iload_n dX7_tell_17 rfl rfl ?_
      refine z_iconst dX7_tell_18 zim1 ?_
      refine z_bipush dX7_tell_19 zbp100 ?_
      refine z_callS dX7_tell_21 mX7_65 (c_X7_in  hw) rfl rfl (Nat.le_of_ble_eq_true rfl) ⟨Nat.le_of_ble_eq_true rfl, Nat.le_of_ble_eq_true rfl⟩ ⟨Nat.le_refl _, Nat.le_refl _⟩ (fun _ _ hw => ?_)
      refine z_if_ne dX7_tell_24 hw (fun hw => ?_) (fun hw => ?_)
      · refine z_aload_n dX7_tell_30 rfl rfl ?_
        refine z_getr dX7_tell_31 fX7_53 zm0 zkX7_15 zrM15 ?_
        refine z_iconst dX7_tell_34 zi2 ?_
        refine z_iload_n dX7_tell_35 rfl rfl ?_
        refine z_imul dX7_tell_36 ?_
        refine z_iload_n dX7_tell_37 rfl rfl ?_
        refine z_iadd dX7_tell_38 ?_
        refine z_iald dX7_tell_39 zm10 hw (fun hw => ?_)
        refine z_istore dX7_tell_40 (Nat.le_of_ble_eq_true rfl) ?_
        refine z_aload_n dX7_tell_42 rfl rfl ?_
        refine z_getr dX7_tell_43 fX7_53 zm0 zkX7_15 zrM15 ?_
        refine z_iconst dX7_tell_46 zi2 ?_
        refine z_iload_n dX7_tell_47 rfl rfl ?_
        refine z_imul dX7_tell_48 ?_
        refine z_iload_n dX7_tell_49 rfl rfl ?_
        refine z_iadd dX7_tell_50 ?_
        refine z_iload_n dX7_tell_51 rfl rfl ?_
        refine z_iastL dX7_tell_52 zm10 hw (fun hw => ?_)
        refine z_iload dX7_tell_53 rfl ?_
        exact z_iret dX7_tell_55 (Nat.le_refl _) (Nat.le_refl _) rfl ⟨rfl, rfl, hw⟩
      · refine z_bipush dX7_tell_27 zbpm100 ?_
        exact z_iret dX7_tell_29 (Nat.le_refl _) (Nat.le_refl _) rfl ⟨rfl, rfl, hw⟩
def w_X7_fits_J103 (Q : Int32 → zS → Prop) (K19 : Int32 → Int32 → Int32 → Int32 → zS → Prop) (x1 x2 x4 s0 s1 s2 : Int32) (σ : zS) : Prop := K19 x1 x2 ((s2 + (s1 - s0))) ((x4 + (1 : Int32))) σ
def w_X7_fits_J92 (Q : Int32 → zS → Prop) (K19 : Int32 → Int32 → Int32 → Int32 → zS → Prop) (x1 x2 x4 x6 s0 s1 : Int32) (σ : zS) : Prop := ((0 ≤ x6 → w_X7_fits_J103 Q K19 x1 x2 x4 x6 s0 s1 σ) ∧ (¬ (0 ≤ x6) → w_X7_fits_J103 Q K19 x1 x2 x4 ((0 : Int32)) s0 s1 σ))
def w_X7_fits_J76 (Q : Int32 → zS → Prop) (K19 : Int32 → Int32 → Int32 → Int32 → zS → Prop) (x1 x3 x4 x5 x6 s0 s1 s2 : Int32) (σ : zS) : Prop := ((0 ≤ x5 → w_X7_fits_J92 Q K19 x1 ((s2 + (s1 - s0))) x4 x6 x5 x3 σ) ∧ (¬ (0 ≤ x5) → w_X7_fits_J92 Q K19 x1 ((s2 + (s1 - s0))) x4 x6 ((100 : Int32)) x3 σ))
def w_X7_fits_J64 (Q : Int32 → zS → Prop) (K19 : Int32 → Int32 → Int32 → Int32 → zS → Prop) (x1 x3 x4 x5 x6 s0 s1 : Int32) (σ : zS) : Prop := ((0 ≤ x6 → w_X7_fits_J76 Q K19 x1 x3 x4 x5 x6 x6 s0 s1 σ) ∧ (¬ (0 ≤ x6) → w_X7_fits_J76 Q K19 x1 x3 x4 x5 x6 ((100 : Int32)) s0 s1 σ))
def w_X7_fits_L19 (Q : Int32 → zS → Prop)  : Nat → Int32 → Int32 → Int32 → Int32 → zS → Prop
  | 0, _, _, _, _, _ => False
  | n + 1, x1, x2, x3, x4, σ => (((σ.1 0 0) ≤ x4 → (w_X7_in x1 x2 x3 σ fun v1 t2 => ((v1 = 0 → Q (0 : Int32) t2) ∧ (¬ (v1 = 0) → Q (1 : Int32) t2)))) ∧ (¬ ((σ.1 0 0) ≤ x4) → (vp_in (((2 : Int32) * x4)) 16 ∧ (vp_in ((((2 : Int32) * x4) + (1 : Int32))) 16 ∧ ((0 ≤ (σ.2 10 (((2 : Int32) * x4)).toNatClampNeg) → w_X7_fits_J64 Q (fun a1 a2 a3 a4 aσ => w_X7_fits_L19 Q  n a1 a2 a3 a4 aσ) x1 x3 x4 ((σ.2 10 (((2 : Int32) * x4)).toNatClampNeg)) ((σ.2 10 ((((2 : Int32) * x4) + (1 : Int32))).toNatClampNeg)) ((σ.2 10 (((2 : Int32) * x4)).toNatClampNeg)) x2 σ) ∧ (¬ (0 ≤ (σ.2 10 (((2 : Int32) * x4)).toNatClampNeg)) → w_X7_fits_J64 Q (fun a1 a2 a3 a4 aσ => w_X7_fits_L19 Q  n a1 a2 a3 a4 aσ) x1 x3 x4 ((σ.2 10 (((2 : Int32) * x4)).toNatClampNeg)) ((σ.2 10 ((((2 : Int32) * x4) + (1 : Int32))).toNatClampNeg)) ((0 : Int32)) x2 σ))))))
def w_X7_fits  (x1 : Int32) (σ : zS) (Q : Int32 → zS → Prop) : Prop := (w_X7_in x1 ((0 : Int32)) ((100 : Int32)) σ fun v1 t2 => ((v1 = 0 → Q (-1 : Int32) t2) ∧ (¬ (v1 = 0) → ∃ m19, w_X7_fits_L19 Q  m19 x1 ((0 : Int32)) ((0 : Int32)) ((0 : Int32)) t2)))
set_option maxHeartbeats 4000000 in
set_option maxRecDepth 100000 in
theorem j_X7_fits_103  {Q : Int32 → zS → Prop} {K19 : Int32 → Int32 → Int32 → Int32 → zS → Prop} (hK19 : ∀ (a1 a2 a3 a4 : Int32) (σ : zS), K19 a1 a2 a3 a4 σ → zAW RX7 cX7_fits 7 (some .int) false { frames := 1, cells := 0, slots := 0, locals := 22 } zΓM.length (zN zΓM zρM Q) 19 [(0, .ref 0), (1, .int a1), (2, .int a2), (3, .int a3), (4, .int a4)] [] zΓM zρM σ 0 0) {x1 x2 x4 s0 s1 s2 : Int32} {σ : zS} (hw : w_X7_fits_J103 Q K19 x1 x2 x4 s0 s1 s2 σ) : zAW RX7 cX7_fits 7 (some .int) false { frames := 1, cells := 0, slots := 0, locals := 22 } zΓM.length (zN zΓM zρM Q) 103 [(0, .ref 0), (1, .int x1), (2, .int x2), (4, .int x4)] [.int s0, .int s1, .int s2] zΓM zρM σ 0 0 := by
  unfold w_X7_fits_J103 at hw
  refine z_isub dX7_fits_103 ?_
  refine z_iadd dX7_fits_104 ?_
  refine z_istore_n dX7_fits_105 rfl (Nat.le_of_ble_eq_true rfl) ?_
  refine z_iinc dX7_fits_106 rfl zi1 (Nat.le_of_ble_eq_true rfl) ?_
  refine z_goto dX7_fits_109 ?_
  exact z_to (hK19 _ _ _ _ _ hw) ⟨rfl, rfl, rfl, rfl, rfl, trivial⟩
set_option maxHeartbeats 4000000 in
set_option maxRecDepth 100000 in
theorem j_X7_fits_92  {Q : Int32 → zS → Prop} {K19 : Int32 → Int32 → Int32 → Int32 → zS → Prop} (hK19 : ∀ (a1 a2 a3 a4 : Int32) (σ : zS), K19 a1 a2 a3 a4 σ → zAW RX7 cX7_fits 7 (some .int) false { frames := 1, cells := 0, slots := 0, locals := 22 } zΓM.length (zN zΓM zρM Q) 19 [(0, .ref 0), (1, .int a1), (2, .int a2), (3, .int a3), (4, .int a4)] [] zΓM zρM σ 0 0) {x1 x2 x4 x6 s0 s1 : Int32} {σ : zS} (hw : w_X7_fits_J92 Q K19 x1 x2 x4 x6 s0 s1 σ) : zAW RX7 cX7_fits 7 (some .int) false { frames := 1, cells := 0, slots := 0, locals := 22 } zΓM.length (zN zΓM zρM Q) 92 [(0, .ref 0), (1, .int x1), (2, .int x2), (4, .int x4), (6, .int x6)] [.int s0, .int s1] zΓM zρM σ 0 0 := by
  unfold w_X7_fits_J92 at hw
  refine z_iload dX7_fits_92 rfl ?_
  refine z_if_ge dX7_fits_94 hw (fun hw => ?_) (fun hw => ?_)
  · refine z_iload dX7_fits_101 rfl ?_
    exact z_to (j_X7_fits_103  hK19 hw) ⟨rfl, rfl, rfl, rfl, trivial⟩
  · refine z_iconst dX7_fits_97 zi0 ?_
    refine z_goto dX7_fits_98 ?_
    exact z_to (j_X7_fits_103  hK19 hw) ⟨rfl, rfl, rfl, rfl, trivial⟩
set_option maxHeartbeats 4000000 in
set_option maxRecDepth 100000 in
theorem j_X7_fits_76  {Q : Int32 → zS → Prop} {K19 : Int32 → Int32 → Int32 → Int32 → zS → Prop} (hK19 : ∀ (a1 a2 a3 a4 : Int32) (σ : zS), K19 a1 a2 a3 a4 σ → zAW RX7 cX7_fits 7 (some .int) false { frames := 1, cells := 0, slots := 0, locals := 22 } zΓM.length (zN zΓM zρM Q) 19 [(0, .ref 0), (1, .int a1), (2, .int a2), (3, .int a3), (4, .int a4)] [] zΓM zρM σ 0 0) {x1 x3 x4 x5 x6 s0 s1 s2 : Int32} {σ : zS} (hw : w_X7_fits_J76 Q K19 x1 x3 x4 x5 x6 s0 s1 s2 σ) : zAW RX7 cX7_fits 7 (some .int) false { frames := 1, cells := 0, slots := 0, locals := 22 } zΓM.length (zN zΓM zρM Q) 76 [(0, .ref 0), (1, .int x1), (3, .int x3), (4, .int x4), (5, .int x5), (6, .int x6)] [.int s0, .int s1, .int s2] zΓM zρM σ 0 0 := by
  unfold w_X7_fits_J76 at hw
  refine z_isub dX7_fits_76 ?_
  refine z_iadd dX7_fits_77 ?_
  refine z_istore_n dX7_fits_78 rfl (Nat.le_of_ble_eq_true rfl) ?_
  refine z_iload_n dX7_fits_79 rfl rfl ?_
  refine z_iload dX7_fits_80 rfl ?_
  refine z_if_ge dX7_fits_82 hw (fun hw => ?_) (fun hw => ?_)
  · refine z_iload dX7_fits_90 rfl ?_
    exact z_to (j_X7_fits_92  hK19 hw) ⟨rfl, rfl, rfl, rfl, rfl, trivial⟩
  · refine z_bipush dX7_fits_85 zbp100 ?_
    refine z_goto dX7_fits_87 ?_
    exact z_to (j_X7_fits_92  hK19 hw) ⟨rfl, rfl, rfl, rfl, rfl, trivial⟩
set_option maxHeartbeats 4000000 in
set_option maxRecDepth 100000 in
theorem j_X7_fits_64  {Q : Int32 → zS → Prop} {K19 : Int32 → Int32 → Int32 → Int32 → zS → Prop} (hK19 : ∀ (a1 a2 a3 a4 : Int32) (σ : zS), K19 a1 a2 a3 a4 σ → zAW RX7 cX7_fits 7 (some .int) false { frames := 1, cells := 0, slots := 0, locals := 22 } zΓM.length (zN zΓM zρM Q) 19 [(0, .ref 0), (1, .int a1), (2, .int a2), (3, .int a3), (4, .int a4)] [] zΓM zρM σ 0 0) {x1 x3 x4 x5 x6 s0 s1 : Int32} {σ : zS} (hw : w_X7_fits_J64 Q K19 x1 x3 x4 x5 x6 s0 s1 σ) : zAW RX7 cX7_fits 7 (some .int) false { frames := 1, cells := 0, slots := 0, locals := 22 } zΓM.length (zN zΓM zρM Q) 64 [(0, .ref 0), (1, .int x1), (3, .int x3), (4, .int x4), (5, .int x5), (6, .int x6)] [.int s0, .int s1] zΓM zρM σ 0 0 := by
  unfold w_X7_fits_J64 at hw
  refine z_iload dX7_fits_64 rfl ?_
  refine z_if_ge dX7_fits_66 hw (fun hw => ?_) (fun hw => ?_)
  · refine z_iload dX7_fits_74 rfl ?_
    exact z_to (j_X7_fits_76  hK19 hw) ⟨rfl, rfl, rfl, rfl, rfl, rfl, trivial⟩
  · refine z_bipush dX7_fits_69 zbp100 ?_
    refine z_goto dX7_fits_71 ?_
    exact z_to (j_X7_fits_76  hK19 hw) ⟨rfl, rfl, rfl, rfl, rfl, rfl, trivial⟩
set_option maxHeartbeats 4000000 in
set_option maxRecDepth 100000 in
theorem l_X7_fits_19  {Q : Int32 → zS → Prop}   : ∀ (n : Nat) (x1 x2 x3 x4 : Int32) (σ : zS), w_X7_fits_L19 Q  n x1 x2 x3 x4 σ → zAW RX7 cX7_fits 7 (some .int) false { frames := 1, cells := 0, slots := 0, locals := 22 } zΓM.length (zN zΓM zρM Q) 19 [(0, .ref 0), (1, .int x1), (2, .int x2), (3, .int x3), (4, .int x4)] [] zΓM zρM σ 0 0 := by
  intro n
  induction n with
  | zero => intro x1 x2 x3 x4 σ hw; exact hw.elim
  | succ n hK19 =>
    intro x1 x2 x3 x4 σ hw
    rw [w_X7_fits_L19] at hw
    refine z_iload dX7_fits_19 rfl ?_
    refine z_aload_n dX7_fits_21 rfl rfl ?_
    refine z_geti dX7_fits_22 fX7_7 zm0 zkX7_0 ?_
    refine z_icmp_ge dX7_fits_25 hw (fun hw => ?_) (fun hw => ?_)
    · refine z_iload_n dX7_fits_112 rfl rfl ?_
      refine z_iload_n dX7_fits_113 rfl rfl ?_
      refine z_iload_n dX7_fits_114 rfl rfl ?_
      refine z_callS dX7_fits_115 mX7_65 (c_X7_in  hw) rfl rfl (Nat.le_of_ble_eq_true rfl) ⟨Nat.le_of_ble_eq_true rfl, Nat.le_of_ble_eq_true rfl⟩ ⟨Nat.le_refl _, Nat.le_refl _⟩ (fun _ _ hw => ?_)
      refine z_if_eq dX7_fits_118 hw (fun hw => ?_) (fun hw => ?_)
      · refine z_iconst dX7_fits_125 zi0 ?_
        exact z_iret dX7_fits_126 (Nat.le_refl _) (Nat.le_refl _) rfl ⟨rfl, rfl, hw⟩
      · refine z_iconst dX7_fits_121 zi1 ?_
        refine z_goto dX7_fits_122 ?_
        exact z_iret dX7_fits_126 (Nat.le_refl _) (Nat.le_refl _) rfl ⟨rfl, rfl, hw⟩
    · refine z_aload_n dX7_fits_28 rfl rfl ?_
      refine z_getr dX7_fits_29 fX7_53 zm0 zkX7_15 zrM15 ?_
      refine z_iconst dX7_fits_32 zi2 ?_
      refine z_iload dX7_fits_33 rfl ?_
      refine z_imul dX7_fits_35 ?_
      refine z_iald dX7_fits_36 zm10 hw (fun hw => ?_)
      refine z_istore dX7_fits_37 (Nat.le_of_ble_eq_true rfl) ?_
      refine z_aload_n dX7_fits_39 rfl rfl ?_
      refine z_getr dX7_fits_40 fX7_53 zm0 zkX7_15 zrM15 ?_
      refine z_iconst dX7_fits_43 zi2 ?_
      refine z_iload dX7_fits_44 rfl ?_
      refine z_imul dX7_fits_46 ?_
      refine z_iconst dX7_fits_47 zi1 ?_
      refine z_iadd dX7_fits_48 ?_
      refine z_iald dX7_fits_49 zm10 hw (fun hw => ?_)
      refine z_istore dX7_fits_50 (Nat.le_of_ble_eq_true rfl) ?_
      refine z_iload_n dX7_fits_52 rfl rfl ?_
      refine z_iload dX7_fits_53 rfl ?_
      refine z_if_ge dX7_fits_55 hw (fun hw => ?_) (fun hw => ?_)
      · refine z_iload dX7_fits_62 rfl ?_
        exact z_to (j_X7_fits_64  hK19 hw) ⟨rfl, rfl, rfl, rfl, rfl, rfl, trivial⟩
      · refine z_iconst dX7_fits_58 zi0 ?_
        refine z_goto dX7_fits_59 ?_
        exact z_to (j_X7_fits_64  hK19 hw) ⟨rfl, rfl, rfl, rfl, rfl, rfl, trivial⟩
set_option maxHeartbeats 4000000 in
set_option maxRecDepth 100000 in
theorem c_X7_fits  {x1 : Int32} {σ : zS} {Q : Int32 → zS → Prop} (hw : w_X7_fits x1 σ Q) : zAC yX7_fits cX7_fits 7 (some .int) { frames := 1, cells := 0, slots := 0, locals := 22 } [.ref 0, .int x1] zΓM zρM σ (zN zΓM zρM Q) := by
  refine z_entry (own := RX7) (ini := false) (plainFor_of_name pnX7) rfl (fun h => by cases h) (Nat.le_of_ble_eq_true rfl) ?_
  unfold w_X7_fits at hw
  refine z_iload_n dX7_fits_0 rfl rfl ?_
  refine z_iconst dX7_fits_1 zi0 ?_
  refine z_bipush dX7_fits_2 zbp100 ?_
  refine z_callS dX7_fits_4 mX7_65 (c_X7_in  hw) rfl rfl (Nat.le_of_ble_eq_true rfl) ⟨Nat.le_of_ble_eq_true rfl, Nat.le_of_ble_eq_true rfl⟩ ⟨Nat.le_refl _, Nat.le_refl _⟩ (fun _ _ hw => ?_)
  refine z_if_ne dX7_fits_7 hw (fun hw => ?_) (fun hw => ?_)
  · refine z_iconst dX7_fits_12 zi0 ?_
    refine z_istore_n dX7_fits_13 rfl (Nat.le_of_ble_eq_true rfl) ?_
    refine z_iconst dX7_fits_14 zi0 ?_
    refine z_istore_n dX7_fits_15 rfl (Nat.le_of_ble_eq_true rfl) ?_
    refine z_iconst dX7_fits_16 zi0 ?_
    refine z_istore dX7_fits_17 (Nat.le_of_ble_eq_true rfl) ?_
    obtain ⟨n, hw⟩ := hw
    exact z_to (l_X7_fits_19   n _ _ _ _ _ hw) ⟨rfl, rfl, rfl, rfl, rfl, trivial⟩
  · refine z_iconst dX7_fits_10 zim1 ?_
    exact z_iret dX7_fits_11 (Nat.le_refl _) (Nat.le_refl _) rfl ⟨rfl, rfl, hw⟩
def w_X7_wrong_J97 (Q : Int32 → zS → Prop) (K4 : Int32 → Int32 → zS → Prop) (x2 s0 s1 : Int32) (σ : zS) : Prop := K4 ((s1 ||| s0)) ((x2 + (1 : Int32))) σ
def w_X7_wrong_J84 (Q : Int32 → zS → Prop) (K4 : Int32 → Int32 → zS → Prop) (x1 x2 s0 : Int32) (σ : zS) : Prop := ((s0 = 0 → w_X7_wrong_J97 Q K4 x2 ((0 : Int32)) x1 σ) ∧ (¬ (s0 = 0) → w_X7_wrong_J97 Q K4 x2 (((1 : Int32) <<< (x2 &&& 31))) x1 σ))
def w_X7_wrong_J83 (Q : Int32 → zS → Prop) (K4 : Int32 → Int32 → zS → Prop) (x1 x2 : Int32) (σ : zS) : Prop := w_X7_wrong_J84 Q K4 x1 x2 ((0 : Int32)) σ
def w_X7_wrong_J79 (Q : Int32 → zS → Prop) (K4 : Int32 → Int32 → zS → Prop) (x1 x2 : Int32) (σ : zS) : Prop := w_X7_wrong_J84 Q K4 x1 x2 ((1 : Int32)) σ
def w_X7_wrong_J43 (Q : Int32 → zS → Prop) (K4 : Int32 → Int32 → zS → Prop) (x1 x2 : Int32) (σ : zS) : Prop := (vp_in ((((2 : Int32) * x2) + (1 : Int32))) 16 ∧ (((σ.2 10 ((((2 : Int32) * x2) + (1 : Int32))).toNatClampNeg) < 0 → w_X7_wrong_J83 Q K4 x1 x2  σ) ∧ (¬ ((σ.2 10 ((((2 : Int32) * x2) + (1 : Int32))).toNatClampNeg) < 0) → (vp_in ((((2 : Int32) * x2) + (1 : Int32))) 16 ∧ (vp_in (((133 : Int32) + x2)) 389 ∧ (((σ.2 10 ((((2 : Int32) * x2) + (1 : Int32))).toNatClampNeg) = (σ.2 8 (((133 : Int32) + x2)).toNatClampNeg) → w_X7_wrong_J83 Q K4 x1 x2  σ) ∧ (¬ ((σ.2 10 ((((2 : Int32) * x2) + (1 : Int32))).toNatClampNeg) = (σ.2 8 (((133 : Int32) + x2)).toNatClampNeg)) → w_X7_wrong_J79 Q K4 x1 x2  σ)))))))
def w_X7_wrong_L4 (Q : Int32 → zS → Prop)  : Nat → Int32 → Int32 → zS → Prop
  | 0, _, _, _ => False
  | n + 1, x1, x2, σ => (((σ.1 0 0) ≤ x2 → Q x1 σ) ∧ (¬ ((σ.1 0 0) ≤ x2) → (vp_in (((2 : Int32) * x2)) 16 ∧ (((σ.2 10 (((2 : Int32) * x2)).toNatClampNeg) < 0 → w_X7_wrong_J43 Q (fun a1 a2 aσ => w_X7_wrong_L4 Q  n a1 a2 aσ) x1 x2  σ) ∧ (¬ ((σ.2 10 (((2 : Int32) * x2)).toNatClampNeg) < 0) → (vp_in (((2 : Int32) * x2)) 16 ∧ (vp_in (((125 : Int32) + x2)) 389 ∧ (((σ.2 10 (((2 : Int32) * x2)).toNatClampNeg) = (σ.2 8 (((125 : Int32) + x2)).toNatClampNeg) → w_X7_wrong_J43 Q (fun a1 a2 aσ => w_X7_wrong_L4 Q  n a1 a2 aσ) x1 x2  σ) ∧ (¬ ((σ.2 10 (((2 : Int32) * x2)).toNatClampNeg) = (σ.2 8 (((125 : Int32) + x2)).toNatClampNeg)) → w_X7_wrong_J79 Q (fun a1 a2 aσ => w_X7_wrong_L4 Q  n a1 a2 aσ) x1 x2  σ)))))))))
def w_X7_wrong  (σ : zS) (Q : Int32 → zS → Prop) : Prop := ∃ m4, w_X7_wrong_L4 Q  m4 ((0 : Int32)) ((0 : Int32)) σ
set_option maxHeartbeats 4000000 in
set_option maxRecDepth 100000 in
theorem j_X7_wrong_97  {Q : Int32 → zS → Prop} {K4 : Int32 → Int32 → zS → Prop} (hK4 : ∀ (a1 a2 : Int32) (σ : zS), K4 a1 a2 σ → zAW RX7 cX7_wrong 4 (some .int) false { frames := 0, cells := 0, slots := 0, locals := 0 } zΓM.length (zN zΓM zρM Q) 4 [(0, .ref 0), (1, .int a1), (2, .int a2)] [] zΓM zρM σ 0 0) {x2 s0 s1 : Int32} {σ : zS} (hw : w_X7_wrong_J97 Q K4 x2 s0 s1 σ) : zAW RX7 cX7_wrong 4 (some .int) false { frames := 0, cells := 0, slots := 0, locals := 0 } zΓM.length (zN zΓM zρM Q) 97 [(0, .ref 0), (2, .int x2)] [.int s0, .int s1] zΓM zρM σ 0 0 := by
  unfold w_X7_wrong_J97 at hw
  refine z_ior dX7_wrong_97 ?_
  refine z_istore_n dX7_wrong_98 rfl (Nat.le_of_ble_eq_true rfl) ?_
  refine z_iinc dX7_wrong_99 rfl zi1 (Nat.le_of_ble_eq_true rfl) ?_
  refine z_goto dX7_wrong_102 ?_
  exact z_to (hK4 _ _ _ hw) ⟨rfl, rfl, rfl, trivial⟩
set_option maxHeartbeats 4000000 in
set_option maxRecDepth 100000 in
theorem j_X7_wrong_84  {Q : Int32 → zS → Prop} {K4 : Int32 → Int32 → zS → Prop} (hK4 : ∀ (a1 a2 : Int32) (σ : zS), K4 a1 a2 σ → zAW RX7 cX7_wrong 4 (some .int) false { frames := 0, cells := 0, slots := 0, locals := 0 } zΓM.length (zN zΓM zρM Q) 4 [(0, .ref 0), (1, .int a1), (2, .int a2)] [] zΓM zρM σ 0 0) {x1 x2 s0 : Int32} {σ : zS} (hw : w_X7_wrong_J84 Q K4 x1 x2 s0 σ) : zAW RX7 cX7_wrong 4 (some .int) false { frames := 0, cells := 0, slots := 0, locals := 0 } zΓM.length (zN zΓM zρM Q) 84 [(0, .ref 0), (1, .int x1), (2, .int x2)] [.int s0] zΓM zρM σ 0 0 := by
  unfold w_X7_wrong_J84 at hw
  refine z_istore_n dX7_wrong_84 rfl (Nat.le_of_ble_eq_true rfl) ?_
  refine z_iload_n dX7_wrong_85 rfl rfl ?_
  refine z_iload_n dX7_wrong_86 rfl rfl ?_
  refine z_if_eq dX7_wrong_87 hw (fun hw => ?_) (fun hw => ?_)
  · refine z_iconst dX7_wrong_96 zi0 ?_
    exact z_to (j_X7_wrong_97  hK4 hw) ⟨rfl, rfl, trivial⟩
  · refine z_iconst dX7_wrong_90 zi1 ?_
    refine z_iload_n dX7_wrong_91 rfl rfl ?_
    refine z_ishl dX7_wrong_92 ?_
    refine z_goto dX7_wrong_93 ?_
    exact z_to (j_X7_wrong_97  hK4 hw) ⟨rfl, rfl, trivial⟩
set_option maxHeartbeats 4000000 in
set_option maxRecDepth 100000 in
theorem j_X7_wrong_83  {Q : Int32 → zS → Prop} {K4 : Int32 → Int32 → zS → Prop} (hK4 : ∀ (a1 a2 : Int32) (σ : zS), K4 a1 a2 σ → zAW RX7 cX7_wrong 4 (some .int) false { frames := 0, cells := 0, slots := 0, locals := 0 } zΓM.length (zN zΓM zρM Q) 4 [(0, .ref 0), (1, .int a1), (2, .int a2)] [] zΓM zρM σ 0 0) {x1 x2 : Int32} {σ : zS} (hw : w_X7_wrong_J83 Q K4 x1 x2 σ) : zAW RX7 cX7_wrong 4 (some .int) false { frames := 0, cells := 0, slots := 0, locals := 0 } zΓM.length (zN zΓM zρM Q) 83 [(0, .ref 0), (1, .int x1), (2, .int x2)] [] zΓM zρM σ 0 0 := by
  unfold w_X7_wrong_J83 at hw
  refine z_iconst dX7_wrong_83 zi0 ?_
  exact z_to (j_X7_wrong_84  hK4 hw) ⟨rfl, rfl, rfl, trivial⟩
set_option maxHeartbeats 4000000 in
set_option maxRecDepth 100000 in
theorem j_X7_wrong_79  {Q : Int32 → zS → Prop} {K4 : Int32 → Int32 → zS → Prop} (hK4 : ∀ (a1 a2 : Int32) (σ : zS), K4 a1 a2 σ → zAW RX7 cX7_wrong 4 (some .int) false { frames := 0, cells := 0, slots := 0, locals := 0 } zΓM.length (zN zΓM zρM Q) 4 [(0, .ref 0), (1, .int a1), (2, .int a2)] [] zΓM zρM σ 0 0) {x1 x2 : Int32} {σ : zS} (hw : w_X7_wrong_J79 Q K4 x1 x2 σ) : zAW RX7 cX7_wrong 4 (some .int) false { frames := 0, cells := 0, slots := 0, locals := 0 } zΓM.length (zN zΓM zρM Q) 79 [(0, .ref 0), (1, .int x1), (2, .int x2)] [] zΓM zρM σ 0 0 := by
  unfold w_X7_wrong_J79 at hw
  refine z_iconst dX7_wrong_79 zi1 ?_
  refine z_goto dX7_wrong_80 ?_
  exact z_to (j_X7_wrong_84  hK4 hw) ⟨rfl, rfl, rfl, trivial⟩
set_option maxHeartbeats 4000000 in
set_option maxRecDepth 100000 in
theorem j_X7_wrong_43  {Q : Int32 → zS → Prop} {K4 : Int32 → Int32 → zS → Prop} (hK4 : ∀ (a1 a2 : Int32) (σ : zS), K4 a1 a2 σ → zAW RX7 cX7_wrong 4 (some .int) false { frames := 0, cells := 0, slots := 0, locals := 0 } zΓM.length (zN zΓM zρM Q) 4 [(0, .ref 0), (1, .int a1), (2, .int a2)] [] zΓM zρM σ 0 0) {x1 x2 : Int32} {σ : zS} (hw : w_X7_wrong_J43 Q K4 x1 x2 σ) : zAW RX7 cX7_wrong 4 (some .int) false { frames := 0, cells := 0, slots := 0, locals := 0 } zΓM.length (zN zΓM zρM Q) 43 [(0, .ref 0), (1, .int x1), (2, .int x2)] [] zΓM zρM σ 0 0 := by
  unfold w_X7_wrong_J43 at hw
  refine z_aload_n dX7_wrong_43 rfl rfl ?_
  refine z_getr dX7_wrong_44 fX7_53 zm0 zkX7_15 zrM15 ?_
  refine z_iconst dX7_wrong_47 zi2 ?_
  refine z_iload_n dX7_wrong_48 rfl rfl ?_
  refine z_imul dX7_wrong_49 ?_
  refine z_iconst dX7_wrong_50 zi1 ?_
  refine z_iadd dX7_wrong_51 ?_
  refine z_iald dX7_wrong_52 zm10 hw (fun hw => ?_)
  refine z_if_lt dX7_wrong_53 hw (fun hw => ?_) (fun hw => ?_)
  · exact z_to (j_X7_wrong_83  hK4 hw) ⟨rfl, rfl, rfl, trivial⟩
  · refine z_aload_n dX7_wrong_56 rfl rfl ?_
    refine z_getr dX7_wrong_57 fX7_53 zm0 zkX7_15 zrM15 ?_
    refine z_iconst dX7_wrong_60 zi2 ?_
    refine z_iload_n dX7_wrong_61 rfl rfl ?_
    refine z_imul dX7_wrong_62 ?_
    refine z_iconst dX7_wrong_63 zi1 ?_
    refine z_iadd dX7_wrong_64 ?_
    refine z_iald dX7_wrong_65 zm10 hw (fun hw => ?_)
    refine z_aload_n dX7_wrong_66 rfl rfl ?_
    refine z_getr dX7_wrong_67 fX7_47 zm0 zkX7_13 zrM13 ?_
    refine z_sipush dX7_wrong_70 zsp133 ?_
    refine z_iload_n dX7_wrong_73 rfl rfl ?_
    refine z_iadd dX7_wrong_74 ?_
    refine z_iald dX7_wrong_75 zm8 hw (fun hw => ?_)
    refine z_icmp_eq dX7_wrong_76 hw (fun hw => ?_) (fun hw => ?_)
    · exact z_to (j_X7_wrong_83  hK4 hw) ⟨rfl, rfl, rfl, trivial⟩
    · exact z_to (j_X7_wrong_79  hK4 hw) ⟨rfl, rfl, rfl, trivial⟩
set_option maxHeartbeats 4000000 in
set_option maxRecDepth 100000 in
theorem l_X7_wrong_4  {Q : Int32 → zS → Prop}   : ∀ (n : Nat) (x1 x2 : Int32) (σ : zS), w_X7_wrong_L4 Q  n x1 x2 σ → zAW RX7 cX7_wrong 4 (some .int) false { frames := 0, cells := 0, slots := 0, locals := 0 } zΓM.length (zN zΓM zρM Q) 4 [(0, .ref 0), (1, .int x1), (2, .int x2)] [] zΓM zρM σ 0 0 := by
  intro n
  induction n with
  | zero => intro x1 x2 σ hw; exact hw.elim
  | succ n hK4 =>
    intro x1 x2 σ hw
    rw [w_X7_wrong_L4] at hw
    refine z_iload_n dX7_wrong_4 rfl rfl ?_
    refine z_aload_n dX7_wrong_5 rfl rfl ?_
    refine z_geti dX7_wrong_6 fX7_7 zm0 zkX7_0 ?_
    refine z_icmp_ge dX7_wrong_9 hw (fun hw => ?_) (fun hw => ?_)
    · refine z_iload_n dX7_wrong_105 rfl rfl ?_
      exact z_iret dX7_wrong_106 (Nat.le_refl _) (Nat.le_refl _) rfl ⟨rfl, rfl, hw⟩
    · refine z_aload_n dX7_wrong_12 rfl rfl ?_
      refine z_getr dX7_wrong_13 fX7_53 zm0 zkX7_15 zrM15 ?_
      refine z_iconst dX7_wrong_16 zi2 ?_
      refine z_iload_n dX7_wrong_17 rfl rfl ?_
      refine z_imul dX7_wrong_18 ?_
      refine z_iald dX7_wrong_19 zm10 hw (fun hw => ?_)
      refine z_if_lt dX7_wrong_20 hw (fun hw => ?_) (fun hw => ?_)
      · exact z_to (j_X7_wrong_43  hK4 hw) ⟨rfl, rfl, rfl, trivial⟩
      · refine z_aload_n dX7_wrong_23 rfl rfl ?_
        refine z_getr dX7_wrong_24 fX7_53 zm0 zkX7_15 zrM15 ?_
        refine z_iconst dX7_wrong_27 zi2 ?_
        refine z_iload_n dX7_wrong_28 rfl rfl ?_
        refine z_imul dX7_wrong_29 ?_
        refine z_iald dX7_wrong_30 zm10 hw (fun hw => ?_)
        refine z_aload_n dX7_wrong_31 rfl rfl ?_
        refine z_getr dX7_wrong_32 fX7_47 zm0 zkX7_13 zrM13 ?_
        refine z_bipush dX7_wrong_35 zbp125 ?_
        refine z_iload_n dX7_wrong_37 rfl rfl ?_
        refine z_iadd dX7_wrong_38 ?_
        refine z_iald dX7_wrong_39 zm8 hw (fun hw => ?_)
        refine z_icmp_ne dX7_wrong_40 hw (fun hw => ?_) (fun hw => ?_)
        · exact z_to (j_X7_wrong_79  hK4 hw) ⟨rfl, rfl, rfl, trivial⟩
        · exact z_to (j_X7_wrong_43  hK4 hw) ⟨rfl, rfl, rfl, trivial⟩
set_option maxHeartbeats 4000000 in
set_option maxRecDepth 100000 in
theorem c_X7_wrong  {σ : zS} {Q : Int32 → zS → Prop} (hw : w_X7_wrong  σ Q) : zAC yX7_wrong cX7_wrong 4 (some .int) { frames := 0, cells := 0, slots := 0, locals := 0 } [.ref 0] zΓM zρM σ (zN zΓM zρM Q) := by
  refine z_entry (own := RX7) (ini := false) (plainFor_of_name pnX7) rfl (fun h => by cases h) (Nat.le_of_ble_eq_true rfl) ?_
  unfold w_X7_wrong at hw
  refine z_iconst dX7_wrong_0 zi0 ?_
  refine z_istore_n dX7_wrong_1 rfl (Nat.le_of_ble_eq_true rfl) ?_
  refine z_iconst dX7_wrong_2 zi0 ?_
  refine z_istore_n dX7_wrong_3 rfl (Nat.le_of_ble_eq_true rfl) ?_
  obtain ⟨n, hw⟩ := hw
  exact z_to (l_X7_wrong_4   n _ _ _ hw) ⟨rfl, rfl, rfl, trivial⟩
def w_X7_keep_L23 (Q : Int32 → zS → Prop)  : Nat → Int32 → zS → Prop
  | 0, _, _ => False
  | n + 1, x1, σ => (((σ.1 0 5) ≤ x1 → (w_X7_returns  σ fun _ t1 => (vp_in ((t1.1 0 16)) 3 ∧ zlet (zA t1 11 ((t1.1 0 16)).toNatClampNeg (t1.1 0 5)) fun t2 => (zlet (zI t2 0 16 ((t2.1 0 16) + (1 : Int32))) fun t3 => Q (t3.1 0 16) t3)))) ∧ (¬ ((σ.1 0 5) ≤ x1) → (w_X7_costOf x1 σ fun v4 t5 => (vp_in ((((30 : Int32) * (σ.1 0 16)) + x1)) 90 ∧ zlet (zA t5 12 ((((30 : Int32) * (σ.1 0 16)) + x1)).toNatClampNeg v4) fun t6 => (fun a1 aσ => w_X7_keep_L23 Q  n a1 aσ) ((x1 + (1 : Int32))) t6))))
def w_X7_keep  (σ : zS) (Q : Int32 → zS → Prop) : Prop := (((σ.1 0 16) = (3 : Int32) → Q (-3 : Int32) σ) ∧ (¬ ((σ.1 0 16) = (3 : Int32)) → (w_X7_dayBy ((σ.1 0 3)) ((-1 : Int32)) σ fun v1 t2 => ∃ m23, w_X7_keep_L23 Q  m23 ((0 : Int32)) t2)))
set_option maxHeartbeats 4000000 in
set_option maxRecDepth 100000 in
theorem l_X7_keep_23  {Q : Int32 → zS → Prop}   : ∀ (n : Nat) (x1 : Int32) (σ : zS), w_X7_keep_L23 Q  n x1 σ → zAW RX7 cX7_keep 2 (some .int) false { frames := 6, cells := 0, slots := 0, locals := 141 } zΓM.length (zN zΓM zρM Q) 23 [(0, .ref 0), (1, .int x1)] [] zΓM zρM σ 0 0 := by
  intro n
  induction n with
  | zero => intro x1 σ hw; exact hw.elim
  | succ n hK23 =>
    intro x1 σ hw
    rw [w_X7_keep_L23] at hw
    refine z_iload_n dX7_keep_23 rfl rfl ?_
    refine z_aload_n dX7_keep_24 rfl rfl ?_
    refine z_geti dX7_keep_25 fX7_69 zm0 zkX7_5 ?_
    refine z_icmp_ge dX7_keep_28 hw (fun hw => ?_) (fun hw => ?_)
    · refine z_aload_n dX7_keep_56 rfl rfl ?_
      refine z_callVv dX7_keep_57 mX7_153 (c_X7_returns  hw) zm0 rfl rfl (Nat.le_of_ble_eq_true rfl) ⟨Nat.le_of_ble_eq_true rfl, Nat.le_of_ble_eq_true rfl⟩ ⟨Nat.le_refl _, Nat.le_refl _⟩ (fun _ hw => ?_)
      refine z_aload_n dX7_keep_60 rfl rfl ?_
      refine z_getr dX7_keep_61 fX7_56 zm0 zkX7_17 zrM17 ?_
      refine z_aload_n dX7_keep_64 rfl rfl ?_
      refine z_geti dX7_keep_65 fX7_72 zm0 zkX7_16 ?_
      refine z_aload_n dX7_keep_68 rfl rfl ?_
      refine z_geti dX7_keep_69 fX7_69 zm0 zkX7_5 ?_
      refine z_iastL dX7_keep_72 zm11 hw (fun hw => ?_)
      refine z_aload_n dX7_keep_73 rfl rfl ?_
      refine z_dup dX7_keep_74 rfl ?_
      refine z_geti dX7_keep_75 fX7_72 zm0 zkX7_16 ?_
      refine z_iconst dX7_keep_78 zi1 ?_
      refine z_iadd dX7_keep_79 ?_
      refine z_putiL dX7_keep_80 fX7_72 zm0 zkX7_16 hw (fun hw => ?_)
      refine z_aload_n dX7_keep_83 rfl rfl ?_
      refine z_geti dX7_keep_84 fX7_72 zm0 zkX7_16 ?_
      exact z_iret dX7_keep_87 (Nat.le_refl _) (Nat.le_refl _) rfl ⟨rfl, rfl, hw⟩
    · refine z_aload_n dX7_keep_31 rfl rfl ?_
      refine z_getr dX7_keep_32 fX7_59 zm0 zkX7_18 zrM18 ?_
      refine z_bipush dX7_keep_35 zbp30 ?_
      refine z_aload_n dX7_keep_37 rfl rfl ?_
      refine z_geti dX7_keep_38 fX7_72 zm0 zkX7_16 ?_
      refine z_imul dX7_keep_41 ?_
      refine z_iload_n dX7_keep_42 rfl rfl ?_
      refine z_iadd dX7_keep_43 ?_
      refine z_aload_n dX7_keep_44 rfl rfl ?_
      refine z_iload_n dX7_keep_45 rfl rfl ?_
      refine z_callV dX7_keep_46 mX7_146 (c_X7_costOf  hw) zm0 rfl rfl (Nat.le_of_ble_eq_true rfl) ⟨Nat.le_of_ble_eq_true rfl, Nat.le_of_ble_eq_true rfl⟩ ⟨Nat.le_refl _, Nat.le_refl _⟩ (fun _ _ hw => ?_)
      refine z_iastL dX7_keep_49 zm12 hw (fun hw => ?_)
      refine z_iinc dX7_keep_50 rfl zi1 (Nat.le_of_ble_eq_true rfl) ?_
      refine z_goto dX7_keep_53 ?_
      exact z_to (hK23 _ _ hw) ⟨rfl, rfl, trivial⟩
set_option maxHeartbeats 4000000 in
set_option maxRecDepth 100000 in
theorem c_X7_keep  {σ : zS} {Q : Int32 → zS → Prop} (hw : w_X7_keep  σ Q) : zAC yX7_keep cX7_keep 2 (some .int) { frames := 6, cells := 0, slots := 0, locals := 141 } [.ref 0] zΓM zρM σ (zN zΓM zρM Q) := by
  refine z_entry (own := RX7) (ini := false) (plainFor_of_name pnX7) rfl (fun h => by cases h) (Nat.le_of_ble_eq_true rfl) ?_
  unfold w_X7_keep at hw
  refine z_aload_n dX7_keep_0 rfl rfl ?_
  refine z_geti dX7_keep_1 fX7_72 zm0 zkX7_16 ?_
  refine z_iconst dX7_keep_4 zi3 ?_
  refine z_icmp_ne dX7_keep_5 hw (fun hw => ?_) (fun hw => ?_)
  · refine z_aload_n dX7_keep_11 rfl rfl ?_
    refine z_aload_n dX7_keep_12 rfl rfl ?_
    refine z_geti dX7_keep_13 fX7_19 zm0 zkX7_3 ?_
    refine z_iconst dX7_keep_16 zim1 ?_
    refine z_callV dX7_keep_17 mX7_149 (c_X7_dayBy  hw) zm0 rfl rfl (Nat.le_of_ble_eq_true rfl) ⟨Nat.le_of_ble_eq_true rfl, Nat.le_of_ble_eq_true rfl⟩ ⟨Nat.le_refl _, Nat.le_refl _⟩ (fun _ _ hw => ?_)
    refine z_pop dX7_keep_20 rfl ?_
    refine z_iconst dX7_keep_21 zi0 ?_
    refine z_istore_n dX7_keep_22 rfl (Nat.le_of_ble_eq_true rfl) ?_
    obtain ⟨n, hw⟩ := hw
    exact z_to (l_X7_keep_23   n _ _ hw) ⟨rfl, rfl, trivial⟩
  · refine z_bipush dX7_keep_8 zbpm3 ?_
    exact z_iret dX7_keep_10 (Nat.le_refl _) (Nat.le_refl _) rfl ⟨rfl, rfl, hw⟩
def w_X7_beside_J104 (Q : Int32 → zS → Prop) (K47 : Int32 → Int32 → Int32 → Int32 → Int32 → Int32 → zS → Prop) (x1 x2 x3 x5 x6 x7 s0 s1 : Int32) (σ : zS) : Prop := K47 x1 x2 x3 ((s1 + s0)) ((x5 + x7)) ((x6 + (1 : Int32))) σ
def w_X7_beside_J90 (Q : Int32 → zS → Prop) (K47 : Int32 → Int32 → Int32 → Int32 → Int32 → Int32 → zS → Prop) (x1 x2 x4 x5 x6 x7 s0 s1 : Int32) (σ : zS) : Prop := ((0 ≤ x7 → w_X7_beside_J104 Q K47 x1 x2 ((s1 + s0)) x5 x6 x7 ((0 : Int32)) x4 σ) ∧ (¬ (0 ≤ x7) → w_X7_beside_J104 Q K47 x1 x2 ((s1 + s0)) x5 x6 x7 ((1 : Int32)) x4 σ))
def w_X7_beside_L47 (Q : Int32 → zS → Prop)  : Nat → Int32 → Int32 → Int32 → Int32 → Int32 → Int32 → zS → Prop
  | 0, _, _, _, _, _, _, _ => False
  | n + 1, x1, x2, x3, x4, x5, x6, σ => (vp_in x1 3 ∧ (((σ.2 11 x1.toNatClampNeg) ≤ x6 → (w_X7_returns  σ fun _ t1 => ((x2 = 0 → Q x3 t1) ∧ (¬ (x2 = 0) → ((x2 = (1 : Int32) → Q x4 t1) ∧ (¬ (x2 = (1 : Int32)) → Q x5 t1)))))) ∧ (¬ ((σ.2 11 x1.toNatClampNeg) ≤ x6) → (vp_in ((((30 : Int32) * x1) + x6)) 90 ∧ (w_X7_costOf x6 σ fun v2 t3 => ((((σ.2 12 ((((30 : Int32) * x1) + x6)).toNatClampNeg) - v2) ≤ 0 → w_X7_beside_J90 Q (fun a1 a2 a3 a4 a5 a6 aσ => w_X7_beside_L47 Q  n a1 a2 a3 a4 a5 a6 aσ) x1 x2 x4 x5 x6 (((σ.2 12 ((((30 : Int32) * x1) + x6)).toNatClampNeg) - v2)) ((0 : Int32)) x3 t3) ∧ (¬ (((σ.2 12 ((((30 : Int32) * x1) + x6)).toNatClampNeg) - v2) ≤ 0) → w_X7_beside_J90 Q (fun a1 a2 a3 a4 a5 a6 aσ => w_X7_beside_L47 Q  n a1 a2 a3 a4 a5 a6 aσ) x1 x2 x4 x5 x6 (((σ.2 12 ((((30 : Int32) * x1) + x6)).toNatClampNeg) - v2)) ((1 : Int32)) x3 t3)))))))
def w_X7_beside_J23 (Q : Int32 → zS → Prop)  (σ : zS) : Prop := Q (-1000000 : Int32) σ
def w_X7_beside  (x1 x2 : Int32) (σ : zS) (Q : Int32 → zS → Prop) : Prop := (w_X7_in x1 ((0 : Int32)) (((σ.1 0 16) - (1 : Int32))) σ fun v1 t2 => ((v1 = 0 → w_X7_beside_J23 Q    t2) ∧ (¬ (v1 = 0) → (w_X7_in x2 ((0 : Int32)) ((2 : Int32)) t2 fun v3 t4 => ((v3 = 0 → w_X7_beside_J23 Q    t4) ∧ (¬ (v3 = 0) → (w_X7_dayBy ((t4.1 0 3)) ((-1 : Int32)) t4 fun v5 t6 => ∃ m47, w_X7_beside_L47 Q  m47 x1 x2 ((0 : Int32)) ((0 : Int32)) ((0 : Int32)) ((0 : Int32)) t6)))))))
set_option maxHeartbeats 4000000 in
set_option maxRecDepth 100000 in
theorem j_X7_beside_104  {Q : Int32 → zS → Prop} {K47 : Int32 → Int32 → Int32 → Int32 → Int32 → Int32 → zS → Prop} (hK47 : ∀ (a1 a2 a3 a4 a5 a6 : Int32) (σ : zS), K47 a1 a2 a3 a4 a5 a6 σ → zAW RX7 cX7_beside 8 (some .int) false { frames := 6, cells := 0, slots := 0, locals := 141 } zΓM.length (zN zΓM zρM Q) 47 [(0, .ref 0), (1, .int a1), (2, .int a2), (3, .int a3), (4, .int a4), (5, .int a5), (6, .int a6)] [] zΓM zρM σ 0 0) {x1 x2 x3 x5 x6 x7 s0 s1 : Int32} {σ : zS} (hw : w_X7_beside_J104 Q K47 x1 x2 x3 x5 x6 x7 s0 s1 σ) : zAW RX7 cX7_beside 8 (some .int) false { frames := 6, cells := 0, slots := 0, locals := 141 } zΓM.length (zN zΓM zρM Q) 104 [(0, .ref 0), (1, .int x1), (2, .int x2), (3, .int x3), (5, .int x5), (6, .int x6), (7, .int x7)] [.int s0, .int s1] zΓM zρM σ 0 0 := by
  unfold w_X7_beside_J104 at hw
  refine z_iadd dX7_beside_104 ?_
  refine z_istore dX7_beside_105 (Nat.le_of_ble_eq_true rfl) ?_
  refine z_iload dX7_beside_107 rfl ?_
  refine z_iload dX7_beside_109 rfl ?_
  refine z_iadd dX7_beside_111 ?_
  refine z_istore dX7_beside_112 (Nat.le_of_ble_eq_true rfl) ?_
  refine z_iinc dX7_beside_114 rfl zi1 (Nat.le_of_ble_eq_true rfl) ?_
  refine z_goto dX7_beside_117 ?_
  exact z_to (hK47 _ _ _ _ _ _ _ hw) ⟨rfl, rfl, rfl, rfl, rfl, rfl, rfl, trivial⟩
set_option maxHeartbeats 4000000 in
set_option maxRecDepth 100000 in
theorem j_X7_beside_90  {Q : Int32 → zS → Prop} {K47 : Int32 → Int32 → Int32 → Int32 → Int32 → Int32 → zS → Prop} (hK47 : ∀ (a1 a2 a3 a4 a5 a6 : Int32) (σ : zS), K47 a1 a2 a3 a4 a5 a6 σ → zAW RX7 cX7_beside 8 (some .int) false { frames := 6, cells := 0, slots := 0, locals := 141 } zΓM.length (zN zΓM zρM Q) 47 [(0, .ref 0), (1, .int a1), (2, .int a2), (3, .int a3), (4, .int a4), (5, .int a5), (6, .int a6)] [] zΓM zρM σ 0 0) {x1 x2 x4 x5 x6 x7 s0 s1 : Int32} {σ : zS} (hw : w_X7_beside_J90 Q K47 x1 x2 x4 x5 x6 x7 s0 s1 σ) : zAW RX7 cX7_beside 8 (some .int) false { frames := 6, cells := 0, slots := 0, locals := 141 } zΓM.length (zN zΓM zρM Q) 90 [(0, .ref 0), (1, .int x1), (2, .int x2), (4, .int x4), (5, .int x5), (6, .int x6), (7, .int x7)] [.int s0, .int s1] zΓM zρM σ 0 0 := by
  unfold w_X7_beside_J90 at hw
  refine z_iadd dX7_beside_90 ?_
  refine z_istore_n dX7_beside_91 rfl (Nat.le_of_ble_eq_true rfl) ?_
  refine z_iload dX7_beside_92 rfl ?_
  refine z_iload dX7_beside_94 rfl ?_
  refine z_if_ge dX7_beside_96 hw (fun hw => ?_) (fun hw => ?_)
  · refine z_iconst dX7_beside_103 zi0 ?_
    exact z_to (j_X7_beside_104  hK47 hw) ⟨rfl, rfl, rfl, rfl, rfl, rfl, rfl, trivial⟩
  · refine z_iconst dX7_beside_99 zi1 ?_
    refine z_goto dX7_beside_100 ?_
    exact z_to (j_X7_beside_104  hK47 hw) ⟨rfl, rfl, rfl, rfl, rfl, rfl, rfl, trivial⟩
set_option maxHeartbeats 4000000 in
set_option maxRecDepth 100000 in
theorem l_X7_beside_47  {Q : Int32 → zS → Prop}   : ∀ (n : Nat) (x1 x2 x3 x4 x5 x6 : Int32) (σ : zS), w_X7_beside_L47 Q  n x1 x2 x3 x4 x5 x6 σ → zAW RX7 cX7_beside 8 (some .int) false { frames := 6, cells := 0, slots := 0, locals := 141 } zΓM.length (zN zΓM zρM Q) 47 [(0, .ref 0), (1, .int x1), (2, .int x2), (3, .int x3), (4, .int x4), (5, .int x5), (6, .int x6)] [] zΓM zρM σ 0 0 := by
  intro n
  induction n with
  | zero => intro x1 x2 x3 x4 x5 x6 σ hw; exact hw.elim
  | succ n hK47 =>
    intro x1 x2 x3 x4 x5 x6 σ hw
    rw [w_X7_beside_L47] at hw
    refine z_iload dX7_beside_47 rfl ?_
    refine z_aload_n dX7_beside_49 rfl rfl ?_
    refine z_getr dX7_beside_50 fX7_56 zm0 zkX7_17 zrM17 ?_
    refine z_iload_n dX7_beside_53 rfl rfl ?_
    refine z_iald dX7_beside_54 zm11 hw (fun hw => ?_)
    refine z_icmp_ge dX7_beside_55 hw (fun hw => ?_) (fun hw => ?_)
    · refine z_aload_n dX7_beside_120 rfl rfl ?_
      refine z_callVv dX7_beside_121 mX7_153 (c_X7_returns  hw) zm0 rfl rfl (Nat.le_of_ble_eq_true rfl) ⟨Nat.le_of_ble_eq_true rfl, Nat.le_of_ble_eq_true rfl⟩ ⟨Nat.le_refl _, Nat.le_refl _⟩ (fun _ hw => ?_)
      refine z_iload_n dX7_beside_124 rfl rfl ?_
      refine z_if_ne dX7_beside_125 hw (fun hw => ?_) (fun hw => ?_)
      · refine z_iload_n dX7_beside_132 rfl rfl ?_
        refine z_iconst dX7_beside_133 zi1 ?_
        refine z_icmp_ne dX7_beside_134 hw (fun hw => ?_) (fun hw => ?_)
        · refine z_iload dX7_beside_142 rfl ?_
          exact z_iret dX7_beside_144 (Nat.le_refl _) (Nat.le_refl _) rfl ⟨rfl, rfl, hw⟩
        · refine z_iload dX7_beside_137 rfl ?_
          refine z_goto dX7_beside_139 ?_
          exact z_iret dX7_beside_144 (Nat.le_refl _) (Nat.le_refl _) rfl ⟨rfl, rfl, hw⟩
      · refine z_iload_n dX7_beside_128 rfl rfl ?_
        refine z_goto dX7_beside_129 ?_
        exact z_iret dX7_beside_144 (Nat.le_refl _) (Nat.le_refl _) rfl ⟨rfl, rfl, hw⟩
    · refine z_aload_n dX7_beside_58 rfl rfl ?_
      refine z_getr dX7_beside_59 fX7_59 zm0 zkX7_18 zrM18 ?_
      refine z_bipush dX7_beside_62 zbp30 ?_
      refine z_iload_n dX7_beside_64 rfl rfl ?_
      refine z_imul dX7_beside_65 ?_
      refine z_iload dX7_beside_66 rfl ?_
      refine z_iadd dX7_beside_68 ?_
      refine z_iald dX7_beside_69 zm12 hw (fun hw => ?_)
      refine z_aload_n dX7_beside_70 rfl rfl ?_
      refine z_iload dX7_beside_71 rfl ?_
      refine z_callV dX7_beside_73 mX7_146 (c_X7_costOf  hw) zm0 rfl rfl (Nat.le_of_ble_eq_true rfl) ⟨Nat.le_of_ble_eq_true rfl, Nat.le_of_ble_eq_true rfl⟩ ⟨Nat.le_refl _, Nat.le_refl _⟩ (fun _ _ hw => ?_)
      refine z_isub dX7_beside_76 ?_
      refine z_istore dX7_beside_77 (Nat.le_of_ble_eq_true rfl) ?_
      refine z_iload_n dX7_beside_79 rfl rfl ?_
      refine z_iload dX7_beside_80 rfl ?_
      refine z_if_le dX7_beside_82 hw (fun hw => ?_) (fun hw => ?_)
      · refine z_iconst dX7_beside_89 zi0 ?_
        exact z_to (j_X7_beside_90  hK47 hw) ⟨rfl, rfl, rfl, rfl, rfl, rfl, rfl, trivial⟩
      · refine z_iconst dX7_beside_85 zi1 ?_
        refine z_goto dX7_beside_86 ?_
        exact z_to (j_X7_beside_90  hK47 hw) ⟨rfl, rfl, rfl, rfl, rfl, rfl, rfl, trivial⟩
set_option maxHeartbeats 4000000 in
set_option maxRecDepth 100000 in
theorem j_X7_beside_23  {Q : Int32 → zS → Prop}   {σ : zS} (hw : w_X7_beside_J23 Q   σ) : zAW RX7 cX7_beside 8 (some .int) false { frames := 6, cells := 0, slots := 0, locals := 141 } zΓM.length (zN zΓM zρM Q) 23 [] [] zΓM zρM σ 0 0 := by
  unfold w_X7_beside_J23 at hw
  refine z_ldc dX7_beside_23 zldX7_168 ?_
  exact z_iret dX7_beside_25 (Nat.le_refl _) (Nat.le_refl _) rfl ⟨rfl, rfl, hw⟩
set_option maxHeartbeats 4000000 in
set_option maxRecDepth 100000 in
theorem c_X7_beside  {x1 x2 : Int32} {σ : zS} {Q : Int32 → zS → Prop} (hw : w_X7_beside x1 x2 σ Q) : zAC yX7_beside cX7_beside 8 (some .int) { frames := 6, cells := 0, slots := 0, locals := 141 } [.ref 0, .int x1, .int x2] zΓM zρM σ (zN zΓM zρM Q) := by
  refine z_entry (own := RX7) (ini := false) (plainFor_of_name pnX7) rfl (fun h => by cases h) (Nat.le_of_ble_eq_true rfl) ?_
  unfold w_X7_beside at hw
  refine z_iload_n dX7_beside_0 rfl rfl ?_
  refine z_iconst dX7_beside_1 zi0 ?_
  refine z_aload_n dX7_beside_2 rfl rfl ?_
  refine z_geti dX7_beside_3 fX7_72 zm0 zkX7_16 ?_
  refine z_iconst dX7_beside_6 zi1 ?_
  refine z_isub dX7_beside_7 ?_
  refine z_callS dX7_beside_8 mX7_65 (c_X7_in  hw) rfl rfl (Nat.le_of_ble_eq_true rfl) ⟨Nat.le_of_ble_eq_true rfl, Nat.le_of_ble_eq_true rfl⟩ ⟨Nat.le_refl _, Nat.le_refl _⟩ (fun _ _ hw => ?_)
  refine z_if_eq dX7_beside_11 hw (fun hw => ?_) (fun hw => ?_)
  · exact z_to (j_X7_beside_23   hw) trivial
  · refine z_iload_n dX7_beside_14 rfl rfl ?_
    refine z_iconst dX7_beside_15 zi0 ?_
    refine z_iconst dX7_beside_16 zi2 ?_
    refine z_callS dX7_beside_17 mX7_65 (c_X7_in  hw) rfl rfl (Nat.le_of_ble_eq_true rfl) ⟨Nat.le_of_ble_eq_true rfl, Nat.le_of_ble_eq_true rfl⟩ ⟨Nat.le_refl _, Nat.le_refl _⟩ (fun _ _ hw => ?_)
    refine z_if_ne dX7_beside_20 hw (fun hw => ?_) (fun hw => ?_)
    · refine z_aload_n dX7_beside_26 rfl rfl ?_
      refine z_aload_n dX7_beside_27 rfl rfl ?_
      refine z_geti dX7_beside_28 fX7_19 zm0 zkX7_3 ?_
      refine z_iconst dX7_beside_31 zim1 ?_
      refine z_callV dX7_beside_32 mX7_149 (c_X7_dayBy  hw) zm0 rfl rfl (Nat.le_of_ble_eq_true rfl) ⟨Nat.le_of_ble_eq_true rfl, Nat.le_of_ble_eq_true rfl⟩ ⟨Nat.le_refl _, Nat.le_refl _⟩ (fun _ _ hw => ?_)
      refine z_pop dX7_beside_35 rfl ?_
      refine z_iconst dX7_beside_36 zi0 ?_
      refine z_istore_n dX7_beside_37 rfl (Nat.le_of_ble_eq_true rfl) ?_
      refine z_iconst dX7_beside_38 zi0 ?_
      refine z_istore dX7_beside_39 (Nat.le_of_ble_eq_true rfl) ?_
      refine z_iconst dX7_beside_41 zi0 ?_
      refine z_istore dX7_beside_42 (Nat.le_of_ble_eq_true rfl) ?_
      refine z_iconst dX7_beside_44 zi0 ?_
      refine z_istore dX7_beside_45 (Nat.le_of_ble_eq_true rfl) ?_
      obtain ⟨n, hw⟩ := hw
      exact z_to (l_X7_beside_47   n _ _ _ _ _ _ _ hw) ⟨rfl, rfl, rfl, rfl, rfl, rfl, rfl, trivial⟩
    · exact z_to (j_X7_beside_23   hw) trivial
def w_X7_inState_J27 (Q : Int32 → zS → Prop) (K4 : Int32 → Int32 → Int32 → zS → Prop) (x1 x3 s0 s1 : Int32) (σ : zS) : Prop := K4 x1 ((s1 + s0)) ((x3 + (1 : Int32))) σ
def w_X7_inState_L4 (Q : Int32 → zS → Prop)  : Nat → Int32 → Int32 → Int32 → zS → Prop
  | 0, _, _, _, _ => False
  | n + 1, x1, x2, x3, σ => (((σ.1 0 5) ≤ x3 → Q x2 σ) ∧ (¬ ((σ.1 0 5) ≤ x3) → (w_X7_stateOf x3 σ fun v1 t2 => ((v1 = x1 → w_X7_inState_J27 Q (fun a1 a2 a3 aσ => w_X7_inState_L4 Q  n a1 a2 a3 aσ) x1 x3 ((1 : Int32)) x2 t2) ∧ (¬ (v1 = x1) → w_X7_inState_J27 Q (fun a1 a2 a3 aσ => w_X7_inState_L4 Q  n a1 a2 a3 aσ) x1 x3 ((0 : Int32)) x2 t2)))))
def w_X7_inState  (x1 : Int32) (σ : zS) (Q : Int32 → zS → Prop) : Prop := ∃ m4, w_X7_inState_L4 Q  m4 x1 ((0 : Int32)) ((0 : Int32)) σ
set_option maxHeartbeats 4000000 in
set_option maxRecDepth 100000 in
theorem j_X7_inState_27  {Q : Int32 → zS → Prop} {K4 : Int32 → Int32 → Int32 → zS → Prop} (hK4 : ∀ (a1 a2 a3 : Int32) (σ : zS), K4 a1 a2 a3 σ → zAW RX7 cX7_inState 4 (some .int) false { frames := 1, cells := 0, slots := 0, locals := 22 } zΓM.length (zN zΓM zρM Q) 4 [(0, .ref 0), (1, .int a1), (2, .int a2), (3, .int a3)] [] zΓM zρM σ 0 0) {x1 x3 s0 s1 : Int32} {σ : zS} (hw : w_X7_inState_J27 Q K4 x1 x3 s0 s1 σ) : zAW RX7 cX7_inState 4 (some .int) false { frames := 1, cells := 0, slots := 0, locals := 22 } zΓM.length (zN zΓM zρM Q) 27 [(0, .ref 0), (1, .int x1), (3, .int x3)] [.int s0, .int s1] zΓM zρM σ 0 0 := by
  unfold w_X7_inState_J27 at hw
  refine z_iadd dX7_inState_27 ?_
  refine z_istore_n dX7_inState_28 rfl (Nat.le_of_ble_eq_true rfl) ?_
  refine z_iinc dX7_inState_29 rfl zi1 (Nat.le_of_ble_eq_true rfl) ?_
  refine z_goto dX7_inState_32 ?_
  exact z_to (hK4 _ _ _ _ hw) ⟨rfl, rfl, rfl, rfl, trivial⟩
set_option maxHeartbeats 4000000 in
set_option maxRecDepth 100000 in
theorem l_X7_inState_4  {Q : Int32 → zS → Prop}   : ∀ (n : Nat) (x1 x2 x3 : Int32) (σ : zS), w_X7_inState_L4 Q  n x1 x2 x3 σ → zAW RX7 cX7_inState 4 (some .int) false { frames := 1, cells := 0, slots := 0, locals := 22 } zΓM.length (zN zΓM zρM Q) 4 [(0, .ref 0), (1, .int x1), (2, .int x2), (3, .int x3)] [] zΓM zρM σ 0 0 := by
  intro n
  induction n with
  | zero => intro x1 x2 x3 σ hw; exact hw.elim
  | succ n hK4 =>
    intro x1 x2 x3 σ hw
    rw [w_X7_inState_L4] at hw
    refine z_iload_n dX7_inState_4 rfl rfl ?_
    refine z_aload_n dX7_inState_5 rfl rfl ?_
    refine z_geti dX7_inState_6 fX7_69 zm0 zkX7_5 ?_
    refine z_icmp_ge dX7_inState_9 hw (fun hw => ?_) (fun hw => ?_)
    · refine z_iload_n dX7_inState_35 rfl rfl ?_
      exact z_iret dX7_inState_36 (Nat.le_refl _) (Nat.le_refl _) rfl ⟨rfl, rfl, hw⟩
    · refine z_iload_n dX7_inState_12 rfl rfl ?_
      refine z_aload_n dX7_inState_13 rfl rfl ?_
      refine z_iload_n dX7_inState_14 rfl rfl ?_
      refine z_callV dX7_inState_15 mX7_140 (c_X7_stateOf  hw) zm0 rfl rfl (Nat.le_of_ble_eq_true rfl) ⟨Nat.le_of_ble_eq_true rfl, Nat.le_of_ble_eq_true rfl⟩ ⟨Nat.le_refl _, Nat.le_refl _⟩ (fun _ _ hw => ?_)
      refine z_iload_n dX7_inState_18 rfl rfl ?_
      refine z_icmp_ne dX7_inState_19 hw (fun hw => ?_) (fun hw => ?_)
      · refine z_iconst dX7_inState_26 zi0 ?_
        exact z_to (j_X7_inState_27  hK4 hw) ⟨rfl, rfl, rfl, trivial⟩
      · refine z_iconst dX7_inState_22 zi1 ?_
        refine z_goto dX7_inState_23 ?_
        exact z_to (j_X7_inState_27  hK4 hw) ⟨rfl, rfl, rfl, trivial⟩
set_option maxHeartbeats 4000000 in
set_option maxRecDepth 100000 in
theorem c_X7_inState  {x1 : Int32} {σ : zS} {Q : Int32 → zS → Prop} (hw : w_X7_inState x1 σ Q) : zAC yX7_inState cX7_inState 4 (some .int) { frames := 1, cells := 0, slots := 0, locals := 22 } [.ref 0, .int x1] zΓM zρM σ (zN zΓM zρM Q) := by
  refine z_entry (own := RX7) (ini := false) (plainFor_of_name pnX7) rfl (fun h => by cases h) (Nat.le_of_ble_eq_true rfl) ?_
  unfold w_X7_inState at hw
  refine z_iconst dX7_inState_0 zi0 ?_
  refine z_istore_n dX7_inState_1 rfl (Nat.le_of_ble_eq_true rfl) ?_
  refine z_iconst dX7_inState_2 zi0 ?_
  refine z_istore_n dX7_inState_3 rfl (Nat.le_of_ble_eq_true rfl) ?_
  obtain ⟨n, hw⟩ := hw
  exact z_to (l_X7_inState_4   n _ _ _ _ hw) ⟨rfl, rfl, rfl, rfl, trivial⟩
def w_X7_count_J25 (Q : Int32 → zS → Prop) (K4 : Int32 → Int32 → Int32 → zS → Prop) (x1 x3 s0 s1 : Int32) (σ : zS) : Prop := K4 x1 ((s1 + s0)) ((x3 + (1 : Int32))) σ
def w_X7_count_L4 (Q : Int32 → zS → Prop)  : Nat → Int32 → Int32 → Int32 → zS → Prop
  | 0, _, _, _, _ => False
  | n + 1, x1, x2, x3, σ => (((16 : Int32) ≤ x3 → ((x1 = (0 : Int32) → Q (σ.1 0 5) σ) ∧ (¬ (x1 = (0 : Int32)) → ((x1 = (1 : Int32) → (vp_in ((0 : Int32)) 389 ∧ Q (σ.2 8 ((0 : Int32)).toNatClampNeg) σ)) ∧ (¬ (x1 = (1 : Int32)) → ((x1 = (2 : Int32) → (vp_in ((1 : Int32)) 389 ∧ Q (σ.2 8 ((1 : Int32)).toNatClampNeg) σ)) ∧ (¬ (x1 = (2 : Int32)) → ((x1 = (3 : Int32) → (w_X7_inState ((2 : Int32)) σ fun v4 t5 => Q v4 t5)) ∧ (¬ (x1 = (3 : Int32)) → ((x1 = (4 : Int32) → (w_X7_inState ((1 : Int32)) σ fun v7 t8 => Q v7 t8)) ∧ (¬ (x1 = (4 : Int32)) → ((x1 = (5 : Int32) → (w_X7_inState ((3 : Int32)) σ fun v10 t11 => Q v10 t11)) ∧ (¬ (x1 = (5 : Int32)) → ((x1 = (6 : Int32) → (w_X7_inState ((4 : Int32)) σ fun v13 t14 => Q v13 t14)) ∧ (¬ (x1 = (6 : Int32)) → ((x1 = (7 : Int32) → Q (σ.1 0 16) σ) ∧ (¬ (x1 = (7 : Int32)) → ((x1 = (8 : Int32) → Q x2 σ) ∧ (¬ (x1 = (8 : Int32)) → Q (-1 : Int32) σ))))))))))))))))))) ∧ (¬ ((16 : Int32) ≤ x3) → (vp_in x3 16 ∧ ((0 ≤ (σ.2 10 x3.toNatClampNeg) → w_X7_count_J25 Q (fun a1 a2 a3 aσ => w_X7_count_L4 Q  n a1 a2 a3 aσ) x1 x3 ((1 : Int32)) x2 σ) ∧ (¬ (0 ≤ (σ.2 10 x3.toNatClampNeg)) → w_X7_count_J25 Q (fun a1 a2 a3 aσ => w_X7_count_L4 Q  n a1 a2 a3 aσ) x1 x3 ((0 : Int32)) x2 σ)))))
def w_X7_count  (x1 : Int32) (σ : zS) (Q : Int32 → zS → Prop) : Prop := ∃ m4, w_X7_count_L4 Q  m4 x1 ((0 : Int32)) ((0 : Int32)) σ
set_option maxHeartbeats 4000000 in
set_option maxRecDepth 100000 in
theorem j_X7_count_25  {Q : Int32 → zS → Prop} {K4 : Int32 → Int32 → Int32 → zS → Prop} (hK4 : ∀ (a1 a2 a3 : Int32) (σ : zS), K4 a1 a2 a3 σ → zAW RX7 cX7_count 4 (some .int) false { frames := 2, cells := 0, slots := 0, locals := 45 } zΓM.length (zN zΓM zρM Q) 4 [(0, .ref 0), (1, .int a1), (2, .int a2), (3, .int a3)] [] zΓM zρM σ 0 0) {x1 x3 s0 s1 : Int32} {σ : zS} (hw : w_X7_count_J25 Q K4 x1 x3 s0 s1 σ) : zAW RX7 cX7_count 4 (some .int) false { frames := 2, cells := 0, slots := 0, locals := 45 } zΓM.length (zN zΓM zρM Q) 25 [(0, .ref 0), (1, .int x1), (3, .int x3)] [.int s0, .int s1] zΓM zρM σ 0 0 := by
  unfold w_X7_count_J25 at hw
  refine z_iadd dX7_count_25 ?_
  refine z_istore_n dX7_count_26 rfl (Nat.le_of_ble_eq_true rfl) ?_
  refine z_iinc dX7_count_27 rfl zi1 (Nat.le_of_ble_eq_true rfl) ?_
  refine z_goto dX7_count_30 ?_
  exact z_to (hK4 _ _ _ _ hw) ⟨rfl, rfl, rfl, rfl, trivial⟩
set_option maxHeartbeats 4000000 in
set_option maxRecDepth 100000 in
theorem l_X7_count_4  {Q : Int32 → zS → Prop}   : ∀ (n : Nat) (x1 x2 x3 : Int32) (σ : zS), w_X7_count_L4 Q  n x1 x2 x3 σ → zAW RX7 cX7_count 4 (some .int) false { frames := 2, cells := 0, slots := 0, locals := 45 } zΓM.length (zN zΓM zρM Q) 4 [(0, .ref 0), (1, .int x1), (2, .int x2), (3, .int x3)] [] zΓM zρM σ 0 0 := by
  intro n
  induction n with
  | zero => intro x1 x2 x3 σ hw; exact hw.elim
  | succ n hK4 =>
    intro x1 x2 x3 σ hw
    rw [w_X7_count_L4] at hw
    refine z_iload_n dX7_count_4 rfl rfl ?_
    refine z_bipush dX7_count_5 zbp16 ?_
    refine z_icmp_ge dX7_count_7 hw (fun hw => ?_) (fun hw => ?_)
    · refine z_iload_n dX7_count_33 rfl rfl ?_
      by_cases hs1 : x1 = (0 : Int32)
      · refine z_tabIn (tgt := 84) (off := 50) dX7_count_34 hs1 (by decide) (by decide) (by decide) (by decide) ?_
        have hw := hw.1 hs1
        refine z_aload_n dX7_count_84 rfl rfl ?_
        refine z_geti dX7_count_85 fX7_69 zm0 zkX7_5 ?_
        exact z_iret dX7_count_88 (Nat.le_refl _) (Nat.le_refl _) rfl ⟨rfl, rfl, hw⟩
      have hw := hw.2 hs1
      by_cases hs2 : x1 = (1 : Int32)
      · refine z_tabIn (tgt := 89) (off := 55) dX7_count_34 hs2 (by decide) (by decide) (by decide) (by decide) ?_
        have hw := hw.1 hs2
        refine z_aload_n dX7_count_89 rfl rfl ?_
        refine z_getr dX7_count_90 fX7_47 zm0 zkX7_13 zrM13 ?_
        refine z_iconst dX7_count_93 zi0 ?_
        refine z_iald dX7_count_94 zm8 hw (fun hw => ?_)
        exact z_iret dX7_count_95 (Nat.le_refl _) (Nat.le_refl _) rfl ⟨rfl, rfl, hw⟩
      have hw := hw.2 hs2
      by_cases hs3 : x1 = (2 : Int32)
      · refine z_tabIn (tgt := 96) (off := 62) dX7_count_34 hs3 (by decide) (by decide) (by decide) (by decide) ?_
        have hw := hw.1 hs3
        refine z_aload_n dX7_count_96 rfl rfl ?_
        refine z_getr dX7_count_97 fX7_47 zm0 zkX7_13 zrM13 ?_
        refine z_iconst dX7_count_100 zi1 ?_
        refine z_iald dX7_count_101 zm8 hw (fun hw => ?_)
        exact z_iret dX7_count_102 (Nat.le_refl _) (Nat.le_refl _) rfl ⟨rfl, rfl, hw⟩
      have hw := hw.2 hs3
      by_cases hs6 : x1 = (3 : Int32)
      · refine z_tabIn (tgt := 103) (off := 69) dX7_count_34 hs6 (by decide) (by decide) (by decide) (by decide) ?_
        have hw := hw.1 hs6
        refine z_aload_n dX7_count_103 rfl rfl ?_
        refine z_iconst dX7_count_104 zi2 ?_
        refine z_callV dX7_count_105 mX7_169 (c_X7_inState  hw) zm0 rfl rfl (Nat.le_of_ble_eq_true rfl) ⟨Nat.le_of_ble_eq_true rfl, Nat.le_of_ble_eq_true rfl⟩ ⟨Nat.le_refl _, Nat.le_refl _⟩ (fun _ _ hw => ?_)
        exact z_iret dX7_count_108 (Nat.le_refl _) (Nat.le_refl _) rfl ⟨rfl, rfl, hw⟩
      have hw := hw.2 hs6
      by_cases hs9 : x1 = (4 : Int32)
      · refine z_tabIn (tgt := 109) (off := 75) dX7_count_34 hs9 (by decide) (by decide) (by decide) (by decide) ?_
        have hw := hw.1 hs9
        refine z_aload_n dX7_count_109 rfl rfl ?_
        refine z_iconst dX7_count_110 zi1 ?_
        refine z_callV dX7_count_111 mX7_169 (c_X7_inState  hw) zm0 rfl rfl (Nat.le_of_ble_eq_true rfl) ⟨Nat.le_of_ble_eq_true rfl, Nat.le_of_ble_eq_true rfl⟩ ⟨Nat.le_refl _, Nat.le_refl _⟩ (fun _ _ hw => ?_)
        exact z_iret dX7_count_114 (Nat.le_refl _) (Nat.le_refl _) rfl ⟨rfl, rfl, hw⟩
      have hw := hw.2 hs9
      by_cases hs12 : x1 = (5 : Int32)
      · refine z_tabIn (tgt := 115) (off := 81) dX7_count_34 hs12 (by decide) (by decide) (by decide) (by decide) ?_
        have hw := hw.1 hs12
        refine z_aload_n dX7_count_115 rfl rfl ?_
        refine z_iconst dX7_count_116 zi3 ?_
        refine z_callV dX7_count_117 mX7_169 (c_X7_inState  hw) zm0 rfl rfl (Nat.le_of_ble_eq_true rfl) ⟨Nat.le_of_ble_eq_true rfl, Nat.le_of_ble_eq_true rfl⟩ ⟨Nat.le_refl _, Nat.le_refl _⟩ (fun _ _ hw => ?_)
        exact z_iret dX7_count_120 (Nat.le_refl _) (Nat.le_refl _) rfl ⟨rfl, rfl, hw⟩
      have hw := hw.2 hs12
      by_cases hs15 : x1 = (6 : Int32)
      · refine z_tabIn (tgt := 121) (off := 87) dX7_count_34 hs15 (by decide) (by decide) (by decide) (by decide) ?_
        have hw := hw.1 hs15
        refine z_aload_n dX7_count_121 rfl rfl ?_
        refine z_iconst dX7_count_122 zi4 ?_
        refine z_callV dX7_count_123 mX7_169 (c_X7_inState  hw) zm0 rfl rfl (Nat.le_of_ble_eq_true rfl) ⟨Nat.le_of_ble_eq_true rfl, Nat.le_of_ble_eq_true rfl⟩ ⟨Nat.le_refl _, Nat.le_refl _⟩ (fun _ _ hw => ?_)
        exact z_iret dX7_count_126 (Nat.le_refl _) (Nat.le_refl _) rfl ⟨rfl, rfl, hw⟩
      have hw := hw.2 hs15
      by_cases hs16 : x1 = (7 : Int32)
      · refine z_tabIn (tgt := 127) (off := 93) dX7_count_34 hs16 (by decide) (by decide) (by decide) (by decide) ?_
        have hw := hw.1 hs16
        refine z_aload_n dX7_count_127 rfl rfl ?_
        refine z_geti dX7_count_128 fX7_72 zm0 zkX7_16 ?_
        exact z_iret dX7_count_131 (Nat.le_refl _) (Nat.le_refl _) rfl ⟨rfl, rfl, hw⟩
      have hw := hw.2 hs16
      by_cases hs17 : x1 = (8 : Int32)
      · refine z_tabIn (tgt := 132) (off := 98) dX7_count_34 hs17 (by decide) (by decide) (by decide) (by decide) ?_
        have hw := hw.1 hs17
        refine z_iload_n dX7_count_132 rfl rfl ?_
        exact z_iret dX7_count_133 (Nat.le_refl _) (Nat.le_refl _) rfl ⟨rfl, rfl, hw⟩
      have hw := hw.2 hs17
      have hs1 := zne (0 : Int32) (0) (by decide) hs1
      have hs2 := zne (1 : Int32) (1) (by decide) hs2
      have hs3 := zne (2 : Int32) (2) (by decide) hs3
      have hs6 := zne (3 : Int32) (3) (by decide) hs6
      have hs9 := zne (4 : Int32) (4) (by decide) hs9
      have hs12 := zne (5 : Int32) (5) (by decide) hs12
      have hs15 := zne (6 : Int32) (6) (by decide) hs15
      have hs16 := zne (7 : Int32) (7) (by decide) hs16
      have hs17 := zne (8 : Int32) (8) (by decide) hs17
      refine z_tabOut (tgt := 134) dX7_count_34 (by omega) (by decide) ?_
      refine z_iconst dX7_count_134 zim1 ?_
      exact z_iret dX7_count_135 (Nat.le_refl _) (Nat.le_refl _) rfl ⟨rfl, rfl, hw⟩
    · refine z_iload_n dX7_count_10 rfl rfl ?_
      refine z_aload_n dX7_count_11 rfl rfl ?_
      refine z_getr dX7_count_12 fX7_53 zm0 zkX7_15 zrM15 ?_
      refine z_iload_n dX7_count_15 rfl rfl ?_
      refine z_iald dX7_count_16 zm10 hw (fun hw => ?_)
      refine z_if_ge dX7_count_17 hw (fun hw => ?_) (fun hw => ?_)
      · refine z_iconst dX7_count_24 zi1 ?_
        exact z_to (j_X7_count_25  hK4 hw) ⟨rfl, rfl, rfl, trivial⟩
      · refine z_iconst dX7_count_20 zi0 ?_
        refine z_goto dX7_count_21 ?_
        exact z_to (j_X7_count_25  hK4 hw) ⟨rfl, rfl, rfl, trivial⟩
set_option maxHeartbeats 4000000 in
set_option maxRecDepth 100000 in
theorem c_X7_count  {x1 : Int32} {σ : zS} {Q : Int32 → zS → Prop} (hw : w_X7_count x1 σ Q) : zAC yX7_count cX7_count 4 (some .int) { frames := 2, cells := 0, slots := 0, locals := 45 } [.ref 0, .int x1] zΓM zρM σ (zN zΓM zρM Q) := by
  refine z_entry (own := RX7) (ini := false) (plainFor_of_name pnX7) rfl (fun h => by cases h) (Nat.le_of_ble_eq_true rfl) ?_
  unfold w_X7_count at hw
  refine z_iconst dX7_count_0 zi0 ?_
  refine z_istore_n dX7_count_1 rfl (Nat.le_of_ble_eq_true rfl) ?_
  refine z_iconst dX7_count_2 zi0 ?_
  refine z_istore_n dX7_count_3 rfl (Nat.le_of_ble_eq_true rfl) ?_
  obtain ⟨n, hw⟩ := hw
  exact z_to (l_X7_count_4   n _ _ _ _ hw) ⟨rfl, rfl, rfl, rfl, trivial⟩

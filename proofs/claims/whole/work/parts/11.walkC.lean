def w_X6_within  (x0 x1 x2 : Int32) (σ : zS) (Q : Int32 → zS → Prop) : Prop := ((x0 < x1 → (((0 : Int32) = 0 ∨ (0 : Int32) = 1) ∧ Q (0 : Int32) σ)) ∧ (¬ (x0 < x1) → ((x2 < x0 → (((0 : Int32) = 0 ∨ (0 : Int32) = 1) ∧ Q (0 : Int32) σ)) ∧ (¬ (x2 < x0) → (((1 : Int32) = 0 ∨ (1 : Int32) = 1) ∧ Q (1 : Int32) σ)))))
set_option maxHeartbeats 4000000 in
set_option maxRecDepth 100000 in
theorem c_X6_within {b : Nat} {x0 x1 x2 : Int32} {σ : zS} {Q : Int32 → zS → Prop} (hw : w_X6_within x0 x1 x2 σ Q) : zAC yX6_within cX6_within 3 (some .boolean) { frames := 0, cells := 0, slots := 0, locals := 0 } [.int x0, .int x1, .int x2] zΓ (zρ b) σ (zN zΓ (zρ b) Q) := by
  refine z_entry (own := RX6) (ini := false) (plainFor_of_name pnX6) rfl (fun h => by cases h) (Nat.le_of_ble_eq_true rfl) ?_
  unfold w_X6_within at hw
  refine z_iload_n dX6_within_0 rfl rfl ?_
  refine z_iload_n dX6_within_1 rfl rfl ?_
  refine z_icmp_lt dX6_within_2 hw (fun hw => ?_) (fun hw => ?_)
  · refine z_iconst dX6_within_14 zi0 ?_
    exact z_zret dX6_within_15 (Nat.le_refl _) (Nat.le_refl _) rfl ⟨hw.1, ⟨rfl, rfl, hw.2⟩⟩
  · refine z_iload_n dX6_within_5 rfl rfl ?_
    refine z_iload_n dX6_within_6 rfl rfl ?_
    refine z_icmp_gt dX6_within_7 hw (fun hw => ?_) (fun hw => ?_)
    · refine z_iconst dX6_within_14 zi0 ?_
      exact z_zret dX6_within_15 (Nat.le_refl _) (Nat.le_refl _) rfl ⟨hw.1, ⟨rfl, rfl, hw.2⟩⟩
    · refine z_iconst dX6_within_10 zi1 ?_
      refine z_goto dX6_within_11 ?_
      exact z_zret dX6_within_15 (Nat.le_refl _) (Nat.le_refl _) rfl ⟨hw.1, ⟨rfl, rfl, hw.2⟩⟩
def w_X6_isFloor  (x1 : Int32) (σ : zS) (Q : Int32 → zS → Prop) : Prop := (w_X6_within x1 ((0 : Int32)) (((σ.1 9 0) - (1 : Int32))) σ fun v1 t2 => ((v1 = 0 ∨ v1 = 1) ∧ Q v1 t2))
set_option maxHeartbeats 4000000 in
set_option maxRecDepth 100000 in
theorem c_X6_isFloor {b : Nat} {x1 : Int32} {σ : zS} {Q : Int32 → zS → Prop} (hw : w_X6_isFloor x1 σ Q) : zAC yX6_isFloor cX6_isFloor 2 (some .boolean) { frames := 1, cells := 0, slots := 0, locals := 22 } [.ref 0, .int x1] zΓ (zρ b) σ (zN zΓ (zρ b) Q) := by
  refine z_entry (own := RX6) (ini := false) (plainFor_of_name pnX6) rfl (fun h => by cases h) (Nat.le_of_ble_eq_true rfl) ?_
  unfold w_X6_isFloor at hw
  refine z_iload_n dX6_isFloor_0 rfl rfl ?_
  refine z_iconst dX6_isFloor_1 zi0 ?_
  refine z_aload_n dX6_isFloor_2 rfl rfl ?_
  refine z_getr dX6_isFloor_3 fX6_21 zg0 zkX6_6 zr0_6 ?_
  refine z_geti dX6_isFloor_6 fX6_173 zg9 zkX2_0 ?_
  refine z_iconst dX6_isFloor_9 zi1 ?_
  refine z_isub dX6_isFloor_10 ?_
  refine z_callS dX6_isFloor_11 mX6_58 (c_X6_within  hw) rfl rfl (Nat.le_of_ble_eq_true rfl) ⟨Nat.le_of_ble_eq_true rfl, Nat.le_of_ble_eq_true rfl⟩ ⟨Nat.le_refl _, Nat.le_refl _⟩ (fun _ _ hw => ?_)
  exact z_zret dX6_isFloor_14 (Nat.le_refl _) (Nat.le_refl _) rfl ⟨hw.1, ⟨rfl, rfl, hw.2⟩⟩
def w_X4_add  (x1 x2 x3 x4 x5 x6 x7 : Int32) (σ : zS) (Q : Int32 → zS → Prop) : Prop := (vp_in ((σ.1 1 7)) 30 ∧ zlet (zA σ 2 ((σ.1 1 7)).toNatClampNeg x1) fun t1 => (vp_in ((σ.1 1 7)) 30 ∧ zlet (zA t1 3 ((σ.1 1 7)).toNatClampNeg x2) fun t2 => (vp_in ((σ.1 1 7)) 30 ∧ zlet (zA t2 4 ((σ.1 1 7)).toNatClampNeg x3) fun t3 => (vp_in ((σ.1 1 7)) 30 ∧ zlet (zA t3 5 ((σ.1 1 7)).toNatClampNeg x4) fun t4 => (vp_in ((σ.1 1 7)) 30 ∧ zlet (zA t4 6 ((σ.1 1 7)).toNatClampNeg x5) fun t5 => (vp_in ((σ.1 1 7)) 30 ∧ zlet (zA t5 7 ((σ.1 1 7)).toNatClampNeg x6) fun t6 => (vp_in ((σ.1 1 7)) 30 ∧ zlet (zA t6 8 ((σ.1 1 7)).toNatClampNeg x7) fun t7 => (zlet (zI t7 1 7 ((t7.1 1 7) + (1 : Int32))) fun t8 => Q (σ.1 1 7) t8))))))))
set_option maxHeartbeats 4000000 in
set_option maxRecDepth 100000 in
theorem c_X4_add {b : Nat} {x1 x2 x3 x4 x5 x6 x7 : Int32} {σ : zS} {Q : Int32 → zS → Prop} (hw : w_X4_add x1 x2 x3 x4 x5 x6 x7 σ Q) : zAC yX4_add cX4_add 9 (some .int) { frames := 0, cells := 0, slots := 0, locals := 0 } [.ref 1, .int x1, .int x2, .int x3, .int x4, .int x5, .int x6, .int x7] zΓ (zρ b) σ (zN zΓ (zρ b) Q) := by
  refine z_entry (own := RX4) (ini := false) (plainFor_of_name pnX4) rfl (fun h => by cases h) (Nat.le_of_ble_eq_true rfl) ?_
  unfold w_X4_add at hw
  refine z_aload_n dX4_add_0 rfl rfl ?_
  refine z_geti dX4_add_1 fX4_33 zg1 zkX4_7 ?_
  refine z_istore dX4_add_4 (Nat.le_of_ble_eq_true rfl) ?_
  refine z_aload_n dX4_add_6 rfl rfl ?_
  refine z_getr dX4_add_7 fX4_9 zg1 zkX4_0 zr1_0 ?_
  refine z_iload dX4_add_10 rfl ?_
  refine z_iload_n dX4_add_12 rfl rfl ?_
  refine z_iastL dX4_add_13 zg2 hw (fun hw => ?_)
  refine z_aload_n dX4_add_14 rfl rfl ?_
  refine z_getr dX4_add_15 fX4_15 zg1 zkX4_1 zr1_1 ?_
  refine z_iload dX4_add_18 rfl ?_
  refine z_iload_n dX4_add_20 rfl rfl ?_
  refine z_iastL dX4_add_21 zg3 hw (fun hw => ?_)
  refine z_aload_n dX4_add_22 rfl rfl ?_
  refine z_getr dX4_add_23 fX4_18 zg1 zkX4_2 zr1_2 ?_
  refine z_iload dX4_add_26 rfl ?_
  refine z_iload_n dX4_add_28 rfl rfl ?_
  refine z_iastL dX4_add_29 zg4 hw (fun hw => ?_)
  refine z_aload_n dX4_add_30 rfl rfl ?_
  refine z_getr dX4_add_31 fX4_21 zg1 zkX4_3 zr1_3 ?_
  refine z_iload dX4_add_34 rfl ?_
  refine z_iload dX4_add_36 rfl ?_
  refine z_iastL dX4_add_38 zg5 hw (fun hw => ?_)
  refine z_aload_n dX4_add_39 rfl rfl ?_
  refine z_getr dX4_add_40 fX4_24 zg1 zkX4_4 zr1_4 ?_
  refine z_iload dX4_add_43 rfl ?_
  refine z_iload dX4_add_45 rfl ?_
  refine z_iastL dX4_add_47 zg6 hw (fun hw => ?_)
  refine z_aload_n dX4_add_48 rfl rfl ?_
  refine z_getr dX4_add_49 fX4_27 zg1 zkX4_5 zr1_5 ?_
  refine z_iload dX4_add_52 rfl ?_
  refine z_iload dX4_add_54 rfl ?_
  refine z_iastL dX4_add_56 zg7 hw (fun hw => ?_)
  refine z_aload_n dX4_add_57 rfl rfl ?_
  refine z_getr dX4_add_58 fX4_30 zg1 zkX4_6 zr1_6 ?_
  refine z_iload dX4_add_61 rfl ?_
  refine z_iload dX4_add_63 rfl ?_
  refine z_iastL dX4_add_65 zg8 hw (fun hw => ?_)
  refine z_aload_n dX4_add_66 rfl rfl ?_
  refine z_dup dX4_add_67 rfl ?_
  refine z_geti dX4_add_68 fX4_33 zg1 zkX4_7 ?_
  refine z_iconst dX4_add_71 zi1 ?_
  refine z_iadd dX4_add_72 ?_
  refine z_putiL dX4_add_73 fX4_33 zg1 zkX4_7 hw (fun hw => ?_)
  refine z_iload dX4_add_76 rfl ?_
  exact z_iret dX4_add_78 (Nat.le_refl _) (Nat.le_refl _) rfl ⟨rfl, rfl, hw⟩
def w_X6_person  (x1 x2 x3 x4 x5 x6 x7 : Int32) (σ : zS) (Q : Int32 → zS → Prop) : Prop := (w_X6_within x1 ((0 : Int32)) ((900 : Int32)) σ fun v1 t2 => ((v1 = 0 → Q (-1 : Int32) t2) ∧ (¬ (v1 = 0) → (w_X6_isFloor x2 t2 fun v3 t4 => ((v3 = 0 → Q (-1 : Int32) t4) ∧ (¬ (v3 = 0) → (w_X6_isFloor x3 t4 fun v5 t6 => ((v5 = 0 → Q (-1 : Int32) t6) ∧ (¬ (v5 = 0) → ((x2 = x3 → Q (-1 : Int32) t6) ∧ (¬ (x2 = x3) → (w_X6_within x4 ((1 : Int32)) ((2 : Int32)) t6 fun v7 t8 => ((v7 = 0 → Q (-1 : Int32) t8) ∧ (¬ (v7 = 0) → (w_X6_within x5 ((1 : Int32)) ((6 : Int32)) t8 fun v9 t10 => ((v9 = 0 → Q (-1 : Int32) t10) ∧ (¬ (v9 = 0) → (w_X6_within x6 ((0 : Int32)) ((1 : Int32)) t10 fun v11 t12 => ((v11 = 0 → Q (-1 : Int32) t12) ∧ (¬ (v11 = 0) → (w_X6_within x7 ((0 : Int32)) ((7 : Int32)) t12 fun v13 t14 => ((v13 = 0 → Q (-1 : Int32) t14) ∧ (¬ (v13 = 0) → (((t14.1 10 13) ≤ x1 → (((t14.1 1 7) < (30 : Int32) → (w_X4_add x1 x2 x3 x4 x5 x6 x7 t14 fun v15 t16 => Q v15 t16)) ∧ (¬ ((t14.1 1 7) < (30 : Int32)) → Q (-3 : Int32) t14))) ∧ (¬ ((t14.1 10 13) ≤ x1) → Q (-2 : Int32) t14)))))))))))))))))))))))))
set_option maxHeartbeats 4000000 in
set_option maxRecDepth 100000 in
theorem c_X6_person {b : Nat} {x1 x2 x3 x4 x5 x6 x7 : Int32} {σ : zS} {Q : Int32 → zS → Prop} (hw : w_X6_person x1 x2 x3 x4 x5 x6 x7 σ Q) : zAC yX6_person cX6_person 8 (some .int) { frames := 2, cells := 0, slots := 0, locals := 43 } [.ref 0, .int x1, .int x2, .int x3, .int x4, .int x5, .int x6, .int x7] zΓ (zρ b) σ (zNp Q) := by
  refine z_entry (own := RX6) (ini := false) (plainFor_of_name pnX6) rfl (fun h => by cases h) (Nat.le_of_ble_eq_true rfl) ?_
  unfold w_X6_person at hw
  refine z_iload_n dX6_person_0 rfl rfl ?_
  refine z_iconst dX6_person_1 zi0 ?_
  refine z_sipush dX6_person_2 zsp900 ?_
  refine z_callS dX6_person_5 mX6_58 (c_X6_within  hw) rfl rfl (Nat.le_of_ble_eq_true rfl) ⟨Nat.le_of_ble_eq_true rfl, Nat.le_of_ble_eq_true rfl⟩ ⟨Nat.le_refl _, Nat.le_refl _⟩ (fun _ _ hw => ?_)
  refine z_if_eq dX6_person_8 hw (fun hw => ?_) (fun hw => ?_)
  · refine z_iconst dX6_person_32 zim1 ?_
    exact z_iret dX6_person_33 (Nat.le_refl _) (Nat.le_refl _) rfl ⟨rfl, ⟨_, rfl⟩, hw⟩
  · refine z_aload_n dX6_person_11 rfl rfl ?_
    refine z_iload_n dX6_person_12 rfl rfl ?_
    refine z_callV dX6_person_13 mX6_81 (c_X6_isFloor  hw) zg0 rfl rfl (Nat.le_of_ble_eq_true rfl) ⟨Nat.le_of_ble_eq_true rfl, Nat.le_of_ble_eq_true rfl⟩ ⟨Nat.le_refl _, Nat.le_refl _⟩ (fun _ _ hw => ?_)
    refine z_if_eq dX6_person_16 hw (fun hw => ?_) (fun hw => ?_)
    · refine z_iconst dX6_person_32 zim1 ?_
      exact z_iret dX6_person_33 (Nat.le_refl _) (Nat.le_refl _) rfl ⟨rfl, ⟨_, rfl⟩, hw⟩
    · refine z_aload_n dX6_person_19 rfl rfl ?_
      refine z_iload_n dX6_person_20 rfl rfl ?_
      refine z_callV dX6_person_21 mX6_81 (c_X6_isFloor  hw) zg0 rfl rfl (Nat.le_of_ble_eq_true rfl) ⟨Nat.le_of_ble_eq_true rfl, Nat.le_of_ble_eq_true rfl⟩ ⟨Nat.le_refl _, Nat.le_refl _⟩ (fun _ _ hw => ?_)
      refine z_if_eq dX6_person_24 hw (fun hw => ?_) (fun hw => ?_)
      · refine z_iconst dX6_person_32 zim1 ?_
        exact z_iret dX6_person_33 (Nat.le_refl _) (Nat.le_refl _) rfl ⟨rfl, ⟨_, rfl⟩, hw⟩
      · refine z_iload_n dX6_person_27 rfl rfl ?_
        refine z_iload_n dX6_person_28 rfl rfl ?_
        refine z_icmp_ne dX6_person_29 hw (fun hw => ?_) (fun hw => ?_)
        · refine z_iload dX6_person_34 rfl ?_
          refine z_iconst dX6_person_36 zi1 ?_
          refine z_iconst dX6_person_37 zi2 ?_
          refine z_callS dX6_person_38 mX6_58 (c_X6_within  hw) rfl rfl (Nat.le_of_ble_eq_true rfl) ⟨Nat.le_of_ble_eq_true rfl, Nat.le_of_ble_eq_true rfl⟩ ⟨Nat.le_refl _, Nat.le_refl _⟩ (fun _ _ hw => ?_)
          refine z_if_eq dX6_person_41 hw (fun hw => ?_) (fun hw => ?_)
          · refine z_iconst dX6_person_55 zim1 ?_
            exact z_iret dX6_person_56 (Nat.le_refl _) (Nat.le_refl _) rfl ⟨rfl, ⟨_, rfl⟩, hw⟩
          · refine z_iload dX6_person_44 rfl ?_
            refine z_iconst dX6_person_46 zi1 ?_
            refine z_bipush dX6_person_47 zbp6 ?_
            refine z_callS dX6_person_49 mX6_58 (c_X6_within  hw) rfl rfl (Nat.le_of_ble_eq_true rfl) ⟨Nat.le_of_ble_eq_true rfl, Nat.le_of_ble_eq_true rfl⟩ ⟨Nat.le_refl _, Nat.le_refl _⟩ (fun _ _ hw => ?_)
            refine z_if_ne dX6_person_52 hw (fun hw => ?_) (fun hw => ?_)
            · refine z_iload dX6_person_57 rfl ?_
              refine z_iconst dX6_person_59 zi0 ?_
              refine z_iconst dX6_person_60 zi1 ?_
              refine z_callS dX6_person_61 mX6_58 (c_X6_within  hw) rfl rfl (Nat.le_of_ble_eq_true rfl) ⟨Nat.le_of_ble_eq_true rfl, Nat.le_of_ble_eq_true rfl⟩ ⟨Nat.le_refl _, Nat.le_refl _⟩ (fun _ _ hw => ?_)
              refine z_if_eq dX6_person_64 hw (fun hw => ?_) (fun hw => ?_)
              · refine z_iconst dX6_person_78 zim1 ?_
                exact z_iret dX6_person_79 (Nat.le_refl _) (Nat.le_refl _) rfl ⟨rfl, ⟨_, rfl⟩, hw⟩
              · refine z_iload dX6_person_67 rfl ?_
                refine z_iconst dX6_person_69 zi0 ?_
                refine z_bipush dX6_person_70 zbp7 ?_
                refine z_callS dX6_person_72 mX6_58 (c_X6_within  hw) rfl rfl (Nat.le_of_ble_eq_true rfl) ⟨Nat.le_of_ble_eq_true rfl, Nat.le_of_ble_eq_true rfl⟩ ⟨Nat.le_refl _, Nat.le_refl _⟩ (fun _ _ hw => ?_)
                refine z_if_ne dX6_person_75 hw (fun hw => ?_) (fun hw => ?_)
                · refine z_iload_n dX6_person_80 rfl rfl ?_
                  refine z_aload_n dX6_person_81 rfl rfl ?_
                  refine z_getr dX6_person_82 fX6_30 zg0 zkX6_1 zr0_1 ?_
                  refine z_geti dX6_person_85 fX6_85 (zgC0 (Or.inl rfl)) zkX0_13 ?_
                  refine z_icmp_ge dX6_person_88 hw (fun hw => ?_) (fun hw => ?_)
                  · refine z_aload_n dX6_person_94 rfl rfl ?_
                    refine z_getr dX6_person_95 fX6_12 zg0 zkX6_0 zr0_0 ?_
                    refine z_geti dX6_person_98 fX6_66 zg1 zkX4_7 ?_
                    refine z_bipush dX6_person_101 zbp30 ?_
                    refine z_icmp_lt dX6_person_103 hw (fun hw => ?_) (fun hw => ?_)
                    · refine z_aload_n dX6_person_109 rfl rfl ?_
                      refine z_getr dX6_person_110 fX6_12 zg0 zkX6_0 zr0_0 ?_
                      refine z_iload_n dX6_person_113 rfl rfl ?_
                      refine z_iload_n dX6_person_114 rfl rfl ?_
                      refine z_iload_n dX6_person_115 rfl rfl ?_
                      refine z_iload dX6_person_116 rfl ?_
                      refine z_iload dX6_person_118 rfl ?_
                      refine z_iload dX6_person_120 rfl ?_
                      refine z_iload dX6_person_122 rfl ?_
                      refine z_callV dX6_person_124 mX6_88 (c_X4_add  hw) zg1 rfl rfl (Nat.le_of_ble_eq_true rfl) ⟨Nat.le_of_ble_eq_true rfl, Nat.le_of_ble_eq_true rfl⟩ ⟨Nat.le_refl _, Nat.le_refl _⟩ (fun _ _ hw => ?_)
                      exact z_iret dX6_person_127 (Nat.le_refl _) (Nat.le_refl _) rfl ⟨rfl, ⟨_, rfl⟩, hw⟩
                    · refine z_bipush dX6_person_106 zbpm3 ?_
                      exact z_iret dX6_person_108 (Nat.le_refl _) (Nat.le_refl _) rfl ⟨rfl, ⟨_, rfl⟩, hw⟩
                  · refine z_bipush dX6_person_91 zbpm2 ?_
                    exact z_iret dX6_person_93 (Nat.le_refl _) (Nat.le_refl _) rfl ⟨rfl, ⟨_, rfl⟩, hw⟩
                · refine z_iconst dX6_person_78 zim1 ?_
                  exact z_iret dX6_person_79 (Nat.le_refl _) (Nat.le_refl _) rfl ⟨rfl, ⟨_, rfl⟩, hw⟩
            · refine z_iconst dX6_person_55 zim1 ?_
              exact z_iret dX6_person_56 (Nat.le_refl _) (Nat.le_refl _) rfl ⟨rfl, ⟨_, rfl⟩, hw⟩
        · refine z_iconst dX6_person_32 zim1 ?_
          exact z_iret dX6_person_33 (Nat.le_refl _) (Nat.le_refl _) rfl ⟨rfl, ⟨_, rfl⟩, hw⟩
def w_X6_isSpeed  (x0 x1 : Int32) (σ : zS) (Q : Int32 → zS → Prop) : Prop := (w_X6_within x0 ((1 : Int32)) ((if x1 < (4 : Int32) then x1 else (4 : Int32))) σ fun v1 t2 => ((v1 = 0 ∨ v1 = 1) ∧ Q v1 t2))
set_option maxHeartbeats 4000000 in
set_option maxRecDepth 100000 in
theorem c_X6_isSpeed {b : Nat} {x0 x1 : Int32} {σ : zS} {Q : Int32 → zS → Prop} (hw : w_X6_isSpeed x0 x1 σ Q) : zAC yX6_isSpeed cX6_isSpeed 2 (some .boolean) { frames := 1, cells := 0, slots := 0, locals := 22 } [.int x0, .int x1] zΓ (zρ b) σ (zN zΓ (zρ b) Q) := by
  refine z_entry (own := RX6) (ini := false) (plainFor_of_name pnX6) rfl (fun h => by cases h) (Nat.le_of_ble_eq_true rfl) ?_
  unfold w_X6_isSpeed at hw
  refine z_iload_n dX6_isSpeed_0 rfl rfl ?_
  refine z_iconst dX6_isSpeed_1 zi1 ?_
  refine z_iconst dX6_isSpeed_2 zi4 ?_
  refine z_iload_n dX6_isSpeed_3 rfl rfl ?_
  refine z_mmin dX6_isSpeed_4 mwX6_168 (Nat.le_of_ble_eq_true rfl) (Nat.le_of_ble_eq_true rfl) (Nat.le_refl _) (Nat.le_refl _) ?_
  refine z_callS dX6_isSpeed_7 mX6_58 (c_X6_within  hw) rfl rfl (Nat.le_of_ble_eq_true rfl) ⟨Nat.le_of_ble_eq_true rfl, Nat.le_of_ble_eq_true rfl⟩ ⟨Nat.le_refl _, Nat.le_refl _⟩ (fun _ _ hw => ?_)
  exact z_zret dX6_isSpeed_10 (Nat.le_refl _) (Nat.le_refl _) rfl ⟨hw.1, ⟨rfl, rfl, hw.2⟩⟩
def w_X6_speed  (x1 : Int32) (σ : zS) (Q : Int32 → zS → Prop) : Prop := (w_X6_isSpeed x1 ((σ.1 9 1)) σ fun v1 t2 => ((v1 = 0 → Q (-1 : Int32) t2) ∧ (¬ (v1 = 0) → (zlet (zI t2 10 11 x1) fun t3 => Q (t2.1 10 11) t3))))
set_option maxHeartbeats 4000000 in
set_option maxRecDepth 100000 in
theorem c_X6_speed {b : Nat} {x1 : Int32} {σ : zS} {Q : Int32 → zS → Prop} (hw : w_X6_speed x1 σ Q) : zAC yX6_speed cX6_speed 3 (some .int) { frames := 2, cells := 0, slots := 0, locals := 43 } [.ref 0, .int x1] zΓ (zρ b) σ (zNp Q) := by
  refine z_entry (own := RX6) (ini := false) (plainFor_of_name pnX6) rfl (fun h => by cases h) (Nat.le_of_ble_eq_true rfl) ?_
  unfold w_X6_speed at hw
  refine z_iload_n dX6_speed_0 rfl rfl ?_
  refine z_aload_n dX6_speed_1 rfl rfl ?_
  refine z_getr dX6_speed_2 fX6_21 zg0 zkX6_6 zr0_6 ?_
  refine z_geti dX6_speed_5 fX6_92 zg9 zkX2_1 ?_
  refine z_callS dX6_speed_8 mX6_62 (c_X6_isSpeed  hw) rfl rfl (Nat.le_of_ble_eq_true rfl) ⟨Nat.le_of_ble_eq_true rfl, Nat.le_of_ble_eq_true rfl⟩ ⟨Nat.le_refl _, Nat.le_refl _⟩ (fun _ _ hw => ?_)
  refine z_if_ne dX6_speed_11 hw (fun hw => ?_) (fun hw => ?_)
  · refine z_aload_n dX6_speed_16 rfl rfl ?_
    refine z_getr dX6_speed_17 fX6_30 zg0 zkX6_1 zr0_1 ?_
    refine z_geti dX6_speed_20 fX6_95 (zgC0 (Or.inl rfl)) zkX0_11 ?_
    refine z_istore_n dX6_speed_23 rfl (Nat.le_of_ble_eq_true rfl) ?_
    refine z_aload_n dX6_speed_24 rfl rfl ?_
    refine z_getr dX6_speed_25 fX6_30 zg0 zkX6_1 zr0_1 ?_
    refine z_iload_n dX6_speed_28 rfl rfl ?_
    refine z_putiL dX6_speed_29 fX6_95 (zgC0 (Or.inl rfl)) zkX0_11 hw (fun hw => ?_)
    refine z_iload_n dX6_speed_32 rfl rfl ?_
    exact z_iret dX6_speed_33 (Nat.le_refl _) (Nat.le_refl _) rfl ⟨rfl, ⟨_, rfl⟩, hw⟩
  · refine z_iconst dX6_speed_14 zim1 ?_
    exact z_iret dX6_speed_15 (Nat.le_refl _) (Nat.le_refl _) rfl ⟨rfl, ⟨_, rfl⟩, hw⟩
def w_J7_fill_53178_L5 (a ln : Nat) (Q : Int32 → zS → Prop)  : Nat → Int32 → Int32 → Int32 → zS → Prop
  | 0, _, _, _, _ => False
  | n + 1, x1, x2, x3, σ => ((x3 ≤ x2 → Q 0 σ) ∧ (¬ (x3 ≤ x2) → (vp_in x2 ln ∧ zlet (zA σ a x2.toNatClampNeg x1) fun t1 => (fun a1 a2 a3 aσ => w_J7_fill_53178_L5 a ln Q  n a1 a2 a3 aσ) x1 ((x2 + (1 : Int32))) x3 t1)))
def w_J7_fill_53178 (a ln : Nat) (x1 : Int32) (σ : zS) (Q : Int32 → zS → Prop) : Prop := ∃ m5, w_J7_fill_53178_L5 a ln Q  m5 x1 ((0 : Int32)) ((nI ln)) σ
set_option maxHeartbeats 4000000 in
set_option maxRecDepth 100000 in
theorem l_J7_fill_53178_5 {Γ : zG} {ρ : zR} {a ln : Nat} (hg : Γ[a]? = some (1, ln)) {Q : Int32 → zS → Prop}   : ∀ (n : Nat) (x1 x2 x3 : Int32) (σ : zS), w_J7_fill_53178_L5 a ln Q  n x1 x2 x3 σ → zAW RJ7 cJ7_fill_53178 4 none false { frames := 0, cells := 0, slots := 0, locals := 0 } Γ.length (zN Γ ρ Q) 5 [(0, .ref a), (1, .int x1), (2, .int x2), (3, .int x3)] [] Γ ρ σ 0 0 := by
  intro n
  induction n with
  | zero => intro x1 x2 x3 σ hw; exact hw.elim
  | succ n hK5 =>
    intro x1 x2 x3 σ hw
    rw [w_J7_fill_53178_L5] at hw
    refine z_iload_n dJ7_fill_53178_5 rfl rfl ?_
    refine z_iload_n dJ7_fill_53178_6 rfl rfl ?_
    refine z_icmp_ge dJ7_fill_53178_7 hw (fun hw => ?_) (fun hw => ?_)
    · exact z_vret dJ7_fill_53178_20 (Nat.le_refl _) (Nat.le_refl _) rfl ⟨rfl, rfl, hw⟩
    · refine z_aload_n dJ7_fill_53178_10 rfl rfl ?_
      refine z_iload_n dJ7_fill_53178_11 rfl rfl ?_
      refine z_iload_n dJ7_fill_53178_12 rfl rfl ?_
      refine z_iastL dJ7_fill_53178_13 hg hw (fun hw => ?_)
      refine z_iinc dJ7_fill_53178_14 rfl zi1 (Nat.le_of_ble_eq_true rfl) ?_
      refine z_goto dJ7_fill_53178_17 ?_
      exact z_to (hK5 _ _ _ _ hw) ⟨rfl, rfl, rfl, rfl, trivial⟩
set_option maxHeartbeats 4000000 in
set_option maxRecDepth 100000 in
theorem c_J7_fill_53178 {Γ : zG} {ρ : zR} {a ln : Nat} (hg : Γ[a]? = some (1, ln)) {x1 : Int32} {σ : zS} {Q : Int32 → zS → Prop} (hw : w_J7_fill_53178 a ln x1 σ Q) : zAC yJ7_fill_53178 cJ7_fill_53178 4 none { frames := 0, cells := 0, slots := 0, locals := 0 } [.ref a, .int x1] Γ ρ σ (zN Γ ρ Q) := by
  refine z_entry (own := RJ7) (ini := false) (plainFor_of_name pnJ7) rfl (fun h => by cases h) (Nat.le_of_ble_eq_true rfl) ?_
  unfold w_J7_fill_53178 at hw
  refine z_iconst dJ7_fill_53178_0 zi0 ?_
  refine z_istore_n dJ7_fill_53178_1 rfl (Nat.le_of_ble_eq_true rfl) ?_
  refine z_aload_n dJ7_fill_53178_2 rfl rfl ?_
  refine z_alen dJ7_fill_53178_3 hg ?_
  refine z_istore_n dJ7_fill_53178_4 rfl (Nat.le_of_ble_eq_true rfl) ?_
  obtain ⟨n, hw⟩ := hw
  exact z_to (l_J7_fill_53178_5 hg  n _ _ _ _ hw) ⟨rfl, rfl, rfl, rfl, trivial⟩
def w_X0_begin_L70 (r : Nat) (Q : Int32 → zS → Prop)  : Nat → Int32 → zS → Prop
  | 0, _, _ => False
  | n + 1, x4, σ => (((8 : Int32) ≤ x4 → Q 0 σ) ∧ (¬ ((8 : Int32) ≤ x4) → (vp_in ((0 : Int32)) 2 ∧ (vp_in x4 8 ∧ zlet (zA σ ((r + 17 + ((0 : Int32)).toNatClampNeg)) x4.toNatClampNeg (0 : Int32)) fun t2 => (vp_in ((1 : Int32)) 2 ∧ (vp_in x4 8 ∧ zlet (zA t2 ((r + 17 + ((1 : Int32)).toNatClampNeg)) x4.toNatClampNeg (0 : Int32)) fun t4 => (vp_in x4 8 ∧ ((0 : Int32) = 0 ∨ (0 : Int32) = 1) ∧ zlet (zA t4 ((r + 19)) x4.toNatClampNeg (0 : Int32)) fun t5 => (fun a4 aσ => w_X0_begin_L70 r Q  n a4 aσ) ((x4 + (1 : Int32))) t5)))))))
def w_X0_begin (r : Nat) (x2 x3 : Int32) (σ : zS) (Q : Int32 → zS → Prop) : Prop := (zlet (zI σ r 11 x2) fun t1 => (zlet (zI t1 r 12 x3) fun t2 => (zlet (zI t2 r 13 (0 : Int32)) fun t3 => (zlet (zI t3 r 14 (0 : Int32)) fun t4 => (zlet (zI t4 r 15 (0 : Int32)) fun t5 => (((0 : Int32) = 0 ∨ (0 : Int32) = 1) ∧ zlet (zI t5 r 16 (0 : Int32)) fun t6 => (w_J7_fill_53178 ((r + 1)) 30 ((0 : Int32)) t6 fun _ t7 => (w_J7_fill_53178 ((r + 4)) 30 ((0 : Int32)) t7 fun _ t8 => (w_J7_fill_53178 ((r + 14)) 8 ((0 : Int32)) t8 fun _ t9 => (w_J7_fill_53178 ((r + 15)) 18 ((0 : Int32)) t9 fun _ t10 => ∃ m70, w_X0_begin_L70 r Q  m70 ((0 : Int32)) t10))))))))))
set_option maxHeartbeats 4000000 in
set_option maxRecDepth 100000 in
theorem l_X0_begin_70 {Γ : zG} {ρ : zR} {r hx : Nat} (g0 : Γ[r]? = some (0, 0)) (g1 : Γ[r + 1]? = some (1, 30)) (g4 : Γ[r + 4]? = some (1, 30)) (g14 : Γ[r + 14]? = some (1, 8)) (g15 : Γ[r + 15]? = some (1, 18)) (g16 : Γ[r + 16]? = some (3, 2)) (gN : ∀ j, j < 2 → Γ[r + 17 + j]? = some (1, 8)) (g19 : Γ[r + 19]? = some (2, 8)) (e1 : zRu ρ r 10 (some hx) r 1 = some (r + 1)) (e4 : zRu ρ r 10 (some hx) r 4 = some (r + 4)) (e6 : zRu ρ r 10 (some hx) r 6 = some (r + 14)) (e7 : zRu ρ r 10 (some hx) r 7 = some (r + 15)) (e8 : zRu ρ r 10 (some hx) r 8 = some (r + 16)) (e9 : zRu ρ r 10 (some hx) r 9 = some (r + 19)) (eN : ∀ j, j < 2 → zRu ρ r 10 (some hx) (r + 16) j = some (r + 17 + j)) {Q : Int32 → zS → Prop}   : ∀ (n : Nat) (x4 : Int32) (σ : zS), w_X0_begin_L70 r Q  n x4 σ → zAW RX0 cX0_begin 5 none false { frames := 1, cells := 0, slots := 0, locals := 23 } Γ.length (zN Γ (zRu ρ r 10 (some hx)) Q) 70 [(0, .ref r), (4, .int x4)] [] Γ (zRu ρ r 10 (some hx)) σ 0 0 := by
  intro n
  induction n with
  | zero => intro x4 σ hw; exact hw.elim
  | succ n hK70 =>
    intro x4 σ hw
    rw [w_X0_begin_L70] at hw
    refine z_iload dX0_begin_70 rfl ?_
    refine z_bipush dX0_begin_72 zbp8 ?_
    refine z_icmp_ge dX0_begin_74 hw (fun hw => ?_) (fun hw => ?_)
    · exact z_vret dX0_begin_111 (Nat.le_refl _) (Nat.le_refl _) rfl ⟨rfl, rfl, hw⟩
    · refine z_aload_n dX0_begin_77 rfl rfl ?_
      refine z_getr dX0_begin_78 fX0_35 g0 zkX0_8 e8 ?_
      refine z_iconst dX0_begin_81 zi0 ?_
      have hv1 := hw.1
      refine z_aald dX0_begin_82 g16 hw (zrho eN) (fun hw => ?_)
      refine z_iload dX0_begin_83 rfl ?_
      refine z_iconst dX0_begin_85 zi0 ?_
      refine z_iastL dX0_begin_86 (zrow gN hv1) hw (fun hw => ?_)
      refine z_aload_n dX0_begin_87 rfl rfl ?_
      refine z_getr dX0_begin_88 fX0_35 g0 zkX0_8 e8 ?_
      refine z_iconst dX0_begin_91 zi1 ?_
      have hv3 := hw.1
      refine z_aald dX0_begin_92 g16 hw (zrho eN) (fun hw => ?_)
      refine z_iload dX0_begin_93 rfl ?_
      refine z_iconst dX0_begin_95 zi0 ?_
      refine z_iastL dX0_begin_96 (zrow gN hv3) hw (fun hw => ?_)
      refine z_aload_n dX0_begin_97 rfl rfl ?_
      refine z_getr dX0_begin_98 fX0_38 g0 zkX0_9 e9 ?_
      refine z_iload dX0_begin_101 rfl ?_
      refine z_iconst dX0_begin_103 zi0 ?_
      refine z_zastL dX0_begin_104 g19 hw (fun hw => ?_)
      refine z_iinc dX0_begin_105 rfl zi1 (Nat.le_of_ble_eq_true rfl) ?_
      refine z_goto dX0_begin_108 ?_
      exact z_to (hK70 _ _ hw) ⟨rfl, rfl, trivial⟩
set_option maxHeartbeats 4000000 in
set_option maxRecDepth 100000 in
theorem cg_X0_begin {Γ : zG} {ρ : zR} {r hx : Nat} (g0 : Γ[r]? = some (0, 0)) (g1 : Γ[r + 1]? = some (1, 30)) (g4 : Γ[r + 4]? = some (1, 30)) (g14 : Γ[r + 14]? = some (1, 8)) (g15 : Γ[r + 15]? = some (1, 18)) (g16 : Γ[r + 16]? = some (3, 2)) (gN : ∀ j, j < 2 → Γ[r + 17 + j]? = some (1, 8)) (g19 : Γ[r + 19]? = some (2, 8)) (e1 : zRu ρ r 10 (some hx) r 1 = some (r + 1)) (e4 : zRu ρ r 10 (some hx) r 4 = some (r + 4)) (e6 : zRu ρ r 10 (some hx) r 6 = some (r + 14)) (e7 : zRu ρ r 10 (some hx) r 7 = some (r + 15)) (e8 : zRu ρ r 10 (some hx) r 8 = some (r + 16)) (e9 : zRu ρ r 10 (some hx) r 9 = some (r + 19)) (eN : ∀ j, j < 2 → zRu ρ r 10 (some hx) (r + 16) j = some (r + 17 + j)) {x2 x3 : Int32} {σ : zS} {Q : Int32 → zS → Prop} (hw : w_X0_begin r x2 x3 σ Q) : zAC yX0_begin cX0_begin 5 none { frames := 1, cells := 0, slots := 0, locals := 23 } [.ref r, .ref hx, .int x2, .int x3] Γ ρ σ (zN Γ (zRu ρ r 10 (some hx)) Q) := by
  refine z_entry (own := RX0) (ini := false) (plainFor_of_name pnX0) rfl (fun h => by cases h) (Nat.le_of_ble_eq_true rfl) ?_
  unfold w_X0_begin at hw
  refine z_aload_n dX0_begin_0 rfl rfl ?_
  refine z_aload_n dX0_begin_1 rfl rfl ?_
  refine z_putr dX0_begin_2 fX0_46 g0 zkX0_10 (fun _ => rfl) (fun _ => rfl) ?_
  refine z_aload_n dX0_begin_5 rfl rfl ?_
  refine z_iload_n dX0_begin_6 rfl rfl ?_
  refine z_putiL dX0_begin_7 fX0_50 g0 zkX0_11 hw (fun hw => ?_)
  refine z_aload_n dX0_begin_10 rfl rfl ?_
  refine z_iload_n dX0_begin_11 rfl rfl ?_
  refine z_putiL dX0_begin_12 fX0_54 g0 zkX0_12 hw (fun hw => ?_)
  refine z_aload_n dX0_begin_15 rfl rfl ?_
  refine z_iconst dX0_begin_16 zi0 ?_
  refine z_putiL dX0_begin_17 fX0_57 g0 zkX0_13 hw (fun hw => ?_)
  refine z_aload_n dX0_begin_20 rfl rfl ?_
  refine z_iconst dX0_begin_21 zi0 ?_
  refine z_putiL dX0_begin_22 fX0_60 g0 zkX0_14 hw (fun hw => ?_)
  refine z_aload_n dX0_begin_25 rfl rfl ?_
  refine z_iconst dX0_begin_26 zi0 ?_
  refine z_putiL dX0_begin_27 fX0_63 g0 zkX0_15 hw (fun hw => ?_)
  refine z_aload_n dX0_begin_30 rfl rfl ?_
  refine z_iconst dX0_begin_31 zi0 ?_
  refine z_putzL dX0_begin_32 fX0_66 g0 zkX0_16 hw (fun hw => ?_)
  refine z_aload_n dX0_begin_35 rfl rfl ?_
  refine z_getr dX0_begin_36 fX0_9 g0 zkX0_1 e1 ?_
  refine z_iconst dX0_begin_39 zi0 ?_
  refine z_callSv dX0_begin_40 mX0_70 (c_J7_fill_53178 g1 hw) rfl rfl (Nat.le_of_ble_eq_true rfl) ⟨Nat.le_of_ble_eq_true rfl, Nat.le_of_ble_eq_true rfl⟩ ⟨Nat.le_refl _, Nat.le_refl _⟩ (fun _ hw => ?_)
  refine z_aload_n dX0_begin_43 rfl rfl ?_
  refine z_getr dX0_begin_44 fX0_21 g0 zkX0_4 e4 ?_
  refine z_iconst dX0_begin_47 zi0 ?_
  refine z_callSv dX0_begin_48 mX0_70 (c_J7_fill_53178 g4 hw) rfl rfl (Nat.le_of_ble_eq_true rfl) ⟨Nat.le_of_ble_eq_true rfl, Nat.le_of_ble_eq_true rfl⟩ ⟨Nat.le_refl _, Nat.le_refl _⟩ (fun _ hw => ?_)
  refine z_aload_n dX0_begin_51 rfl rfl ?_
  refine z_getr dX0_begin_52 fX0_29 g0 zkX0_6 e6 ?_
  refine z_iconst dX0_begin_55 zi0 ?_
  refine z_callSv dX0_begin_56 mX0_70 (c_J7_fill_53178 g14 hw) rfl rfl (Nat.le_of_ble_eq_true rfl) ⟨Nat.le_of_ble_eq_true rfl, Nat.le_of_ble_eq_true rfl⟩ ⟨Nat.le_refl _, Nat.le_refl _⟩ (fun _ hw => ?_)
  refine z_aload_n dX0_begin_59 rfl rfl ?_
  refine z_getr dX0_begin_60 fX0_32 g0 zkX0_7 e7 ?_
  refine z_iconst dX0_begin_63 zi0 ?_
  refine z_callSv dX0_begin_64 mX0_70 (c_J7_fill_53178 g15 hw) rfl rfl (Nat.le_of_ble_eq_true rfl) ⟨Nat.le_of_ble_eq_true rfl, Nat.le_of_ble_eq_true rfl⟩ ⟨Nat.le_refl _, Nat.le_refl _⟩ (fun _ hw => ?_)
  refine z_iconst dX0_begin_67 zi0 ?_
  refine z_istore dX0_begin_68 (Nat.le_of_ble_eq_true rfl) ?_
  obtain ⟨n, hw⟩ := hw
  exact z_to (l_X0_begin_70 g0 g1 g4 g14 g15 g16 gN g19 e1 e4 e6 e7 e8 e9 eN  n _ _ hw) ⟨rfl, rfl, trivial⟩
set_option maxHeartbeats 4000000 in
set_option maxRecDepth 100000 in
theorem c_X0_begin {r b : Nat} (h0 : r = 10 ∨ r = 30) {x2 x3 : Int32} {σ : zS} {Q : Int32 → zS → Prop} (hw : w_X0_begin r x2 x3 σ Q) : zAC yX0_begin cX0_begin 5 none { frames := 1, cells := 0, slots := 0, locals := 23 } [.ref r, .ref 9, .int x2, .int x3] zΓ (zρ b) σ (zN zΓ (zρ (zb2 r b)) Q) := by
  have h := cg_X0_begin (Γ := zΓ) (ρ := zρ b) (r := r) (hx := 9) (zgC0 h0) (zgC1 h0) (zgC4 h0) (zgC14 h0) (zgC15 h0) (zgC16 h0) (zrowN h0) (zgC19 h0) (by rw [zρ_up h0]; exact zrC1 h0) (by rw [zρ_up h0]; exact zrC4 h0) (by rw [zρ_up h0]; exact zrC6 h0) (by rw [zρ_up h0]; exact zrC7 h0) (by rw [zρ_up h0]; exact zrC8 h0) (by rw [zρ_up h0]; exact zrC9 h0) (by rw [zρ_up h0]; exact zrefN h0) hw
  rw [zρ_up h0] at h
  exact h
def w_X6_anew  (σ : zS) (Q : Int32 → zS → Prop) : Prop := (w_X0_begin 10 ((σ.1 10 11)) ((-1 : Int32)) σ fun _ t1 => Q (σ.1 10 13) t1)
set_option maxHeartbeats 4000000 in
set_option maxRecDepth 100000 in
theorem c_X6_anew {b : Nat} {σ : zS} {Q : Int32 → zS → Prop} (hw : w_X6_anew  σ Q) : zAC yX6_anew cX6_anew 2 (some .int) { frames := 2, cells := 0, slots := 0, locals := 47 } [.ref 0] zΓ (zρ b) σ (zNp Q) := by
  refine z_entry (own := RX6) (ini := false) (plainFor_of_name pnX6) rfl (fun h => by cases h) (Nat.le_of_ble_eq_true rfl) ?_
  unfold w_X6_anew at hw
  refine z_aload_n dX6_anew_0 rfl rfl ?_
  refine z_getr dX6_anew_1 fX6_30 zg0 zkX6_1 zr0_1 ?_
  refine z_geti dX6_anew_4 fX6_85 (zgC0 (Or.inl rfl)) zkX0_13 ?_
  refine z_istore_n dX6_anew_7 rfl (Nat.le_of_ble_eq_true rfl) ?_
  refine z_aload_n dX6_anew_8 rfl rfl ?_
  refine z_getr dX6_anew_9 fX6_30 zg0 zkX6_1 zr0_1 ?_
  refine z_aload_n dX6_anew_12 rfl rfl ?_
  refine z_getr dX6_anew_13 fX6_21 zg0 zkX6_6 zr0_6 ?_
  refine z_aload_n dX6_anew_16 rfl rfl ?_
  refine z_getr dX6_anew_17 fX6_30 zg0 zkX6_1 zr0_1 ?_
  refine z_geti dX6_anew_20 fX6_95 (zgC0 (Or.inl rfl)) zkX0_11 ?_
  refine z_iconst dX6_anew_23 zim1 ?_
  refine z_callVv dX6_anew_24 mX6_70 (c_X0_begin (Or.inl rfl) hw) (zgC0 (Or.inl rfl)) rfl rfl (Nat.le_of_ble_eq_true rfl) ⟨Nat.le_of_ble_eq_true rfl, Nat.le_of_ble_eq_true rfl⟩ ⟨Nat.le_refl _, Nat.le_refl _⟩ (fun _ hw => ?_)
  refine z_iload_n dX6_anew_27 rfl rfl ?_
  exact z_iret dX6_anew_28 (Nat.le_refl _) (Nat.le_refl _) rfl ⟨rfl, ⟨_, rfl⟩, hw⟩
def w_J9_floorMod_7cf53  (x0 x1 : Int32) (σ : zS) (Q : Int32 → zS → Prop) : Prop := ((¬ x1 = 0) ∧ ((0 ≤ (x0 ^^^ x1) → Q (x0 - x0 / x1 * x1) σ) ∧ (¬ (0 ≤ (x0 ^^^ x1)) → (((x0 - x0 / x1 * x1) = 0 → Q (x0 - x0 / x1 * x1) σ) ∧ (¬ ((x0 - x0 / x1 * x1) = 0) → Q ((x0 - x0 / x1 * x1) + x1) σ)))))
set_option maxHeartbeats 4000000 in
set_option maxRecDepth 100000 in
theorem c_J9_floorMod_7cf53 {Γ : zG} {ρ : zR} {x0 x1 : Int32} {σ : zS} {Q : Int32 → zS → Prop} (hw : w_J9_floorMod_7cf53 x0 x1 σ Q) : zAC yJ9_floorMod_7cf53 cJ9_floorMod_7cf53 3 (some .int) { frames := 0, cells := 0, slots := 0, locals := 0 } [.int x0, .int x1] Γ ρ σ (zN Γ ρ Q) := by
  refine z_entry (own := RJ9) (ini := false) pfJ9 rfl (fun h => by cases h) (Nat.le_of_ble_eq_true rfl) ?_
  unfold w_J9_floorMod_7cf53 at hw
  refine z_iload_n dJ9_floorMod_7cf53_0 rfl rfl ?_
  refine z_iload_n dJ9_floorMod_7cf53_1 rfl rfl ?_
  refine z_irem dJ9_floorMod_7cf53_2 hw (fun hw => ?_)
  refine z_istore_n dJ9_floorMod_7cf53_3 rfl (Nat.le_of_ble_eq_true rfl) ?_
  refine z_iload_n dJ9_floorMod_7cf53_4 rfl rfl ?_
  refine z_iload_n dJ9_floorMod_7cf53_5 rfl rfl ?_
  refine z_ixor dJ9_floorMod_7cf53_6 ?_
  refine z_if_ge dJ9_floorMod_7cf53_7 hw (fun hw => ?_) (fun hw => ?_)
  · refine z_iload_n dJ9_floorMod_7cf53_18 rfl rfl ?_
    exact z_iret dJ9_floorMod_7cf53_19 (Nat.le_refl _) (Nat.le_refl _) rfl ⟨rfl, rfl, hw⟩
  · refine z_iload_n dJ9_floorMod_7cf53_10 rfl rfl ?_
    refine z_if_eq dJ9_floorMod_7cf53_11 hw (fun hw => ?_) (fun hw => ?_)
    · refine z_iload_n dJ9_floorMod_7cf53_18 rfl rfl ?_
      exact z_iret dJ9_floorMod_7cf53_19 (Nat.le_refl _) (Nat.le_refl _) rfl ⟨rfl, rfl, hw⟩
    · refine z_iload_n dJ9_floorMod_7cf53_14 rfl rfl ?_
      refine z_iload_n dJ9_floorMod_7cf53_15 rfl rfl ?_
      refine z_iadd dJ9_floorMod_7cf53_16 ?_
      exact z_iret dJ9_floorMod_7cf53_17 (Nat.le_refl _) (Nat.le_refl _) rfl ⟨rfl, rfl, hw⟩
def w_X2_along  (x1 x2 : Int32) (σ : zS) (Q : Int32 → zS → Prop) : Prop := (w_J9_floorMod_7cf53 ((x1 + x2)) ((σ.1 9 4)) σ fun v1 t2 => Q v1 t2)
set_option maxHeartbeats 4000000 in
set_option maxRecDepth 100000 in
theorem c_X2_along {b : Nat} {x1 x2 : Int32} {σ : zS} {Q : Int32 → zS → Prop} (hw : w_X2_along x1 x2 σ Q) : zAC yX2_along cX2_along 3 (some .int) { frames := 1, cells := 0, slots := 0, locals := 22 } [.ref 9, .int x1, .int x2] zΓ (zρ b) σ (zN zΓ (zρ b) Q) := by
  refine z_entry (own := RX2) (ini := false) (plainFor_of_name pnX2) rfl (fun h => by cases h) (Nat.le_of_ble_eq_true rfl) ?_
  unfold w_X2_along at hw
  refine z_iload_n dX2_along_0 rfl rfl ?_
  refine z_iload_n dX2_along_1 rfl rfl ?_
  refine z_iadd dX2_along_2 ?_
  refine z_aload_n dX2_along_3 rfl rfl ?_
  refine z_geti dX2_along_4 fX2_24 zg9 zkX2_4 ?_
  refine z_callS dX2_along_7 mX2_27 (c_J9_floorMod_7cf53  hw) rfl rfl (Nat.le_of_ble_eq_true rfl) ⟨Nat.le_of_ble_eq_true rfl, Nat.le_of_ble_eq_true rfl⟩ ⟨Nat.le_refl _, Nat.le_refl _⟩ (fun _ _ hw => ?_)
  exact z_iret dX2_along_10 (Nat.le_refl _) (Nat.le_refl _) rfl ⟨rfl, rfl, hw⟩
def w_X2_place  (x1 x2 : Int32) (σ : zS) (Q : Int32 → zS → Prop) : Prop := ((¬ (σ.1 9 4) = 0) ∧ Q (((x1 * (σ.1 9 1)) + x2) - ((x1 * (σ.1 9 1)) + x2) / (σ.1 9 4) * (σ.1 9 4)) σ)
set_option maxHeartbeats 4000000 in
set_option maxRecDepth 100000 in
theorem c_X2_place {b : Nat} {x1 x2 : Int32} {σ : zS} {Q : Int32 → zS → Prop} (hw : w_X2_place x1 x2 σ Q) : zAC yX2_place cX2_place 3 (some .int) { frames := 0, cells := 0, slots := 0, locals := 0 } [.ref 9, .int x1, .int x2] zΓ (zρ b) σ (zN zΓ (zρ b) Q) := by
  refine z_entry (own := RX2) (ini := false) (plainFor_of_name pnX2) rfl (fun h => by cases h) (Nat.le_of_ble_eq_true rfl) ?_
  unfold w_X2_place at hw
  refine z_iload_n dX2_place_0 rfl rfl ?_
  refine z_aload_n dX2_place_1 rfl rfl ?_
  refine z_geti dX2_place_2 fX2_15 zg9 zkX2_1 ?_
  refine z_imul dX2_place_5 ?_
  refine z_iload_n dX2_place_6 rfl rfl ?_
  refine z_iadd dX2_place_7 ?_
  refine z_aload_n dX2_place_8 rfl rfl ?_
  refine z_geti dX2_place_9 fX2_24 zg9 zkX2_4 ?_
  refine z_irem dX2_place_12 hw (fun hw => ?_)
  exact z_iret dX2_place_13 (Nat.le_refl _) (Nat.le_refl _) rfl ⟨rfl, rfl, hw⟩
def w_X2_slot  (x1 x2 : Int32) (σ : zS) (Q : Int32 → zS → Prop) : Prop := (w_X2_place x1 x2 σ fun v1 t2 => ((¬ (t2.1 9 1) = 0) ∧ Q (v1 / (t2.1 9 1)) t2))
set_option maxHeartbeats 4000000 in
set_option maxRecDepth 100000 in
theorem c_X2_slot {b : Nat} {x1 x2 : Int32} {σ : zS} {Q : Int32 → zS → Prop} (hw : w_X2_slot x1 x2 σ Q) : zAC yX2_slot cX2_slot 3 (some .int) { frames := 1, cells := 0, slots := 0, locals := 22 } [.ref 9, .int x1, .int x2] zΓ (zρ b) σ (zN zΓ (zρ b) Q) := by
  refine z_entry (own := RX2) (ini := false) (plainFor_of_name pnX2) rfl (fun h => by cases h) (Nat.le_of_ble_eq_true rfl) ?_
  unfold w_X2_slot at hw
  refine z_aload_n dX2_slot_0 rfl rfl ?_
  refine z_iload_n dX2_slot_1 rfl rfl ?_
  refine z_iload_n dX2_slot_2 rfl rfl ?_
  refine z_callV dX2_slot_3 mX2_33 (c_X2_place  hw) zg9 rfl rfl (Nat.le_of_ble_eq_true rfl) ⟨Nat.le_of_ble_eq_true rfl, Nat.le_of_ble_eq_true rfl⟩ ⟨Nat.le_refl _, Nat.le_refl _⟩ (fun _ _ hw => ?_)
  refine z_aload_n dX2_slot_6 rfl rfl ?_
  refine z_geti dX2_slot_7 fX2_15 zg9 zkX2_1 ?_
  refine z_idiv dX2_slot_10 hw (fun hw => ?_)
  exact z_iret dX2_slot_11 (Nat.le_refl _) (Nat.le_refl _) rfl ⟨rfl, rfl, hw⟩
def w_X2_isAtFloor  (x1 : Int32) (σ : zS) (Q : Int32 → zS → Prop) : Prop := ((x1 = (σ.1 9 0) → (((0 : Int32) = 0 ∨ (0 : Int32) = 1) ∧ Q (0 : Int32) σ)) ∧ (¬ (x1 = (σ.1 9 0)) → ((x1 = ((σ.1 9 3) - (1 : Int32)) → (((0 : Int32) = 0 ∨ (0 : Int32) = 1) ∧ Q (0 : Int32) σ)) ∧ (¬ (x1 = ((σ.1 9 3) - (1 : Int32))) → (((1 : Int32) = 0 ∨ (1 : Int32) = 1) ∧ Q (1 : Int32) σ)))))
set_option maxHeartbeats 4000000 in
set_option maxRecDepth 100000 in
theorem c_X2_isAtFloor {b : Nat} {x1 : Int32} {σ : zS} {Q : Int32 → zS → Prop} (hw : w_X2_isAtFloor x1 σ Q) : zAC yX2_isAtFloor cX2_isAtFloor 2 (some .boolean) { frames := 0, cells := 0, slots := 0, locals := 0 } [.ref 9, .int x1] zΓ (zρ b) σ (zN zΓ (zρ b) Q) := by
  refine z_entry (own := RX2) (ini := false) (plainFor_of_name pnX2) rfl (fun h => by cases h) (Nat.le_of_ble_eq_true rfl) ?_
  unfold w_X2_isAtFloor at hw
  refine z_iload_n dX2_isAtFloor_0 rfl rfl ?_
  refine z_aload_n dX2_isAtFloor_1 rfl rfl ?_
  refine z_geti dX2_isAtFloor_2 fX2_9 zg9 zkX2_0 ?_
  refine z_icmp_eq dX2_isAtFloor_5 hw (fun hw => ?_) (fun hw => ?_)
  · refine z_iconst dX2_isAtFloor_22 zi0 ?_
    exact z_zret dX2_isAtFloor_23 (Nat.le_refl _) (Nat.le_refl _) rfl ⟨hw.1, ⟨rfl, rfl, hw.2⟩⟩
  · refine z_iload_n dX2_isAtFloor_8 rfl rfl ?_
    refine z_aload_n dX2_isAtFloor_9 rfl rfl ?_
    refine z_geti dX2_isAtFloor_10 fX2_21 zg9 zkX2_3 ?_
    refine z_iconst dX2_isAtFloor_13 zi1 ?_
    refine z_isub dX2_isAtFloor_14 ?_
    refine z_icmp_eq dX2_isAtFloor_15 hw (fun hw => ?_) (fun hw => ?_)
    · refine z_iconst dX2_isAtFloor_22 zi0 ?_
      exact z_zret dX2_isAtFloor_23 (Nat.le_refl _) (Nat.le_refl _) rfl ⟨hw.1, ⟨rfl, rfl, hw.2⟩⟩
    · refine z_iconst dX2_isAtFloor_18 zi1 ?_
      refine z_goto dX2_isAtFloor_19 ?_
      exact z_zret dX2_isAtFloor_23 (Nat.le_refl _) (Nat.le_refl _) rfl ⟨hw.1, ⟨rfl, rfl, hw.2⟩⟩
def w_X0_isIn (r : Nat) (x1 x2 : Int32) (σ : zS) (Q : Int32 → zS → Prop) : Prop := (vp_in x1 30 ∧ (((σ.2 ((r + 1)) x1.toNatClampNeg) = (2 : Int32) → (vp_in x1 30 ∧ (((σ.2 ((r + 2)) x1.toNatClampNeg) = x2 → (((1 : Int32) = 0 ∨ (1 : Int32) = 1) ∧ Q (1 : Int32) σ)) ∧ (¬ ((σ.2 ((r + 2)) x1.toNatClampNeg) = x2) → (((0 : Int32) = 0 ∨ (0 : Int32) = 1) ∧ Q (0 : Int32) σ))))) ∧ (¬ ((σ.2 ((r + 1)) x1.toNatClampNeg) = (2 : Int32)) → (((0 : Int32) = 0 ∨ (0 : Int32) = 1) ∧ Q (0 : Int32) σ))))
set_option maxHeartbeats 4000000 in
set_option maxRecDepth 100000 in
theorem c_X0_isIn {r b : Nat} (hr : zHr r b) {x1 x2 : Int32} {σ : zS} {Q : Int32 → zS → Prop} (hw : w_X0_isIn r x1 x2 σ Q) : zAC yX0_isIn cX0_isIn 3 (some .boolean) { frames := 0, cells := 0, slots := 0, locals := 0 } [.ref r, .int x1, .int x2] zΓ (zρ b) σ (zN zΓ (zρ b) Q) := by
  have h0 := zHw hr
  refine z_entry (own := RX0) (ini := false) (plainFor_of_name pnX0) rfl (fun h => by cases h) (Nat.le_of_ble_eq_true rfl) ?_
  unfold w_X0_isIn at hw
  refine z_aload_n dX0_isIn_0 rfl rfl ?_
  refine z_getr dX0_isIn_1 fX0_9 (zgC0 h0) zkX0_1 (zrC1 h0) ?_
  refine z_iload_n dX0_isIn_4 rfl rfl ?_
  refine z_iald dX0_isIn_5 (zgC1 h0) hw (fun hw => ?_)
  refine z_iconst dX0_isIn_6 zi2 ?_
  refine z_icmp_ne dX0_isIn_7 hw (fun hw => ?_) (fun hw => ?_)
  · refine z_iconst dX0_isIn_24 zi0 ?_
    exact z_zret dX0_isIn_25 (Nat.le_refl _) (Nat.le_refl _) rfl ⟨hw.1, ⟨rfl, rfl, hw.2⟩⟩
  · refine z_aload_n dX0_isIn_10 rfl rfl ?_
    refine z_getr dX0_isIn_11 fX0_15 (zgC0 h0) zkX0_2 (zrC2 h0) ?_
    refine z_iload_n dX0_isIn_14 rfl rfl ?_
    refine z_iald dX0_isIn_15 (zgC2 h0) hw (fun hw => ?_)
    refine z_iload_n dX0_isIn_16 rfl rfl ?_
    refine z_icmp_ne dX0_isIn_17 hw (fun hw => ?_) (fun hw => ?_)
    · refine z_iconst dX0_isIn_24 zi0 ?_
      exact z_zret dX0_isIn_25 (Nat.le_refl _) (Nat.le_refl _) rfl ⟨hw.1, ⟨rfl, rfl, hw.2⟩⟩
    · refine z_iconst dX0_isIn_20 zi1 ?_
      refine z_goto dX0_isIn_21 ?_
      exact z_zret dX0_isIn_25 (Nat.le_refl _) (Nat.le_refl _) rfl ⟨hw.1, ⟨rfl, rfl, hw.2⟩⟩
def w_X0_countTurned_J32 (r : Nat) (Q : Int32 → zS → Prop) (K2 : Int32 → Int32 → zS → Prop) (x1 x2 : Int32) (σ : zS) : Prop := K2 x1 ((x2 + (1 : Int32))) σ
def w_X0_countTurned_L2 (r : Nat) (Q : Int32 → zS → Prop)  : Nat → Int32 → Int32 → zS → Prop
  | 0, _, _, _ => False
  | n + 1, x1, x2, σ => (((σ.1 1 7) ≤ x2 → Q 0 σ) ∧ (¬ ((σ.1 1 7) ≤ x2) → (w_X0_isIn r x2 x1 σ fun v1 t2 => ((v1 = 0 → w_X0_countTurned_J32 r Q (fun a1 a2 aσ => w_X0_countTurned_L2 r Q  n a1 a2 aσ) x1 x2  t2) ∧ (¬ (v1 = 0) → (vp_in x2 30 ∧ (vp_in x2 30 ∧ zlet (zA t2 ((r + 4)) x2.toNatClampNeg ((t2.2 ((r + 4)) x2.toNatClampNeg) + (1 : Int32))) fun t3 => w_X0_countTurned_J32 r Q (fun a1 a2 aσ => w_X0_countTurned_L2 r Q  n a1 a2 aσ) x1 x2  t3)))))))
def w_X0_countTurned (r : Nat) (x1 : Int32) (σ : zS) (Q : Int32 → zS → Prop) : Prop := ∃ m2, w_X0_countTurned_L2 r Q  m2 x1 ((0 : Int32)) σ
set_option maxHeartbeats 4000000 in
set_option maxRecDepth 100000 in
theorem j_X0_countTurned_32 {r b : Nat} (hr : zHr r b) {Q : Int32 → zS → Prop} {K2 : Int32 → Int32 → zS → Prop} (hK2 : ∀ (a1 a2 : Int32) (σ : zS), K2 a1 a2 σ → zAW RX0 cX0_countTurned 3 none false { frames := 1, cells := 0, slots := 0, locals := 22 } zΓ.length (zN zΓ (zρ b) Q) 2 [(0, .ref r), (1, .int a1), (2, .int a2)] [] zΓ (zρ b) σ 0 0) {x1 x2 : Int32} {σ : zS} (hw : w_X0_countTurned_J32 r Q K2 x1 x2 σ) : zAW RX0 cX0_countTurned 3 none false { frames := 1, cells := 0, slots := 0, locals := 22 } zΓ.length (zN zΓ (zρ b) Q) 32 [(0, .ref r), (1, .int x1), (2, .int x2)] [] zΓ (zρ b) σ 0 0 := by
  have h0 := zHw hr
  unfold w_X0_countTurned_J32 at hw
  refine z_iinc dX0_countTurned_32 rfl zi1 (Nat.le_of_ble_eq_true rfl) ?_
  refine z_goto dX0_countTurned_35 ?_
  exact z_to (hK2 _ _ _ hw) ⟨rfl, rfl, rfl, trivial⟩
set_option maxHeartbeats 4000000 in
set_option maxRecDepth 100000 in
theorem l_X0_countTurned_2 {r b : Nat} (hr : zHr r b) {Q : Int32 → zS → Prop}   : ∀ (n : Nat) (x1 x2 : Int32) (σ : zS), w_X0_countTurned_L2 r Q  n x1 x2 σ → zAW RX0 cX0_countTurned 3 none false { frames := 1, cells := 0, slots := 0, locals := 22 } zΓ.length (zN zΓ (zρ b) Q) 2 [(0, .ref r), (1, .int x1), (2, .int x2)] [] zΓ (zρ b) σ 0 0 := by
  intro n
  induction n with
  | zero => intro x1 x2 σ hw; exact hw.elim
  | succ n hK2 =>
    intro x1 x2 σ hw
    have h0 := zHw hr
    rw [w_X0_countTurned_L2] at hw
    refine z_iload_n dX0_countTurned_2 rfl rfl ?_
    refine z_aload_n dX0_countTurned_3 rfl rfl ?_
    refine z_getr dX0_countTurned_4 fX0_42 (zgC0 h0) zkX0_0 (zrC0 h0) ?_
    refine z_geti dX0_countTurned_7 fX0_128 zg1 zkX4_7 ?_
    refine z_icmp_ge dX0_countTurned_10 hw (fun hw => ?_) (fun hw => ?_)
    · exact z_vret dX0_countTurned_38 (Nat.le_refl _) (Nat.le_refl _) rfl ⟨rfl, rfl, hw⟩
    · refine z_aload_n dX0_countTurned_13 rfl rfl ?_
      refine z_iload_n dX0_countTurned_14 rfl rfl ?_
      refine z_iload_n dX0_countTurned_15 rfl rfl ?_
      refine z_callV dX0_countTurned_16 mX0_133 (c_X0_isIn hr hw) (zgC0 h0) rfl rfl (Nat.le_of_ble_eq_true rfl) ⟨Nat.le_of_ble_eq_true rfl, Nat.le_of_ble_eq_true rfl⟩ ⟨Nat.le_refl _, Nat.le_refl _⟩ (fun _ _ hw => ?_)
      refine z_if_eq dX0_countTurned_19 hw (fun hw => ?_) (fun hw => ?_)
      · exact z_to (j_X0_countTurned_32 hr hK2 hw) ⟨rfl, rfl, rfl, trivial⟩
      · refine z_aload_n dX0_countTurned_22 rfl rfl ?_
        refine z_getr dX0_countTurned_23 fX0_21 (zgC0 h0) zkX0_4 (zrC4 h0) ?_
        refine z_iload_n dX0_countTurned_26 rfl rfl ?_
        refine z_dup2 dX0_countTurned_27 rfl rfl ?_
        refine z_iald dX0_countTurned_28 (zgC4 h0) hw (fun hw => ?_)
        refine z_iconst dX0_countTurned_29 zi1 ?_
        refine z_iadd dX0_countTurned_30 ?_
        refine z_iastL dX0_countTurned_31 (zgC4 h0) hw (fun hw => ?_)
        exact z_to (j_X0_countTurned_32 hr hK2 hw) ⟨rfl, rfl, rfl, trivial⟩
set_option maxHeartbeats 4000000 in
set_option maxRecDepth 100000 in
theorem c_X0_countTurned {r b : Nat} (hr : zHr r b) {x1 : Int32} {σ : zS} {Q : Int32 → zS → Prop} (hw : w_X0_countTurned r x1 σ Q) : zAC yX0_countTurned cX0_countTurned 3 none { frames := 1, cells := 0, slots := 0, locals := 22 } [.ref r, .int x1] zΓ (zρ b) σ (zN zΓ (zρ b) Q) := by
  have h0 := zHw hr
  refine z_entry (own := RX0) (ini := false) (plainFor_of_name pnX0) rfl (fun h => by cases h) (Nat.le_of_ble_eq_true rfl) ?_
  unfold w_X0_countTurned at hw
  refine z_iconst dX0_countTurned_0 zi0 ?_
  refine z_istore_n dX0_countTurned_1 rfl (Nat.le_of_ble_eq_true rfl) ?_
  obtain ⟨n, hw⟩ := hw
  exact z_to (l_X0_countTurned_2 hr  n _ _ _ hw) ⟨rfl, rfl, rfl, trivial⟩
def w_X0_moveOn_J92 (r : Nat) (Q : Int32 → zS → Prop) (K26 : Int32 → Int32 → zS → Prop) (x1 x2 : Int32) (σ : zS) : Prop := K26 x1 ((x2 + (1 : Int32))) σ
def w_X0_moveOn_L26 (r : Nat) (Q : Int32 → zS → Prop)  : Nat → Int32 → Int32 → zS → Prop
  | 0, _, _, _ => False
  | n + 1, x1, x2, σ => (((σ.1 9 3) ≤ x2 → Q 0 σ) ∧ (¬ ((σ.1 9 3) ≤ x2) → (vp_in x2 18 ∧ (((σ.2 ((r + 15)) x2.toNatClampNeg) ≤ 0 → w_X0_moveOn_J92 r Q (fun a1 a2 aσ => w_X0_moveOn_L26 r Q  n a1 a2 aσ) x1 x2  σ) ∧ (¬ ((σ.2 ((r + 15)) x2.toNatClampNeg) ≤ 0) → (w_X2_slot x2 x1 σ fun v1 t2 => (w_X2_isAtFloor v1 t2 fun v3 t4 => ((v3 = 0 → w_X0_moveOn_J92 r Q (fun a1 a2 aσ => w_X0_moveOn_L26 r Q  n a1 a2 aσ) x1 x2  t4) ∧ (¬ (v3 = 0) → (w_X2_slot x2 ((t4.1 r 14)) t4 fun v5 t6 => (w_X2_isAtFloor v5 t6 fun v7 t8 => ((v7 = 0 → (w_X0_countTurned r x2 t8 fun _ t9 => w_X0_moveOn_J92 r Q (fun a1 a2 aσ => w_X0_moveOn_L26 r Q  n a1 a2 aσ) x1 x2  t9)) ∧ (¬ (v7 = 0) → w_X0_moveOn_J92 r Q (fun a1 a2 aσ => w_X0_moveOn_L26 r Q  n a1 a2 aσ) x1 x2  t8)))))))))))))
def w_X0_moveOn (r : Nat) (σ : zS) (Q : Int32 → zS → Prop) : Prop := (w_X2_along ((σ.1 r 14)) ((σ.1 r 11)) σ fun v1 t2 => (zlet (zI t2 r 14 v1) fun t3 => ∃ m26, w_X0_moveOn_L26 r Q  m26 ((σ.1 r 14)) ((0 : Int32)) t3))
set_option maxHeartbeats 4000000 in
set_option maxRecDepth 100000 in
theorem j_X0_moveOn_92 {r b : Nat} (hr : zHr r b) {Q : Int32 → zS → Prop} {K26 : Int32 → Int32 → zS → Prop} (hK26 : ∀ (a1 a2 : Int32) (σ : zS), K26 a1 a2 σ → zAW RX0 cX0_moveOn 3 none false { frames := 2, cells := 0, slots := 0, locals := 44 } zΓ.length (zN zΓ (zρ b) Q) 26 [(0, .ref r), (1, .int a1), (2, .int a2)] [] zΓ (zρ b) σ 0 0) {x1 x2 : Int32} {σ : zS} (hw : w_X0_moveOn_J92 r Q K26 x1 x2 σ) : zAW RX0 cX0_moveOn 3 none false { frames := 2, cells := 0, slots := 0, locals := 44 } zΓ.length (zN zΓ (zρ b) Q) 92 [(0, .ref r), (1, .int x1), (2, .int x2)] [] zΓ (zρ b) σ 0 0 := by
  have h0 := zHw hr
  unfold w_X0_moveOn_J92 at hw
  refine z_iinc dX0_moveOn_92 rfl zi1 (Nat.le_of_ble_eq_true rfl) ?_
  refine z_goto dX0_moveOn_95 ?_
  exact z_to (hK26 _ _ _ hw) ⟨rfl, rfl, rfl, trivial⟩
set_option maxHeartbeats 4000000 in
set_option maxRecDepth 100000 in
theorem l_X0_moveOn_26 {r b : Nat} (hr : zHr r b) {Q : Int32 → zS → Prop}   : ∀ (n : Nat) (x1 x2 : Int32) (σ : zS), w_X0_moveOn_L26 r Q  n x1 x2 σ → zAW RX0 cX0_moveOn 3 none false { frames := 2, cells := 0, slots := 0, locals := 44 } zΓ.length (zN zΓ (zρ b) Q) 26 [(0, .ref r), (1, .int x1), (2, .int x2)] [] zΓ (zρ b) σ 0 0 := by
  intro n
  induction n with
  | zero => intro x1 x2 σ hw; exact hw.elim
  | succ n hK26 =>
    intro x1 x2 σ hw
    have h0 := zHw hr
    rw [w_X0_moveOn_L26] at hw
    refine z_iload_n dX0_moveOn_26 rfl rfl ?_
    refine z_aload_n dX0_moveOn_27 rfl rfl ?_
    refine z_getr dX0_moveOn_28 fX0_46 (zgC0 h0) zkX0_10 (zrC10 hr) ?_
    refine z_geti dX0_moveOn_31 fX0_114 zg9 zkX2_3 ?_
    refine z_icmp_ge dX0_moveOn_34 hw (fun hw => ?_) (fun hw => ?_)
    · exact z_vret dX0_moveOn_98 (Nat.le_refl _) (Nat.le_refl _) rfl ⟨rfl, rfl, hw⟩
    · refine z_aload_n dX0_moveOn_37 rfl rfl ?_
      refine z_getr dX0_moveOn_38 fX0_32 (zgC0 h0) zkX0_7 (zrC7 h0) ?_
      refine z_iload_n dX0_moveOn_41 rfl rfl ?_
      refine z_iald dX0_moveOn_42 (zgC15 h0) hw (fun hw => ?_)
      refine z_if_le dX0_moveOn_43 hw (fun hw => ?_) (fun hw => ?_)
      · exact z_to (j_X0_moveOn_92 hr hK26 hw) ⟨rfl, rfl, rfl, trivial⟩
      · refine z_aload_n dX0_moveOn_46 rfl rfl ?_
        refine z_getr dX0_moveOn_47 fX0_46 (zgC0 h0) zkX0_10 (zrC10 hr) ?_
        refine z_aload_n dX0_moveOn_50 rfl rfl ?_
        refine z_getr dX0_moveOn_51 fX0_46 (zgC0 h0) zkX0_10 (zrC10 hr) ?_
        refine z_iload_n dX0_moveOn_54 rfl rfl ?_
        refine z_iload_n dX0_moveOn_55 rfl rfl ?_
        refine z_callV dX0_moveOn_56 mX0_117 (c_X2_slot  hw) zg9 rfl rfl (Nat.le_of_ble_eq_true rfl) ⟨Nat.le_of_ble_eq_true rfl, Nat.le_of_ble_eq_true rfl⟩ ⟨Nat.le_refl _, Nat.le_refl _⟩ (fun _ _ hw => ?_)
        refine z_callV dX0_moveOn_59 mX0_120 (c_X2_isAtFloor  hw) zg9 rfl rfl (Nat.le_of_ble_eq_true rfl) ⟨Nat.le_of_ble_eq_true rfl, Nat.le_of_ble_eq_true rfl⟩ ⟨Nat.le_refl _, Nat.le_refl _⟩ (fun _ _ hw => ?_)
        refine z_if_eq dX0_moveOn_62 hw (fun hw => ?_) (fun hw => ?_)
        · exact z_to (j_X0_moveOn_92 hr hK26 hw) ⟨rfl, rfl, rfl, trivial⟩
        · refine z_aload_n dX0_moveOn_65 rfl rfl ?_
          refine z_getr dX0_moveOn_66 fX0_46 (zgC0 h0) zkX0_10 (zrC10 hr) ?_
          refine z_aload_n dX0_moveOn_69 rfl rfl ?_
          refine z_getr dX0_moveOn_70 fX0_46 (zgC0 h0) zkX0_10 (zrC10 hr) ?_
          refine z_iload_n dX0_moveOn_73 rfl rfl ?_
          refine z_aload_n dX0_moveOn_74 rfl rfl ?_
          refine z_geti dX0_moveOn_75 fX0_60 (zgC0 h0) zkX0_14 ?_
          refine z_callV dX0_moveOn_78 mX0_117 (c_X2_slot  hw) zg9 rfl rfl (Nat.le_of_ble_eq_true rfl) ⟨Nat.le_of_ble_eq_true rfl, Nat.le_of_ble_eq_true rfl⟩ ⟨Nat.le_refl _, Nat.le_refl _⟩ (fun _ _ hw => ?_)
          refine z_callV dX0_moveOn_81 mX0_120 (c_X2_isAtFloor  hw) zg9 rfl rfl (Nat.le_of_ble_eq_true rfl) ⟨Nat.le_of_ble_eq_true rfl, Nat.le_of_ble_eq_true rfl⟩ ⟨Nat.le_refl _, Nat.le_refl _⟩ (fun _ _ hw => ?_)
          refine z_if_ne dX0_moveOn_84 hw (fun hw => ?_) (fun hw => ?_)
          · exact z_to (j_X0_moveOn_92 hr hK26 hw) ⟨rfl, rfl, rfl, trivial⟩
          · refine z_aload_n dX0_moveOn_87 rfl rfl ?_
            refine z_iload_n dX0_moveOn_88 rfl rfl ?_
            refine z_callVv dX0_moveOn_89 mX0_124 (c_X0_countTurned hr hw) (zgC0 h0) rfl rfl (Nat.le_of_ble_eq_true rfl) ⟨Nat.le_of_ble_eq_true rfl, Nat.le_of_ble_eq_true rfl⟩ ⟨Nat.le_refl _, Nat.le_refl _⟩ (fun _ hw => ?_)
            exact z_to (j_X0_moveOn_92 hr hK26 hw) ⟨rfl, rfl, rfl, trivial⟩
set_option maxHeartbeats 4000000 in
set_option maxRecDepth 100000 in
theorem c_X0_moveOn {r b : Nat} (hr : zHr r b) {σ : zS} {Q : Int32 → zS → Prop} (hw : w_X0_moveOn r  σ Q) : zAC yX0_moveOn cX0_moveOn 3 none { frames := 2, cells := 0, slots := 0, locals := 44 } [.ref r] zΓ (zρ b) σ (zN zΓ (zρ b) Q) := by
  have h0 := zHw hr
  refine z_entry (own := RX0) (ini := false) (plainFor_of_name pnX0) rfl (fun h => by cases h) (Nat.le_of_ble_eq_true rfl) ?_
  unfold w_X0_moveOn at hw
  refine z_aload_n dX0_moveOn_0 rfl rfl ?_
  refine z_geti dX0_moveOn_1 fX0_60 (zgC0 h0) zkX0_14 ?_
  refine z_istore_n dX0_moveOn_4 rfl (Nat.le_of_ble_eq_true rfl) ?_
  refine z_aload_n dX0_moveOn_5 rfl rfl ?_
  refine z_aload_n dX0_moveOn_6 rfl rfl ?_
  refine z_getr dX0_moveOn_7 fX0_46 (zgC0 h0) zkX0_10 (zrC10 hr) ?_
  refine z_aload_n dX0_moveOn_10 rfl rfl ?_
  refine z_geti dX0_moveOn_11 fX0_60 (zgC0 h0) zkX0_14 ?_
  refine z_aload_n dX0_moveOn_14 rfl rfl ?_
  refine z_geti dX0_moveOn_15 fX0_50 (zgC0 h0) zkX0_11 ?_
  refine z_callV dX0_moveOn_18 mX0_111 (c_X2_along  hw) zg9 rfl rfl (Nat.le_of_ble_eq_true rfl) ⟨Nat.le_of_ble_eq_true rfl, Nat.le_of_ble_eq_true rfl⟩ ⟨Nat.le_refl _, Nat.le_refl _⟩ (fun _ _ hw => ?_)
  refine z_putiL dX0_moveOn_21 fX0_60 (zgC0 h0) zkX0_14 hw (fun hw => ?_)
  refine z_iconst dX0_moveOn_24 zi0 ?_
  refine z_istore_n dX0_moveOn_25 rfl (Nat.le_of_ble_eq_true rfl) ?_
  obtain ⟨n, hw⟩ := hw
  exact z_to (l_X0_moveOn_26 hr  n _ _ _ hw) ⟨rfl, rfl, rfl, trivial⟩
def w_X4_floorsApart  (x1 : Int32) (σ : zS) (Q : Int32 → zS → Prop) : Prop := (vp_in x1 30 ∧ (vp_in x1 30 ∧ Q (if 0 ≤ ((σ.2 3 x1.toNatClampNeg) - (σ.2 4 x1.toNatClampNeg)) then ((σ.2 3 x1.toNatClampNeg) - (σ.2 4 x1.toNatClampNeg)) else 0 - ((σ.2 3 x1.toNatClampNeg) - (σ.2 4 x1.toNatClampNeg))) σ))
set_option maxHeartbeats 4000000 in
set_option maxRecDepth 100000 in
theorem c_X4_floorsApart {b : Nat} {x1 : Int32} {σ : zS} {Q : Int32 → zS → Prop} (hw : w_X4_floorsApart x1 σ Q) : zAC yX4_floorsApart cX4_floorsApart 2 (some .int) { frames := 1, cells := 0, slots := 0, locals := 22 } [.ref 1, .int x1] zΓ (zρ b) σ (zN zΓ (zρ b) Q) := by
  refine z_entry (own := RX4) (ini := false) (plainFor_of_name pnX4) rfl (fun h => by cases h) (Nat.le_of_ble_eq_true rfl) ?_
  unfold w_X4_floorsApart at hw
  refine z_aload_n dX4_floorsApart_0 rfl rfl ?_
  refine z_getr dX4_floorsApart_1 fX4_15 zg1 zkX4_1 zr1_1 ?_
  refine z_iload_n dX4_floorsApart_4 rfl rfl ?_
  refine z_iald dX4_floorsApart_5 zg3 hw (fun hw => ?_)
  refine z_aload_n dX4_floorsApart_6 rfl rfl ?_
  refine z_getr dX4_floorsApart_7 fX4_18 zg1 zkX4_2 zr1_2 ?_
  refine z_iload_n dX4_floorsApart_10 rfl rfl ?_
  refine z_iald dX4_floorsApart_11 zg4 hw (fun hw => ?_)
  refine z_isub dX4_floorsApart_12 ?_
  refine z_mabs dX4_floorsApart_13 mwX4_37 (Nat.le_of_ble_eq_true rfl) (Nat.le_of_ble_eq_true rfl) (Nat.le_refl _) (Nat.le_refl _) ?_
  exact z_iret dX4_floorsApart_16 (Nat.le_refl _) (Nat.le_refl _) rfl ⟨rfl, rfl, hw⟩
def w_X4_goesOnFoot_J15 (Q : Int32 → zS → Prop)  (x1 s0 : Int32) (σ : zS) : Prop := (w_X4_floorsApart x1 σ fun v1 t2 => ((s0 < v1 → (((0 : Int32) = 0 ∨ (0 : Int32) = 1) ∧ Q (0 : Int32) t2)) ∧ (¬ (s0 < v1) → (((1 : Int32) = 0 ∨ (1 : Int32) = 1) ∧ Q (1 : Int32) t2))))
def w_X4_goesOnFoot  (x1 x2 : Int32) (σ : zS) (Q : Int32 → zS → Prop) : Prop := ((x2 = (-1 : Int32) → (vp_in x1 30 ∧ w_X4_goesOnFoot_J15 Q  x1 ((σ.2 8 x1.toNatClampNeg)) σ)) ∧ (¬ (x2 = (-1 : Int32)) → w_X4_goesOnFoot_J15 Q  x1 x2 σ))
set_option maxHeartbeats 4000000 in
set_option maxRecDepth 100000 in
theorem j_X4_goesOnFoot_15 {b : Nat} {Q : Int32 → zS → Prop}   {x1 s0 : Int32} {σ : zS} (hw : w_X4_goesOnFoot_J15 Q  x1 s0 σ) : zAW RX4 cX4_goesOnFoot 4 (some .boolean) false { frames := 2, cells := 0, slots := 0, locals := 43 } zΓ.length (zN zΓ (zρ b) Q) 15 [(0, .ref 1), (1, .int x1)] [.int s0] zΓ (zρ b) σ 0 0 := by
  unfold w_X4_goesOnFoot_J15 at hw
  refine z_istore_n dX4_goesOnFoot_15 rfl (Nat.le_of_ble_eq_true rfl) ?_
  refine z_aload_n dX4_goesOnFoot_16 rfl rfl ?_
  refine z_iload_n dX4_goesOnFoot_17 rfl rfl ?_
  refine z_callV dX4_goesOnFoot_18 mX4_43 (c_X4_floorsApart  hw) zg1 rfl rfl (Nat.le_of_ble_eq_true rfl) ⟨Nat.le_of_ble_eq_true rfl, Nat.le_of_ble_eq_true rfl⟩ ⟨Nat.le_refl _, Nat.le_refl _⟩ (fun _ _ hw => ?_)
  refine z_iload_n dX4_goesOnFoot_21 rfl rfl ?_
  refine z_icmp_gt dX4_goesOnFoot_22 hw (fun hw => ?_) (fun hw => ?_)
  · refine z_iconst dX4_goesOnFoot_29 zi0 ?_
    exact z_zret dX4_goesOnFoot_30 (Nat.le_refl _) (Nat.le_refl _) rfl ⟨hw.1, ⟨rfl, rfl, hw.2⟩⟩
  · refine z_iconst dX4_goesOnFoot_25 zi1 ?_
    refine z_goto dX4_goesOnFoot_26 ?_
    exact z_zret dX4_goesOnFoot_30 (Nat.le_refl _) (Nat.le_refl _) rfl ⟨hw.1, ⟨rfl, rfl, hw.2⟩⟩
set_option maxHeartbeats 4000000 in
set_option maxRecDepth 100000 in
theorem c_X4_goesOnFoot {b : Nat} {x1 x2 : Int32} {σ : zS} {Q : Int32 → zS → Prop} (hw : w_X4_goesOnFoot x1 x2 σ Q) : zAC yX4_goesOnFoot cX4_goesOnFoot 4 (some .boolean) { frames := 2, cells := 0, slots := 0, locals := 43 } [.ref 1, .int x1, .int x2] zΓ (zρ b) σ (zN zΓ (zρ b) Q) := by
  refine z_entry (own := RX4) (ini := false) (plainFor_of_name pnX4) rfl (fun h => by cases h) (Nat.le_of_ble_eq_true rfl) ?_
  unfold w_X4_goesOnFoot at hw
  refine z_iload_n dX4_goesOnFoot_0 rfl rfl ?_
  refine z_iconst dX4_goesOnFoot_1 zim1 ?_
  refine z_icmp_ne dX4_goesOnFoot_2 hw (fun hw => ?_) (fun hw => ?_)
  · refine z_iload_n dX4_goesOnFoot_14 rfl rfl ?_
    exact z_to (j_X4_goesOnFoot_15   hw) ⟨rfl, rfl, trivial⟩
  · refine z_aload_n dX4_goesOnFoot_5 rfl rfl ?_
    refine z_getr dX4_goesOnFoot_6 fX4_30 zg1 zkX4_6 zr1_6 ?_
    refine z_iload_n dX4_goesOnFoot_9 rfl rfl ?_
    refine z_iald dX4_goesOnFoot_10 zg8 hw (fun hw => ?_)
    refine z_goto dX4_goesOnFoot_11 ?_
    exact z_to (j_X4_goesOnFoot_15   hw) ⟨rfl, rfl, trivial⟩
def w_X0_stand (r : Nat) (x1 x2 : Int32) (σ : zS) (Q : Int32 → zS → Prop) : Prop := (vp_in x2 8 ∧ (((30 : Int32) ≤ (σ.2 ((r + 14)) x2.toNatClampNeg) → Q 0 σ) ∧ (¬ ((30 : Int32) ≤ (σ.2 ((r + 14)) x2.toNatClampNeg)) → (vp_in x1 30 ∧ zlet (zA σ ((r + 1)) x1.toNatClampNeg (1 : Int32)) fun t1 => (vp_in x1 30 ∧ zlet (zA t1 ((r + 2)) x1.toNatClampNeg x2) fun t2 => (vp_in x2 8 ∧ (vp_in ((σ.2 ((r + 14)) x2.toNatClampNeg)) 30 ∧ zlet (zA t2 ((r + 6 + x2.toNatClampNeg)) ((σ.2 ((r + 14)) x2.toNatClampNeg)).toNatClampNeg x1) fun t4 => (vp_in x2 8 ∧ zlet (zA t4 ((r + 14)) x2.toNatClampNeg ((σ.2 ((r + 14)) x2.toNatClampNeg) + (1 : Int32))) fun t5 => Q 0 t5))))))))
set_option maxHeartbeats 4000000 in
set_option maxRecDepth 100000 in
theorem c_X0_stand {r b : Nat} (hr : zHr r b) {x1 x2 : Int32} {σ : zS} {Q : Int32 → zS → Prop} (hw : w_X0_stand r x1 x2 σ Q) : zAC yX0_stand cX0_stand 4 none { frames := 0, cells := 0, slots := 0, locals := 0 } [.ref r, .int x1, .int x2] zΓ (zρ b) σ (zN zΓ (zρ b) Q) := by
  have h0 := zHw hr
  refine z_entry (own := RX0) (ini := false) (plainFor_of_name pnX0) rfl (fun h => by cases h) (Nat.le_of_ble_eq_true rfl) ?_
  unfold w_X0_stand at hw
  refine z_aload_n dX0_stand_0 rfl rfl ?_
  refine z_getr dX0_stand_1 fX0_29 (zgC0 h0) zkX0_6 (zrC6 h0) ?_
  refine z_iload_n dX0_stand_4 rfl rfl ?_
  refine z_iald dX0_stand_5 (zgC14 h0) hw (fun hw => ?_)
  refine z_istore_n dX0_stand_6 rfl (Nat.le_of_ble_eq_true rfl) ?_
  refine z_iload_n dX0_stand_7 rfl rfl ?_
  refine z_bipush dX0_stand_8 zbp30 ?_
  refine z_icmp_ge dX0_stand_10 hw (fun hw => ?_) (fun hw => ?_)
  · exact z_vret dX0_stand_45 (Nat.le_refl _) (Nat.le_refl _) rfl ⟨rfl, rfl, hw⟩
  · refine z_aload_n dX0_stand_13 rfl rfl ?_
    refine z_getr dX0_stand_14 fX0_9 (zgC0 h0) zkX0_1 (zrC1 h0) ?_
    refine z_iload_n dX0_stand_17 rfl rfl ?_
    refine z_iconst dX0_stand_18 zi1 ?_
    refine z_iastL dX0_stand_19 (zgC1 h0) hw (fun hw => ?_)
    refine z_aload_n dX0_stand_20 rfl rfl ?_
    refine z_getr dX0_stand_21 fX0_15 (zgC0 h0) zkX0_2 (zrC2 h0) ?_
    refine z_iload_n dX0_stand_24 rfl rfl ?_
    refine z_iload_n dX0_stand_25 rfl rfl ?_
    refine z_iastL dX0_stand_26 (zgC2 h0) hw (fun hw => ?_)
    refine z_aload_n dX0_stand_27 rfl rfl ?_
    refine z_getr dX0_stand_28 fX0_26 (zgC0 h0) zkX0_5 (zrC5 h0) ?_
    refine z_iload_n dX0_stand_31 rfl rfl ?_
    have hv3 := hw.1
    refine z_aald dX0_stand_32 (zgC5 h0) hw (zrho (zrefL h0)) (fun hw => ?_)
    refine z_iload_n dX0_stand_33 rfl rfl ?_
    refine z_iload_n dX0_stand_34 rfl rfl ?_
    refine z_iastL dX0_stand_35 (zrow (zrowL h0) hv3) hw (fun hw => ?_)
    refine z_aload_n dX0_stand_36 rfl rfl ?_
    refine z_getr dX0_stand_37 fX0_29 (zgC0 h0) zkX0_6 (zrC6 h0) ?_
    refine z_iload_n dX0_stand_40 rfl rfl ?_
    refine z_iload_n dX0_stand_41 rfl rfl ?_
    refine z_iconst dX0_stand_42 zi1 ?_
    refine z_iadd dX0_stand_43 ?_
    refine z_iastL dX0_stand_44 (zgC14 h0) hw (fun hw => ?_)
    exact z_vret dX0_stand_45 (Nat.le_refl _) (Nat.le_refl _) rfl ⟨rfl, rfl, hw⟩
def w_X0_come (r : Nat) (x1 : Int32) (σ : zS) (Q : Int32 → zS → Prop) : Prop := (w_X4_goesOnFoot x1 ((σ.1 r 12)) σ fun v1 t2 => ((v1 = 0 → (vp_in x1 30 ∧ (w_X0_stand r x1 ((t2.2 3 x1.toNatClampNeg)) t2 fun _ t3 => Q 0 t3))) ∧ (¬ (v1 = 0) → (vp_in x1 30 ∧ zlet (zA t2 ((r + 1)) x1.toNatClampNeg (3 : Int32)) fun t4 => (w_X4_floorsApart x1 t4 fun v5 t6 => (vp_in x1 30 ∧ zlet (zA t6 ((r + 3)) x1.toNatClampNeg ((t4.1 r 13) + ((6 : Int32) * v5))) fun t7 => Q 0 t7))))))
set_option maxHeartbeats 4000000 in
set_option maxRecDepth 100000 in
theorem c_X0_come {r b : Nat} (hr : zHr r b) {x1 : Int32} {σ : zS} {Q : Int32 → zS → Prop} (hw : w_X0_come r x1 σ Q) : zAC yX0_come cX0_come 2 none { frames := 3, cells := 0, slots := 0, locals := 66 } [.ref r, .int x1] zΓ (zρ b) σ (zN zΓ (zρ b) Q) := by
  have h0 := zHw hr
  refine z_entry (own := RX0) (ini := false) (plainFor_of_name pnX0) rfl (fun h => by cases h) (Nat.le_of_ble_eq_true rfl) ?_
  unfold w_X0_come at hw
  refine z_aload_n dX0_come_0 rfl rfl ?_
  refine z_getr dX0_come_1 fX0_42 (zgC0 h0) zkX0_0 (zrC0 h0) ?_
  refine z_iload_n dX0_come_4 rfl rfl ?_
  refine z_aload_n dX0_come_5 rfl rfl ?_
  refine z_geti dX0_come_6 fX0_54 (zgC0 h0) zkX0_12 ?_
  refine z_callV dX0_come_9 mX0_143 (c_X4_goesOnFoot  hw) zg1 rfl rfl (Nat.le_of_ble_eq_true rfl) ⟨Nat.le_of_ble_eq_true rfl, Nat.le_of_ble_eq_true rfl⟩ ⟨Nat.le_refl _, Nat.le_refl _⟩ (fun _ _ hw => ?_)
  refine z_if_eq dX0_come_12 hw (fun hw => ?_) (fun hw => ?_)
  · refine z_aload_n dX0_come_47 rfl rfl ?_
    refine z_iload_n dX0_come_48 rfl rfl ?_
    refine z_aload_n dX0_come_49 rfl rfl ?_
    refine z_getr dX0_come_50 fX0_42 (zgC0 h0) zkX0_0 (zrC0 h0) ?_
    refine z_getr dX0_come_53 fX0_150 zg1 zkX4_1 zr1_1 ?_
    refine z_iload_n dX0_come_56 rfl rfl ?_
    refine z_iald dX0_come_57 zg3 hw (fun hw => ?_)
    refine z_callVv dX0_come_58 mX0_153 (c_X0_stand hr hw) (zgC0 h0) rfl rfl (Nat.le_of_ble_eq_true rfl) ⟨Nat.le_of_ble_eq_true rfl, Nat.le_of_ble_eq_true rfl⟩ ⟨Nat.le_refl _, Nat.le_refl _⟩ (fun _ hw => ?_)
    exact z_vret dX0_come_61 (Nat.le_refl _) (Nat.le_refl _) rfl ⟨rfl, rfl, hw⟩
  · refine z_aload_n dX0_come_15 rfl rfl ?_
    refine z_getr dX0_come_16 fX0_9 (zgC0 h0) zkX0_1 (zrC1 h0) ?_
    refine z_iload_n dX0_come_19 rfl rfl ?_
    refine z_iconst dX0_come_20 zi3 ?_
    refine z_iastL dX0_come_21 (zgC1 h0) hw (fun hw => ?_)
    refine z_aload_n dX0_come_22 rfl rfl ?_
    refine z_getr dX0_come_23 fX0_18 (zgC0 h0) zkX0_3 (zrC3 h0) ?_
    refine z_iload_n dX0_come_26 rfl rfl ?_
    refine z_aload_n dX0_come_27 rfl rfl ?_
    refine z_geti dX0_come_28 fX0_57 (zgC0 h0) zkX0_13 ?_
    refine z_bipush dX0_come_31 zbp6 ?_
    refine z_aload_n dX0_come_33 rfl rfl ?_
    refine z_getr dX0_come_34 fX0_42 (zgC0 h0) zkX0_0 (zrC0 h0) ?_
    refine z_iload_n dX0_come_37 rfl rfl ?_
    refine z_callV dX0_come_38 mX0_146 (c_X4_floorsApart  hw) zg1 rfl rfl (Nat.le_of_ble_eq_true rfl) ⟨Nat.le_of_ble_eq_true rfl, Nat.le_of_ble_eq_true rfl⟩ ⟨Nat.le_refl _, Nat.le_refl _⟩ (fun _ _ hw => ?_)
    refine z_imul dX0_come_41 ?_
    refine z_iadd dX0_come_42 ?_
    refine z_iastL dX0_come_43 (zgC3 h0) hw (fun hw => ?_)
    refine z_goto dX0_come_44 ?_
    exact z_vret dX0_come_61 (Nat.le_refl _) (Nat.le_refl _) rfl ⟨rfl, rfl, hw⟩
def w_X0_comeAndArrive_J76 (r : Nat) (Q : Int32 → zS → Prop) (K2 : Int32 → zS → Prop) (x1 : Int32) (σ : zS) : Prop := K2 ((x1 + (1 : Int32))) σ
def w_X0_comeAndArrive_J46 (r : Nat) (Q : Int32 → zS → Prop) (K2 : Int32 → zS → Prop) (x1 : Int32) (σ : zS) : Prop := (vp_in x1 30 ∧ (((σ.2 ((r + 1)) x1.toNatClampNeg) = (3 : Int32) → (vp_in x1 30 ∧ (((σ.2 ((r + 3)) x1.toNatClampNeg) = (σ.1 r 13) → (vp_in x1 30 ∧ zlet (zA σ ((r + 1)) x1.toNatClampNeg (4 : Int32)) fun t1 => w_X0_comeAndArrive_J76 r Q K2 x1  t1)) ∧ (¬ ((σ.2 ((r + 3)) x1.toNatClampNeg) = (σ.1 r 13)) → w_X0_comeAndArrive_J76 r Q K2 x1  σ)))) ∧ (¬ ((σ.2 ((r + 1)) x1.toNatClampNeg) = (3 : Int32)) → w_X0_comeAndArrive_J76 r Q K2 x1  σ)))
def w_X0_comeAndArrive_L2 (r : Nat) (Q : Int32 → zS → Prop)  : Nat → Int32 → zS → Prop
  | 0, _, _ => False
  | n + 1, x1, σ => (((σ.1 1 7) ≤ x1 → Q 0 σ) ∧ (¬ ((σ.1 1 7) ≤ x1) → (vp_in x1 30 ∧ (((σ.2 ((r + 1)) x1.toNatClampNeg) = 0 → (vp_in x1 30 ∧ (((σ.2 2 x1.toNatClampNeg) = (σ.1 r 13) → (w_X0_come r x1 σ fun _ t1 => w_X0_comeAndArrive_J76 r Q (fun a1 aσ => w_X0_comeAndArrive_L2 r Q  n a1 aσ) x1  t1)) ∧ (¬ ((σ.2 2 x1.toNatClampNeg) = (σ.1 r 13)) → w_X0_comeAndArrive_J46 r Q (fun a1 aσ => w_X0_comeAndArrive_L2 r Q  n a1 aσ) x1  σ)))) ∧ (¬ ((σ.2 ((r + 1)) x1.toNatClampNeg) = 0) → w_X0_comeAndArrive_J46 r Q (fun a1 aσ => w_X0_comeAndArrive_L2 r Q  n a1 aσ) x1  σ)))))
def w_X0_comeAndArrive (r : Nat) (σ : zS) (Q : Int32 → zS → Prop) : Prop := ∃ m2, w_X0_comeAndArrive_L2 r Q  m2 ((0 : Int32)) σ
set_option maxHeartbeats 4000000 in
set_option maxRecDepth 100000 in
theorem j_X0_comeAndArrive_76 {r b : Nat} (hr : zHr r b) {Q : Int32 → zS → Prop} {K2 : Int32 → zS → Prop} (hK2 : ∀ (a1 : Int32) (σ : zS), K2 a1 σ → zAW RX0 cX0_comeAndArrive 2 none false { frames := 4, cells := 0, slots := 0, locals := 87 } zΓ.length (zN zΓ (zρ b) Q) 2 [(0, .ref r), (1, .int a1)] [] zΓ (zρ b) σ 0 0) {x1 : Int32} {σ : zS} (hw : w_X0_comeAndArrive_J76 r Q K2 x1 σ) : zAW RX0 cX0_comeAndArrive 2 none false { frames := 4, cells := 0, slots := 0, locals := 87 } zΓ.length (zN zΓ (zρ b) Q) 76 [(0, .ref r), (1, .int x1)] [] zΓ (zρ b) σ 0 0 := by
  have h0 := zHw hr
  unfold w_X0_comeAndArrive_J76 at hw
  refine z_iinc dX0_comeAndArrive_76 rfl zi1 (Nat.le_of_ble_eq_true rfl) ?_
  refine z_goto dX0_comeAndArrive_79 ?_
  exact z_to (hK2 _ _ hw) ⟨rfl, rfl, trivial⟩
set_option maxHeartbeats 4000000 in
set_option maxRecDepth 100000 in
theorem j_X0_comeAndArrive_46 {r b : Nat} (hr : zHr r b) {Q : Int32 → zS → Prop} {K2 : Int32 → zS → Prop} (hK2 : ∀ (a1 : Int32) (σ : zS), K2 a1 σ → zAW RX0 cX0_comeAndArrive 2 none false { frames := 4, cells := 0, slots := 0, locals := 87 } zΓ.length (zN zΓ (zρ b) Q) 2 [(0, .ref r), (1, .int a1)] [] zΓ (zρ b) σ 0 0) {x1 : Int32} {σ : zS} (hw : w_X0_comeAndArrive_J46 r Q K2 x1 σ) : zAW RX0 cX0_comeAndArrive 2 none false { frames := 4, cells := 0, slots := 0, locals := 87 } zΓ.length (zN zΓ (zρ b) Q) 46 [(0, .ref r), (1, .int x1)] [] zΓ (zρ b) σ 0 0 := by
  have h0 := zHw hr
  unfold w_X0_comeAndArrive_J46 at hw
  refine z_aload_n dX0_comeAndArrive_46 rfl rfl ?_
  refine z_getr dX0_comeAndArrive_47 fX0_9 (zgC0 h0) zkX0_1 (zrC1 h0) ?_
  refine z_iload_n dX0_comeAndArrive_50 rfl rfl ?_
  refine z_iald dX0_comeAndArrive_51 (zgC1 h0) hw (fun hw => ?_)
  refine z_iconst dX0_comeAndArrive_52 zi3 ?_
  refine z_icmp_ne dX0_comeAndArrive_53 hw (fun hw => ?_) (fun hw => ?_)
  · exact z_to (j_X0_comeAndArrive_76 hr hK2 hw) ⟨rfl, rfl, trivial⟩
  · refine z_aload_n dX0_comeAndArrive_56 rfl rfl ?_
    refine z_getr dX0_comeAndArrive_57 fX0_18 (zgC0 h0) zkX0_3 (zrC3 h0) ?_
    refine z_iload_n dX0_comeAndArrive_60 rfl rfl ?_
    refine z_iald dX0_comeAndArrive_61 (zgC3 h0) hw (fun hw => ?_)
    refine z_aload_n dX0_comeAndArrive_62 rfl rfl ?_
    refine z_geti dX0_comeAndArrive_63 fX0_57 (zgC0 h0) zkX0_13 ?_
    refine z_icmp_ne dX0_comeAndArrive_66 hw (fun hw => ?_) (fun hw => ?_)
    · exact z_to (j_X0_comeAndArrive_76 hr hK2 hw) ⟨rfl, rfl, trivial⟩
    · refine z_aload_n dX0_comeAndArrive_69 rfl rfl ?_
      refine z_getr dX0_comeAndArrive_70 fX0_9 (zgC0 h0) zkX0_1 (zrC1 h0) ?_
      refine z_iload_n dX0_comeAndArrive_73 rfl rfl ?_
      refine z_iconst dX0_comeAndArrive_74 zi4 ?_
      refine z_iastL dX0_comeAndArrive_75 (zgC1 h0) hw (fun hw => ?_)
      exact z_to (j_X0_comeAndArrive_76 hr hK2 hw) ⟨rfl, rfl, trivial⟩
set_option maxHeartbeats 4000000 in
set_option maxRecDepth 100000 in
theorem l_X0_comeAndArrive_2 {r b : Nat} (hr : zHr r b) {Q : Int32 → zS → Prop}   : ∀ (n : Nat) (x1 : Int32) (σ : zS), w_X0_comeAndArrive_L2 r Q  n x1 σ → zAW RX0 cX0_comeAndArrive 2 none false { frames := 4, cells := 0, slots := 0, locals := 87 } zΓ.length (zN zΓ (zρ b) Q) 2 [(0, .ref r), (1, .int x1)] [] zΓ (zρ b) σ 0 0 := by
  intro n
  induction n with
  | zero => intro x1 σ hw; exact hw.elim
  | succ n hK2 =>
    intro x1 σ hw
    have h0 := zHw hr
    rw [w_X0_comeAndArrive_L2] at hw
    refine z_iload_n dX0_comeAndArrive_2 rfl rfl ?_
    refine z_aload_n dX0_comeAndArrive_3 rfl rfl ?_
    refine z_getr dX0_comeAndArrive_4 fX0_42 (zgC0 h0) zkX0_0 (zrC0 h0) ?_
    refine z_geti dX0_comeAndArrive_7 fX0_128 zg1 zkX4_7 ?_
    refine z_icmp_ge dX0_comeAndArrive_10 hw (fun hw => ?_) (fun hw => ?_)
    · exact z_vret dX0_comeAndArrive_82 (Nat.le_refl _) (Nat.le_refl _) rfl ⟨rfl, rfl, hw⟩
    · refine z_aload_n dX0_comeAndArrive_13 rfl rfl ?_
      refine z_getr dX0_comeAndArrive_14 fX0_9 (zgC0 h0) zkX0_1 (zrC1 h0) ?_
      refine z_iload_n dX0_comeAndArrive_17 rfl rfl ?_
      refine z_iald dX0_comeAndArrive_18 (zgC1 h0) hw (fun hw => ?_)
      refine z_if_ne dX0_comeAndArrive_19 hw (fun hw => ?_) (fun hw => ?_)
      · exact z_to (j_X0_comeAndArrive_46 hr hK2 hw) ⟨rfl, rfl, trivial⟩
      · refine z_aload_n dX0_comeAndArrive_22 rfl rfl ?_
        refine z_getr dX0_comeAndArrive_23 fX0_42 (zgC0 h0) zkX0_0 (zrC0 h0) ?_
        refine z_getr dX0_comeAndArrive_26 fX0_137 zg1 zkX4_0 zr1_0 ?_
        refine z_iload_n dX0_comeAndArrive_29 rfl rfl ?_
        refine z_iald dX0_comeAndArrive_30 zg2 hw (fun hw => ?_)
        refine z_aload_n dX0_comeAndArrive_31 rfl rfl ?_
        refine z_geti dX0_comeAndArrive_32 fX0_57 (zgC0 h0) zkX0_13 ?_
        refine z_icmp_ne dX0_comeAndArrive_35 hw (fun hw => ?_) (fun hw => ?_)
        · exact z_to (j_X0_comeAndArrive_46 hr hK2 hw) ⟨rfl, rfl, trivial⟩
        · refine z_aload_n dX0_comeAndArrive_38 rfl rfl ?_
          refine z_iload_n dX0_comeAndArrive_39 rfl rfl ?_
          refine z_callVv dX0_comeAndArrive_40 mX0_140 (c_X0_come hr hw) (zgC0 h0) rfl rfl (Nat.le_of_ble_eq_true rfl) ⟨Nat.le_of_ble_eq_true rfl, Nat.le_of_ble_eq_true rfl⟩ ⟨Nat.le_refl _, Nat.le_refl _⟩ (fun _ hw => ?_)
          refine z_goto dX0_comeAndArrive_43 ?_
          exact z_to (j_X0_comeAndArrive_76 hr hK2 hw) ⟨rfl, rfl, trivial⟩
set_option maxHeartbeats 4000000 in
set_option maxRecDepth 100000 in
theorem c_X0_comeAndArrive {r b : Nat} (hr : zHr r b) {σ : zS} {Q : Int32 → zS → Prop} (hw : w_X0_comeAndArrive r  σ Q) : zAC yX0_comeAndArrive cX0_comeAndArrive 2 none { frames := 4, cells := 0, slots := 0, locals := 87 } [.ref r] zΓ (zρ b) σ (zN zΓ (zρ b) Q) := by
  have h0 := zHw hr
  refine z_entry (own := RX0) (ini := false) (plainFor_of_name pnX0) rfl (fun h => by cases h) (Nat.le_of_ble_eq_true rfl) ?_
  unfold w_X0_comeAndArrive at hw
  refine z_iconst dX0_comeAndArrive_0 zi0 ?_
  refine z_istore_n dX0_comeAndArrive_1 rfl (Nat.le_of_ble_eq_true rfl) ?_
  obtain ⟨n, hw⟩ := hw
  exact z_to (l_X0_comeAndArrive_2 hr  n _ _ hw) ⟨rfl, rfl, trivial⟩
def w_X2_ticksLeft  (x1 x2 : Int32) (σ : zS) (Q : Int32 → zS → Prop) : Prop := ((¬ (σ.1 9 1) = 0) ∧ ((((σ.1 9 2) - (x1 - x1 / (σ.1 9 1) * (σ.1 9 1))) ≤ 0 → Q (0 : Int32) σ) ∧ (¬ (((σ.1 9 2) - (x1 - x1 / (σ.1 9 1) * (σ.1 9 1))) ≤ 0) → ((x2 ≤ 0 → Q (0 : Int32) σ) ∧ (¬ (x2 ≤ 0) → ((¬ x2 = 0) ∧ Q (((((σ.1 9 2) - (x1 - x1 / (σ.1 9 1) * (σ.1 9 1))) + x2) - (1 : Int32)) / x2) σ))))))
set_option maxHeartbeats 4000000 in
set_option maxRecDepth 100000 in
theorem c_X2_ticksLeft {b : Nat} {x1 x2 : Int32} {σ : zS} {Q : Int32 → zS → Prop} (hw : w_X2_ticksLeft x1 x2 σ Q) : zAC yX2_ticksLeft cX2_ticksLeft 4 (some .int) { frames := 0, cells := 0, slots := 0, locals := 0 } [.ref 9, .int x1, .int x2] zΓ (zρ b) σ (zN zΓ (zρ b) Q) := by
  refine z_entry (own := RX2) (ini := false) (plainFor_of_name pnX2) rfl (fun h => by cases h) (Nat.le_of_ble_eq_true rfl) ?_
  unfold w_X2_ticksLeft at hw
  refine z_aload_n dX2_ticksLeft_0 rfl rfl ?_
  refine z_geti dX2_ticksLeft_1 fX2_18 zg9 zkX2_2 ?_
  refine z_iload_n dX2_ticksLeft_4 rfl rfl ?_
  refine z_aload_n dX2_ticksLeft_5 rfl rfl ?_
  refine z_geti dX2_ticksLeft_6 fX2_15 zg9 zkX2_1 ?_
  refine z_irem dX2_ticksLeft_9 hw (fun hw => ?_)
  refine z_isub dX2_ticksLeft_10 ?_
  refine z_istore_n dX2_ticksLeft_11 rfl (Nat.le_of_ble_eq_true rfl) ?_
  refine z_iload_n dX2_ticksLeft_12 rfl rfl ?_
  refine z_if_le dX2_ticksLeft_13 hw (fun hw => ?_) (fun hw => ?_)
  · refine z_iconst dX2_ticksLeft_30 zi0 ?_
    exact z_iret dX2_ticksLeft_31 (Nat.le_refl _) (Nat.le_refl _) rfl ⟨rfl, rfl, hw⟩
  · refine z_iload_n dX2_ticksLeft_16 rfl rfl ?_
    refine z_if_le dX2_ticksLeft_17 hw (fun hw => ?_) (fun hw => ?_)
    · refine z_iconst dX2_ticksLeft_30 zi0 ?_
      exact z_iret dX2_ticksLeft_31 (Nat.le_refl _) (Nat.le_refl _) rfl ⟨rfl, rfl, hw⟩
    · refine z_iload_n dX2_ticksLeft_20 rfl rfl ?_
      refine z_iload_n dX2_ticksLeft_21 rfl rfl ?_
      refine z_iadd dX2_ticksLeft_22 ?_
      refine z_iconst dX2_ticksLeft_23 zi1 ?_
      refine z_isub dX2_ticksLeft_24 ?_
      refine z_iload_n dX2_ticksLeft_25 rfl rfl ?_
      refine z_idiv dX2_ticksLeft_26 hw (fun hw => ?_)
      refine z_goto dX2_ticksLeft_27 ?_
      exact z_iret dX2_ticksLeft_31 (Nat.le_refl _) (Nat.le_refl _) rfl ⟨rfl, rfl, hw⟩
def w_X2_isOpen  (x1 : Int32) (σ : zS) (Q : Int32 → zS → Prop) : Prop := ((¬ (σ.1 9 1) = 0) ∧ (((σ.1 9 2) ≤ (x1 - x1 / (σ.1 9 1) * (σ.1 9 1)) → (((0 : Int32) = 0 ∨ (0 : Int32) = 1) ∧ Q (0 : Int32) σ)) ∧ (¬ ((σ.1 9 2) ≤ (x1 - x1 / (σ.1 9 1) * (σ.1 9 1))) → (((1 : Int32) = 0 ∨ (1 : Int32) = 1) ∧ Q (1 : Int32) σ))))
set_option maxHeartbeats 4000000 in
set_option maxRecDepth 100000 in
theorem c_X2_isOpen {b : Nat} {x1 : Int32} {σ : zS} {Q : Int32 → zS → Prop} (hw : w_X2_isOpen x1 σ Q) : zAC yX2_isOpen cX2_isOpen 2 (some .boolean) { frames := 0, cells := 0, slots := 0, locals := 0 } [.ref 9, .int x1] zΓ (zρ b) σ (zN zΓ (zρ b) Q) := by
  refine z_entry (own := RX2) (ini := false) (plainFor_of_name pnX2) rfl (fun h => by cases h) (Nat.le_of_ble_eq_true rfl) ?_
  unfold w_X2_isOpen at hw
  refine z_iload_n dX2_isOpen_0 rfl rfl ?_
  refine z_aload_n dX2_isOpen_1 rfl rfl ?_
  refine z_geti dX2_isOpen_2 fX2_15 zg9 zkX2_1 ?_
  refine z_irem dX2_isOpen_5 hw (fun hw => ?_)
  refine z_aload_n dX2_isOpen_6 rfl rfl ?_
  refine z_geti dX2_isOpen_7 fX2_18 zg9 zkX2_2 ?_
  refine z_icmp_ge dX2_isOpen_10 hw (fun hw => ?_) (fun hw => ?_)
  · refine z_iconst dX2_isOpen_17 zi0 ?_
    exact z_zret dX2_isOpen_18 (Nat.le_refl _) (Nat.le_refl _) rfl ⟨hw.1, ⟨rfl, rfl, hw.2⟩⟩
  · refine z_iconst dX2_isOpen_13 zi1 ?_
    refine z_goto dX2_isOpen_14 ?_
    exact z_zret dX2_isOpen_18 (Nat.le_refl _) (Nat.le_refl _) rfl ⟨hw.1, ⟨rfl, rfl, hw.2⟩⟩
def w_X2_isUp  (x1 : Int32) (σ : zS) (Q : Int32 → zS → Prop) : Prop := (((σ.1 9 0) ≤ x1 → (((0 : Int32) = 0 ∨ (0 : Int32) = 1) ∧ Q (0 : Int32) σ)) ∧ (¬ ((σ.1 9 0) ≤ x1) → (((1 : Int32) = 0 ∨ (1 : Int32) = 1) ∧ Q (1 : Int32) σ)))
set_option maxHeartbeats 4000000 in
set_option maxRecDepth 100000 in
theorem c_X2_isUp {b : Nat} {x1 : Int32} {σ : zS} {Q : Int32 → zS → Prop} (hw : w_X2_isUp x1 σ Q) : zAC yX2_isUp cX2_isUp 2 (some .boolean) { frames := 0, cells := 0, slots := 0, locals := 0 } [.ref 9, .int x1] zΓ (zρ b) σ (zN zΓ (zρ b) Q) := by
  refine z_entry (own := RX2) (ini := false) (plainFor_of_name pnX2) rfl (fun h => by cases h) (Nat.le_of_ble_eq_true rfl) ?_
  unfold w_X2_isUp at hw
  refine z_iload_n dX2_isUp_0 rfl rfl ?_
  refine z_aload_n dX2_isUp_1 rfl rfl ?_
  refine z_geti dX2_isUp_2 fX2_9 zg9 zkX2_0 ?_
  refine z_icmp_ge dX2_isUp_5 hw (fun hw => ?_) (fun hw => ?_)
  · refine z_iconst dX2_isUp_12 zi0 ?_
    exact z_zret dX2_isUp_13 (Nat.le_refl _) (Nat.le_refl _) rfl ⟨hw.1, ⟨rfl, rfl, hw.2⟩⟩
  · refine z_iconst dX2_isUp_8 zi1 ?_
    refine z_goto dX2_isUp_9 ?_
    exact z_zret dX2_isUp_13 (Nat.le_refl _) (Nat.le_refl _) rfl ⟨hw.1, ⟨rfl, rfl, hw.2⟩⟩
def w_X2_floorOrEnd  (x1 : Int32) (σ : zS) (Q : Int32 → zS → Prop) : Prop := (w_X2_isUp x1 σ fun v1 t2 => ((v1 = 0 → (w_X2_isAtFloor x1 t2 fun v3 t4 => ((v3 = 0 → ((x1 = (t4.1 9 0) → Q (100 : Int32) t4) ∧ (¬ (x1 = (t4.1 9 0)) → Q (101 : Int32) t4))) ∧ (¬ (v3 = 0) → Q (((2 : Int32) * (t4.1 9 0)) - x1) t4)))) ∧ (¬ (v1 = 0) → Q x1 t2)))
set_option maxHeartbeats 4000000 in
set_option maxRecDepth 100000 in
theorem c_X2_floorOrEnd {b : Nat} {x1 : Int32} {σ : zS} {Q : Int32 → zS → Prop} (hw : w_X2_floorOrEnd x1 σ Q) : zAC yX2_floorOrEnd cX2_floorOrEnd 2 (some .int) { frames := 1, cells := 0, slots := 0, locals := 21 } [.ref 9, .int x1] zΓ (zρ b) σ (zN zΓ (zρ b) Q) := by
  refine z_entry (own := RX2) (ini := false) (plainFor_of_name pnX2) rfl (fun h => by cases h) (Nat.le_of_ble_eq_true rfl) ?_
  unfold w_X2_floorOrEnd at hw
  refine z_aload_n dX2_floorOrEnd_0 rfl rfl ?_
  refine z_iload_n dX2_floorOrEnd_1 rfl rfl ?_
  refine z_callV dX2_floorOrEnd_2 mX2_36 (c_X2_isUp  hw) zg9 rfl rfl (Nat.le_of_ble_eq_true rfl) ⟨Nat.le_of_ble_eq_true rfl, Nat.le_of_ble_eq_true rfl⟩ ⟨Nat.le_refl _, Nat.le_refl _⟩ (fun _ _ hw => ?_)
  refine z_if_eq dX2_floorOrEnd_5 hw (fun hw => ?_) (fun hw => ?_)
  · refine z_aload_n dX2_floorOrEnd_10 rfl rfl ?_
    refine z_iload_n dX2_floorOrEnd_11 rfl rfl ?_
    refine z_callV dX2_floorOrEnd_12 mX2_40 (c_X2_isAtFloor  hw) zg9 rfl rfl (Nat.le_of_ble_eq_true rfl) ⟨Nat.le_of_ble_eq_true rfl, Nat.le_of_ble_eq_true rfl⟩ ⟨Nat.le_refl _, Nat.le_refl _⟩ (fun _ _ hw => ?_)
    refine z_if_eq dX2_floorOrEnd_15 hw (fun hw => ?_) (fun hw => ?_)
    · refine z_iload_n dX2_floorOrEnd_27 rfl rfl ?_
      refine z_aload_n dX2_floorOrEnd_28 rfl rfl ?_
      refine z_geti dX2_floorOrEnd_29 fX2_9 zg9 zkX2_0 ?_
      refine z_icmp_ne dX2_floorOrEnd_32 hw (fun hw => ?_) (fun hw => ?_)
      · refine z_bipush dX2_floorOrEnd_40 zbp101 ?_
        exact z_iret dX2_floorOrEnd_42 (Nat.le_refl _) (Nat.le_refl _) rfl ⟨rfl, rfl, hw⟩
      · refine z_bipush dX2_floorOrEnd_35 zbp100 ?_
        refine z_goto dX2_floorOrEnd_37 ?_
        exact z_iret dX2_floorOrEnd_42 (Nat.le_refl _) (Nat.le_refl _) rfl ⟨rfl, rfl, hw⟩
    · refine z_iconst dX2_floorOrEnd_18 zi2 ?_
      refine z_aload_n dX2_floorOrEnd_19 rfl rfl ?_
      refine z_geti dX2_floorOrEnd_20 fX2_9 zg9 zkX2_0 ?_
      refine z_imul dX2_floorOrEnd_23 ?_
      refine z_iload_n dX2_floorOrEnd_24 rfl rfl ?_
      refine z_isub dX2_floorOrEnd_25 ?_
      exact z_iret dX2_floorOrEnd_26 (Nat.le_refl _) (Nat.le_refl _) rfl ⟨rfl, rfl, hw⟩
  · refine z_iload_n dX2_floorOrEnd_8 rfl rfl ?_
    exact z_iret dX2_floorOrEnd_9 (Nat.le_refl _) (Nat.le_refl _) rfl ⟨rfl, rfl, hw⟩
def w_X0_openDoor (r : Nat) (x1 x2 : Int32) (σ : zS) (Q : Int32 → zS → Prop) : Prop := (w_X2_slot x1 x2 σ fun v1 t2 => (w_X2_isOpen x2 t2 fun v3 t4 => ((v3 = 0 → Q (-4 : Int32) t4) ∧ (¬ (v3 = 0) → (w_X2_isAtFloor v1 t4 fun v5 t6 => ((v5 = 0 → Q (-4 : Int32) t6) ∧ (¬ (v5 = 0) → (w_X2_floorOrEnd v1 t6 fun v7 t8 => (vp_in v7 8 ∧ (((t8.2 ((r + 19)) v7.toNatClampNeg) = 0 → Q v7 t8) ∧ (¬ ((t8.2 ((r + 19)) v7.toNatClampNeg) = 0) → Q (-4 : Int32) t8)))))))))))
set_option maxHeartbeats 4000000 in
set_option maxRecDepth 100000 in
theorem c_X0_openDoor {r b : Nat} (hr : zHr r b) {x1 x2 : Int32} {σ : zS} {Q : Int32 → zS → Prop} (hw : w_X0_openDoor r x1 x2 σ Q) : zAC yX0_openDoor cX0_openDoor 5 (some .int) { frames := 2, cells := 0, slots := 0, locals := 44 } [.ref r, .int x1, .int x2] zΓ (zρ b) σ (zN zΓ (zρ b) Q) := by
  have h0 := zHw hr
  refine z_entry (own := RX0) (ini := false) (plainFor_of_name pnX0) rfl (fun h => by cases h) (Nat.le_of_ble_eq_true rfl) ?_
  unfold w_X0_openDoor at hw
  refine z_aload_n dX0_openDoor_0 rfl rfl ?_
  refine z_getr dX0_openDoor_1 fX0_46 (zgC0 h0) zkX0_10 (zrC10 hr) ?_
  refine z_iload_n dX0_openDoor_4 rfl rfl ?_
  refine z_iload_n dX0_openDoor_5 rfl rfl ?_
  refine z_callV dX0_openDoor_6 mX0_117 (c_X2_slot  hw) zg9 rfl rfl (Nat.le_of_ble_eq_true rfl) ⟨Nat.le_of_ble_eq_true rfl, Nat.le_of_ble_eq_true rfl⟩ ⟨Nat.le_refl _, Nat.le_refl _⟩ (fun _ _ hw => ?_)
  refine z_istore_n dX0_openDoor_9 rfl (Nat.le_of_ble_eq_true rfl) ?_
  refine z_aload_n dX0_openDoor_10 rfl rfl ?_
  refine z_getr dX0_openDoor_11 fX0_46 (zgC0 h0) zkX0_10 (zrC10 hr) ?_
  refine z_iload_n dX0_openDoor_14 rfl rfl ?_
  refine z_callV dX0_openDoor_15 mX0_170 (c_X2_isOpen  hw) zg9 rfl rfl (Nat.le_of_ble_eq_true rfl) ⟨Nat.le_of_ble_eq_true rfl, Nat.le_of_ble_eq_true rfl⟩ ⟨Nat.le_refl _, Nat.le_refl _⟩ (fun _ _ hw => ?_)
  refine z_if_eq dX0_openDoor_18 hw (fun hw => ?_) (fun hw => ?_)
  · refine z_bipush dX0_openDoor_32 zbpm4 ?_
    exact z_iret dX0_openDoor_34 (Nat.le_refl _) (Nat.le_refl _) rfl ⟨rfl, rfl, hw⟩
  · refine z_aload_n dX0_openDoor_21 rfl rfl ?_
    refine z_getr dX0_openDoor_22 fX0_46 (zgC0 h0) zkX0_10 (zrC10 hr) ?_
    refine z_iload_n dX0_openDoor_25 rfl rfl ?_
    refine z_callV dX0_openDoor_26 mX0_120 (c_X2_isAtFloor  hw) zg9 rfl rfl (Nat.le_of_ble_eq_true rfl) ⟨Nat.le_of_ble_eq_true rfl, Nat.le_of_ble_eq_true rfl⟩ ⟨Nat.le_refl _, Nat.le_refl _⟩ (fun _ _ hw => ?_)
    refine z_if_ne dX0_openDoor_29 hw (fun hw => ?_) (fun hw => ?_)
    · refine z_aload_n dX0_openDoor_35 rfl rfl ?_
      refine z_getr dX0_openDoor_36 fX0_46 (zgC0 h0) zkX0_10 (zrC10 hr) ?_
      refine z_iload_n dX0_openDoor_39 rfl rfl ?_
      refine z_callV dX0_openDoor_40 mX0_173 (c_X2_floorOrEnd  hw) zg9 rfl rfl (Nat.le_of_ble_eq_true rfl) ⟨Nat.le_of_ble_eq_true rfl, Nat.le_of_ble_eq_true rfl⟩ ⟨Nat.le_refl _, Nat.le_refl _⟩ (fun _ _ hw => ?_)
      refine z_istore dX0_openDoor_43 (Nat.le_of_ble_eq_true rfl) ?_
      refine z_aload_n dX0_openDoor_45 rfl rfl ?_
      refine z_getr dX0_openDoor_46 fX0_38 (zgC0 h0) zkX0_9 (zrC9 h0) ?_
      refine z_iload dX0_openDoor_49 rfl ?_
      refine z_zald dX0_openDoor_51 (zgC19 h0) hw (fun hw => ?_)
      refine z_if_eq dX0_openDoor_52 hw (fun hw => ?_) (fun hw => ?_)
      · refine z_iload dX0_openDoor_60 rfl ?_
        exact z_iret dX0_openDoor_62 (Nat.le_refl _) (Nat.le_refl _) rfl ⟨rfl, rfl, hw⟩
      · refine z_bipush dX0_openDoor_55 zbpm4 ?_
        refine z_goto dX0_openDoor_57 ?_
        exact z_iret dX0_openDoor_62 (Nat.le_refl _) (Nat.le_refl _) rfl ⟨rfl, rfl, hw⟩
    · refine z_bipush dX0_openDoor_32 zbpm4 ?_
      exact z_iret dX0_openDoor_34 (Nat.le_refl _) (Nat.le_refl _) rfl ⟨rfl, rfl, hw⟩
def w_X2_isLastBeforeEnd_J20 (Q : Int32 → zS → Prop)  (σ : zS) : Prop := (((1 : Int32) = 0 ∨ (1 : Int32) = 1) ∧ Q (1 : Int32) σ)
def w_X2_isLastBeforeEnd  (x1 : Int32) (σ : zS) (Q : Int32 → zS → Prop) : Prop := ((x1 = ((σ.1 9 0) - (1 : Int32)) → w_X2_isLastBeforeEnd_J20 Q    σ) ∧ (¬ (x1 = ((σ.1 9 0) - (1 : Int32))) → ((x1 = ((2 : Int32) * (σ.1 9 0)) → w_X2_isLastBeforeEnd_J20 Q    σ) ∧ (¬ (x1 = ((2 : Int32) * (σ.1 9 0))) → (((0 : Int32) = 0 ∨ (0 : Int32) = 1) ∧ Q (0 : Int32) σ)))))
set_option maxHeartbeats 4000000 in
set_option maxRecDepth 100000 in
theorem j_X2_isLastBeforeEnd_20 {b : Nat} {Q : Int32 → zS → Prop}   {σ : zS} (hw : w_X2_isLastBeforeEnd_J20 Q   σ) : zAW RX2 cX2_isLastBeforeEnd 2 (some .boolean) false { frames := 0, cells := 0, slots := 0, locals := 0 } zΓ.length (zN zΓ (zρ b) Q) 20 [] [] zΓ (zρ b) σ 0 0 := by
  unfold w_X2_isLastBeforeEnd_J20 at hw
  refine z_iconst dX2_isLastBeforeEnd_20 zi1 ?_
  refine z_goto dX2_isLastBeforeEnd_21 ?_
  exact z_zret dX2_isLastBeforeEnd_25 (Nat.le_refl _) (Nat.le_refl _) rfl ⟨hw.1, ⟨rfl, rfl, hw.2⟩⟩
set_option maxHeartbeats 4000000 in
set_option maxRecDepth 100000 in
theorem c_X2_isLastBeforeEnd {b : Nat} {x1 : Int32} {σ : zS} {Q : Int32 → zS → Prop} (hw : w_X2_isLastBeforeEnd x1 σ Q) : zAC yX2_isLastBeforeEnd cX2_isLastBeforeEnd 2 (some .boolean) { frames := 0, cells := 0, slots := 0, locals := 0 } [.ref 9, .int x1] zΓ (zρ b) σ (zN zΓ (zρ b) Q) := by
  refine z_entry (own := RX2) (ini := false) (plainFor_of_name pnX2) rfl (fun h => by cases h) (Nat.le_of_ble_eq_true rfl) ?_
  unfold w_X2_isLastBeforeEnd at hw
  refine z_iload_n dX2_isLastBeforeEnd_0 rfl rfl ?_
  refine z_aload_n dX2_isLastBeforeEnd_1 rfl rfl ?_
  refine z_geti dX2_isLastBeforeEnd_2 fX2_9 zg9 zkX2_0 ?_
  refine z_iconst dX2_isLastBeforeEnd_5 zi1 ?_
  refine z_isub dX2_isLastBeforeEnd_6 ?_
  refine z_icmp_eq dX2_isLastBeforeEnd_7 hw (fun hw => ?_) (fun hw => ?_)
  · exact z_to (j_X2_isLastBeforeEnd_20   hw) trivial
  · refine z_iload_n dX2_isLastBeforeEnd_10 rfl rfl ?_
    refine z_iconst dX2_isLastBeforeEnd_11 zi2 ?_
    refine z_aload_n dX2_isLastBeforeEnd_12 rfl rfl ?_
    refine z_geti dX2_isLastBeforeEnd_13 fX2_9 zg9 zkX2_0 ?_
    refine z_imul dX2_isLastBeforeEnd_16 ?_
    refine z_icmp_ne dX2_isLastBeforeEnd_17 hw (fun hw => ?_) (fun hw => ?_)
    · refine z_iconst dX2_isLastBeforeEnd_24 zi0 ?_
      exact z_zret dX2_isLastBeforeEnd_25 (Nat.le_refl _) (Nat.le_refl _) rfl ⟨hw.1, ⟨rfl, rfl, hw.2⟩⟩
    · exact z_to (j_X2_isLastBeforeEnd_20   hw) trivial
def w_X0_leave (r : Nat) (x1 x2 x3 : Int32) (σ : zS) (Q : Int32 → zS → Prop) : Prop := (vp_in x2 18 ∧ (vp_in x1 30 ∧ (vp_in x2 18 ∧ zlet (zA σ ((r + 15)) x2.toNatClampNeg ((σ.2 ((r + 15)) x2.toNatClampNeg) - (σ.2 5 x1.toNatClampNeg))) fun t1 => (vp_in ((1 : Int32)) 2 ∧ (vp_in x3 8 ∧ (vp_in x3 8 ∧ zlet (zA t1 ((r + 17 + ((1 : Int32)).toNatClampNeg)) x3.toNatClampNeg ((t1.2 ((r + 17 + ((1 : Int32)).toNatClampNeg)) x3.toNatClampNeg) + (1 : Int32))) fun t3 => (vp_in x1 30 ∧ (((t3.2 4 x1.toNatClampNeg) = x3 → (vp_in x1 30 ∧ zlet (zA t3 ((r + 1)) x1.toNatClampNeg (4 : Int32)) fun t5 => (vp_in x1 30 ∧ zlet (zA t5 ((r + 3)) x1.toNatClampNeg (t5.1 r 13)) fun t6 => Q 0 t6))) ∧ (¬ ((t3.2 4 x1.toNatClampNeg) = x3) → (w_X0_stand r x1 x3 t3 fun _ t4 => Q 0 t4))))))))))
set_option maxHeartbeats 4000000 in
set_option maxRecDepth 100000 in
theorem c_X0_leave {r b : Nat} (hr : zHr r b) {x1 x2 x3 : Int32} {σ : zS} {Q : Int32 → zS → Prop} (hw : w_X0_leave r x1 x2 x3 σ Q) : zAC yX0_leave cX0_leave 4 none { frames := 1, cells := 0, slots := 0, locals := 23 } [.ref r, .int x1, .int x2, .int x3] zΓ (zρ b) σ (zN zΓ (zρ b) Q) := by
  have h0 := zHw hr
  refine z_entry (own := RX0) (ini := false) (plainFor_of_name pnX0) rfl (fun h => by cases h) (Nat.le_of_ble_eq_true rfl) ?_
  unfold w_X0_leave at hw
  refine z_aload_n dX0_leave_0 rfl rfl ?_
  refine z_getr dX0_leave_1 fX0_32 (zgC0 h0) zkX0_7 (zrC7 h0) ?_
  refine z_iload_n dX0_leave_4 rfl rfl ?_
  refine z_dup2 dX0_leave_5 rfl rfl ?_
  refine z_iald dX0_leave_6 (zgC15 h0) hw (fun hw => ?_)
  refine z_aload_n dX0_leave_7 rfl rfl ?_
  refine z_getr dX0_leave_8 fX0_42 (zgC0 h0) zkX0_0 (zrC0 h0) ?_
  refine z_getr dX0_leave_11 fX0_194 zg1 zkX4_3 zr1_3 ?_
  refine z_iload_n dX0_leave_14 rfl rfl ?_
  refine z_iald dX0_leave_15 zg5 hw (fun hw => ?_)
  refine z_isub dX0_leave_16 ?_
  refine z_iastL dX0_leave_17 (zgC15 h0) hw (fun hw => ?_)
  refine z_aload_n dX0_leave_18 rfl rfl ?_
  refine z_getr dX0_leave_19 fX0_35 (zgC0 h0) zkX0_8 (zrC8 h0) ?_
  refine z_iconst dX0_leave_22 zi1 ?_
  have hv2 := hw.1
  refine z_aald dX0_leave_23 (zgC16 h0) hw (zrho (zrefN h0)) (fun hw => ?_)
  refine z_iload_n dX0_leave_24 rfl rfl ?_
  refine z_dup2 dX0_leave_25 rfl rfl ?_
  refine z_iald dX0_leave_26 (zrow (zrowN h0) hv2) hw (fun hw => ?_)
  refine z_iconst dX0_leave_27 zi1 ?_
  refine z_iadd dX0_leave_28 ?_
  refine z_iastL dX0_leave_29 (zrow (zrowN h0) hv2) hw (fun hw => ?_)
  refine z_aload_n dX0_leave_30 rfl rfl ?_
  refine z_getr dX0_leave_31 fX0_42 (zgC0 h0) zkX0_0 (zrC0 h0) ?_
  refine z_getr dX0_leave_34 fX0_179 zg1 zkX4_2 zr1_2 ?_
  refine z_iload_n dX0_leave_37 rfl rfl ?_
  refine z_iald dX0_leave_38 zg4 hw (fun hw => ?_)
  refine z_iload_n dX0_leave_39 rfl rfl ?_
  refine z_icmp_ne dX0_leave_40 hw (fun hw => ?_) (fun hw => ?_)
  · refine z_aload_n dX0_leave_63 rfl rfl ?_
    refine z_iload_n dX0_leave_64 rfl rfl ?_
    refine z_iload_n dX0_leave_65 rfl rfl ?_
    refine z_callVv dX0_leave_66 mX0_153 (c_X0_stand hr hw) (zgC0 h0) rfl rfl (Nat.le_of_ble_eq_true rfl) ⟨Nat.le_of_ble_eq_true rfl, Nat.le_of_ble_eq_true rfl⟩ ⟨Nat.le_refl _, Nat.le_refl _⟩ (fun _ hw => ?_)
    exact z_vret dX0_leave_69 (Nat.le_refl _) (Nat.le_refl _) rfl ⟨rfl, rfl, hw⟩
  · refine z_aload_n dX0_leave_43 rfl rfl ?_
    refine z_getr dX0_leave_44 fX0_9 (zgC0 h0) zkX0_1 (zrC1 h0) ?_
    refine z_iload_n dX0_leave_47 rfl rfl ?_
    refine z_iconst dX0_leave_48 zi4 ?_
    refine z_iastL dX0_leave_49 (zgC1 h0) hw (fun hw => ?_)
    refine z_aload_n dX0_leave_50 rfl rfl ?_
    refine z_getr dX0_leave_51 fX0_18 (zgC0 h0) zkX0_3 (zrC3 h0) ?_
    refine z_iload_n dX0_leave_54 rfl rfl ?_
    refine z_aload_n dX0_leave_55 rfl rfl ?_
    refine z_geti dX0_leave_56 fX0_57 (zgC0 h0) zkX0_13 ?_
    refine z_iastL dX0_leave_59 (zgC3 h0) hw (fun hw => ?_)
    refine z_goto dX0_leave_60 ?_
    exact z_vret dX0_leave_69 (Nat.le_refl _) (Nat.le_refl _) rfl ⟨rfl, rfl, hw⟩
def w_X0_stepOut_J122 (r : Nat) (Q : Int32 → zS → Prop) (K24 : Int32 → Int32 → Int32 → Int32 → Int32 → zS → Prop) (x1 x2 x3 x4 x5 : Int32) (σ : zS) : Prop := K24 x1 x2 x3 x4 ((x5 + (1 : Int32))) σ
def w_X0_stepOut_J83 (r : Nat) (Q : Int32 → zS → Prop) (K24 : Int32 → Int32 → Int32 → Int32 → Int32 → zS → Prop) (x1 x2 x3 x4 x5 s0 : Int32) (σ : zS) : Prop := (w_X0_isIn r x5 x1 σ fun v1 t2 => ((v1 = 0 → w_X0_stepOut_J122 r Q K24 x1 x2 x3 x4 x5  t2) ∧ (¬ (v1 = 0) → ((s0 = 0 → w_X0_stepOut_J122 r Q K24 x1 x2 x3 x4 x5  t2) ∧ (¬ (s0 = 0) → (vp_in x5 30 ∧ ((x3 < (t2.2 6 x5.toNatClampNeg) → w_X0_stepOut_J122 r Q K24 x1 x2 x3 x4 x5  t2) ∧ (¬ (x3 < (t2.2 6 x5.toNatClampNeg)) → (w_X0_leave r x5 x1 x2 t2 fun _ t3 => w_X0_stepOut_J122 r Q K24 x1 x2 x3 x4 x5  t3)))))))))
def w_X0_stepOut_J82 (r : Nat) (Q : Int32 → zS → Prop) (K24 : Int32 → Int32 → Int32 → Int32 → Int32 → zS → Prop) (x1 x2 x3 x4 x5 : Int32) (σ : zS) : Prop := w_X0_stepOut_J83 r Q K24 x1 x2 x3 x4 x5 ((0 : Int32)) σ
def w_X0_stepOut_J78 (r : Nat) (Q : Int32 → zS → Prop) (K24 : Int32 → Int32 → Int32 → Int32 → Int32 → zS → Prop) (x1 x2 x3 x4 x5 : Int32) (σ : zS) : Prop := w_X0_stepOut_J83 r Q K24 x1 x2 x3 x4 x5 ((1 : Int32)) σ
def w_X0_stepOut_L24 (r : Nat) (Q : Int32 → zS → Prop)  : Nat → Int32 → Int32 → Int32 → Int32 → Int32 → zS → Prop
  | 0, _, _, _, _, _, _ => False
  | n + 1, x1, x2, x3, x4, x5, σ => (((σ.1 1 7) ≤ x5 → Q 0 σ) ∧ (¬ ((σ.1 1 7) ≤ x5) → (vp_in x1 18 ∧ (((σ.2 ((r + 15)) x1.toNatClampNeg) ≤ 0 → Q 0 σ) ∧ (¬ ((σ.2 ((r + 15)) x1.toNatClampNeg) ≤ 0) → (vp_in x5 30 ∧ (((σ.2 4 x5.toNatClampNeg) = x2 → w_X0_stepOut_J78 r Q (fun a1 a2 a3 a4 a5 aσ => w_X0_stepOut_L24 r Q  n a1 a2 a3 a4 a5 aσ) x1 x2 x3 x4 x5  σ) ∧ (¬ ((σ.2 4 x5.toNatClampNeg) = x2) → ((x4 = 0 → w_X0_stepOut_J82 r Q (fun a1 a2 a3 a4 a5 aσ => w_X0_stepOut_L24 r Q  n a1 a2 a3 a4 a5 aσ) x1 x2 x3 x4 x5  σ) ∧ (¬ (x4 = 0) → (vp_in x5 30 ∧ (((σ.2 7 x5.toNatClampNeg) = (1 : Int32) → w_X0_stepOut_J78 r Q (fun a1 a2 a3 a4 a5 aσ => w_X0_stepOut_L24 r Q  n a1 a2 a3 a4 a5 aσ) x1 x2 x3 x4 x5  σ) ∧ (¬ ((σ.2 7 x5.toNatClampNeg) = (1 : Int32)) → w_X0_stepOut_J82 r Q (fun a1 a2 a3 a4 a5 aσ => w_X0_stepOut_L24 r Q  n a1 a2 a3 a4 a5 aσ) x1 x2 x3 x4 x5  σ)))))))))))))
def w_X0_stepOut (r : Nat) (x1 x2 x3 : Int32) (σ : zS) (Q : Int32 → zS → Prop) : Prop := (w_X2_slot x1 ((σ.1 r 14)) σ fun v1 t2 => (w_X2_isLastBeforeEnd v1 t2 fun v3 t4 => ∃ m24, w_X0_stepOut_L24 r Q  m24 x1 x2 x3 v3 ((0 : Int32)) t4))
set_option maxHeartbeats 4000000 in
set_option maxRecDepth 100000 in
theorem j_X0_stepOut_122 {r b : Nat} (hr : zHr r b) {Q : Int32 → zS → Prop} {K24 : Int32 → Int32 → Int32 → Int32 → Int32 → zS → Prop} (hK24 : ∀ (a1 a2 a3 a4 a5 : Int32) (σ : zS), K24 a1 a2 a3 a4 a5 σ → zAW RX0 cX0_stepOut 7 none false { frames := 2, cells := 0, slots := 0, locals := 46 } zΓ.length (zN zΓ (zρ b) Q) 24 [(0, .ref r), (1, .int a1), (2, .int a2), (3, .int a3), (4, .int a4), (5, .int a5)] [] zΓ (zρ b) σ 0 0) {x1 x2 x3 x4 x5 : Int32} {σ : zS} (hw : w_X0_stepOut_J122 r Q K24 x1 x2 x3 x4 x5 σ) : zAW RX0 cX0_stepOut 7 none false { frames := 2, cells := 0, slots := 0, locals := 46 } zΓ.length (zN zΓ (zρ b) Q) 122 [(0, .ref r), (1, .int x1), (2, .int x2), (3, .int x3), (4, .int x4), (5, .int x5)] [] zΓ (zρ b) σ 0 0 := by
  have h0 := zHw hr
  unfold w_X0_stepOut_J122 at hw
  refine z_iinc dX0_stepOut_122 rfl zi1 (Nat.le_of_ble_eq_true rfl) ?_
  refine z_goto dX0_stepOut_125 ?_
  exact z_to (hK24 _ _ _ _ _ _ hw) ⟨rfl, rfl, rfl, rfl, rfl, rfl, trivial⟩
set_option maxHeartbeats 4000000 in
set_option maxRecDepth 100000 in
theorem j_X0_stepOut_83 {r b : Nat} (hr : zHr r b) {Q : Int32 → zS → Prop} {K24 : Int32 → Int32 → Int32 → Int32 → Int32 → zS → Prop} (hK24 : ∀ (a1 a2 a3 a4 a5 : Int32) (σ : zS), K24 a1 a2 a3 a4 a5 σ → zAW RX0 cX0_stepOut 7 none false { frames := 2, cells := 0, slots := 0, locals := 46 } zΓ.length (zN zΓ (zρ b) Q) 24 [(0, .ref r), (1, .int a1), (2, .int a2), (3, .int a3), (4, .int a4), (5, .int a5)] [] zΓ (zρ b) σ 0 0) {x1 x2 x3 x4 x5 s0 : Int32} {σ : zS} (hw : w_X0_stepOut_J83 r Q K24 x1 x2 x3 x4 x5 s0 σ) : zAW RX0 cX0_stepOut 7 none false { frames := 2, cells := 0, slots := 0, locals := 46 } zΓ.length (zN zΓ (zρ b) Q) 83 [(0, .ref r), (1, .int x1), (2, .int x2), (3, .int x3), (4, .int x4), (5, .int x5)] [.int s0] zΓ (zρ b) σ 0 0 := by
  have h0 := zHw hr
  unfold w_X0_stepOut_J83 at hw
  refine z_istore dX0_stepOut_83 (Nat.le_of_ble_eq_true rfl) ?_
  refine z_aload_n dX0_stepOut_85 rfl rfl ?_
  refine z_iload dX0_stepOut_86 rfl ?_
  refine z_iload_n dX0_stepOut_88 rfl rfl ?_
  refine z_callV dX0_stepOut_89 mX0_133 (c_X0_isIn hr hw) (zgC0 h0) rfl rfl (Nat.le_of_ble_eq_true rfl) ⟨Nat.le_of_ble_eq_true rfl, Nat.le_of_ble_eq_true rfl⟩ ⟨Nat.le_refl _, Nat.le_refl _⟩ (fun _ _ hw => ?_)
  refine z_if_eq dX0_stepOut_92 hw (fun hw => ?_) (fun hw => ?_)
  · exact z_to (j_X0_stepOut_122 hr hK24 hw) ⟨rfl, rfl, rfl, rfl, rfl, rfl, trivial⟩
  · refine z_iload dX0_stepOut_95 rfl ?_
    refine z_if_eq dX0_stepOut_97 hw (fun hw => ?_) (fun hw => ?_)
    · exact z_to (j_X0_stepOut_122 hr hK24 hw) ⟨rfl, rfl, rfl, rfl, rfl, rfl, trivial⟩
    · refine z_aload_n dX0_stepOut_100 rfl rfl ?_
      refine z_getr dX0_stepOut_101 fX0_42 (zgC0 h0) zkX0_0 (zrC0 h0) ?_
      refine z_getr dX0_stepOut_104 fX0_185 zg1 zkX4_4 zr1_4 ?_
      refine z_iload dX0_stepOut_107 rfl ?_
      refine z_iald dX0_stepOut_109 zg6 hw (fun hw => ?_)
      refine z_iload_n dX0_stepOut_110 rfl rfl ?_
      refine z_icmp_gt dX0_stepOut_111 hw (fun hw => ?_) (fun hw => ?_)
      · exact z_to (j_X0_stepOut_122 hr hK24 hw) ⟨rfl, rfl, rfl, rfl, rfl, rfl, trivial⟩
      · refine z_aload_n dX0_stepOut_114 rfl rfl ?_
        refine z_iload dX0_stepOut_115 rfl ?_
        refine z_iload_n dX0_stepOut_117 rfl rfl ?_
        refine z_iload_n dX0_stepOut_118 rfl rfl ?_
        refine z_callVv dX0_stepOut_119 mX0_188 (c_X0_leave hr hw) (zgC0 h0) rfl rfl (Nat.le_of_ble_eq_true rfl) ⟨Nat.le_of_ble_eq_true rfl, Nat.le_of_ble_eq_true rfl⟩ ⟨Nat.le_refl _, Nat.le_refl _⟩ (fun _ hw => ?_)
        exact z_to (j_X0_stepOut_122 hr hK24 hw) ⟨rfl, rfl, rfl, rfl, rfl, rfl, trivial⟩
set_option maxHeartbeats 4000000 in
set_option maxRecDepth 100000 in
theorem j_X0_stepOut_82 {r b : Nat} (hr : zHr r b) {Q : Int32 → zS → Prop} {K24 : Int32 → Int32 → Int32 → Int32 → Int32 → zS → Prop} (hK24 : ∀ (a1 a2 a3 a4 a5 : Int32) (σ : zS), K24 a1 a2 a3 a4 a5 σ → zAW RX0 cX0_stepOut 7 none false { frames := 2, cells := 0, slots := 0, locals := 46 } zΓ.length (zN zΓ (zρ b) Q) 24 [(0, .ref r), (1, .int a1), (2, .int a2), (3, .int a3), (4, .int a4), (5, .int a5)] [] zΓ (zρ b) σ 0 0) {x1 x2 x3 x4 x5 : Int32} {σ : zS} (hw : w_X0_stepOut_J82 r Q K24 x1 x2 x3 x4 x5 σ) : zAW RX0 cX0_stepOut 7 none false { frames := 2, cells := 0, slots := 0, locals := 46 } zΓ.length (zN zΓ (zρ b) Q) 82 [(0, .ref r), (1, .int x1), (2, .int x2), (3, .int x3), (4, .int x4), (5, .int x5)] [] zΓ (zρ b) σ 0 0 := by
  have h0 := zHw hr
  unfold w_X0_stepOut_J82 at hw
  refine z_iconst dX0_stepOut_82 zi0 ?_
  exact z_to (j_X0_stepOut_83 hr hK24 hw) ⟨rfl, rfl, rfl, rfl, rfl, rfl, trivial⟩
set_option maxHeartbeats 4000000 in
set_option maxRecDepth 100000 in
theorem j_X0_stepOut_78 {r b : Nat} (hr : zHr r b) {Q : Int32 → zS → Prop} {K24 : Int32 → Int32 → Int32 → Int32 → Int32 → zS → Prop} (hK24 : ∀ (a1 a2 a3 a4 a5 : Int32) (σ : zS), K24 a1 a2 a3 a4 a5 σ → zAW RX0 cX0_stepOut 7 none false { frames := 2, cells := 0, slots := 0, locals := 46 } zΓ.length (zN zΓ (zρ b) Q) 24 [(0, .ref r), (1, .int a1), (2, .int a2), (3, .int a3), (4, .int a4), (5, .int a5)] [] zΓ (zρ b) σ 0 0) {x1 x2 x3 x4 x5 : Int32} {σ : zS} (hw : w_X0_stepOut_J78 r Q K24 x1 x2 x3 x4 x5 σ) : zAW RX0 cX0_stepOut 7 none false { frames := 2, cells := 0, slots := 0, locals := 46 } zΓ.length (zN zΓ (zρ b) Q) 78 [(0, .ref r), (1, .int x1), (2, .int x2), (3, .int x3), (4, .int x4), (5, .int x5)] [] zΓ (zρ b) σ 0 0 := by
  have h0 := zHw hr
  unfold w_X0_stepOut_J78 at hw
  refine z_iconst dX0_stepOut_78 zi1 ?_
  refine z_goto dX0_stepOut_79 ?_
  exact z_to (j_X0_stepOut_83 hr hK24 hw) ⟨rfl, rfl, rfl, rfl, rfl, rfl, trivial⟩
set_option maxHeartbeats 4000000 in
set_option maxRecDepth 100000 in
theorem l_X0_stepOut_24 {r b : Nat} (hr : zHr r b) {Q : Int32 → zS → Prop}   : ∀ (n : Nat) (x1 x2 x3 x4 x5 : Int32) (σ : zS), w_X0_stepOut_L24 r Q  n x1 x2 x3 x4 x5 σ → zAW RX0 cX0_stepOut 7 none false { frames := 2, cells := 0, slots := 0, locals := 46 } zΓ.length (zN zΓ (zρ b) Q) 24 [(0, .ref r), (1, .int x1), (2, .int x2), (3, .int x3), (4, .int x4), (5, .int x5)] [] zΓ (zρ b) σ 0 0 := by
  intro n
  induction n with
  | zero => intro x1 x2 x3 x4 x5 σ hw; exact hw.elim
  | succ n hK24 =>
    intro x1 x2 x3 x4 x5 σ hw
    have h0 := zHw hr
    rw [w_X0_stepOut_L24] at hw
    refine z_iload dX0_stepOut_24 rfl ?_
    refine z_aload_n dX0_stepOut_26 rfl rfl ?_
    refine z_getr dX0_stepOut_27 fX0_42 (zgC0 h0) zkX0_0 (zrC0 h0) ?_
    refine z_geti dX0_stepOut_30 fX0_128 zg1 zkX4_7 ?_
    refine z_icmp_ge dX0_stepOut_33 hw (fun hw => ?_) (fun hw => ?_)
    · exact z_vret dX0_stepOut_128 (Nat.le_refl _) (Nat.le_refl _) rfl ⟨rfl, rfl, hw⟩
    · refine z_aload_n dX0_stepOut_36 rfl rfl ?_
      refine z_getr dX0_stepOut_37 fX0_32 (zgC0 h0) zkX0_7 (zrC7 h0) ?_
      refine z_iload_n dX0_stepOut_40 rfl rfl ?_
      refine z_iald dX0_stepOut_41 (zgC15 h0) hw (fun hw => ?_)
      refine z_if_le dX0_stepOut_42 hw (fun hw => ?_) (fun hw => ?_)
      · exact z_vret dX0_stepOut_128 (Nat.le_refl _) (Nat.le_refl _) rfl ⟨rfl, rfl, hw⟩
      · refine z_aload_n dX0_stepOut_45 rfl rfl ?_
        refine z_getr dX0_stepOut_46 fX0_42 (zgC0 h0) zkX0_0 (zrC0 h0) ?_
        refine z_getr dX0_stepOut_49 fX0_179 zg1 zkX4_2 zr1_2 ?_
        refine z_iload dX0_stepOut_52 rfl ?_
        refine z_iald dX0_stepOut_54 zg4 hw (fun hw => ?_)
        refine z_iload_n dX0_stepOut_55 rfl rfl ?_
        refine z_icmp_eq dX0_stepOut_56 hw (fun hw => ?_) (fun hw => ?_)
        · exact z_to (j_X0_stepOut_78 hr hK24 hw) ⟨rfl, rfl, rfl, rfl, rfl, rfl, trivial⟩
        · refine z_iload dX0_stepOut_59 rfl ?_
          refine z_if_eq dX0_stepOut_61 hw (fun hw => ?_) (fun hw => ?_)
          · exact z_to (j_X0_stepOut_82 hr hK24 hw) ⟨rfl, rfl, rfl, rfl, rfl, rfl, trivial⟩
          · refine z_aload_n dX0_stepOut_64 rfl rfl ?_
            refine z_getr dX0_stepOut_65 fX0_42 (zgC0 h0) zkX0_0 (zrC0 h0) ?_
            refine z_getr dX0_stepOut_68 fX0_182 zg1 zkX4_5 zr1_5 ?_
            refine z_iload dX0_stepOut_71 rfl ?_
            refine z_iald dX0_stepOut_73 zg7 hw (fun hw => ?_)
            refine z_iconst dX0_stepOut_74 zi1 ?_
            refine z_icmp_ne dX0_stepOut_75 hw (fun hw => ?_) (fun hw => ?_)
            · exact z_to (j_X0_stepOut_82 hr hK24 hw) ⟨rfl, rfl, rfl, rfl, rfl, rfl, trivial⟩
            · exact z_to (j_X0_stepOut_78 hr hK24 hw) ⟨rfl, rfl, rfl, rfl, rfl, rfl, trivial⟩
set_option maxHeartbeats 4000000 in
set_option maxRecDepth 100000 in
theorem c_X0_stepOut {r b : Nat} (hr : zHr r b) {x1 x2 x3 : Int32} {σ : zS} {Q : Int32 → zS → Prop} (hw : w_X0_stepOut r x1 x2 x3 σ Q) : zAC yX0_stepOut cX0_stepOut 7 none { frames := 2, cells := 0, slots := 0, locals := 46 } [.ref r, .int x1, .int x2, .int x3] zΓ (zρ b) σ (zN zΓ (zρ b) Q) := by
  have h0 := zHw hr
  refine z_entry (own := RX0) (ini := false) (plainFor_of_name pnX0) rfl (fun h => by cases h) (Nat.le_of_ble_eq_true rfl) ?_
  unfold w_X0_stepOut at hw
  refine z_aload_n dX0_stepOut_0 rfl rfl ?_
  refine z_getr dX0_stepOut_1 fX0_46 (zgC0 h0) zkX0_10 (zrC10 hr) ?_
  refine z_aload_n dX0_stepOut_4 rfl rfl ?_
  refine z_getr dX0_stepOut_5 fX0_46 (zgC0 h0) zkX0_10 (zrC10 hr) ?_
  refine z_iload_n dX0_stepOut_8 rfl rfl ?_
  refine z_aload_n dX0_stepOut_9 rfl rfl ?_
  refine z_geti dX0_stepOut_10 fX0_60 (zgC0 h0) zkX0_14 ?_
  refine z_callV dX0_stepOut_13 mX0_117 (c_X2_slot  hw) zg9 rfl rfl (Nat.le_of_ble_eq_true rfl) ⟨Nat.le_of_ble_eq_true rfl, Nat.le_of_ble_eq_true rfl⟩ ⟨Nat.le_refl _, Nat.le_refl _⟩ (fun _ _ hw => ?_)
  refine z_callV dX0_stepOut_16 mX0_176 (c_X2_isLastBeforeEnd  hw) zg9 rfl rfl (Nat.le_of_ble_eq_true rfl) ⟨Nat.le_of_ble_eq_true rfl, Nat.le_of_ble_eq_true rfl⟩ ⟨Nat.le_refl _, Nat.le_refl _⟩ (fun _ _ hw => ?_)
  refine z_istore dX0_stepOut_19 (Nat.le_of_ble_eq_true rfl) ?_
  refine z_iconst dX0_stepOut_21 zi0 ?_
  refine z_istore dX0_stepOut_22 (Nat.le_of_ble_eq_true rfl) ?_
  obtain ⟨n, hw⟩ := hw
  exact z_to (l_X0_stepOut_24 hr  n _ _ _ _ _ _ hw) ⟨rfl, rfl, rfl, rfl, rfl, rfl, trivial⟩
def w_X0_takeFromLine_L12 (r : Nat) (Q : Int32 → zS → Prop)  : Nat → Int32 → Int32 → zS → Prop
  | 0, _, _, _ => False
  | n + 1, x1, x3, σ => (vp_in x1 8 ∧ (((σ.2 ((r + 14)) x1.toNatClampNeg) ≤ x3 → Q 0 σ) ∧ (¬ ((σ.2 ((r + 14)) x1.toNatClampNeg) ≤ x3) → (vp_in x1 8 ∧ (vp_in x1 8 ∧ (vp_in ((x3 + (1 : Int32))) 30 ∧ (vp_in x3 30 ∧ zlet (zA σ ((r + 6 + x1.toNatClampNeg)) x3.toNatClampNeg (σ.2 ((r + 6 + x1.toNatClampNeg)) ((x3 + (1 : Int32))).toNatClampNeg)) fun t3 => (fun a1 a3 aσ => w_X0_takeFromLine_L12 r Q  n a1 a3 aσ) x1 ((x3 + (1 : Int32))) t3)))))))
def w_X0_takeFromLine (r : Nat) (x1 x2 : Int32) (σ : zS) (Q : Int32 → zS → Prop) : Prop := (vp_in x1 8 ∧ (vp_in x1 8 ∧ zlet (zA σ ((r + 14)) x1.toNatClampNeg ((σ.2 ((r + 14)) x1.toNatClampNeg) - (1 : Int32))) fun t1 => ∃ m12, w_X0_takeFromLine_L12 r Q  m12 x1 x2 t1))
set_option maxHeartbeats 4000000 in
set_option maxRecDepth 100000 in
theorem l_X0_takeFromLine_12 {r b : Nat} (hr : zHr r b) {Q : Int32 → zS → Prop}   : ∀ (n : Nat) (x1 x3 : Int32) (σ : zS), w_X0_takeFromLine_L12 r Q  n x1 x3 σ → zAW RX0 cX0_takeFromLine 4 none false { frames := 0, cells := 0, slots := 0, locals := 0 } zΓ.length (zN zΓ (zρ b) Q) 12 [(0, .ref r), (1, .int x1), (3, .int x3)] [] zΓ (zρ b) σ 0 0 := by
  intro n
  induction n with
  | zero => intro x1 x3 σ hw; exact hw.elim
  | succ n hK12 =>
    intro x1 x3 σ hw
    have h0 := zHw hr
    rw [w_X0_takeFromLine_L12] at hw
    refine z_iload_n dX0_takeFromLine_12 rfl rfl ?_
    refine z_aload_n dX0_takeFromLine_13 rfl rfl ?_
    refine z_getr dX0_takeFromLine_14 fX0_29 (zgC0 h0) zkX0_6 (zrC6 h0) ?_
    refine z_iload_n dX0_takeFromLine_17 rfl rfl ?_
    refine z_iald dX0_takeFromLine_18 (zgC14 h0) hw (fun hw => ?_)
    refine z_icmp_ge dX0_takeFromLine_19 hw (fun hw => ?_) (fun hw => ?_)
    · exact z_vret dX0_takeFromLine_46 (Nat.le_refl _) (Nat.le_refl _) rfl ⟨rfl, rfl, hw⟩
    · refine z_aload_n dX0_takeFromLine_22 rfl rfl ?_
      refine z_getr dX0_takeFromLine_23 fX0_26 (zgC0 h0) zkX0_5 (zrC5 h0) ?_
      refine z_iload_n dX0_takeFromLine_26 rfl rfl ?_
      have hv1 := hw.1
      refine z_aald dX0_takeFromLine_27 (zgC5 h0) hw (zrho (zrefL h0)) (fun hw => ?_)
      refine z_iload_n dX0_takeFromLine_28 rfl rfl ?_
      refine z_aload_n dX0_takeFromLine_29 rfl rfl ?_
      refine z_getr dX0_takeFromLine_30 fX0_26 (zgC0 h0) zkX0_5 (zrC5 h0) ?_
      refine z_iload_n dX0_takeFromLine_33 rfl rfl ?_
      have hv2 := hw.1
      refine z_aald dX0_takeFromLine_34 (zgC5 h0) hw (zrho (zrefL h0)) (fun hw => ?_)
      refine z_iload_n dX0_takeFromLine_35 rfl rfl ?_
      refine z_iconst dX0_takeFromLine_36 zi1 ?_
      refine z_iadd dX0_takeFromLine_37 ?_
      refine z_iald dX0_takeFromLine_38 (zrow (zrowL h0) hv2) hw (fun hw => ?_)
      refine z_iastL dX0_takeFromLine_39 (zrow (zrowL h0) hv1) hw (fun hw => ?_)
      refine z_iinc dX0_takeFromLine_40 rfl zi1 (Nat.le_of_ble_eq_true rfl) ?_
      refine z_goto dX0_takeFromLine_43 ?_
      exact z_to (hK12 _ _ _ hw) ⟨rfl, rfl, rfl, trivial⟩
set_option maxHeartbeats 4000000 in
set_option maxRecDepth 100000 in
theorem c_X0_takeFromLine {r b : Nat} (hr : zHr r b) {x1 x2 : Int32} {σ : zS} {Q : Int32 → zS → Prop} (hw : w_X0_takeFromLine r x1 x2 σ Q) : zAC yX0_takeFromLine cX0_takeFromLine 4 none { frames := 0, cells := 0, slots := 0, locals := 0 } [.ref r, .int x1, .int x2] zΓ (zρ b) σ (zN zΓ (zρ b) Q) := by
  have h0 := zHw hr
  refine z_entry (own := RX0) (ini := false) (plainFor_of_name pnX0) rfl (fun h => by cases h) (Nat.le_of_ble_eq_true rfl) ?_
  unfold w_X0_takeFromLine at hw
  refine z_aload_n dX0_takeFromLine_0 rfl rfl ?_
  refine z_getr dX0_takeFromLine_1 fX0_29 (zgC0 h0) zkX0_6 (zrC6 h0) ?_
  refine z_iload_n dX0_takeFromLine_4 rfl rfl ?_
  refine z_dup2 dX0_takeFromLine_5 rfl rfl ?_
  refine z_iald dX0_takeFromLine_6 (zgC14 h0) hw (fun hw => ?_)
  refine z_iconst dX0_takeFromLine_7 zi1 ?_
  refine z_isub dX0_takeFromLine_8 ?_
  refine z_iastL dX0_takeFromLine_9 (zgC14 h0) hw (fun hw => ?_)
  refine z_iload_n dX0_takeFromLine_10 rfl rfl ?_
  refine z_istore_n dX0_takeFromLine_11 rfl (Nat.le_of_ble_eq_true rfl) ?_
  obtain ⟨n, hw⟩ := hw
  exact z_to (l_X0_takeFromLine_12 hr  n _ _ _ hw) ⟨rfl, rfl, rfl, trivial⟩
def w_X0_enter (r : Nat) (x1 x2 x3 : Int32) (σ : zS) (Q : Int32 → zS → Prop) : Prop := (vp_in x1 30 ∧ zlet (zA σ ((r + 1)) x1.toNatClampNeg (2 : Int32)) fun t1 => (vp_in x1 30 ∧ zlet (zA t1 ((r + 2)) x1.toNatClampNeg x2) fun t2 => (vp_in x2 18 ∧ (vp_in x1 30 ∧ (vp_in x2 18 ∧ zlet (zA t2 ((r + 15)) x2.toNatClampNeg ((t2.2 ((r + 15)) x2.toNatClampNeg) + (t2.2 5 x1.toNatClampNeg))) fun t3 => (vp_in ((0 : Int32)) 2 ∧ (vp_in x3 8 ∧ (vp_in x3 8 ∧ zlet (zA t3 ((r + 17 + ((0 : Int32)).toNatClampNeg)) x3.toNatClampNeg ((t3.2 ((r + 17 + ((0 : Int32)).toNatClampNeg)) x3.toNatClampNeg) + (1 : Int32))) fun t5 => Q 0 t5))))))))
set_option maxHeartbeats 4000000 in
set_option maxRecDepth 100000 in
theorem c_X0_enter {r b : Nat} (hr : zHr r b) {x1 x2 x3 : Int32} {σ : zS} {Q : Int32 → zS → Prop} (hw : w_X0_enter r x1 x2 x3 σ Q) : zAC yX0_enter cX0_enter 4 none { frames := 0, cells := 0, slots := 0, locals := 0 } [.ref r, .int x1, .int x2, .int x3] zΓ (zρ b) σ (zN zΓ (zρ b) Q) := by
  have h0 := zHw hr
  refine z_entry (own := RX0) (ini := false) (plainFor_of_name pnX0) rfl (fun h => by cases h) (Nat.le_of_ble_eq_true rfl) ?_
  unfold w_X0_enter at hw
  refine z_aload_n dX0_enter_0 rfl rfl ?_
  refine z_getr dX0_enter_1 fX0_9 (zgC0 h0) zkX0_1 (zrC1 h0) ?_
  refine z_iload_n dX0_enter_4 rfl rfl ?_
  refine z_iconst dX0_enter_5 zi2 ?_
  refine z_iastL dX0_enter_6 (zgC1 h0) hw (fun hw => ?_)
  refine z_aload_n dX0_enter_7 rfl rfl ?_
  refine z_getr dX0_enter_8 fX0_15 (zgC0 h0) zkX0_2 (zrC2 h0) ?_
  refine z_iload_n dX0_enter_11 rfl rfl ?_
  refine z_iload_n dX0_enter_12 rfl rfl ?_
  refine z_iastL dX0_enter_13 (zgC2 h0) hw (fun hw => ?_)
  refine z_aload_n dX0_enter_14 rfl rfl ?_
  refine z_getr dX0_enter_15 fX0_32 (zgC0 h0) zkX0_7 (zrC7 h0) ?_
  refine z_iload_n dX0_enter_18 rfl rfl ?_
  refine z_dup2 dX0_enter_19 rfl rfl ?_
  refine z_iald dX0_enter_20 (zgC15 h0) hw (fun hw => ?_)
  refine z_aload_n dX0_enter_21 rfl rfl ?_
  refine z_getr dX0_enter_22 fX0_42 (zgC0 h0) zkX0_0 (zrC0 h0) ?_
  refine z_getr dX0_enter_25 fX0_194 zg1 zkX4_3 zr1_3 ?_
  refine z_iload_n dX0_enter_28 rfl rfl ?_
  refine z_iald dX0_enter_29 zg5 hw (fun hw => ?_)
  refine z_iadd dX0_enter_30 ?_
  refine z_iastL dX0_enter_31 (zgC15 h0) hw (fun hw => ?_)
  refine z_aload_n dX0_enter_32 rfl rfl ?_
  refine z_getr dX0_enter_33 fX0_35 (zgC0 h0) zkX0_8 (zrC8 h0) ?_
  refine z_iconst dX0_enter_36 zi0 ?_
  have hv4 := hw.1
  refine z_aald dX0_enter_37 (zgC16 h0) hw (zrho (zrefN h0)) (fun hw => ?_)
  refine z_iload_n dX0_enter_38 rfl rfl ?_
  refine z_dup2 dX0_enter_39 rfl rfl ?_
  refine z_iald dX0_enter_40 (zrow (zrowN h0) hv4) hw (fun hw => ?_)
  refine z_iconst dX0_enter_41 zi1 ?_
  refine z_iadd dX0_enter_42 ?_
  refine z_iastL dX0_enter_43 (zrow (zrowN h0) hv4) hw (fun hw => ?_)
  exact z_vret dX0_enter_44 (Nat.le_refl _) (Nat.le_refl _) rfl ⟨rfl, rfl, hw⟩
def w_X0_stepIn_J150 (r : Nat) (Q : Int32 → zS → Prop) (K24 : Int32 → Int32 → Int32 → Int32 → Int32 → zS → Prop) (x1 x2 x3 x4 x5 : Int32) (σ : zS) : Prop := K24 x1 x2 x3 x4 ((x5 + (1 : Int32))) σ
def w_X0_stepIn_J92 (r : Nat) (Q : Int32 → zS → Prop) (K24 : Int32 → Int32 → Int32 → Int32 → Int32 → zS → Prop) (x1 x2 x3 x4 x5 x6 s0 : Int32) (σ : zS) : Prop := ((s0 = 0 → w_X0_stepIn_J150 r Q K24 x1 x2 x3 x4 x5  σ) ∧ (¬ (s0 = 0) → (vp_in x6 30 ∧ ((x3 < (σ.2 6 x6.toNatClampNeg) → w_X0_stepIn_J150 r Q K24 x1 x2 x3 x4 x5  σ) ∧ (¬ (x3 < (σ.2 6 x6.toNatClampNeg)) → (vp_in x1 18 ∧ (vp_in x6 30 ∧ (((4 : Int32) < ((σ.2 ((r + 15)) x1.toNatClampNeg) + (σ.2 5 x6.toNatClampNeg)) → w_X0_stepIn_J150 r Q K24 x1 x2 x3 x4 x5  σ) ∧ (¬ ((4 : Int32) < ((σ.2 ((r + 15)) x1.toNatClampNeg) + (σ.2 5 x6.toNatClampNeg))) → (w_X0_takeFromLine r x2 x5 σ fun _ t1 => (w_X0_enter r x6 x1 x2 t1 fun _ t2 => Q 0 t2)))))))))))
def w_X0_stepIn_L24 (r : Nat) (Q : Int32 → zS → Prop)  : Nat → Int32 → Int32 → Int32 → Int32 → Int32 → zS → Prop
  | 0, _, _, _, _, _, _ => False
  | n + 1, x1, x2, x3, x4, x5, σ => (vp_in x2 8 ∧ (((σ.2 ((r + 14)) x2.toNatClampNeg) ≤ x5 → Q 0 σ) ∧ (¬ ((σ.2 ((r + 14)) x2.toNatClampNeg) ≤ x5) → (vp_in x2 8 ∧ (vp_in x5 30 ∧ ((x4 = 0 → (vp_in ((σ.2 ((r + 6 + x2.toNatClampNeg)) x5.toNatClampNeg)) 30 ∧ ((x2 ≤ (σ.2 4 ((σ.2 ((r + 6 + x2.toNatClampNeg)) x5.toNatClampNeg)).toNatClampNeg) → w_X0_stepIn_J92 r Q (fun a1 a2 a3 a4 a5 aσ => w_X0_stepIn_L24 r Q  n a1 a2 a3 a4 a5 aσ) x1 x2 x3 x4 x5 ((σ.2 ((r + 6 + x2.toNatClampNeg)) x5.toNatClampNeg)) ((0 : Int32)) σ) ∧ (¬ (x2 ≤ (σ.2 4 ((σ.2 ((r + 6 + x2.toNatClampNeg)) x5.toNatClampNeg)).toNatClampNeg)) → w_X0_stepIn_J92 r Q (fun a1 a2 a3 a4 a5 aσ => w_X0_stepIn_L24 r Q  n a1 a2 a3 a4 a5 aσ) x1 x2 x3 x4 x5 ((σ.2 ((r + 6 + x2.toNatClampNeg)) x5.toNatClampNeg)) ((1 : Int32)) σ)))) ∧ (¬ (x4 = 0) → (vp_in ((σ.2 ((r + 6 + x2.toNatClampNeg)) x5.toNatClampNeg)) 30 ∧ (((σ.2 4 ((σ.2 ((r + 6 + x2.toNatClampNeg)) x5.toNatClampNeg)).toNatClampNeg) ≤ x2 → w_X0_stepIn_J92 r Q (fun a1 a2 a3 a4 a5 aσ => w_X0_stepIn_L24 r Q  n a1 a2 a3 a4 a5 aσ) x1 x2 x3 x4 x5 ((σ.2 ((r + 6 + x2.toNatClampNeg)) x5.toNatClampNeg)) ((0 : Int32)) σ) ∧ (¬ ((σ.2 4 ((σ.2 ((r + 6 + x2.toNatClampNeg)) x5.toNatClampNeg)).toNatClampNeg) ≤ x2) → w_X0_stepIn_J92 r Q (fun a1 a2 a3 a4 a5 aσ => w_X0_stepIn_L24 r Q  n a1 a2 a3 a4 a5 aσ) x1 x2 x3 x4 x5 ((σ.2 ((r + 6 + x2.toNatClampNeg)) x5.toNatClampNeg)) ((1 : Int32)) σ))))))))))
def w_X0_stepIn (r : Nat) (x1 x2 x3 : Int32) (σ : zS) (Q : Int32 → zS → Prop) : Prop := (w_X2_slot x1 ((σ.1 r 14)) σ fun v1 t2 => (w_X2_isUp v1 t2 fun v3 t4 => ∃ m24, w_X0_stepIn_L24 r Q  m24 x1 x2 x3 v3 ((0 : Int32)) t4))
set_option maxHeartbeats 4000000 in
set_option maxRecDepth 100000 in
theorem j_X0_stepIn_150 {r b : Nat} (hr : zHr r b) {Q : Int32 → zS → Prop} {K24 : Int32 → Int32 → Int32 → Int32 → Int32 → zS → Prop} (hK24 : ∀ (a1 a2 a3 a4 a5 : Int32) (σ : zS), K24 a1 a2 a3 a4 a5 σ → zAW RX0 cX0_stepIn 8 none false { frames := 2, cells := 0, slots := 0, locals := 44 } zΓ.length (zN zΓ (zρ b) Q) 24 [(0, .ref r), (1, .int a1), (2, .int a2), (3, .int a3), (4, .int a4), (5, .int a5)] [] zΓ (zρ b) σ 0 0) {x1 x2 x3 x4 x5 : Int32} {σ : zS} (hw : w_X0_stepIn_J150 r Q K24 x1 x2 x3 x4 x5 σ) : zAW RX0 cX0_stepIn 8 none false { frames := 2, cells := 0, slots := 0, locals := 44 } zΓ.length (zN zΓ (zρ b) Q) 150 [(0, .ref r), (1, .int x1), (2, .int x2), (3, .int x3), (4, .int x4), (5, .int x5)] [] zΓ (zρ b) σ 0 0 := by
  have h0 := zHw hr
  unfold w_X0_stepIn_J150 at hw
  refine z_iinc dX0_stepIn_150 rfl zi1 (Nat.le_of_ble_eq_true rfl) ?_
  refine z_goto dX0_stepIn_153 ?_
  exact z_to (hK24 _ _ _ _ _ _ hw) ⟨rfl, rfl, rfl, rfl, rfl, rfl, trivial⟩
set_option maxHeartbeats 4000000 in
set_option maxRecDepth 100000 in
theorem j_X0_stepIn_92 {r b : Nat} (hr : zHr r b) {Q : Int32 → zS → Prop} {K24 : Int32 → Int32 → Int32 → Int32 → Int32 → zS → Prop} (hK24 : ∀ (a1 a2 a3 a4 a5 : Int32) (σ : zS), K24 a1 a2 a3 a4 a5 σ → zAW RX0 cX0_stepIn 8 none false { frames := 2, cells := 0, slots := 0, locals := 44 } zΓ.length (zN zΓ (zρ b) Q) 24 [(0, .ref r), (1, .int a1), (2, .int a2), (3, .int a3), (4, .int a4), (5, .int a5)] [] zΓ (zρ b) σ 0 0) {x1 x2 x3 x4 x5 x6 s0 : Int32} {σ : zS} (hw : w_X0_stepIn_J92 r Q K24 x1 x2 x3 x4 x5 x6 s0 σ) : zAW RX0 cX0_stepIn 8 none false { frames := 2, cells := 0, slots := 0, locals := 44 } zΓ.length (zN zΓ (zρ b) Q) 92 [(0, .ref r), (1, .int x1), (2, .int x2), (3, .int x3), (4, .int x4), (5, .int x5), (6, .int x6)] [.int s0] zΓ (zρ b) σ 0 0 := by
  have h0 := zHw hr
  unfold w_X0_stepIn_J92 at hw
  refine z_istore dX0_stepIn_92 (Nat.le_of_ble_eq_true rfl) ?_
  refine z_iload dX0_stepIn_94 rfl ?_
  refine z_if_eq dX0_stepIn_96 hw (fun hw => ?_) (fun hw => ?_)
  · exact z_to (j_X0_stepIn_150 hr hK24 hw) ⟨rfl, rfl, rfl, rfl, rfl, rfl, trivial⟩
  · refine z_aload_n dX0_stepIn_99 rfl rfl ?_
    refine z_getr dX0_stepIn_100 fX0_42 (zgC0 h0) zkX0_0 (zrC0 h0) ?_
    refine z_getr dX0_stepIn_103 fX0_185 zg1 zkX4_4 zr1_4 ?_
    refine z_iload dX0_stepIn_106 rfl ?_
    refine z_iald dX0_stepIn_108 zg6 hw (fun hw => ?_)
    refine z_iload_n dX0_stepIn_109 rfl rfl ?_
    refine z_icmp_gt dX0_stepIn_110 hw (fun hw => ?_) (fun hw => ?_)
    · exact z_to (j_X0_stepIn_150 hr hK24 hw) ⟨rfl, rfl, rfl, rfl, rfl, rfl, trivial⟩
    · refine z_aload_n dX0_stepIn_113 rfl rfl ?_
      refine z_getr dX0_stepIn_114 fX0_32 (zgC0 h0) zkX0_7 (zrC7 h0) ?_
      refine z_iload_n dX0_stepIn_117 rfl rfl ?_
      refine z_iald dX0_stepIn_118 (zgC15 h0) hw (fun hw => ?_)
      refine z_aload_n dX0_stepIn_119 rfl rfl ?_
      refine z_getr dX0_stepIn_120 fX0_42 (zgC0 h0) zkX0_0 (zrC0 h0) ?_
      refine z_getr dX0_stepIn_123 fX0_194 zg1 zkX4_3 zr1_3 ?_
      refine z_iload dX0_stepIn_126 rfl ?_
      refine z_iald dX0_stepIn_128 zg5 hw (fun hw => ?_)
      refine z_iadd dX0_stepIn_129 ?_
      refine z_iconst dX0_stepIn_130 zi4 ?_
      refine z_icmp_gt dX0_stepIn_131 hw (fun hw => ?_) (fun hw => ?_)
      · exact z_to (j_X0_stepIn_150 hr hK24 hw) ⟨rfl, rfl, rfl, rfl, rfl, rfl, trivial⟩
      · refine z_aload_n dX0_stepIn_134 rfl rfl ?_
        refine z_iload_n dX0_stepIn_135 rfl rfl ?_
        refine z_iload dX0_stepIn_136 rfl ?_
        refine z_callVv dX0_stepIn_138 mX0_197 (c_X0_takeFromLine hr hw) (zgC0 h0) rfl rfl (Nat.le_of_ble_eq_true rfl) ⟨Nat.le_of_ble_eq_true rfl, Nat.le_of_ble_eq_true rfl⟩ ⟨Nat.le_refl _, Nat.le_refl _⟩ (fun _ hw => ?_)
        refine z_aload_n dX0_stepIn_141 rfl rfl ?_
        refine z_iload dX0_stepIn_142 rfl ?_
        refine z_iload_n dX0_stepIn_144 rfl rfl ?_
        refine z_iload_n dX0_stepIn_145 rfl rfl ?_
        refine z_callVv dX0_stepIn_146 mX0_200 (c_X0_enter hr hw) (zgC0 h0) rfl rfl (Nat.le_of_ble_eq_true rfl) ⟨Nat.le_of_ble_eq_true rfl, Nat.le_of_ble_eq_true rfl⟩ ⟨Nat.le_refl _, Nat.le_refl _⟩ (fun _ hw => ?_)
        exact z_vret dX0_stepIn_149 (Nat.le_refl _) (Nat.le_refl _) rfl ⟨rfl, rfl, hw⟩
set_option maxHeartbeats 4000000 in
set_option maxRecDepth 100000 in
theorem l_X0_stepIn_24 {r b : Nat} (hr : zHr r b) {Q : Int32 → zS → Prop}   : ∀ (n : Nat) (x1 x2 x3 x4 x5 : Int32) (σ : zS), w_X0_stepIn_L24 r Q  n x1 x2 x3 x4 x5 σ → zAW RX0 cX0_stepIn 8 none false { frames := 2, cells := 0, slots := 0, locals := 44 } zΓ.length (zN zΓ (zρ b) Q) 24 [(0, .ref r), (1, .int x1), (2, .int x2), (3, .int x3), (4, .int x4), (5, .int x5)] [] zΓ (zρ b) σ 0 0 := by
  intro n
  induction n with
  | zero => intro x1 x2 x3 x4 x5 σ hw; exact hw.elim
  | succ n hK24 =>
    intro x1 x2 x3 x4 x5 σ hw
    have h0 := zHw hr
    rw [w_X0_stepIn_L24] at hw
    refine z_iload dX0_stepIn_24 rfl ?_
    refine z_aload_n dX0_stepIn_26 rfl rfl ?_
    refine z_getr dX0_stepIn_27 fX0_29 (zgC0 h0) zkX0_6 (zrC6 h0) ?_
    refine z_iload_n dX0_stepIn_30 rfl rfl ?_
    refine z_iald dX0_stepIn_31 (zgC14 h0) hw (fun hw => ?_)
    refine z_icmp_ge dX0_stepIn_32 hw (fun hw => ?_) (fun hw => ?_)
    · exact z_vret dX0_stepIn_156 (Nat.le_refl _) (Nat.le_refl _) rfl ⟨rfl, rfl, hw⟩
    · refine z_aload_n dX0_stepIn_35 rfl rfl ?_
      refine z_getr dX0_stepIn_36 fX0_26 (zgC0 h0) zkX0_5 (zrC5 h0) ?_
      refine z_iload_n dX0_stepIn_39 rfl rfl ?_
      have hv1 := hw.1
      refine z_aald dX0_stepIn_40 (zgC5 h0) hw (zrho (zrefL h0)) (fun hw => ?_)
      refine z_iload dX0_stepIn_41 rfl ?_
      refine z_iald dX0_stepIn_43 (zrow (zrowL h0) hv1) hw (fun hw => ?_)
      refine z_istore dX0_stepIn_44 (Nat.le_of_ble_eq_true rfl) ?_
      refine z_iload dX0_stepIn_46 rfl ?_
      refine z_if_eq dX0_stepIn_48 hw (fun hw => ?_) (fun hw => ?_)
      · refine z_aload_n dX0_stepIn_73 rfl rfl ?_
        refine z_getr dX0_stepIn_74 fX0_42 (zgC0 h0) zkX0_0 (zrC0 h0) ?_
        refine z_getr dX0_stepIn_77 fX0_179 zg1 zkX4_2 zr1_2 ?_
        refine z_iload dX0_stepIn_80 rfl ?_
        refine z_iald dX0_stepIn_82 zg4 hw (fun hw => ?_)
        refine z_iload_n dX0_stepIn_83 rfl rfl ?_
        refine z_icmp_ge dX0_stepIn_84 hw (fun hw => ?_) (fun hw => ?_)
        · refine z_iconst dX0_stepIn_91 zi0 ?_
          exact z_to (j_X0_stepIn_92 hr hK24 hw) ⟨rfl, rfl, rfl, rfl, rfl, rfl, rfl, trivial⟩
        · refine z_iconst dX0_stepIn_87 zi1 ?_
          refine z_goto dX0_stepIn_88 ?_
          exact z_to (j_X0_stepIn_92 hr hK24 hw) ⟨rfl, rfl, rfl, rfl, rfl, rfl, rfl, trivial⟩
      · refine z_aload_n dX0_stepIn_51 rfl rfl ?_
        refine z_getr dX0_stepIn_52 fX0_42 (zgC0 h0) zkX0_0 (zrC0 h0) ?_
        refine z_getr dX0_stepIn_55 fX0_179 zg1 zkX4_2 zr1_2 ?_
        refine z_iload dX0_stepIn_58 rfl ?_
        refine z_iald dX0_stepIn_60 zg4 hw (fun hw => ?_)
        refine z_iload_n dX0_stepIn_61 rfl rfl ?_
        refine z_icmp_le dX0_stepIn_62 hw (fun hw => ?_) (fun hw => ?_)
        · refine z_iconst dX0_stepIn_69 zi0 ?_
          refine z_goto dX0_stepIn_70 ?_
          exact z_to (j_X0_stepIn_92 hr hK24 hw) ⟨rfl, rfl, rfl, rfl, rfl, rfl, rfl, trivial⟩
        · refine z_iconst dX0_stepIn_65 zi1 ?_
          refine z_goto dX0_stepIn_66 ?_
          exact z_to (j_X0_stepIn_92 hr hK24 hw) ⟨rfl, rfl, rfl, rfl, rfl, rfl, rfl, trivial⟩
set_option maxHeartbeats 4000000 in
set_option maxRecDepth 100000 in
theorem c_X0_stepIn {r b : Nat} (hr : zHr r b) {x1 x2 x3 : Int32} {σ : zS} {Q : Int32 → zS → Prop} (hw : w_X0_stepIn r x1 x2 x3 σ Q) : zAC yX0_stepIn cX0_stepIn 8 none { frames := 2, cells := 0, slots := 0, locals := 44 } [.ref r, .int x1, .int x2, .int x3] zΓ (zρ b) σ (zN zΓ (zρ b) Q) := by
  have h0 := zHw hr
  refine z_entry (own := RX0) (ini := false) (plainFor_of_name pnX0) rfl (fun h => by cases h) (Nat.le_of_ble_eq_true rfl) ?_
  unfold w_X0_stepIn at hw
  refine z_aload_n dX0_stepIn_0 rfl rfl ?_
  refine z_getr dX0_stepIn_1 fX0_46 (zgC0 h0) zkX0_10 (zrC10 hr) ?_
  refine z_aload_n dX0_stepIn_4 rfl rfl ?_
  refine z_getr dX0_stepIn_5 fX0_46 (zgC0 h0) zkX0_10 (zrC10 hr) ?_
  refine z_iload_n dX0_stepIn_8 rfl rfl ?_
  refine z_aload_n dX0_stepIn_9 rfl rfl ?_
  refine z_geti dX0_stepIn_10 fX0_60 (zgC0 h0) zkX0_14 ?_
  refine z_callV dX0_stepIn_13 mX0_117 (c_X2_slot  hw) zg9 rfl rfl (Nat.le_of_ble_eq_true rfl) ⟨Nat.le_of_ble_eq_true rfl, Nat.le_of_ble_eq_true rfl⟩ ⟨Nat.le_refl _, Nat.le_refl _⟩ (fun _ _ hw => ?_)
  refine z_callV dX0_stepIn_16 mX0_191 (c_X2_isUp  hw) zg9 rfl rfl (Nat.le_of_ble_eq_true rfl) ⟨Nat.le_of_ble_eq_true rfl, Nat.le_of_ble_eq_true rfl⟩ ⟨Nat.le_refl _, Nat.le_refl _⟩ (fun _ _ hw => ?_)
  refine z_istore dX0_stepIn_19 (Nat.le_of_ble_eq_true rfl) ?_
  refine z_iconst dX0_stepIn_21 zi0 ?_
  refine z_istore dX0_stepIn_22 (Nat.le_of_ble_eq_true rfl) ?_
  obtain ⟨n, hw⟩ := hw
  exact z_to (l_X0_stepIn_24 hr  n _ _ _ _ _ _ hw) ⟨rfl, rfl, rfl, rfl, rfl, rfl, trivial⟩
def w_X0_serveBoxes_J64 (r : Nat) (Q : Int32 → zS → Prop) (K23 : Int32 → Int32 → zS → Prop) (x1 x2 : Int32) (σ : zS) : Prop := K23 x1 ((x2 + (1 : Int32))) σ
def w_X0_serveBoxes_L23 (r : Nat) (Q : Int32 → zS → Prop)  : Nat → Int32 → Int32 → zS → Prop
  | 0, _, _, _ => False
  | n + 1, x1, x2, σ => (((σ.1 9 3) ≤ x2 → Q 0 σ) ∧ (¬ ((σ.1 9 3) ≤ x2) → (w_X0_openDoor r x2 ((σ.1 r 14)) σ fun v1 t2 => ((v1 = (-4 : Int32) → w_X0_serveBoxes_J64 r Q (fun a1 a2 aσ => w_X0_serveBoxes_L23 r Q  n a1 a2 aσ) x1 x2  t2) ∧ (¬ (v1 = (-4 : Int32)) → (w_X0_stepOut r x2 v1 x1 t2 fun _ t3 => (w_X0_stepIn r x2 v1 x1 t3 fun _ t4 => w_X0_serveBoxes_J64 r Q (fun a1 a2 aσ => w_X0_serveBoxes_L23 r Q  n a1 a2 aσ) x1 x2  t4)))))))
def w_X0_serveBoxes (r : Nat) (σ : zS) (Q : Int32 → zS → Prop) : Prop := (w_X2_ticksLeft ((σ.1 r 14)) ((σ.1 r 11)) σ fun v1 t2 => ((v1 = 0 → Q 0 t2) ∧ (¬ (v1 = 0) → ∃ m23, w_X0_serveBoxes_L23 r Q  m23 v1 ((0 : Int32)) t2)))
set_option maxHeartbeats 4000000 in
set_option maxRecDepth 100000 in
theorem j_X0_serveBoxes_64 {r b : Nat} (hr : zHr r b) {Q : Int32 → zS → Prop} {K23 : Int32 → Int32 → zS → Prop} (hK23 : ∀ (a1 a2 : Int32) (σ : zS), K23 a1 a2 σ → zAW RX0 cX0_serveBoxes 4 none false { frames := 3, cells := 0, slots := 0, locals := 72 } zΓ.length (zN zΓ (zρ b) Q) 23 [(0, .ref r), (1, .int a1), (2, .int a2)] [] zΓ (zρ b) σ 0 0) {x1 x2 : Int32} {σ : zS} (hw : w_X0_serveBoxes_J64 r Q K23 x1 x2 σ) : zAW RX0 cX0_serveBoxes 4 none false { frames := 3, cells := 0, slots := 0, locals := 72 } zΓ.length (zN zΓ (zρ b) Q) 64 [(0, .ref r), (1, .int x1), (2, .int x2)] [] zΓ (zρ b) σ 0 0 := by
  have h0 := zHw hr
  unfold w_X0_serveBoxes_J64 at hw
  refine z_iinc dX0_serveBoxes_64 rfl zi1 (Nat.le_of_ble_eq_true rfl) ?_
  refine z_goto dX0_serveBoxes_67 ?_
  exact z_to (hK23 _ _ _ hw) ⟨rfl, rfl, rfl, trivial⟩
set_option maxHeartbeats 4000000 in
set_option maxRecDepth 100000 in
theorem l_X0_serveBoxes_23 {r b : Nat} (hr : zHr r b) {Q : Int32 → zS → Prop}   : ∀ (n : Nat) (x1 x2 : Int32) (σ : zS), w_X0_serveBoxes_L23 r Q  n x1 x2 σ → zAW RX0 cX0_serveBoxes 4 none false { frames := 3, cells := 0, slots := 0, locals := 72 } zΓ.length (zN zΓ (zρ b) Q) 23 [(0, .ref r), (1, .int x1), (2, .int x2)] [] zΓ (zρ b) σ 0 0 := by
  intro n
  induction n with
  | zero => intro x1 x2 σ hw; exact hw.elim
  | succ n hK23 =>
    intro x1 x2 σ hw
    have h0 := zHw hr
    rw [w_X0_serveBoxes_L23] at hw
    refine z_iload_n dX0_serveBoxes_23 rfl rfl ?_
    refine z_aload_n dX0_serveBoxes_24 rfl rfl ?_
    refine z_getr dX0_serveBoxes_25 fX0_46 (zgC0 h0) zkX0_10 (zrC10 hr) ?_
    refine z_geti dX0_serveBoxes_28 fX0_114 zg9 zkX2_3 ?_
    refine z_icmp_ge dX0_serveBoxes_31 hw (fun hw => ?_) (fun hw => ?_)
    · exact z_vret dX0_serveBoxes_70 (Nat.le_refl _) (Nat.le_refl _) rfl ⟨rfl, rfl, hw⟩
    · refine z_aload_n dX0_serveBoxes_34 rfl rfl ?_
      refine z_iload_n dX0_serveBoxes_35 rfl rfl ?_
      refine z_aload_n dX0_serveBoxes_36 rfl rfl ?_
      refine z_geti dX0_serveBoxes_37 fX0_60 (zgC0 h0) zkX0_14 ?_
      refine z_callV dX0_serveBoxes_40 mX0_160 (c_X0_openDoor hr hw) (zgC0 h0) rfl rfl (Nat.le_of_ble_eq_true rfl) ⟨Nat.le_of_ble_eq_true rfl, Nat.le_of_ble_eq_true rfl⟩ ⟨Nat.le_refl _, Nat.le_refl _⟩ (fun _ _ hw => ?_)
      refine z_istore_n dX0_serveBoxes_43 rfl (Nat.le_of_ble_eq_true rfl) ?_
      refine z_iload_n dX0_serveBoxes_44 rfl rfl ?_
      refine z_bipush dX0_serveBoxes_45 zbpm4 ?_
      refine z_icmp_eq dX0_serveBoxes_47 hw (fun hw => ?_) (fun hw => ?_)
      · exact z_to (j_X0_serveBoxes_64 hr hK23 hw) ⟨rfl, rfl, rfl, trivial⟩
      · refine z_aload_n dX0_serveBoxes_50 rfl rfl ?_
        refine z_iload_n dX0_serveBoxes_51 rfl rfl ?_
        refine z_iload_n dX0_serveBoxes_52 rfl rfl ?_
        refine z_iload_n dX0_serveBoxes_53 rfl rfl ?_
        refine z_callVv dX0_serveBoxes_54 mX0_163 (c_X0_stepOut hr hw) (zgC0 h0) rfl rfl (Nat.le_of_ble_eq_true rfl) ⟨Nat.le_of_ble_eq_true rfl, Nat.le_of_ble_eq_true rfl⟩ ⟨Nat.le_refl _, Nat.le_refl _⟩ (fun _ hw => ?_)
        refine z_aload_n dX0_serveBoxes_57 rfl rfl ?_
        refine z_iload_n dX0_serveBoxes_58 rfl rfl ?_
        refine z_iload_n dX0_serveBoxes_59 rfl rfl ?_
        refine z_iload_n dX0_serveBoxes_60 rfl rfl ?_
        refine z_callVv dX0_serveBoxes_61 mX0_167 (c_X0_stepIn hr hw) (zgC0 h0) rfl rfl (Nat.le_of_ble_eq_true rfl) ⟨Nat.le_of_ble_eq_true rfl, Nat.le_of_ble_eq_true rfl⟩ ⟨Nat.le_refl _, Nat.le_refl _⟩ (fun _ hw => ?_)
        exact z_to (j_X0_serveBoxes_64 hr hK23 hw) ⟨rfl, rfl, rfl, trivial⟩
set_option maxHeartbeats 4000000 in
set_option maxRecDepth 100000 in
theorem c_X0_serveBoxes {r b : Nat} (hr : zHr r b) {σ : zS} {Q : Int32 → zS → Prop} (hw : w_X0_serveBoxes r  σ Q) : zAC yX0_serveBoxes cX0_serveBoxes 4 none { frames := 3, cells := 0, slots := 0, locals := 72 } [.ref r] zΓ (zρ b) σ (zN zΓ (zρ b) Q) := by
  have h0 := zHw hr
  refine z_entry (own := RX0) (ini := false) (plainFor_of_name pnX0) rfl (fun h => by cases h) (Nat.le_of_ble_eq_true rfl) ?_
  unfold w_X0_serveBoxes at hw
  refine z_aload_n dX0_serveBoxes_0 rfl rfl ?_
  refine z_getr dX0_serveBoxes_1 fX0_46 (zgC0 h0) zkX0_10 (zrC10 hr) ?_
  refine z_aload_n dX0_serveBoxes_4 rfl rfl ?_
  refine z_geti dX0_serveBoxes_5 fX0_60 (zgC0 h0) zkX0_14 ?_
  refine z_aload_n dX0_serveBoxes_8 rfl rfl ?_
  refine z_geti dX0_serveBoxes_9 fX0_50 (zgC0 h0) zkX0_11 ?_
  refine z_callV dX0_serveBoxes_12 mX0_157 (c_X2_ticksLeft  hw) zg9 rfl rfl (Nat.le_of_ble_eq_true rfl) ⟨Nat.le_of_ble_eq_true rfl, Nat.le_of_ble_eq_true rfl⟩ ⟨Nat.le_refl _, Nat.le_refl _⟩ (fun _ _ hw => ?_)
  refine z_istore_n dX0_serveBoxes_15 rfl (Nat.le_of_ble_eq_true rfl) ?_
  refine z_iload_n dX0_serveBoxes_16 rfl rfl ?_
  refine z_if_ne dX0_serveBoxes_17 hw (fun hw => ?_) (fun hw => ?_)
  · refine z_iconst dX0_serveBoxes_21 zi0 ?_
    refine z_istore_n dX0_serveBoxes_22 rfl (Nat.le_of_ble_eq_true rfl) ?_
    obtain ⟨n, hw⟩ := hw
    exact z_to (l_X0_serveBoxes_23 hr  n _ _ _ hw) ⟨rfl, rfl, rfl, trivial⟩
  · exact z_vret dX0_serveBoxes_20 (Nat.le_refl _) (Nat.le_refl _) rfl ⟨rfl, rfl, hw⟩
def w_X0_tick_L21 (r : Nat) (Q : Int32 → zS → Prop)  : Nat → Int32 → zS → Prop
  | 0, _, _ => False
  | n + 1, x1, σ => (((σ.1 9 0) ≤ x1 → (zlet (zI σ r 13 ((σ.1 r 13) + (1 : Int32))) fun t1 => Q 0 t1)) ∧ (¬ ((σ.1 9 0) ≤ x1) → (vp_in x1 8 ∧ (zlet (zI σ r 15 (if (σ.1 r 15) < (σ.2 ((r + 14)) x1.toNatClampNeg) then (σ.2 ((r + 14)) x1.toNatClampNeg) else (σ.1 r 15))) fun t2 => (fun a1 aσ => w_X0_tick_L21 r Q  n a1 aσ) ((x1 + (1 : Int32))) t2))))
def w_X0_tick_J11 (r : Nat) (Q : Int32 → zS → Prop)  (σ : zS) : Prop := (w_X0_comeAndArrive r σ fun _ t1 => (w_X0_serveBoxes r t1 fun _ t2 => ∃ m21, w_X0_tick_L21 r Q  m21 ((0 : Int32)) t2))
def w_X0_tick (r : Nat) (σ : zS) (Q : Int32 → zS → Prop) : Prop := (((σ.1 r 16) = 0 → (w_X0_moveOn r σ fun _ t1 => w_X0_tick_J11 r Q    t1)) ∧ (¬ ((σ.1 r 16) = 0) → w_X0_tick_J11 r Q    σ))
set_option maxHeartbeats 4000000 in
set_option maxRecDepth 100000 in
theorem l_X0_tick_21 {r b : Nat} (hr : zHr r b) {Q : Int32 → zS → Prop}   : ∀ (n : Nat) (x1 : Int32) (σ : zS), w_X0_tick_L21 r Q  n x1 σ → zAW RX0 cX0_tick 2 none false { frames := 5, cells := 0, slots := 0, locals := 108 } zΓ.length (zN zΓ (zρ b) Q) 21 [(0, .ref r), (1, .int x1)] [] zΓ (zρ b) σ 0 0 := by
  intro n
  induction n with
  | zero => intro x1 σ hw; exact hw.elim
  | succ n hK21 =>
    intro x1 σ hw
    have h0 := zHw hr
    rw [w_X0_tick_L21] at hw
    refine z_iload_n dX0_tick_21 rfl rfl ?_
    refine z_aload_n dX0_tick_22 rfl rfl ?_
    refine z_getr dX0_tick_23 fX0_46 (zgC0 h0) zkX0_10 (zrC10 hr) ?_
    refine z_geti dX0_tick_26 fX0_100 zg9 zkX2_0 ?_
    refine z_icmp_ge dX0_tick_29 hw (fun hw => ?_) (fun hw => ?_)
    · refine z_aload_n dX0_tick_55 rfl rfl ?_
      refine z_dup dX0_tick_56 rfl ?_
      refine z_geti dX0_tick_57 fX0_57 (zgC0 h0) zkX0_13 ?_
      refine z_iconst dX0_tick_60 zi1 ?_
      refine z_iadd dX0_tick_61 ?_
      refine z_putiL dX0_tick_62 fX0_57 (zgC0 h0) zkX0_13 hw (fun hw => ?_)
      exact z_vret dX0_tick_65 (Nat.le_refl _) (Nat.le_refl _) rfl ⟨rfl, rfl, hw⟩
    · refine z_aload_n dX0_tick_32 rfl rfl ?_
      refine z_aload_n dX0_tick_33 rfl rfl ?_
      refine z_geti dX0_tick_34 fX0_63 (zgC0 h0) zkX0_15 ?_
      refine z_aload_n dX0_tick_37 rfl rfl ?_
      refine z_getr dX0_tick_38 fX0_29 (zgC0 h0) zkX0_6 (zrC6 h0) ?_
      refine z_iload_n dX0_tick_41 rfl rfl ?_
      refine z_iald dX0_tick_42 (zgC14 h0) hw (fun hw => ?_)
      refine z_mmax dX0_tick_43 mwX0_105 (Nat.le_of_ble_eq_true rfl) (Nat.le_of_ble_eq_true rfl) (Nat.le_refl _) (Nat.le_refl _) ?_
      refine z_putiL dX0_tick_46 fX0_63 (zgC0 h0) zkX0_15 hw (fun hw => ?_)
      refine z_iinc dX0_tick_49 rfl zi1 (Nat.le_of_ble_eq_true rfl) ?_
      refine z_goto dX0_tick_52 ?_
      exact z_to (hK21 _ _ hw) ⟨rfl, rfl, trivial⟩
set_option maxHeartbeats 4000000 in
set_option maxRecDepth 100000 in
theorem j_X0_tick_11 {r b : Nat} (hr : zHr r b) {Q : Int32 → zS → Prop}   {σ : zS} (hw : w_X0_tick_J11 r Q   σ) : zAW RX0 cX0_tick 2 none false { frames := 5, cells := 0, slots := 0, locals := 108 } zΓ.length (zN zΓ (zρ b) Q) 11 [(0, .ref r)] [] zΓ (zρ b) σ 0 0 := by
  have h0 := zHw hr
  unfold w_X0_tick_J11 at hw
  refine z_aload_n dX0_tick_11 rfl rfl ?_
  refine z_callVv dX0_tick_12 mX0_94 (c_X0_comeAndArrive hr hw) (zgC0 h0) rfl rfl (Nat.le_of_ble_eq_true rfl) ⟨Nat.le_of_ble_eq_true rfl, Nat.le_of_ble_eq_true rfl⟩ ⟨Nat.le_refl _, Nat.le_refl _⟩ (fun _ hw => ?_)
  refine z_aload_n dX0_tick_15 rfl rfl ?_
  refine z_callVv dX0_tick_16 mX0_97 (c_X0_serveBoxes hr hw) (zgC0 h0) rfl rfl (Nat.le_of_ble_eq_true rfl) ⟨Nat.le_of_ble_eq_true rfl, Nat.le_of_ble_eq_true rfl⟩ ⟨Nat.le_refl _, Nat.le_refl _⟩ (fun _ hw => ?_)
  refine z_iconst dX0_tick_19 zi0 ?_
  refine z_istore_n dX0_tick_20 rfl (Nat.le_of_ble_eq_true rfl) ?_
  obtain ⟨n, hw⟩ := hw
  exact z_to (l_X0_tick_21 hr  n _ _ hw) ⟨rfl, rfl, trivial⟩
set_option maxHeartbeats 4000000 in
set_option maxRecDepth 100000 in
theorem c_X0_tick {r b : Nat} (hr : zHr r b) {σ : zS} {Q : Int32 → zS → Prop} (hw : w_X0_tick r  σ Q) : zAC yX0_tick cX0_tick 2 none { frames := 5, cells := 0, slots := 0, locals := 108 } [.ref r] zΓ (zρ b) σ (zN zΓ (zρ b) Q) := by
  have h0 := zHw hr
  refine z_entry (own := RX0) (ini := false) (plainFor_of_name pnX0) rfl (fun h => by cases h) (Nat.le_of_ble_eq_true rfl) ?_
  unfold w_X0_tick at hw
  refine z_aload_n dX0_tick_0 rfl rfl ?_
  refine z_geti dX0_tick_1 fX0_66 (zgC0 h0) zkX0_16 ?_
  refine z_if_ne dX0_tick_4 hw (fun hw => ?_) (fun hw => ?_)
  · exact z_to (j_X0_tick_11 hr  hw) ⟨rfl, trivial⟩
  · refine z_aload_n dX0_tick_7 rfl rfl ?_
    refine z_callVv dX0_tick_8 mX0_91 (c_X0_moveOn hr hw) (zgC0 h0) rfl rfl (Nat.le_of_ble_eq_true rfl) ⟨Nat.le_of_ble_eq_true rfl, Nat.le_of_ble_eq_true rfl⟩ ⟨Nat.le_refl _, Nat.le_refl _⟩ (fun _ hw => ?_)
    exact z_to (j_X0_tick_11 hr  hw) ⟨rfl, trivial⟩
def w_X6_ticks_L33 (Q : Int32 → zS → Prop)  : Nat → Int32 → Int32 → zS → Prop
  | 0, _, _, _ => False
  | n + 1, x1, x2, σ => ((x1 ≤ x2 → Q (σ.1 10 13) σ) ∧ (¬ (x1 ≤ x2) → (w_X0_tick 10 σ fun _ t1 => (fun a1 a2 aσ => w_X6_ticks_L33 Q  n a1 a2 aσ) x1 ((x2 + (1 : Int32))) t1)))
def w_X6_ticks  (x1 : Int32) (σ : zS) (Q : Int32 → zS → Prop) : Prop := (w_X6_within x1 ((1 : Int32)) ((200 : Int32)) σ fun v1 t2 => ((v1 = 0 → Q (-1 : Int32) t2) ∧ (¬ (v1 = 0) → ((((t2.1 10 13) + x1) ≤ (2000 : Int32) → ∃ m33, w_X6_ticks_L33 Q  m33 x1 ((0 : Int32)) t2) ∧ (¬ (((t2.1 10 13) + x1) ≤ (2000 : Int32)) → Q (-3 : Int32) t2)))))
set_option maxHeartbeats 4000000 in
set_option maxRecDepth 100000 in
theorem l_X6_ticks_33 {Q : Int32 → zS → Prop}   : ∀ (n : Nat) {b : Nat} (x1 x2 : Int32) (σ : zS), w_X6_ticks_L33 Q  n x1 x2 σ → zAW RX6 cX6_ticks 3 (some .int) false { frames := 6, cells := 0, slots := 0, locals := 129 } zΓ.length (zNp Q) 33 [(0, .ref 0), (1, .int x1), (2, .int x2)] [] zΓ (zρ b) σ 0 0 := by
  intro n
  induction n with
  | zero => intro b x1 x2 σ hw; exact hw.elim
  | succ n hK33 =>
    intro b x1 x2 σ hw
    rw [w_X6_ticks_L33] at hw
    refine z_iload_n dX6_ticks_33 rfl rfl ?_
    refine z_iload_n dX6_ticks_34 rfl rfl ?_
    refine z_icmp_ge dX6_ticks_35 hw (fun hw => ?_) (fun hw => ?_)
    · refine z_aload_n dX6_ticks_51 rfl rfl ?_
      refine z_getr dX6_ticks_52 fX6_30 zg0 zkX6_1 zr0_1 ?_
      refine z_geti dX6_ticks_55 fX6_85 (zgC0 (Or.inl rfl)) zkX0_13 ?_
      exact z_iret dX6_ticks_58 (Nat.le_refl _) (Nat.le_refl _) rfl ⟨rfl, ⟨_, rfl⟩, hw⟩
    · refine z_aload_n dX6_ticks_38 rfl rfl ?_
      refine z_getr dX6_ticks_39 fX6_30 zg0 zkX6_1 zr0_1 ?_
      refine z_callVv dX6_ticks_42 mX6_98 (c_X0_tick zH10 hw) (zgC0 (Or.inl rfl)) rfl rfl (Nat.le_of_ble_eq_true rfl) ⟨Nat.le_of_ble_eq_true rfl, Nat.le_of_ble_eq_true rfl⟩ ⟨Nat.le_refl _, Nat.le_refl _⟩ (fun _ hw => ?_)
      refine z_iinc dX6_ticks_45 rfl zi1 (Nat.le_of_ble_eq_true rfl) ?_
      refine z_goto dX6_ticks_48 ?_
      exact z_to (hK33 _ _ _ hw) ⟨rfl, rfl, rfl, trivial⟩
set_option maxHeartbeats 4000000 in
set_option maxRecDepth 100000 in
theorem c_X6_ticks {b : Nat} {x1 : Int32} {σ : zS} {Q : Int32 → zS → Prop} (hw : w_X6_ticks x1 σ Q) : zAC yX6_ticks cX6_ticks 3 (some .int) { frames := 6, cells := 0, slots := 0, locals := 129 } [.ref 0, .int x1] zΓ (zρ b) σ (zNp Q) := by
  refine z_entry (own := RX6) (ini := false) (plainFor_of_name pnX6) rfl (fun h => by cases h) (Nat.le_of_ble_eq_true rfl) ?_
  unfold w_X6_ticks at hw
  refine z_iload_n dX6_ticks_0 rfl rfl ?_
  refine z_iconst dX6_ticks_1 zi1 ?_
  refine z_sipush dX6_ticks_2 zsp200 ?_
  refine z_callS dX6_ticks_5 mX6_58 (c_X6_within  hw) rfl rfl (Nat.le_of_ble_eq_true rfl) ⟨Nat.le_of_ble_eq_true rfl, Nat.le_of_ble_eq_true rfl⟩ ⟨Nat.le_refl _, Nat.le_refl _⟩ (fun _ _ hw => ?_)
  refine z_if_ne dX6_ticks_8 hw (fun hw => ?_) (fun hw => ?_)
  · refine z_aload_n dX6_ticks_13 rfl rfl ?_
    refine z_getr dX6_ticks_14 fX6_30 zg0 zkX6_1 zr0_1 ?_
    refine z_geti dX6_ticks_17 fX6_85 (zgC0 (Or.inl rfl)) zkX0_13 ?_
    refine z_iload_n dX6_ticks_20 rfl rfl ?_
    refine z_iadd dX6_ticks_21 ?_
    refine z_sipush dX6_ticks_22 zsp2000 ?_
    refine z_icmp_le dX6_ticks_25 hw (fun hw => ?_) (fun hw => ?_)
    · refine z_iconst dX6_ticks_31 zi0 ?_
      refine z_istore_n dX6_ticks_32 rfl (Nat.le_of_ble_eq_true rfl) ?_
      obtain ⟨n, hw⟩ := hw
      exact z_to (l_X6_ticks_33   n _ _ _ hw) ⟨rfl, rfl, rfl, trivial⟩
    · refine z_bipush dX6_ticks_28 zbpm3 ?_
      exact z_iret dX6_ticks_30 (Nat.le_refl _) (Nat.le_refl _) rfl ⟨rfl, ⟨_, rfl⟩, hw⟩
  · refine z_iconst dX6_ticks_11 zim1 ?_
    exact z_iret dX6_ticks_12 (Nat.le_refl _) (Nat.le_refl _) rfl ⟨rfl, ⟨_, rfl⟩, hw⟩
def w_X6_stop  (x1 : Int32) (σ : zS) (Q : Int32 → zS → Prop) : Prop := ((x1 = 0 ∨ x1 = 1) ∧ zlet (zI σ 10 16 x1) fun t1 => (((σ.1 10 16) = 0 → Q (0 : Int32) t1) ∧ (¬ ((σ.1 10 16) = 0) → Q (1 : Int32) t1)))
set_option maxHeartbeats 4000000 in
set_option maxRecDepth 100000 in
theorem c_X6_stop {b : Nat} {x1 : Int32} {σ : zS} {Q : Int32 → zS → Prop} (hw : w_X6_stop x1 σ Q) : zAC yX6_stop cX6_stop 3 (some .int) { frames := 0, cells := 0, slots := 0, locals := 0 } [.ref 0, .int x1] zΓ (zρ b) σ (zNp Q) := by
  refine z_entry (own := RX6) (ini := false) (plainFor_of_name pnX6) rfl (fun h => by cases h) (Nat.le_of_ble_eq_true rfl) ?_
  unfold w_X6_stop at hw
  refine z_aload_n dX6_stop_0 rfl rfl ?_
  refine z_getr dX6_stop_1 fX6_30 zg0 zkX6_1 zr0_1 ?_
  refine z_geti dX6_stop_4 fX6_101 (zgC0 (Or.inl rfl)) zkX0_16 ?_
  refine z_istore_n dX6_stop_7 rfl (Nat.le_of_ble_eq_true rfl) ?_
  refine z_aload_n dX6_stop_8 rfl rfl ?_
  refine z_getr dX6_stop_9 fX6_30 zg0 zkX6_1 zr0_1 ?_
  refine z_iload_n dX6_stop_12 rfl rfl ?_
  refine z_putzL dX6_stop_13 fX6_101 (zgC0 (Or.inl rfl)) zkX0_16 hw (fun hw => ?_)
  refine z_iload_n dX6_stop_16 rfl rfl ?_
  refine z_if_eq dX6_stop_17 hw (fun hw => ?_) (fun hw => ?_)
  · refine z_iconst dX6_stop_24 zi0 ?_
    exact z_iret dX6_stop_25 (Nat.le_refl _) (Nat.le_refl _) rfl ⟨rfl, ⟨_, rfl⟩, hw⟩
  · refine z_iconst dX6_stop_20 zi1 ?_
    refine z_goto dX6_stop_21 ?_
    exact z_iret dX6_stop_25 (Nat.le_refl _) (Nat.le_refl _) rfl ⟨rfl, ⟨_, rfl⟩, hw⟩
def w_X6_shut  (x1 x2 : Int32) (σ : zS) (Q : Int32 → zS → Prop) : Prop := (w_X6_isFloor x1 σ fun v1 t2 => ((v1 = 0 → Q (-1 : Int32) t2) ∧ (¬ (v1 = 0) → (vp_in x1 8 ∧ (vp_in x1 8 ∧ (x2 = 0 ∨ x2 = 1) ∧ zlet (zA t2 ((10 + 19)) x1.toNatClampNeg x2) fun t3 => (((t2.2 ((10 + 19)) x1.toNatClampNeg) = 0 → Q (0 : Int32) t3) ∧ (¬ ((t2.2 ((10 + 19)) x1.toNatClampNeg) = 0) → Q (1 : Int32) t3)))))))
set_option maxHeartbeats 4000000 in
set_option maxRecDepth 100000 in
theorem c_X6_shut {b : Nat} {x1 x2 : Int32} {σ : zS} {Q : Int32 → zS → Prop} (hw : w_X6_shut x1 x2 σ Q) : zAC yX6_shut cX6_shut 4 (some .int) { frames := 2, cells := 0, slots := 0, locals := 43 } [.ref 0, .int x1, .int x2] zΓ (zρ b) σ (zNp Q) := by
  refine z_entry (own := RX6) (ini := false) (plainFor_of_name pnX6) rfl (fun h => by cases h) (Nat.le_of_ble_eq_true rfl) ?_
  unfold w_X6_shut at hw
  refine z_aload_n dX6_shut_0 rfl rfl ?_
  refine z_iload_n dX6_shut_1 rfl rfl ?_
  refine z_callV dX6_shut_2 mX6_81 (c_X6_isFloor  hw) zg0 rfl rfl (Nat.le_of_ble_eq_true rfl) ⟨Nat.le_of_ble_eq_true rfl, Nat.le_of_ble_eq_true rfl⟩ ⟨Nat.le_refl _, Nat.le_refl _⟩ (fun _ _ hw => ?_)
  refine z_if_ne dX6_shut_5 hw (fun hw => ?_) (fun hw => ?_)
  · refine z_aload_n dX6_shut_10 rfl rfl ?_
    refine z_getr dX6_shut_11 fX6_30 zg0 zkX6_1 zr0_1 ?_
    refine z_getr dX6_shut_14 fX6_105 (zgC0 (Or.inl rfl)) zkX0_9 (zrC9 (Or.inl rfl)) ?_
    refine z_iload_n dX6_shut_17 rfl rfl ?_
    refine z_zald dX6_shut_18 (zgC19 (Or.inl rfl)) hw (fun hw => ?_)
    refine z_istore_n dX6_shut_19 rfl (Nat.le_of_ble_eq_true rfl) ?_
    refine z_aload_n dX6_shut_20 rfl rfl ?_
    refine z_getr dX6_shut_21 fX6_30 zg0 zkX6_1 zr0_1 ?_
    refine z_getr dX6_shut_24 fX6_105 (zgC0 (Or.inl rfl)) zkX0_9 (zrC9 (Or.inl rfl)) ?_
    refine z_iload_n dX6_shut_27 rfl rfl ?_
    refine z_iload_n dX6_shut_28 rfl rfl ?_
    refine z_zastL dX6_shut_29 (zgC19 (Or.inl rfl)) hw (fun hw => ?_)
    refine z_iload_n dX6_shut_30 rfl rfl ?_
    refine z_if_eq dX6_shut_31 hw (fun hw => ?_) (fun hw => ?_)
    · refine z_iconst dX6_shut_38 zi0 ?_
      exact z_iret dX6_shut_39 (Nat.le_refl _) (Nat.le_refl _) rfl ⟨rfl, ⟨_, rfl⟩, hw⟩
    · refine z_iconst dX6_shut_34 zi1 ?_
      refine z_goto dX6_shut_35 ?_
      exact z_iret dX6_shut_39 (Nat.le_refl _) (Nat.le_refl _) rfl ⟨rfl, ⟨_, rfl⟩, hw⟩
  · refine z_iconst dX6_shut_8 zim1 ?_
    exact z_iret dX6_shut_9 (Nat.le_refl _) (Nat.le_refl _) rfl ⟨rfl, ⟨_, rfl⟩, hw⟩
def w_X0_riders_J30 (r : Nat) (Q : Int32 → zS → Prop) (K4 : Int32 → Int32 → Int32 → zS → Prop) (x1 x2 x3 : Int32) (σ : zS) : Prop := K4 x1 x2 ((x3 + (1 : Int32))) σ
def w_X0_riders_L4 (r : Nat) (Q : Int32 → zS → Prop)  : Nat → Int32 → Int32 → Int32 → zS → Prop
  | 0, _, _, _, _ => False
  | n + 1, x1, x2, x3, σ => (((σ.1 1 7) ≤ x3 → Q x2 σ) ∧ (¬ ((σ.1 1 7) ≤ x3) → (w_X0_isIn r x3 x1 σ fun v1 t2 => ((v1 = 0 → w_X0_riders_J30 r Q (fun a1 a2 a3 aσ => w_X0_riders_L4 r Q  n a1 a2 a3 aσ) x1 x2 x3  t2) ∧ (¬ (v1 = 0) → w_X0_riders_J30 r Q (fun a1 a2 a3 aσ => w_X0_riders_L4 r Q  n a1 a2 a3 aσ) x1 ((x2 ||| ((1 : Int32) <<< (x3 &&& 31)))) x3  t2)))))
def w_X0_riders (r : Nat) (x1 : Int32) (σ : zS) (Q : Int32 → zS → Prop) : Prop := ∃ m4, w_X0_riders_L4 r Q  m4 x1 ((0 : Int32)) ((0 : Int32)) σ
set_option maxHeartbeats 4000000 in
set_option maxRecDepth 100000 in
theorem j_X0_riders_30 {r b : Nat} (hr : zHr r b) {Q : Int32 → zS → Prop} {K4 : Int32 → Int32 → Int32 → zS → Prop} (hK4 : ∀ (a1 a2 a3 : Int32) (σ : zS), K4 a1 a2 a3 σ → zAW RX0 cX0_riders 4 (some .int) false { frames := 1, cells := 0, slots := 0, locals := 22 } zΓ.length (zN zΓ (zρ b) Q) 4 [(0, .ref r), (1, .int a1), (2, .int a2), (3, .int a3)] [] zΓ (zρ b) σ 0 0) {x1 x2 x3 : Int32} {σ : zS} (hw : w_X0_riders_J30 r Q K4 x1 x2 x3 σ) : zAW RX0 cX0_riders 4 (some .int) false { frames := 1, cells := 0, slots := 0, locals := 22 } zΓ.length (zN zΓ (zρ b) Q) 30 [(0, .ref r), (1, .int x1), (2, .int x2), (3, .int x3)] [] zΓ (zρ b) σ 0 0 := by
  have h0 := zHw hr
  unfold w_X0_riders_J30 at hw
  refine z_iinc dX0_riders_30 rfl zi1 (Nat.le_of_ble_eq_true rfl) ?_
  refine z_goto dX0_riders_33 ?_
  exact z_to (hK4 _ _ _ _ hw) ⟨rfl, rfl, rfl, rfl, trivial⟩
set_option maxHeartbeats 4000000 in
set_option maxRecDepth 100000 in
theorem l_X0_riders_4 {r b : Nat} (hr : zHr r b) {Q : Int32 → zS → Prop}   : ∀ (n : Nat) (x1 x2 x3 : Int32) (σ : zS), w_X0_riders_L4 r Q  n x1 x2 x3 σ → zAW RX0 cX0_riders 4 (some .int) false { frames := 1, cells := 0, slots := 0, locals := 22 } zΓ.length (zN zΓ (zρ b) Q) 4 [(0, .ref r), (1, .int x1), (2, .int x2), (3, .int x3)] [] zΓ (zρ b) σ 0 0 := by
  intro n
  induction n with
  | zero => intro x1 x2 x3 σ hw; exact hw.elim
  | succ n hK4 =>
    intro x1 x2 x3 σ hw
    have h0 := zHw hr
    rw [w_X0_riders_L4] at hw
    refine z_iload_n dX0_riders_4 rfl rfl ?_
    refine z_aload_n dX0_riders_5 rfl rfl ?_
    refine z_getr dX0_riders_6 fX0_42 (zgC0 h0) zkX0_0 (zrC0 h0) ?_
    refine z_geti dX0_riders_9 fX0_128 zg1 zkX4_7 ?_
    refine z_icmp_ge dX0_riders_12 hw (fun hw => ?_) (fun hw => ?_)
    · refine z_iload_n dX0_riders_36 rfl rfl ?_
      exact z_iret dX0_riders_37 (Nat.le_refl _) (Nat.le_refl _) rfl ⟨rfl, rfl, hw⟩
    · refine z_aload_n dX0_riders_15 rfl rfl ?_
      refine z_iload_n dX0_riders_16 rfl rfl ?_
      refine z_iload_n dX0_riders_17 rfl rfl ?_
      refine z_callV dX0_riders_18 mX0_133 (c_X0_isIn hr hw) (zgC0 h0) rfl rfl (Nat.le_of_ble_eq_true rfl) ⟨Nat.le_of_ble_eq_true rfl, Nat.le_of_ble_eq_true rfl⟩ ⟨Nat.le_refl _, Nat.le_refl _⟩ (fun _ _ hw => ?_)
      refine z_if_eq dX0_riders_21 hw (fun hw => ?_) (fun hw => ?_)
      · exact z_to (j_X0_riders_30 hr hK4 hw) ⟨rfl, rfl, rfl, rfl, trivial⟩
      · refine z_iload_n dX0_riders_24 rfl rfl ?_
        refine z_iconst dX0_riders_25 zi1 ?_
        refine z_iload_n dX0_riders_26 rfl rfl ?_
        refine z_ishl dX0_riders_27 ?_
        refine z_ior dX0_riders_28 ?_
        refine z_istore_n dX0_riders_29 rfl (Nat.le_of_ble_eq_true rfl) ?_
        exact z_to (j_X0_riders_30 hr hK4 hw) ⟨rfl, rfl, rfl, rfl, trivial⟩
set_option maxHeartbeats 4000000 in
set_option maxRecDepth 100000 in
theorem c_X0_riders {r b : Nat} (hr : zHr r b) {x1 : Int32} {σ : zS} {Q : Int32 → zS → Prop} (hw : w_X0_riders r x1 σ Q) : zAC yX0_riders cX0_riders 4 (some .int) { frames := 1, cells := 0, slots := 0, locals := 22 } [.ref r, .int x1] zΓ (zρ b) σ (zN zΓ (zρ b) Q) := by
  have h0 := zHw hr
  refine z_entry (own := RX0) (ini := false) (plainFor_of_name pnX0) rfl (fun h => by cases h) (Nat.le_of_ble_eq_true rfl) ?_
  unfold w_X0_riders at hw
  refine z_iconst dX0_riders_0 zi0 ?_
  refine z_istore_n dX0_riders_1 rfl (Nat.le_of_ble_eq_true rfl) ?_
  refine z_iconst dX0_riders_2 zi0 ?_
  refine z_istore_n dX0_riders_3 rfl (Nat.le_of_ble_eq_true rfl) ?_
  obtain ⟨n, hw⟩ := hw
  exact z_to (l_X0_riders_4 hr  n _ _ _ _ hw) ⟨rfl, rfl, rfl, rfl, trivial⟩
def w_X6_box  (x1 x2 : Int32) (σ : zS) (Q : Int32 → zS → Prop) : Prop := (w_X6_within x1 ((0 : Int32)) (((σ.1 9 3) - (1 : Int32))) σ fun v1 t2 => ((v1 = 0 → Q (-1 : Int32) t2) ∧ (¬ (v1 = 0) → (w_X2_slot x1 ((t2.1 10 14)) t2 fun v3 t4 => ((x2 = (0 : Int32) → (w_X2_place x1 ((t4.1 10 14)) t4 fun v5 t6 => Q v5 t6)) ∧ (¬ (x2 = (0 : Int32)) → ((x2 = (1 : Int32) → (w_X2_floorOrEnd v3 t4 fun v8 t9 => Q v8 t9)) ∧ (¬ (x2 = (1 : Int32)) → ((x2 = (2 : Int32) → (w_X2_isAtFloor v3 t4 fun v11 t12 => ((v11 = 0 → Q (-4 : Int32) t12) ∧ (¬ (v11 = 0) → (w_X2_isUp v3 t12 fun v13 t14 => ((v13 = 0 → Q (0 : Int32) t14) ∧ (¬ (v13 = 0) → Q (1 : Int32) t14))))))) ∧ (¬ (x2 = (2 : Int32)) → ((x2 = (3 : Int32) → (vp_in x1 18 ∧ Q (t4.2 ((10 + 15)) x1.toNatClampNeg) t4)) ∧ (¬ (x2 = (3 : Int32)) → ((x2 = (4 : Int32) → (w_X0_riders 10 x1 t4 fun v17 t18 => Q v17 t18)) ∧ (¬ (x2 = (4 : Int32)) → Q (-1 : Int32) t4))))))))))))))
set_option maxHeartbeats 4000000 in
set_option maxRecDepth 100000 in
theorem c_X6_box {b : Nat} {x1 x2 : Int32} {σ : zS} {Q : Int32 → zS → Prop} (hw : w_X6_box x1 x2 σ Q) : zAC yX6_box cX6_box 4 (some .int) { frames := 2, cells := 0, slots := 0, locals := 45 } [.ref 0, .int x1, .int x2] zΓ (zρ b) σ (zNp Q) := by
  refine z_entry (own := RX6) (ini := false) (plainFor_of_name pnX6) rfl (fun h => by cases h) (Nat.le_of_ble_eq_true rfl) ?_
  unfold w_X6_box at hw
  refine z_iload_n dX6_box_0 rfl rfl ?_
  refine z_iconst dX6_box_1 zi0 ?_
  refine z_aload_n dX6_box_2 rfl rfl ?_
  refine z_getr dX6_box_3 fX6_21 zg0 zkX6_6 zr0_6 ?_
  refine z_geti dX6_box_6 fX6_78 zg9 zkX2_3 ?_
  refine z_iconst dX6_box_9 zi1 ?_
  refine z_isub dX6_box_10 ?_
  refine z_callS dX6_box_11 mX6_58 (c_X6_within  hw) rfl rfl (Nat.le_of_ble_eq_true rfl) ⟨Nat.le_of_ble_eq_true rfl, Nat.le_of_ble_eq_true rfl⟩ ⟨Nat.le_refl _, Nat.le_refl _⟩ (fun _ _ hw => ?_)
  refine z_if_ne dX6_box_14 hw (fun hw => ?_) (fun hw => ?_)
  · refine z_aload_n dX6_box_19 rfl rfl ?_
    refine z_getr dX6_box_20 fX6_21 zg0 zkX6_6 zr0_6 ?_
    refine z_iload_n dX6_box_23 rfl rfl ?_
    refine z_aload_n dX6_box_24 rfl rfl ?_
    refine z_getr dX6_box_25 fX6_30 zg0 zkX6_1 zr0_1 ?_
    refine z_geti dX6_box_28 fX6_109 (zgC0 (Or.inl rfl)) zkX0_14 ?_
    refine z_callV dX6_box_31 mX6_112 (c_X2_slot  hw) zg9 rfl rfl (Nat.le_of_ble_eq_true rfl) ⟨Nat.le_of_ble_eq_true rfl, Nat.le_of_ble_eq_true rfl⟩ ⟨Nat.le_refl _, Nat.le_refl _⟩ (fun _ _ hw => ?_)
    refine z_istore_n dX6_box_34 rfl (Nat.le_of_ble_eq_true rfl) ?_
    refine z_iload_n dX6_box_35 rfl rfl ?_
    by_cases hs7 : x2 = (0 : Int32)
    · refine z_tabIn (tgt := 72) (off := 36) dX6_box_36 hs7 (by decide) (by decide) (by decide) (by decide) ?_
      have hw := hw.1 hs7
      refine z_aload_n dX6_box_72 rfl rfl ?_
      refine z_getr dX6_box_73 fX6_21 zg0 zkX6_6 zr0_6 ?_
      refine z_iload_n dX6_box_76 rfl rfl ?_
      refine z_aload_n dX6_box_77 rfl rfl ?_
      refine z_getr dX6_box_78 fX6_30 zg0 zkX6_1 zr0_1 ?_
      refine z_geti dX6_box_81 fX6_109 (zgC0 (Or.inl rfl)) zkX0_14 ?_
      refine z_callV dX6_box_84 mX6_116 (c_X2_place  hw) zg9 rfl rfl (Nat.le_of_ble_eq_true rfl) ⟨Nat.le_of_ble_eq_true rfl, Nat.le_of_ble_eq_true rfl⟩ ⟨Nat.le_refl _, Nat.le_refl _⟩ (fun _ _ hw => ?_)
      exact z_iret dX6_box_87 (Nat.le_refl _) (Nat.le_refl _) rfl ⟨rfl, ⟨_, rfl⟩, hw⟩
    have hw := hw.2 hs7
    by_cases hs10 : x2 = (1 : Int32)
    · refine z_tabIn (tgt := 88) (off := 52) dX6_box_36 hs10 (by decide) (by decide) (by decide) (by decide) ?_
      have hw := hw.1 hs10
      refine z_aload_n dX6_box_88 rfl rfl ?_
      refine z_getr dX6_box_89 fX6_21 zg0 zkX6_6 zr0_6 ?_
      refine z_iload_n dX6_box_92 rfl rfl ?_
      refine z_callV dX6_box_93 mX6_119 (c_X2_floorOrEnd  hw) zg9 rfl rfl (Nat.le_of_ble_eq_true rfl) ⟨Nat.le_of_ble_eq_true rfl, Nat.le_of_ble_eq_true rfl⟩ ⟨Nat.le_refl _, Nat.le_refl _⟩ (fun _ _ hw => ?_)
      exact z_iret dX6_box_96 (Nat.le_refl _) (Nat.le_refl _) rfl ⟨rfl, ⟨_, rfl⟩, hw⟩
    have hw := hw.2 hs10
    by_cases hs15 : x2 = (2 : Int32)
    · refine z_tabIn (tgt := 97) (off := 61) dX6_box_36 hs15 (by decide) (by decide) (by decide) (by decide) ?_
      have hw := hw.1 hs15
      refine z_aload_n dX6_box_97 rfl rfl ?_
      refine z_getr dX6_box_98 fX6_21 zg0 zkX6_6 zr0_6 ?_
      refine z_iload_n dX6_box_101 rfl rfl ?_
      refine z_callV dX6_box_102 mX6_123 (c_X2_isAtFloor  hw) zg9 rfl rfl (Nat.le_of_ble_eq_true rfl) ⟨Nat.le_of_ble_eq_true rfl, Nat.le_of_ble_eq_true rfl⟩ ⟨Nat.le_refl _, Nat.le_refl _⟩ (fun _ _ hw => ?_)
      refine z_if_eq dX6_box_105 hw (fun hw => ?_) (fun hw => ?_)
      · refine z_bipush dX6_box_127 zbpm4 ?_
        exact z_iret dX6_box_129 (Nat.le_refl _) (Nat.le_refl _) rfl ⟨rfl, ⟨_, rfl⟩, hw⟩
      · refine z_aload_n dX6_box_108 rfl rfl ?_
        refine z_getr dX6_box_109 fX6_21 zg0 zkX6_6 zr0_6 ?_
        refine z_iload_n dX6_box_112 rfl rfl ?_
        refine z_callV dX6_box_113 mX6_126 (c_X2_isUp  hw) zg9 rfl rfl (Nat.le_of_ble_eq_true rfl) ⟨Nat.le_of_ble_eq_true rfl, Nat.le_of_ble_eq_true rfl⟩ ⟨Nat.le_refl _, Nat.le_refl _⟩ (fun _ _ hw => ?_)
        refine z_if_eq dX6_box_116 hw (fun hw => ?_) (fun hw => ?_)
        · refine z_iconst dX6_box_123 zi0 ?_
          refine z_goto dX6_box_124 ?_
          exact z_iret dX6_box_129 (Nat.le_refl _) (Nat.le_refl _) rfl ⟨rfl, ⟨_, rfl⟩, hw⟩
        · refine z_iconst dX6_box_119 zi1 ?_
          refine z_goto dX6_box_120 ?_
          exact z_iret dX6_box_129 (Nat.le_refl _) (Nat.le_refl _) rfl ⟨rfl, ⟨_, rfl⟩, hw⟩
    have hw := hw.2 hs15
    by_cases hs16 : x2 = (3 : Int32)
    · refine z_tabIn (tgt := 130) (off := 94) dX6_box_36 hs16 (by decide) (by decide) (by decide) (by decide) ?_
      have hw := hw.1 hs16
      refine z_aload_n dX6_box_130 rfl rfl ?_
      refine z_getr dX6_box_131 fX6_30 zg0 zkX6_1 zr0_1 ?_
      refine z_getr dX6_box_134 fX6_129 (zgC0 (Or.inl rfl)) zkX0_7 (zrC7 (Or.inl rfl)) ?_
      refine z_iload_n dX6_box_137 rfl rfl ?_
      refine z_iald dX6_box_138 (zgC15 (Or.inl rfl)) hw (fun hw => ?_)
      exact z_iret dX6_box_139 (Nat.le_refl _) (Nat.le_refl _) rfl ⟨rfl, ⟨_, rfl⟩, hw⟩
    have hw := hw.2 hs16
    by_cases hs19 : x2 = (4 : Int32)
    · refine z_tabIn (tgt := 140) (off := 104) dX6_box_36 hs19 (by decide) (by decide) (by decide) (by decide) ?_
      have hw := hw.1 hs19
      refine z_aload_n dX6_box_140 rfl rfl ?_
      refine z_getr dX6_box_141 fX6_30 zg0 zkX6_1 zr0_1 ?_
      refine z_iload_n dX6_box_144 rfl rfl ?_
      refine z_callV dX6_box_145 mX6_133 (c_X0_riders zH10 hw) (zgC0 (Or.inl rfl)) rfl rfl (Nat.le_of_ble_eq_true rfl) ⟨Nat.le_of_ble_eq_true rfl, Nat.le_of_ble_eq_true rfl⟩ ⟨Nat.le_refl _, Nat.le_refl _⟩ (fun _ _ hw => ?_)
      exact z_iret dX6_box_148 (Nat.le_refl _) (Nat.le_refl _) rfl ⟨rfl, ⟨_, rfl⟩, hw⟩
    have hw := hw.2 hs19
    have hs7 := zne (0 : Int32) (0) (by decide) hs7
    have hs10 := zne (1 : Int32) (1) (by decide) hs10
    have hs15 := zne (2 : Int32) (2) (by decide) hs15
    have hs16 := zne (3 : Int32) (3) (by decide) hs16
    have hs19 := zne (4 : Int32) (4) (by decide) hs19
    refine z_tabOut (tgt := 149) dX6_box_36 (by omega) (by decide) ?_
    refine z_iconst dX6_box_149 zim1 ?_
    exact z_iret dX6_box_150 (Nat.le_refl _) (Nat.le_refl _) rfl ⟨rfl, ⟨_, rfl⟩, hw⟩
  · refine z_iconst dX6_box_17 zim1 ?_
    exact z_iret dX6_box_18 (Nat.le_refl _) (Nat.le_refl _) rfl ⟨rfl, ⟨_, rfl⟩, hw⟩
def w_X6_left  (σ : zS) (Q : Int32 → zS → Prop) : Prop := (w_X2_ticksLeft ((σ.1 10 14)) ((σ.1 10 11)) σ fun v1 t2 => Q v1 t2)
set_option maxHeartbeats 4000000 in
set_option maxRecDepth 100000 in
theorem c_X6_left {b : Nat} {σ : zS} {Q : Int32 → zS → Prop} (hw : w_X6_left  σ Q) : zAC yX6_left cX6_left 1 (some .int) { frames := 1, cells := 0, slots := 0, locals := 23 } [.ref 0] zΓ (zρ b) σ (zNp Q) := by
  refine z_entry (own := RX6) (ini := false) (plainFor_of_name pnX6) rfl (fun h => by cases h) (Nat.le_of_ble_eq_true rfl) ?_
  unfold w_X6_left at hw
  refine z_aload_n dX6_left_0 rfl rfl ?_
  refine z_getr dX6_left_1 fX6_21 zg0 zkX6_6 zr0_6 ?_
  refine z_aload_n dX6_left_4 rfl rfl ?_
  refine z_getr dX6_left_5 fX6_30 zg0 zkX6_1 zr0_1 ?_
  refine z_geti dX6_left_8 fX6_109 (zgC0 (Or.inl rfl)) zkX0_14 ?_
  refine z_aload_n dX6_left_11 rfl rfl ?_
  refine z_getr dX6_left_12 fX6_30 zg0 zkX6_1 zr0_1 ?_
  refine z_geti dX6_left_15 fX6_95 (zgC0 (Or.inl rfl)) zkX0_11 ?_
  refine z_callV dX6_left_18 mX6_136 (c_X2_ticksLeft  hw) zg9 rfl rfl (Nat.le_of_ble_eq_true rfl) ⟨Nat.le_of_ble_eq_true rfl, Nat.le_of_ble_eq_true rfl⟩ ⟨Nat.le_refl _, Nat.le_refl _⟩ (fun _ _ hw => ?_)
  exact z_iret dX6_left_21 (Nat.le_refl _) (Nat.le_refl _) rfl ⟨rfl, ⟨_, rfl⟩, hw⟩
def w_X0_spot_J40 (r : Nat) (Q : Int32 → zS → Prop)  (x1 : Int32) (σ : zS) : Prop := (vp_in x1 30 ∧ Q (σ.2 ((r + 2)) x1.toNatClampNeg) σ)
def w_X0_spot (r : Nat) (x1 : Int32) (σ : zS) (Q : Int32 → zS → Prop) : Prop := (vp_in x1 30 ∧ (((σ.2 ((r + 1)) x1.toNatClampNeg) = (4 : Int32) → (vp_in x1 30 ∧ Q (σ.2 4 x1.toNatClampNeg) σ)) ∧ (¬ ((σ.2 ((r + 1)) x1.toNatClampNeg) = (4 : Int32)) → (vp_in x1 30 ∧ (((σ.2 ((r + 1)) x1.toNatClampNeg) = (1 : Int32) → w_X0_spot_J40 r Q  x1  σ) ∧ (¬ ((σ.2 ((r + 1)) x1.toNatClampNeg) = (1 : Int32)) → (vp_in x1 30 ∧ (((σ.2 ((r + 1)) x1.toNatClampNeg) = (2 : Int32) → w_X0_spot_J40 r Q  x1  σ) ∧ (¬ ((σ.2 ((r + 1)) x1.toNatClampNeg) = (2 : Int32)) → Q (-4 : Int32) σ)))))))))
set_option maxHeartbeats 4000000 in
set_option maxRecDepth 100000 in
theorem j_X0_spot_40 {r b : Nat} (hr : zHr r b) {Q : Int32 → zS → Prop}   {x1 : Int32} {σ : zS} (hw : w_X0_spot_J40 r Q  x1 σ) : zAW RX0 cX0_spot 2 (some .int) false { frames := 0, cells := 0, slots := 0, locals := 0 } zΓ.length (zN zΓ (zρ b) Q) 40 [(0, .ref r), (1, .int x1)] [] zΓ (zρ b) σ 0 0 := by
  have h0 := zHw hr
  unfold w_X0_spot_J40 at hw
  refine z_aload_n dX0_spot_40 rfl rfl ?_
  refine z_getr dX0_spot_41 fX0_15 (zgC0 h0) zkX0_2 (zrC2 h0) ?_
  refine z_iload_n dX0_spot_44 rfl rfl ?_
  refine z_iald dX0_spot_45 (zgC2 h0) hw (fun hw => ?_)
  refine z_goto dX0_spot_46 ?_
  exact z_iret dX0_spot_51 (Nat.le_refl _) (Nat.le_refl _) rfl ⟨rfl, rfl, hw⟩
set_option maxHeartbeats 4000000 in
set_option maxRecDepth 100000 in
theorem c_X0_spot {r b : Nat} (hr : zHr r b) {x1 : Int32} {σ : zS} {Q : Int32 → zS → Prop} (hw : w_X0_spot r x1 σ Q) : zAC yX0_spot cX0_spot 2 (some .int) { frames := 0, cells := 0, slots := 0, locals := 0 } [.ref r, .int x1] zΓ (zρ b) σ (zN zΓ (zρ b) Q) := by
  have h0 := zHw hr
  refine z_entry (own := RX0) (ini := false) (plainFor_of_name pnX0) rfl (fun h => by cases h) (Nat.le_of_ble_eq_true rfl) ?_
  unfold w_X0_spot at hw
  refine z_aload_n dX0_spot_0 rfl rfl ?_
  refine z_getr dX0_spot_1 fX0_9 (zgC0 h0) zkX0_1 (zrC1 h0) ?_
  refine z_iload_n dX0_spot_4 rfl rfl ?_
  refine z_iald dX0_spot_5 (zgC1 h0) hw (fun hw => ?_)
  refine z_iconst dX0_spot_6 zi4 ?_
  refine z_icmp_ne dX0_spot_7 hw (fun hw => ?_) (fun hw => ?_)
  · refine z_aload_n dX0_spot_20 rfl rfl ?_
    refine z_getr dX0_spot_21 fX0_9 (zgC0 h0) zkX0_1 (zrC1 h0) ?_
    refine z_iload_n dX0_spot_24 rfl rfl ?_
    refine z_iald dX0_spot_25 (zgC1 h0) hw (fun hw => ?_)
    refine z_iconst dX0_spot_26 zi1 ?_
    refine z_icmp_eq dX0_spot_27 hw (fun hw => ?_) (fun hw => ?_)
    · exact z_to (j_X0_spot_40 hr  hw) ⟨rfl, rfl, trivial⟩
    · refine z_aload_n dX0_spot_30 rfl rfl ?_
      refine z_getr dX0_spot_31 fX0_9 (zgC0 h0) zkX0_1 (zrC1 h0) ?_
      refine z_iload_n dX0_spot_34 rfl rfl ?_
      refine z_iald dX0_spot_35 (zgC1 h0) hw (fun hw => ?_)
      refine z_iconst dX0_spot_36 zi2 ?_
      refine z_icmp_ne dX0_spot_37 hw (fun hw => ?_) (fun hw => ?_)
      · refine z_bipush dX0_spot_49 zbpm4 ?_
        exact z_iret dX0_spot_51 (Nat.le_refl _) (Nat.le_refl _) rfl ⟨rfl, rfl, hw⟩
      · exact z_to (j_X0_spot_40 hr  hw) ⟨rfl, rfl, trivial⟩
  · refine z_aload_n dX0_spot_10 rfl rfl ?_
    refine z_getr dX0_spot_11 fX0_42 (zgC0 h0) zkX0_0 (zrC0 h0) ?_
    refine z_getr dX0_spot_14 fX0_179 zg1 zkX4_2 zr1_2 ?_
    refine z_iload_n dX0_spot_17 rfl rfl ?_
    refine z_iald dX0_spot_18 zg4 hw (fun hw => ?_)
    exact z_iret dX0_spot_19 (Nat.le_refl _) (Nat.le_refl _) rfl ⟨rfl, rfl, hw⟩
def w_X0_costOf_J44 (r : Nat) (Q : Int32 → zS → Prop)  (x1 s0 : Int32) (σ : zS) : Prop := (vp_in x1 30 ∧ Q (s0 - (σ.2 2 x1.toNatClampNeg)) σ)
def w_X0_costOf_J27 (r : Nat) (Q : Int32 → zS → Prop)  (x1 s0 : Int32) (σ : zS) : Prop := ((s0 = 0 → w_X0_costOf_J44 r Q  x1 ((1000 : Int32)) σ) ∧ (¬ (s0 = 0) → (vp_in x1 30 ∧ w_X0_costOf_J44 r Q  x1 ((σ.2 ((r + 3)) x1.toNatClampNeg)) σ)))
def w_X0_costOf_J26 (r : Nat) (Q : Int32 → zS → Prop)  (x1 : Int32) (σ : zS) : Prop := w_X0_costOf_J27 r Q  x1 ((0 : Int32)) σ
def w_X0_costOf (r : Nat) (x1 : Int32) (σ : zS) (Q : Int32 → zS → Prop) : Prop := (vp_in x1 30 ∧ (((σ.2 ((r + 1)) x1.toNatClampNeg) = (4 : Int32) → (vp_in x1 30 ∧ (((1000 : Int32) ≤ (σ.2 ((r + 3)) x1.toNatClampNeg) → w_X0_costOf_J26 r Q  x1  σ) ∧ (¬ ((1000 : Int32) ≤ (σ.2 ((r + 3)) x1.toNatClampNeg)) → w_X0_costOf_J27 r Q  x1 ((1 : Int32)) σ)))) ∧ (¬ ((σ.2 ((r + 1)) x1.toNatClampNeg) = (4 : Int32)) → w_X0_costOf_J26 r Q  x1  σ)))
set_option maxHeartbeats 4000000 in
set_option maxRecDepth 100000 in
theorem j_X0_costOf_44 {r b : Nat} (hr : zHr r b) {Q : Int32 → zS → Prop}   {x1 s0 : Int32} {σ : zS} (hw : w_X0_costOf_J44 r Q  x1 s0 σ) : zAW RX0 cX0_costOf 3 (some .int) false { frames := 0, cells := 0, slots := 0, locals := 0 } zΓ.length (zN zΓ (zρ b) Q) 44 [(0, .ref r), (1, .int x1)] [.int s0] zΓ (zρ b) σ 0 0 := by
  have h0 := zHw hr
  unfold w_X0_costOf_J44 at hw
  refine z_aload_n dX0_costOf_44 rfl rfl ?_
  refine z_getr dX0_costOf_45 fX0_42 (zgC0 h0) zkX0_0 (zrC0 h0) ?_
  refine z_getr dX0_costOf_48 fX0_137 zg1 zkX4_0 zr1_0 ?_
  refine z_iload_n dX0_costOf_51 rfl rfl ?_
  refine z_iald dX0_costOf_52 zg2 hw (fun hw => ?_)
  refine z_isub dX0_costOf_53 ?_
  exact z_iret dX0_costOf_54 (Nat.le_refl _) (Nat.le_refl _) rfl ⟨rfl, rfl, hw⟩
set_option maxHeartbeats 4000000 in
set_option maxRecDepth 100000 in
theorem j_X0_costOf_27 {r b : Nat} (hr : zHr r b) {Q : Int32 → zS → Prop}   {x1 s0 : Int32} {σ : zS} (hw : w_X0_costOf_J27 r Q  x1 s0 σ) : zAW RX0 cX0_costOf 3 (some .int) false { frames := 0, cells := 0, slots := 0, locals := 0 } zΓ.length (zN zΓ (zρ b) Q) 27 [(0, .ref r), (1, .int x1)] [.int s0] zΓ (zρ b) σ 0 0 := by
  have h0 := zHw hr
  unfold w_X0_costOf_J27 at hw
  refine z_istore_n dX0_costOf_27 rfl (Nat.le_of_ble_eq_true rfl) ?_
  refine z_iload_n dX0_costOf_28 rfl rfl ?_
  refine z_if_eq dX0_costOf_29 hw (fun hw => ?_) (fun hw => ?_)
  · refine z_sipush dX0_costOf_41 zsp1000 ?_
    exact z_to (j_X0_costOf_44 hr  hw) ⟨rfl, rfl, trivial⟩
  · refine z_aload_n dX0_costOf_32 rfl rfl ?_
    refine z_getr dX0_costOf_33 fX0_18 (zgC0 h0) zkX0_3 (zrC3 h0) ?_
    refine z_iload_n dX0_costOf_36 rfl rfl ?_
    refine z_iald dX0_costOf_37 (zgC3 h0) hw (fun hw => ?_)
    refine z_goto dX0_costOf_38 ?_
    exact z_to (j_X0_costOf_44 hr  hw) ⟨rfl, rfl, trivial⟩
set_option maxHeartbeats 4000000 in
set_option maxRecDepth 100000 in
theorem j_X0_costOf_26 {r b : Nat} (hr : zHr r b) {Q : Int32 → zS → Prop}   {x1 : Int32} {σ : zS} (hw : w_X0_costOf_J26 r Q  x1 σ) : zAW RX0 cX0_costOf 3 (some .int) false { frames := 0, cells := 0, slots := 0, locals := 0 } zΓ.length (zN zΓ (zρ b) Q) 26 [(0, .ref r), (1, .int x1)] [] zΓ (zρ b) σ 0 0 := by
  have h0 := zHw hr
  unfold w_X0_costOf_J26 at hw
  refine z_iconst dX0_costOf_26 zi0 ?_
  exact z_to (j_X0_costOf_27 hr  hw) ⟨rfl, rfl, trivial⟩
set_option maxHeartbeats 4000000 in
set_option maxRecDepth 100000 in
theorem c_X0_costOf {r b : Nat} (hr : zHr r b) {x1 : Int32} {σ : zS} {Q : Int32 → zS → Prop} (hw : w_X0_costOf r x1 σ Q) : zAC yX0_costOf cX0_costOf 3 (some .int) { frames := 0, cells := 0, slots := 0, locals := 0 } [.ref r, .int x1] zΓ (zρ b) σ (zN zΓ (zρ b) Q) := by
  have h0 := zHw hr
  refine z_entry (own := RX0) (ini := false) (plainFor_of_name pnX0) rfl (fun h => by cases h) (Nat.le_of_ble_eq_true rfl) ?_
  unfold w_X0_costOf at hw
  refine z_aload_n dX0_costOf_0 rfl rfl ?_
  refine z_getr dX0_costOf_1 fX0_9 (zgC0 h0) zkX0_1 (zrC1 h0) ?_
  refine z_iload_n dX0_costOf_4 rfl rfl ?_
  refine z_iald dX0_costOf_5 (zgC1 h0) hw (fun hw => ?_)
  refine z_iconst dX0_costOf_6 zi4 ?_
  refine z_icmp_ne dX0_costOf_7 hw (fun hw => ?_) (fun hw => ?_)
  · exact z_to (j_X0_costOf_26 hr  hw) ⟨rfl, rfl, trivial⟩
  · refine z_aload_n dX0_costOf_10 rfl rfl ?_
    refine z_getr dX0_costOf_11 fX0_18 (zgC0 h0) zkX0_3 (zrC3 h0) ?_
    refine z_iload_n dX0_costOf_14 rfl rfl ?_
    refine z_iald dX0_costOf_15 (zgC3 h0) hw (fun hw => ?_)
    refine z_sipush dX0_costOf_16 zsp1000 ?_
    refine z_icmp_ge dX0_costOf_19 hw (fun hw => ?_) (fun hw => ?_)
    · exact z_to (j_X0_costOf_26 hr  hw) ⟨rfl, rfl, trivial⟩
    · refine z_iconst dX0_costOf_22 zi1 ?_
      refine z_goto dX0_costOf_23 ?_
      exact z_to (j_X0_costOf_27 hr  hw) ⟨rfl, rfl, trivial⟩
def w_X6_about  (x1 x2 : Int32) (σ : zS) (Q : Int32 → zS → Prop) : Prop := (w_X6_within x1 ((0 : Int32)) (((σ.1 1 7) - (1 : Int32))) σ fun v1 t2 => ((v1 = 0 → Q (-1 : Int32) t2) ∧ (¬ (v1 = 0) → ((x2 = (0 : Int32) → (vp_in x1 30 ∧ Q (t2.2 ((10 + 1)) x1.toNatClampNeg) t2)) ∧ (¬ (x2 = (0 : Int32)) → ((x2 = (1 : Int32) → (w_X0_spot 10 x1 t2 fun v4 t5 => Q v4 t5)) ∧ (¬ (x2 = (1 : Int32)) → ((x2 = (2 : Int32) → (vp_in x1 30 ∧ (((t2.2 ((10 + 1)) x1.toNatClampNeg) = (4 : Int32) → (vp_in x1 30 ∧ Q (t2.2 ((10 + 3)) x1.toNatClampNeg) t2)) ∧ (¬ ((t2.2 ((10 + 1)) x1.toNatClampNeg) = (4 : Int32)) → Q (-4 : Int32) t2)))) ∧ (¬ (x2 = (2 : Int32)) → ((x2 = (3 : Int32) → (vp_in x1 30 ∧ Q (t2.2 ((10 + 4)) x1.toNatClampNeg) t2)) ∧ (¬ (x2 = (3 : Int32)) → ((x2 = (4 : Int32) → (w_X0_costOf 10 x1 t2 fun v9 t10 => Q v9 t10)) ∧ (¬ (x2 = (4 : Int32)) → Q (-1 : Int32) t2)))))))))))))
set_option maxHeartbeats 4000000 in
set_option maxRecDepth 100000 in
theorem c_X6_about {b : Nat} {x1 x2 : Int32} {σ : zS} {Q : Int32 → zS → Prop} (hw : w_X6_about x1 x2 σ Q) : zAC yX6_about cX6_about 3 (some .int) { frames := 1, cells := 0, slots := 0, locals := 22 } [.ref 0, .int x1, .int x2] zΓ (zρ b) σ (zNp Q) := by
  refine z_entry (own := RX6) (ini := false) (plainFor_of_name pnX6) rfl (fun h => by cases h) (Nat.le_of_ble_eq_true rfl) ?_
  unfold w_X6_about at hw
  refine z_iload_n dX6_about_0 rfl rfl ?_
  refine z_iconst dX6_about_1 zi0 ?_
  refine z_aload_n dX6_about_2 rfl rfl ?_
  refine z_getr dX6_about_3 fX6_12 zg0 zkX6_0 zr0_0 ?_
  refine z_geti dX6_about_6 fX6_66 zg1 zkX4_7 ?_
  refine z_iconst dX6_about_9 zi1 ?_
  refine z_isub dX6_about_10 ?_
  refine z_callS dX6_about_11 mX6_58 (c_X6_within  hw) rfl rfl (Nat.le_of_ble_eq_true rfl) ⟨Nat.le_of_ble_eq_true rfl, Nat.le_of_ble_eq_true rfl⟩ ⟨Nat.le_refl _, Nat.le_refl _⟩ (fun _ _ hw => ?_)
  refine z_if_ne dX6_about_14 hw (fun hw => ?_) (fun hw => ?_)
  · refine z_iload_n dX6_about_19 rfl rfl ?_
    by_cases hs3 : x2 = (0 : Int32)
    · refine z_tabIn (tgt := 56) (off := 36) dX6_about_20 hs3 (by decide) (by decide) (by decide) (by decide) ?_
      have hw := hw.1 hs3
      refine z_aload_n dX6_about_56 rfl rfl ?_
      refine z_getr dX6_about_57 fX6_30 zg0 zkX6_1 zr0_1 ?_
      refine z_getr dX6_about_60 fX6_139 (zgC0 (Or.inl rfl)) zkX0_1 (zrC1 (Or.inl rfl)) ?_
      refine z_iload_n dX6_about_63 rfl rfl ?_
      refine z_iald dX6_about_64 (zgC1 (Or.inl rfl)) hw (fun hw => ?_)
      exact z_iret dX6_about_65 (Nat.le_refl _) (Nat.le_refl _) rfl ⟨rfl, ⟨_, rfl⟩, hw⟩
    have hw := hw.2 hs3
    by_cases hs6 : x2 = (1 : Int32)
    · refine z_tabIn (tgt := 66) (off := 46) dX6_about_20 hs6 (by decide) (by decide) (by decide) (by decide) ?_
      have hw := hw.1 hs6
      refine z_aload_n dX6_about_66 rfl rfl ?_
      refine z_getr dX6_about_67 fX6_30 zg0 zkX6_1 zr0_1 ?_
      refine z_iload_n dX6_about_70 rfl rfl ?_
      refine z_callV dX6_about_71 mX6_142 (c_X0_spot zH10 hw) (zgC0 (Or.inl rfl)) rfl rfl (Nat.le_of_ble_eq_true rfl) ⟨Nat.le_of_ble_eq_true rfl, Nat.le_of_ble_eq_true rfl⟩ ⟨Nat.le_refl _, Nat.le_refl _⟩ (fun _ _ hw => ?_)
      exact z_iret dX6_about_74 (Nat.le_refl _) (Nat.le_refl _) rfl ⟨rfl, ⟨_, rfl⟩, hw⟩
    have hw := hw.2 hs6
    by_cases hs7 : x2 = (2 : Int32)
    · refine z_tabIn (tgt := 75) (off := 55) dX6_about_20 hs7 (by decide) (by decide) (by decide) (by decide) ?_
      have hw := hw.1 hs7
      refine z_aload_n dX6_about_75 rfl rfl ?_
      refine z_getr dX6_about_76 fX6_30 zg0 zkX6_1 zr0_1 ?_
      refine z_getr dX6_about_79 fX6_139 (zgC0 (Or.inl rfl)) zkX0_1 (zrC1 (Or.inl rfl)) ?_
      refine z_iload_n dX6_about_82 rfl rfl ?_
      refine z_iald dX6_about_83 (zgC1 (Or.inl rfl)) hw (fun hw => ?_)
      refine z_iconst dX6_about_84 zi4 ?_
      refine z_icmp_ne dX6_about_85 hw (fun hw => ?_) (fun hw => ?_)
      · refine z_bipush dX6_about_100 zbpm4 ?_
        exact z_iret dX6_about_102 (Nat.le_refl _) (Nat.le_refl _) rfl ⟨rfl, ⟨_, rfl⟩, hw⟩
      · refine z_aload_n dX6_about_88 rfl rfl ?_
        refine z_getr dX6_about_89 fX6_30 zg0 zkX6_1 zr0_1 ?_
        refine z_getr dX6_about_92 fX6_145 (zgC0 (Or.inl rfl)) zkX0_3 (zrC3 (Or.inl rfl)) ?_
        refine z_iload_n dX6_about_95 rfl rfl ?_
        refine z_iald dX6_about_96 (zgC3 (Or.inl rfl)) hw (fun hw => ?_)
        refine z_goto dX6_about_97 ?_
        exact z_iret dX6_about_102 (Nat.le_refl _) (Nat.le_refl _) rfl ⟨rfl, ⟨_, rfl⟩, hw⟩
    have hw := hw.2 hs7
    by_cases hs8 : x2 = (3 : Int32)
    · refine z_tabIn (tgt := 103) (off := 83) dX6_about_20 hs8 (by decide) (by decide) (by decide) (by decide) ?_
      have hw := hw.1 hs8
      refine z_aload_n dX6_about_103 rfl rfl ?_
      refine z_getr dX6_about_104 fX6_30 zg0 zkX6_1 zr0_1 ?_
      refine z_getr dX6_about_107 fX6_148 (zgC0 (Or.inl rfl)) zkX0_4 (zrC4 (Or.inl rfl)) ?_
      refine z_iload_n dX6_about_110 rfl rfl ?_
      refine z_iald dX6_about_111 (zgC4 (Or.inl rfl)) hw (fun hw => ?_)
      exact z_iret dX6_about_112 (Nat.le_refl _) (Nat.le_refl _) rfl ⟨rfl, ⟨_, rfl⟩, hw⟩
    have hw := hw.2 hs8
    by_cases hs11 : x2 = (4 : Int32)
    · refine z_tabIn (tgt := 113) (off := 93) dX6_about_20 hs11 (by decide) (by decide) (by decide) (by decide) ?_
      have hw := hw.1 hs11
      refine z_aload_n dX6_about_113 rfl rfl ?_
      refine z_getr dX6_about_114 fX6_30 zg0 zkX6_1 zr0_1 ?_
      refine z_iload_n dX6_about_117 rfl rfl ?_
      refine z_callV dX6_about_118 mX6_151 (c_X0_costOf zH10 hw) (zgC0 (Or.inl rfl)) rfl rfl (Nat.le_of_ble_eq_true rfl) ⟨Nat.le_of_ble_eq_true rfl, Nat.le_of_ble_eq_true rfl⟩ ⟨Nat.le_refl _, Nat.le_refl _⟩ (fun _ _ hw => ?_)
      exact z_iret dX6_about_121 (Nat.le_refl _) (Nat.le_refl _) rfl ⟨rfl, ⟨_, rfl⟩, hw⟩
    have hw := hw.2 hs11
    have hs3 := zne (0 : Int32) (0) (by decide) hs3
    have hs6 := zne (1 : Int32) (1) (by decide) hs6
    have hs7 := zne (2 : Int32) (2) (by decide) hs7
    have hs8 := zne (3 : Int32) (3) (by decide) hs8
    have hs11 := zne (4 : Int32) (4) (by decide) hs11
    refine z_tabOut (tgt := 122) dX6_about_20 (by omega) (by decide) ?_
    refine z_iconst dX6_about_122 zim1 ?_
    exact z_iret dX6_about_123 (Nat.le_refl _) (Nat.le_refl _) rfl ⟨rfl, ⟨_, rfl⟩, hw⟩
  · refine z_iconst dX6_about_17 zim1 ?_
    exact z_iret dX6_about_18 (Nat.le_refl _) (Nat.le_refl _) rfl ⟨rfl, ⟨_, rfl⟩, hw⟩
def w_X6_stands  (x1 x2 : Int32) (σ : zS) (Q : Int32 → zS → Prop) : Prop := (w_X6_isFloor x1 σ fun v1 t2 => ((v1 = 0 → Q (-1 : Int32) t2) ∧ (¬ (v1 = 0) → ((0 ≤ x2 → (vp_in x1 8 ∧ (((t2.2 ((10 + 14)) x1.toNatClampNeg) ≤ x2 → Q (-4 : Int32) t2) ∧ (¬ ((t2.2 ((10 + 14)) x1.toNatClampNeg) ≤ x2) → (vp_in x1 8 ∧ (vp_in x2 30 ∧ Q (t2.2 ((10 + 6 + x1.toNatClampNeg)) x2.toNatClampNeg) t2)))))) ∧ (¬ (0 ≤ x2) → Q (-1 : Int32) t2)))))
set_option maxHeartbeats 4000000 in
set_option maxRecDepth 100000 in
theorem c_X6_stands {b : Nat} {x1 x2 : Int32} {σ : zS} {Q : Int32 → zS → Prop} (hw : w_X6_stands x1 x2 σ Q) : zAC yX6_stands cX6_stands 3 (some .int) { frames := 2, cells := 0, slots := 0, locals := 43 } [.ref 0, .int x1, .int x2] zΓ (zρ b) σ (zNp Q) := by
  refine z_entry (own := RX6) (ini := false) (plainFor_of_name pnX6) rfl (fun h => by cases h) (Nat.le_of_ble_eq_true rfl) ?_
  unfold w_X6_stands at hw
  refine z_aload_n dX6_stands_0 rfl rfl ?_
  refine z_iload_n dX6_stands_1 rfl rfl ?_
  refine z_callV dX6_stands_2 mX6_81 (c_X6_isFloor  hw) zg0 rfl rfl (Nat.le_of_ble_eq_true rfl) ⟨Nat.le_of_ble_eq_true rfl, Nat.le_of_ble_eq_true rfl⟩ ⟨Nat.le_refl _, Nat.le_refl _⟩ (fun _ _ hw => ?_)
  refine z_if_eq dX6_stands_5 hw (fun hw => ?_) (fun hw => ?_)
  · refine z_iconst dX6_stands_12 zim1 ?_
    exact z_iret dX6_stands_13 (Nat.le_refl _) (Nat.le_refl _) rfl ⟨rfl, ⟨_, rfl⟩, hw⟩
  · refine z_iload_n dX6_stands_8 rfl rfl ?_
    refine z_if_ge dX6_stands_9 hw (fun hw => ?_) (fun hw => ?_)
    · refine z_iload_n dX6_stands_14 rfl rfl ?_
      refine z_aload_n dX6_stands_15 rfl rfl ?_
      refine z_getr dX6_stands_16 fX6_30 zg0 zkX6_1 zr0_1 ?_
      refine z_getr dX6_stands_19 fX6_154 (zgC0 (Or.inl rfl)) zkX0_6 (zrC6 (Or.inl rfl)) ?_
      refine z_iload_n dX6_stands_22 rfl rfl ?_
      refine z_iald dX6_stands_23 (zgC14 (Or.inl rfl)) hw (fun hw => ?_)
      refine z_icmp_ge dX6_stands_24 hw (fun hw => ?_) (fun hw => ?_)
      · refine z_bipush dX6_stands_41 zbpm4 ?_
        exact z_iret dX6_stands_43 (Nat.le_refl _) (Nat.le_refl _) rfl ⟨rfl, ⟨_, rfl⟩, hw⟩
      · refine z_aload_n dX6_stands_27 rfl rfl ?_
        refine z_getr dX6_stands_28 fX6_30 zg0 zkX6_1 zr0_1 ?_
        refine z_getr dX6_stands_31 fX6_157 (zgC0 (Or.inl rfl)) zkX0_5 (zrC5 (Or.inl rfl)) ?_
        refine z_iload_n dX6_stands_34 rfl rfl ?_
        have hv3 := hw.1
        refine z_aald dX6_stands_35 (zgC5 (Or.inl rfl)) hw (zrho (zrefL (Or.inl rfl))) (fun hw => ?_)
        refine z_iload_n dX6_stands_36 rfl rfl ?_
        refine z_iald dX6_stands_37 (zrow (zrowL (Or.inl rfl)) hv3) hw (fun hw => ?_)
        refine z_goto dX6_stands_38 ?_
        exact z_iret dX6_stands_43 (Nat.le_refl _) (Nat.le_refl _) rfl ⟨rfl, ⟨_, rfl⟩, hw⟩
    · refine z_iconst dX6_stands_12 zim1 ?_
      exact z_iret dX6_stands_13 (Nat.le_refl _) (Nat.le_refl _) rfl ⟨rfl, ⟨_, rfl⟩, hw⟩
def w_X6_isSafe_J50 (Q : Int32 → zS → Prop) (K12 : Int32 → Int32 → zS → Prop) (x2 x3 : Int32) (σ : zS) : Prop := K12 x2 ((x3 + (1 : Int32))) σ
def w_X6_isSafe_L12 (Q : Int32 → zS → Prop)  : Nat → Int32 → Int32 → zS → Prop
  | 0, _, _, _ => False
  | n + 1, x2, x3, σ => (((σ.1 1 7) ≤ x3 → (((1 : Int32) = 0 ∨ (1 : Int32) = 1) ∧ Q (1 : Int32) σ)) ∧ (¬ ((σ.1 1 7) ≤ x3) → (w_X4_goesOnFoot x3 ((-1 : Int32)) σ fun v1 t2 => ((v1 = 0 → (vp_in x3 30 ∧ (((t2.2 6 x3.toNatClampNeg) ≤ x2 → w_X6_isSafe_J50 Q (fun a2 a3 aσ => w_X6_isSafe_L12 Q  n a2 a3 aσ) x2 x3  t2) ∧ (¬ ((t2.2 6 x3.toNatClampNeg) ≤ x2) → (((0 : Int32) = 0 ∨ (0 : Int32) = 1) ∧ Q (0 : Int32) t2))))) ∧ (¬ (v1 = 0) → w_X6_isSafe_J50 Q (fun a2 a3 aσ => w_X6_isSafe_L12 Q  n a2 a3 aσ) x2 x3  t2)))))
def w_X6_isSafe  (x1 : Int32) (σ : zS) (Q : Int32 → zS → Prop) : Prop := (w_X2_ticksLeft ((0 : Int32)) x1 σ fun v1 t2 => ∃ m12, w_X6_isSafe_L12 Q  m12 v1 ((0 : Int32)) t2)
set_option maxHeartbeats 4000000 in
set_option maxRecDepth 100000 in
theorem j_X6_isSafe_50 {b : Nat} {Q : Int32 → zS → Prop} {K12 : Int32 → Int32 → zS → Prop} (hK12 : ∀ {b : Nat} (a2 a3 : Int32) (σ : zS), K12 a2 a3 σ → zAW RX6 cX6_isSafe 4 (some .boolean) false { frames := 3, cells := 0, slots := 0, locals := 66 } zΓ.length (zN zΓ (zρ b) Q) 12 [(0, .ref 0), (2, .int a2), (3, .int a3)] [] zΓ (zρ b) σ 0 0) {x2 x3 : Int32} {σ : zS} (hw : w_X6_isSafe_J50 Q K12 x2 x3 σ) : zAW RX6 cX6_isSafe 4 (some .boolean) false { frames := 3, cells := 0, slots := 0, locals := 66 } zΓ.length (zN zΓ (zρ b) Q) 50 [(0, .ref 0), (2, .int x2), (3, .int x3)] [] zΓ (zρ b) σ 0 0 := by
  unfold w_X6_isSafe_J50 at hw
  refine z_iinc dX6_isSafe_50 rfl zi1 (Nat.le_of_ble_eq_true rfl) ?_
  refine z_goto dX6_isSafe_53 ?_
  exact z_to (hK12 _ _ _ hw) ⟨rfl, rfl, rfl, trivial⟩
set_option maxHeartbeats 4000000 in
set_option maxRecDepth 100000 in
theorem l_X6_isSafe_12 {Q : Int32 → zS → Prop}   : ∀ (n : Nat) {b : Nat} (x2 x3 : Int32) (σ : zS), w_X6_isSafe_L12 Q  n x2 x3 σ → zAW RX6 cX6_isSafe 4 (some .boolean) false { frames := 3, cells := 0, slots := 0, locals := 66 } zΓ.length (zN zΓ (zρ b) Q) 12 [(0, .ref 0), (2, .int x2), (3, .int x3)] [] zΓ (zρ b) σ 0 0 := by
  intro n
  induction n with
  | zero => intro b x2 x3 σ hw; exact hw.elim
  | succ n hK12 =>
    intro b x2 x3 σ hw
    rw [w_X6_isSafe_L12] at hw
    refine z_iload_n dX6_isSafe_12 rfl rfl ?_
    refine z_aload_n dX6_isSafe_13 rfl rfl ?_
    refine z_getr dX6_isSafe_14 fX6_12 zg0 zkX6_0 zr0_0 ?_
    refine z_geti dX6_isSafe_17 fX6_66 zg1 zkX4_7 ?_
    refine z_icmp_ge dX6_isSafe_20 hw (fun hw => ?_) (fun hw => ?_)
    · refine z_iconst dX6_isSafe_56 zi1 ?_
      exact z_zret dX6_isSafe_57 (Nat.le_refl _) (Nat.le_refl _) rfl ⟨hw.1, ⟨rfl, rfl, hw.2⟩⟩
    · refine z_aload_n dX6_isSafe_23 rfl rfl ?_
      refine z_getr dX6_isSafe_24 fX6_12 zg0 zkX6_0 zr0_0 ?_
      refine z_iload_n dX6_isSafe_27 rfl rfl ?_
      refine z_iconst dX6_isSafe_28 zim1 ?_
      refine z_callV dX6_isSafe_29 mX6_225 (c_X4_goesOnFoot  hw) zg1 rfl rfl (Nat.le_of_ble_eq_true rfl) ⟨Nat.le_of_ble_eq_true rfl, Nat.le_of_ble_eq_true rfl⟩ ⟨Nat.le_refl _, Nat.le_refl _⟩ (fun _ _ hw => ?_)
      refine z_if_ne dX6_isSafe_32 hw (fun hw => ?_) (fun hw => ?_)
      · exact z_to (j_X6_isSafe_50  hK12 hw) ⟨rfl, rfl, rfl, trivial⟩
      · refine z_aload_n dX6_isSafe_35 rfl rfl ?_
        refine z_getr dX6_isSafe_36 fX6_12 zg0 zkX6_0 zr0_0 ?_
        refine z_getr dX6_isSafe_39 fX6_228 zg1 zkX4_4 zr1_4 ?_
        refine z_iload_n dX6_isSafe_42 rfl rfl ?_
        refine z_iald dX6_isSafe_43 zg6 hw (fun hw => ?_)
        refine z_iload_n dX6_isSafe_44 rfl rfl ?_
        refine z_icmp_le dX6_isSafe_45 hw (fun hw => ?_) (fun hw => ?_)
        · exact z_to (j_X6_isSafe_50  hK12 hw) ⟨rfl, rfl, rfl, trivial⟩
        · refine z_iconst dX6_isSafe_48 zi0 ?_
          exact z_zret dX6_isSafe_49 (Nat.le_refl _) (Nat.le_refl _) rfl ⟨hw.1, ⟨rfl, rfl, hw.2⟩⟩
set_option maxHeartbeats 4000000 in
set_option maxRecDepth 100000 in
theorem c_X6_isSafe {b : Nat} {x1 : Int32} {σ : zS} {Q : Int32 → zS → Prop} (hw : w_X6_isSafe x1 σ Q) : zAC yX6_isSafe cX6_isSafe 4 (some .boolean) { frames := 3, cells := 0, slots := 0, locals := 66 } [.ref 0, .int x1] zΓ (zρ b) σ (zN zΓ (zρ b) Q) := by
  refine z_entry (own := RX6) (ini := false) (plainFor_of_name pnX6) rfl (fun h => by cases h) (Nat.le_of_ble_eq_true rfl) ?_
  unfold w_X6_isSafe at hw
  refine z_aload_n dX6_isSafe_0 rfl rfl ?_
  refine z_getr dX6_isSafe_1 fX6_21 zg0 zkX6_6 zr0_6 ?_
  refine z_iconst dX6_isSafe_4 zi0 ?_
  refine z_iload_n dX6_isSafe_5 rfl rfl ?_
  refine z_callV dX6_isSafe_6 mX6_136 (c_X2_ticksLeft  hw) zg9 rfl rfl (Nat.le_of_ble_eq_true rfl) ⟨Nat.le_of_ble_eq_true rfl, Nat.le_of_ble_eq_true rfl⟩ ⟨Nat.le_refl _, Nat.le_refl _⟩ (fun _ _ hw => ?_)
  refine z_istore_n dX6_isSafe_9 rfl (Nat.le_of_ble_eq_true rfl) ?_
  refine z_iconst dX6_isSafe_10 zi0 ?_
  refine z_istore_n dX6_isSafe_11 rfl (Nat.le_of_ble_eq_true rfl) ?_
  obtain ⟨n, hw⟩ := hw
  exact z_to (l_X6_isSafe_12   n _ _ _ hw) ⟨rfl, rfl, rfl, trivial⟩
def w_X6_safe  (x1 : Int32) (σ : zS) (Q : Int32 → zS → Prop) : Prop := (w_X6_isSpeed x1 ((σ.1 9 1)) σ fun v1 t2 => ((v1 = 0 → Q (-1 : Int32) t2) ∧ (¬ (v1 = 0) → (w_X6_isSafe x1 t2 fun v3 t4 => ((v3 = 0 → Q (0 : Int32) t4) ∧ (¬ (v3 = 0) → Q (1 : Int32) t4))))))
set_option maxHeartbeats 4000000 in
set_option maxRecDepth 100000 in
theorem c_X6_safe {b : Nat} {x1 : Int32} {σ : zS} {Q : Int32 → zS → Prop} (hw : w_X6_safe x1 σ Q) : zAC yX6_safe cX6_safe 2 (some .int) { frames := 4, cells := 0, slots := 0, locals := 89 } [.ref 0, .int x1] zΓ (zρ b) σ (zNp Q) := by
  refine z_entry (own := RX6) (ini := false) (plainFor_of_name pnX6) rfl (fun h => by cases h) (Nat.le_of_ble_eq_true rfl) ?_
  unfold w_X6_safe at hw
  refine z_iload_n dX6_safe_0 rfl rfl ?_
  refine z_aload_n dX6_safe_1 rfl rfl ?_
  refine z_getr dX6_safe_2 fX6_21 zg0 zkX6_6 zr0_6 ?_
  refine z_geti dX6_safe_5 fX6_92 zg9 zkX2_1 ?_
  refine z_callS dX6_safe_8 mX6_62 (c_X6_isSpeed  hw) rfl rfl (Nat.le_of_ble_eq_true rfl) ⟨Nat.le_of_ble_eq_true rfl, Nat.le_of_ble_eq_true rfl⟩ ⟨Nat.le_refl _, Nat.le_refl _⟩ (fun _ _ hw => ?_)
  refine z_if_ne dX6_safe_11 hw (fun hw => ?_) (fun hw => ?_)
  · refine z_aload_n dX6_safe_16 rfl rfl ?_
    refine z_iload_n dX6_safe_17 rfl rfl ?_
    refine z_callV dX6_safe_18 mX6_161 (c_X6_isSafe  hw) zg0 rfl rfl (Nat.le_of_ble_eq_true rfl) ⟨Nat.le_of_ble_eq_true rfl, Nat.le_of_ble_eq_true rfl⟩ ⟨Nat.le_refl _, Nat.le_refl _⟩ (fun _ _ hw => ?_)
    refine z_if_eq dX6_safe_21 hw (fun hw => ?_) (fun hw => ?_)
    · refine z_iconst dX6_safe_28 zi0 ?_
      exact z_iret dX6_safe_29 (Nat.le_refl _) (Nat.le_refl _) rfl ⟨rfl, ⟨_, rfl⟩, hw⟩
    · refine z_iconst dX6_safe_24 zi1 ?_
      refine z_goto dX6_safe_25 ?_
      exact z_iret dX6_safe_29 (Nat.le_refl _) (Nat.le_refl _) rfl ⟨rfl, ⟨_, rfl⟩, hw⟩
  · refine z_iconst dX6_safe_14 zim1 ?_
    exact z_iret dX6_safe_15 (Nat.le_refl _) (Nat.le_refl _) rfl ⟨rfl, ⟨_, rfl⟩, hw⟩
def w_X0_areAllDone_L2 (r : Nat) (Q : Int32 → zS → Prop)  : Nat → Int32 → zS → Prop
  | 0, _, _ => False
  | n + 1, x1, σ => (((σ.1 1 7) ≤ x1 → (((1 : Int32) = 0 ∨ (1 : Int32) = 1) ∧ Q (1 : Int32) σ)) ∧ (¬ ((σ.1 1 7) ≤ x1) → (vp_in x1 30 ∧ (((σ.2 ((r + 1)) x1.toNatClampNeg) = (4 : Int32) → (fun a1 aσ => w_X0_areAllDone_L2 r Q  n a1 aσ) ((x1 + (1 : Int32))) σ) ∧ (¬ ((σ.2 ((r + 1)) x1.toNatClampNeg) = (4 : Int32)) → (((0 : Int32) = 0 ∨ (0 : Int32) = 1) ∧ Q (0 : Int32) σ))))))
def w_X0_areAllDone (r : Nat) (σ : zS) (Q : Int32 → zS → Prop) : Prop := ∃ m2, w_X0_areAllDone_L2 r Q  m2 ((0 : Int32)) σ
set_option maxHeartbeats 4000000 in
set_option maxRecDepth 100000 in
theorem l_X0_areAllDone_2 {r b : Nat} (hr : zHr r b) {Q : Int32 → zS → Prop}   : ∀ (n : Nat) (x1 : Int32) (σ : zS), w_X0_areAllDone_L2 r Q  n x1 σ → zAW RX0 cX0_areAllDone 2 (some .boolean) false { frames := 0, cells := 0, slots := 0, locals := 0 } zΓ.length (zN zΓ (zρ b) Q) 2 [(0, .ref r), (1, .int x1)] [] zΓ (zρ b) σ 0 0 := by
  intro n
  induction n with
  | zero => intro x1 σ hw; exact hw.elim
  | succ n hK2 =>
    intro x1 σ hw
    have h0 := zHw hr
    rw [w_X0_areAllDone_L2] at hw
    refine z_iload_n dX0_areAllDone_2 rfl rfl ?_
    refine z_aload_n dX0_areAllDone_3 rfl rfl ?_
    refine z_getr dX0_areAllDone_4 fX0_42 (zgC0 h0) zkX0_0 (zrC0 h0) ?_
    refine z_geti dX0_areAllDone_7 fX0_128 zg1 zkX4_7 ?_
    refine z_icmp_ge dX0_areAllDone_10 hw (fun hw => ?_) (fun hw => ?_)
    · refine z_iconst dX0_areAllDone_31 zi1 ?_
      exact z_zret dX0_areAllDone_32 (Nat.le_refl _) (Nat.le_refl _) rfl ⟨hw.1, ⟨rfl, rfl, hw.2⟩⟩
    · refine z_aload_n dX0_areAllDone_13 rfl rfl ?_
      refine z_getr dX0_areAllDone_14 fX0_9 (zgC0 h0) zkX0_1 (zrC1 h0) ?_
      refine z_iload_n dX0_areAllDone_17 rfl rfl ?_
      refine z_iald dX0_areAllDone_18 (zgC1 h0) hw (fun hw => ?_)
      refine z_iconst dX0_areAllDone_19 zi4 ?_
      refine z_icmp_eq dX0_areAllDone_20 hw (fun hw => ?_) (fun hw => ?_)
      · refine z_iinc dX0_areAllDone_25 rfl zi1 (Nat.le_of_ble_eq_true rfl) ?_
        refine z_goto dX0_areAllDone_28 ?_
        exact z_to (hK2 _ _ hw) ⟨rfl, rfl, trivial⟩
      · refine z_iconst dX0_areAllDone_23 zi0 ?_
        exact z_zret dX0_areAllDone_24 (Nat.le_refl _) (Nat.le_refl _) rfl ⟨hw.1, ⟨rfl, rfl, hw.2⟩⟩
set_option maxHeartbeats 4000000 in
set_option maxRecDepth 100000 in
theorem c_X0_areAllDone {r b : Nat} (hr : zHr r b) {σ : zS} {Q : Int32 → zS → Prop} (hw : w_X0_areAllDone r  σ Q) : zAC yX0_areAllDone cX0_areAllDone 2 (some .boolean) { frames := 0, cells := 0, slots := 0, locals := 0 } [.ref r] zΓ (zρ b) σ (zN zΓ (zρ b) Q) := by
  have h0 := zHw hr
  refine z_entry (own := RX0) (ini := false) (plainFor_of_name pnX0) rfl (fun h => by cases h) (Nat.le_of_ble_eq_true rfl) ?_
  unfold w_X0_areAllDone at hw
  refine z_iconst dX0_areAllDone_0 zi0 ?_
  refine z_istore_n dX0_areAllDone_1 rfl (Nat.le_of_ble_eq_true rfl) ?_
  obtain ⟨n, hw⟩ := hw
  exact z_to (l_X0_areAllDone_2 hr  n _ _ hw) ⟨rfl, rfl, trivial⟩
def w_X0_costTogether_L4 (r : Nat) (Q : Int32 → zS → Prop)  : Nat → Int32 → Int32 → zS → Prop
  | 0, _, _, _ => False
  | n + 1, x1, x2, σ => (((σ.1 1 7) ≤ x2 → Q x1 σ) ∧ (¬ ((σ.1 1 7) ≤ x2) → (w_X0_costOf r x2 σ fun v1 t2 => (fun a1 a2 aσ => w_X0_costTogether_L4 r Q  n a1 a2 aσ) ((x1 + v1)) ((x2 + (1 : Int32))) t2)))
def w_X0_costTogether (r : Nat) (σ : zS) (Q : Int32 → zS → Prop) : Prop := ∃ m4, w_X0_costTogether_L4 r Q  m4 ((0 : Int32)) ((0 : Int32)) σ
set_option maxHeartbeats 4000000 in
set_option maxRecDepth 100000 in
theorem l_X0_costTogether_4 {r b : Nat} (hr : zHr r b) {Q : Int32 → zS → Prop}   : ∀ (n : Nat) (x1 x2 : Int32) (σ : zS), w_X0_costTogether_L4 r Q  n x1 x2 σ → zAW RX0 cX0_costTogether 3 (some .int) false { frames := 1, cells := 0, slots := 0, locals := 22 } zΓ.length (zN zΓ (zρ b) Q) 4 [(0, .ref r), (1, .int x1), (2, .int x2)] [] zΓ (zρ b) σ 0 0 := by
  intro n
  induction n with
  | zero => intro x1 x2 σ hw; exact hw.elim
  | succ n hK4 =>
    intro x1 x2 σ hw
    have h0 := zHw hr
    rw [w_X0_costTogether_L4] at hw
    refine z_iload_n dX0_costTogether_4 rfl rfl ?_
    refine z_aload_n dX0_costTogether_5 rfl rfl ?_
    refine z_getr dX0_costTogether_6 fX0_42 (zgC0 h0) zkX0_0 (zrC0 h0) ?_
    refine z_geti dX0_costTogether_9 fX0_128 zg1 zkX4_7 ?_
    refine z_icmp_ge dX0_costTogether_12 hw (fun hw => ?_) (fun hw => ?_)
    · refine z_iload_n dX0_costTogether_29 rfl rfl ?_
      exact z_iret dX0_costTogether_30 (Nat.le_refl _) (Nat.le_refl _) rfl ⟨rfl, rfl, hw⟩
    · refine z_iload_n dX0_costTogether_15 rfl rfl ?_
      refine z_aload_n dX0_costTogether_16 rfl rfl ?_
      refine z_iload_n dX0_costTogether_17 rfl rfl ?_
      refine z_callV dX0_costTogether_18 mX0_203 (c_X0_costOf hr hw) (zgC0 h0) rfl rfl (Nat.le_of_ble_eq_true rfl) ⟨Nat.le_of_ble_eq_true rfl, Nat.le_of_ble_eq_true rfl⟩ ⟨Nat.le_refl _, Nat.le_refl _⟩ (fun _ _ hw => ?_)
      refine z_iadd dX0_costTogether_21 ?_
      refine z_istore_n dX0_costTogether_22 rfl (Nat.le_of_ble_eq_true rfl) ?_
      refine z_iinc dX0_costTogether_23 rfl zi1 (Nat.le_of_ble_eq_true rfl) ?_
      refine z_goto dX0_costTogether_26 ?_
      exact z_to (hK4 _ _ _ hw) ⟨rfl, rfl, rfl, trivial⟩
set_option maxHeartbeats 4000000 in
set_option maxRecDepth 100000 in
theorem c_X0_costTogether {r b : Nat} (hr : zHr r b) {σ : zS} {Q : Int32 → zS → Prop} (hw : w_X0_costTogether r  σ Q) : zAC yX0_costTogether cX0_costTogether 3 (some .int) { frames := 1, cells := 0, slots := 0, locals := 22 } [.ref r] zΓ (zρ b) σ (zN zΓ (zρ b) Q) := by
  have h0 := zHw hr
  refine z_entry (own := RX0) (ini := false) (plainFor_of_name pnX0) rfl (fun h => by cases h) (Nat.le_of_ble_eq_true rfl) ?_
  unfold w_X0_costTogether at hw
  refine z_iconst dX0_costTogether_0 zi0 ?_
  refine z_istore_n dX0_costTogether_1 rfl (Nat.le_of_ble_eq_true rfl) ?_
  refine z_iconst dX0_costTogether_2 zi0 ?_
  refine z_istore_n dX0_costTogether_3 rfl (Nat.le_of_ble_eq_true rfl) ?_
  obtain ⟨n, hw⟩ := hw
  exact z_to (l_X0_costTogether_4 hr  n _ _ _ hw) ⟨rfl, rfl, rfl, trivial⟩
def w_X0_playDay_J35 (Q : Int32 → zS → Prop)  (σ : zS) : Prop := (w_X0_costTogether 30 σ fun v1 t2 => Q v1 t2)
def w_X0_playDay_L10 (Q : Int32 → zS → Prop)  : Nat → Int32 → zS → Prop
  | 0, _, _ => False
  | n + 1, x4, σ => (((1000 : Int32) ≤ x4 → w_X0_playDay_J35 Q    σ) ∧ (¬ ((1000 : Int32) ≤ x4) → (w_X0_areAllDone 30 σ fun v1 t2 => ((v1 = 0 → (w_X0_tick 30 t2 fun _ t3 => (fun a4 aσ => w_X0_playDay_L10 Q  n a4 aσ) ((x4 + (1 : Int32))) t3)) ∧ (¬ (v1 = 0) → w_X0_playDay_J35 Q    t2)))))
def w_X0_playDay  (x2 x3 : Int32) (σ : zS) (Q : Int32 → zS → Prop) : Prop := (w_X0_begin 30 x2 x3 σ fun _ t1 => ∃ m10, w_X0_playDay_L10 Q  m10 ((0 : Int32)) t1)
set_option maxHeartbeats 4000000 in
set_option maxRecDepth 100000 in
theorem j_X0_playDay_35  {Q : Int32 → zS → Prop}   {σ : zS} (hw : w_X0_playDay_J35 Q   σ) : zAW RX0 cX0_playDay 5 (some .int) false { frames := 6, cells := 0, slots := 0, locals := 129 } zΓ.length (zN zΓ (zρ 9) Q) 35 [(0, .ref 30)] [] zΓ (zρ 9) σ 0 0 := by
  unfold w_X0_playDay_J35 at hw
  refine z_aload_n dX0_playDay_35 rfl rfl ?_
  refine z_callV dX0_playDay_36 mX0_87 (c_X0_costTogether zH30 hw) (zgC0 (Or.inr rfl)) rfl rfl (Nat.le_of_ble_eq_true rfl) ⟨Nat.le_of_ble_eq_true rfl, Nat.le_of_ble_eq_true rfl⟩ ⟨Nat.le_refl _, Nat.le_refl _⟩ (fun _ _ hw => ?_)
  exact z_iret dX0_playDay_39 (Nat.le_refl _) (Nat.le_refl _) rfl ⟨rfl, rfl, hw⟩
set_option maxHeartbeats 4000000 in
set_option maxRecDepth 100000 in
theorem l_X0_playDay_10  {Q : Int32 → zS → Prop}   : ∀ (n : Nat) (x4 : Int32) (σ : zS), w_X0_playDay_L10 Q  n x4 σ → zAW RX0 cX0_playDay 5 (some .int) false { frames := 6, cells := 0, slots := 0, locals := 129 } zΓ.length (zN zΓ (zρ 9) Q) 10 [(0, .ref 30), (4, .int x4)] [] zΓ (zρ 9) σ 0 0 := by
  intro n
  induction n with
  | zero => intro x4 σ hw; exact hw.elim
  | succ n hK10 =>
    intro x4 σ hw
    rw [w_X0_playDay_L10] at hw
    refine z_iload dX0_playDay_10 rfl ?_
    refine z_sipush dX0_playDay_12 zsp1000 ?_
    refine z_icmp_ge dX0_playDay_15 hw (fun hw => ?_) (fun hw => ?_)
    · exact z_to (j_X0_playDay_35   hw) ⟨rfl, trivial⟩
    · refine z_aload_n dX0_playDay_18 rfl rfl ?_
      refine z_callV dX0_playDay_19 mX0_80 (c_X0_areAllDone zH30 hw) (zgC0 (Or.inr rfl)) rfl rfl (Nat.le_of_ble_eq_true rfl) ⟨Nat.le_of_ble_eq_true rfl, Nat.le_of_ble_eq_true rfl⟩ ⟨Nat.le_refl _, Nat.le_refl _⟩ (fun _ _ hw => ?_)
      refine z_if_ne dX0_playDay_22 hw (fun hw => ?_) (fun hw => ?_)
      · exact z_to (j_X0_playDay_35   hw) ⟨rfl, trivial⟩
      · refine z_aload_n dX0_playDay_25 rfl rfl ?_
        refine z_callVv dX0_playDay_26 mX0_84 (c_X0_tick zH30 hw) (zgC0 (Or.inr rfl)) rfl rfl (Nat.le_of_ble_eq_true rfl) ⟨Nat.le_of_ble_eq_true rfl, Nat.le_of_ble_eq_true rfl⟩ ⟨Nat.le_refl _, Nat.le_refl _⟩ (fun _ hw => ?_)
        refine z_iinc dX0_playDay_29 rfl zi1 (Nat.le_of_ble_eq_true rfl) ?_
        refine z_goto dX0_playDay_32 ?_
        exact z_to (hK10 _ _ hw) ⟨rfl, rfl, trivial⟩
set_option maxHeartbeats 4000000 in
set_option maxRecDepth 100000 in
theorem c_X0_playDay {b : Nat} {x2 x3 : Int32} {σ : zS} {Q : Int32 → zS → Prop} (hw : w_X0_playDay x2 x3 σ Q) : zAC yX0_playDay cX0_playDay 5 (some .int) { frames := 6, cells := 0, slots := 0, locals := 129 } [.ref 30, .ref 9, .int x2, .int x3] zΓ (zρ b) σ (zN zΓ (zρ 9) Q) := by
  refine z_entry (own := RX0) (ini := false) (plainFor_of_name pnX0) rfl (fun h => by cases h) (Nat.le_of_ble_eq_true rfl) ?_
  unfold w_X0_playDay at hw
  refine z_aload_n dX0_playDay_0 rfl rfl ?_
  refine z_aload_n dX0_playDay_1 rfl rfl ?_
  refine z_iload_n dX0_playDay_2 rfl rfl ?_
  refine z_iload_n dX0_playDay_3 rfl rfl ?_
  refine z_callVv dX0_playDay_4 mX0_76 (c_X0_begin (Or.inr rfl) hw) (zgC0 (Or.inr rfl)) rfl rfl (Nat.le_of_ble_eq_true rfl) ⟨Nat.le_of_ble_eq_true rfl, Nat.le_of_ble_eq_true rfl⟩ ⟨Nat.le_refl _, Nat.le_refl _⟩ (fun _ hw => ?_)
  refine z_iconst dX0_playDay_7 zi0 ?_
  refine z_istore dX0_playDay_8 (Nat.le_of_ble_eq_true rfl) ?_
  obtain ⟨n, hw⟩ := hw
  exact z_to (l_X0_playDay_10   n _ _ hw) ⟨rfl, rfl, trivial⟩
def w_X6_cost  (x1 x2 : Int32) (σ : zS) (Q : Int32 → zS → Prop) : Prop := (w_X6_isSpeed x1 ((σ.1 9 1)) σ fun v1 t2 => ((v1 = 0 → Q (-1 : Int32) t2) ∧ (¬ (v1 = 0) → (w_X6_within x2 ((-1 : Int32)) ((7 : Int32)) t2 fun v3 t4 => ((v3 = 0 → Q (-1 : Int32) t4) ∧ (¬ (v3 = 0) → (w_X0_playDay x1 x2 t4 fun v5 t6 => Q v5 t6)))))))
set_option maxHeartbeats 4000000 in
set_option maxRecDepth 100000 in
theorem c_X6_cost {b : Nat} {x1 x2 : Int32} {σ : zS} {Q : Int32 → zS → Prop} (hw : w_X6_cost x1 x2 σ Q) : zAC yX6_cost cX6_cost 3 (some .int) { frames := 7, cells := 0, slots := 0, locals := 153 } [.ref 0, .int x1, .int x2] zΓ (zρ b) σ (zNp Q) := by
  refine z_entry (own := RX6) (ini := false) (plainFor_of_name pnX6) rfl (fun h => by cases h) (Nat.le_of_ble_eq_true rfl) ?_
  unfold w_X6_cost at hw
  refine z_iload_n dX6_cost_0 rfl rfl ?_
  refine z_aload_n dX6_cost_1 rfl rfl ?_
  refine z_getr dX6_cost_2 fX6_21 zg0 zkX6_6 zr0_6 ?_
  refine z_geti dX6_cost_5 fX6_92 zg9 zkX2_1 ?_
  refine z_callS dX6_cost_8 mX6_62 (c_X6_isSpeed  hw) rfl rfl (Nat.le_of_ble_eq_true rfl) ⟨Nat.le_of_ble_eq_true rfl, Nat.le_of_ble_eq_true rfl⟩ ⟨Nat.le_refl _, Nat.le_refl _⟩ (fun _ _ hw => ?_)
  refine z_if_eq dX6_cost_11 hw (fun hw => ?_) (fun hw => ?_)
  · refine z_iconst dX6_cost_24 zim1 ?_
    exact z_iret dX6_cost_25 (Nat.le_refl _) (Nat.le_refl _) rfl ⟨rfl, ⟨_, rfl⟩, hw⟩
  · refine z_iload_n dX6_cost_14 rfl rfl ?_
    refine z_iconst dX6_cost_15 zim1 ?_
    refine z_bipush dX6_cost_16 zbp7 ?_
    refine z_callS dX6_cost_18 mX6_58 (c_X6_within  hw) rfl rfl (Nat.le_of_ble_eq_true rfl) ⟨Nat.le_of_ble_eq_true rfl, Nat.le_of_ble_eq_true rfl⟩ ⟨Nat.le_refl _, Nat.le_refl _⟩ (fun _ _ hw => ?_)
    refine z_if_ne dX6_cost_21 hw (fun hw => ?_) (fun hw => ?_)
    · refine z_aload_n dX6_cost_26 rfl rfl ?_
      refine z_getr dX6_cost_27 fX6_34 zg0 zkX6_2 zr0_2 ?_
      refine z_aload_n dX6_cost_30 rfl rfl ?_
      refine z_getr dX6_cost_31 fX6_21 zg0 zkX6_6 zr0_6 ?_
      refine z_iload_n dX6_cost_34 rfl rfl ?_
      refine z_iload_n dX6_cost_35 rfl rfl ?_
      refine z_callV dX6_cost_36 mX6_164 (c_X0_playDay  hw) (zgC0 (Or.inr rfl)) rfl rfl (Nat.le_of_ble_eq_true rfl) ⟨Nat.le_of_ble_eq_true rfl, Nat.le_of_ble_eq_true rfl⟩ ⟨Nat.le_refl _, Nat.le_refl _⟩ (fun _ _ hw => ?_)
      exact z_iret dX6_cost_39 (Nat.le_refl _) (Nat.le_refl _) rfl ⟨rfl, ⟨_, rfl⟩, hw⟩
    · refine z_iconst dX6_cost_24 zim1 ?_
      exact z_iret dX6_cost_25 (Nat.le_refl _) (Nat.le_refl _) rfl ⟨rfl, ⟨_, rfl⟩, hw⟩
def w_X6_bestSpeed_J62 (Q : Int32 → zS → Prop) (K7 : Int32 → Int32 → Int32 → zS → Prop) (x1 x2 x3 : Int32) (σ : zS) : Prop := K7 x1 x2 ((x3 + (1 : Int32))) σ
def w_X6_bestSpeed_J57 (Q : Int32 → zS → Prop) (K7 : Int32 → Int32 → Int32 → zS → Prop) (x3 x4 : Int32) (σ : zS) : Prop := w_X6_bestSpeed_J62 Q K7 x3 x4 x3  σ
def w_X6_bestSpeed_L7 (Q : Int32 → zS → Prop)  : Nat → Int32 → Int32 → Int32 → zS → Prop
  | 0, _, _, _, _ => False
  | n + 1, x1, x2, x3, σ => (((if (σ.1 9 1) < (4 : Int32) then (σ.1 9 1) else (4 : Int32)) < x3 → Q x1 σ) ∧ (¬ ((if (σ.1 9 1) < (4 : Int32) then (σ.1 9 1) else (4 : Int32)) < x3) → (w_X6_isSafe x3 σ fun v1 t2 => ((v1 = 0 → w_X6_bestSpeed_J62 Q (fun a1 a2 a3 aσ => w_X6_bestSpeed_L7 Q  n a1 a2 a3 aσ) x1 x2 x3  t2) ∧ (¬ (v1 = 0) → (w_X0_playDay x3 ((-1 : Int32)) t2 fun v3 t4 => ((x1 = (-4 : Int32) → w_X6_bestSpeed_J57 Q (fun a1 a2 a3 aσ => w_X6_bestSpeed_L7 Q  n a1 a2 a3 aσ) x3 v3  t4) ∧ (¬ (x1 = (-4 : Int32)) → ((x2 ≤ v3 → w_X6_bestSpeed_J62 Q (fun a1 a2 a3 aσ => w_X6_bestSpeed_L7 Q  n a1 a2 a3 aσ) x1 x2 x3  t4) ∧ (¬ (x2 ≤ v3) → w_X6_bestSpeed_J57 Q (fun a1 a2 a3 aσ => w_X6_bestSpeed_L7 Q  n a1 a2 a3 aσ) x3 v3  t4))))))))))
def w_X6_bestSpeed  (σ : zS) (Q : Int32 → zS → Prop) : Prop := ∃ m7, w_X6_bestSpeed_L7 Q  m7 ((-4 : Int32)) ((0 : Int32)) ((1 : Int32)) σ
set_option maxHeartbeats 4000000 in
set_option maxRecDepth 100000 in
theorem j_X6_bestSpeed_62 {b : Nat} {Q : Int32 → zS → Prop} {K7 : Int32 → Int32 → Int32 → zS → Prop} (hK7 : ∀ {b : Nat} (a1 a2 a3 : Int32) (σ : zS), K7 a1 a2 a3 σ → zAW RX6 cX6_bestSpeed 5 (some .int) false { frames := 7, cells := 0, slots := 0, locals := 153 } zΓ.length (zNp Q) 7 [(0, .ref 0), (1, .int a1), (2, .int a2), (3, .int a3)] [] zΓ (zρ b) σ 0 0) {x1 x2 x3 : Int32} {σ : zS} (hw : w_X6_bestSpeed_J62 Q K7 x1 x2 x3 σ) : zAW RX6 cX6_bestSpeed 5 (some .int) false { frames := 7, cells := 0, slots := 0, locals := 153 } zΓ.length (zNp Q) 62 [(0, .ref 0), (1, .int x1), (2, .int x2), (3, .int x3)] [] zΓ (zρ b) σ 0 0 := by
  unfold w_X6_bestSpeed_J62 at hw
  refine z_iinc dX6_bestSpeed_62 rfl zi1 (Nat.le_of_ble_eq_true rfl) ?_
  refine z_goto dX6_bestSpeed_65 ?_
  exact z_to (hK7 _ _ _ _ hw) ⟨rfl, rfl, rfl, rfl, trivial⟩
set_option maxHeartbeats 4000000 in
set_option maxRecDepth 100000 in
theorem j_X6_bestSpeed_57 {b : Nat} {Q : Int32 → zS → Prop} {K7 : Int32 → Int32 → Int32 → zS → Prop} (hK7 : ∀ {b : Nat} (a1 a2 a3 : Int32) (σ : zS), K7 a1 a2 a3 σ → zAW RX6 cX6_bestSpeed 5 (some .int) false { frames := 7, cells := 0, slots := 0, locals := 153 } zΓ.length (zNp Q) 7 [(0, .ref 0), (1, .int a1), (2, .int a2), (3, .int a3)] [] zΓ (zρ b) σ 0 0) {x3 x4 : Int32} {σ : zS} (hw : w_X6_bestSpeed_J57 Q K7 x3 x4 σ) : zAW RX6 cX6_bestSpeed 5 (some .int) false { frames := 7, cells := 0, slots := 0, locals := 153 } zΓ.length (zNp Q) 57 [(0, .ref 0), (3, .int x3), (4, .int x4)] [] zΓ (zρ b) σ 0 0 := by
  unfold w_X6_bestSpeed_J57 at hw
  refine z_iload_n dX6_bestSpeed_57 rfl rfl ?_
  refine z_istore_n dX6_bestSpeed_58 rfl (Nat.le_of_ble_eq_true rfl) ?_
  refine z_iload dX6_bestSpeed_59 rfl ?_
  refine z_istore_n dX6_bestSpeed_61 rfl (Nat.le_of_ble_eq_true rfl) ?_
  exact z_to (j_X6_bestSpeed_62  hK7 hw) ⟨rfl, rfl, rfl, rfl, trivial⟩
set_option maxHeartbeats 4000000 in
set_option maxRecDepth 100000 in
theorem l_X6_bestSpeed_7 {Q : Int32 → zS → Prop}   : ∀ (n : Nat) {b : Nat} (x1 x2 x3 : Int32) (σ : zS), w_X6_bestSpeed_L7 Q  n x1 x2 x3 σ → zAW RX6 cX6_bestSpeed 5 (some .int) false { frames := 7, cells := 0, slots := 0, locals := 153 } zΓ.length (zNp Q) 7 [(0, .ref 0), (1, .int x1), (2, .int x2), (3, .int x3)] [] zΓ (zρ b) σ 0 0 := by
  intro n
  induction n with
  | zero => intro b x1 x2 x3 σ hw; exact hw.elim
  | succ n hK7 =>
    intro b x1 x2 x3 σ hw
    rw [w_X6_bestSpeed_L7] at hw
    refine z_iload_n dX6_bestSpeed_7 rfl rfl ?_
    refine z_iconst dX6_bestSpeed_8 zi4 ?_
    refine z_aload_n dX6_bestSpeed_9 rfl rfl ?_
    refine z_getr dX6_bestSpeed_10 fX6_21 zg0 zkX6_6 zr0_6 ?_
    refine z_geti dX6_bestSpeed_13 fX6_92 zg9 zkX2_1 ?_
    refine z_mmin dX6_bestSpeed_16 mwX6_168 (Nat.le_of_ble_eq_true rfl) (Nat.le_of_ble_eq_true rfl) (Nat.le_refl _) (Nat.le_refl _) ?_
    refine z_icmp_gt dX6_bestSpeed_19 hw (fun hw => ?_) (fun hw => ?_)
    · refine z_iload_n dX6_bestSpeed_68 rfl rfl ?_
      exact z_iret dX6_bestSpeed_69 (Nat.le_refl _) (Nat.le_refl _) rfl ⟨rfl, ⟨_, rfl⟩, hw⟩
    · refine z_aload_n dX6_bestSpeed_22 rfl rfl ?_
      refine z_iload_n dX6_bestSpeed_23 rfl rfl ?_
      refine z_callV dX6_bestSpeed_24 mX6_161 (c_X6_isSafe  hw) zg0 rfl rfl (Nat.le_of_ble_eq_true rfl) ⟨Nat.le_of_ble_eq_true rfl, Nat.le_of_ble_eq_true rfl⟩ ⟨Nat.le_refl _, Nat.le_refl _⟩ (fun _ _ hw => ?_)
      refine z_if_eq dX6_bestSpeed_27 hw (fun hw => ?_) (fun hw => ?_)
      · exact z_to (j_X6_bestSpeed_62  hK7 hw) ⟨rfl, rfl, rfl, rfl, trivial⟩
      · refine z_aload_n dX6_bestSpeed_30 rfl rfl ?_
        refine z_getr dX6_bestSpeed_31 fX6_34 zg0 zkX6_2 zr0_2 ?_
        refine z_aload_n dX6_bestSpeed_34 rfl rfl ?_
        refine z_getr dX6_bestSpeed_35 fX6_21 zg0 zkX6_6 zr0_6 ?_
        refine z_iload_n dX6_bestSpeed_38 rfl rfl ?_
        refine z_iconst dX6_bestSpeed_39 zim1 ?_
        refine z_callV dX6_bestSpeed_40 mX6_164 (c_X0_playDay  hw) (zgC0 (Or.inr rfl)) rfl rfl (Nat.le_of_ble_eq_true rfl) ⟨Nat.le_of_ble_eq_true rfl, Nat.le_of_ble_eq_true rfl⟩ ⟨Nat.le_refl _, Nat.le_refl _⟩ (fun _ _ hw => ?_)
        refine z_istore dX6_bestSpeed_43 (Nat.le_of_ble_eq_true rfl) ?_
        refine z_iload_n dX6_bestSpeed_45 rfl rfl ?_
        refine z_bipush dX6_bestSpeed_46 zbpm4 ?_
        refine z_icmp_eq dX6_bestSpeed_48 hw (fun hw => ?_) (fun hw => ?_)
        · exact z_to (j_X6_bestSpeed_57  hK7 hw) ⟨rfl, rfl, rfl, trivial⟩
        · refine z_iload dX6_bestSpeed_51 rfl ?_
          refine z_iload_n dX6_bestSpeed_53 rfl rfl ?_
          refine z_icmp_ge dX6_bestSpeed_54 hw (fun hw => ?_) (fun hw => ?_)
          · exact z_to (j_X6_bestSpeed_62  hK7 hw) ⟨rfl, rfl, rfl, rfl, trivial⟩
          · exact z_to (j_X6_bestSpeed_57  hK7 hw) ⟨rfl, rfl, rfl, trivial⟩
set_option maxHeartbeats 4000000 in
set_option maxRecDepth 100000 in
theorem c_X6_bestSpeed {b : Nat} {σ : zS} {Q : Int32 → zS → Prop} (hw : w_X6_bestSpeed  σ Q) : zAC yX6_bestSpeed cX6_bestSpeed 5 (some .int) { frames := 7, cells := 0, slots := 0, locals := 153 } [.ref 0] zΓ (zρ b) σ (zNp Q) := by
  refine z_entry (own := RX6) (ini := false) (plainFor_of_name pnX6) rfl (fun h => by cases h) (Nat.le_of_ble_eq_true rfl) ?_
  unfold w_X6_bestSpeed at hw
  refine z_bipush dX6_bestSpeed_0 zbpm4 ?_
  refine z_istore_n dX6_bestSpeed_2 rfl (Nat.le_of_ble_eq_true rfl) ?_
  refine z_iconst dX6_bestSpeed_3 zi0 ?_
  refine z_istore_n dX6_bestSpeed_4 rfl (Nat.le_of_ble_eq_true rfl) ?_
  refine z_iconst dX6_bestSpeed_5 zi1 ?_
  refine z_istore_n dX6_bestSpeed_6 rfl (Nat.le_of_ble_eq_true rfl) ?_
  obtain ⟨n, hw⟩ := hw
  exact z_to (l_X6_bestSpeed_7   n _ _ _ _ hw) ⟨rfl, rfl, rfl, rfl, trivial⟩
def w_X6_bestStairs_J67 (Q : Int32 → zS → Prop) (K24 : Int32 → Int32 → Int32 → zS → Prop) (x1 x2 x3 : Int32) (σ : zS) : Prop := K24 x1 x2 ((x3 + (1 : Int32))) σ
def w_X6_bestStairs_L24 (Q : Int32 → zS → Prop)  : Nat → Int32 → Int32 → Int32 → zS → Prop
  | 0, _, _, _, _ => False
  | n + 1, x1, x2, x3, σ => (((σ.1 9 0) ≤ x3 → Q x1 σ) ∧ (¬ ((σ.1 9 0) ≤ x3) → (w_X0_playDay ((σ.1 10 11)) x3 σ fun v1 t2 => ((x2 ≤ v1 → w_X6_bestStairs_J67 Q (fun a1 a2 a3 aσ => w_X6_bestStairs_L24 Q  n a1 a2 a3 aσ) x1 x2 x3  t2) ∧ (¬ (x2 ≤ v1) → w_X6_bestStairs_J67 Q (fun a1 a2 a3 aσ => w_X6_bestStairs_L24 Q  n a1 a2 a3 aσ) x3 v1 x3  t2)))))
def w_X6_bestStairs  (σ : zS) (Q : Int32 → zS → Prop) : Prop := (w_X0_playDay ((σ.1 10 11)) ((0 : Int32)) σ fun v1 t2 => ∃ m24, w_X6_bestStairs_L24 Q  m24 ((0 : Int32)) v1 ((1 : Int32)) t2)
set_option maxHeartbeats 4000000 in
set_option maxRecDepth 100000 in
theorem j_X6_bestStairs_67 {b : Nat} {Q : Int32 → zS → Prop} {K24 : Int32 → Int32 → Int32 → zS → Prop} (hK24 : ∀ {b : Nat} (a1 a2 a3 : Int32) (σ : zS), K24 a1 a2 a3 σ → zAW RX6 cX6_bestStairs 5 (some .int) false { frames := 7, cells := 0, slots := 0, locals := 153 } zΓ.length (zNp Q) 24 [(0, .ref 0), (1, .int a1), (2, .int a2), (3, .int a3)] [] zΓ (zρ b) σ 0 0) {x1 x2 x3 : Int32} {σ : zS} (hw : w_X6_bestStairs_J67 Q K24 x1 x2 x3 σ) : zAW RX6 cX6_bestStairs 5 (some .int) false { frames := 7, cells := 0, slots := 0, locals := 153 } zΓ.length (zNp Q) 67 [(0, .ref 0), (1, .int x1), (2, .int x2), (3, .int x3)] [] zΓ (zρ b) σ 0 0 := by
  unfold w_X6_bestStairs_J67 at hw
  refine z_iinc dX6_bestStairs_67 rfl zi1 (Nat.le_of_ble_eq_true rfl) ?_
  refine z_goto dX6_bestStairs_70 ?_
  exact z_to (hK24 _ _ _ _ hw) ⟨rfl, rfl, rfl, rfl, trivial⟩
set_option maxHeartbeats 4000000 in
set_option maxRecDepth 100000 in
theorem l_X6_bestStairs_24 {Q : Int32 → zS → Prop}   : ∀ (n : Nat) {b : Nat} (x1 x2 x3 : Int32) (σ : zS), w_X6_bestStairs_L24 Q  n x1 x2 x3 σ → zAW RX6 cX6_bestStairs 5 (some .int) false { frames := 7, cells := 0, slots := 0, locals := 153 } zΓ.length (zNp Q) 24 [(0, .ref 0), (1, .int x1), (2, .int x2), (3, .int x3)] [] zΓ (zρ b) σ 0 0 := by
  intro n
  induction n with
  | zero => intro b x1 x2 x3 σ hw; exact hw.elim
  | succ n hK24 =>
    intro b x1 x2 x3 σ hw
    rw [w_X6_bestStairs_L24] at hw
    refine z_iload_n dX6_bestStairs_24 rfl rfl ?_
    refine z_aload_n dX6_bestStairs_25 rfl rfl ?_
    refine z_getr dX6_bestStairs_26 fX6_21 zg0 zkX6_6 zr0_6 ?_
    refine z_geti dX6_bestStairs_29 fX6_173 zg9 zkX2_0 ?_
    refine z_icmp_ge dX6_bestStairs_32 hw (fun hw => ?_) (fun hw => ?_)
    · refine z_iload_n dX6_bestStairs_73 rfl rfl ?_
      exact z_iret dX6_bestStairs_74 (Nat.le_refl _) (Nat.le_refl _) rfl ⟨rfl, ⟨_, rfl⟩, hw⟩
    · refine z_aload_n dX6_bestStairs_35 rfl rfl ?_
      refine z_getr dX6_bestStairs_36 fX6_34 zg0 zkX6_2 zr0_2 ?_
      refine z_aload_n dX6_bestStairs_39 rfl rfl ?_
      refine z_getr dX6_bestStairs_40 fX6_21 zg0 zkX6_6 zr0_6 ?_
      refine z_aload_n dX6_bestStairs_43 rfl rfl ?_
      refine z_getr dX6_bestStairs_44 fX6_30 zg0 zkX6_1 zr0_1 ?_
      refine z_geti dX6_bestStairs_47 fX6_95 (zgC0 (Or.inl rfl)) zkX0_11 ?_
      refine z_iload_n dX6_bestStairs_50 rfl rfl ?_
      refine z_callV dX6_bestStairs_51 mX6_164 (c_X0_playDay  hw) (zgC0 (Or.inr rfl)) rfl rfl (Nat.le_of_ble_eq_true rfl) ⟨Nat.le_of_ble_eq_true rfl, Nat.le_of_ble_eq_true rfl⟩ ⟨Nat.le_refl _, Nat.le_refl _⟩ (fun _ _ hw => ?_)
      refine z_istore dX6_bestStairs_54 (Nat.le_of_ble_eq_true rfl) ?_
      refine z_iload dX6_bestStairs_56 rfl ?_
      refine z_iload_n dX6_bestStairs_58 rfl rfl ?_
      refine z_icmp_ge dX6_bestStairs_59 hw (fun hw => ?_) (fun hw => ?_)
      · exact z_to (j_X6_bestStairs_67  hK24 hw) ⟨rfl, rfl, rfl, rfl, trivial⟩
      · refine z_iload_n dX6_bestStairs_62 rfl rfl ?_
        refine z_istore_n dX6_bestStairs_63 rfl (Nat.le_of_ble_eq_true rfl) ?_
        refine z_iload dX6_bestStairs_64 rfl ?_
        refine z_istore_n dX6_bestStairs_66 rfl (Nat.le_of_ble_eq_true rfl) ?_
        exact z_to (j_X6_bestStairs_67  hK24 hw) ⟨rfl, rfl, rfl, rfl, trivial⟩
set_option maxHeartbeats 4000000 in
set_option maxRecDepth 100000 in
theorem c_X6_bestStairs {b : Nat} {σ : zS} {Q : Int32 → zS → Prop} (hw : w_X6_bestStairs  σ Q) : zAC yX6_bestStairs cX6_bestStairs 5 (some .int) { frames := 7, cells := 0, slots := 0, locals := 153 } [.ref 0] zΓ (zρ b) σ (zNp Q) := by
  refine z_entry (own := RX6) (ini := false) (plainFor_of_name pnX6) rfl (fun h => by cases h) (Nat.le_of_ble_eq_true rfl) ?_
  unfold w_X6_bestStairs at hw
  refine z_iconst dX6_bestStairs_0 zi0 ?_
  refine z_istore_n dX6_bestStairs_1 rfl (Nat.le_of_ble_eq_true rfl) ?_
  refine z_aload_n dX6_bestStairs_2 rfl rfl ?_
  refine z_getr dX6_bestStairs_3 fX6_34 zg0 zkX6_2 zr0_2 ?_
  refine z_aload_n dX6_bestStairs_6 rfl rfl ?_
  refine z_getr dX6_bestStairs_7 fX6_21 zg0 zkX6_6 zr0_6 ?_
  refine z_aload_n dX6_bestStairs_10 rfl rfl ?_
  refine z_getr dX6_bestStairs_11 fX6_30 zg0 zkX6_1 zr0_1 ?_
  refine z_geti dX6_bestStairs_14 fX6_95 (zgC0 (Or.inl rfl)) zkX0_11 ?_
  refine z_iconst dX6_bestStairs_17 zi0 ?_
  refine z_callV dX6_bestStairs_18 mX6_164 (c_X0_playDay  hw) (zgC0 (Or.inr rfl)) rfl rfl (Nat.le_of_ble_eq_true rfl) ⟨Nat.le_of_ble_eq_true rfl, Nat.le_of_ble_eq_true rfl⟩ ⟨Nat.le_refl _, Nat.le_refl _⟩ (fun _ _ hw => ?_)
  refine z_istore_n dX6_bestStairs_21 rfl (Nat.le_of_ble_eq_true rfl) ?_
  refine z_iconst dX6_bestStairs_22 zi1 ?_
  refine z_istore_n dX6_bestStairs_23 rfl (Nat.le_of_ble_eq_true rfl) ?_
  obtain ⟨n, hw⟩ := hw
  exact z_to (l_X6_bestStairs_24   n _ _ _ _ hw) ⟨rfl, rfl, rfl, rfl, trivial⟩
def w_X0_howMany_J28 (r : Nat) (Q : Int32 → zS → Prop) (K4 : Int32 → Int32 → Int32 → zS → Prop) (x1 x2 x3 : Int32) (σ : zS) : Prop := K4 x1 x2 ((x3 + (1 : Int32))) σ
def w_X0_howMany_L4 (r : Nat) (Q : Int32 → zS → Prop)  : Nat → Int32 → Int32 → Int32 → zS → Prop
  | 0, _, _, _, _ => False
  | n + 1, x1, x2, x3, σ => (((σ.1 1 7) ≤ x3 → Q x2 σ) ∧ (¬ ((σ.1 1 7) ≤ x3) → (vp_in x3 30 ∧ (((σ.2 ((r + 1)) x3.toNatClampNeg) = x1 → w_X0_howMany_J28 r Q (fun a1 a2 a3 aσ => w_X0_howMany_L4 r Q  n a1 a2 a3 aσ) x1 ((x2 + (1 : Int32))) x3  σ) ∧ (¬ ((σ.2 ((r + 1)) x3.toNatClampNeg) = x1) → w_X0_howMany_J28 r Q (fun a1 a2 a3 aσ => w_X0_howMany_L4 r Q  n a1 a2 a3 aσ) x1 x2 x3  σ)))))
def w_X0_howMany (r : Nat) (x1 : Int32) (σ : zS) (Q : Int32 → zS → Prop) : Prop := ∃ m4, w_X0_howMany_L4 r Q  m4 x1 ((0 : Int32)) ((0 : Int32)) σ
set_option maxHeartbeats 4000000 in
set_option maxRecDepth 100000 in
theorem j_X0_howMany_28 {r b : Nat} (hr : zHr r b) {Q : Int32 → zS → Prop} {K4 : Int32 → Int32 → Int32 → zS → Prop} (hK4 : ∀ (a1 a2 a3 : Int32) (σ : zS), K4 a1 a2 a3 σ → zAW RX0 cX0_howMany 4 (some .int) false { frames := 0, cells := 0, slots := 0, locals := 0 } zΓ.length (zN zΓ (zρ b) Q) 4 [(0, .ref r), (1, .int a1), (2, .int a2), (3, .int a3)] [] zΓ (zρ b) σ 0 0) {x1 x2 x3 : Int32} {σ : zS} (hw : w_X0_howMany_J28 r Q K4 x1 x2 x3 σ) : zAW RX0 cX0_howMany 4 (some .int) false { frames := 0, cells := 0, slots := 0, locals := 0 } zΓ.length (zN zΓ (zρ b) Q) 28 [(0, .ref r), (1, .int x1), (2, .int x2), (3, .int x3)] [] zΓ (zρ b) σ 0 0 := by
  have h0 := zHw hr
  unfold w_X0_howMany_J28 at hw
  refine z_iinc dX0_howMany_28 rfl zi1 (Nat.le_of_ble_eq_true rfl) ?_
  refine z_goto dX0_howMany_31 ?_
  exact z_to (hK4 _ _ _ _ hw) ⟨rfl, rfl, rfl, rfl, trivial⟩
set_option maxHeartbeats 4000000 in
set_option maxRecDepth 100000 in
theorem l_X0_howMany_4 {r b : Nat} (hr : zHr r b) {Q : Int32 → zS → Prop}   : ∀ (n : Nat) (x1 x2 x3 : Int32) (σ : zS), w_X0_howMany_L4 r Q  n x1 x2 x3 σ → zAW RX0 cX0_howMany 4 (some .int) false { frames := 0, cells := 0, slots := 0, locals := 0 } zΓ.length (zN zΓ (zρ b) Q) 4 [(0, .ref r), (1, .int x1), (2, .int x2), (3, .int x3)] [] zΓ (zρ b) σ 0 0 := by
  intro n
  induction n with
  | zero => intro x1 x2 x3 σ hw; exact hw.elim
  | succ n hK4 =>
    intro x1 x2 x3 σ hw
    have h0 := zHw hr
    rw [w_X0_howMany_L4] at hw
    refine z_iload_n dX0_howMany_4 rfl rfl ?_
    refine z_aload_n dX0_howMany_5 rfl rfl ?_
    refine z_getr dX0_howMany_6 fX0_42 (zgC0 h0) zkX0_0 (zrC0 h0) ?_
    refine z_geti dX0_howMany_9 fX0_128 zg1 zkX4_7 ?_
    refine z_icmp_ge dX0_howMany_12 hw (fun hw => ?_) (fun hw => ?_)
    · refine z_iload_n dX0_howMany_34 rfl rfl ?_
      exact z_iret dX0_howMany_35 (Nat.le_refl _) (Nat.le_refl _) rfl ⟨rfl, rfl, hw⟩
    · refine z_aload_n dX0_howMany_15 rfl rfl ?_
      refine z_getr dX0_howMany_16 fX0_9 (zgC0 h0) zkX0_1 (zrC1 h0) ?_
      refine z_iload_n dX0_howMany_19 rfl rfl ?_
      refine z_iald dX0_howMany_20 (zgC1 h0) hw (fun hw => ?_)
      refine z_iload_n dX0_howMany_21 rfl rfl ?_
      refine z_icmp_ne dX0_howMany_22 hw (fun hw => ?_) (fun hw => ?_)
      · exact z_to (j_X0_howMany_28 hr hK4 hw) ⟨rfl, rfl, rfl, rfl, trivial⟩
      · refine z_iinc dX0_howMany_25 rfl zi1 (Nat.le_of_ble_eq_true rfl) ?_
        exact z_to (j_X0_howMany_28 hr hK4 hw) ⟨rfl, rfl, rfl, rfl, trivial⟩
set_option maxHeartbeats 4000000 in
set_option maxRecDepth 100000 in
theorem c_X0_howMany {r b : Nat} (hr : zHr r b) {x1 : Int32} {σ : zS} {Q : Int32 → zS → Prop} (hw : w_X0_howMany r x1 σ Q) : zAC yX0_howMany cX0_howMany 4 (some .int) { frames := 0, cells := 0, slots := 0, locals := 0 } [.ref r, .int x1] zΓ (zρ b) σ (zN zΓ (zρ b) Q) := by
  have h0 := zHw hr
  refine z_entry (own := RX0) (ini := false) (plainFor_of_name pnX0) rfl (fun h => by cases h) (Nat.le_of_ble_eq_true rfl) ?_
  unfold w_X0_howMany at hw
  refine z_iconst dX0_howMany_0 zi0 ?_
  refine z_istore_n dX0_howMany_1 rfl (Nat.le_of_ble_eq_true rfl) ?_
  refine z_iconst dX0_howMany_2 zi0 ?_
  refine z_istore_n dX0_howMany_3 rfl (Nat.le_of_ble_eq_true rfl) ?_
  obtain ⟨n, hw⟩ := hw
  exact z_to (l_X0_howMany_4 hr  n _ _ _ _ hw) ⟨rfl, rfl, rfl, rfl, trivial⟩
def w_X0_turnedTogether_L4 (r : Nat) (Q : Int32 → zS → Prop)  : Nat → Int32 → Int32 → zS → Prop
  | 0, _, _, _ => False
  | n + 1, x1, x2, σ => (((σ.1 1 7) ≤ x2 → Q x1 σ) ∧ (¬ ((σ.1 1 7) ≤ x2) → (vp_in x2 30 ∧ (fun a1 a2 aσ => w_X0_turnedTogether_L4 r Q  n a1 a2 aσ) ((x1 + (σ.2 ((r + 4)) x2.toNatClampNeg))) ((x2 + (1 : Int32))) σ)))
def w_X0_turnedTogether (r : Nat) (σ : zS) (Q : Int32 → zS → Prop) : Prop := ∃ m4, w_X0_turnedTogether_L4 r Q  m4 ((0 : Int32)) ((0 : Int32)) σ
set_option maxHeartbeats 4000000 in
set_option maxRecDepth 100000 in
theorem l_X0_turnedTogether_4 {r b : Nat} (hr : zHr r b) {Q : Int32 → zS → Prop}   : ∀ (n : Nat) (x1 x2 : Int32) (σ : zS), w_X0_turnedTogether_L4 r Q  n x1 x2 σ → zAW RX0 cX0_turnedTogether 3 (some .int) false { frames := 0, cells := 0, slots := 0, locals := 0 } zΓ.length (zN zΓ (zρ b) Q) 4 [(0, .ref r), (1, .int x1), (2, .int x2)] [] zΓ (zρ b) σ 0 0 := by
  intro n
  induction n with
  | zero => intro x1 x2 σ hw; exact hw.elim
  | succ n hK4 =>
    intro x1 x2 σ hw
    have h0 := zHw hr
    rw [w_X0_turnedTogether_L4] at hw
    refine z_iload_n dX0_turnedTogether_4 rfl rfl ?_
    refine z_aload_n dX0_turnedTogether_5 rfl rfl ?_
    refine z_getr dX0_turnedTogether_6 fX0_42 (zgC0 h0) zkX0_0 (zrC0 h0) ?_
    refine z_geti dX0_turnedTogether_9 fX0_128 zg1 zkX4_7 ?_
    refine z_icmp_ge dX0_turnedTogether_12 hw (fun hw => ?_) (fun hw => ?_)
    · refine z_iload_n dX0_turnedTogether_30 rfl rfl ?_
      exact z_iret dX0_turnedTogether_31 (Nat.le_refl _) (Nat.le_refl _) rfl ⟨rfl, rfl, hw⟩
    · refine z_iload_n dX0_turnedTogether_15 rfl rfl ?_
      refine z_aload_n dX0_turnedTogether_16 rfl rfl ?_
      refine z_getr dX0_turnedTogether_17 fX0_21 (zgC0 h0) zkX0_4 (zrC4 h0) ?_
      refine z_iload_n dX0_turnedTogether_20 rfl rfl ?_
      refine z_iald dX0_turnedTogether_21 (zgC4 h0) hw (fun hw => ?_)
      refine z_iadd dX0_turnedTogether_22 ?_
      refine z_istore_n dX0_turnedTogether_23 rfl (Nat.le_of_ble_eq_true rfl) ?_
      refine z_iinc dX0_turnedTogether_24 rfl zi1 (Nat.le_of_ble_eq_true rfl) ?_
      refine z_goto dX0_turnedTogether_27 ?_
      exact z_to (hK4 _ _ _ hw) ⟨rfl, rfl, rfl, trivial⟩
set_option maxHeartbeats 4000000 in
set_option maxRecDepth 100000 in
theorem c_X0_turnedTogether {r b : Nat} (hr : zHr r b) {σ : zS} {Q : Int32 → zS → Prop} (hw : w_X0_turnedTogether r  σ Q) : zAC yX0_turnedTogether cX0_turnedTogether 3 (some .int) { frames := 0, cells := 0, slots := 0, locals := 0 } [.ref r] zΓ (zρ b) σ (zN zΓ (zρ b) Q) := by
  have h0 := zHw hr
  refine z_entry (own := RX0) (ini := false) (plainFor_of_name pnX0) rfl (fun h => by cases h) (Nat.le_of_ble_eq_true rfl) ?_
  unfold w_X0_turnedTogether at hw
  refine z_iconst dX0_turnedTogether_0 zi0 ?_
  refine z_istore_n dX0_turnedTogether_1 rfl (Nat.le_of_ble_eq_true rfl) ?_
  refine z_iconst dX0_turnedTogether_2 zi0 ?_
  refine z_istore_n dX0_turnedTogether_3 rfl (Nat.le_of_ble_eq_true rfl) ?_
  obtain ⟨n, hw⟩ := hw
  exact z_to (l_X0_turnedTogether_4 hr  n _ _ _ hw) ⟨rfl, rfl, rfl, trivial⟩
def w_X0_dearest_J37 (r : Nat) (Q : Int32 → zS → Prop) (K5 : Int32 → Int32 → zS → Prop) (x1 x2 : Int32) (σ : zS) : Prop := K5 x1 ((x2 + (1 : Int32))) σ
def w_X0_dearest_J35 (r : Nat) (Q : Int32 → zS → Prop) (K5 : Int32 → Int32 → zS → Prop) (x2 : Int32) (σ : zS) : Prop := w_X0_dearest_J37 r Q K5 x2 x2  σ
def w_X0_dearest_L5 (r : Nat) (Q : Int32 → zS → Prop)  : Nat → Int32 → Int32 → zS → Prop
  | 0, _, _, _ => False
  | n + 1, x1, x2, σ => (((σ.1 1 7) ≤ x2 → Q x1 σ) ∧ (¬ ((σ.1 1 7) ≤ x2) → ((x1 = (-4 : Int32) → w_X0_dearest_J35 r Q (fun a1 a2 aσ => w_X0_dearest_L5 r Q  n a1 a2 aσ) x2  σ) ∧ (¬ (x1 = (-4 : Int32)) → (w_X0_costOf r x2 σ fun v1 t2 => (w_X0_costOf r x1 t2 fun v3 t4 => ((v1 ≤ v3 → w_X0_dearest_J37 r Q (fun a1 a2 aσ => w_X0_dearest_L5 r Q  n a1 a2 aσ) x1 x2  t4) ∧ (¬ (v1 ≤ v3) → w_X0_dearest_J35 r Q (fun a1 a2 aσ => w_X0_dearest_L5 r Q  n a1 a2 aσ) x2  t4))))))))
def w_X0_dearest (r : Nat) (σ : zS) (Q : Int32 → zS → Prop) : Prop := ∃ m5, w_X0_dearest_L5 r Q  m5 ((-4 : Int32)) ((0 : Int32)) σ
set_option maxHeartbeats 4000000 in
set_option maxRecDepth 100000 in
theorem j_X0_dearest_37 {r b : Nat} (hr : zHr r b) {Q : Int32 → zS → Prop} {K5 : Int32 → Int32 → zS → Prop} (hK5 : ∀ (a1 a2 : Int32) (σ : zS), K5 a1 a2 σ → zAW RX0 cX0_dearest 3 (some .int) false { frames := 1, cells := 0, slots := 0, locals := 22 } zΓ.length (zN zΓ (zρ b) Q) 5 [(0, .ref r), (1, .int a1), (2, .int a2)] [] zΓ (zρ b) σ 0 0) {x1 x2 : Int32} {σ : zS} (hw : w_X0_dearest_J37 r Q K5 x1 x2 σ) : zAW RX0 cX0_dearest 3 (some .int) false { frames := 1, cells := 0, slots := 0, locals := 22 } zΓ.length (zN zΓ (zρ b) Q) 37 [(0, .ref r), (1, .int x1), (2, .int x2)] [] zΓ (zρ b) σ 0 0 := by
  have h0 := zHw hr
  unfold w_X0_dearest_J37 at hw
  refine z_iinc dX0_dearest_37 rfl zi1 (Nat.le_of_ble_eq_true rfl) ?_
  refine z_goto dX0_dearest_40 ?_
  exact z_to (hK5 _ _ _ hw) ⟨rfl, rfl, rfl, trivial⟩
set_option maxHeartbeats 4000000 in
set_option maxRecDepth 100000 in
theorem j_X0_dearest_35 {r b : Nat} (hr : zHr r b) {Q : Int32 → zS → Prop} {K5 : Int32 → Int32 → zS → Prop} (hK5 : ∀ (a1 a2 : Int32) (σ : zS), K5 a1 a2 σ → zAW RX0 cX0_dearest 3 (some .int) false { frames := 1, cells := 0, slots := 0, locals := 22 } zΓ.length (zN zΓ (zρ b) Q) 5 [(0, .ref r), (1, .int a1), (2, .int a2)] [] zΓ (zρ b) σ 0 0) {x2 : Int32} {σ : zS} (hw : w_X0_dearest_J35 r Q K5 x2 σ) : zAW RX0 cX0_dearest 3 (some .int) false { frames := 1, cells := 0, slots := 0, locals := 22 } zΓ.length (zN zΓ (zρ b) Q) 35 [(0, .ref r), (2, .int x2)] [] zΓ (zρ b) σ 0 0 := by
  have h0 := zHw hr
  unfold w_X0_dearest_J35 at hw
  refine z_iload_n dX0_dearest_35 rfl rfl ?_
  refine z_istore_n dX0_dearest_36 rfl (Nat.le_of_ble_eq_true rfl) ?_
  exact z_to (j_X0_dearest_37 hr hK5 hw) ⟨rfl, rfl, rfl, trivial⟩
set_option maxHeartbeats 4000000 in
set_option maxRecDepth 100000 in
theorem l_X0_dearest_5 {r b : Nat} (hr : zHr r b) {Q : Int32 → zS → Prop}   : ∀ (n : Nat) (x1 x2 : Int32) (σ : zS), w_X0_dearest_L5 r Q  n x1 x2 σ → zAW RX0 cX0_dearest 3 (some .int) false { frames := 1, cells := 0, slots := 0, locals := 22 } zΓ.length (zN zΓ (zρ b) Q) 5 [(0, .ref r), (1, .int x1), (2, .int x2)] [] zΓ (zρ b) σ 0 0 := by
  intro n
  induction n with
  | zero => intro x1 x2 σ hw; exact hw.elim
  | succ n hK5 =>
    intro x1 x2 σ hw
    have h0 := zHw hr
    rw [w_X0_dearest_L5] at hw
    refine z_iload_n dX0_dearest_5 rfl rfl ?_
    refine z_aload_n dX0_dearest_6 rfl rfl ?_
    refine z_getr dX0_dearest_7 fX0_42 (zgC0 h0) zkX0_0 (zrC0 h0) ?_
    refine z_geti dX0_dearest_10 fX0_128 zg1 zkX4_7 ?_
    refine z_icmp_ge dX0_dearest_13 hw (fun hw => ?_) (fun hw => ?_)
    · refine z_iload_n dX0_dearest_43 rfl rfl ?_
      exact z_iret dX0_dearest_44 (Nat.le_refl _) (Nat.le_refl _) rfl ⟨rfl, rfl, hw⟩
    · refine z_iload_n dX0_dearest_16 rfl rfl ?_
      refine z_bipush dX0_dearest_17 zbpm4 ?_
      refine z_icmp_eq dX0_dearest_19 hw (fun hw => ?_) (fun hw => ?_)
      · exact z_to (j_X0_dearest_35 hr hK5 hw) ⟨rfl, rfl, trivial⟩
      · refine z_aload_n dX0_dearest_22 rfl rfl ?_
        refine z_iload_n dX0_dearest_23 rfl rfl ?_
        refine z_callV dX0_dearest_24 mX0_203 (c_X0_costOf hr hw) (zgC0 h0) rfl rfl (Nat.le_of_ble_eq_true rfl) ⟨Nat.le_of_ble_eq_true rfl, Nat.le_of_ble_eq_true rfl⟩ ⟨Nat.le_refl _, Nat.le_refl _⟩ (fun _ _ hw => ?_)
        refine z_aload_n dX0_dearest_27 rfl rfl ?_
        refine z_iload_n dX0_dearest_28 rfl rfl ?_
        refine z_callV dX0_dearest_29 mX0_203 (c_X0_costOf hr hw) (zgC0 h0) rfl rfl (Nat.le_of_ble_eq_true rfl) ⟨Nat.le_of_ble_eq_true rfl, Nat.le_of_ble_eq_true rfl⟩ ⟨Nat.le_refl _, Nat.le_refl _⟩ (fun _ _ hw => ?_)
        refine z_icmp_le dX0_dearest_32 hw (fun hw => ?_) (fun hw => ?_)
        · exact z_to (j_X0_dearest_37 hr hK5 hw) ⟨rfl, rfl, rfl, trivial⟩
        · exact z_to (j_X0_dearest_35 hr hK5 hw) ⟨rfl, rfl, trivial⟩
set_option maxHeartbeats 4000000 in
set_option maxRecDepth 100000 in
theorem c_X0_dearest {r b : Nat} (hr : zHr r b) {σ : zS} {Q : Int32 → zS → Prop} (hw : w_X0_dearest r  σ Q) : zAC yX0_dearest cX0_dearest 3 (some .int) { frames := 1, cells := 0, slots := 0, locals := 22 } [.ref r] zΓ (zρ b) σ (zN zΓ (zρ b) Q) := by
  have h0 := zHw hr
  refine z_entry (own := RX0) (ini := false) (plainFor_of_name pnX0) rfl (fun h => by cases h) (Nat.le_of_ble_eq_true rfl) ?_
  unfold w_X0_dearest at hw
  refine z_bipush dX0_dearest_0 zbpm4 ?_
  refine z_istore_n dX0_dearest_2 rfl (Nat.le_of_ble_eq_true rfl) ?_
  refine z_iconst dX0_dearest_3 zi0 ?_
  refine z_istore_n dX0_dearest_4 rfl (Nat.le_of_ble_eq_true rfl) ?_
  obtain ⟨n, hw⟩ := hw
  exact z_to (l_X0_dearest_5 hr  n _ _ _ hw) ⟨rfl, rfl, rfl, trivial⟩
def w_X6_day  (x1 : Int32) (σ : zS) (Q : Int32 → zS → Prop) : Prop := (w_X6_within x1 ((0 : Int32)) ((3 : Int32)) σ fun v1 t2 => ((v1 = 0 → Q (-1 : Int32) t2) ∧ (¬ (v1 = 0) → (w_X0_playDay ((t2.1 10 11)) ((-1 : Int32)) t2 fun v3 t4 => ((x1 = (0 : Int32) → (w_X0_howMany 30 ((4 : Int32)) t4 fun v5 t6 => Q ((t4.1 1 7) - v5) t6)) ∧ (¬ (x1 = (0 : Int32)) → ((x1 = (1 : Int32) → (w_X0_turnedTogether 30 t4 fun v8 t9 => Q v8 t9)) ∧ (¬ (x1 = (1 : Int32)) → ((x1 = (2 : Int32) → Q (t4.1 30 15) t4) ∧ (¬ (x1 = (2 : Int32)) → (w_X0_dearest 30 t4 fun v12 t13 => Q v12 t13)))))))))))
set_option maxHeartbeats 4000000 in
set_option maxRecDepth 100000 in
theorem c_X6_day {b : Nat} {x1 : Int32} {σ : zS} {Q : Int32 → zS → Prop} (hw : w_X6_day x1 σ Q) : zAC yX6_day cX6_day 2 (some .int) { frames := 7, cells := 0, slots := 0, locals := 153 } [.ref 0, .int x1] zΓ (zρ b) σ (zNp Q) := by
  refine z_entry (own := RX6) (ini := false) (plainFor_of_name pnX6) rfl (fun h => by cases h) (Nat.le_of_ble_eq_true rfl) ?_
  unfold w_X6_day at hw
  refine z_iload_n dX6_day_0 rfl rfl ?_
  refine z_iconst dX6_day_1 zi0 ?_
  refine z_iconst dX6_day_2 zi3 ?_
  refine z_callS dX6_day_3 mX6_58 (c_X6_within  hw) rfl rfl (Nat.le_of_ble_eq_true rfl) ⟨Nat.le_of_ble_eq_true rfl, Nat.le_of_ble_eq_true rfl⟩ ⟨Nat.le_refl _, Nat.le_refl _⟩ (fun _ _ hw => ?_)
  refine z_if_ne dX6_day_6 hw (fun hw => ?_) (fun hw => ?_)
  · refine z_aload_n dX6_day_11 rfl rfl ?_
    refine z_getr dX6_day_12 fX6_34 zg0 zkX6_2 zr0_2 ?_
    refine z_aload_n dX6_day_15 rfl rfl ?_
    refine z_getr dX6_day_16 fX6_21 zg0 zkX6_6 zr0_6 ?_
    refine z_aload_n dX6_day_19 rfl rfl ?_
    refine z_getr dX6_day_20 fX6_30 zg0 zkX6_1 zr0_1 ?_
    refine z_geti dX6_day_23 fX6_95 (zgC0 (Or.inl rfl)) zkX0_11 ?_
    refine z_iconst dX6_day_26 zim1 ?_
    refine z_callV dX6_day_27 mX6_164 (c_X0_playDay  hw) (zgC0 (Or.inr rfl)) rfl rfl (Nat.le_of_ble_eq_true rfl) ⟨Nat.le_of_ble_eq_true rfl, Nat.le_of_ble_eq_true rfl⟩ ⟨Nat.le_refl _, Nat.le_refl _⟩ (fun _ _ hw => ?_)
    refine z_pop dX6_day_30 rfl ?_
    refine z_iload_n dX6_day_31 rfl rfl ?_
    by_cases hs7 : x1 = (0 : Int32)
    · refine z_tabIn (tgt := 60) (off := 28) dX6_day_32 hs7 (by decide) (by decide) (by decide) (by decide) ?_
      have hw := hw.1 hs7
      refine z_aload_n dX6_day_60 rfl rfl ?_
      refine z_getr dX6_day_61 fX6_12 zg0 zkX6_0 zr0_0 ?_
      refine z_geti dX6_day_64 fX6_66 zg1 zkX4_7 ?_
      refine z_aload_n dX6_day_67 rfl rfl ?_
      refine z_getr dX6_day_68 fX6_34 zg0 zkX6_2 zr0_2 ?_
      refine z_iconst dX6_day_71 zi4 ?_
      refine z_callV dX6_day_72 mX6_176 (c_X0_howMany zH30 hw) (zgC0 (Or.inr rfl)) rfl rfl (Nat.le_of_ble_eq_true rfl) ⟨Nat.le_of_ble_eq_true rfl, Nat.le_of_ble_eq_true rfl⟩ ⟨Nat.le_refl _, Nat.le_refl _⟩ (fun _ _ hw => ?_)
      refine z_isub dX6_day_75 ?_
      exact z_iret dX6_day_76 (Nat.le_refl _) (Nat.le_refl _) rfl ⟨rfl, ⟨_, rfl⟩, hw⟩
    have hw := hw.2 hs7
    by_cases hs10 : x1 = (1 : Int32)
    · refine z_tabIn (tgt := 77) (off := 45) dX6_day_32 hs10 (by decide) (by decide) (by decide) (by decide) ?_
      have hw := hw.1 hs10
      refine z_aload_n dX6_day_77 rfl rfl ?_
      refine z_getr dX6_day_78 fX6_34 zg0 zkX6_2 zr0_2 ?_
      refine z_callV dX6_day_81 mX6_179 (c_X0_turnedTogether zH30 hw) (zgC0 (Or.inr rfl)) rfl rfl (Nat.le_of_ble_eq_true rfl) ⟨Nat.le_of_ble_eq_true rfl, Nat.le_of_ble_eq_true rfl⟩ ⟨Nat.le_refl _, Nat.le_refl _⟩ (fun _ _ hw => ?_)
      exact z_iret dX6_day_84 (Nat.le_refl _) (Nat.le_refl _) rfl ⟨rfl, ⟨_, rfl⟩, hw⟩
    have hw := hw.2 hs10
    by_cases hs11 : x1 = (2 : Int32)
    · refine z_tabIn (tgt := 85) (off := 53) dX6_day_32 hs11 (by decide) (by decide) (by decide) (by decide) ?_
      have hw := hw.1 hs11
      refine z_aload_n dX6_day_85 rfl rfl ?_
      refine z_getr dX6_day_86 fX6_34 zg0 zkX6_2 zr0_2 ?_
      refine z_geti dX6_day_89 fX6_183 (zgC0 (Or.inr rfl)) zkX0_15 ?_
      exact z_iret dX6_day_92 (Nat.le_refl _) (Nat.le_refl _) rfl ⟨rfl, ⟨_, rfl⟩, hw⟩
    have hw := hw.2 hs11
    have hs7 := zne (0 : Int32) (0) (by decide) hs7
    have hs10 := zne (1 : Int32) (1) (by decide) hs10
    have hs11 := zne (2 : Int32) (2) (by decide) hs11
    refine z_tabOut (tgt := 93) dX6_day_32 (by omega) (by decide) ?_
    refine z_aload_n dX6_day_93 rfl rfl ?_
    refine z_getr dX6_day_94 fX6_34 zg0 zkX6_2 zr0_2 ?_
    refine z_callV dX6_day_97 mX6_186 (c_X0_dearest zH30 hw) (zgC0 (Or.inr rfl)) rfl rfl (Nat.le_of_ble_eq_true rfl) ⟨Nat.le_of_ble_eq_true rfl, Nat.le_of_ble_eq_true rfl⟩ ⟨Nat.le_refl _, Nat.le_refl _⟩ (fun _ _ hw => ?_)
    exact z_iret dX6_day_100 (Nat.le_refl _) (Nat.le_refl _) rfl ⟨rfl, ⟨_, rfl⟩, hw⟩
  · refine z_iconst dX6_day_9 zim1 ?_
    exact z_iret dX6_day_10 (Nat.le_refl _) (Nat.le_refl _) rfl ⟨rfl, ⟨_, rfl⟩, hw⟩
def w_X1_stepsToDoor_L3 (Q : Int32 → zS → Prop)  : Nat → Int32 → Int32 → Int32 → Int32 → zS → Prop
  | 0, _, _, _, _, _ => False
  | n + 1, x1, x2, x3, x4, σ => ((x3 < x4 → Q (x3 + (1 : Int32)) σ) ∧ (¬ (x3 < x4) → (w_X2_along ((σ.1 10 14)) ((x2 * x4)) σ fun v1 t2 => (w_X0_openDoor 10 x1 v1 t2 fun v3 t4 => ((v3 = (-4 : Int32) → (fun a1 a2 a3 a4 aσ => w_X1_stepsToDoor_L3 Q  n a1 a2 a3 a4 aσ) x1 x2 x3 ((x4 + (1 : Int32))) t4) ∧ (¬ (v3 = (-4 : Int32)) → Q x4 t4))))))
def w_X1_stepsToDoor  (x1 x2 x3 : Int32) (σ : zS) (Q : Int32 → zS → Prop) : Prop := ∃ m3, w_X1_stepsToDoor_L3 Q  m3 x1 x2 x3 ((0 : Int32)) σ
set_option maxHeartbeats 4000000 in
set_option maxRecDepth 100000 in
theorem l_X1_stepsToDoor_3 {b : Nat} {Q : Int32 → zS → Prop}   : ∀ (n : Nat) (x1 x2 x3 x4 : Int32) (σ : zS), w_X1_stepsToDoor_L3 Q  n x1 x2 x3 x4 σ → zAW RX1 cX1_stepsToDoor 5 (some .int) false { frames := 3, cells := 0, slots := 0, locals := 68 } zΓ.length (zN zΓ (zρ b) Q) 3 [(0, .ref 10), (1, .int x1), (2, .int x2), (3, .int x3), (4, .int x4)] [] zΓ (zρ b) σ 0 0 := by
  intro n
  induction n with
  | zero => intro x1 x2 x3 x4 σ hw; exact hw.elim
  | succ n hK3 =>
    intro x1 x2 x3 x4 σ hw
    rw [w_X1_stepsToDoor_L3] at hw
    refine z_iload dX1_stepsToDoor_3 rfl ?_
    refine z_iload_n dX1_stepsToDoor_5 rfl rfl ?_
    refine z_icmp_gt dX1_stepsToDoor_6 hw (fun hw => ?_) (fun hw => ?_)
    · refine z_iload_n dX1_stepsToDoor_43 rfl rfl ?_
      refine z_iconst dX1_stepsToDoor_44 zi1 ?_
      refine z_iadd dX1_stepsToDoor_45 ?_
      exact z_iret dX1_stepsToDoor_46 (Nat.le_refl _) (Nat.le_refl _) rfl ⟨rfl, rfl, hw⟩
    · refine z_aload_n dX1_stepsToDoor_9 rfl rfl ?_
      refine z_iload_n dX1_stepsToDoor_10 rfl rfl ?_
      refine z_aload_n dX1_stepsToDoor_11 rfl rfl ?_
      refine z_getr dX1_stepsToDoor_12 fX1_18 (zgC0 (Or.inl rfl)) zkX0_10 (zrC10 zH10) ?_
      refine z_aload_n dX1_stepsToDoor_15 rfl rfl ?_
      refine z_geti dX1_stepsToDoor_16 fX1_51 (zgC0 (Or.inl rfl)) zkX0_14 ?_
      refine z_iload_n dX1_stepsToDoor_19 rfl rfl ?_
      refine z_iload dX1_stepsToDoor_20 rfl ?_
      refine z_imul dX1_stepsToDoor_22 ?_
      refine z_callV dX1_stepsToDoor_23 mX1_54 (c_X2_along  hw) zg9 rfl rfl (Nat.le_of_ble_eq_true rfl) ⟨Nat.le_of_ble_eq_true rfl, Nat.le_of_ble_eq_true rfl⟩ ⟨Nat.le_refl _, Nat.le_refl _⟩ (fun _ _ hw => ?_)
      refine z_callV dX1_stepsToDoor_26 mX1_57 (c_X0_openDoor zH10 hw) (zgC0 (Or.inl rfl)) rfl rfl (Nat.le_of_ble_eq_true rfl) ⟨Nat.le_of_ble_eq_true rfl, Nat.le_of_ble_eq_true rfl⟩ ⟨Nat.le_refl _, Nat.le_refl _⟩ (fun _ _ hw => ?_)
      refine z_bipush dX1_stepsToDoor_29 zbpm4 ?_
      refine z_icmp_eq dX1_stepsToDoor_31 hw (fun hw => ?_) (fun hw => ?_)
      · refine z_iinc dX1_stepsToDoor_37 rfl zi1 (Nat.le_of_ble_eq_true rfl) ?_
        refine z_goto dX1_stepsToDoor_40 ?_
        exact z_to (hK3 _ _ _ _ _ hw) ⟨rfl, rfl, rfl, rfl, rfl, trivial⟩
      · refine z_iload dX1_stepsToDoor_34 rfl ?_
        exact z_iret dX1_stepsToDoor_36 (Nat.le_refl _) (Nat.le_refl _) rfl ⟨rfl, rfl, hw⟩
set_option maxHeartbeats 4000000 in
set_option maxRecDepth 100000 in
theorem c_X1_stepsToDoor {b : Nat} {x1 x2 x3 : Int32} {σ : zS} {Q : Int32 → zS → Prop} (hw : w_X1_stepsToDoor x1 x2 x3 σ Q) : zAC yX1_stepsToDoor cX1_stepsToDoor 5 (some .int) { frames := 3, cells := 0, slots := 0, locals := 68 } [.ref 10, .int x1, .int x2, .int x3] zΓ (zρ b) σ (zN zΓ (zρ b) Q) := by
  refine z_entry (own := RX1) (ini := false) (plainFor_of_name pnX1) rfl (fun h => by cases h) (Nat.le_of_ble_eq_true rfl) ?_
  unfold w_X1_stepsToDoor at hw
  refine z_iconst dX1_stepsToDoor_0 zi0 ?_
  refine z_istore dX1_stepsToDoor_1 (Nat.le_of_ble_eq_true rfl) ?_
  obtain ⟨n, hw⟩ := hw
  exact z_to (l_X1_stepsToDoor_3   n _ _ _ _ _ hw) ⟨rfl, rfl, rfl, rfl, rfl, trivial⟩
def w_X1_measure_L2 (Q : Int32 → zS → Prop)  : Nat → Int32 → Int32 → zS → Prop
  | 0, _, _, _ => False
  | n + 1, x2, x3, σ => (((σ.1 9 3) ≤ x3 → Q 0 σ) ∧ (¬ ((σ.1 9 3) ≤ x3) → (w_X1_stepsToDoor x3 ((1 : Int32)) x2 σ fun v1 t2 => (vp_in x3 18 ∧ zlet (zA t2 51 x3.toNatClampNeg v1) fun t3 => (w_X1_stepsToDoor x3 ((-1 : Int32)) x2 t3 fun v4 t5 => (vp_in x3 18 ∧ zlet (zA t5 52 x3.toNatClampNeg v4) fun t6 => (fun a2 a3 aσ => w_X1_measure_L2 Q  n a2 a3 aσ) x2 ((x3 + (1 : Int32))) t6))))))
def w_X1_measure  (x2 : Int32) (σ : zS) (Q : Int32 → zS → Prop) : Prop := ∃ m2, w_X1_measure_L2 Q  m2 x2 ((0 : Int32)) σ
set_option maxHeartbeats 4000000 in
set_option maxRecDepth 100000 in
theorem l_X1_measure_2 {b : Nat} {Q : Int32 → zS → Prop}   : ∀ (n : Nat) (x2 x3 : Int32) (σ : zS), w_X1_measure_L2 Q  n x2 x3 σ → zAW RX1 cX1_measure 4 none false { frames := 4, cells := 0, slots := 0, locals := 92 } zΓ.length (zN zΓ (zρ b) Q) 2 [(0, .ref 50), (1, .ref 10), (2, .int x2), (3, .int x3)] [] zΓ (zρ b) σ 0 0 := by
  intro n
  induction n with
  | zero => intro x2 x3 σ hw; exact hw.elim
  | succ n hK2 =>
    intro x2 x3 σ hw
    rw [w_X1_measure_L2] at hw
    refine z_iload_n dX1_measure_2 rfl rfl ?_
    refine z_aload_n dX1_measure_3 rfl rfl ?_
    refine z_getr dX1_measure_4 fX1_18 (zgC0 (Or.inl rfl)) zkX0_10 (zrC10 zH10) ?_
    refine z_geti dX1_measure_7 fX1_44 zg9 zkX2_3 ?_
    refine z_icmp_ge dX1_measure_10 hw (fun hw => ?_) (fun hw => ?_)
    · exact z_vret dX1_measure_45 (Nat.le_refl _) (Nat.le_refl _) rfl ⟨rfl, rfl, hw⟩
    · refine z_aload_n dX1_measure_13 rfl rfl ?_
      refine z_getr dX1_measure_14 fX1_9 zg50 zkX1_0 zr50_0 ?_
      refine z_iload_n dX1_measure_17 rfl rfl ?_
      refine z_aload_n dX1_measure_18 rfl rfl ?_
      refine z_iload_n dX1_measure_19 rfl rfl ?_
      refine z_iconst dX1_measure_20 zi1 ?_
      refine z_iload_n dX1_measure_21 rfl rfl ?_
      refine z_callS dX1_measure_22 mX1_47 (c_X1_stepsToDoor  hw) rfl rfl (Nat.le_of_ble_eq_true rfl) ⟨Nat.le_of_ble_eq_true rfl, Nat.le_of_ble_eq_true rfl⟩ ⟨Nat.le_refl _, Nat.le_refl _⟩ (fun _ _ hw => ?_)
      refine z_iastL dX1_measure_25 zg51 hw (fun hw => ?_)
      refine z_aload_n dX1_measure_26 rfl rfl ?_
      refine z_getr dX1_measure_27 fX1_15 zg50 zkX1_1 zr50_1 ?_
      refine z_iload_n dX1_measure_30 rfl rfl ?_
      refine z_aload_n dX1_measure_31 rfl rfl ?_
      refine z_iload_n dX1_measure_32 rfl rfl ?_
      refine z_iconst dX1_measure_33 zim1 ?_
      refine z_iload_n dX1_measure_34 rfl rfl ?_
      refine z_callS dX1_measure_35 mX1_47 (c_X1_stepsToDoor  hw) rfl rfl (Nat.le_of_ble_eq_true rfl) ⟨Nat.le_of_ble_eq_true rfl, Nat.le_of_ble_eq_true rfl⟩ ⟨Nat.le_refl _, Nat.le_refl _⟩ (fun _ _ hw => ?_)
      refine z_iastL dX1_measure_38 zg52 hw (fun hw => ?_)
      refine z_iinc dX1_measure_39 rfl zi1 (Nat.le_of_ble_eq_true rfl) ?_
      refine z_goto dX1_measure_42 ?_
      exact z_to (hK2 _ _ _ hw) ⟨rfl, rfl, rfl, rfl, trivial⟩
set_option maxHeartbeats 4000000 in
set_option maxRecDepth 100000 in
theorem c_X1_measure {b : Nat} {x2 : Int32} {σ : zS} {Q : Int32 → zS → Prop} (hw : w_X1_measure x2 σ Q) : zAC yX1_measure cX1_measure 4 none { frames := 4, cells := 0, slots := 0, locals := 92 } [.ref 50, .ref 10, .int x2] zΓ (zρ b) σ (zN zΓ (zρ b) Q) := by
  refine z_entry (own := RX1) (ini := false) (plainFor_of_name pnX1) rfl (fun h => by cases h) (Nat.le_of_ble_eq_true rfl) ?_
  unfold w_X1_measure at hw
  refine z_iconst dX1_measure_0 zi0 ?_
  refine z_istore_n dX1_measure_1 rfl (Nat.le_of_ble_eq_true rfl) ?_
  obtain ⟨n, hw⟩ := hw
  exact z_to (l_X1_measure_2   n _ _ _ hw) ⟨rfl, rfl, rfl, rfl, trivial⟩
def w_X1_backBeside_J50 (Q : Int32 → zS → Prop) (K5 : Int32 → Int32 → Int32 → zS → Prop) (x2 x3 x4 : Int32) (σ : zS) : Prop := K5 x2 x3 ((x4 + (1 : Int32))) σ
def w_X1_backBeside_L5 (Q : Int32 → zS → Prop)  : Nat → Int32 → Int32 → Int32 → zS → Prop
  | 0, _, _, _, _ => False
  | n + 1, x2, x3, x4, σ => (((σ.1 9 3) ≤ x4 → Q x3 σ) ∧ (¬ ((σ.1 9 3) ≤ x4) → (vp_in x4 18 ∧ (((σ.2 ((10 + 15)) x4.toNatClampNeg) ≤ 0 → w_X1_backBeside_J50 Q (fun a2 a3 a4 aσ => w_X1_backBeside_L5 Q  n a2 a3 a4 aσ) x2 x3 x4  σ) ∧ (¬ ((σ.2 ((10 + 15)) x4.toNatClampNeg) ≤ 0) → (vp_in x4 18 ∧ (((σ.2 51 x4.toNatClampNeg) ≤ x2 → w_X1_backBeside_J50 Q (fun a2 a3 a4 aσ => w_X1_backBeside_L5 Q  n a2 a3 a4 aσ) x2 x3 x4  σ) ∧ (¬ ((σ.2 51 x4.toNatClampNeg) ≤ x2) → (vp_in x4 18 ∧ w_X1_backBeside_J50 Q (fun a2 a3 a4 aσ => w_X1_backBeside_L5 Q  n a2 a3 a4 aσ) x2 ((if x3 < (σ.2 52 x4.toNatClampNeg) then (σ.2 52 x4.toNatClampNeg) else x3)) x4  σ)))))))))
def w_X1_backBeside  (x2 : Int32) (σ : zS) (Q : Int32 → zS → Prop) : Prop := ∃ m5, w_X1_backBeside_L5 Q  m5 x2 ((0 : Int32)) ((0 : Int32)) σ
set_option maxHeartbeats 4000000 in
set_option maxRecDepth 100000 in
theorem j_X1_backBeside_50 {b : Nat} {Q : Int32 → zS → Prop} {K5 : Int32 → Int32 → Int32 → zS → Prop} (hK5 : ∀ (a2 a3 a4 : Int32) (σ : zS), K5 a2 a3 a4 σ → zAW RX1 cX1_backBeside 5 (some .int) false { frames := 1, cells := 0, slots := 0, locals := 22 } zΓ.length (zN zΓ (zρ b) Q) 5 [(0, .ref 50), (1, .ref 10), (2, .int a2), (3, .int a3), (4, .int a4)] [] zΓ (zρ b) σ 0 0) {x2 x3 x4 : Int32} {σ : zS} (hw : w_X1_backBeside_J50 Q K5 x2 x3 x4 σ) : zAW RX1 cX1_backBeside 5 (some .int) false { frames := 1, cells := 0, slots := 0, locals := 22 } zΓ.length (zN zΓ (zρ b) Q) 50 [(0, .ref 50), (1, .ref 10), (2, .int x2), (3, .int x3), (4, .int x4)] [] zΓ (zρ b) σ 0 0 := by
  unfold w_X1_backBeside_J50 at hw
  refine z_iinc dX1_backBeside_50 rfl zi1 (Nat.le_of_ble_eq_true rfl) ?_
  refine z_goto dX1_backBeside_53 ?_
  exact z_to (hK5 _ _ _ _ hw) ⟨rfl, rfl, rfl, rfl, rfl, trivial⟩
set_option maxHeartbeats 4000000 in
set_option maxRecDepth 100000 in
theorem l_X1_backBeside_5 {b : Nat} {Q : Int32 → zS → Prop}   : ∀ (n : Nat) (x2 x3 x4 : Int32) (σ : zS), w_X1_backBeside_L5 Q  n x2 x3 x4 σ → zAW RX1 cX1_backBeside 5 (some .int) false { frames := 1, cells := 0, slots := 0, locals := 22 } zΓ.length (zN zΓ (zρ b) Q) 5 [(0, .ref 50), (1, .ref 10), (2, .int x2), (3, .int x3), (4, .int x4)] [] zΓ (zρ b) σ 0 0 := by
  intro n
  induction n with
  | zero => intro x2 x3 x4 σ hw; exact hw.elim
  | succ n hK5 =>
    intro x2 x3 x4 σ hw
    rw [w_X1_backBeside_L5] at hw
    refine z_iload dX1_backBeside_5 rfl ?_
    refine z_aload_n dX1_backBeside_7 rfl rfl ?_
    refine z_getr dX1_backBeside_8 fX1_18 (zgC0 (Or.inl rfl)) zkX0_10 (zrC10 zH10) ?_
    refine z_geti dX1_backBeside_11 fX1_44 zg9 zkX2_3 ?_
    refine z_icmp_ge dX1_backBeside_14 hw (fun hw => ?_) (fun hw => ?_)
    · refine z_iload_n dX1_backBeside_56 rfl rfl ?_
      exact z_iret dX1_backBeside_57 (Nat.le_refl _) (Nat.le_refl _) rfl ⟨rfl, rfl, hw⟩
    · refine z_aload_n dX1_backBeside_17 rfl rfl ?_
      refine z_getr dX1_backBeside_18 fX1_60 (zgC0 (Or.inl rfl)) zkX0_7 (zrC7 (Or.inl rfl)) ?_
      refine z_iload dX1_backBeside_21 rfl ?_
      refine z_iald dX1_backBeside_23 (zgC15 (Or.inl rfl)) hw (fun hw => ?_)
      refine z_if_le dX1_backBeside_24 hw (fun hw => ?_) (fun hw => ?_)
      · exact z_to (j_X1_backBeside_50  hK5 hw) ⟨rfl, rfl, rfl, rfl, rfl, trivial⟩
      · refine z_aload_n dX1_backBeside_27 rfl rfl ?_
        refine z_getr dX1_backBeside_28 fX1_9 zg50 zkX1_0 zr50_0 ?_
        refine z_iload dX1_backBeside_31 rfl ?_
        refine z_iald dX1_backBeside_33 zg51 hw (fun hw => ?_)
        refine z_iload_n dX1_backBeside_34 rfl rfl ?_
        refine z_icmp_le dX1_backBeside_35 hw (fun hw => ?_) (fun hw => ?_)
        · exact z_to (j_X1_backBeside_50  hK5 hw) ⟨rfl, rfl, rfl, rfl, rfl, trivial⟩
        · refine z_iload_n dX1_backBeside_38 rfl rfl ?_
          refine z_aload_n dX1_backBeside_39 rfl rfl ?_
          refine z_getr dX1_backBeside_40 fX1_15 zg50 zkX1_1 zr50_1 ?_
          refine z_iload dX1_backBeside_43 rfl ?_
          refine z_iald dX1_backBeside_45 zg52 hw (fun hw => ?_)
          refine z_mmax dX1_backBeside_46 mwX1_63 (Nat.le_of_ble_eq_true rfl) (Nat.le_of_ble_eq_true rfl) (Nat.le_refl _) (Nat.le_refl _) ?_
          refine z_istore_n dX1_backBeside_49 rfl (Nat.le_of_ble_eq_true rfl) ?_
          exact z_to (j_X1_backBeside_50  hK5 hw) ⟨rfl, rfl, rfl, rfl, rfl, trivial⟩
set_option maxHeartbeats 4000000 in
set_option maxRecDepth 100000 in
theorem c_X1_backBeside {b : Nat} {x2 : Int32} {σ : zS} {Q : Int32 → zS → Prop} (hw : w_X1_backBeside x2 σ Q) : zAC yX1_backBeside cX1_backBeside 5 (some .int) { frames := 1, cells := 0, slots := 0, locals := 22 } [.ref 50, .ref 10, .int x2] zΓ (zρ b) σ (zN zΓ (zρ b) Q) := by
  refine z_entry (own := RX1) (ini := false) (plainFor_of_name pnX1) rfl (fun h => by cases h) (Nat.le_of_ble_eq_true rfl) ?_
  unfold w_X1_backBeside at hw
  refine z_iconst dX1_backBeside_0 zi0 ?_
  refine z_istore_n dX1_backBeside_1 rfl (Nat.le_of_ble_eq_true rfl) ?_
  refine z_iconst dX1_backBeside_2 zi0 ?_
  refine z_istore dX1_backBeside_3 (Nat.le_of_ble_eq_true rfl) ?_
  obtain ⟨n, hw⟩ := hw
  exact z_to (l_X1_backBeside_5   n _ _ _ _ hw) ⟨rfl, rfl, rfl, rfl, rfl, trivial⟩
def w_X1_fewestSteps_J73 (Q : Int32 → zS → Prop) (K22 : Int32 → Int32 → Int32 → zS → Prop) (x2 x3 x4 : Int32) (σ : zS) : Prop := K22 x2 x3 ((x4 + (1 : Int32))) σ
def w_X1_fewestSteps_J70 (Q : Int32 → zS → Prop) (K22 : Int32 → Int32 → Int32 → zS → Prop) (x2 x4 x6 : Int32) (σ : zS) : Prop := w_X1_fewestSteps_J73 Q K22 x2 x6 x4  σ
def w_X1_fewestSteps_L22 (Q : Int32 → zS → Prop)  : Nat → Int32 → Int32 → Int32 → zS → Prop
  | 0, _, _, _, _ => False
  | n + 1, x2, x3, x4, σ => ((x2 < x4 → Q x3 σ) ∧ (¬ (x2 < x4) → (w_X1_backBeside x4 σ fun v1 t2 => ((x2 < v1 → w_X1_fewestSteps_J73 Q (fun a2 a3 a4 aσ => w_X1_fewestSteps_L22 Q  n a2 a3 a4 aσ) x2 x3 x4  t2) ∧ (¬ (x2 < v1) → ((x3 = (-4 : Int32) → w_X1_fewestSteps_J70 Q (fun a2 a3 a4 aσ => w_X1_fewestSteps_L22 Q  n a2 a3 a4 aσ) x2 x4 (((x4 + v1) + (if v1 < x4 then v1 else x4)))  t2) ∧ (¬ (x3 = (-4 : Int32)) → ((x3 ≤ ((x4 + v1) + (if v1 < x4 then v1 else x4)) → w_X1_fewestSteps_J73 Q (fun a2 a3 a4 aσ => w_X1_fewestSteps_L22 Q  n a2 a3 a4 aσ) x2 x3 x4  t2) ∧ (¬ (x3 ≤ ((x4 + v1) + (if v1 < x4 then v1 else x4))) → w_X1_fewestSteps_J70 Q (fun a2 a3 a4 aσ => w_X1_fewestSteps_L22 Q  n a2 a3 a4 aσ) x2 x4 (((x4 + v1) + (if v1 < x4 then v1 else x4)))  t2)))))))))
def w_X1_fewestSteps  (σ : zS) (Q : Int32 → zS → Prop) : Prop := (w_X1_measure (((3 : Int32) * (σ.1 9 1))) σ fun _ t1 => ∃ m22, w_X1_fewestSteps_L22 Q  m22 (((3 : Int32) * (σ.1 9 1))) ((-4 : Int32)) ((0 : Int32)) t1)
set_option maxHeartbeats 4000000 in
set_option maxRecDepth 100000 in
theorem j_X1_fewestSteps_73 {b : Nat} {Q : Int32 → zS → Prop} {K22 : Int32 → Int32 → Int32 → zS → Prop} (hK22 : ∀ (a2 a3 a4 : Int32) (σ : zS), K22 a2 a3 a4 σ → zAW RX1 cX1_fewestSteps 7 (some .int) false { frames := 5, cells := 0, slots := 0, locals := 115 } zΓ.length (zN zΓ (zρ b) Q) 22 [(0, .ref 50), (1, .ref 10), (2, .int a2), (3, .int a3), (4, .int a4)] [] zΓ (zρ b) σ 0 0) {x2 x3 x4 : Int32} {σ : zS} (hw : w_X1_fewestSteps_J73 Q K22 x2 x3 x4 σ) : zAW RX1 cX1_fewestSteps 7 (some .int) false { frames := 5, cells := 0, slots := 0, locals := 115 } zΓ.length (zN zΓ (zρ b) Q) 73 [(0, .ref 50), (1, .ref 10), (2, .int x2), (3, .int x3), (4, .int x4)] [] zΓ (zρ b) σ 0 0 := by
  unfold w_X1_fewestSteps_J73 at hw
  refine z_iinc dX1_fewestSteps_73 rfl zi1 (Nat.le_of_ble_eq_true rfl) ?_
  refine z_goto dX1_fewestSteps_76 ?_
  exact z_to (hK22 _ _ _ _ hw) ⟨rfl, rfl, rfl, rfl, rfl, trivial⟩
set_option maxHeartbeats 4000000 in
set_option maxRecDepth 100000 in
theorem j_X1_fewestSteps_70 {b : Nat} {Q : Int32 → zS → Prop} {K22 : Int32 → Int32 → Int32 → zS → Prop} (hK22 : ∀ (a2 a3 a4 : Int32) (σ : zS), K22 a2 a3 a4 σ → zAW RX1 cX1_fewestSteps 7 (some .int) false { frames := 5, cells := 0, slots := 0, locals := 115 } zΓ.length (zN zΓ (zρ b) Q) 22 [(0, .ref 50), (1, .ref 10), (2, .int a2), (3, .int a3), (4, .int a4)] [] zΓ (zρ b) σ 0 0) {x2 x4 x6 : Int32} {σ : zS} (hw : w_X1_fewestSteps_J70 Q K22 x2 x4 x6 σ) : zAW RX1 cX1_fewestSteps 7 (some .int) false { frames := 5, cells := 0, slots := 0, locals := 115 } zΓ.length (zN zΓ (zρ b) Q) 70 [(0, .ref 50), (1, .ref 10), (2, .int x2), (4, .int x4), (6, .int x6)] [] zΓ (zρ b) σ 0 0 := by
  unfold w_X1_fewestSteps_J70 at hw
  refine z_iload dX1_fewestSteps_70 rfl ?_
  refine z_istore_n dX1_fewestSteps_72 rfl (Nat.le_of_ble_eq_true rfl) ?_
  exact z_to (j_X1_fewestSteps_73  hK22 hw) ⟨rfl, rfl, rfl, rfl, rfl, trivial⟩
set_option maxHeartbeats 4000000 in
set_option maxRecDepth 100000 in
theorem l_X1_fewestSteps_22 {b : Nat} {Q : Int32 → zS → Prop}   : ∀ (n : Nat) (x2 x3 x4 : Int32) (σ : zS), w_X1_fewestSteps_L22 Q  n x2 x3 x4 σ → zAW RX1 cX1_fewestSteps 7 (some .int) false { frames := 5, cells := 0, slots := 0, locals := 115 } zΓ.length (zN zΓ (zρ b) Q) 22 [(0, .ref 50), (1, .ref 10), (2, .int x2), (3, .int x3), (4, .int x4)] [] zΓ (zρ b) σ 0 0 := by
  intro n
  induction n with
  | zero => intro x2 x3 x4 σ hw; exact hw.elim
  | succ n hK22 =>
    intro x2 x3 x4 σ hw
    rw [w_X1_fewestSteps_L22] at hw
    refine z_iload dX1_fewestSteps_22 rfl ?_
    refine z_iload_n dX1_fewestSteps_24 rfl rfl ?_
    refine z_icmp_gt dX1_fewestSteps_25 hw (fun hw => ?_) (fun hw => ?_)
    · refine z_iload_n dX1_fewestSteps_79 rfl rfl ?_
      exact z_iret dX1_fewestSteps_80 (Nat.le_refl _) (Nat.le_refl _) rfl ⟨rfl, rfl, hw⟩
    · refine z_aload_n dX1_fewestSteps_28 rfl rfl ?_
      refine z_aload_n dX1_fewestSteps_29 rfl rfl ?_
      refine z_iload dX1_fewestSteps_30 rfl ?_
      refine z_callV dX1_fewestSteps_32 mX1_34 (c_X1_backBeside  hw) zg50 rfl rfl (Nat.le_of_ble_eq_true rfl) ⟨Nat.le_of_ble_eq_true rfl, Nat.le_of_ble_eq_true rfl⟩ ⟨Nat.le_refl _, Nat.le_refl _⟩ (fun _ _ hw => ?_)
      refine z_istore dX1_fewestSteps_35 (Nat.le_of_ble_eq_true rfl) ?_
      refine z_iload dX1_fewestSteps_37 rfl ?_
      refine z_iload dX1_fewestSteps_39 rfl ?_
      refine z_iadd dX1_fewestSteps_41 ?_
      refine z_iload dX1_fewestSteps_42 rfl ?_
      refine z_iload dX1_fewestSteps_44 rfl ?_
      refine z_mmin dX1_fewestSteps_46 mwX1_38 (Nat.le_of_ble_eq_true rfl) (Nat.le_of_ble_eq_true rfl) (Nat.le_refl _) (Nat.le_refl _) ?_
      refine z_iadd dX1_fewestSteps_49 ?_
      refine z_istore dX1_fewestSteps_50 (Nat.le_of_ble_eq_true rfl) ?_
      refine z_iload dX1_fewestSteps_52 rfl ?_
      refine z_iload_n dX1_fewestSteps_54 rfl rfl ?_
      refine z_icmp_gt dX1_fewestSteps_55 hw (fun hw => ?_) (fun hw => ?_)
      · exact z_to (j_X1_fewestSteps_73  hK22 hw) ⟨rfl, rfl, rfl, rfl, rfl, trivial⟩
      · refine z_iload_n dX1_fewestSteps_58 rfl rfl ?_
        refine z_bipush dX1_fewestSteps_59 zbpm4 ?_
        refine z_icmp_eq dX1_fewestSteps_61 hw (fun hw => ?_) (fun hw => ?_)
        · exact z_to (j_X1_fewestSteps_70  hK22 hw) ⟨rfl, rfl, rfl, rfl, rfl, trivial⟩
        · refine z_iload dX1_fewestSteps_64 rfl ?_
          refine z_iload_n dX1_fewestSteps_66 rfl rfl ?_
          refine z_icmp_ge dX1_fewestSteps_67 hw (fun hw => ?_) (fun hw => ?_)
          · exact z_to (j_X1_fewestSteps_73  hK22 hw) ⟨rfl, rfl, rfl, rfl, rfl, trivial⟩
          · exact z_to (j_X1_fewestSteps_70  hK22 hw) ⟨rfl, rfl, rfl, rfl, rfl, trivial⟩
set_option maxHeartbeats 4000000 in
set_option maxRecDepth 100000 in
theorem c_X1_fewestSteps {b : Nat} {σ : zS} {Q : Int32 → zS → Prop} (hw : w_X1_fewestSteps  σ Q) : zAC yX1_fewestSteps cX1_fewestSteps 7 (some .int) { frames := 5, cells := 0, slots := 0, locals := 115 } [.ref 50, .ref 10] zΓ (zρ b) σ (zN zΓ (zρ b) Q) := by
  refine z_entry (own := RX1) (ini := false) (plainFor_of_name pnX1) rfl (fun h => by cases h) (Nat.le_of_ble_eq_true rfl) ?_
  unfold w_X1_fewestSteps at hw
  refine z_iconst dX1_fewestSteps_0 zi3 ?_
  refine z_aload_n dX1_fewestSteps_1 rfl rfl ?_
  refine z_getr dX1_fewestSteps_2 fX1_18 (zgC0 (Or.inl rfl)) zkX0_10 (zrC10 zH10) ?_
  refine z_geti dX1_fewestSteps_5 fX1_24 zg9 zkX2_1 ?_
  refine z_imul dX1_fewestSteps_8 ?_
  refine z_istore_n dX1_fewestSteps_9 rfl (Nat.le_of_ble_eq_true rfl) ?_
  refine z_aload_n dX1_fewestSteps_10 rfl rfl ?_
  refine z_aload_n dX1_fewestSteps_11 rfl rfl ?_
  refine z_iload_n dX1_fewestSteps_12 rfl rfl ?_
  refine z_callVv dX1_fewestSteps_13 mX1_30 (c_X1_measure  hw) zg50 rfl rfl (Nat.le_of_ble_eq_true rfl) ⟨Nat.le_of_ble_eq_true rfl, Nat.le_of_ble_eq_true rfl⟩ ⟨Nat.le_refl _, Nat.le_refl _⟩ (fun _ hw => ?_)
  refine z_bipush dX1_fewestSteps_16 zbpm4 ?_
  refine z_istore_n dX1_fewestSteps_18 rfl (Nat.le_of_ble_eq_true rfl) ?_
  refine z_iconst dX1_fewestSteps_19 zi0 ?_
  refine z_istore dX1_fewestSteps_20 (Nat.le_of_ble_eq_true rfl) ?_
  obtain ⟨n, hw⟩ := hw
  exact z_to (l_X1_fewestSteps_22   n _ _ _ _ hw) ⟨rfl, rfl, rfl, rfl, rfl, trivial⟩
def w_X6_wheel  (σ : zS) (Q : Int32 → zS → Prop) : Prop := (((σ.1 10 16) = 0 → Q (-2 : Int32) σ) ∧ (¬ ((σ.1 10 16) = 0) → (w_X1_fewestSteps  σ fun v1 t2 => Q v1 t2)))
set_option maxHeartbeats 4000000 in
set_option maxRecDepth 100000 in
theorem c_X6_wheel {b : Nat} {σ : zS} {Q : Int32 → zS → Prop} (hw : w_X6_wheel  σ Q) : zAC yX6_wheel cX6_wheel 1 (some .int) { frames := 6, cells := 0, slots := 0, locals := 141 } [.ref 0] zΓ (zρ b) σ (zNp Q) := by
  refine z_entry (own := RX6) (ini := false) (plainFor_of_name pnX6) rfl (fun h => by cases h) (Nat.le_of_ble_eq_true rfl) ?_
  unfold w_X6_wheel at hw
  refine z_aload_n dX6_wheel_0 rfl rfl ?_
  refine z_getr dX6_wheel_1 fX6_30 zg0 zkX6_1 zr0_1 ?_
  refine z_geti dX6_wheel_4 fX6_101 (zgC0 (Or.inl rfl)) zkX0_16 ?_
  refine z_if_eq dX6_wheel_7 hw (fun hw => ?_) (fun hw => ?_)
  · refine z_bipush dX6_wheel_24 zbpm2 ?_
    exact z_iret dX6_wheel_26 (Nat.le_refl _) (Nat.le_refl _) rfl ⟨rfl, ⟨_, rfl⟩, hw⟩
  · refine z_aload_n dX6_wheel_10 rfl rfl ?_
    refine z_getr dX6_wheel_11 fX6_40 zg0 zkX6_3 zr0_3 ?_
    refine z_aload_n dX6_wheel_14 rfl rfl ?_
    refine z_getr dX6_wheel_15 fX6_30 zg0 zkX6_1 zr0_1 ?_
    refine z_callV dX6_wheel_18 mX6_189 (c_X1_fewestSteps  hw) zg50 rfl rfl (Nat.le_of_ble_eq_true rfl) ⟨Nat.le_of_ble_eq_true rfl, Nat.le_of_ble_eq_true rfl⟩ ⟨Nat.le_refl _, Nat.le_refl _⟩ (fun _ _ hw => ?_)
    refine z_goto dX6_wheel_21 ?_
    exact z_iret dX6_wheel_26 (Nat.le_refl _) (Nat.le_refl _) rfl ⟨rfl, ⟨_, rfl⟩, hw⟩
def w_X0_letOut_J73 (r : Nat) (Q : Int32 → zS → Prop) (K4 : Int32 → Int32 → zS → Prop) (x1 x2 : Int32) (σ : zS) : Prop := K4 x1 ((x2 + (1 : Int32))) σ
def w_X0_letOut_J67 (r : Nat) (Q : Int32 → zS → Prop) (K4 : Int32 → Int32 → zS → Prop) (K28 : Int32 → Int32 → Int32 → Int32 → zS → Prop) (x1 x2 x3 x4 : Int32) (σ : zS) : Prop := K28 x1 x2 x3 ((x4 + (1 : Int32))) σ
def w_X0_letOut_L28 (r : Nat) (Q : Int32 → zS → Prop) (K4 : Int32 → Int32 → zS → Prop) : Nat → Int32 → Int32 → Int32 → Int32 → zS → Prop
  | 0, _, _, _, _, _ => False
  | n + 1, x1, x2, x3, x4, σ => (((σ.1 1 7) ≤ x4 → w_X0_letOut_J73 r Q K4 x1 x2  σ) ∧ (¬ ((σ.1 1 7) ≤ x4) → ((x3 = (-4 : Int32) → w_X0_letOut_J73 r Q K4 x1 x2  σ) ∧ (¬ (x3 = (-4 : Int32)) → (w_X0_isIn r x4 x2 σ fun v1 t2 => ((v1 = 0 → w_X0_letOut_J67 r Q K4 (fun a1 a2 a3 a4 aσ => w_X0_letOut_L28 r Q K4 n a1 a2 a3 a4 aσ) x1 x2 x3 x4  t2) ∧ (¬ (v1 = 0) → (w_X0_leave r x4 x2 x3 t2 fun _ t3 => w_X0_letOut_J67 r Q K4 (fun a1 a2 a3 a4 aσ => w_X0_letOut_L28 r Q K4 n a1 a2 a3 a4 aσ) ((x1 + (1 : Int32))) x2 x3 x4  t3))))))))
def w_X0_letOut_L4 (r : Nat) (Q : Int32 → zS → Prop)  : Nat → Int32 → Int32 → zS → Prop
  | 0, _, _, _ => False
  | n + 1, x1, x2, σ => (((σ.1 9 3) ≤ x2 → Q x1 σ) ∧ (¬ ((σ.1 9 3) ≤ x2) → (w_X0_openDoor r x2 ((σ.1 r 14)) σ fun v1 t2 => ∃ m28, w_X0_letOut_L28 r Q (fun a1 a2 aσ => w_X0_letOut_L4 r Q  n a1 a2 aσ) m28 x1 x2 v1 ((0 : Int32)) t2)))
def w_X0_letOut (r : Nat) (σ : zS) (Q : Int32 → zS → Prop) : Prop := ∃ m4, w_X0_letOut_L4 r Q  m4 ((0 : Int32)) ((0 : Int32)) σ
set_option maxHeartbeats 4000000 in
set_option maxRecDepth 100000 in
theorem j_X0_letOut_73 {r b : Nat} (hr : zHr r b) {Q : Int32 → zS → Prop} {K4 : Int32 → Int32 → zS → Prop} (hK4 : ∀ (a1 a2 : Int32) (σ : zS), K4 a1 a2 σ → zAW RX0 cX0_letOut 5 (some .int) false { frames := 3, cells := 0, slots := 0, locals := 68 } zΓ.length (zN zΓ (zρ b) Q) 4 [(0, .ref r), (1, .int a1), (2, .int a2)] [] zΓ (zρ b) σ 0 0) {x1 x2 : Int32} {σ : zS} (hw : w_X0_letOut_J73 r Q K4 x1 x2 σ) : zAW RX0 cX0_letOut 5 (some .int) false { frames := 3, cells := 0, slots := 0, locals := 68 } zΓ.length (zN zΓ (zρ b) Q) 73 [(0, .ref r), (1, .int x1), (2, .int x2)] [] zΓ (zρ b) σ 0 0 := by
  have h0 := zHw hr
  unfold w_X0_letOut_J73 at hw
  refine z_iinc dX0_letOut_73 rfl zi1 (Nat.le_of_ble_eq_true rfl) ?_
  refine z_goto dX0_letOut_76 ?_
  exact z_to (hK4 _ _ _ hw) ⟨rfl, rfl, rfl, trivial⟩
set_option maxHeartbeats 4000000 in
set_option maxRecDepth 100000 in
theorem j_X0_letOut_67 {r b : Nat} (hr : zHr r b) {Q : Int32 → zS → Prop} {K4 : Int32 → Int32 → zS → Prop} {K28 : Int32 → Int32 → Int32 → Int32 → zS → Prop} (hK4 : ∀ (a1 a2 : Int32) (σ : zS), K4 a1 a2 σ → zAW RX0 cX0_letOut 5 (some .int) false { frames := 3, cells := 0, slots := 0, locals := 68 } zΓ.length (zN zΓ (zρ b) Q) 4 [(0, .ref r), (1, .int a1), (2, .int a2)] [] zΓ (zρ b) σ 0 0) (hK28 : ∀ (a1 a2 a3 a4 : Int32) (σ : zS), K28 a1 a2 a3 a4 σ → zAW RX0 cX0_letOut 5 (some .int) false { frames := 3, cells := 0, slots := 0, locals := 68 } zΓ.length (zN zΓ (zρ b) Q) 28 [(0, .ref r), (1, .int a1), (2, .int a2), (3, .int a3), (4, .int a4)] [] zΓ (zρ b) σ 0 0) {x1 x2 x3 x4 : Int32} {σ : zS} (hw : w_X0_letOut_J67 r Q K4 K28 x1 x2 x3 x4 σ) : zAW RX0 cX0_letOut 5 (some .int) false { frames := 3, cells := 0, slots := 0, locals := 68 } zΓ.length (zN zΓ (zρ b) Q) 67 [(0, .ref r), (1, .int x1), (2, .int x2), (3, .int x3), (4, .int x4)] [] zΓ (zρ b) σ 0 0 := by
  have h0 := zHw hr
  unfold w_X0_letOut_J67 at hw
  refine z_iinc dX0_letOut_67 rfl zi1 (Nat.le_of_ble_eq_true rfl) ?_
  refine z_goto dX0_letOut_70 ?_
  exact z_to (hK28 _ _ _ _ _ hw) ⟨rfl, rfl, rfl, rfl, rfl, trivial⟩
set_option maxHeartbeats 4000000 in
set_option maxRecDepth 100000 in
theorem l_X0_letOut_28 {r b : Nat} (hr : zHr r b) {Q : Int32 → zS → Prop} {K4 : Int32 → Int32 → zS → Prop} (hK4 : ∀ (a1 a2 : Int32) (σ : zS), K4 a1 a2 σ → zAW RX0 cX0_letOut 5 (some .int) false { frames := 3, cells := 0, slots := 0, locals := 68 } zΓ.length (zN zΓ (zρ b) Q) 4 [(0, .ref r), (1, .int a1), (2, .int a2)] [] zΓ (zρ b) σ 0 0) : ∀ (n : Nat) (x1 x2 x3 x4 : Int32) (σ : zS), w_X0_letOut_L28 r Q K4 n x1 x2 x3 x4 σ → zAW RX0 cX0_letOut 5 (some .int) false { frames := 3, cells := 0, slots := 0, locals := 68 } zΓ.length (zN zΓ (zρ b) Q) 28 [(0, .ref r), (1, .int x1), (2, .int x2), (3, .int x3), (4, .int x4)] [] zΓ (zρ b) σ 0 0 := by
  intro n
  induction n with
  | zero => intro x1 x2 x3 x4 σ hw; exact hw.elim
  | succ n hK28 =>
    intro x1 x2 x3 x4 σ hw
    have h0 := zHw hr
    rw [w_X0_letOut_L28] at hw
    refine z_iload dX0_letOut_28 rfl ?_
    refine z_aload_n dX0_letOut_30 rfl rfl ?_
    refine z_getr dX0_letOut_31 fX0_42 (zgC0 h0) zkX0_0 (zrC0 h0) ?_
    refine z_geti dX0_letOut_34 fX0_128 zg1 zkX4_7 ?_
    refine z_icmp_ge dX0_letOut_37 hw (fun hw => ?_) (fun hw => ?_)
    · exact z_to (j_X0_letOut_73 hr hK4 hw) ⟨rfl, rfl, rfl, trivial⟩
    · refine z_iload_n dX0_letOut_40 rfl rfl ?_
      refine z_bipush dX0_letOut_41 zbpm4 ?_
      refine z_icmp_eq dX0_letOut_43 hw (fun hw => ?_) (fun hw => ?_)
      · exact z_to (j_X0_letOut_73 hr hK4 hw) ⟨rfl, rfl, rfl, trivial⟩
      · refine z_aload_n dX0_letOut_46 rfl rfl ?_
        refine z_iload dX0_letOut_47 rfl ?_
        refine z_iload_n dX0_letOut_49 rfl rfl ?_
        refine z_callV dX0_letOut_50 mX0_133 (c_X0_isIn hr hw) (zgC0 h0) rfl rfl (Nat.le_of_ble_eq_true rfl) ⟨Nat.le_of_ble_eq_true rfl, Nat.le_of_ble_eq_true rfl⟩ ⟨Nat.le_refl _, Nat.le_refl _⟩ (fun _ _ hw => ?_)
        refine z_if_eq dX0_letOut_53 hw (fun hw => ?_) (fun hw => ?_)
        · exact z_to (j_X0_letOut_67 hr hK4 hK28 hw) ⟨rfl, rfl, rfl, rfl, rfl, trivial⟩
        · refine z_aload_n dX0_letOut_56 rfl rfl ?_
          refine z_iload dX0_letOut_57 rfl ?_
          refine z_iload_n dX0_letOut_59 rfl rfl ?_
          refine z_iload_n dX0_letOut_60 rfl rfl ?_
          refine z_callVv dX0_letOut_61 mX0_188 (c_X0_leave hr hw) (zgC0 h0) rfl rfl (Nat.le_of_ble_eq_true rfl) ⟨Nat.le_of_ble_eq_true rfl, Nat.le_of_ble_eq_true rfl⟩ ⟨Nat.le_refl _, Nat.le_refl _⟩ (fun _ hw => ?_)
          refine z_iinc dX0_letOut_64 rfl zi1 (Nat.le_of_ble_eq_true rfl) ?_
          exact z_to (j_X0_letOut_67 hr hK4 hK28 hw) ⟨rfl, rfl, rfl, rfl, rfl, trivial⟩
set_option maxHeartbeats 4000000 in
set_option maxRecDepth 100000 in
theorem l_X0_letOut_4 {r b : Nat} (hr : zHr r b) {Q : Int32 → zS → Prop}   : ∀ (n : Nat) (x1 x2 : Int32) (σ : zS), w_X0_letOut_L4 r Q  n x1 x2 σ → zAW RX0 cX0_letOut 5 (some .int) false { frames := 3, cells := 0, slots := 0, locals := 68 } zΓ.length (zN zΓ (zρ b) Q) 4 [(0, .ref r), (1, .int x1), (2, .int x2)] [] zΓ (zρ b) σ 0 0 := by
  intro n
  induction n with
  | zero => intro x1 x2 σ hw; exact hw.elim
  | succ n hK4 =>
    intro x1 x2 σ hw
    have h0 := zHw hr
    rw [w_X0_letOut_L4] at hw
    refine z_iload_n dX0_letOut_4 rfl rfl ?_
    refine z_aload_n dX0_letOut_5 rfl rfl ?_
    refine z_getr dX0_letOut_6 fX0_46 (zgC0 h0) zkX0_10 (zrC10 hr) ?_
    refine z_geti dX0_letOut_9 fX0_114 zg9 zkX2_3 ?_
    refine z_icmp_ge dX0_letOut_12 hw (fun hw => ?_) (fun hw => ?_)
    · refine z_iload_n dX0_letOut_79 rfl rfl ?_
      exact z_iret dX0_letOut_80 (Nat.le_refl _) (Nat.le_refl _) rfl ⟨rfl, rfl, hw⟩
    · refine z_aload_n dX0_letOut_15 rfl rfl ?_
      refine z_iload_n dX0_letOut_16 rfl rfl ?_
      refine z_aload_n dX0_letOut_17 rfl rfl ?_
      refine z_geti dX0_letOut_18 fX0_60 (zgC0 h0) zkX0_14 ?_
      refine z_callV dX0_letOut_21 mX0_160 (c_X0_openDoor hr hw) (zgC0 h0) rfl rfl (Nat.le_of_ble_eq_true rfl) ⟨Nat.le_of_ble_eq_true rfl, Nat.le_of_ble_eq_true rfl⟩ ⟨Nat.le_refl _, Nat.le_refl _⟩ (fun _ _ hw => ?_)
      refine z_istore_n dX0_letOut_24 rfl (Nat.le_of_ble_eq_true rfl) ?_
      refine z_iconst dX0_letOut_25 zi0 ?_
      refine z_istore dX0_letOut_26 (Nat.le_of_ble_eq_true rfl) ?_
      obtain ⟨n, hw⟩ := hw
      exact z_to (l_X0_letOut_28 hr hK4 n _ _ _ _ _ hw) ⟨rfl, rfl, rfl, rfl, rfl, trivial⟩
set_option maxHeartbeats 4000000 in
set_option maxRecDepth 100000 in
theorem c_X0_letOut {r b : Nat} (hr : zHr r b) {σ : zS} {Q : Int32 → zS → Prop} (hw : w_X0_letOut r  σ Q) : zAC yX0_letOut cX0_letOut 5 (some .int) { frames := 3, cells := 0, slots := 0, locals := 68 } [.ref r] zΓ (zρ b) σ (zN zΓ (zρ b) Q) := by
  have h0 := zHw hr
  refine z_entry (own := RX0) (ini := false) (plainFor_of_name pnX0) rfl (fun h => by cases h) (Nat.le_of_ble_eq_true rfl) ?_
  unfold w_X0_letOut at hw
  refine z_iconst dX0_letOut_0 zi0 ?_
  refine z_istore_n dX0_letOut_1 rfl (Nat.le_of_ble_eq_true rfl) ?_
  refine z_iconst dX0_letOut_2 zi0 ?_
  refine z_istore_n dX0_letOut_3 rfl (Nat.le_of_ble_eq_true rfl) ?_
  obtain ⟨n, hw⟩ := hw
  exact z_to (l_X0_letOut_4 hr  n _ _ _ hw) ⟨rfl, rfl, rfl, trivial⟩
def w_X6_turn  (x1 : Int32) (σ : zS) (Q : Int32 → zS → Prop) : Prop := (w_X6_within x1 ((-100 : Int32)) ((100 : Int32)) σ fun v1 t2 => ((v1 = 0 → Q (-1 : Int32) t2) ∧ (¬ (v1 = 0) → (((t2.1 10 16) = 0 → Q (-2 : Int32) t2) ∧ (¬ ((t2.1 10 16) = 0) → (w_X2_along ((t2.1 10 14)) x1 t2 fun v3 t4 => (zlet (zI t4 10 14 v3) fun t5 => (w_X0_letOut 10 t5 fun v6 t7 => Q v6 t7))))))))
set_option maxHeartbeats 4000000 in
set_option maxRecDepth 100000 in
theorem c_X6_turn {b : Nat} {x1 : Int32} {σ : zS} {Q : Int32 → zS → Prop} (hw : w_X6_turn x1 σ Q) : zAC yX6_turn cX6_turn 2 (some .int) { frames := 4, cells := 0, slots := 0, locals := 92 } [.ref 0, .int x1] zΓ (zρ b) σ (zNp Q) := by
  refine z_entry (own := RX6) (ini := false) (plainFor_of_name pnX6) rfl (fun h => by cases h) (Nat.le_of_ble_eq_true rfl) ?_
  unfold w_X6_turn at hw
  refine z_iload_n dX6_turn_0 rfl rfl ?_
  refine z_bipush dX6_turn_1 zbpm100 ?_
  refine z_bipush dX6_turn_3 zbp100 ?_
  refine z_callS dX6_turn_5 mX6_58 (c_X6_within  hw) rfl rfl (Nat.le_of_ble_eq_true rfl) ⟨Nat.le_of_ble_eq_true rfl, Nat.le_of_ble_eq_true rfl⟩ ⟨Nat.le_refl _, Nat.le_refl _⟩ (fun _ _ hw => ?_)
  refine z_if_ne dX6_turn_8 hw (fun hw => ?_) (fun hw => ?_)
  · refine z_aload_n dX6_turn_13 rfl rfl ?_
    refine z_getr dX6_turn_14 fX6_30 zg0 zkX6_1 zr0_1 ?_
    refine z_geti dX6_turn_17 fX6_101 (zgC0 (Or.inl rfl)) zkX0_16 ?_
    refine z_if_ne dX6_turn_20 hw (fun hw => ?_) (fun hw => ?_)
    · refine z_aload_n dX6_turn_26 rfl rfl ?_
      refine z_getr dX6_turn_27 fX6_30 zg0 zkX6_1 zr0_1 ?_
      refine z_aload_n dX6_turn_30 rfl rfl ?_
      refine z_getr dX6_turn_31 fX6_21 zg0 zkX6_6 zr0_6 ?_
      refine z_aload_n dX6_turn_34 rfl rfl ?_
      refine z_getr dX6_turn_35 fX6_30 zg0 zkX6_1 zr0_1 ?_
      refine z_geti dX6_turn_38 fX6_109 (zgC0 (Or.inl rfl)) zkX0_14 ?_
      refine z_iload_n dX6_turn_41 rfl rfl ?_
      refine z_callV dX6_turn_42 mX6_193 (c_X2_along  hw) zg9 rfl rfl (Nat.le_of_ble_eq_true rfl) ⟨Nat.le_of_ble_eq_true rfl, Nat.le_of_ble_eq_true rfl⟩ ⟨Nat.le_refl _, Nat.le_refl _⟩ (fun _ _ hw => ?_)
      refine z_putiL dX6_turn_45 fX6_109 (zgC0 (Or.inl rfl)) zkX0_14 hw (fun hw => ?_)
      refine z_aload_n dX6_turn_48 rfl rfl ?_
      refine z_getr dX6_turn_49 fX6_30 zg0 zkX6_1 zr0_1 ?_
      refine z_callV dX6_turn_52 mX6_196 (c_X0_letOut zH10 hw) (zgC0 (Or.inl rfl)) rfl rfl (Nat.le_of_ble_eq_true rfl) ⟨Nat.le_of_ble_eq_true rfl, Nat.le_of_ble_eq_true rfl⟩ ⟨Nat.le_refl _, Nat.le_refl _⟩ (fun _ _ hw => ?_)
      exact z_iret dX6_turn_55 (Nat.le_refl _) (Nat.le_refl _) rfl ⟨rfl, ⟨_, rfl⟩, hw⟩
    · refine z_bipush dX6_turn_23 zbpm2 ?_
      exact z_iret dX6_turn_25 (Nat.le_refl _) (Nat.le_refl _) rfl ⟨rfl, ⟨_, rfl⟩, hw⟩
  · refine z_iconst dX6_turn_11 zim1 ?_
    exact z_iret dX6_turn_12 (Nat.le_refl _) (Nat.le_refl _) rfl ⟨rfl, ⟨_, rfl⟩, hw⟩
def w_X6_counted  (x1 x2 : Int32) (σ : zS) (Q : Int32 → zS → Prop) : Prop := (w_X6_isFloor x1 σ fun v1 t2 => ((v1 = 0 → Q (-1 : Int32) t2) ∧ (¬ (v1 = 0) → (w_X6_within x2 ((0 : Int32)) ((1 : Int32)) t2 fun v3 t4 => ((v3 = 0 → Q (-1 : Int32) t4) ∧ (¬ (v3 = 0) → (vp_in x2 2 ∧ (vp_in x1 8 ∧ Q (t4.2 ((10 + 17 + x2.toNatClampNeg)) x1.toNatClampNeg) t4))))))))
set_option maxHeartbeats 4000000 in
set_option maxRecDepth 100000 in
theorem c_X6_counted {b : Nat} {x1 x2 : Int32} {σ : zS} {Q : Int32 → zS → Prop} (hw : w_X6_counted x1 x2 σ Q) : zAC yX6_counted cX6_counted 3 (some .int) { frames := 2, cells := 0, slots := 0, locals := 43 } [.ref 0, .int x1, .int x2] zΓ (zρ b) σ (zNp Q) := by
  refine z_entry (own := RX6) (ini := false) (plainFor_of_name pnX6) rfl (fun h => by cases h) (Nat.le_of_ble_eq_true rfl) ?_
  unfold w_X6_counted at hw
  refine z_aload_n dX6_counted_0 rfl rfl ?_
  refine z_iload_n dX6_counted_1 rfl rfl ?_
  refine z_callV dX6_counted_2 mX6_81 (c_X6_isFloor  hw) zg0 rfl rfl (Nat.le_of_ble_eq_true rfl) ⟨Nat.le_of_ble_eq_true rfl, Nat.le_of_ble_eq_true rfl⟩ ⟨Nat.le_refl _, Nat.le_refl _⟩ (fun _ _ hw => ?_)
  refine z_if_eq dX6_counted_5 hw (fun hw => ?_) (fun hw => ?_)
  · refine z_iconst dX6_counted_17 zim1 ?_
    exact z_iret dX6_counted_18 (Nat.le_refl _) (Nat.le_refl _) rfl ⟨rfl, ⟨_, rfl⟩, hw⟩
  · refine z_iload_n dX6_counted_8 rfl rfl ?_
    refine z_iconst dX6_counted_9 zi0 ?_
    refine z_iconst dX6_counted_10 zi1 ?_
    refine z_callS dX6_counted_11 mX6_58 (c_X6_within  hw) rfl rfl (Nat.le_of_ble_eq_true rfl) ⟨Nat.le_of_ble_eq_true rfl, Nat.le_of_ble_eq_true rfl⟩ ⟨Nat.le_refl _, Nat.le_refl _⟩ (fun _ _ hw => ?_)
    refine z_if_ne dX6_counted_14 hw (fun hw => ?_) (fun hw => ?_)
    · refine z_aload_n dX6_counted_19 rfl rfl ?_
      refine z_getr dX6_counted_20 fX6_30 zg0 zkX6_1 zr0_1 ?_
      refine z_getr dX6_counted_23 fX6_199 (zgC0 (Or.inl rfl)) zkX0_8 (zrC8 (Or.inl rfl)) ?_
      refine z_iload_n dX6_counted_26 rfl rfl ?_
      have hv5 := hw.1
      refine z_aald dX6_counted_27 (zgC16 (Or.inl rfl)) hw (zrho (zrefN (Or.inl rfl))) (fun hw => ?_)
      refine z_iload_n dX6_counted_28 rfl rfl ?_
      refine z_iald dX6_counted_29 (zrow (zrowN (Or.inl rfl)) hv5) hw (fun hw => ?_)
      exact z_iret dX6_counted_30 (Nat.le_refl _) (Nat.le_refl _) rfl ⟨rfl, ⟨_, rfl⟩, hw⟩
    · refine z_iconst dX6_counted_17 zim1 ?_
      exact z_iret dX6_counted_18 (Nat.le_refl _) (Nat.le_refl _) rfl ⟨rfl, ⟨_, rfl⟩, hw⟩
def w_X6_tell  (x1 x2 x3 : Int32) (σ : zS) (Q : Int32 → zS → Prop) : Prop := (w_X6_isFloor x1 σ fun v1 t2 => ((v1 = 0 → Q (-100 : Int32) t2) ∧ (¬ (v1 = 0) → (w_X6_within x2 ((0 : Int32)) ((1 : Int32)) t2 fun v3 t4 => ((v3 = 0 → Q (-100 : Int32) t4) ∧ (¬ (v3 = 0) → (w_X6_within x3 ((-1 : Int32)) ((100 : Int32)) t4 fun v5 t6 => ((v5 = 0 → Q (-100 : Int32) t6) ∧ (¬ (v5 = 0) → (vp_in x2 2 ∧ (vp_in x1 8 ∧ (vp_in x2 2 ∧ (vp_in x1 8 ∧ zlet (zA t6 ((55 + x2.toNatClampNeg)) x1.toNatClampNeg x3) fun t9 => Q (t6.2 ((55 + x2.toNatClampNeg)) x1.toNatClampNeg) t9)))))))))))))
set_option maxHeartbeats 4000000 in
set_option maxRecDepth 100000 in
theorem c_X6_tell {b : Nat} {x1 x2 x3 : Int32} {σ : zS} {Q : Int32 → zS → Prop} (hw : w_X6_tell x1 x2 x3 σ Q) : zAC yX6_tell cX6_tell 5 (some .int) { frames := 2, cells := 0, slots := 0, locals := 43 } [.ref 0, .int x1, .int x2, .int x3] zΓ (zρ b) σ (zNp Q) := by
  refine z_entry (own := RX6) (ini := false) (plainFor_of_name pnX6) rfl (fun h => by cases h) (Nat.le_of_ble_eq_true rfl) ?_
  unfold w_X6_tell at hw
  refine z_aload_n dX6_tell_0 rfl rfl ?_
  refine z_iload_n dX6_tell_1 rfl rfl ?_
  refine z_callV dX6_tell_2 mX6_81 (c_X6_isFloor  hw) zg0 rfl rfl (Nat.le_of_ble_eq_true rfl) ⟨Nat.le_of_ble_eq_true rfl, Nat.le_of_ble_eq_true rfl⟩ ⟨Nat.le_refl _, Nat.le_refl _⟩ (fun _ _ hw => ?_)
  refine z_if_eq dX6_tell_5 hw (fun hw => ?_) (fun hw => ?_)
  · refine z_bipush dX6_tell_27 zbpm100 ?_
    exact z_iret dX6_tell_29 (Nat.le_refl _) (Nat.le_refl _) rfl ⟨rfl, ⟨_, rfl⟩, hw⟩
  · refine z_iload_n dX6_tell_8 rfl rfl ?_
    refine z_iconst dX6_tell_9 zi0 ?_
    refine z_iconst dX6_tell_10 zi1 ?_
    refine z_callS dX6_tell_11 mX6_58 (c_X6_within  hw) rfl rfl (Nat.le_of_ble_eq_true rfl) ⟨Nat.le_of_ble_eq_true rfl, Nat.le_of_ble_eq_true rfl⟩ ⟨Nat.le_refl _, Nat.le_refl _⟩ (fun _ _ hw => ?_)
    refine z_if_eq dX6_tell_14 hw (fun hw => ?_) (fun hw => ?_)
    · refine z_bipush dX6_tell_27 zbpm100 ?_
      exact z_iret dX6_tell_29 (Nat.le_refl _) (Nat.le_refl _) rfl ⟨rfl, ⟨_, rfl⟩, hw⟩
    · refine z_iload_n dX6_tell_17 rfl rfl ?_
      refine z_iconst dX6_tell_18 zim1 ?_
      refine z_bipush dX6_tell_19 zbp100 ?_
      refine z_callS dX6_tell_21 mX6_58 (c_X6_within  hw) rfl rfl (Nat.le_of_ble_eq_true rfl) ⟨Nat.le_of_ble_eq_true rfl, Nat.le_of_ble_eq_true rfl⟩ ⟨Nat.le_refl _, Nat.le_refl _⟩ (fun _ _ hw => ?_)
      refine z_if_ne dX6_tell_24 hw (fun hw => ?_) (fun hw => ?_)
      · refine z_aload_n dX6_tell_30 rfl rfl ?_
        refine z_getr dX6_tell_31 fX6_47 zg0 zkX6_4 zr0_4 ?_
        refine z_getr dX6_tell_34 fX6_202 zg53 zkX5_0 zr53_0 ?_
        refine z_iload_n dX6_tell_37 rfl rfl ?_
        have hv7 := hw.1
        refine z_aald dX6_tell_38 zg54 hw (zrho zref54) (fun hw => ?_)
        refine z_iload_n dX6_tell_39 rfl rfl ?_
        refine z_iald dX6_tell_40 (zrow zrow54 hv7) hw (fun hw => ?_)
        refine z_istore dX6_tell_41 (Nat.le_of_ble_eq_true rfl) ?_
        refine z_aload_n dX6_tell_43 rfl rfl ?_
        refine z_getr dX6_tell_44 fX6_47 zg0 zkX6_4 zr0_4 ?_
        refine z_getr dX6_tell_47 fX6_202 zg53 zkX5_0 zr53_0 ?_
        refine z_iload_n dX6_tell_50 rfl rfl ?_
        have hv8 := hw.1
        refine z_aald dX6_tell_51 zg54 hw (zrho zref54) (fun hw => ?_)
        refine z_iload_n dX6_tell_52 rfl rfl ?_
        refine z_iload_n dX6_tell_53 rfl rfl ?_
        refine z_iastL dX6_tell_54 (zrow zrow54 hv8) hw (fun hw => ?_)
        refine z_iload dX6_tell_55 rfl ?_
        exact z_iret dX6_tell_57 (Nat.le_refl _) (Nat.le_refl _) rfl ⟨rfl, ⟨_, rfl⟩, hw⟩
      · refine z_bipush dX6_tell_27 zbpm100 ?_
        exact z_iret dX6_tell_29 (Nat.le_refl _) (Nat.le_refl _) rfl ⟨rfl, ⟨_, rfl⟩, hw⟩
def w_X5_together_J37 (Q : Int32 → zS → Prop) (K6 : Int32 → Int32 → Int32 → Int32 → Int32 → zS → Prop) (x1 x2 x3 x5 s0 s1 : Int32) (σ : zS) : Prop := K6 x1 x2 x3 ((s1 + s0)) ((x5 + (1 : Int32))) σ
def w_X5_together_L6 (Q : Int32 → zS → Prop)  : Nat → Int32 → Int32 → Int32 → Int32 → Int32 → zS → Prop
  | 0, _, _, _, _, _, _ => False
  | n + 1, x1, x2, x3, x4, x5, σ => ((x3 ≤ x5 → Q x4 σ) ∧ (¬ (x3 ≤ x5) → (vp_in x1 2 ∧ (vp_in x5 8 ∧ (((σ.2 ((55 + x1.toNatClampNeg)) x5.toNatClampNeg) = (-1 : Int32) → w_X5_together_J37 Q (fun a1 a2 a3 a4 a5 aσ => w_X5_together_L6 Q  n a1 a2 a3 a4 a5 aσ) x1 x2 x3 x5 x2 x4 σ) ∧ (¬ ((σ.2 ((55 + x1.toNatClampNeg)) x5.toNatClampNeg) = (-1 : Int32)) → w_X5_together_J37 Q (fun a1 a2 a3 a4 a5 aσ => w_X5_together_L6 Q  n a1 a2 a3 a4 a5 aσ) x1 x2 x3 x5 ((σ.2 ((55 + x1.toNatClampNeg)) x5.toNatClampNeg)) x4 σ))))))
def w_X5_together  (x1 x2 x3 : Int32) (σ : zS) (Q : Int32 → zS → Prop) : Prop := ∃ m6, w_X5_together_L6 Q  m6 x1 x2 x3 ((0 : Int32)) ((0 : Int32)) σ
set_option maxHeartbeats 4000000 in
set_option maxRecDepth 100000 in
theorem j_X5_together_37 {b : Nat} {Q : Int32 → zS → Prop} {K6 : Int32 → Int32 → Int32 → Int32 → Int32 → zS → Prop} (hK6 : ∀ (a1 a2 a3 a4 a5 : Int32) (σ : zS), K6 a1 a2 a3 a4 a5 σ → zAW RX5 cX5_together 7 (some .int) false { frames := 0, cells := 0, slots := 0, locals := 0 } zΓ.length (zN zΓ (zρ b) Q) 6 [(0, .ref 53), (1, .int a1), (2, .int a2), (3, .int a3), (4, .int a4), (5, .int a5)] [] zΓ (zρ b) σ 0 0) {x1 x2 x3 x5 s0 s1 : Int32} {σ : zS} (hw : w_X5_together_J37 Q K6 x1 x2 x3 x5 s0 s1 σ) : zAW RX5 cX5_together 7 (some .int) false { frames := 0, cells := 0, slots := 0, locals := 0 } zΓ.length (zN zΓ (zρ b) Q) 37 [(0, .ref 53), (1, .int x1), (2, .int x2), (3, .int x3), (5, .int x5)] [.int s0, .int s1] zΓ (zρ b) σ 0 0 := by
  unfold w_X5_together_J37 at hw
  refine z_iadd dX5_together_37 ?_
  refine z_istore dX5_together_38 (Nat.le_of_ble_eq_true rfl) ?_
  refine z_iinc dX5_together_40 rfl zi1 (Nat.le_of_ble_eq_true rfl) ?_
  refine z_goto dX5_together_43 ?_
  exact z_to (hK6 _ _ _ _ _ _ hw) ⟨rfl, rfl, rfl, rfl, rfl, rfl, trivial⟩
set_option maxHeartbeats 4000000 in
set_option maxRecDepth 100000 in
theorem l_X5_together_6 {b : Nat} {Q : Int32 → zS → Prop}   : ∀ (n : Nat) (x1 x2 x3 x4 x5 : Int32) (σ : zS), w_X5_together_L6 Q  n x1 x2 x3 x4 x5 σ → zAW RX5 cX5_together 7 (some .int) false { frames := 0, cells := 0, slots := 0, locals := 0 } zΓ.length (zN zΓ (zρ b) Q) 6 [(0, .ref 53), (1, .int x1), (2, .int x2), (3, .int x3), (4, .int x4), (5, .int x5)] [] zΓ (zρ b) σ 0 0 := by
  intro n
  induction n with
  | zero => intro x1 x2 x3 x4 x5 σ hw; exact hw.elim
  | succ n hK6 =>
    intro x1 x2 x3 x4 x5 σ hw
    rw [w_X5_together_L6] at hw
    refine z_iload dX5_together_6 rfl ?_
    refine z_iload_n dX5_together_8 rfl rfl ?_
    refine z_icmp_ge dX5_together_9 hw (fun hw => ?_) (fun hw => ?_)
    · refine z_iload dX5_together_46 rfl ?_
      exact z_iret dX5_together_48 (Nat.le_refl _) (Nat.le_refl _) rfl ⟨rfl, rfl, hw⟩
    · refine z_aload_n dX5_together_12 rfl rfl ?_
      refine z_getr dX5_together_13 fX5_11 zg53 zkX5_0 zr53_0 ?_
      refine z_iload_n dX5_together_16 rfl rfl ?_
      have hv1 := hw.1
      refine z_aald dX5_together_17 zg54 hw (zrho zref54) (fun hw => ?_)
      refine z_iload dX5_together_18 rfl ?_
      refine z_iald dX5_together_20 (zrow zrow54 hv1) hw (fun hw => ?_)
      refine z_istore dX5_together_21 (Nat.le_of_ble_eq_true rfl) ?_
      refine z_iload dX5_together_23 rfl ?_
      refine z_iload dX5_together_25 rfl ?_
      refine z_iconst dX5_together_27 zim1 ?_
      refine z_icmp_ne dX5_together_28 hw (fun hw => ?_) (fun hw => ?_)
      · refine z_iload dX5_together_35 rfl ?_
        exact z_to (j_X5_together_37  hK6 hw) ⟨rfl, rfl, rfl, rfl, rfl, trivial⟩
      · refine z_iload_n dX5_together_31 rfl rfl ?_
        refine z_goto dX5_together_32 ?_
        exact z_to (j_X5_together_37  hK6 hw) ⟨rfl, rfl, rfl, rfl, rfl, trivial⟩
set_option maxHeartbeats 4000000 in
set_option maxRecDepth 100000 in
theorem c_X5_together {b : Nat} {x1 x2 x3 : Int32} {σ : zS} {Q : Int32 → zS → Prop} (hw : w_X5_together x1 x2 x3 σ Q) : zAC yX5_together cX5_together 7 (some .int) { frames := 0, cells := 0, slots := 0, locals := 0 } [.ref 53, .int x1, .int x2, .int x3] zΓ (zρ b) σ (zN zΓ (zρ b) Q) := by
  refine z_entry (own := RX5) (ini := false) (plainFor_of_name pnX5) rfl (fun h => by cases h) (Nat.le_of_ble_eq_true rfl) ?_
  unfold w_X5_together at hw
  refine z_iconst dX5_together_0 zi0 ?_
  refine z_istore dX5_together_1 (Nat.le_of_ble_eq_true rfl) ?_
  refine z_iconst dX5_together_3 zi0 ?_
  refine z_istore dX5_together_4 (Nat.le_of_ble_eq_true rfl) ?_
  obtain ⟨n, hw⟩ := hw
  exact z_to (l_X5_together_6   n _ _ _ _ _ _ hw) ⟨rfl, rfl, rfl, rfl, rfl, rfl, trivial⟩
def w_X5_mayLeaveInside  (x1 x2 : Int32) (σ : zS) (Q : Int32 → zS → Prop) : Prop := (w_X5_together ((0 : Int32)) ((0 : Int32)) x2 σ fun v1 t2 => (w_X5_together ((1 : Int32)) ((100 : Int32)) x2 t2 fun v3 t4 => (w_X5_together ((0 : Int32)) ((100 : Int32)) x2 t4 fun v5 t6 => (w_X5_together ((1 : Int32)) ((0 : Int32)) x2 t6 fun v7 t8 => (w_X6_within x1 ((v1 - v3)) ((v5 - v7)) t8 fun v9 t10 => ((v9 = 0 ∨ v9 = 1) ∧ Q v9 t10))))))
set_option maxHeartbeats 4000000 in
set_option maxRecDepth 100000 in
theorem c_X5_mayLeaveInside {b : Nat} {x1 x2 : Int32} {σ : zS} {Q : Int32 → zS → Prop} (hw : w_X5_mayLeaveInside x1 x2 σ Q) : zAC yX5_mayLeaveInside cX5_mayLeaveInside 5 (some .boolean) { frames := 1, cells := 0, slots := 0, locals := 26 } [.ref 53, .int x1, .int x2] zΓ (zρ b) σ (zN zΓ (zρ b) Q) := by
  refine z_entry (own := RX5) (ini := false) (plainFor_of_name pnX5) rfl (fun h => by cases h) (Nat.le_of_ble_eq_true rfl) ?_
  unfold w_X5_mayLeaveInside at hw
  refine z_aload_n dX5_mayLeaveInside_0 rfl rfl ?_
  refine z_iconst dX5_mayLeaveInside_1 zi0 ?_
  refine z_iconst dX5_mayLeaveInside_2 zi0 ?_
  refine z_iload_n dX5_mayLeaveInside_3 rfl rfl ?_
  refine z_callV dX5_mayLeaveInside_4 mX5_25 (c_X5_together  hw) zg53 rfl rfl (Nat.le_of_ble_eq_true rfl) ⟨Nat.le_of_ble_eq_true rfl, Nat.le_of_ble_eq_true rfl⟩ ⟨Nat.le_refl _, Nat.le_refl _⟩ (fun _ _ hw => ?_)
  refine z_aload_n dX5_mayLeaveInside_7 rfl rfl ?_
  refine z_iconst dX5_mayLeaveInside_8 zi1 ?_
  refine z_bipush dX5_mayLeaveInside_9 zbp100 ?_
  refine z_iload_n dX5_mayLeaveInside_11 rfl rfl ?_
  refine z_callV dX5_mayLeaveInside_12 mX5_25 (c_X5_together  hw) zg53 rfl rfl (Nat.le_of_ble_eq_true rfl) ⟨Nat.le_of_ble_eq_true rfl, Nat.le_of_ble_eq_true rfl⟩ ⟨Nat.le_refl _, Nat.le_refl _⟩ (fun _ _ hw => ?_)
  refine z_isub dX5_mayLeaveInside_15 ?_
  refine z_istore_n dX5_mayLeaveInside_16 rfl (Nat.le_of_ble_eq_true rfl) ?_
  refine z_aload_n dX5_mayLeaveInside_17 rfl rfl ?_
  refine z_iconst dX5_mayLeaveInside_18 zi0 ?_
  refine z_bipush dX5_mayLeaveInside_19 zbp100 ?_
  refine z_iload_n dX5_mayLeaveInside_21 rfl rfl ?_
  refine z_callV dX5_mayLeaveInside_22 mX5_25 (c_X5_together  hw) zg53 rfl rfl (Nat.le_of_ble_eq_true rfl) ⟨Nat.le_of_ble_eq_true rfl, Nat.le_of_ble_eq_true rfl⟩ ⟨Nat.le_refl _, Nat.le_refl _⟩ (fun _ _ hw => ?_)
  refine z_aload_n dX5_mayLeaveInside_25 rfl rfl ?_
  refine z_iconst dX5_mayLeaveInside_26 zi1 ?_
  refine z_iconst dX5_mayLeaveInside_27 zi0 ?_
  refine z_iload_n dX5_mayLeaveInside_28 rfl rfl ?_
  refine z_callV dX5_mayLeaveInside_29 mX5_25 (c_X5_together  hw) zg53 rfl rfl (Nat.le_of_ble_eq_true rfl) ⟨Nat.le_of_ble_eq_true rfl, Nat.le_of_ble_eq_true rfl⟩ ⟨Nat.le_refl _, Nat.le_refl _⟩ (fun _ _ hw => ?_)
  refine z_isub dX5_mayLeaveInside_32 ?_
  refine z_istore dX5_mayLeaveInside_33 (Nat.le_of_ble_eq_true rfl) ?_
  refine z_iload_n dX5_mayLeaveInside_35 rfl rfl ?_
  refine z_iload_n dX5_mayLeaveInside_36 rfl rfl ?_
  refine z_iload dX5_mayLeaveInside_37 rfl ?_
  refine z_callSN dX5_mayLeaveInside_39 mX5_29 (c_X6_within  hw) rfl rfl (Nat.le_of_ble_eq_true rfl) ⟨Nat.le_of_ble_eq_true rfl, Nat.le_of_ble_eq_true rfl⟩ ⟨Nat.le_refl _, Nat.le_refl _⟩ (fun _ _ hw => ?_)
  exact z_zret dX5_mayLeaveInside_42 (Nat.le_refl _) (Nat.le_refl _) rfl ⟨hw.1, ⟨rfl, rfl, hw.2⟩⟩
def w_X6_fits  (x1 : Int32) (σ : zS) (Q : Int32 → zS → Prop) : Prop := (w_X6_within x1 ((0 : Int32)) ((100 : Int32)) σ fun v1 t2 => ((v1 = 0 → Q (-1 : Int32) t2) ∧ (¬ (v1 = 0) → (w_X5_mayLeaveInside x1 ((t2.1 9 0)) t2 fun v3 t4 => ((v3 = 0 → Q (0 : Int32) t4) ∧ (¬ (v3 = 0) → Q (1 : Int32) t4))))))
set_option maxHeartbeats 4000000 in
set_option maxRecDepth 100000 in
theorem c_X6_fits {b : Nat} {x1 : Int32} {σ : zS} {Q : Int32 → zS → Prop} (hw : w_X6_fits x1 σ Q) : zAC yX6_fits cX6_fits 2 (some .int) { frames := 2, cells := 0, slots := 0, locals := 50 } [.ref 0, .int x1] zΓ (zρ b) σ (zNp Q) := by
  refine z_entry (own := RX6) (ini := false) (plainFor_of_name pnX6) rfl (fun h => by cases h) (Nat.le_of_ble_eq_true rfl) ?_
  unfold w_X6_fits at hw
  refine z_iload_n dX6_fits_0 rfl rfl ?_
  refine z_iconst dX6_fits_1 zi0 ?_
  refine z_bipush dX6_fits_2 zbp100 ?_
  refine z_callS dX6_fits_4 mX6_58 (c_X6_within  hw) rfl rfl (Nat.le_of_ble_eq_true rfl) ⟨Nat.le_of_ble_eq_true rfl, Nat.le_of_ble_eq_true rfl⟩ ⟨Nat.le_refl _, Nat.le_refl _⟩ (fun _ _ hw => ?_)
  refine z_if_ne dX6_fits_7 hw (fun hw => ?_) (fun hw => ?_)
  · refine z_aload_n dX6_fits_12 rfl rfl ?_
    refine z_getr dX6_fits_13 fX6_47 zg0 zkX6_4 zr0_4 ?_
    refine z_iload_n dX6_fits_16 rfl rfl ?_
    refine z_aload_n dX6_fits_17 rfl rfl ?_
    refine z_getr dX6_fits_18 fX6_21 zg0 zkX6_6 zr0_6 ?_
    refine z_geti dX6_fits_21 fX6_173 zg9 zkX2_0 ?_
    refine z_callV dX6_fits_24 mX6_203 (c_X5_mayLeaveInside  hw) zg53 rfl rfl (Nat.le_of_ble_eq_true rfl) ⟨Nat.le_of_ble_eq_true rfl, Nat.le_of_ble_eq_true rfl⟩ ⟨Nat.le_refl _, Nat.le_refl _⟩ (fun _ _ hw => ?_)
    refine z_if_eq dX6_fits_27 hw (fun hw => ?_) (fun hw => ?_)
    · refine z_iconst dX6_fits_34 zi0 ?_
      exact z_iret dX6_fits_35 (Nat.le_refl _) (Nat.le_refl _) rfl ⟨rfl, ⟨_, rfl⟩, hw⟩
    · refine z_iconst dX6_fits_30 zi1 ?_
      refine z_goto dX6_fits_31 ?_
      exact z_iret dX6_fits_35 (Nat.le_refl _) (Nat.le_refl _) rfl ⟨rfl, ⟨_, rfl⟩, hw⟩
  · refine z_iconst dX6_fits_10 zim1 ?_
    exact z_iret dX6_fits_11 (Nat.le_refl _) (Nat.le_refl _) rfl ⟨rfl, ⟨_, rfl⟩, hw⟩
def w_X5_differs_J35 (Q : Int32 → zS → Prop) (K2 : Int32 → Int32 → zS → Prop) (x2 x3 : Int32) (σ : zS) : Prop := K2 x2 ((x3 + (1 : Int32))) σ
def w_X5_differs_L2 (Q : Int32 → zS → Prop)  : Nat → Int32 → Int32 → zS → Prop
  | 0, _, _, _ => False
  | n + 1, x2, x3, σ => (((2 : Int32) ≤ x3 → (((0 : Int32) = 0 ∨ (0 : Int32) = 1) ∧ Q (0 : Int32) σ)) ∧ (¬ ((2 : Int32) ≤ x3) → (vp_in x3 2 ∧ (vp_in x2 8 ∧ (((σ.2 ((55 + x3.toNatClampNeg)) x2.toNatClampNeg) = (-1 : Int32) → w_X5_differs_J35 Q (fun a2 a3 aσ => w_X5_differs_L2 Q  n a2 a3 aσ) x2 x3  σ) ∧ (¬ ((σ.2 ((55 + x3.toNatClampNeg)) x2.toNatClampNeg) = (-1 : Int32)) → (vp_in x3 2 ∧ (vp_in x2 8 ∧ (((σ.2 ((55 + x3.toNatClampNeg)) x2.toNatClampNeg) = (σ.2 ((10 + 17 + x3.toNatClampNeg)) x2.toNatClampNeg) → w_X5_differs_J35 Q (fun a2 a3 aσ => w_X5_differs_L2 Q  n a2 a3 aσ) x2 x3  σ) ∧ (¬ ((σ.2 ((55 + x3.toNatClampNeg)) x2.toNatClampNeg) = (σ.2 ((10 + 17 + x3.toNatClampNeg)) x2.toNatClampNeg)) → (((1 : Int32) = 0 ∨ (1 : Int32) = 1) ∧ Q (1 : Int32) σ)))))))))))
def w_X5_differs  (x2 : Int32) (σ : zS) (Q : Int32 → zS → Prop) : Prop := ∃ m2, w_X5_differs_L2 Q  m2 x2 ((0 : Int32)) σ
set_option maxHeartbeats 4000000 in
set_option maxRecDepth 100000 in
theorem j_X5_differs_35 {b : Nat} {Q : Int32 → zS → Prop} {K2 : Int32 → Int32 → zS → Prop} (hK2 : ∀ (a2 a3 : Int32) (σ : zS), K2 a2 a3 σ → zAW RX5 cX5_differs 5 (some .boolean) false { frames := 0, cells := 0, slots := 0, locals := 0 } zΓ.length (zN zΓ (zρ b) Q) 2 [(0, .ref 53), (1, .ref ((10 + 16))), (2, .int a2), (3, .int a3)] [] zΓ (zρ b) σ 0 0) {x2 x3 : Int32} {σ : zS} (hw : w_X5_differs_J35 Q K2 x2 x3 σ) : zAW RX5 cX5_differs 5 (some .boolean) false { frames := 0, cells := 0, slots := 0, locals := 0 } zΓ.length (zN zΓ (zρ b) Q) 35 [(0, .ref 53), (1, .ref ((10 + 16))), (2, .int x2), (3, .int x3)] [] zΓ (zρ b) σ 0 0 := by
  unfold w_X5_differs_J35 at hw
  refine z_iinc dX5_differs_35 rfl zi1 (Nat.le_of_ble_eq_true rfl) ?_
  refine z_goto dX5_differs_38 ?_
  exact z_to (hK2 _ _ _ hw) ⟨rfl, rfl, rfl, rfl, trivial⟩
set_option maxHeartbeats 4000000 in
set_option maxRecDepth 100000 in
theorem l_X5_differs_2 {b : Nat} {Q : Int32 → zS → Prop}   : ∀ (n : Nat) (x2 x3 : Int32) (σ : zS), w_X5_differs_L2 Q  n x2 x3 σ → zAW RX5 cX5_differs 5 (some .boolean) false { frames := 0, cells := 0, slots := 0, locals := 0 } zΓ.length (zN zΓ (zρ b) Q) 2 [(0, .ref 53), (1, .ref ((10 + 16))), (2, .int x2), (3, .int x3)] [] zΓ (zρ b) σ 0 0 := by
  intro n
  induction n with
  | zero => intro x2 x3 σ hw; exact hw.elim
  | succ n hK2 =>
    intro x2 x3 σ hw
    rw [w_X5_differs_L2] at hw
    refine z_iload_n dX5_differs_2 rfl rfl ?_
    refine z_iconst dX5_differs_3 zi2 ?_
    refine z_icmp_ge dX5_differs_4 hw (fun hw => ?_) (fun hw => ?_)
    · refine z_iconst dX5_differs_41 zi0 ?_
      exact z_zret dX5_differs_42 (Nat.le_refl _) (Nat.le_refl _) rfl ⟨hw.1, ⟨rfl, rfl, hw.2⟩⟩
    · refine z_aload_n dX5_differs_7 rfl rfl ?_
      refine z_getr dX5_differs_8 fX5_11 zg53 zkX5_0 zr53_0 ?_
      refine z_iload_n dX5_differs_11 rfl rfl ?_
      have hv1 := hw.1
      refine z_aald dX5_differs_12 zg54 hw (zrho zref54) (fun hw => ?_)
      refine z_iload_n dX5_differs_13 rfl rfl ?_
      refine z_iald dX5_differs_14 (zrow zrow54 hv1) hw (fun hw => ?_)
      refine z_istore dX5_differs_15 (Nat.le_of_ble_eq_true rfl) ?_
      refine z_iload dX5_differs_17 rfl ?_
      refine z_iconst dX5_differs_19 zim1 ?_
      refine z_icmp_eq dX5_differs_20 hw (fun hw => ?_) (fun hw => ?_)
      · exact z_to (j_X5_differs_35  hK2 hw) ⟨rfl, rfl, rfl, rfl, trivial⟩
      · refine z_iload dX5_differs_23 rfl ?_
        refine z_aload_n dX5_differs_25 rfl rfl ?_
        refine z_iload_n dX5_differs_26 rfl rfl ?_
        have hv2 := hw.1
        refine z_aald dX5_differs_27 (zgC16 (Or.inl rfl)) hw (zrho (zrefN (Or.inl rfl))) (fun hw => ?_)
        refine z_iload_n dX5_differs_28 rfl rfl ?_
        refine z_iald dX5_differs_29 (zrow (zrowN (Or.inl rfl)) hv2) hw (fun hw => ?_)
        refine z_icmp_eq dX5_differs_30 hw (fun hw => ?_) (fun hw => ?_)
        · exact z_to (j_X5_differs_35  hK2 hw) ⟨rfl, rfl, rfl, rfl, trivial⟩
        · refine z_iconst dX5_differs_33 zi1 ?_
          exact z_zret dX5_differs_34 (Nat.le_refl _) (Nat.le_refl _) rfl ⟨hw.1, ⟨rfl, rfl, hw.2⟩⟩
set_option maxHeartbeats 4000000 in
set_option maxRecDepth 100000 in
theorem c_X5_differs {b : Nat} {x2 : Int32} {σ : zS} {Q : Int32 → zS → Prop} (hw : w_X5_differs x2 σ Q) : zAC yX5_differs cX5_differs 5 (some .boolean) { frames := 0, cells := 0, slots := 0, locals := 0 } [.ref 53, .ref ((10 + 16)), .int x2] zΓ (zρ b) σ (zN zΓ (zρ b) Q) := by
  refine z_entry (own := RX5) (ini := false) (plainFor_of_name pnX5) rfl (fun h => by cases h) (Nat.le_of_ble_eq_true rfl) ?_
  unfold w_X5_differs at hw
  refine z_iconst dX5_differs_0 zi0 ?_
  refine z_istore_n dX5_differs_1 rfl (Nat.le_of_ble_eq_true rfl) ?_
  obtain ⟨n, hw⟩ := hw
  exact z_to (l_X5_differs_2   n _ _ _ hw) ⟨rfl, rfl, rfl, rfl, trivial⟩
def w_X6_wrong_J39 (Q : Int32 → zS → Prop) (K4 : Int32 → Int32 → zS → Prop) (x1 x2 : Int32) (σ : zS) : Prop := K4 x1 ((x2 + (1 : Int32))) σ
def w_X6_wrong_L4 (Q : Int32 → zS → Prop)  : Nat → Int32 → Int32 → zS → Prop
  | 0, _, _, _ => False
  | n + 1, x1, x2, σ => (((σ.1 9 0) ≤ x2 → Q x1 σ) ∧ (¬ ((σ.1 9 0) ≤ x2) → (w_X5_differs x2 σ fun v1 t2 => ((v1 = 0 → w_X6_wrong_J39 Q (fun a1 a2 aσ => w_X6_wrong_L4 Q  n a1 a2 aσ) x1 x2  t2) ∧ (¬ (v1 = 0) → w_X6_wrong_J39 Q (fun a1 a2 aσ => w_X6_wrong_L4 Q  n a1 a2 aσ) ((x1 ||| ((1 : Int32) <<< (x2 &&& 31)))) x2  t2)))))
def w_X6_wrong  (σ : zS) (Q : Int32 → zS → Prop) : Prop := ∃ m4, w_X6_wrong_L4 Q  m4 ((0 : Int32)) ((0 : Int32)) σ
set_option maxHeartbeats 4000000 in
set_option maxRecDepth 100000 in
theorem j_X6_wrong_39 {b : Nat} {Q : Int32 → zS → Prop} {K4 : Int32 → Int32 → zS → Prop} (hK4 : ∀ {b : Nat} (a1 a2 : Int32) (σ : zS), K4 a1 a2 σ → zAW RX6 cX6_wrong 3 (some .int) false { frames := 1, cells := 0, slots := 0, locals := 24 } zΓ.length (zNp Q) 4 [(0, .ref 0), (1, .int a1), (2, .int a2)] [] zΓ (zρ b) σ 0 0) {x1 x2 : Int32} {σ : zS} (hw : w_X6_wrong_J39 Q K4 x1 x2 σ) : zAW RX6 cX6_wrong 3 (some .int) false { frames := 1, cells := 0, slots := 0, locals := 24 } zΓ.length (zNp Q) 39 [(0, .ref 0), (1, .int x1), (2, .int x2)] [] zΓ (zρ b) σ 0 0 := by
  unfold w_X6_wrong_J39 at hw
  refine z_iinc dX6_wrong_39 rfl zi1 (Nat.le_of_ble_eq_true rfl) ?_
  refine z_goto dX6_wrong_42 ?_
  exact z_to (hK4 _ _ _ hw) ⟨rfl, rfl, rfl, trivial⟩
set_option maxHeartbeats 4000000 in
set_option maxRecDepth 100000 in
theorem l_X6_wrong_4 {Q : Int32 → zS → Prop}   : ∀ (n : Nat) {b : Nat} (x1 x2 : Int32) (σ : zS), w_X6_wrong_L4 Q  n x1 x2 σ → zAW RX6 cX6_wrong 3 (some .int) false { frames := 1, cells := 0, slots := 0, locals := 24 } zΓ.length (zNp Q) 4 [(0, .ref 0), (1, .int x1), (2, .int x2)] [] zΓ (zρ b) σ 0 0 := by
  intro n
  induction n with
  | zero => intro b x1 x2 σ hw; exact hw.elim
  | succ n hK4 =>
    intro b x1 x2 σ hw
    rw [w_X6_wrong_L4] at hw
    refine z_iload_n dX6_wrong_4 rfl rfl ?_
    refine z_aload_n dX6_wrong_5 rfl rfl ?_
    refine z_getr dX6_wrong_6 fX6_21 zg0 zkX6_6 zr0_6 ?_
    refine z_geti dX6_wrong_9 fX6_173 zg9 zkX2_0 ?_
    refine z_icmp_ge dX6_wrong_12 hw (fun hw => ?_) (fun hw => ?_)
    · refine z_iload_n dX6_wrong_45 rfl rfl ?_
      exact z_iret dX6_wrong_46 (Nat.le_refl _) (Nat.le_refl _) rfl ⟨rfl, ⟨_, rfl⟩, hw⟩
    · refine z_aload_n dX6_wrong_15 rfl rfl ?_
      refine z_getr dX6_wrong_16 fX6_47 zg0 zkX6_4 zr0_4 ?_
      refine z_aload_n dX6_wrong_19 rfl rfl ?_
      refine z_getr dX6_wrong_20 fX6_30 zg0 zkX6_1 zr0_1 ?_
      refine z_getr dX6_wrong_23 fX6_199 (zgC0 (Or.inl rfl)) zkX0_8 (zrC8 (Or.inl rfl)) ?_
      refine z_iload_n dX6_wrong_26 rfl rfl ?_
      refine z_callV dX6_wrong_27 mX6_206 (c_X5_differs  hw) zg53 rfl rfl (Nat.le_of_ble_eq_true rfl) ⟨Nat.le_of_ble_eq_true rfl, Nat.le_of_ble_eq_true rfl⟩ ⟨Nat.le_refl _, Nat.le_refl _⟩ (fun _ _ hw => ?_)
      refine z_if_eq dX6_wrong_30 hw (fun hw => ?_) (fun hw => ?_)
      · exact z_to (j_X6_wrong_39  hK4 hw) ⟨rfl, rfl, rfl, trivial⟩
      · refine z_iload_n dX6_wrong_33 rfl rfl ?_
        refine z_iconst dX6_wrong_34 zi1 ?_
        refine z_iload_n dX6_wrong_35 rfl rfl ?_
        refine z_ishl dX6_wrong_36 ?_
        refine z_ior dX6_wrong_37 ?_
        refine z_istore_n dX6_wrong_38 rfl (Nat.le_of_ble_eq_true rfl) ?_
        exact z_to (j_X6_wrong_39  hK4 hw) ⟨rfl, rfl, rfl, trivial⟩
set_option maxHeartbeats 4000000 in
set_option maxRecDepth 100000 in
theorem c_X6_wrong {b : Nat} {σ : zS} {Q : Int32 → zS → Prop} (hw : w_X6_wrong  σ Q) : zAC yX6_wrong cX6_wrong 3 (some .int) { frames := 1, cells := 0, slots := 0, locals := 24 } [.ref 0] zΓ (zρ b) σ (zNp Q) := by
  refine z_entry (own := RX6) (ini := false) (plainFor_of_name pnX6) rfl (fun h => by cases h) (Nat.le_of_ble_eq_true rfl) ?_
  unfold w_X6_wrong at hw
  refine z_iconst dX6_wrong_0 zi0 ?_
  refine z_istore_n dX6_wrong_1 rfl (Nat.le_of_ble_eq_true rfl) ?_
  refine z_iconst dX6_wrong_2 zi0 ?_
  refine z_istore_n dX6_wrong_3 rfl (Nat.le_of_ble_eq_true rfl) ?_
  obtain ⟨n, hw⟩ := hw
  exact z_to (l_X6_wrong_4   n _ _ _ hw) ⟨rfl, rfl, rfl, trivial⟩
def w_X3_add_L18 (Q : Int32 → zS → Prop)  : Nat → Int32 → zS → Prop
  | 0, _, _ => False
  | n + 1, x2, σ => (vp_in ((σ.1 57 2)) 3 ∧ (((σ.2 62 ((σ.1 57 2)).toNatClampNeg) ≤ x2 → (zlet (zI σ 57 2 ((σ.1 57 2) + (1 : Int32))) fun t1 => Q 0 t1)) ∧ (¬ ((σ.2 62 ((σ.1 57 2)).toNatClampNeg) ≤ x2) → (vp_in ((σ.1 57 2)) 3 ∧ (w_X0_costOf 30 x2 σ fun v3 t4 => (vp_in x2 30 ∧ zlet (zA t4 ((59 + ((σ.1 57 2)).toNatClampNeg)) x2.toNatClampNeg v3) fun t5 => (fun a2 aσ => w_X3_add_L18 Q  n a2 aσ) ((x2 + (1 : Int32))) t5))))))
def w_X3_add  (σ : zS) (Q : Int32 → zS → Prop) : Prop := (vp_in ((σ.1 57 2)) 3 ∧ zlet (zA σ 62 ((σ.1 57 2)).toNatClampNeg (σ.1 1 7)) fun t1 => ∃ m18, w_X3_add_L18 Q  m18 ((0 : Int32)) t1)
set_option maxHeartbeats 4000000 in
set_option maxRecDepth 100000 in
theorem l_X3_add_18  {Q : Int32 → zS → Prop}   : ∀ (n : Nat) (x2 : Int32) (σ : zS), w_X3_add_L18 Q  n x2 σ → zAW RX3 cX3_add 3 none false { frames := 1, cells := 0, slots := 0, locals := 22 } zΓ.length (zN zΓ (zρ 9) Q) 18 [(0, .ref 57), (1, .ref 30), (2, .int x2)] [] zΓ (zρ 9) σ 0 0 := by
  intro n
  induction n with
  | zero => intro x2 σ hw; exact hw.elim
  | succ n hK18 =>
    intro x2 σ hw
    rw [w_X3_add_L18] at hw
    refine z_iload_n dX3_add_18 rfl rfl ?_
    refine z_aload_n dX3_add_19 rfl rfl ?_
    refine z_getr dX3_add_20 fX3_16 zg57 zkX3_1 zr57_1 ?_
    refine z_aload_n dX3_add_23 rfl rfl ?_
    refine z_geti dX3_add_24 fX3_20 zg57 zkX3_2 ?_
    refine z_iald dX3_add_27 zg62 hw (fun hw => ?_)
    refine z_icmp_ge dX3_add_28 hw (fun hw => ?_) (fun hw => ?_)
    · refine z_aload_n dX3_add_53 rfl rfl ?_
      refine z_dup dX3_add_54 rfl ?_
      refine z_geti dX3_add_55 fX3_20 zg57 zkX3_2 ?_
      refine z_iconst dX3_add_58 zi1 ?_
      refine z_iadd dX3_add_59 ?_
      refine z_putiL dX3_add_60 fX3_20 zg57 zkX3_2 hw (fun hw => ?_)
      exact z_vret dX3_add_63 (Nat.le_refl _) (Nat.le_refl _) rfl ⟨rfl, rfl, hw⟩
    · refine z_aload_n dX3_add_31 rfl rfl ?_
      refine z_getr dX3_add_32 fX3_11 zg57 zkX3_0 zr57_0 ?_
      refine z_aload_n dX3_add_35 rfl rfl ?_
      refine z_geti dX3_add_36 fX3_20 zg57 zkX3_2 ?_
      have hv2 := hw.1
      refine z_aald dX3_add_39 zg58 hw (zrho zref58) (fun hw => ?_)
      refine z_iload_n dX3_add_40 rfl rfl ?_
      refine z_aload_n dX3_add_41 rfl rfl ?_
      refine z_iload_n dX3_add_42 rfl rfl ?_
      refine z_callV dX3_add_43 mX3_32 (c_X0_costOf zH30 hw) (zgC0 (Or.inr rfl)) rfl rfl (Nat.le_of_ble_eq_true rfl) ⟨Nat.le_of_ble_eq_true rfl, Nat.le_of_ble_eq_true rfl⟩ ⟨Nat.le_refl _, Nat.le_refl _⟩ (fun _ _ hw => ?_)
      refine z_iastL dX3_add_46 (zrow zrow58 hv2) hw (fun hw => ?_)
      refine z_iinc dX3_add_47 rfl zi1 (Nat.le_of_ble_eq_true rfl) ?_
      refine z_goto dX3_add_50 ?_
      exact z_to (hK18 _ _ hw) ⟨rfl, rfl, rfl, trivial⟩
set_option maxHeartbeats 4000000 in
set_option maxRecDepth 100000 in
theorem c_X3_add  {σ : zS} {Q : Int32 → zS → Prop} (hw : w_X3_add  σ Q) : zAC yX3_add cX3_add 3 none { frames := 1, cells := 0, slots := 0, locals := 22 } [.ref 57, .ref 30] zΓ (zρ 9) σ (zN zΓ (zρ 9) Q) := by
  refine z_entry (own := RX3) (ini := false) (plainFor_of_name pnX3) rfl (fun h => by cases h) (Nat.le_of_ble_eq_true rfl) ?_
  unfold w_X3_add at hw
  refine z_aload_n dX3_add_0 rfl rfl ?_
  refine z_getr dX3_add_1 fX3_16 zg57 zkX3_1 zr57_1 ?_
  refine z_aload_n dX3_add_4 rfl rfl ?_
  refine z_geti dX3_add_5 fX3_20 zg57 zkX3_2 ?_
  refine z_aload_n dX3_add_8 rfl rfl ?_
  refine z_getr dX3_add_9 fX3_24 (zgC0 (Or.inr rfl)) zkX0_0 (zrC0 (Or.inr rfl)) ?_
  refine z_geti dX3_add_12 fX3_29 zg1 zkX4_7 ?_
  refine z_iastL dX3_add_15 zg62 hw (fun hw => ?_)
  refine z_iconst dX3_add_16 zi0 ?_
  refine z_istore_n dX3_add_17 rfl (Nat.le_of_ble_eq_true rfl) ?_
  obtain ⟨n, hw⟩ := hw
  exact z_to (l_X3_add_18   n _ _ hw) ⟨rfl, rfl, rfl, trivial⟩
def w_X6_keep  (σ : zS) (Q : Int32 → zS → Prop) : Prop := (((σ.1 57 2) < (3 : Int32) → (w_X0_playDay ((σ.1 10 11)) ((-1 : Int32)) σ fun v1 t2 => (w_X3_add  t2 fun _ t3 => Q (t3.1 57 2) t3))) ∧ (¬ ((σ.1 57 2) < (3 : Int32)) → Q (-3 : Int32) σ))
set_option maxHeartbeats 4000000 in
set_option maxRecDepth 100000 in
theorem c_X6_keep {b : Nat} {σ : zS} {Q : Int32 → zS → Prop} (hw : w_X6_keep  σ Q) : zAC yX6_keep cX6_keep 1 (some .int) { frames := 7, cells := 0, slots := 0, locals := 153 } [.ref 0] zΓ (zρ b) σ (zNp Q) := by
  refine z_entry (own := RX6) (ini := false) (plainFor_of_name pnX6) rfl (fun h => by cases h) (Nat.le_of_ble_eq_true rfl) ?_
  unfold w_X6_keep at hw
  refine z_aload_n dX6_keep_0 rfl rfl ?_
  refine z_getr dX6_keep_1 fX6_54 zg0 zkX6_5 zr0_5 ?_
  refine z_geti dX6_keep_4 fX6_77 zg57 zkX3_2 ?_
  refine z_iconst dX6_keep_7 zi3 ?_
  refine z_icmp_lt dX6_keep_8 hw (fun hw => ?_) (fun hw => ?_)
  · refine z_aload_n dX6_keep_14 rfl rfl ?_
    refine z_getr dX6_keep_15 fX6_34 zg0 zkX6_2 zr0_2 ?_
    refine z_aload_n dX6_keep_18 rfl rfl ?_
    refine z_getr dX6_keep_19 fX6_21 zg0 zkX6_6 zr0_6 ?_
    refine z_aload_n dX6_keep_22 rfl rfl ?_
    refine z_getr dX6_keep_23 fX6_30 zg0 zkX6_1 zr0_1 ?_
    refine z_geti dX6_keep_26 fX6_95 (zgC0 (Or.inl rfl)) zkX0_11 ?_
    refine z_iconst dX6_keep_29 zim1 ?_
    refine z_callV dX6_keep_30 mX6_164 (c_X0_playDay  hw) (zgC0 (Or.inr rfl)) rfl rfl (Nat.le_of_ble_eq_true rfl) ⟨Nat.le_of_ble_eq_true rfl, Nat.le_of_ble_eq_true rfl⟩ ⟨Nat.le_refl _, Nat.le_refl _⟩ (fun _ _ hw => ?_)
    refine z_pop dX6_keep_33 rfl ?_
    refine z_aload_n dX6_keep_34 rfl rfl ?_
    refine z_getr dX6_keep_35 fX6_54 zg0 zkX6_5 zr0_5 ?_
    refine z_aload_n dX6_keep_38 rfl rfl ?_
    refine z_getr dX6_keep_39 fX6_34 zg0 zkX6_2 zr0_2 ?_
    refine z_callVv dX6_keep_42 mX6_210 (c_X3_add  hw) zg57 rfl rfl (Nat.le_of_ble_eq_true rfl) ⟨Nat.le_of_ble_eq_true rfl, Nat.le_of_ble_eq_true rfl⟩ ⟨Nat.le_refl _, Nat.le_refl _⟩ (fun _ hw => ?_)
    refine z_aload_n dX6_keep_45 rfl rfl ?_
    refine z_getr dX6_keep_46 fX6_54 zg0 zkX6_5 zr0_5 ?_
    refine z_geti dX6_keep_49 fX6_77 zg57 zkX3_2 ?_
    exact z_iret dX6_keep_52 (Nat.le_refl _) (Nat.le_refl _) rfl ⟨rfl, ⟨_, rfl⟩, hw⟩
  · refine z_bipush dX6_keep_11 zbpm3 ?_
    exact z_iret dX6_keep_13 (Nat.le_refl _) (Nat.le_refl _) rfl ⟨rfl, ⟨_, rfl⟩, hw⟩
def w_J6_signum_0f7a4  (x0 : Int32) (σ : zS) (Q : Int32 → zS → Prop) : Prop := Q ((x0 >>> ((31 : Int32) &&& 31)) ||| ((((-x0)).toUInt32 >>> (((31 : Int32)).toUInt32 &&& Int32.toUInt32 31)).toInt32)) σ
set_option maxHeartbeats 4000000 in
set_option maxRecDepth 100000 in
theorem c_J6_signum_0f7a4 {Γ : zG} {ρ : zR} {x0 : Int32} {σ : zS} {Q : Int32 → zS → Prop} (hw : w_J6_signum_0f7a4 x0 σ Q) : zAC yJ6_signum_0f7a4 cJ6_signum_0f7a4 1 (some .int) { frames := 0, cells := 0, slots := 0, locals := 0 } [.int x0] Γ ρ σ (zN Γ ρ Q) := by
  refine z_entry (own := RJ6) (ini := false) (plainFor_of_name pnJ6) rfl (fun h => by cases h) (Nat.le_of_ble_eq_true rfl) ?_
  unfold w_J6_signum_0f7a4 at hw
  refine z_iload_n dJ6_signum_0f7a4_0 rfl rfl ?_
  refine z_bipush dJ6_signum_0f7a4_1 zbp31 ?_
  refine z_ishr dJ6_signum_0f7a4_3 ?_
  refine z_iload_n dJ6_signum_0f7a4_4 rfl rfl ?_
  refine z_ineg dJ6_signum_0f7a4_5 ?_
  refine z_bipush dJ6_signum_0f7a4_6 zbp31 ?_
  refine z_iushr dJ6_signum_0f7a4_8 ?_
  refine z_ior dJ6_signum_0f7a4_9 ?_
  exact z_iret dJ6_signum_0f7a4_10 (Nat.le_refl _) (Nat.le_refl _) rfl ⟨rfl, rfl, hw⟩
def w_X3_howManyHave_J43 (Q : Int32 → zS → Prop) (K6 : Int32 → Int32 → Int32 → Int32 → zS → Prop) (x1 x2 x4 x5 : Int32) (σ : zS) : Prop := K6 x1 x2 x4 ((x5 + (1 : Int32))) σ
def w_X3_howManyHave_L6 (Q : Int32 → zS → Prop)  : Nat → Int32 → Int32 → Int32 → Int32 → zS → Prop
  | 0, _, _, _, _, _ => False
  | n + 1, x1, x2, x4, x5, σ => (vp_in x2 3 ∧ (((σ.2 62 x2.toNatClampNeg) ≤ x5 → Q x4 σ) ∧ (¬ ((σ.2 62 x2.toNatClampNeg) ≤ x5) → (w_X0_costOf 30 x5 σ fun v1 t2 => (vp_in x2 3 ∧ (vp_in x5 30 ∧ (w_J6_signum_0f7a4 ((v1 - (t2.2 ((59 + x2.toNatClampNeg)) x5.toNatClampNeg))) t2 fun v4 t5 => ((v4 = x1 → w_X3_howManyHave_J43 Q (fun a1 a2 a4 a5 aσ => w_X3_howManyHave_L6 Q  n a1 a2 a4 a5 aσ) x1 x2 ((x4 + (1 : Int32))) x5  t5) ∧ (¬ (v4 = x1) → w_X3_howManyHave_J43 Q (fun a1 a2 a4 a5 aσ => w_X3_howManyHave_L6 Q  n a1 a2 a4 a5 aσ) x1 x2 x4 x5  t5)))))))))
def w_X3_howManyHave  (x1 x2 : Int32) (σ : zS) (Q : Int32 → zS → Prop) : Prop := ∃ m6, w_X3_howManyHave_L6 Q  m6 x1 x2 ((0 : Int32)) ((0 : Int32)) σ
set_option maxHeartbeats 4000000 in
set_option maxRecDepth 100000 in
theorem j_X3_howManyHave_43  {Q : Int32 → zS → Prop} {K6 : Int32 → Int32 → Int32 → Int32 → zS → Prop} (hK6 : ∀ (a1 a2 a4 a5 : Int32) (σ : zS), K6 a1 a2 a4 a5 σ → zAW RX3 cX3_howManyHave 6 (some .int) false { frames := 1, cells := 0, slots := 0, locals := 22 } zΓ.length (zN zΓ (zρ 9) Q) 6 [(0, .ref 57), (1, .int a1), (2, .int a2), (3, .ref 30), (4, .int a4), (5, .int a5)] [] zΓ (zρ 9) σ 0 0) {x1 x2 x4 x5 : Int32} {σ : zS} (hw : w_X3_howManyHave_J43 Q K6 x1 x2 x4 x5 σ) : zAW RX3 cX3_howManyHave 6 (some .int) false { frames := 1, cells := 0, slots := 0, locals := 22 } zΓ.length (zN zΓ (zρ 9) Q) 43 [(0, .ref 57), (1, .int x1), (2, .int x2), (3, .ref 30), (4, .int x4), (5, .int x5)] [] zΓ (zρ 9) σ 0 0 := by
  unfold w_X3_howManyHave_J43 at hw
  refine z_iinc dX3_howManyHave_43 rfl zi1 (Nat.le_of_ble_eq_true rfl) ?_
  refine z_goto dX3_howManyHave_46 ?_
  exact z_to (hK6 _ _ _ _ _ hw) ⟨rfl, rfl, rfl, rfl, rfl, rfl, trivial⟩
set_option maxHeartbeats 4000000 in
set_option maxRecDepth 100000 in
theorem l_X3_howManyHave_6  {Q : Int32 → zS → Prop}   : ∀ (n : Nat) (x1 x2 x4 x5 : Int32) (σ : zS), w_X3_howManyHave_L6 Q  n x1 x2 x4 x5 σ → zAW RX3 cX3_howManyHave 6 (some .int) false { frames := 1, cells := 0, slots := 0, locals := 22 } zΓ.length (zN zΓ (zρ 9) Q) 6 [(0, .ref 57), (1, .int x1), (2, .int x2), (3, .ref 30), (4, .int x4), (5, .int x5)] [] zΓ (zρ 9) σ 0 0 := by
  intro n
  induction n with
  | zero => intro x1 x2 x4 x5 σ hw; exact hw.elim
  | succ n hK6 =>
    intro x1 x2 x4 x5 σ hw
    rw [w_X3_howManyHave_L6] at hw
    refine z_iload dX3_howManyHave_6 rfl ?_
    refine z_aload_n dX3_howManyHave_8 rfl rfl ?_
    refine z_getr dX3_howManyHave_9 fX3_16 zg57 zkX3_1 zr57_1 ?_
    refine z_iload_n dX3_howManyHave_12 rfl rfl ?_
    refine z_iald dX3_howManyHave_13 zg62 hw (fun hw => ?_)
    refine z_icmp_ge dX3_howManyHave_14 hw (fun hw => ?_) (fun hw => ?_)
    · refine z_iload dX3_howManyHave_49 rfl ?_
      exact z_iret dX3_howManyHave_51 (Nat.le_refl _) (Nat.le_refl _) rfl ⟨rfl, rfl, hw⟩
    · refine z_aload_n dX3_howManyHave_17 rfl rfl ?_
      refine z_iload dX3_howManyHave_18 rfl ?_
      refine z_callV dX3_howManyHave_20 mX3_32 (c_X0_costOf zH30 hw) (zgC0 (Or.inr rfl)) rfl rfl (Nat.le_of_ble_eq_true rfl) ⟨Nat.le_of_ble_eq_true rfl, Nat.le_of_ble_eq_true rfl⟩ ⟨Nat.le_refl _, Nat.le_refl _⟩ (fun _ _ hw => ?_)
      refine z_aload_n dX3_howManyHave_23 rfl rfl ?_
      refine z_getr dX3_howManyHave_24 fX3_11 zg57 zkX3_0 zr57_0 ?_
      refine z_iload_n dX3_howManyHave_27 rfl rfl ?_
      have hv3 := hw.1
      refine z_aald dX3_howManyHave_28 zg58 hw (zrho zref58) (fun hw => ?_)
      refine z_iload dX3_howManyHave_29 rfl ?_
      refine z_iald dX3_howManyHave_31 (zrow zrow58 hv3) hw (fun hw => ?_)
      refine z_isub dX3_howManyHave_32 ?_
      refine z_callS dX3_howManyHave_33 mX3_36 (c_J6_signum_0f7a4  hw) rfl rfl (Nat.le_of_ble_eq_true rfl) ⟨Nat.le_of_ble_eq_true rfl, Nat.le_of_ble_eq_true rfl⟩ ⟨Nat.le_refl _, Nat.le_refl _⟩ (fun _ _ hw => ?_)
      refine z_iload_n dX3_howManyHave_36 rfl rfl ?_
      refine z_icmp_ne dX3_howManyHave_37 hw (fun hw => ?_) (fun hw => ?_)
      · exact z_to (j_X3_howManyHave_43  hK6 hw) ⟨rfl, rfl, rfl, rfl, rfl, rfl, trivial⟩
      · refine z_iinc dX3_howManyHave_40 rfl zi1 (Nat.le_of_ble_eq_true rfl) ?_
        exact z_to (j_X3_howManyHave_43  hK6 hw) ⟨rfl, rfl, rfl, rfl, rfl, rfl, trivial⟩
set_option maxHeartbeats 4000000 in
set_option maxRecDepth 100000 in
theorem c_X3_howManyHave  {x1 x2 : Int32} {σ : zS} {Q : Int32 → zS → Prop} (hw : w_X3_howManyHave x1 x2 σ Q) : zAC yX3_howManyHave cX3_howManyHave 6 (some .int) { frames := 1, cells := 0, slots := 0, locals := 22 } [.ref 57, .int x1, .int x2, .ref 30] zΓ (zρ 9) σ (zN zΓ (zρ 9) Q) := by
  refine z_entry (own := RX3) (ini := false) (plainFor_of_name pnX3) rfl (fun h => by cases h) (Nat.le_of_ble_eq_true rfl) ?_
  unfold w_X3_howManyHave at hw
  refine z_iconst dX3_howManyHave_0 zi0 ?_
  refine z_istore dX3_howManyHave_1 (Nat.le_of_ble_eq_true rfl) ?_
  refine z_iconst dX3_howManyHave_3 zi0 ?_
  refine z_istore dX3_howManyHave_4 (Nat.le_of_ble_eq_true rfl) ?_
  obtain ⟨n, hw⟩ := hw
  exact z_to (l_X3_howManyHave_6   n _ _ _ _ _ hw) ⟨rfl, rfl, rfl, rfl, rfl, rfl, trivial⟩
def w_X3_lessTogether_L5 (Q : Int32 → zS → Prop)  : Nat → Int32 → Int32 → Int32 → zS → Prop
  | 0, _, _, _, _ => False
  | n + 1, x1, x3, x4, σ => (vp_in x1 3 ∧ (((σ.2 62 x1.toNatClampNeg) ≤ x4 → Q x3 σ) ∧ (¬ ((σ.2 62 x1.toNatClampNeg) ≤ x4) → (vp_in x1 3 ∧ (vp_in x4 30 ∧ (w_X0_costOf 30 x4 σ fun v2 t3 => (fun a1 a3 a4 aσ => w_X3_lessTogether_L5 Q  n a1 a3 a4 aσ) x1 ((x3 + ((σ.2 ((59 + x1.toNatClampNeg)) x4.toNatClampNeg) - v2))) ((x4 + (1 : Int32))) t3))))))
def w_X3_lessTogether  (x1 : Int32) (σ : zS) (Q : Int32 → zS → Prop) : Prop := ∃ m5, w_X3_lessTogether_L5 Q  m5 x1 ((0 : Int32)) ((0 : Int32)) σ
set_option maxHeartbeats 4000000 in
set_option maxRecDepth 100000 in
theorem l_X3_lessTogether_5  {Q : Int32 → zS → Prop}   : ∀ (n : Nat) (x1 x3 x4 : Int32) (σ : zS), w_X3_lessTogether_L5 Q  n x1 x3 x4 σ → zAW RX3 cX3_lessTogether 5 (some .int) false { frames := 1, cells := 0, slots := 0, locals := 22 } zΓ.length (zN zΓ (zρ 9) Q) 5 [(0, .ref 57), (1, .int x1), (2, .ref 30), (3, .int x3), (4, .int x4)] [] zΓ (zρ 9) σ 0 0 := by
  intro n
  induction n with
  | zero => intro x1 x3 x4 σ hw; exact hw.elim
  | succ n hK5 =>
    intro x1 x3 x4 σ hw
    rw [w_X3_lessTogether_L5] at hw
    refine z_iload dX3_lessTogether_5 rfl ?_
    refine z_aload_n dX3_lessTogether_7 rfl rfl ?_
    refine z_getr dX3_lessTogether_8 fX3_16 zg57 zkX3_1 zr57_1 ?_
    refine z_iload_n dX3_lessTogether_11 rfl rfl ?_
    refine z_iald dX3_lessTogether_12 zg62 hw (fun hw => ?_)
    refine z_icmp_ge dX3_lessTogether_13 hw (fun hw => ?_) (fun hw => ?_)
    · refine z_iload_n dX3_lessTogether_41 rfl rfl ?_
      exact z_iret dX3_lessTogether_42 (Nat.le_refl _) (Nat.le_refl _) rfl ⟨rfl, rfl, hw⟩
    · refine z_iload_n dX3_lessTogether_16 rfl rfl ?_
      refine z_aload_n dX3_lessTogether_17 rfl rfl ?_
      refine z_getr dX3_lessTogether_18 fX3_11 zg57 zkX3_0 zr57_0 ?_
      refine z_iload_n dX3_lessTogether_21 rfl rfl ?_
      have hv1 := hw.1
      refine z_aald dX3_lessTogether_22 zg58 hw (zrho zref58) (fun hw => ?_)
      refine z_iload dX3_lessTogether_23 rfl ?_
      refine z_iald dX3_lessTogether_25 (zrow zrow58 hv1) hw (fun hw => ?_)
      refine z_aload_n dX3_lessTogether_26 rfl rfl ?_
      refine z_iload dX3_lessTogether_27 rfl ?_
      refine z_callV dX3_lessTogether_29 mX3_32 (c_X0_costOf zH30 hw) (zgC0 (Or.inr rfl)) rfl rfl (Nat.le_of_ble_eq_true rfl) ⟨Nat.le_of_ble_eq_true rfl, Nat.le_of_ble_eq_true rfl⟩ ⟨Nat.le_refl _, Nat.le_refl _⟩ (fun _ _ hw => ?_)
      refine z_isub dX3_lessTogether_32 ?_
      refine z_iadd dX3_lessTogether_33 ?_
      refine z_istore_n dX3_lessTogether_34 rfl (Nat.le_of_ble_eq_true rfl) ?_
      refine z_iinc dX3_lessTogether_35 rfl zi1 (Nat.le_of_ble_eq_true rfl) ?_
      refine z_goto dX3_lessTogether_38 ?_
      exact z_to (hK5 _ _ _ _ hw) ⟨rfl, rfl, rfl, rfl, rfl, trivial⟩
set_option maxHeartbeats 4000000 in
set_option maxRecDepth 100000 in
theorem c_X3_lessTogether  {x1 : Int32} {σ : zS} {Q : Int32 → zS → Prop} (hw : w_X3_lessTogether x1 σ Q) : zAC yX3_lessTogether cX3_lessTogether 5 (some .int) { frames := 1, cells := 0, slots := 0, locals := 22 } [.ref 57, .int x1, .ref 30] zΓ (zρ 9) σ (zN zΓ (zρ 9) Q) := by
  refine z_entry (own := RX3) (ini := false) (plainFor_of_name pnX3) rfl (fun h => by cases h) (Nat.le_of_ble_eq_true rfl) ?_
  unfold w_X3_lessTogether at hw
  refine z_iconst dX3_lessTogether_0 zi0 ?_
  refine z_istore_n dX3_lessTogether_1 rfl (Nat.le_of_ble_eq_true rfl) ?_
  refine z_iconst dX3_lessTogether_2 zi0 ?_
  refine z_istore dX3_lessTogether_3 (Nat.le_of_ble_eq_true rfl) ?_
  obtain ⟨n, hw⟩ := hw
  exact z_to (l_X3_lessTogether_5   n _ _ _ _ hw) ⟨rfl, rfl, rfl, rfl, rfl, trivial⟩
def w_X6_beside_J26 (Q : Int32 → zS → Prop)  (σ : zS) : Prop := Q (-1000000 : Int32) σ
def w_X6_beside  (x1 x2 : Int32) (σ : zS) (Q : Int32 → zS → Prop) : Prop := (w_X6_within x1 ((0 : Int32)) (((σ.1 57 2) - (1 : Int32))) σ fun v1 t2 => ((v1 = 0 → w_X6_beside_J26 Q    t2) ∧ (¬ (v1 = 0) → (w_X6_within x2 ((0 : Int32)) ((2 : Int32)) t2 fun v3 t4 => ((v3 = 0 → w_X6_beside_J26 Q    t4) ∧ (¬ (v3 = 0) → (w_X0_playDay ((t4.1 10 11)) ((-1 : Int32)) t4 fun v5 t6 => ((x2 = (0 : Int32) → (w_X3_howManyHave ((-1 : Int32)) x1 t6 fun v7 t8 => Q v7 t8)) ∧ (¬ (x2 = (0 : Int32)) → ((x2 = (1 : Int32) → (w_X3_howManyHave ((1 : Int32)) x1 t6 fun v10 t11 => Q v10 t11)) ∧ (¬ (x2 = (1 : Int32)) → (w_X3_lessTogether x1 t6 fun v13 t14 => Q v13 t14))))))))))))
set_option maxHeartbeats 4000000 in
set_option maxRecDepth 100000 in
theorem j_X6_beside_26 {b : Nat} {Q : Int32 → zS → Prop}   {σ : zS} (hw : w_X6_beside_J26 Q   σ) : zAW RX6 cX6_beside 3 (some .int) false { frames := 7, cells := 0, slots := 0, locals := 153 } zΓ.length (zNp Q) 26 [] [] zΓ (zρ b) σ 0 0 := by
  unfold w_X6_beside_J26 at hw
  refine z_ldc dX6_beside_26 zldX6_213 ?_
  exact z_iret dX6_beside_28 (Nat.le_refl _) (Nat.le_refl _) rfl ⟨rfl, ⟨_, rfl⟩, hw⟩
set_option maxHeartbeats 4000000 in
set_option maxRecDepth 100000 in
theorem c_X6_beside {b : Nat} {x1 x2 : Int32} {σ : zS} {Q : Int32 → zS → Prop} (hw : w_X6_beside x1 x2 σ Q) : zAC yX6_beside cX6_beside 3 (some .int) { frames := 7, cells := 0, slots := 0, locals := 153 } [.ref 0, .int x1, .int x2] zΓ (zρ b) σ (zNp Q) := by
  refine z_entry (own := RX6) (ini := false) (plainFor_of_name pnX6) rfl (fun h => by cases h) (Nat.le_of_ble_eq_true rfl) ?_
  unfold w_X6_beside at hw
  refine z_iload_n dX6_beside_0 rfl rfl ?_
  refine z_iconst dX6_beside_1 zi0 ?_
  refine z_aload_n dX6_beside_2 rfl rfl ?_
  refine z_getr dX6_beside_3 fX6_54 zg0 zkX6_5 zr0_5 ?_
  refine z_geti dX6_beside_6 fX6_77 zg57 zkX3_2 ?_
  refine z_iconst dX6_beside_9 zi1 ?_
  refine z_isub dX6_beside_10 ?_
  refine z_callS dX6_beside_11 mX6_58 (c_X6_within  hw) rfl rfl (Nat.le_of_ble_eq_true rfl) ⟨Nat.le_of_ble_eq_true rfl, Nat.le_of_ble_eq_true rfl⟩ ⟨Nat.le_refl _, Nat.le_refl _⟩ (fun _ _ hw => ?_)
  refine z_if_eq dX6_beside_14 hw (fun hw => ?_) (fun hw => ?_)
  · exact z_to (j_X6_beside_26   hw) trivial
  · refine z_iload_n dX6_beside_17 rfl rfl ?_
    refine z_iconst dX6_beside_18 zi0 ?_
    refine z_iconst dX6_beside_19 zi2 ?_
    refine z_callS dX6_beside_20 mX6_58 (c_X6_within  hw) rfl rfl (Nat.le_of_ble_eq_true rfl) ⟨Nat.le_of_ble_eq_true rfl, Nat.le_of_ble_eq_true rfl⟩ ⟨Nat.le_refl _, Nat.le_refl _⟩ (fun _ _ hw => ?_)
    refine z_if_ne dX6_beside_23 hw (fun hw => ?_) (fun hw => ?_)
    · refine z_aload_n dX6_beside_29 rfl rfl ?_
      refine z_getr dX6_beside_30 fX6_34 zg0 zkX6_2 zr0_2 ?_
      refine z_aload_n dX6_beside_33 rfl rfl ?_
      refine z_getr dX6_beside_34 fX6_21 zg0 zkX6_6 zr0_6 ?_
      refine z_aload_n dX6_beside_37 rfl rfl ?_
      refine z_getr dX6_beside_38 fX6_30 zg0 zkX6_1 zr0_1 ?_
      refine z_geti dX6_beside_41 fX6_95 (zgC0 (Or.inl rfl)) zkX0_11 ?_
      refine z_iconst dX6_beside_44 zim1 ?_
      refine z_callV dX6_beside_45 mX6_164 (c_X0_playDay  hw) (zgC0 (Or.inr rfl)) rfl rfl (Nat.le_of_ble_eq_true rfl) ⟨Nat.le_of_ble_eq_true rfl, Nat.le_of_ble_eq_true rfl⟩ ⟨Nat.le_refl _, Nat.le_refl _⟩ (fun _ _ hw => ?_)
      refine z_pop dX6_beside_48 rfl ?_
      refine z_iload_n dX6_beside_49 rfl rfl ?_
      by_cases hs9 : x2 = (0 : Int32)
      · refine z_look (tgt := 76) (off := 26) dX6_beside_50 (by decide) (by rw [hs9]; decide) (by decide) ?_
        have hw := hw.1 hs9
        refine z_aload_n dX6_beside_76 rfl rfl ?_
        refine z_getr dX6_beside_77 fX6_54 zg0 zkX6_5 zr0_5 ?_
        refine z_iconst dX6_beside_80 zim1 ?_
        refine z_iload_n dX6_beside_81 rfl rfl ?_
        refine z_aload_n dX6_beside_82 rfl rfl ?_
        refine z_getr dX6_beside_83 fX6_34 zg0 zkX6_2 zr0_2 ?_
        refine z_callV dX6_beside_86 mX6_214 (c_X3_howManyHave  hw) zg57 rfl rfl (Nat.le_of_ble_eq_true rfl) ⟨Nat.le_of_ble_eq_true rfl, Nat.le_of_ble_eq_true rfl⟩ ⟨Nat.le_refl _, Nat.le_refl _⟩ (fun _ _ hw => ?_)
        exact z_iret dX6_beside_89 (Nat.le_refl _) (Nat.le_refl _) rfl ⟨rfl, ⟨_, rfl⟩, hw⟩
      have hw := hw.2 hs9
      by_cases hs12 : x2 = (1 : Int32)
      · refine z_look (tgt := 90) (off := 40) dX6_beside_50 (by decide) (by rw [hs12]; decide) (by decide) ?_
        have hw := hw.1 hs12
        refine z_aload_n dX6_beside_90 rfl rfl ?_
        refine z_getr dX6_beside_91 fX6_54 zg0 zkX6_5 zr0_5 ?_
        refine z_iconst dX6_beside_94 zi1 ?_
        refine z_iload_n dX6_beside_95 rfl rfl ?_
        refine z_aload_n dX6_beside_96 rfl rfl ?_
        refine z_getr dX6_beside_97 fX6_34 zg0 zkX6_2 zr0_2 ?_
        refine z_callV dX6_beside_100 mX6_214 (c_X3_howManyHave  hw) zg57 rfl rfl (Nat.le_of_ble_eq_true rfl) ⟨Nat.le_of_ble_eq_true rfl, Nat.le_of_ble_eq_true rfl⟩ ⟨Nat.le_refl _, Nat.le_refl _⟩ (fun _ _ hw => ?_)
        exact z_iret dX6_beside_103 (Nat.le_refl _) (Nat.le_refl _) rfl ⟨rfl, ⟨_, rfl⟩, hw⟩
      have hw := hw.2 hs12
      have hs9 := zne (0 : Int32) (0) (by decide) hs9
      have hs12 := zne (1 : Int32) (1) (by decide) hs12
      refine z_look (tgt := 104) (off := 54) dX6_beside_50 (by decide) (by simp [Op.lookupswitch.offset, List.find?, Ne.symm hs9, hs9, Ne.symm hs12, hs12]) (by decide) ?_
      refine z_aload_n dX6_beside_104 rfl rfl ?_
      refine z_getr dX6_beside_105 fX6_54 zg0 zkX6_5 zr0_5 ?_
      refine z_iload_n dX6_beside_108 rfl rfl ?_
      refine z_aload_n dX6_beside_109 rfl rfl ?_
      refine z_getr dX6_beside_110 fX6_34 zg0 zkX6_2 zr0_2 ?_
      refine z_callV dX6_beside_113 mX6_218 (c_X3_lessTogether  hw) zg57 rfl rfl (Nat.le_of_ble_eq_true rfl) ⟨Nat.le_of_ble_eq_true rfl, Nat.le_of_ble_eq_true rfl⟩ ⟨Nat.le_refl _, Nat.le_refl _⟩ (fun _ _ hw => ?_)
      exact z_iret dX6_beside_116 (Nat.le_refl _) (Nat.le_refl _) rfl ⟨rfl, ⟨_, rfl⟩, hw⟩
    · exact z_to (j_X6_beside_26   hw) trivial
def w_X5_howManyTold_J47 (Q : Int32 → zS → Prop) (K4 : Int32 → Int32 → Int32 → zS → Prop) (x1 x3 s0 s1 : Int32) (σ : zS) : Prop := K4 x1 ((s1 + s0)) ((x3 + (1 : Int32))) σ
def w_X5_howManyTold_J27 (Q : Int32 → zS → Prop) (K4 : Int32 → Int32 → Int32 → zS → Prop) (x1 x3 s0 s1 : Int32) (σ : zS) : Prop := (vp_in ((1 : Int32)) 2 ∧ (vp_in x3 8 ∧ (((σ.2 ((55 + ((1 : Int32)).toNatClampNeg)) x3.toNatClampNeg) = (-1 : Int32) → w_X5_howManyTold_J47 Q K4 x1 x3 ((0 : Int32)) ((s1 + s0)) σ) ∧ (¬ ((σ.2 ((55 + ((1 : Int32)).toNatClampNeg)) x3.toNatClampNeg) = (-1 : Int32)) → w_X5_howManyTold_J47 Q K4 x1 x3 ((1 : Int32)) ((s1 + s0)) σ))))
def w_X5_howManyTold_L4 (Q : Int32 → zS → Prop)  : Nat → Int32 → Int32 → Int32 → zS → Prop
  | 0, _, _, _, _ => False
  | n + 1, x1, x2, x3, σ => ((x1 ≤ x3 → Q x2 σ) ∧ (¬ (x1 ≤ x3) → (vp_in ((0 : Int32)) 2 ∧ (vp_in x3 8 ∧ (((σ.2 ((55 + ((0 : Int32)).toNatClampNeg)) x3.toNatClampNeg) = (-1 : Int32) → w_X5_howManyTold_J27 Q (fun a1 a2 a3 aσ => w_X5_howManyTold_L4 Q  n a1 a2 a3 aσ) x1 x3 ((0 : Int32)) x2 σ) ∧ (¬ ((σ.2 ((55 + ((0 : Int32)).toNatClampNeg)) x3.toNatClampNeg) = (-1 : Int32)) → w_X5_howManyTold_J27 Q (fun a1 a2 a3 aσ => w_X5_howManyTold_L4 Q  n a1 a2 a3 aσ) x1 x3 ((1 : Int32)) x2 σ))))))
def w_X5_howManyTold  (x1 : Int32) (σ : zS) (Q : Int32 → zS → Prop) : Prop := ∃ m4, w_X5_howManyTold_L4 Q  m4 x1 ((0 : Int32)) ((0 : Int32)) σ
set_option maxHeartbeats 4000000 in
set_option maxRecDepth 100000 in
theorem j_X5_howManyTold_47 {b : Nat} {Q : Int32 → zS → Prop} {K4 : Int32 → Int32 → Int32 → zS → Prop} (hK4 : ∀ (a1 a2 a3 : Int32) (σ : zS), K4 a1 a2 a3 σ → zAW RX5 cX5_howManyTold 4 (some .int) false { frames := 0, cells := 0, slots := 0, locals := 0 } zΓ.length (zN zΓ (zρ b) Q) 4 [(0, .ref 53), (1, .int a1), (2, .int a2), (3, .int a3)] [] zΓ (zρ b) σ 0 0) {x1 x3 s0 s1 : Int32} {σ : zS} (hw : w_X5_howManyTold_J47 Q K4 x1 x3 s0 s1 σ) : zAW RX5 cX5_howManyTold 4 (some .int) false { frames := 0, cells := 0, slots := 0, locals := 0 } zΓ.length (zN zΓ (zρ b) Q) 47 [(0, .ref 53), (1, .int x1), (3, .int x3)] [.int s0, .int s1] zΓ (zρ b) σ 0 0 := by
  unfold w_X5_howManyTold_J47 at hw
  refine z_iadd dX5_howManyTold_47 ?_
  refine z_istore_n dX5_howManyTold_48 rfl (Nat.le_of_ble_eq_true rfl) ?_
  refine z_iinc dX5_howManyTold_49 rfl zi1 (Nat.le_of_ble_eq_true rfl) ?_
  refine z_goto dX5_howManyTold_52 ?_
  exact z_to (hK4 _ _ _ _ hw) ⟨rfl, rfl, rfl, rfl, trivial⟩
set_option maxHeartbeats 4000000 in
set_option maxRecDepth 100000 in
theorem j_X5_howManyTold_27 {b : Nat} {Q : Int32 → zS → Prop} {K4 : Int32 → Int32 → Int32 → zS → Prop} (hK4 : ∀ (a1 a2 a3 : Int32) (σ : zS), K4 a1 a2 a3 σ → zAW RX5 cX5_howManyTold 4 (some .int) false { frames := 0, cells := 0, slots := 0, locals := 0 } zΓ.length (zN zΓ (zρ b) Q) 4 [(0, .ref 53), (1, .int a1), (2, .int a2), (3, .int a3)] [] zΓ (zρ b) σ 0 0) {x1 x3 s0 s1 : Int32} {σ : zS} (hw : w_X5_howManyTold_J27 Q K4 x1 x3 s0 s1 σ) : zAW RX5 cX5_howManyTold 4 (some .int) false { frames := 0, cells := 0, slots := 0, locals := 0 } zΓ.length (zN zΓ (zρ b) Q) 27 [(0, .ref 53), (1, .int x1), (3, .int x3)] [.int s0, .int s1] zΓ (zρ b) σ 0 0 := by
  unfold w_X5_howManyTold_J27 at hw
  refine z_iadd dX5_howManyTold_27 ?_
  refine z_istore_n dX5_howManyTold_28 rfl (Nat.le_of_ble_eq_true rfl) ?_
  refine z_iload_n dX5_howManyTold_29 rfl rfl ?_
  refine z_aload_n dX5_howManyTold_30 rfl rfl ?_
  refine z_getr dX5_howManyTold_31 fX5_11 zg53 zkX5_0 zr53_0 ?_
  refine z_iconst dX5_howManyTold_34 zi1 ?_
  have hv1 := hw.1
  refine z_aald dX5_howManyTold_35 zg54 hw (zrho zref54) (fun hw => ?_)
  refine z_iload_n dX5_howManyTold_36 rfl rfl ?_
  refine z_iald dX5_howManyTold_37 (zrow zrow54 hv1) hw (fun hw => ?_)
  refine z_iconst dX5_howManyTold_38 zim1 ?_
  refine z_icmp_ne dX5_howManyTold_39 hw (fun hw => ?_) (fun hw => ?_)
  · refine z_iconst dX5_howManyTold_46 zi1 ?_
    exact z_to (j_X5_howManyTold_47  hK4 hw) ⟨rfl, rfl, rfl, trivial⟩
  · refine z_iconst dX5_howManyTold_42 zi0 ?_
    refine z_goto dX5_howManyTold_43 ?_
    exact z_to (j_X5_howManyTold_47  hK4 hw) ⟨rfl, rfl, rfl, trivial⟩
set_option maxHeartbeats 4000000 in
set_option maxRecDepth 100000 in
theorem l_X5_howManyTold_4 {b : Nat} {Q : Int32 → zS → Prop}   : ∀ (n : Nat) (x1 x2 x3 : Int32) (σ : zS), w_X5_howManyTold_L4 Q  n x1 x2 x3 σ → zAW RX5 cX5_howManyTold 4 (some .int) false { frames := 0, cells := 0, slots := 0, locals := 0 } zΓ.length (zN zΓ (zρ b) Q) 4 [(0, .ref 53), (1, .int x1), (2, .int x2), (3, .int x3)] [] zΓ (zρ b) σ 0 0 := by
  intro n
  induction n with
  | zero => intro x1 x2 x3 σ hw; exact hw.elim
  | succ n hK4 =>
    intro x1 x2 x3 σ hw
    rw [w_X5_howManyTold_L4] at hw
    refine z_iload_n dX5_howManyTold_4 rfl rfl ?_
    refine z_iload_n dX5_howManyTold_5 rfl rfl ?_
    refine z_icmp_ge dX5_howManyTold_6 hw (fun hw => ?_) (fun hw => ?_)
    · refine z_iload_n dX5_howManyTold_55 rfl rfl ?_
      exact z_iret dX5_howManyTold_56 (Nat.le_refl _) (Nat.le_refl _) rfl ⟨rfl, rfl, hw⟩
    · refine z_iload_n dX5_howManyTold_9 rfl rfl ?_
      refine z_aload_n dX5_howManyTold_10 rfl rfl ?_
      refine z_getr dX5_howManyTold_11 fX5_11 zg53 zkX5_0 zr53_0 ?_
      refine z_iconst dX5_howManyTold_14 zi0 ?_
      have hv1 := hw.1
      refine z_aald dX5_howManyTold_15 zg54 hw (zrho zref54) (fun hw => ?_)
      refine z_iload_n dX5_howManyTold_16 rfl rfl ?_
      refine z_iald dX5_howManyTold_17 (zrow zrow54 hv1) hw (fun hw => ?_)
      refine z_iconst dX5_howManyTold_18 zim1 ?_
      refine z_icmp_ne dX5_howManyTold_19 hw (fun hw => ?_) (fun hw => ?_)
      · refine z_iconst dX5_howManyTold_26 zi1 ?_
        exact z_to (j_X5_howManyTold_27  hK4 hw) ⟨rfl, rfl, rfl, trivial⟩
      · refine z_iconst dX5_howManyTold_22 zi0 ?_
        refine z_goto dX5_howManyTold_23 ?_
        exact z_to (j_X5_howManyTold_27  hK4 hw) ⟨rfl, rfl, rfl, trivial⟩
set_option maxHeartbeats 4000000 in
set_option maxRecDepth 100000 in
theorem c_X5_howManyTold {b : Nat} {x1 : Int32} {σ : zS} {Q : Int32 → zS → Prop} (hw : w_X5_howManyTold x1 σ Q) : zAC yX5_howManyTold cX5_howManyTold 4 (some .int) { frames := 0, cells := 0, slots := 0, locals := 0 } [.ref 53, .int x1] zΓ (zρ b) σ (zN zΓ (zρ b) Q) := by
  refine z_entry (own := RX5) (ini := false) (plainFor_of_name pnX5) rfl (fun h => by cases h) (Nat.le_of_ble_eq_true rfl) ?_
  unfold w_X5_howManyTold at hw
  refine z_iconst dX5_howManyTold_0 zi0 ?_
  refine z_istore_n dX5_howManyTold_1 rfl (Nat.le_of_ble_eq_true rfl) ?_
  refine z_iconst dX5_howManyTold_2 zi0 ?_
  refine z_istore_n dX5_howManyTold_3 rfl (Nat.le_of_ble_eq_true rfl) ?_
  obtain ⟨n, hw⟩ := hw
  exact z_to (l_X5_howManyTold_4   n _ _ _ _ hw) ⟨rfl, rfl, rfl, rfl, trivial⟩
def w_X6_count  (x1 : Int32) (σ : zS) (Q : Int32 → zS → Prop) : Prop := ((x1 = (0 : Int32) → Q (σ.1 1 7) σ) ∧ (¬ (x1 = (0 : Int32)) → ((x1 = (1 : Int32) → Q (σ.1 10 13) σ) ∧ (¬ (x1 = (1 : Int32)) → ((x1 = (2 : Int32) → Q (σ.1 10 14) σ) ∧ (¬ (x1 = (2 : Int32)) → ((x1 = (3 : Int32) → (w_X0_howMany 10 ((2 : Int32)) σ fun v4 t5 => Q v4 t5)) ∧ (¬ (x1 = (3 : Int32)) → ((x1 = (4 : Int32) → (w_X0_howMany 10 ((1 : Int32)) σ fun v7 t8 => Q v7 t8)) ∧ (¬ (x1 = (4 : Int32)) → ((x1 = (5 : Int32) → (w_X0_howMany 10 ((3 : Int32)) σ fun v10 t11 => Q v10 t11)) ∧ (¬ (x1 = (5 : Int32)) → ((x1 = (6 : Int32) → (w_X0_howMany 10 ((4 : Int32)) σ fun v13 t14 => Q v13 t14)) ∧ (¬ (x1 = (6 : Int32)) → ((x1 = (7 : Int32) → Q (σ.1 57 2) σ) ∧ (¬ (x1 = (7 : Int32)) → ((x1 = (8 : Int32) → (w_X5_howManyTold ((σ.1 9 0)) σ fun v17 t18 => Q v17 t18)) ∧ (¬ (x1 = (8 : Int32)) → Q (-1 : Int32) σ))))))))))))))))))
set_option maxHeartbeats 4000000 in
set_option maxRecDepth 100000 in
theorem c_X6_count {b : Nat} {x1 : Int32} {σ : zS} {Q : Int32 → zS → Prop} (hw : w_X6_count x1 σ Q) : zAC yX6_count cX6_count 2 (some .int) { frames := 1, cells := 0, slots := 0, locals := 23 } [.ref 0, .int x1] zΓ (zρ b) σ (zNp Q) := by
  refine z_entry (own := RX6) (ini := false) (plainFor_of_name pnX6) rfl (fun h => by cases h) (Nat.le_of_ble_eq_true rfl) ?_
  unfold w_X6_count at hw
  refine z_iload_n dX6_count_0 rfl rfl ?_
  by_cases hs1 : x1 = (0 : Int32)
  · refine z_tabIn (tgt := 52) (off := 51) dX6_count_1 hs1 (by decide) (by decide) (by decide) (by decide) ?_
    have hw := hw.1 hs1
    refine z_aload_n dX6_count_52 rfl rfl ?_
    refine z_getr dX6_count_53 fX6_12 zg0 zkX6_0 zr0_0 ?_
    refine z_geti dX6_count_56 fX6_66 zg1 zkX4_7 ?_
    exact z_iret dX6_count_59 (Nat.le_refl _) (Nat.le_refl _) rfl ⟨rfl, ⟨_, rfl⟩, hw⟩
  have hw := hw.2 hs1
  by_cases hs2 : x1 = (1 : Int32)
  · refine z_tabIn (tgt := 60) (off := 59) dX6_count_1 hs2 (by decide) (by decide) (by decide) (by decide) ?_
    have hw := hw.1 hs2
    refine z_aload_n dX6_count_60 rfl rfl ?_
    refine z_getr dX6_count_61 fX6_30 zg0 zkX6_1 zr0_1 ?_
    refine z_geti dX6_count_64 fX6_85 (zgC0 (Or.inl rfl)) zkX0_13 ?_
    exact z_iret dX6_count_67 (Nat.le_refl _) (Nat.le_refl _) rfl ⟨rfl, ⟨_, rfl⟩, hw⟩
  have hw := hw.2 hs2
  by_cases hs3 : x1 = (2 : Int32)
  · refine z_tabIn (tgt := 68) (off := 67) dX6_count_1 hs3 (by decide) (by decide) (by decide) (by decide) ?_
    have hw := hw.1 hs3
    refine z_aload_n dX6_count_68 rfl rfl ?_
    refine z_getr dX6_count_69 fX6_30 zg0 zkX6_1 zr0_1 ?_
    refine z_geti dX6_count_72 fX6_109 (zgC0 (Or.inl rfl)) zkX0_14 ?_
    exact z_iret dX6_count_75 (Nat.le_refl _) (Nat.le_refl _) rfl ⟨rfl, ⟨_, rfl⟩, hw⟩
  have hw := hw.2 hs3
  by_cases hs6 : x1 = (3 : Int32)
  · refine z_tabIn (tgt := 76) (off := 75) dX6_count_1 hs6 (by decide) (by decide) (by decide) (by decide) ?_
    have hw := hw.1 hs6
    refine z_aload_n dX6_count_76 rfl rfl ?_
    refine z_getr dX6_count_77 fX6_30 zg0 zkX6_1 zr0_1 ?_
    refine z_iconst dX6_count_80 zi2 ?_
    refine z_callV dX6_count_81 mX6_176 (c_X0_howMany zH10 hw) (zgC0 (Or.inl rfl)) rfl rfl (Nat.le_of_ble_eq_true rfl) ⟨Nat.le_of_ble_eq_true rfl, Nat.le_of_ble_eq_true rfl⟩ ⟨Nat.le_refl _, Nat.le_refl _⟩ (fun _ _ hw => ?_)
    exact z_iret dX6_count_84 (Nat.le_refl _) (Nat.le_refl _) rfl ⟨rfl, ⟨_, rfl⟩, hw⟩
  have hw := hw.2 hs6
  by_cases hs9 : x1 = (4 : Int32)
  · refine z_tabIn (tgt := 85) (off := 84) dX6_count_1 hs9 (by decide) (by decide) (by decide) (by decide) ?_
    have hw := hw.1 hs9
    refine z_aload_n dX6_count_85 rfl rfl ?_
    refine z_getr dX6_count_86 fX6_30 zg0 zkX6_1 zr0_1 ?_
    refine z_iconst dX6_count_89 zi1 ?_
    refine z_callV dX6_count_90 mX6_176 (c_X0_howMany zH10 hw) (zgC0 (Or.inl rfl)) rfl rfl (Nat.le_of_ble_eq_true rfl) ⟨Nat.le_of_ble_eq_true rfl, Nat.le_of_ble_eq_true rfl⟩ ⟨Nat.le_refl _, Nat.le_refl _⟩ (fun _ _ hw => ?_)
    exact z_iret dX6_count_93 (Nat.le_refl _) (Nat.le_refl _) rfl ⟨rfl, ⟨_, rfl⟩, hw⟩
  have hw := hw.2 hs9
  by_cases hs12 : x1 = (5 : Int32)
  · refine z_tabIn (tgt := 94) (off := 93) dX6_count_1 hs12 (by decide) (by decide) (by decide) (by decide) ?_
    have hw := hw.1 hs12
    refine z_aload_n dX6_count_94 rfl rfl ?_
    refine z_getr dX6_count_95 fX6_30 zg0 zkX6_1 zr0_1 ?_
    refine z_iconst dX6_count_98 zi3 ?_
    refine z_callV dX6_count_99 mX6_176 (c_X0_howMany zH10 hw) (zgC0 (Or.inl rfl)) rfl rfl (Nat.le_of_ble_eq_true rfl) ⟨Nat.le_of_ble_eq_true rfl, Nat.le_of_ble_eq_true rfl⟩ ⟨Nat.le_refl _, Nat.le_refl _⟩ (fun _ _ hw => ?_)
    exact z_iret dX6_count_102 (Nat.le_refl _) (Nat.le_refl _) rfl ⟨rfl, ⟨_, rfl⟩, hw⟩
  have hw := hw.2 hs12
  by_cases hs15 : x1 = (6 : Int32)
  · refine z_tabIn (tgt := 103) (off := 102) dX6_count_1 hs15 (by decide) (by decide) (by decide) (by decide) ?_
    have hw := hw.1 hs15
    refine z_aload_n dX6_count_103 rfl rfl ?_
    refine z_getr dX6_count_104 fX6_30 zg0 zkX6_1 zr0_1 ?_
    refine z_iconst dX6_count_107 zi4 ?_
    refine z_callV dX6_count_108 mX6_176 (c_X0_howMany zH10 hw) (zgC0 (Or.inl rfl)) rfl rfl (Nat.le_of_ble_eq_true rfl) ⟨Nat.le_of_ble_eq_true rfl, Nat.le_of_ble_eq_true rfl⟩ ⟨Nat.le_refl _, Nat.le_refl _⟩ (fun _ _ hw => ?_)
    exact z_iret dX6_count_111 (Nat.le_refl _) (Nat.le_refl _) rfl ⟨rfl, ⟨_, rfl⟩, hw⟩
  have hw := hw.2 hs15
  by_cases hs16 : x1 = (7 : Int32)
  · refine z_tabIn (tgt := 112) (off := 111) dX6_count_1 hs16 (by decide) (by decide) (by decide) (by decide) ?_
    have hw := hw.1 hs16
    refine z_aload_n dX6_count_112 rfl rfl ?_
    refine z_getr dX6_count_113 fX6_54 zg0 zkX6_5 zr0_5 ?_
    refine z_geti dX6_count_116 fX6_77 zg57 zkX3_2 ?_
    exact z_iret dX6_count_119 (Nat.le_refl _) (Nat.le_refl _) rfl ⟨rfl, ⟨_, rfl⟩, hw⟩
  have hw := hw.2 hs16
  by_cases hs19 : x1 = (8 : Int32)
  · refine z_tabIn (tgt := 120) (off := 119) dX6_count_1 hs19 (by decide) (by decide) (by decide) (by decide) ?_
    have hw := hw.1 hs19
    refine z_aload_n dX6_count_120 rfl rfl ?_
    refine z_getr dX6_count_121 fX6_47 zg0 zkX6_4 zr0_4 ?_
    refine z_aload_n dX6_count_124 rfl rfl ?_
    refine z_getr dX6_count_125 fX6_21 zg0 zkX6_6 zr0_6 ?_
    refine z_geti dX6_count_128 fX6_173 zg9 zkX2_0 ?_
    refine z_callV dX6_count_131 mX6_222 (c_X5_howManyTold  hw) zg53 rfl rfl (Nat.le_of_ble_eq_true rfl) ⟨Nat.le_of_ble_eq_true rfl, Nat.le_of_ble_eq_true rfl⟩ ⟨Nat.le_refl _, Nat.le_refl _⟩ (fun _ _ hw => ?_)
    exact z_iret dX6_count_134 (Nat.le_refl _) (Nat.le_refl _) rfl ⟨rfl, ⟨_, rfl⟩, hw⟩
  have hw := hw.2 hs19
  have hs1 := zne (0 : Int32) (0) (by decide) hs1
  have hs2 := zne (1 : Int32) (1) (by decide) hs2
  have hs3 := zne (2 : Int32) (2) (by decide) hs3
  have hs6 := zne (3 : Int32) (3) (by decide) hs6
  have hs9 := zne (4 : Int32) (4) (by decide) hs9
  have hs12 := zne (5 : Int32) (5) (by decide) hs12
  have hs15 := zne (6 : Int32) (6) (by decide) hs15
  have hs16 := zne (7 : Int32) (7) (by decide) hs16
  have hs19 := zne (8 : Int32) (8) (by decide) hs19
  refine z_tabOut (tgt := 135) dX6_count_1 (by omega) (by decide) ?_
  refine z_iconst dX6_count_135 zim1 ?_
  exact z_iret dX6_count_136 (Nat.le_refl _) (Nat.le_refl _) rfl ⟨rfl, ⟨_, rfl⟩, hw⟩
def w_X5_forget  (σ : zS) (Q : Int32 → zS → Prop) : Prop := (vp_in ((0 : Int32)) 2 ∧ (w_J7_fill_53178 ((55 + ((0 : Int32)).toNatClampNeg)) 8 ((-1 : Int32)) σ fun _ t2 => (vp_in ((1 : Int32)) 2 ∧ (w_J7_fill_53178 ((55 + ((1 : Int32)).toNatClampNeg)) 8 ((-1 : Int32)) t2 fun _ t4 => Q 0 t4))))
set_option maxHeartbeats 4000000 in
set_option maxRecDepth 100000 in
theorem cg_X5_forget {Γ : zG} {ρ : zR} (g53 : Γ[53]? = some (0, 5)) (g54 : Γ[54]? = some (3, 2)) (gN : ∀ j, j < 2 → Γ[55 + j]? = some (1, 8)) (e0 : ρ 53 0 = some 54) (eN : ∀ j, j < 2 → ρ 54 j = some (55 + j)) {σ : zS} {Q : Int32 → zS → Prop} (hw : w_X5_forget  σ Q) : zAC yX5_forget cX5_forget 1 none { frames := 1, cells := 0, slots := 0, locals := 23 } [.ref 53] Γ ρ σ (zN Γ ρ Q) := by
  refine z_entry (own := RX5) (ini := false) (plainFor_of_name pnX5) rfl (fun h => by cases h) (Nat.le_of_ble_eq_true rfl) ?_
  unfold w_X5_forget at hw
  refine z_aload_n dX5_forget_0 rfl rfl ?_
  refine z_getr dX5_forget_1 fX5_11 g53 zkX5_0 e0 ?_
  refine z_iconst dX5_forget_4 zi0 ?_
  have hv1 := hw.1
  refine z_aald dX5_forget_5 g54 hw (zrho eN) (fun hw => ?_)
  refine z_iconst dX5_forget_6 zim1 ?_
  refine z_callSv dX5_forget_7 mX5_19 (c_J7_fill_53178 (zrow gN hv1) hw) rfl rfl (Nat.le_of_ble_eq_true rfl) ⟨Nat.le_of_ble_eq_true rfl, Nat.le_of_ble_eq_true rfl⟩ ⟨Nat.le_refl _, Nat.le_refl _⟩ (fun _ hw => ?_)
  refine z_aload_n dX5_forget_10 rfl rfl ?_
  refine z_getr dX5_forget_11 fX5_11 g53 zkX5_0 e0 ?_
  refine z_iconst dX5_forget_14 zi1 ?_
  have hv3 := hw.1
  refine z_aald dX5_forget_15 g54 hw (zrho eN) (fun hw => ?_)
  refine z_iconst dX5_forget_16 zim1 ?_
  refine z_callSv dX5_forget_17 mX5_19 (c_J7_fill_53178 (zrow gN hv3) hw) rfl rfl (Nat.le_of_ble_eq_true rfl) ⟨Nat.le_of_ble_eq_true rfl, Nat.le_of_ble_eq_true rfl⟩ ⟨Nat.le_refl _, Nat.le_refl _⟩ (fun _ hw => ?_)
  exact z_vret dX5_forget_20 (Nat.le_refl _) (Nat.le_refl _) rfl ⟨rfl, rfl, hw⟩
set_option maxHeartbeats 4000000 in
set_option maxRecDepth 100000 in
theorem c_X5_forget {b : Nat} {σ : zS} {Q : Int32 → zS → Prop} (hw : w_X5_forget σ Q) : zAC yX5_forget cX5_forget 1 none { frames := 1, cells := 0, slots := 0, locals := 23 } [.ref 53] zΓ (zρ b) σ (zN zΓ (zρ b) Q) := cg_X5_forget zg53 zg54 zrow54 zr53_0 zref54 hw

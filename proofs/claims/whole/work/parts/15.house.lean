def w_X2_initG (r : Nat) (x1 x2 x3 : Int32) (σ : zS) (Q : Int32 → zS → Prop) : Prop := (zlet (zI σ r 0 x1) fun t1 => (zlet (zI t1 r 1 x2) fun t2 => (zlet (zI t2 r 2 x3) fun t3 => (zlet (zI t3 r 3 (((2 : Int32) * x1) + (2 : Int32))) fun t4 => (zlet (zI t4 r 4 ((t4.1 r 3) * x2)) fun t5 => Q 0 t5)))))
set_option maxHeartbeats 4000000 in
set_option maxRecDepth 100000 in
theorem cg_X2_init {Γ : zG} {ρ : zR} {r : Nat} (g : Γ[r]? = some (0, 2)) {x1 x2 x3 : Int32} {σ : zS} {Q : Int32 → zS → Prop} (hw : w_X2_initG r x1 x2 x3 σ Q) : zAC yX2_init cX2_init 4 none { frames := 1, cells := 0, slots := 0, locals := 30 } [.ref r, .int x1, .int x2, .int x3] Γ ρ σ (zN Γ ρ Q) := by
  refine z_entry (own := RX2) (ini := true) (plainFor_of_name pnX2) rfl (fun _ => rfl) (Nat.le_of_ble_eq_true rfl) ?_
  unfold w_X2_initG at hw
  refine z_aload_n dX2_init_0 rfl rfl ?_
  refine z_objInit dX2_init_1 moX2_3 (Nat.le_of_ble_eq_true rfl) (Nat.le_of_ble_eq_true rfl) ?_
  refine z_aload_n dX2_init_4 rfl rfl ?_
  refine z_iload_n dX2_init_5 rfl rfl ?_
  refine z_putF dX2_init_6 fX2_9 ⟨_, _, rfl⟩ rfl g zkX2_0 ?_
  have hw := zlet_e hw
  refine z_aload_n dX2_init_9 rfl rfl ?_
  refine z_iload_n dX2_init_10 rfl rfl ?_
  refine z_putF dX2_init_11 fX2_15 ⟨_, _, rfl⟩ rfl g zkX2_1 ?_
  have hw := zlet_e hw
  refine z_aload_n dX2_init_14 rfl rfl ?_
  refine z_iload_n dX2_init_15 rfl rfl ?_
  refine z_putF dX2_init_16 fX2_18 ⟨_, _, rfl⟩ rfl g zkX2_2 ?_
  have hw := zlet_e hw
  refine z_aload_n dX2_init_19 rfl rfl ?_
  refine z_iconst dX2_init_20 zi2 ?_
  refine z_iload_n dX2_init_21 rfl rfl ?_
  refine z_imul dX2_init_22 ?_
  refine z_iconst dX2_init_23 zi2 ?_
  refine z_iadd dX2_init_24 ?_
  refine z_putF dX2_init_25 fX2_21 ⟨_, _, rfl⟩ rfl g zkX2_3 ?_
  have hw := zlet_e hw
  refine z_aload_n dX2_init_28 rfl rfl ?_
  refine z_aload_n dX2_init_29 rfl rfl ?_
  refine z_geti dX2_init_30 fX2_21 g zkX2_3 ?_
  refine z_iload_n dX2_init_33 rfl rfl ?_
  refine z_imul dX2_init_34 ?_
  refine z_putF dX2_init_35 fX2_24 ⟨_, _, rfl⟩ rfl g zkX2_4 ?_
  have hw := zlet_e hw
  exact z_vret dX2_init_38 (Nat.le_of_ble_eq_true rfl) (Nat.le_of_ble_eq_true rfl) rfl ⟨rfl, rfl, hw⟩
theorem zfresh99 {n : Nat} (hn : n ≤ 36 := by decide) : zfresh zΓ (zρ 99) n := fun k j t _ ht => by
  have hL : zΓ.length = 63 := rfl
  rw [hL]
  unfold zρ at ht
  split at ht
  · cases ht; omega
  · unfold zρT at ht
    have h : ∀ l ∈ zρL, ∀ t ∈ l, t < 63 := by decide
    cases hk : zρL[k]? with
    | none => rw [hk] at ht; cases ht
    | some l => rw [hk] at ht; exact Or.inl (h l (List.mem_of_getElem? hk) t (List.mem_of_getElem? ht))
/-- the store behind house(), with the new House as number 9 -/
def zHs (σ : zS) : zS := (fun k j => if k = 9 then σ.1 63 j else σ.1 k j, σ.2)
def zρH : zR := zRu (zRu (zR0 (zρ 99) 63) 0 6 (some 63)) 10 10 (some 63)
def zH (Q : Int32 → zS → Prop) : Int32 → zG → zR → zS → Prop := fun v Γ' ρ' σ' => (Γ' = zΓ ∧ ρ' = zρ 99 ∧ Q v σ') ∨ (Γ' = zΓ ++ [(0, 2)] ∧ ρ' = zρH ∧ Q v (zHs σ'))
def w_X6_house (x1 x2 x3 x4 : Int32) (σ : zS) (Q : Int32 → zS → Prop) : Prop := (w_X6_within x1 ((2 : Int32)) ((8 : Int32)) σ fun v1 t2 => ((v1 = 0 → Q (-1 : Int32) t2) ∧ (¬ (v1 = 0) → (w_X6_within x2 ((2 : Int32)) ((12 : Int32)) t2 fun v3 t4 => ((v3 = 0 → Q (-1 : Int32) t4) ∧ (¬ (v3 = 0) → (w_X6_within x3 ((1 : Int32)) x2 t4 fun v5 t6 => ((v5 = 0 → Q (-1 : Int32) t6) ∧ (¬ (v5 = 0) → (w_X6_isSpeed x4 x2 t6 fun v7 t8 => ((v7 = 0 → Q (-1 : Int32) t8) ∧ (¬ (v7 = 0) → (zlet (zS0 t8 63) fun t9 => (w_X2_initG 63 x1 x2 x3 t9 fun _ t10 => (zlet (zI t10 1 7 (0 : Int32)) fun t11 => (w_X0_begin 10 x4 ((-1 : Int32)) t11 fun _ t12 => (w_X5_forget  t12 fun _ t13 => (zlet (zI t13 57 2 (0 : Int32)) fun t14 => Q (t14.1 63 3) (zHs t14)))))))))))))))))))
set_option maxHeartbeats 4000000 in
set_option maxRecDepth 100000 in
theorem c_X6_house {x1 x2 x3 x4 : Int32} {σ : zS} {Q : Int32 → zS → Prop} (hw : w_X6_house x1 x2 x3 x4 σ Q) : zAC yX6_house cX6_house 5 (some .int) { frames := 2, cells := 1, slots := 5, locals := 53 } [.ref 0, .int x1, .int x2, .int x3, .int x4] zΓ (zρ 99) σ (zH Q) := by
  refine z_entry (own := RX6) (ini := false) (plainFor_of_name pnX6) rfl (fun h => by cases h) (Nat.le_of_ble_eq_true rfl) ?_
  unfold w_X6_house at hw
  refine z_iload_n dX6_house_0 rfl rfl ?_
  refine z_iconst dX6_house_1 zi2 ?_
  refine z_bipush dX6_house_2 zbp8 ?_
  refine z_callS dX6_house_4 mX6_58 (c_X6_within  hw) rfl rfl (Nat.le_of_ble_eq_true rfl) ⟨Nat.le_of_ble_eq_true rfl, Nat.le_of_ble_eq_true rfl⟩ ⟨Nat.le_of_ble_eq_true rfl, Nat.le_of_ble_eq_true rfl⟩ (fun _ _ hw => ?_)
  refine z_if_eq dX6_house_7 hw (fun hw => ?_) (fun hw => ?_)
  · refine z_iconst dX6_house_20 zim1 ?_
    exact z_iret dX6_house_21 (Nat.le_of_ble_eq_true rfl) (Nat.le_of_ble_eq_true rfl) rfl (Or.inl ⟨rfl, rfl, hw⟩)
  · refine z_iload_n dX6_house_10 rfl rfl ?_
    refine z_iconst dX6_house_11 zi2 ?_
    refine z_bipush dX6_house_12 zbp12 ?_
    refine z_callS dX6_house_14 mX6_58 (c_X6_within  hw) rfl rfl (Nat.le_of_ble_eq_true rfl) ⟨Nat.le_of_ble_eq_true rfl, Nat.le_of_ble_eq_true rfl⟩ ⟨Nat.le_of_ble_eq_true rfl, Nat.le_of_ble_eq_true rfl⟩ (fun _ _ hw => ?_)
    refine z_if_ne dX6_house_17 hw (fun hw => ?_) (fun hw => ?_)
    · refine z_iload_n dX6_house_22 rfl rfl ?_
      refine z_iconst dX6_house_23 zi1 ?_
      refine z_iload_n dX6_house_24 rfl rfl ?_
      refine z_callS dX6_house_25 mX6_58 (c_X6_within  hw) rfl rfl (Nat.le_of_ble_eq_true rfl) ⟨Nat.le_of_ble_eq_true rfl, Nat.le_of_ble_eq_true rfl⟩ ⟨Nat.le_of_ble_eq_true rfl, Nat.le_of_ble_eq_true rfl⟩ (fun _ _ hw => ?_)
      refine z_if_eq dX6_house_28 hw (fun hw => ?_) (fun hw => ?_)
      · refine z_iconst dX6_house_40 zim1 ?_
        exact z_iret dX6_house_41 (Nat.le_of_ble_eq_true rfl) (Nat.le_of_ble_eq_true rfl) rfl (Or.inl ⟨rfl, rfl, hw⟩)
      · refine z_iload dX6_house_31 rfl ?_
        refine z_iload_n dX6_house_33 rfl rfl ?_
        refine z_callS dX6_house_34 mX6_62 (c_X6_isSpeed  hw) rfl rfl (Nat.le_of_ble_eq_true rfl) ⟨Nat.le_of_ble_eq_true rfl, Nat.le_of_ble_eq_true rfl⟩ ⟨Nat.le_of_ble_eq_true rfl, Nat.le_of_ble_eq_true rfl⟩ (fun _ _ hw => ?_)
        refine z_if_ne dX6_house_37 hw (fun hw => ?_) (fun hw => ?_)
        · refine z_aload_n dX6_house_42 rfl rfl ?_
          refine z_new dX6_house_43 nwX6_16 zfresh99 (Nat.le_of_ble_eq_true rfl) ⟨Or.inl (Nat.le_of_ble_eq_true rfl), trivial, trivial, trivial, trivial, trivial⟩ ⟨Or.inl (Nat.le_of_ble_eq_true rfl), trivial⟩ (Nat.le_of_ble_eq_true rfl) (Nat.le_of_ble_eq_true rfl) ?_
          have hw := zlet_e hw
          refine z_stk (show _ = (.ref 63 : Value) :: _ from rfl) ?_
          refine z_dup dX6_house_46 rfl ?_
          refine z_iload_n dX6_house_47 rfl rfl ?_
          refine z_iload_n dX6_house_48 rfl rfl ?_
          refine z_iload_n dX6_house_49 rfl rfl ?_
          refine z_callI dX6_house_50 miX6_18 (cg_X2_init rfl hw) (Nat.le_of_ble_eq_true rfl) (Nat.le_of_ble_eq_true rfl) ⟨Or.inl (Nat.le_of_ble_eq_true rfl), trivial, trivial, trivial, trivial, trivial⟩ rfl rfl ⟨Or.inl (Nat.le_of_ble_eq_true rfl), Or.inl (Nat.le_of_ble_eq_true rfl), trivial⟩ (Nat.le_of_ble_eq_true rfl) ⟨(Nat.le_of_ble_eq_true rfl), (Nat.le_of_ble_eq_true rfl)⟩ ⟨(Nat.le_of_ble_eq_true rfl), (Nat.le_of_ble_eq_true rfl)⟩ (fun _ hw => ?_)
          refine z_putr dX6_house_53 fX6_21 rfl zkX6_6 (fun _ => rfl) (fun _ => rfl) ?_
          refine z_aload_n dX6_house_56 rfl rfl ?_
          refine z_getr dX6_house_57 fX6_12 rfl zkX6_0 rfl ?_
          refine z_iconst dX6_house_60 zi0 ?_
          refine z_putiL dX6_house_61 fX6_66 rfl zkX4_7 hw (fun hw => ?_)
          refine z_aload_n dX6_house_64 rfl rfl ?_
          refine z_getr dX6_house_65 fX6_30 rfl zkX6_1 rfl ?_
          refine z_aload_n dX6_house_68 rfl rfl ?_
          refine z_getr dX6_house_69 fX6_21 rfl zkX6_6 rfl ?_
          refine z_iload dX6_house_72 rfl ?_
          refine z_iconst dX6_house_74 zim1 ?_
          refine z_callVv dX6_house_75 mX6_70 (cg_X0_begin (Γ := zΓ ++ [(0, 2)]) (ρ := zRu (zR0 (zρ 99) 63) 0 6 (some 63)) (r := 10) (hx := 63) rfl rfl rfl rfl rfl rfl (by decide) rfl rfl rfl rfl rfl rfl rfl (by decide) hw) rfl rfl rfl (Nat.le_of_ble_eq_true rfl) ⟨Nat.le_of_ble_eq_true rfl, Nat.le_of_ble_eq_true rfl⟩ ⟨Nat.le_of_ble_eq_true rfl, Nat.le_of_ble_eq_true rfl⟩ (fun _ hw => ?_)
          refine z_aload_n dX6_house_78 rfl rfl ?_
          refine z_getr dX6_house_79 fX6_47 rfl zkX6_4 rfl ?_
          refine z_callVv dX6_house_82 mX6_74 (cg_X5_forget (Γ := zΓ ++ [(0, 2)]) (ρ := zρH) rfl rfl (by decide) rfl (by decide) hw) rfl rfl rfl (Nat.le_of_ble_eq_true rfl) ⟨Nat.le_of_ble_eq_true rfl, Nat.le_of_ble_eq_true rfl⟩ ⟨Nat.le_of_ble_eq_true rfl, Nat.le_of_ble_eq_true rfl⟩ (fun _ hw => ?_)
          refine z_aload_n dX6_house_85 rfl rfl ?_
          refine z_getr dX6_house_86 fX6_54 rfl zkX6_5 rfl ?_
          refine z_iconst dX6_house_89 zi0 ?_
          refine z_putiL dX6_house_90 fX6_77 rfl zkX3_2 hw (fun hw => ?_)
          refine z_aload_n dX6_house_93 rfl rfl ?_
          refine z_getr dX6_house_94 fX6_21 rfl zkX6_6 rfl ?_
          refine z_geti dX6_house_97 fX6_78 rfl zkX2_3 ?_
          exact z_iret dX6_house_100 (Nat.le_of_ble_eq_true rfl) (Nat.le_of_ble_eq_true rfl) rfl (Or.inr ⟨rfl, rfl, hw⟩)
        · refine z_iconst dX6_house_40 zim1 ?_
          exact z_iret dX6_house_41 (Nat.le_of_ble_eq_true rfl) (Nat.le_of_ble_eq_true rfl) rfl (Or.inl ⟨rfl, rfl, hw⟩)
    · refine z_iconst dX6_house_20 zim1 ?_
      exact z_iret dX6_house_21 (Nat.le_of_ble_eq_true rfl) (Nat.le_of_ble_eq_true rfl) rfl (Or.inl ⟨rfl, rfl, hw⟩)

theorem zlet_e {α : Type} {x : α} {f : α → Prop} (h : zlet x f) : f x := h
theorem z_stk {own : String} {cc : ByteArray} {nL : Nat} {ret : Option FieldType} {ini : Bool} {rm : Room} {n0 : Nat} {Q : Int32 → zG → zR → zS → Prop} {pc : Nat} {lv : List (Nat × Value)} {st st' : List Value} {Γ : zG} {ρ : zR} {σ : zS} {ce sl : Nat} (h : st = st') (kk : zAW own cc nL ret ini rm n0 Q pc lv st' Γ ρ σ ce sl) : zAW own cc nL ret ini rm n0 Q pc lv st Γ ρ σ ce sl := h ▸ kk
theorem zhi_M : zhi zρM := fun k j hj => by
  unfold zρM
  split
  · rw [if_neg (by omega), if_neg (by omega), if_neg (by omega)]
  · rfl
theorem zhi_ρ {b : Nat} : zhi (zρ b) := fun k j hj => by
  unfold zρ
  rw [if_neg (by omega)]
  unfold zρT
  apply List.getElem?_eq_none
  have h : ∀ l ∈ zρL, l.length ≤ 31 := by decide
  cases hk : zρL[k]? with
  | none => exact Nat.zero_le _
  | some l => exact Nat.le_trans (h l (List.mem_of_getElem? hk)) hj
def zPR_X2 (ρ : zR) : zR := ρ
theorem lt_X2 {ρ : zR} (h : zlt ρ 10) : zlt (zPR_X2 ρ) 10 := h
theorem hi_X2 {ρ : zR} (h : zhi ρ) : zhi (zPR_X2 ρ) := h
def w_X2_init (x1 x2 x3 : Int32) (σ : zS) (Q : Int32 → zS → Prop) : Prop := (zlet (zI σ 9 0 x1) fun t1 => (zlet (zI t1 9 1 x2) fun t2 => (zlet (zI t2 9 2 x3) fun t3 => (zlet (zI t3 9 3 (((2 : Int32) * x1) + (2 : Int32))) fun t4 => (zlet (zI t4 9 4 ((t4.1 9 3) * x2)) fun t5 => Q 0 t5)))))
set_option maxHeartbeats 4000000 in
set_option maxRecDepth 100000 in
theorem c_X2_init {ρ : zR} (hz : zlt ρ 10) {x1 x2 x3 : Int32} {σ : zS} {Q : Int32 → zS → Prop} (hw : w_X2_init x1 x2 x3 σ Q) : zAC yX2_init cX2_init 4 none { frames := 1, cells := 0, slots := 0, locals := 30 } [.ref 9, .int x1, .int x2, .int x3] (zΓ.take 10) ρ σ (zN (zΓ.take 10) (zPR_X2 ρ) Q) := by
  refine z_entry (own := RX2) (ini := true) (plainFor_of_name pnX2) rfl (fun _ => rfl) (Nat.le_of_ble_eq_true rfl) ?_
  unfold w_X2_init at hw
  refine z_aload_n dX2_init_0 rfl rfl ?_
  refine z_objInit dX2_init_1 moX2_3 (Nat.le_of_ble_eq_true rfl) (Nat.le_of_ble_eq_true rfl) ?_
  refine z_aload_n dX2_init_4 rfl rfl ?_
  refine z_iload_n dX2_init_5 rfl rfl ?_
  refine z_putF dX2_init_6 fX2_9 ⟨_, _, rfl⟩ rfl rfl zkX2_0 ?_
  have hw := zlet_e hw
  refine z_aload_n dX2_init_9 rfl rfl ?_
  refine z_iload_n dX2_init_10 rfl rfl ?_
  refine z_putF dX2_init_11 fX2_15 ⟨_, _, rfl⟩ rfl rfl zkX2_1 ?_
  have hw := zlet_e hw
  refine z_aload_n dX2_init_14 rfl rfl ?_
  refine z_iload_n dX2_init_15 rfl rfl ?_
  refine z_putF dX2_init_16 fX2_18 ⟨_, _, rfl⟩ rfl rfl zkX2_2 ?_
  have hw := zlet_e hw
  refine z_aload_n dX2_init_19 rfl rfl ?_
  refine z_iconst dX2_init_20 zi2 ?_
  refine z_iload_n dX2_init_21 rfl rfl ?_
  refine z_imul dX2_init_22 ?_
  refine z_iconst dX2_init_23 zi2 ?_
  refine z_iadd dX2_init_24 ?_
  refine z_putF dX2_init_25 fX2_21 ⟨_, _, rfl⟩ rfl rfl zkX2_3 ?_
  have hw := zlet_e hw
  refine z_aload_n dX2_init_28 rfl rfl ?_
  refine z_aload_n dX2_init_29 rfl rfl ?_
  refine z_geti dX2_init_30 fX2_21 rfl zkX2_3 ?_
  refine z_iload_n dX2_init_33 rfl rfl ?_
  refine z_imul dX2_init_34 ?_
  refine z_putF dX2_init_35 fX2_24 ⟨_, _, rfl⟩ rfl rfl zkX2_4 ?_
  have hw := zlet_e hw
  exact z_vret dX2_init_38 (Nat.le_of_ble_eq_true rfl) (Nat.le_of_ble_eq_true rfl) rfl ⟨rfl, rfl, hw⟩
def zPR_X4 (ρ : zR) : zR := (zRu (zR0 (zRu (zR0 (zRu (zR0 (zRu (zR0 (zRu (zR0 (zRu (zR0 (zRu (zR0 ρ 2) 1 0 (some 2)) 3) 1 1 (some 3)) 4) 1 2 (some 4)) 5) 1 3 (some 5)) 6) 1 4 (some 6)) 7) 1 5 (some 7)) 8) 1 6 (some 8))
theorem lt_X4 {ρ : zR} (h : zlt ρ 2) : zlt (zPR_X4 ρ) 9 := (zlt_Ru (zlt_up (M := 9) (zlt_R0 (k := 8) (zlt_Ru (zlt_up (M := 8) (zlt_R0 (k := 7) (zlt_Ru (zlt_up (M := 7) (zlt_R0 (k := 6) (zlt_Ru (zlt_up (M := 6) (zlt_R0 (k := 5) (zlt_Ru (zlt_up (M := 5) (zlt_R0 (k := 4) (zlt_Ru (zlt_up (M := 4) (zlt_R0 (k := 3) (zlt_Ru (zlt_up (M := 3) (zlt_R0 (k := 2) h) (Nat.le_of_ble_eq_true rfl)) (Nat.le_of_ble_eq_true rfl))) (Nat.le_of_ble_eq_true rfl)) (Nat.le_of_ble_eq_true rfl))) (Nat.le_of_ble_eq_true rfl)) (Nat.le_of_ble_eq_true rfl))) (Nat.le_of_ble_eq_true rfl)) (Nat.le_of_ble_eq_true rfl))) (Nat.le_of_ble_eq_true rfl)) (Nat.le_of_ble_eq_true rfl))) (Nat.le_of_ble_eq_true rfl)) (Nat.le_of_ble_eq_true rfl))) (Nat.le_of_ble_eq_true rfl)) (Nat.le_of_ble_eq_true rfl))
theorem hi_X4 {ρ : zR} (h : zhi ρ) : zhi (zPR_X4 ρ) := (zhi_Ru (zhi_R0 (zhi_Ru (zhi_R0 (zhi_Ru (zhi_R0 (zhi_Ru (zhi_R0 (zhi_Ru (zhi_R0 (zhi_Ru (zhi_R0 (zhi_Ru (zhi_R0 h) (Nat.le_of_ble_eq_true rfl))) (Nat.le_of_ble_eq_true rfl))) (Nat.le_of_ble_eq_true rfl))) (Nat.le_of_ble_eq_true rfl))) (Nat.le_of_ble_eq_true rfl))) (Nat.le_of_ble_eq_true rfl))) (Nat.le_of_ble_eq_true rfl))
def w_X4_init (σ : zS) (Q : Int32 → zS → Prop) : Prop := (zlet (zS0 σ 2) fun t1 => (zlet (zS0 t1 3) fun t2 => (zlet (zS0 t2 4) fun t3 => (zlet (zS0 t3 5) fun t4 => (zlet (zS0 t4 6) fun t5 => (zlet (zS0 t5 7) fun t6 => (zlet (zS0 t6 8) fun t7 => Q 0 t7)))))))
set_option maxHeartbeats 4000000 in
set_option maxRecDepth 100000 in
theorem c_X4_init {ρ : zR} (hz : zlt ρ 2) {σ : zS} {Q : Int32 → zS → Prop} (hw : w_X4_init  σ Q) : zAC yX4_init cX4_init 1 none { frames := 1, cells := 7, slots := 210, locals := 30 } [.ref 1] (zΓ.take 2) ρ σ (zN (zΓ.take 9) (zPR_X4 ρ) Q) := by
  refine z_entry (own := RX4) (ini := true) (plainFor_of_name pnX4) rfl (fun _ => rfl) (Nat.le_of_ble_eq_true rfl) ?_
  unfold w_X4_init at hw
  refine z_aload_n dX4_init_0 rfl rfl ?_
  refine z_objInit dX4_init_1 moX4_3 (Nat.le_of_ble_eq_true rfl) (Nat.le_of_ble_eq_true rfl) ?_
  refine z_aload_n dX4_init_4 rfl rfl ?_
  refine z_bipush dX4_init_5 zbp30 ?_
  refine z_newa (N := 30) dX4_init_7 zaI (by decide) (by decide) (by decide) (zfresh_of hz) (Nat.le_of_ble_eq_true rfl) ⟨(Or.inl (Nat.le_of_ble_eq_true rfl)), trivial⟩ ⟨(Or.inl (Nat.le_of_ble_eq_true rfl)), trivial⟩ (Nat.le_of_ble_eq_true rfl) (Nat.le_of_ble_eq_true rfl) ?_
  have hw := zlet_e hw
  refine z_gam (show (zΓ.take 2) ++ [(1, 30)] = (zΓ.take 3) from by decide) ?_
  have hz := zlt_up (M := 3) (zlt_R0 (k := 2) hz) (Nat.le_of_ble_eq_true rfl)
  refine z_stk (show _ = (.ref 2 : Value) :: _ from rfl) ?_
  refine z_putrF (t := 2) dX4_init_9 fX4_9 ⟨_, _, rfl⟩ rfl rfl zkX4_0 (fun _ => rfl) (fun _ => rfl) ?_
  have hz := zlt_Ru (r := 1) (k := 0) (t := 2) hz (Nat.le_of_ble_eq_true rfl)
  refine z_aload_n dX4_init_12 rfl rfl ?_
  refine z_bipush dX4_init_13 zbp30 ?_
  refine z_newa (N := 30) dX4_init_15 zaI (by decide) (by decide) (by decide) (zfresh_of hz) (Nat.le_of_ble_eq_true rfl) ⟨(Or.inl (Nat.le_of_ble_eq_true rfl)), trivial⟩ ⟨(Or.inl (Nat.le_of_ble_eq_true rfl)), trivial⟩ (Nat.le_of_ble_eq_true rfl) (Nat.le_of_ble_eq_true rfl) ?_
  have hw := zlet_e hw
  refine z_gam (show (zΓ.take 3) ++ [(1, 30)] = (zΓ.take 4) from by decide) ?_
  have hz := zlt_up (M := 4) (zlt_R0 (k := 3) hz) (Nat.le_of_ble_eq_true rfl)
  refine z_stk (show _ = (.ref 3 : Value) :: _ from rfl) ?_
  refine z_putrF (t := 3) dX4_init_17 fX4_15 ⟨_, _, rfl⟩ rfl rfl zkX4_1 (fun _ => rfl) (fun _ => rfl) ?_
  have hz := zlt_Ru (r := 1) (k := 1) (t := 3) hz (Nat.le_of_ble_eq_true rfl)
  refine z_aload_n dX4_init_20 rfl rfl ?_
  refine z_bipush dX4_init_21 zbp30 ?_
  refine z_newa (N := 30) dX4_init_23 zaI (by decide) (by decide) (by decide) (zfresh_of hz) (Nat.le_of_ble_eq_true rfl) ⟨(Or.inl (Nat.le_of_ble_eq_true rfl)), trivial⟩ ⟨(Or.inl (Nat.le_of_ble_eq_true rfl)), trivial⟩ (Nat.le_of_ble_eq_true rfl) (Nat.le_of_ble_eq_true rfl) ?_
  have hw := zlet_e hw
  refine z_gam (show (zΓ.take 4) ++ [(1, 30)] = (zΓ.take 5) from by decide) ?_
  have hz := zlt_up (M := 5) (zlt_R0 (k := 4) hz) (Nat.le_of_ble_eq_true rfl)
  refine z_stk (show _ = (.ref 4 : Value) :: _ from rfl) ?_
  refine z_putrF (t := 4) dX4_init_25 fX4_18 ⟨_, _, rfl⟩ rfl rfl zkX4_2 (fun _ => rfl) (fun _ => rfl) ?_
  have hz := zlt_Ru (r := 1) (k := 2) (t := 4) hz (Nat.le_of_ble_eq_true rfl)
  refine z_aload_n dX4_init_28 rfl rfl ?_
  refine z_bipush dX4_init_29 zbp30 ?_
  refine z_newa (N := 30) dX4_init_31 zaI (by decide) (by decide) (by decide) (zfresh_of hz) (Nat.le_of_ble_eq_true rfl) ⟨(Or.inl (Nat.le_of_ble_eq_true rfl)), trivial⟩ ⟨(Or.inl (Nat.le_of_ble_eq_true rfl)), trivial⟩ (Nat.le_of_ble_eq_true rfl) (Nat.le_of_ble_eq_true rfl) ?_
  have hw := zlet_e hw
  refine z_gam (show (zΓ.take 5) ++ [(1, 30)] = (zΓ.take 6) from by decide) ?_
  have hz := zlt_up (M := 6) (zlt_R0 (k := 5) hz) (Nat.le_of_ble_eq_true rfl)
  refine z_stk (show _ = (.ref 5 : Value) :: _ from rfl) ?_
  refine z_putrF (t := 5) dX4_init_33 fX4_21 ⟨_, _, rfl⟩ rfl rfl zkX4_3 (fun _ => rfl) (fun _ => rfl) ?_
  have hz := zlt_Ru (r := 1) (k := 3) (t := 5) hz (Nat.le_of_ble_eq_true rfl)
  refine z_aload_n dX4_init_36 rfl rfl ?_
  refine z_bipush dX4_init_37 zbp30 ?_
  refine z_newa (N := 30) dX4_init_39 zaI (by decide) (by decide) (by decide) (zfresh_of hz) (Nat.le_of_ble_eq_true rfl) ⟨(Or.inl (Nat.le_of_ble_eq_true rfl)), trivial⟩ ⟨(Or.inl (Nat.le_of_ble_eq_true rfl)), trivial⟩ (Nat.le_of_ble_eq_true rfl) (Nat.le_of_ble_eq_true rfl) ?_
  have hw := zlet_e hw
  refine z_gam (show (zΓ.take 6) ++ [(1, 30)] = (zΓ.take 7) from by decide) ?_
  have hz := zlt_up (M := 7) (zlt_R0 (k := 6) hz) (Nat.le_of_ble_eq_true rfl)
  refine z_stk (show _ = (.ref 6 : Value) :: _ from rfl) ?_
  refine z_putrF (t := 6) dX4_init_41 fX4_24 ⟨_, _, rfl⟩ rfl rfl zkX4_4 (fun _ => rfl) (fun _ => rfl) ?_
  have hz := zlt_Ru (r := 1) (k := 4) (t := 6) hz (Nat.le_of_ble_eq_true rfl)
  refine z_aload_n dX4_init_44 rfl rfl ?_
  refine z_bipush dX4_init_45 zbp30 ?_
  refine z_newa (N := 30) dX4_init_47 zaI (by decide) (by decide) (by decide) (zfresh_of hz) (Nat.le_of_ble_eq_true rfl) ⟨(Or.inl (Nat.le_of_ble_eq_true rfl)), trivial⟩ ⟨(Or.inl (Nat.le_of_ble_eq_true rfl)), trivial⟩ (Nat.le_of_ble_eq_true rfl) (Nat.le_of_ble_eq_true rfl) ?_
  have hw := zlet_e hw
  refine z_gam (show (zΓ.take 7) ++ [(1, 30)] = (zΓ.take 8) from by decide) ?_
  have hz := zlt_up (M := 8) (zlt_R0 (k := 7) hz) (Nat.le_of_ble_eq_true rfl)
  refine z_stk (show _ = (.ref 7 : Value) :: _ from rfl) ?_
  refine z_putrF (t := 7) dX4_init_49 fX4_27 ⟨_, _, rfl⟩ rfl rfl zkX4_5 (fun _ => rfl) (fun _ => rfl) ?_
  have hz := zlt_Ru (r := 1) (k := 5) (t := 7) hz (Nat.le_of_ble_eq_true rfl)
  refine z_aload_n dX4_init_52 rfl rfl ?_
  refine z_bipush dX4_init_53 zbp30 ?_
  refine z_newa (N := 30) dX4_init_55 zaI (by decide) (by decide) (by decide) (zfresh_of hz) (Nat.le_of_ble_eq_true rfl) ⟨(Or.inl (Nat.le_of_ble_eq_true rfl)), trivial⟩ ⟨(Or.inl (Nat.le_of_ble_eq_true rfl)), trivial⟩ (Nat.le_of_ble_eq_true rfl) (Nat.le_of_ble_eq_true rfl) ?_
  have hw := zlet_e hw
  refine z_gam (show (zΓ.take 8) ++ [(1, 30)] = (zΓ.take 9) from by decide) ?_
  have hz := zlt_up (M := 9) (zlt_R0 (k := 8) hz) (Nat.le_of_ble_eq_true rfl)
  refine z_stk (show _ = (.ref 8 : Value) :: _ from rfl) ?_
  refine z_putrF (t := 8) dX4_init_57 fX4_30 ⟨_, _, rfl⟩ rfl rfl zkX4_6 (fun _ => rfl) (fun _ => rfl) ?_
  have hz := zlt_Ru (r := 1) (k := 6) (t := 8) hz (Nat.le_of_ble_eq_true rfl)
  exact z_vret dX4_init_60 (Nat.le_of_ble_eq_true rfl) (Nat.le_of_ble_eq_true rfl) rfl ⟨rfl, rfl, hw⟩
def zPR_X0_10 (ρ : zR) : zR := (zRu (zRu (zRu (zR0 (zRu (zRo (zRu (zR0 (zRu (zR0 (zRu (zRo (zRu (zR0 (zRu (zR0 (zRu (zR0 (zRu (zR0 ρ 11) 10 1 (some 11)) 12) 10 2 (some 12)) 13) 10 3 (some 13)) 14) 10 4 (some 14)) 15 8) 10 5 (some 15)) 24) 10 6 (some 24)) 25) 10 7 (some 25)) 26 2) 10 8 (some 26)) 29) 10 9 (some 29)) 10 0 (some 1)) 10 10 (some 9))
theorem lt_X0_10 {ρ : zR} (h : zlt ρ 11) : zlt (zPR_X0_10 ρ) 30 := (zlt_Ru (zlt_Ru (zlt_Ru (zlt_up (M := 30) (zlt_R0 (k := 29) (zlt_Ru (zlt_Ro (zlt_up (M := 29) (zlt_Ru (zlt_up (M := 26) (zlt_R0 (k := 25) (zlt_Ru (zlt_up (M := 25) (zlt_R0 (k := 24) (zlt_Ru (zlt_Ro (zlt_up (M := 24) (zlt_Ru (zlt_up (M := 15) (zlt_R0 (k := 14) (zlt_Ru (zlt_up (M := 14) (zlt_R0 (k := 13) (zlt_Ru (zlt_up (M := 13) (zlt_R0 (k := 12) (zlt_Ru (zlt_up (M := 12) (zlt_R0 (k := 11) h) (Nat.le_of_ble_eq_true rfl)) (Nat.le_of_ble_eq_true rfl))) (Nat.le_of_ble_eq_true rfl)) (Nat.le_of_ble_eq_true rfl))) (Nat.le_of_ble_eq_true rfl)) (Nat.le_of_ble_eq_true rfl))) (Nat.le_of_ble_eq_true rfl)) (Nat.le_of_ble_eq_true rfl)) (Nat.le_of_ble_eq_true rfl)) (Nat.le_of_ble_eq_true rfl)) (Nat.le_of_ble_eq_true rfl))) (Nat.le_of_ble_eq_true rfl)) (Nat.le_of_ble_eq_true rfl))) (Nat.le_of_ble_eq_true rfl)) (Nat.le_of_ble_eq_true rfl)) (Nat.le_of_ble_eq_true rfl)) (Nat.le_of_ble_eq_true rfl)) (Nat.le_of_ble_eq_true rfl))) (Nat.le_of_ble_eq_true rfl)) (Nat.le_of_ble_eq_true rfl)) (Nat.le_of_ble_eq_true rfl)) (Nat.le_of_ble_eq_true rfl))
theorem hi_X0_10 {ρ : zR} (h : zhi ρ) : zhi (zPR_X0_10 ρ) := (zhi_Ru (zhi_Ru (zhi_Ru (zhi_R0 (zhi_Ru (zhi_Ro (zhi_Ru (zhi_R0 (zhi_Ru (zhi_R0 (zhi_Ru (zhi_Ro (zhi_Ru (zhi_R0 (zhi_Ru (zhi_R0 (zhi_Ru (zhi_R0 (zhi_Ru (zhi_R0 h) (Nat.le_of_ble_eq_true rfl))) (Nat.le_of_ble_eq_true rfl))) (Nat.le_of_ble_eq_true rfl))) (Nat.le_of_ble_eq_true rfl)) (Nat.le_of_ble_eq_true rfl)) (Nat.le_of_ble_eq_true rfl))) (Nat.le_of_ble_eq_true rfl))) (Nat.le_of_ble_eq_true rfl)) (Nat.le_of_ble_eq_true rfl)) (Nat.le_of_ble_eq_true rfl))) (Nat.le_of_ble_eq_true rfl)) (Nat.le_of_ble_eq_true rfl)) (Nat.le_of_ble_eq_true rfl))
def w_X0_init_10 (x3 : Int32) (σ : zS) (Q : Int32 → zS → Prop) : Prop := (zlet (zS0 σ 11) fun t1 => (zlet (zS0 t1 12) fun t2 => (zlet (zS0 t2 13) fun t3 => (zlet (zS0 t3 14) fun t4 => (zlet (zS0 t4 15) fun t5 => (zlet (zS0 t5 24) fun t6 => (zlet (zS0 t6 25) fun t7 => (zlet (zS0 t7 26) fun t8 => (zlet (zS0 t8 29) fun t9 => (zlet (zI t9 10 11 x3) fun t10 => (zlet (zI t10 10 12 (-1 : Int32)) fun t11 => Q 0 t11)))))))))))
set_option maxHeartbeats 4000000 in
set_option maxRecDepth 100000 in
theorem c_X0_init_10 {ρ : zR} (hz : zlt ρ 11) {x3 : Int32} {σ : zS} {Q : Int32 → zS → Prop} (hw : w_X0_init_10 x3 σ Q) : zAC yX0_init cX0_init 4 none { frames := 1, cells := 19, slots := 420, locals := 30 } [.ref 10, .ref 1, .ref 9, .int x3] (zΓ.take 11) ρ σ (zN (zΓ.take 30) (zPR_X0_10 ρ) Q) := by
  refine z_entry (own := RX0) (ini := true) (plainFor_of_name pnX0) rfl (fun _ => rfl) (Nat.le_of_ble_eq_true rfl) ?_
  unfold w_X0_init_10 at hw
  refine z_aload_n dX0_init_0 rfl rfl ?_
  refine z_objInit dX0_init_1 moX0_3 (Nat.le_of_ble_eq_true rfl) (Nat.le_of_ble_eq_true rfl) ?_
  refine z_aload_n dX0_init_4 rfl rfl ?_
  refine z_bipush dX0_init_5 zbp30 ?_
  refine z_newa (N := 30) dX0_init_7 zaI (by decide) (by decide) (by decide) (zfresh_of hz) (Nat.le_of_ble_eq_true rfl) ⟨(Or.inl (Nat.le_of_ble_eq_true rfl)), (Or.inl (Nat.le_of_ble_eq_true rfl)), (Or.inl (Nat.le_of_ble_eq_true rfl)), trivial, trivial⟩ ⟨(Or.inl (Nat.le_of_ble_eq_true rfl)), trivial⟩ (Nat.le_of_ble_eq_true rfl) (Nat.le_of_ble_eq_true rfl) ?_
  have hw := zlet_e hw
  refine z_gam (show (zΓ.take 11) ++ [(1, 30)] = (zΓ.take 12) from by decide) ?_
  have hz := zlt_up (M := 12) (zlt_R0 (k := 11) hz) (Nat.le_of_ble_eq_true rfl)
  refine z_stk (show _ = (.ref 11 : Value) :: _ from rfl) ?_
  refine z_putrF (t := 11) dX0_init_9 fX0_9 ⟨_, _, rfl⟩ rfl rfl zkX0_1 (fun _ => rfl) (fun _ => rfl) ?_
  have hz := zlt_Ru (r := 10) (k := 1) (t := 11) hz (Nat.le_of_ble_eq_true rfl)
  refine z_aload_n dX0_init_12 rfl rfl ?_
  refine z_bipush dX0_init_13 zbp30 ?_
  refine z_newa (N := 30) dX0_init_15 zaI (by decide) (by decide) (by decide) (zfresh_of hz) (Nat.le_of_ble_eq_true rfl) ⟨(Or.inl (Nat.le_of_ble_eq_true rfl)), (Or.inl (Nat.le_of_ble_eq_true rfl)), (Or.inl (Nat.le_of_ble_eq_true rfl)), trivial, trivial⟩ ⟨(Or.inl (Nat.le_of_ble_eq_true rfl)), trivial⟩ (Nat.le_of_ble_eq_true rfl) (Nat.le_of_ble_eq_true rfl) ?_
  have hw := zlet_e hw
  refine z_gam (show (zΓ.take 12) ++ [(1, 30)] = (zΓ.take 13) from by decide) ?_
  have hz := zlt_up (M := 13) (zlt_R0 (k := 12) hz) (Nat.le_of_ble_eq_true rfl)
  refine z_stk (show _ = (.ref 12 : Value) :: _ from rfl) ?_
  refine z_putrF (t := 12) dX0_init_17 fX0_15 ⟨_, _, rfl⟩ rfl rfl zkX0_2 (fun _ => rfl) (fun _ => rfl) ?_
  have hz := zlt_Ru (r := 10) (k := 2) (t := 12) hz (Nat.le_of_ble_eq_true rfl)
  refine z_aload_n dX0_init_20 rfl rfl ?_
  refine z_bipush dX0_init_21 zbp30 ?_
  refine z_newa (N := 30) dX0_init_23 zaI (by decide) (by decide) (by decide) (zfresh_of hz) (Nat.le_of_ble_eq_true rfl) ⟨(Or.inl (Nat.le_of_ble_eq_true rfl)), (Or.inl (Nat.le_of_ble_eq_true rfl)), (Or.inl (Nat.le_of_ble_eq_true rfl)), trivial, trivial⟩ ⟨(Or.inl (Nat.le_of_ble_eq_true rfl)), trivial⟩ (Nat.le_of_ble_eq_true rfl) (Nat.le_of_ble_eq_true rfl) ?_
  have hw := zlet_e hw
  refine z_gam (show (zΓ.take 13) ++ [(1, 30)] = (zΓ.take 14) from by decide) ?_
  have hz := zlt_up (M := 14) (zlt_R0 (k := 13) hz) (Nat.le_of_ble_eq_true rfl)
  refine z_stk (show _ = (.ref 13 : Value) :: _ from rfl) ?_
  refine z_putrF (t := 13) dX0_init_25 fX0_18 ⟨_, _, rfl⟩ rfl rfl zkX0_3 (fun _ => rfl) (fun _ => rfl) ?_
  have hz := zlt_Ru (r := 10) (k := 3) (t := 13) hz (Nat.le_of_ble_eq_true rfl)
  refine z_aload_n dX0_init_28 rfl rfl ?_
  refine z_bipush dX0_init_29 zbp30 ?_
  refine z_newa (N := 30) dX0_init_31 zaI (by decide) (by decide) (by decide) (zfresh_of hz) (Nat.le_of_ble_eq_true rfl) ⟨(Or.inl (Nat.le_of_ble_eq_true rfl)), (Or.inl (Nat.le_of_ble_eq_true rfl)), (Or.inl (Nat.le_of_ble_eq_true rfl)), trivial, trivial⟩ ⟨(Or.inl (Nat.le_of_ble_eq_true rfl)), trivial⟩ (Nat.le_of_ble_eq_true rfl) (Nat.le_of_ble_eq_true rfl) ?_
  have hw := zlet_e hw
  refine z_gam (show (zΓ.take 14) ++ [(1, 30)] = (zΓ.take 15) from by decide) ?_
  have hz := zlt_up (M := 15) (zlt_R0 (k := 14) hz) (Nat.le_of_ble_eq_true rfl)
  refine z_stk (show _ = (.ref 14 : Value) :: _ from rfl) ?_
  refine z_putrF (t := 14) dX0_init_33 fX0_21 ⟨_, _, rfl⟩ rfl rfl zkX0_4 (fun _ => rfl) (fun _ => rfl) ?_
  have hz := zlt_Ru (r := 10) (k := 4) (t := 14) hz (Nat.le_of_ble_eq_true rfl)
  refine z_aload_n dX0_init_36 rfl rfl ?_
  refine z_bipush dX0_init_37 zbp8 ?_
  refine z_bipush dX0_init_39 zbp30 ?_
  refine z_mna (N := 8) (K := 30) dX0_init_41 zaI maX0_24 (by decide) (by decide) (by decide) (by decide) (by decide) (by decide) (by decide) (zfresh_of hz) (Nat.le_of_ble_eq_true rfl) ⟨(Or.inl (Nat.le_of_ble_eq_true rfl)), (Or.inl (Nat.le_of_ble_eq_true rfl)), (Or.inl (Nat.le_of_ble_eq_true rfl)), trivial, trivial⟩ ⟨(Or.inl (Nat.le_of_ble_eq_true rfl)), trivial⟩ (Nat.le_of_ble_eq_true rfl) (Nat.le_of_ble_eq_true rfl) ?_
  have hw := zlet_e hw
  refine z_gam (show (zΓ.take 15) ++ ((3, 8) :: List.replicate 8 (1, 30)) = (zΓ.take 24) from by decide) ?_
  have hz := zlt_Ro (k := 15) (N := 8) (zlt_up (M := 24) hz (Nat.le_of_ble_eq_true rfl)) (Nat.le_of_ble_eq_true rfl)
  refine z_stk (show _ = (.ref 15 : Value) :: _ from rfl) ?_
  refine z_putrF (t := 15) dX0_init_45 fX0_26 ⟨_, _, rfl⟩ rfl rfl zkX0_5 (fun _ => rfl) (fun _ => rfl) ?_
  have hz := zlt_Ru (r := 10) (k := 5) (t := 15) hz (Nat.le_of_ble_eq_true rfl)
  refine z_aload_n dX0_init_48 rfl rfl ?_
  refine z_bipush dX0_init_49 zbp8 ?_
  refine z_newa (N := 8) dX0_init_51 zaI (by decide) (by decide) (by decide) (zfresh_of hz) (Nat.le_of_ble_eq_true rfl) ⟨(Or.inl (Nat.le_of_ble_eq_true rfl)), (Or.inl (Nat.le_of_ble_eq_true rfl)), (Or.inl (Nat.le_of_ble_eq_true rfl)), trivial, trivial⟩ ⟨(Or.inl (Nat.le_of_ble_eq_true rfl)), trivial⟩ (Nat.le_of_ble_eq_true rfl) (Nat.le_of_ble_eq_true rfl) ?_
  have hw := zlet_e hw
  refine z_gam (show (zΓ.take 24) ++ [(1, 8)] = (zΓ.take 25) from by decide) ?_
  have hz := zlt_up (M := 25) (zlt_R0 (k := 24) hz) (Nat.le_of_ble_eq_true rfl)
  refine z_stk (show _ = (.ref 24 : Value) :: _ from rfl) ?_
  refine z_putrF (t := 24) dX0_init_53 fX0_29 ⟨_, _, rfl⟩ rfl rfl zkX0_6 (fun _ => rfl) (fun _ => rfl) ?_
  have hz := zlt_Ru (r := 10) (k := 6) (t := 24) hz (Nat.le_of_ble_eq_true rfl)
  refine z_aload_n dX0_init_56 rfl rfl ?_
  refine z_bipush dX0_init_57 zbp18 ?_
  refine z_newa (N := 18) dX0_init_59 zaI (by decide) (by decide) (by decide) (zfresh_of hz) (Nat.le_of_ble_eq_true rfl) ⟨(Or.inl (Nat.le_of_ble_eq_true rfl)), (Or.inl (Nat.le_of_ble_eq_true rfl)), (Or.inl (Nat.le_of_ble_eq_true rfl)), trivial, trivial⟩ ⟨(Or.inl (Nat.le_of_ble_eq_true rfl)), trivial⟩ (Nat.le_of_ble_eq_true rfl) (Nat.le_of_ble_eq_true rfl) ?_
  have hw := zlet_e hw
  refine z_gam (show (zΓ.take 25) ++ [(1, 18)] = (zΓ.take 26) from by decide) ?_
  have hz := zlt_up (M := 26) (zlt_R0 (k := 25) hz) (Nat.le_of_ble_eq_true rfl)
  refine z_stk (show _ = (.ref 25 : Value) :: _ from rfl) ?_
  refine z_putrF (t := 25) dX0_init_61 fX0_32 ⟨_, _, rfl⟩ rfl rfl zkX0_7 (fun _ => rfl) (fun _ => rfl) ?_
  have hz := zlt_Ru (r := 10) (k := 7) (t := 25) hz (Nat.le_of_ble_eq_true rfl)
  refine z_aload_n dX0_init_64 rfl rfl ?_
  refine z_iconst dX0_init_65 zi2 ?_
  refine z_bipush dX0_init_66 zbp8 ?_
  refine z_mna (N := 2) (K := 8) dX0_init_68 zaI maX0_24 (by decide) (by decide) (by decide) (by decide) (by decide) (by decide) (by decide) (zfresh_of hz) (Nat.le_of_ble_eq_true rfl) ⟨(Or.inl (Nat.le_of_ble_eq_true rfl)), (Or.inl (Nat.le_of_ble_eq_true rfl)), (Or.inl (Nat.le_of_ble_eq_true rfl)), trivial, trivial⟩ ⟨(Or.inl (Nat.le_of_ble_eq_true rfl)), trivial⟩ (Nat.le_of_ble_eq_true rfl) (Nat.le_of_ble_eq_true rfl) ?_
  have hw := zlet_e hw
  refine z_gam (show (zΓ.take 26) ++ ((3, 2) :: List.replicate 2 (1, 8)) = (zΓ.take 29) from by decide) ?_
  have hz := zlt_Ro (k := 26) (N := 2) (zlt_up (M := 29) hz (Nat.le_of_ble_eq_true rfl)) (Nat.le_of_ble_eq_true rfl)
  refine z_stk (show _ = (.ref 26 : Value) :: _ from rfl) ?_
  refine z_putrF (t := 26) dX0_init_72 fX0_35 ⟨_, _, rfl⟩ rfl rfl zkX0_8 (fun _ => rfl) (fun _ => rfl) ?_
  have hz := zlt_Ru (r := 10) (k := 8) (t := 26) hz (Nat.le_of_ble_eq_true rfl)
  refine z_aload_n dX0_init_75 rfl rfl ?_
  refine z_bipush dX0_init_76 zbp8 ?_
  refine z_newz (N := 8) dX0_init_78 zaZ (by decide) (by decide) (by decide) (zfresh_of hz) (Nat.le_of_ble_eq_true rfl) ⟨(Or.inl (Nat.le_of_ble_eq_true rfl)), (Or.inl (Nat.le_of_ble_eq_true rfl)), (Or.inl (Nat.le_of_ble_eq_true rfl)), trivial, trivial⟩ ⟨(Or.inl (Nat.le_of_ble_eq_true rfl)), trivial⟩ (Nat.le_of_ble_eq_true rfl) (Nat.le_of_ble_eq_true rfl) ?_
  have hw := zlet_e hw
  refine z_gam (show (zΓ.take 29) ++ [(2, 8)] = (zΓ.take 30) from by decide) ?_
  have hz := zlt_up (M := 30) (zlt_R0 (k := 29) hz) (Nat.le_of_ble_eq_true rfl)
  refine z_stk (show _ = (.ref 29 : Value) :: _ from rfl) ?_
  refine z_putrF (t := 29) dX0_init_80 fX0_38 ⟨_, _, rfl⟩ rfl rfl zkX0_9 (fun _ => rfl) (fun _ => rfl) ?_
  have hz := zlt_Ru (r := 10) (k := 9) (t := 29) hz (Nat.le_of_ble_eq_true rfl)
  refine z_aload_n dX0_init_83 rfl rfl ?_
  refine z_aload_n dX0_init_84 rfl rfl ?_
  refine z_putrF (t := 1) dX0_init_85 fX0_42 ⟨_, _, rfl⟩ rfl rfl zkX0_0 (fun _ => rfl) (fun _ => rfl) ?_
  have hz := zlt_Ru (r := 10) (k := 0) (t := 1) hz (Nat.le_of_ble_eq_true rfl)
  refine z_aload_n dX0_init_88 rfl rfl ?_
  refine z_aload_n dX0_init_89 rfl rfl ?_
  refine z_putr (t := 9) dX0_init_90 fX0_46 rfl zkX0_10 (fun _ => rfl) (fun _ => rfl) ?_
  have hz := zlt_Ru (r := 10) (k := 10) (t := 9) hz (Nat.le_of_ble_eq_true rfl)
  refine z_aload_n dX0_init_93 rfl rfl ?_
  refine z_iload_n dX0_init_94 rfl rfl ?_
  refine z_putiL dX0_init_95 fX0_50 rfl zkX0_11 hw (fun hw => ?_)
  refine z_aload_n dX0_init_98 rfl rfl ?_
  refine z_iconst dX0_init_99 zim1 ?_
  refine z_putiL dX0_init_100 fX0_54 rfl zkX0_12 hw (fun hw => ?_)
  exact z_vret dX0_init_103 (Nat.le_of_ble_eq_true rfl) (Nat.le_of_ble_eq_true rfl) rfl ⟨rfl, rfl, hw⟩
def zPR_X0_30 (ρ : zR) : zR := (zRu (zRu (zRu (zR0 (zRu (zRo (zRu (zR0 (zRu (zR0 (zRu (zRo (zRu (zR0 (zRu (zR0 (zRu (zR0 (zRu (zR0 ρ 31) 30 1 (some 31)) 32) 30 2 (some 32)) 33) 30 3 (some 33)) 34) 30 4 (some 34)) 35 8) 30 5 (some 35)) 44) 30 6 (some 44)) 45) 30 7 (some 45)) 46 2) 30 8 (some 46)) 49) 30 9 (some 49)) 30 0 (some 1)) 30 10 (some 9))
theorem lt_X0_30 {ρ : zR} (h : zlt ρ 31) : zlt (zPR_X0_30 ρ) 50 := (zlt_Ru (zlt_Ru (zlt_Ru (zlt_up (M := 50) (zlt_R0 (k := 49) (zlt_Ru (zlt_Ro (zlt_up (M := 49) (zlt_Ru (zlt_up (M := 46) (zlt_R0 (k := 45) (zlt_Ru (zlt_up (M := 45) (zlt_R0 (k := 44) (zlt_Ru (zlt_Ro (zlt_up (M := 44) (zlt_Ru (zlt_up (M := 35) (zlt_R0 (k := 34) (zlt_Ru (zlt_up (M := 34) (zlt_R0 (k := 33) (zlt_Ru (zlt_up (M := 33) (zlt_R0 (k := 32) (zlt_Ru (zlt_up (M := 32) (zlt_R0 (k := 31) h) (Nat.le_of_ble_eq_true rfl)) (Nat.le_of_ble_eq_true rfl))) (Nat.le_of_ble_eq_true rfl)) (Nat.le_of_ble_eq_true rfl))) (Nat.le_of_ble_eq_true rfl)) (Nat.le_of_ble_eq_true rfl))) (Nat.le_of_ble_eq_true rfl)) (Nat.le_of_ble_eq_true rfl)) (Nat.le_of_ble_eq_true rfl)) (Nat.le_of_ble_eq_true rfl)) (Nat.le_of_ble_eq_true rfl))) (Nat.le_of_ble_eq_true rfl)) (Nat.le_of_ble_eq_true rfl))) (Nat.le_of_ble_eq_true rfl)) (Nat.le_of_ble_eq_true rfl)) (Nat.le_of_ble_eq_true rfl)) (Nat.le_of_ble_eq_true rfl)) (Nat.le_of_ble_eq_true rfl))) (Nat.le_of_ble_eq_true rfl)) (Nat.le_of_ble_eq_true rfl)) (Nat.le_of_ble_eq_true rfl)) (Nat.le_of_ble_eq_true rfl))
theorem hi_X0_30 {ρ : zR} (h : zhi ρ) : zhi (zPR_X0_30 ρ) := (zhi_Ru (zhi_Ru (zhi_Ru (zhi_R0 (zhi_Ru (zhi_Ro (zhi_Ru (zhi_R0 (zhi_Ru (zhi_R0 (zhi_Ru (zhi_Ro (zhi_Ru (zhi_R0 (zhi_Ru (zhi_R0 (zhi_Ru (zhi_R0 (zhi_Ru (zhi_R0 h) (Nat.le_of_ble_eq_true rfl))) (Nat.le_of_ble_eq_true rfl))) (Nat.le_of_ble_eq_true rfl))) (Nat.le_of_ble_eq_true rfl)) (Nat.le_of_ble_eq_true rfl)) (Nat.le_of_ble_eq_true rfl))) (Nat.le_of_ble_eq_true rfl))) (Nat.le_of_ble_eq_true rfl)) (Nat.le_of_ble_eq_true rfl)) (Nat.le_of_ble_eq_true rfl))) (Nat.le_of_ble_eq_true rfl)) (Nat.le_of_ble_eq_true rfl)) (Nat.le_of_ble_eq_true rfl))
def w_X0_init_30 (x3 : Int32) (σ : zS) (Q : Int32 → zS → Prop) : Prop := (zlet (zS0 σ 31) fun t1 => (zlet (zS0 t1 32) fun t2 => (zlet (zS0 t2 33) fun t3 => (zlet (zS0 t3 34) fun t4 => (zlet (zS0 t4 35) fun t5 => (zlet (zS0 t5 44) fun t6 => (zlet (zS0 t6 45) fun t7 => (zlet (zS0 t7 46) fun t8 => (zlet (zS0 t8 49) fun t9 => (zlet (zI t9 30 11 x3) fun t10 => (zlet (zI t10 30 12 (-1 : Int32)) fun t11 => Q 0 t11)))))))))))
set_option maxHeartbeats 4000000 in
set_option maxRecDepth 100000 in
theorem c_X0_init_30 {ρ : zR} (hz : zlt ρ 31) {x3 : Int32} {σ : zS} {Q : Int32 → zS → Prop} (hw : w_X0_init_30 x3 σ Q) : zAC yX0_init cX0_init 4 none { frames := 1, cells := 19, slots := 420, locals := 30 } [.ref 30, .ref 1, .ref 9, .int x3] (zΓ.take 31) ρ σ (zN (zΓ.take 50) (zPR_X0_30 ρ) Q) := by
  refine z_entry (own := RX0) (ini := true) (plainFor_of_name pnX0) rfl (fun _ => rfl) (Nat.le_of_ble_eq_true rfl) ?_
  unfold w_X0_init_30 at hw
  refine z_aload_n dX0_init_0 rfl rfl ?_
  refine z_objInit dX0_init_1 moX0_3 (Nat.le_of_ble_eq_true rfl) (Nat.le_of_ble_eq_true rfl) ?_
  refine z_aload_n dX0_init_4 rfl rfl ?_
  refine z_bipush dX0_init_5 zbp30 ?_
  refine z_newa (N := 30) dX0_init_7 zaI (by decide) (by decide) (by decide) (zfresh_of hz) (Nat.le_of_ble_eq_true rfl) ⟨(Or.inl (Nat.le_of_ble_eq_true rfl)), (Or.inl (Nat.le_of_ble_eq_true rfl)), (Or.inl (Nat.le_of_ble_eq_true rfl)), trivial, trivial⟩ ⟨(Or.inl (Nat.le_of_ble_eq_true rfl)), trivial⟩ (Nat.le_of_ble_eq_true rfl) (Nat.le_of_ble_eq_true rfl) ?_
  have hw := zlet_e hw
  refine z_gam (show (zΓ.take 31) ++ [(1, 30)] = (zΓ.take 32) from by decide) ?_
  have hz := zlt_up (M := 32) (zlt_R0 (k := 31) hz) (Nat.le_of_ble_eq_true rfl)
  refine z_stk (show _ = (.ref 31 : Value) :: _ from rfl) ?_
  refine z_putrF (t := 31) dX0_init_9 fX0_9 ⟨_, _, rfl⟩ rfl rfl zkX0_1 (fun _ => rfl) (fun _ => rfl) ?_
  have hz := zlt_Ru (r := 30) (k := 1) (t := 31) hz (Nat.le_of_ble_eq_true rfl)
  refine z_aload_n dX0_init_12 rfl rfl ?_
  refine z_bipush dX0_init_13 zbp30 ?_
  refine z_newa (N := 30) dX0_init_15 zaI (by decide) (by decide) (by decide) (zfresh_of hz) (Nat.le_of_ble_eq_true rfl) ⟨(Or.inl (Nat.le_of_ble_eq_true rfl)), (Or.inl (Nat.le_of_ble_eq_true rfl)), (Or.inl (Nat.le_of_ble_eq_true rfl)), trivial, trivial⟩ ⟨(Or.inl (Nat.le_of_ble_eq_true rfl)), trivial⟩ (Nat.le_of_ble_eq_true rfl) (Nat.le_of_ble_eq_true rfl) ?_
  have hw := zlet_e hw
  refine z_gam (show (zΓ.take 32) ++ [(1, 30)] = (zΓ.take 33) from by decide) ?_
  have hz := zlt_up (M := 33) (zlt_R0 (k := 32) hz) (Nat.le_of_ble_eq_true rfl)
  refine z_stk (show _ = (.ref 32 : Value) :: _ from rfl) ?_
  refine z_putrF (t := 32) dX0_init_17 fX0_15 ⟨_, _, rfl⟩ rfl rfl zkX0_2 (fun _ => rfl) (fun _ => rfl) ?_
  have hz := zlt_Ru (r := 30) (k := 2) (t := 32) hz (Nat.le_of_ble_eq_true rfl)
  refine z_aload_n dX0_init_20 rfl rfl ?_
  refine z_bipush dX0_init_21 zbp30 ?_
  refine z_newa (N := 30) dX0_init_23 zaI (by decide) (by decide) (by decide) (zfresh_of hz) (Nat.le_of_ble_eq_true rfl) ⟨(Or.inl (Nat.le_of_ble_eq_true rfl)), (Or.inl (Nat.le_of_ble_eq_true rfl)), (Or.inl (Nat.le_of_ble_eq_true rfl)), trivial, trivial⟩ ⟨(Or.inl (Nat.le_of_ble_eq_true rfl)), trivial⟩ (Nat.le_of_ble_eq_true rfl) (Nat.le_of_ble_eq_true rfl) ?_
  have hw := zlet_e hw
  refine z_gam (show (zΓ.take 33) ++ [(1, 30)] = (zΓ.take 34) from by decide) ?_
  have hz := zlt_up (M := 34) (zlt_R0 (k := 33) hz) (Nat.le_of_ble_eq_true rfl)
  refine z_stk (show _ = (.ref 33 : Value) :: _ from rfl) ?_
  refine z_putrF (t := 33) dX0_init_25 fX0_18 ⟨_, _, rfl⟩ rfl rfl zkX0_3 (fun _ => rfl) (fun _ => rfl) ?_
  have hz := zlt_Ru (r := 30) (k := 3) (t := 33) hz (Nat.le_of_ble_eq_true rfl)
  refine z_aload_n dX0_init_28 rfl rfl ?_
  refine z_bipush dX0_init_29 zbp30 ?_
  refine z_newa (N := 30) dX0_init_31 zaI (by decide) (by decide) (by decide) (zfresh_of hz) (Nat.le_of_ble_eq_true rfl) ⟨(Or.inl (Nat.le_of_ble_eq_true rfl)), (Or.inl (Nat.le_of_ble_eq_true rfl)), (Or.inl (Nat.le_of_ble_eq_true rfl)), trivial, trivial⟩ ⟨(Or.inl (Nat.le_of_ble_eq_true rfl)), trivial⟩ (Nat.le_of_ble_eq_true rfl) (Nat.le_of_ble_eq_true rfl) ?_
  have hw := zlet_e hw
  refine z_gam (show (zΓ.take 34) ++ [(1, 30)] = (zΓ.take 35) from by decide) ?_
  have hz := zlt_up (M := 35) (zlt_R0 (k := 34) hz) (Nat.le_of_ble_eq_true rfl)
  refine z_stk (show _ = (.ref 34 : Value) :: _ from rfl) ?_
  refine z_putrF (t := 34) dX0_init_33 fX0_21 ⟨_, _, rfl⟩ rfl rfl zkX0_4 (fun _ => rfl) (fun _ => rfl) ?_
  have hz := zlt_Ru (r := 30) (k := 4) (t := 34) hz (Nat.le_of_ble_eq_true rfl)
  refine z_aload_n dX0_init_36 rfl rfl ?_
  refine z_bipush dX0_init_37 zbp8 ?_
  refine z_bipush dX0_init_39 zbp30 ?_
  refine z_mna (N := 8) (K := 30) dX0_init_41 zaI maX0_24 (by decide) (by decide) (by decide) (by decide) (by decide) (by decide) (by decide) (zfresh_of hz) (Nat.le_of_ble_eq_true rfl) ⟨(Or.inl (Nat.le_of_ble_eq_true rfl)), (Or.inl (Nat.le_of_ble_eq_true rfl)), (Or.inl (Nat.le_of_ble_eq_true rfl)), trivial, trivial⟩ ⟨(Or.inl (Nat.le_of_ble_eq_true rfl)), trivial⟩ (Nat.le_of_ble_eq_true rfl) (Nat.le_of_ble_eq_true rfl) ?_
  have hw := zlet_e hw
  refine z_gam (show (zΓ.take 35) ++ ((3, 8) :: List.replicate 8 (1, 30)) = (zΓ.take 44) from by decide) ?_
  have hz := zlt_Ro (k := 35) (N := 8) (zlt_up (M := 44) hz (Nat.le_of_ble_eq_true rfl)) (Nat.le_of_ble_eq_true rfl)
  refine z_stk (show _ = (.ref 35 : Value) :: _ from rfl) ?_
  refine z_putrF (t := 35) dX0_init_45 fX0_26 ⟨_, _, rfl⟩ rfl rfl zkX0_5 (fun _ => rfl) (fun _ => rfl) ?_
  have hz := zlt_Ru (r := 30) (k := 5) (t := 35) hz (Nat.le_of_ble_eq_true rfl)
  refine z_aload_n dX0_init_48 rfl rfl ?_
  refine z_bipush dX0_init_49 zbp8 ?_
  refine z_newa (N := 8) dX0_init_51 zaI (by decide) (by decide) (by decide) (zfresh_of hz) (Nat.le_of_ble_eq_true rfl) ⟨(Or.inl (Nat.le_of_ble_eq_true rfl)), (Or.inl (Nat.le_of_ble_eq_true rfl)), (Or.inl (Nat.le_of_ble_eq_true rfl)), trivial, trivial⟩ ⟨(Or.inl (Nat.le_of_ble_eq_true rfl)), trivial⟩ (Nat.le_of_ble_eq_true rfl) (Nat.le_of_ble_eq_true rfl) ?_
  have hw := zlet_e hw
  refine z_gam (show (zΓ.take 44) ++ [(1, 8)] = (zΓ.take 45) from by decide) ?_
  have hz := zlt_up (M := 45) (zlt_R0 (k := 44) hz) (Nat.le_of_ble_eq_true rfl)
  refine z_stk (show _ = (.ref 44 : Value) :: _ from rfl) ?_
  refine z_putrF (t := 44) dX0_init_53 fX0_29 ⟨_, _, rfl⟩ rfl rfl zkX0_6 (fun _ => rfl) (fun _ => rfl) ?_
  have hz := zlt_Ru (r := 30) (k := 6) (t := 44) hz (Nat.le_of_ble_eq_true rfl)
  refine z_aload_n dX0_init_56 rfl rfl ?_
  refine z_bipush dX0_init_57 zbp18 ?_
  refine z_newa (N := 18) dX0_init_59 zaI (by decide) (by decide) (by decide) (zfresh_of hz) (Nat.le_of_ble_eq_true rfl) ⟨(Or.inl (Nat.le_of_ble_eq_true rfl)), (Or.inl (Nat.le_of_ble_eq_true rfl)), (Or.inl (Nat.le_of_ble_eq_true rfl)), trivial, trivial⟩ ⟨(Or.inl (Nat.le_of_ble_eq_true rfl)), trivial⟩ (Nat.le_of_ble_eq_true rfl) (Nat.le_of_ble_eq_true rfl) ?_
  have hw := zlet_e hw
  refine z_gam (show (zΓ.take 45) ++ [(1, 18)] = (zΓ.take 46) from by decide) ?_
  have hz := zlt_up (M := 46) (zlt_R0 (k := 45) hz) (Nat.le_of_ble_eq_true rfl)
  refine z_stk (show _ = (.ref 45 : Value) :: _ from rfl) ?_
  refine z_putrF (t := 45) dX0_init_61 fX0_32 ⟨_, _, rfl⟩ rfl rfl zkX0_7 (fun _ => rfl) (fun _ => rfl) ?_
  have hz := zlt_Ru (r := 30) (k := 7) (t := 45) hz (Nat.le_of_ble_eq_true rfl)
  refine z_aload_n dX0_init_64 rfl rfl ?_
  refine z_iconst dX0_init_65 zi2 ?_
  refine z_bipush dX0_init_66 zbp8 ?_
  refine z_mna (N := 2) (K := 8) dX0_init_68 zaI maX0_24 (by decide) (by decide) (by decide) (by decide) (by decide) (by decide) (by decide) (zfresh_of hz) (Nat.le_of_ble_eq_true rfl) ⟨(Or.inl (Nat.le_of_ble_eq_true rfl)), (Or.inl (Nat.le_of_ble_eq_true rfl)), (Or.inl (Nat.le_of_ble_eq_true rfl)), trivial, trivial⟩ ⟨(Or.inl (Nat.le_of_ble_eq_true rfl)), trivial⟩ (Nat.le_of_ble_eq_true rfl) (Nat.le_of_ble_eq_true rfl) ?_
  have hw := zlet_e hw
  refine z_gam (show (zΓ.take 46) ++ ((3, 2) :: List.replicate 2 (1, 8)) = (zΓ.take 49) from by decide) ?_
  have hz := zlt_Ro (k := 46) (N := 2) (zlt_up (M := 49) hz (Nat.le_of_ble_eq_true rfl)) (Nat.le_of_ble_eq_true rfl)
  refine z_stk (show _ = (.ref 46 : Value) :: _ from rfl) ?_
  refine z_putrF (t := 46) dX0_init_72 fX0_35 ⟨_, _, rfl⟩ rfl rfl zkX0_8 (fun _ => rfl) (fun _ => rfl) ?_
  have hz := zlt_Ru (r := 30) (k := 8) (t := 46) hz (Nat.le_of_ble_eq_true rfl)
  refine z_aload_n dX0_init_75 rfl rfl ?_
  refine z_bipush dX0_init_76 zbp8 ?_
  refine z_newz (N := 8) dX0_init_78 zaZ (by decide) (by decide) (by decide) (zfresh_of hz) (Nat.le_of_ble_eq_true rfl) ⟨(Or.inl (Nat.le_of_ble_eq_true rfl)), (Or.inl (Nat.le_of_ble_eq_true rfl)), (Or.inl (Nat.le_of_ble_eq_true rfl)), trivial, trivial⟩ ⟨(Or.inl (Nat.le_of_ble_eq_true rfl)), trivial⟩ (Nat.le_of_ble_eq_true rfl) (Nat.le_of_ble_eq_true rfl) ?_
  have hw := zlet_e hw
  refine z_gam (show (zΓ.take 49) ++ [(2, 8)] = (zΓ.take 50) from by decide) ?_
  have hz := zlt_up (M := 50) (zlt_R0 (k := 49) hz) (Nat.le_of_ble_eq_true rfl)
  refine z_stk (show _ = (.ref 49 : Value) :: _ from rfl) ?_
  refine z_putrF (t := 49) dX0_init_80 fX0_38 ⟨_, _, rfl⟩ rfl rfl zkX0_9 (fun _ => rfl) (fun _ => rfl) ?_
  have hz := zlt_Ru (r := 30) (k := 9) (t := 49) hz (Nat.le_of_ble_eq_true rfl)
  refine z_aload_n dX0_init_83 rfl rfl ?_
  refine z_aload_n dX0_init_84 rfl rfl ?_
  refine z_putrF (t := 1) dX0_init_85 fX0_42 ⟨_, _, rfl⟩ rfl rfl zkX0_0 (fun _ => rfl) (fun _ => rfl) ?_
  have hz := zlt_Ru (r := 30) (k := 0) (t := 1) hz (Nat.le_of_ble_eq_true rfl)
  refine z_aload_n dX0_init_88 rfl rfl ?_
  refine z_aload_n dX0_init_89 rfl rfl ?_
  refine z_putr (t := 9) dX0_init_90 fX0_46 rfl zkX0_10 (fun _ => rfl) (fun _ => rfl) ?_
  have hz := zlt_Ru (r := 30) (k := 10) (t := 9) hz (Nat.le_of_ble_eq_true rfl)
  refine z_aload_n dX0_init_93 rfl rfl ?_
  refine z_iload_n dX0_init_94 rfl rfl ?_
  refine z_putiL dX0_init_95 fX0_50 rfl zkX0_11 hw (fun hw => ?_)
  refine z_aload_n dX0_init_98 rfl rfl ?_
  refine z_iconst dX0_init_99 zim1 ?_
  refine z_putiL dX0_init_100 fX0_54 rfl zkX0_12 hw (fun hw => ?_)
  exact z_vret dX0_init_103 (Nat.le_of_ble_eq_true rfl) (Nat.le_of_ble_eq_true rfl) rfl ⟨rfl, rfl, hw⟩
def zPR_X1 (ρ : zR) : zR := (zRu (zR0 (zRu (zR0 ρ 51) 50 0 (some 51)) 52) 50 1 (some 52))
theorem lt_X1 {ρ : zR} (h : zlt ρ 51) : zlt (zPR_X1 ρ) 53 := (zlt_Ru (zlt_up (M := 53) (zlt_R0 (k := 52) (zlt_Ru (zlt_up (M := 52) (zlt_R0 (k := 51) h) (Nat.le_of_ble_eq_true rfl)) (Nat.le_of_ble_eq_true rfl))) (Nat.le_of_ble_eq_true rfl)) (Nat.le_of_ble_eq_true rfl))
theorem hi_X1 {ρ : zR} (h : zhi ρ) : zhi (zPR_X1 ρ) := (zhi_Ru (zhi_R0 (zhi_Ru (zhi_R0 h) (Nat.le_of_ble_eq_true rfl))) (Nat.le_of_ble_eq_true rfl))
def w_X1_init (σ : zS) (Q : Int32 → zS → Prop) : Prop := (zlet (zS0 σ 51) fun t1 => (zlet (zS0 t1 52) fun t2 => Q 0 t2))
set_option maxHeartbeats 4000000 in
set_option maxRecDepth 100000 in
theorem c_X1_init {ρ : zR} (hz : zlt ρ 51) {σ : zS} {Q : Int32 → zS → Prop} (hw : w_X1_init  σ Q) : zAC yX1_init cX1_init 1 none { frames := 1, cells := 2, slots := 36, locals := 30 } [.ref 50] (zΓ.take 51) ρ σ (zN (zΓ.take 53) (zPR_X1 ρ) Q) := by
  refine z_entry (own := RX1) (ini := true) (plainFor_of_name pnX1) rfl (fun _ => rfl) (Nat.le_of_ble_eq_true rfl) ?_
  unfold w_X1_init at hw
  refine z_aload_n dX1_init_0 rfl rfl ?_
  refine z_objInit dX1_init_1 moX1_3 (Nat.le_of_ble_eq_true rfl) (Nat.le_of_ble_eq_true rfl) ?_
  refine z_aload_n dX1_init_4 rfl rfl ?_
  refine z_bipush dX1_init_5 zbp18 ?_
  refine z_newa (N := 18) dX1_init_7 zaI (by decide) (by decide) (by decide) (zfresh_of hz) (Nat.le_of_ble_eq_true rfl) ⟨(Or.inl (Nat.le_of_ble_eq_true rfl)), trivial⟩ ⟨(Or.inl (Nat.le_of_ble_eq_true rfl)), trivial⟩ (Nat.le_of_ble_eq_true rfl) (Nat.le_of_ble_eq_true rfl) ?_
  have hw := zlet_e hw
  refine z_gam (show (zΓ.take 51) ++ [(1, 18)] = (zΓ.take 52) from by decide) ?_
  have hz := zlt_up (M := 52) (zlt_R0 (k := 51) hz) (Nat.le_of_ble_eq_true rfl)
  refine z_stk (show _ = (.ref 51 : Value) :: _ from rfl) ?_
  refine z_putrF (t := 51) dX1_init_9 fX1_9 ⟨_, _, rfl⟩ rfl rfl zkX1_0 (fun _ => rfl) (fun _ => rfl) ?_
  have hz := zlt_Ru (r := 50) (k := 0) (t := 51) hz (Nat.le_of_ble_eq_true rfl)
  refine z_aload_n dX1_init_12 rfl rfl ?_
  refine z_bipush dX1_init_13 zbp18 ?_
  refine z_newa (N := 18) dX1_init_15 zaI (by decide) (by decide) (by decide) (zfresh_of hz) (Nat.le_of_ble_eq_true rfl) ⟨(Or.inl (Nat.le_of_ble_eq_true rfl)), trivial⟩ ⟨(Or.inl (Nat.le_of_ble_eq_true rfl)), trivial⟩ (Nat.le_of_ble_eq_true rfl) (Nat.le_of_ble_eq_true rfl) ?_
  have hw := zlet_e hw
  refine z_gam (show (zΓ.take 52) ++ [(1, 18)] = (zΓ.take 53) from by decide) ?_
  have hz := zlt_up (M := 53) (zlt_R0 (k := 52) hz) (Nat.le_of_ble_eq_true rfl)
  refine z_stk (show _ = (.ref 52 : Value) :: _ from rfl) ?_
  refine z_putrF (t := 52) dX1_init_17 fX1_15 ⟨_, _, rfl⟩ rfl rfl zkX1_1 (fun _ => rfl) (fun _ => rfl) ?_
  have hz := zlt_Ru (r := 50) (k := 1) (t := 52) hz (Nat.le_of_ble_eq_true rfl)
  exact z_vret dX1_init_20 (Nat.le_of_ble_eq_true rfl) (Nat.le_of_ble_eq_true rfl) rfl ⟨rfl, rfl, hw⟩
def zPR_X5 (ρ : zR) : zR := (zRu (zRo ρ 54 2) 53 0 (some 54))
theorem lt_X5 {ρ : zR} (h : zlt ρ 54) : zlt (zPR_X5 ρ) 57 := (zlt_Ru (zlt_Ro (zlt_up (M := 57) h (Nat.le_of_ble_eq_true rfl)) (Nat.le_of_ble_eq_true rfl)) (Nat.le_of_ble_eq_true rfl))
theorem hi_X5 {ρ : zR} (h : zhi ρ) : zhi (zPR_X5 ρ) := (zhi_Ru (zhi_Ro h (Nat.le_of_ble_eq_true rfl)) (Nat.le_of_ble_eq_true rfl))
def w_X5_init (σ : zS) (Q : Int32 → zS → Prop) : Prop := (zlet (zS0 σ 54) fun t1 => (w_X5_forget t1 fun _ t2 => Q 0 t2))
set_option maxHeartbeats 4000000 in
set_option maxRecDepth 100000 in
theorem c_X5_init {ρ : zR} (hz : zlt ρ 54) {σ : zS} {Q : Int32 → zS → Prop} (hw : w_X5_init  σ Q) : zAC yX5_init cX5_init 1 none { frames := 2, cells := 3, slots := 18, locals := 43 } [.ref 53] (zΓ.take 54) ρ σ (zN (zΓ.take 57) (zPR_X5 ρ) Q) := by
  refine z_entry (own := RX5) (ini := true) (plainFor_of_name pnX5) rfl (fun _ => rfl) (Nat.le_of_ble_eq_true rfl) ?_
  unfold w_X5_init at hw
  refine z_aload_n dX5_init_0 rfl rfl ?_
  refine z_objInit dX5_init_1 moX5_3 (Nat.le_of_ble_eq_true rfl) (Nat.le_of_ble_eq_true rfl) ?_
  refine z_aload_n dX5_init_4 rfl rfl ?_
  refine z_iconst dX5_init_5 zi2 ?_
  refine z_bipush dX5_init_6 zbp8 ?_
  refine z_mna (N := 2) (K := 8) dX5_init_8 zaI maX5_9 (by decide) (by decide) (by decide) (by decide) (by decide) (by decide) (by decide) (zfresh_of hz) (Nat.le_of_ble_eq_true rfl) ⟨(Or.inl (Nat.le_of_ble_eq_true rfl)), trivial⟩ ⟨(Or.inl (Nat.le_of_ble_eq_true rfl)), trivial⟩ (Nat.le_of_ble_eq_true rfl) (Nat.le_of_ble_eq_true rfl) ?_
  have hw := zlet_e hw
  refine z_gam (show (zΓ.take 54) ++ ((3, 2) :: List.replicate 2 (1, 8)) = (zΓ.take 57) from by decide) ?_
  have hz := zlt_Ro (k := 54) (N := 2) (zlt_up (M := 57) hz (Nat.le_of_ble_eq_true rfl)) (Nat.le_of_ble_eq_true rfl)
  refine z_stk (show _ = (.ref 54 : Value) :: _ from rfl) ?_
  refine z_putrF (t := 54) dX5_init_12 fX5_11 ⟨_, _, rfl⟩ rfl rfl zkX5_0 (fun _ => rfl) (fun _ => rfl) ?_
  have hz := zlt_Ru (r := 53) (k := 0) (t := 54) hz (Nat.le_of_ble_eq_true rfl)
  refine z_aload_n dX5_init_15 rfl rfl ?_
  refine z_callVv dX5_init_16 mX5_16 (cg_X5_forget (Γ := zΓ.take 57) (ρ := (zRu (zRo ρ 54 2) 53 0 (some 54))) rfl rfl (by decide) rfl (fun j hj => by simp [zRu, zRo, hj]) hw) rfl rfl rfl (Nat.le_of_ble_eq_true rfl) ⟨(Nat.le_of_ble_eq_true rfl), (Nat.le_of_ble_eq_true rfl)⟩ ⟨(Nat.le_of_ble_eq_true rfl), (Nat.le_of_ble_eq_true rfl)⟩ (fun _ hw => ?_)
  exact z_vret dX5_init_19 (Nat.le_of_ble_eq_true rfl) (Nat.le_of_ble_eq_true rfl) rfl ⟨rfl, rfl, hw⟩
def zPR_X3 (ρ : zR) : zR := (zRu (zR0 (zRu (zRo ρ 58 3) 57 0 (some 58)) 62) 57 1 (some 62))
theorem lt_X3 {ρ : zR} (h : zlt ρ 58) : zlt (zPR_X3 ρ) 63 := (zlt_Ru (zlt_up (M := 63) (zlt_R0 (k := 62) (zlt_Ru (zlt_Ro (zlt_up (M := 62) h (Nat.le_of_ble_eq_true rfl)) (Nat.le_of_ble_eq_true rfl)) (Nat.le_of_ble_eq_true rfl))) (Nat.le_of_ble_eq_true rfl)) (Nat.le_of_ble_eq_true rfl))
theorem hi_X3 {ρ : zR} (h : zhi ρ) : zhi (zPR_X3 ρ) := (zhi_Ru (zhi_R0 (zhi_Ru (zhi_Ro h (Nat.le_of_ble_eq_true rfl)) (Nat.le_of_ble_eq_true rfl))) (Nat.le_of_ble_eq_true rfl))
def w_X3_init (σ : zS) (Q : Int32 → zS → Prop) : Prop := (zlet (zS0 σ 58) fun t1 => (zlet (zS0 t1 62) fun t2 => Q 0 t2))
set_option maxHeartbeats 4000000 in
set_option maxRecDepth 100000 in
theorem c_X3_init {ρ : zR} (hz : zlt ρ 58) {σ : zS} {Q : Int32 → zS → Prop} (hw : w_X3_init  σ Q) : zAC yX3_init cX3_init 1 none { frames := 1, cells := 5, slots := 96, locals := 30 } [.ref 57] (zΓ.take 58) ρ σ (zN zΓ (zPR_X3 ρ) Q) := by
  refine z_entry (own := RX3) (ini := true) (plainFor_of_name pnX3) rfl (fun _ => rfl) (Nat.le_of_ble_eq_true rfl) ?_
  unfold w_X3_init at hw
  refine z_aload_n dX3_init_0 rfl rfl ?_
  refine z_objInit dX3_init_1 moX3_3 (Nat.le_of_ble_eq_true rfl) (Nat.le_of_ble_eq_true rfl) ?_
  refine z_aload_n dX3_init_4 rfl rfl ?_
  refine z_iconst dX3_init_5 zi3 ?_
  refine z_bipush dX3_init_6 zbp30 ?_
  refine z_mna (N := 3) (K := 30) dX3_init_8 zaI maX3_9 (by decide) (by decide) (by decide) (by decide) (by decide) (by decide) (by decide) (zfresh_of hz) (Nat.le_of_ble_eq_true rfl) ⟨(Or.inl (Nat.le_of_ble_eq_true rfl)), trivial⟩ ⟨(Or.inl (Nat.le_of_ble_eq_true rfl)), trivial⟩ (Nat.le_of_ble_eq_true rfl) (Nat.le_of_ble_eq_true rfl) ?_
  have hw := zlet_e hw
  refine z_gam (show (zΓ.take 58) ++ ((3, 3) :: List.replicate 3 (1, 30)) = (zΓ.take 62) from by decide) ?_
  have hz := zlt_Ro (k := 58) (N := 3) (zlt_up (M := 62) hz (Nat.le_of_ble_eq_true rfl)) (Nat.le_of_ble_eq_true rfl)
  refine z_stk (show _ = (.ref 58 : Value) :: _ from rfl) ?_
  refine z_putrF (t := 58) dX3_init_12 fX3_11 ⟨_, _, rfl⟩ rfl rfl zkX3_0 (fun _ => rfl) (fun _ => rfl) ?_
  have hz := zlt_Ru (r := 57) (k := 0) (t := 58) hz (Nat.le_of_ble_eq_true rfl)
  refine z_aload_n dX3_init_15 rfl rfl ?_
  refine z_iconst dX3_init_16 zi3 ?_
  refine z_newa (N := 3) dX3_init_17 zaI (by decide) (by decide) (by decide) (zfresh_of hz) (Nat.le_of_ble_eq_true rfl) ⟨(Or.inl (Nat.le_of_ble_eq_true rfl)), trivial⟩ ⟨(Or.inl (Nat.le_of_ble_eq_true rfl)), trivial⟩ (Nat.le_of_ble_eq_true rfl) (Nat.le_of_ble_eq_true rfl) ?_
  have hw := zlet_e hw
  refine z_gam (show (zΓ.take 62) ++ [(1, 3)] = zΓ from by decide) ?_
  have hz := zlt_up (M := 63) (zlt_R0 (k := 62) hz) (Nat.le_of_ble_eq_true rfl)
  refine z_stk (show _ = (.ref 62 : Value) :: _ from rfl) ?_
  refine z_putrF (t := 62) dX3_init_19 fX3_16 ⟨_, _, rfl⟩ rfl rfl zkX3_1 (fun _ => rfl) (fun _ => rfl) ?_
  have hz := zlt_Ru (r := 57) (k := 1) (t := 62) hz (Nat.le_of_ble_eq_true rfl)
  exact z_vret dX3_init_22 (Nat.le_of_ble_eq_true rfl) (Nat.le_of_ble_eq_true rfl) rfl ⟨rfl, rfl, hw⟩
def zρn : zR := fun _ _ => none
def w_X6_init (σ : zS) (Q : Int32 → zS → Prop) : Prop := (zlet (zS0 σ 1) fun t1 => (w_X4_init  t1 fun _ t2 => (zlet (zS0 t2 9) fun t3 => (w_X2_init (2 : Int32) (4 : Int32) (3 : Int32) t3 fun _ t4 => (zlet (zS0 t4 10) fun t5 => (w_X0_init_10 (1 : Int32) t5 fun _ t6 => (zlet (zS0 t6 30) fun t7 => (w_X0_init_30 (1 : Int32) t7 fun _ t8 => (zlet (zS0 t8 50) fun t9 => (w_X1_init  t9 fun _ t10 => (zlet (zS0 t10 53) fun t11 => (w_X5_init  t11 fun _ t12 => (zlet (zS0 t12 57) fun t13 => (w_X3_init  t13 fun _ t14 => Q 0 t14))))))))))))))
set_option maxHeartbeats 4000000 in
set_option maxRecDepth 100000 in
theorem c_X6_init {σ : zS} {Q : Int32 → zS → Prop} (hw : w_X6_init σ Q) : zAC yX6_init cX6_init 1 none { frames := 3, cells := 62, slots := 1253, locals := 63 } [.ref 0] (zΓ.take 1) zρn σ (zN zΓ (zρ 9) Q) := by
  refine z_entry (own := RX6) (ini := true) (plainFor_of_name pnX6) rfl (fun _ => rfl) (Nat.le_of_ble_eq_true rfl) ?_
  unfold w_X6_init at hw
  have hz : zlt zρn 1 := fun _ _ _ h => by cases h
  refine z_aload_n dX6_init_0 rfl rfl ?_
  refine z_objInit dX6_init_1 moX6_3 (Nat.le_of_ble_eq_true rfl) (Nat.le_of_ble_eq_true rfl) ?_
  refine z_aload_n dX6_init_4 rfl rfl ?_
  refine z_new dX6_init_5 nwX6_9 (zfresh_of hz) (Nat.le_of_ble_eq_true rfl) ⟨(Or.inl (Nat.le_of_ble_eq_true rfl)), trivial⟩ ⟨(Or.inl (Nat.le_of_ble_eq_true rfl)), trivial⟩ (Nat.le_of_ble_eq_true rfl) (Nat.le_of_ble_eq_true rfl) ?_
  have hw := zlet_e hw
  refine z_gam (show (zΓ.take 1) ++ [(0, 4)] = (zΓ.take 2) from by decide) ?_
  have hz := zlt_up (M := 2) (zlt_R0 (k := 1) hz) (Nat.le_of_ble_eq_true rfl)
  refine z_stk (show _ = (.ref 1 : Value) :: _ from rfl) ?_
  refine z_dup dX6_init_8 rfl ?_
  refine z_callIN dX6_init_9 miX6_11 (c_X4_init hz hw) (Nat.le_of_ble_eq_true rfl) (Nat.le_of_ble_eq_true rfl) ⟨(Or.inl (Nat.le_of_ble_eq_true rfl)), trivial⟩ rfl rfl ⟨(Or.inl (Nat.le_of_ble_eq_true rfl)), (Or.inl (Nat.le_of_ble_eq_true rfl)), trivial⟩ (Nat.le_of_ble_eq_true rfl) ⟨(Nat.le_of_ble_eq_true rfl), (Nat.le_of_ble_eq_true rfl)⟩ ⟨(Nat.le_of_ble_eq_true rfl), (Nat.le_of_ble_eq_true rfl)⟩ (fun _ hw => ?_)
  have hz := lt_X4 hz
  refine z_putrF (t := 1) dX6_init_12 fX6_12 ⟨_, _, rfl⟩ rfl rfl zkX6_0 (fun _ => rfl) (fun _ => rfl) ?_
  have hz := zlt_Ru (r := 0) (k := 0) (t := 1) hz (Nat.le_of_ble_eq_true rfl)
  refine z_aload_n dX6_init_15 rfl rfl ?_
  refine z_new dX6_init_16 nwX6_16 (zfresh_of hz) (Nat.le_of_ble_eq_true rfl) ⟨(Or.inl (Nat.le_of_ble_eq_true rfl)), trivial⟩ ⟨(Or.inl (Nat.le_of_ble_eq_true rfl)), trivial⟩ (Nat.le_of_ble_eq_true rfl) (Nat.le_of_ble_eq_true rfl) ?_
  have hw := zlet_e hw
  refine z_gam (show (zΓ.take 9) ++ [(0, 2)] = (zΓ.take 10) from by decide) ?_
  have hz := zlt_up (M := 10) (zlt_R0 (k := 9) hz) (Nat.le_of_ble_eq_true rfl)
  refine z_stk (show _ = (.ref 9 : Value) :: _ from rfl) ?_
  refine z_dup dX6_init_19 rfl ?_
  refine z_iconst dX6_init_20 zi2 ?_
  refine z_iconst dX6_init_21 zi4 ?_
  refine z_iconst dX6_init_22 zi3 ?_
  refine z_callI dX6_init_23 miX6_18 (c_X2_init hz hw) (Nat.le_of_ble_eq_true rfl) (Nat.le_of_ble_eq_true rfl) ⟨(Or.inl (Nat.le_of_ble_eq_true rfl)), trivial⟩ rfl rfl ⟨(Or.inl (Nat.le_of_ble_eq_true rfl)), (Or.inl (Nat.le_of_ble_eq_true rfl)), trivial⟩ (Nat.le_of_ble_eq_true rfl) ⟨(Nat.le_of_ble_eq_true rfl), (Nat.le_of_ble_eq_true rfl)⟩ ⟨(Nat.le_of_ble_eq_true rfl), (Nat.le_of_ble_eq_true rfl)⟩ (fun _ hw => ?_)
  have hz := lt_X2 hz
  refine z_putr (t := 9) dX6_init_26 fX6_21 rfl zkX6_6 (fun _ => rfl) (fun _ => rfl) ?_
  have hz := zlt_Ru (r := 0) (k := 6) (t := 9) hz (Nat.le_of_ble_eq_true rfl)
  refine z_aload_n dX6_init_29 rfl rfl ?_
  refine z_new dX6_init_30 nwX6_25 (zfresh_of hz) (Nat.le_of_ble_eq_true rfl) ⟨(Or.inl (Nat.le_of_ble_eq_true rfl)), trivial⟩ ⟨(Or.inl (Nat.le_of_ble_eq_true rfl)), trivial⟩ (Nat.le_of_ble_eq_true rfl) (Nat.le_of_ble_eq_true rfl) ?_
  have hw := zlet_e hw
  refine z_gam (show (zΓ.take 10) ++ [(0, 0)] = (zΓ.take 11) from by decide) ?_
  have hz := zlt_up (M := 11) (zlt_R0 (k := 10) hz) (Nat.le_of_ble_eq_true rfl)
  refine z_stk (show _ = (.ref 10 : Value) :: _ from rfl) ?_
  refine z_dup dX6_init_33 rfl ?_
  refine z_aload_n dX6_init_34 rfl rfl ?_
  refine z_getr (t := 1) dX6_init_35 fX6_12 rfl zkX6_0 rfl ?_
  refine z_aload_n dX6_init_38 rfl rfl ?_
  refine z_getr (t := 9) dX6_init_39 fX6_21 rfl zkX6_6 rfl ?_
  refine z_iconst dX6_init_42 zi1 ?_
  refine z_callI dX6_init_43 miX6_27 (c_X0_init_10 hz hw) (Nat.le_of_ble_eq_true rfl) (Nat.le_of_ble_eq_true rfl) ⟨(Or.inl (Nat.le_of_ble_eq_true rfl)), trivial⟩ rfl rfl ⟨(Or.inl (Nat.le_of_ble_eq_true rfl)), (Or.inl (Nat.le_of_ble_eq_true rfl)), trivial⟩ (Nat.le_of_ble_eq_true rfl) ⟨(Nat.le_of_ble_eq_true rfl), (Nat.le_of_ble_eq_true rfl)⟩ ⟨(Nat.le_of_ble_eq_true rfl), (Nat.le_of_ble_eq_true rfl)⟩ (fun _ hw => ?_)
  have hz := lt_X0_10 hz
  refine z_putrF (t := 10) dX6_init_46 fX6_30 ⟨_, _, rfl⟩ rfl rfl zkX6_1 (fun _ => rfl) (fun _ => rfl) ?_
  have hz := zlt_Ru (r := 0) (k := 1) (t := 10) hz (Nat.le_of_ble_eq_true rfl)
  refine z_aload_n dX6_init_49 rfl rfl ?_
  refine z_new dX6_init_50 nwX6_25 (zfresh_of hz) (Nat.le_of_ble_eq_true rfl) ⟨(Or.inl (Nat.le_of_ble_eq_true rfl)), trivial⟩ ⟨(Or.inl (Nat.le_of_ble_eq_true rfl)), trivial⟩ (Nat.le_of_ble_eq_true rfl) (Nat.le_of_ble_eq_true rfl) ?_
  have hw := zlet_e hw
  refine z_gam (show (zΓ.take 30) ++ [(0, 0)] = (zΓ.take 31) from by decide) ?_
  have hz := zlt_up (M := 31) (zlt_R0 (k := 30) hz) (Nat.le_of_ble_eq_true rfl)
  refine z_stk (show _ = (.ref 30 : Value) :: _ from rfl) ?_
  refine z_dup dX6_init_53 rfl ?_
  refine z_aload_n dX6_init_54 rfl rfl ?_
  refine z_getr (t := 1) dX6_init_55 fX6_12 rfl zkX6_0 rfl ?_
  refine z_aload_n dX6_init_58 rfl rfl ?_
  refine z_getr (t := 9) dX6_init_59 fX6_21 rfl zkX6_6 rfl ?_
  refine z_iconst dX6_init_62 zi1 ?_
  refine z_callI dX6_init_63 miX6_27 (c_X0_init_30 hz hw) (Nat.le_of_ble_eq_true rfl) (Nat.le_of_ble_eq_true rfl) ⟨(Or.inl (Nat.le_of_ble_eq_true rfl)), trivial⟩ rfl rfl ⟨(Or.inl (Nat.le_of_ble_eq_true rfl)), (Or.inl (Nat.le_of_ble_eq_true rfl)), trivial⟩ (Nat.le_of_ble_eq_true rfl) ⟨(Nat.le_of_ble_eq_true rfl), (Nat.le_of_ble_eq_true rfl)⟩ ⟨(Nat.le_of_ble_eq_true rfl), (Nat.le_of_ble_eq_true rfl)⟩ (fun _ hw => ?_)
  have hz := lt_X0_30 hz
  refine z_putrF (t := 30) dX6_init_66 fX6_34 ⟨_, _, rfl⟩ rfl rfl zkX6_2 (fun _ => rfl) (fun _ => rfl) ?_
  have hz := zlt_Ru (r := 0) (k := 2) (t := 30) hz (Nat.le_of_ble_eq_true rfl)
  refine z_aload_n dX6_init_69 rfl rfl ?_
  refine z_new dX6_init_70 nwX6_37 (zfresh_of hz) (Nat.le_of_ble_eq_true rfl) ⟨(Or.inl (Nat.le_of_ble_eq_true rfl)), trivial⟩ ⟨(Or.inl (Nat.le_of_ble_eq_true rfl)), trivial⟩ (Nat.le_of_ble_eq_true rfl) (Nat.le_of_ble_eq_true rfl) ?_
  have hw := zlet_e hw
  refine z_gam (show (zΓ.take 50) ++ [(0, 1)] = (zΓ.take 51) from by decide) ?_
  have hz := zlt_up (M := 51) (zlt_R0 (k := 50) hz) (Nat.le_of_ble_eq_true rfl)
  refine z_stk (show _ = (.ref 50 : Value) :: _ from rfl) ?_
  refine z_dup dX6_init_73 rfl ?_
  refine z_callIN dX6_init_74 miX6_39 (c_X1_init hz hw) (Nat.le_of_ble_eq_true rfl) (Nat.le_of_ble_eq_true rfl) ⟨(Or.inl (Nat.le_of_ble_eq_true rfl)), trivial⟩ rfl rfl ⟨(Or.inl (Nat.le_of_ble_eq_true rfl)), (Or.inl (Nat.le_of_ble_eq_true rfl)), trivial⟩ (Nat.le_of_ble_eq_true rfl) ⟨(Nat.le_of_ble_eq_true rfl), (Nat.le_of_ble_eq_true rfl)⟩ ⟨(Nat.le_of_ble_eq_true rfl), (Nat.le_of_ble_eq_true rfl)⟩ (fun _ hw => ?_)
  have hz := lt_X1 hz
  refine z_putrF (t := 50) dX6_init_77 fX6_40 ⟨_, _, rfl⟩ rfl rfl zkX6_3 (fun _ => rfl) (fun _ => rfl) ?_
  have hz := zlt_Ru (r := 0) (k := 3) (t := 50) hz (Nat.le_of_ble_eq_true rfl)
  refine z_aload_n dX6_init_80 rfl rfl ?_
  refine z_new dX6_init_81 nwX6_44 (zfresh_of hz) (Nat.le_of_ble_eq_true rfl) ⟨(Or.inl (Nat.le_of_ble_eq_true rfl)), trivial⟩ ⟨(Or.inl (Nat.le_of_ble_eq_true rfl)), trivial⟩ (Nat.le_of_ble_eq_true rfl) (Nat.le_of_ble_eq_true rfl) ?_
  have hw := zlet_e hw
  refine z_gam (show (zΓ.take 53) ++ [(0, 5)] = (zΓ.take 54) from by decide) ?_
  have hz := zlt_up (M := 54) (zlt_R0 (k := 53) hz) (Nat.le_of_ble_eq_true rfl)
  refine z_stk (show _ = (.ref 53 : Value) :: _ from rfl) ?_
  refine z_dup dX6_init_84 rfl ?_
  refine z_callI dX6_init_85 miX6_46 (c_X5_init hz hw) (Nat.le_of_ble_eq_true rfl) (Nat.le_of_ble_eq_true rfl) ⟨(Or.inl (Nat.le_of_ble_eq_true rfl)), trivial⟩ rfl rfl ⟨(Or.inl (Nat.le_of_ble_eq_true rfl)), (Or.inl (Nat.le_of_ble_eq_true rfl)), trivial⟩ (Nat.le_of_ble_eq_true rfl) ⟨(Nat.le_of_ble_eq_true rfl), (Nat.le_of_ble_eq_true rfl)⟩ ⟨(Nat.le_of_ble_eq_true rfl), (Nat.le_of_ble_eq_true rfl)⟩ (fun _ hw => ?_)
  have hz := lt_X5 hz
  refine z_putrF (t := 53) dX6_init_88 fX6_47 ⟨_, _, rfl⟩ rfl rfl zkX6_4 (fun _ => rfl) (fun _ => rfl) ?_
  have hz := zlt_Ru (r := 0) (k := 4) (t := 53) hz (Nat.le_of_ble_eq_true rfl)
  refine z_aload_n dX6_init_91 rfl rfl ?_
  refine z_new dX6_init_92 nwX6_51 (zfresh_of hz) (Nat.le_of_ble_eq_true rfl) ⟨(Or.inl (Nat.le_of_ble_eq_true rfl)), trivial⟩ ⟨(Or.inl (Nat.le_of_ble_eq_true rfl)), trivial⟩ (Nat.le_of_ble_eq_true rfl) (Nat.le_of_ble_eq_true rfl) ?_
  have hw := zlet_e hw
  refine z_gam (show (zΓ.take 57) ++ [(0, 3)] = (zΓ.take 58) from by decide) ?_
  have hz := zlt_up (M := 58) (zlt_R0 (k := 57) hz) (Nat.le_of_ble_eq_true rfl)
  refine z_stk (show _ = (.ref 57 : Value) :: _ from rfl) ?_
  refine z_dup dX6_init_95 rfl ?_
  refine z_callIN dX6_init_96 miX6_53 (c_X3_init hz hw) (Nat.le_of_ble_eq_true rfl) (Nat.le_of_ble_eq_true rfl) ⟨(Or.inl (Nat.le_of_ble_eq_true rfl)), trivial⟩ rfl rfl ⟨(Or.inl (Nat.le_of_ble_eq_true rfl)), (Or.inl (Nat.le_of_ble_eq_true rfl)), trivial⟩ (Nat.le_of_ble_eq_true rfl) ⟨(Nat.le_of_ble_eq_true rfl), (Nat.le_of_ble_eq_true rfl)⟩ ⟨(Nat.le_of_ble_eq_true rfl), (Nat.le_of_ble_eq_true rfl)⟩ (fun _ hw => ?_)
  have hz := lt_X3 hz
  refine z_putrF (t := 57) dX6_init_99 fX6_54 ⟨_, _, rfl⟩ rfl rfl zkX6_5 (fun _ => rfl) (fun _ => rfl) ?_
  have hz := zlt_Ru (r := 0) (k := 5) (t := 57) hz (Nat.le_of_ble_eq_true rfl)
  refine z_rhoc (ρ2 := zρ 9) (by decide +kernel) (zhi_Ru (hi_X3 (zhi_R0 (zhi_Ru (hi_X5 (zhi_R0 (zhi_Ru (hi_X1 (zhi_R0 (zhi_Ru (hi_X0_30 (zhi_R0 (zhi_Ru (hi_X0_10 (zhi_R0 (zhi_Ru (hi_X2 (zhi_R0 (zhi_Ru (hi_X4 (zhi_R0 zhi_0)) (Nat.le_of_ble_eq_true rfl)))) (Nat.le_of_ble_eq_true rfl)))) (Nat.le_of_ble_eq_true rfl)))) (Nat.le_of_ble_eq_true rfl)))) (Nat.le_of_ble_eq_true rfl)))) (Nat.le_of_ble_eq_true rfl)))) (Nat.le_of_ble_eq_true rfl)) zhi_ρ ?_
  exact z_vret dX6_init_102 (Nat.le_of_ble_eq_true rfl) (Nat.le_of_ble_eq_true rfl) rfl ⟨rfl, rfl, hw⟩
def w_X7_init_L132 (Q : Int32 → zS → Prop) : Nat → Int32 → zS → Prop
  | 0, _, _ => False
  | n + 1, x1, σ => (((16 : Int32) ≤ x1 → Q 0 σ) ∧ (¬ ((16 : Int32) ≤ x1) → (vp_in x1 16 ∧ zlet (zA σ 10 x1.toNatClampNeg (-1 : Int32)) fun t1 => (fun a1 aσ => w_X7_init_L132 Q n a1 aσ) ((x1 + (1 : Int32))) t1)))
set_option maxHeartbeats 4000000 in
set_option maxRecDepth 100000 in
theorem l_X7_init_132 {Q : Int32 → zS → Prop} : ∀ (n : Nat) (x1 : Int32) (σ : zS), w_X7_init_L132 Q n x1 σ → zAW RX7 cX7_init 2 none true { frames := 2, cells := 12, slots := 1097, locals := 43 } 1 (zN zΓM zρM Q) 132 [(0, .ref 0), (1, .int x1)] [] zΓM zρM σ 12 1097 := by
  intro n
  induction n with
  | zero => intro x1 σ hw; exact hw.elim
  | succ n hK132 =>
    intro x1 σ hw
    rw [w_X7_init_L132] at hw
    refine z_iload_n dX7_init_132 rfl rfl ?_
    refine z_bipush dX7_init_133 zbp16 ?_
    refine z_icmp_ge dX7_init_135 hw (fun hw => ?_) (fun hw => ?_)
    · exact z_vret dX7_init_151 (Nat.le_refl _) (Nat.le_refl _) rfl ⟨rfl, rfl, hw⟩
    · refine z_aload_n dX7_init_138 rfl rfl ?_
      refine z_getr dX7_init_139 fX7_53 zm0 zkX7_15 zrM15 ?_
      refine z_iload_n dX7_init_142 rfl rfl ?_
      refine z_iconst dX7_init_143 zim1 ?_
      refine z_iastL dX7_init_144 zm10 hw (fun hw => ?_)
      refine z_iinc dX7_init_145 rfl zi1 (Nat.le_of_ble_eq_true rfl) ?_
      refine z_goto dX7_init_148 ?_
      exact z_to (hK132 _ _ hw) ⟨rfl, rfl, trivial⟩
def w_X7_init (σ : zS) (Q : Int32 → zS → Prop) : Prop := (zlet (zI σ 0 0 (2 : Int32)) fun t1 => (zlet (zI t1 0 1 (4 : Int32)) fun t2 => (zlet (zI t2 0 2 (3 : Int32)) fun t3 => (zlet (zI t3 0 3 (1 : Int32)) fun t4 => (zlet (zI t4 0 4 (-1 : Int32)) fun t5 => (zlet (zS0 t5 1) fun t6 => (zlet (zS0 t6 2) fun t7 => (zlet (zS0 t7 3) fun t8 => (zlet (zS0 t8 4) fun t9 => (zlet (zS0 t9 5) fun t10 => (zlet (zS0 t10 6) fun t11 => (zlet (zS0 t11 7) fun t12 => (zlet (zS0 t12 8) fun t13 => (zlet (zS0 t13 9) fun t14 => (zlet (zS0 t14 10) fun t15 => (zlet (zS0 t15 11) fun t16 => (zlet (zS0 t16 12) fun t17 => (w_X7_begins t17 fun _ t18 => ∃ m132, w_X7_init_L132 Q  m132 ((0 : Int32)) t18))))))))))))))))))
set_option maxHeartbeats 4000000 in
set_option maxRecDepth 100000 in
theorem c_X7_init {σ : zS} {Q : Int32 → zS → Prop} (hw : w_X7_init σ Q) : zAC yX7_init cX7_init 2 none { frames := 2, cells := 12, slots := 1097, locals := 43 } [.ref 0] (zΓM.take 1) zρn σ (zN zΓM zρM Q) := by
  refine z_entry (own := RX7) (ini := true) (plainFor_of_name pnX7) rfl (fun _ => rfl) (Nat.le_of_ble_eq_true rfl) ?_
  unfold w_X7_init at hw
  have hz : zlt zρn 1 := fun _ _ _ h => by cases h
  refine z_aload_n dX7_init_0 rfl rfl ?_
  refine z_objInit dX7_init_1 moX7_1 (Nat.le_of_ble_eq_true rfl) (Nat.le_of_ble_eq_true rfl) ?_
  refine z_aload_n dX7_init_4 rfl rfl ?_
  refine z_iconst dX7_init_5 zi2 ?_
  refine z_putiL dX7_init_6 fX7_7 rfl zkX7_0 hw (fun hw => ?_)
  refine z_aload_n dX7_init_9 rfl rfl ?_
  refine z_iconst dX7_init_10 zi4 ?_
  refine z_putiL dX7_init_11 fX7_13 rfl zkX7_1 hw (fun hw => ?_)
  refine z_aload_n dX7_init_14 rfl rfl ?_
  refine z_iconst dX7_init_15 zi3 ?_
  refine z_putiL dX7_init_16 fX7_16 rfl zkX7_2 hw (fun hw => ?_)
  refine z_aload_n dX7_init_19 rfl rfl ?_
  refine z_iconst dX7_init_20 zi1 ?_
  refine z_putiL dX7_init_21 fX7_19 rfl zkX7_3 hw (fun hw => ?_)
  refine z_aload_n dX7_init_24 rfl rfl ?_
  refine z_iconst dX7_init_25 zim1 ?_
  refine z_putiL dX7_init_26 fX7_22 rfl zkX7_4 hw (fun hw => ?_)
  refine z_aload_n dX7_init_29 rfl rfl ?_
  refine z_bipush dX7_init_30 zbp30 ?_
  refine z_newa (N := 30) dX7_init_32 zaI (by decide) (by decide) (by decide) (zfresh_of hz) (Nat.le_of_ble_eq_true rfl) ⟨(Or.inl (Nat.le_of_ble_eq_true rfl)), trivial⟩ ⟨(Or.inl (Nat.le_of_ble_eq_true rfl)), trivial⟩ (Nat.le_of_ble_eq_true rfl) (Nat.le_of_ble_eq_true rfl) ?_
  have hw := zlet_e hw
  refine z_gam (show (zΓM.take 1) ++ [(1, 30)] = (zΓM.take 2) from by decide) ?_
  have hz := zlt_up (M := 2) (zlt_R0 (k := 1) hz) (Nat.le_of_ble_eq_true rfl)
  refine z_stk (show _ = (.ref 1 : Value) :: _ from rfl) ?_
  refine z_putrF (t := 1) dX7_init_34 fX7_25 ⟨_, _, rfl⟩ rfl rfl zkX7_6 (fun _ => rfl) (fun _ => rfl) ?_
  have hz := zlt_Ru (r := 0) (k := 6) (t := 1) hz (Nat.le_of_ble_eq_true rfl)
  refine z_aload_n dX7_init_37 rfl rfl ?_
  refine z_bipush dX7_init_38 zbp30 ?_
  refine z_newa (N := 30) dX7_init_40 zaI (by decide) (by decide) (by decide) (zfresh_of hz) (Nat.le_of_ble_eq_true rfl) ⟨(Or.inl (Nat.le_of_ble_eq_true rfl)), trivial⟩ ⟨(Or.inl (Nat.le_of_ble_eq_true rfl)), trivial⟩ (Nat.le_of_ble_eq_true rfl) (Nat.le_of_ble_eq_true rfl) ?_
  have hw := zlet_e hw
  refine z_gam (show (zΓM.take 2) ++ [(1, 30)] = (zΓM.take 3) from by decide) ?_
  have hz := zlt_up (M := 3) (zlt_R0 (k := 2) hz) (Nat.le_of_ble_eq_true rfl)
  refine z_stk (show _ = (.ref 2 : Value) :: _ from rfl) ?_
  refine z_putrF (t := 2) dX7_init_42 fX7_29 ⟨_, _, rfl⟩ rfl rfl zkX7_7 (fun _ => rfl) (fun _ => rfl) ?_
  have hz := zlt_Ru (r := 0) (k := 7) (t := 2) hz (Nat.le_of_ble_eq_true rfl)
  refine z_aload_n dX7_init_45 rfl rfl ?_
  refine z_bipush dX7_init_46 zbp30 ?_
  refine z_newa (N := 30) dX7_init_48 zaI (by decide) (by decide) (by decide) (zfresh_of hz) (Nat.le_of_ble_eq_true rfl) ⟨(Or.inl (Nat.le_of_ble_eq_true rfl)), trivial⟩ ⟨(Or.inl (Nat.le_of_ble_eq_true rfl)), trivial⟩ (Nat.le_of_ble_eq_true rfl) (Nat.le_of_ble_eq_true rfl) ?_
  have hw := zlet_e hw
  refine z_gam (show (zΓM.take 3) ++ [(1, 30)] = (zΓM.take 4) from by decide) ?_
  have hz := zlt_up (M := 4) (zlt_R0 (k := 3) hz) (Nat.le_of_ble_eq_true rfl)
  refine z_stk (show _ = (.ref 3 : Value) :: _ from rfl) ?_
  refine z_putrF (t := 3) dX7_init_50 fX7_32 ⟨_, _, rfl⟩ rfl rfl zkX7_8 (fun _ => rfl) (fun _ => rfl) ?_
  have hz := zlt_Ru (r := 0) (k := 8) (t := 3) hz (Nat.le_of_ble_eq_true rfl)
  refine z_aload_n dX7_init_53 rfl rfl ?_
  refine z_bipush dX7_init_54 zbp30 ?_
  refine z_newa (N := 30) dX7_init_56 zaI (by decide) (by decide) (by decide) (zfresh_of hz) (Nat.le_of_ble_eq_true rfl) ⟨(Or.inl (Nat.le_of_ble_eq_true rfl)), trivial⟩ ⟨(Or.inl (Nat.le_of_ble_eq_true rfl)), trivial⟩ (Nat.le_of_ble_eq_true rfl) (Nat.le_of_ble_eq_true rfl) ?_
  have hw := zlet_e hw
  refine z_gam (show (zΓM.take 4) ++ [(1, 30)] = (zΓM.take 5) from by decide) ?_
  have hz := zlt_up (M := 5) (zlt_R0 (k := 4) hz) (Nat.le_of_ble_eq_true rfl)
  refine z_stk (show _ = (.ref 4 : Value) :: _ from rfl) ?_
  refine z_putrF (t := 4) dX7_init_58 fX7_35 ⟨_, _, rfl⟩ rfl rfl zkX7_9 (fun _ => rfl) (fun _ => rfl) ?_
  have hz := zlt_Ru (r := 0) (k := 9) (t := 4) hz (Nat.le_of_ble_eq_true rfl)
  refine z_aload_n dX7_init_61 rfl rfl ?_
  refine z_bipush dX7_init_62 zbp30 ?_
  refine z_newa (N := 30) dX7_init_64 zaI (by decide) (by decide) (by decide) (zfresh_of hz) (Nat.le_of_ble_eq_true rfl) ⟨(Or.inl (Nat.le_of_ble_eq_true rfl)), trivial⟩ ⟨(Or.inl (Nat.le_of_ble_eq_true rfl)), trivial⟩ (Nat.le_of_ble_eq_true rfl) (Nat.le_of_ble_eq_true rfl) ?_
  have hw := zlet_e hw
  refine z_gam (show (zΓM.take 5) ++ [(1, 30)] = (zΓM.take 6) from by decide) ?_
  have hz := zlt_up (M := 6) (zlt_R0 (k := 5) hz) (Nat.le_of_ble_eq_true rfl)
  refine z_stk (show _ = (.ref 5 : Value) :: _ from rfl) ?_
  refine z_putrF (t := 5) dX7_init_66 fX7_38 ⟨_, _, rfl⟩ rfl rfl zkX7_10 (fun _ => rfl) (fun _ => rfl) ?_
  have hz := zlt_Ru (r := 0) (k := 10) (t := 5) hz (Nat.le_of_ble_eq_true rfl)
  refine z_aload_n dX7_init_69 rfl rfl ?_
  refine z_bipush dX7_init_70 zbp30 ?_
  refine z_newa (N := 30) dX7_init_72 zaI (by decide) (by decide) (by decide) (zfresh_of hz) (Nat.le_of_ble_eq_true rfl) ⟨(Or.inl (Nat.le_of_ble_eq_true rfl)), trivial⟩ ⟨(Or.inl (Nat.le_of_ble_eq_true rfl)), trivial⟩ (Nat.le_of_ble_eq_true rfl) (Nat.le_of_ble_eq_true rfl) ?_
  have hw := zlet_e hw
  refine z_gam (show (zΓM.take 6) ++ [(1, 30)] = (zΓM.take 7) from by decide) ?_
  have hz := zlt_up (M := 7) (zlt_R0 (k := 6) hz) (Nat.le_of_ble_eq_true rfl)
  refine z_stk (show _ = (.ref 6 : Value) :: _ from rfl) ?_
  refine z_putrF (t := 6) dX7_init_74 fX7_41 ⟨_, _, rfl⟩ rfl rfl zkX7_11 (fun _ => rfl) (fun _ => rfl) ?_
  have hz := zlt_Ru (r := 0) (k := 11) (t := 6) hz (Nat.le_of_ble_eq_true rfl)
  refine z_aload_n dX7_init_77 rfl rfl ?_
  refine z_bipush dX7_init_78 zbp30 ?_
  refine z_newa (N := 30) dX7_init_80 zaI (by decide) (by decide) (by decide) (zfresh_of hz) (Nat.le_of_ble_eq_true rfl) ⟨(Or.inl (Nat.le_of_ble_eq_true rfl)), trivial⟩ ⟨(Or.inl (Nat.le_of_ble_eq_true rfl)), trivial⟩ (Nat.le_of_ble_eq_true rfl) (Nat.le_of_ble_eq_true rfl) ?_
  have hw := zlet_e hw
  refine z_gam (show (zΓM.take 7) ++ [(1, 30)] = (zΓM.take 8) from by decide) ?_
  have hz := zlt_up (M := 8) (zlt_R0 (k := 7) hz) (Nat.le_of_ble_eq_true rfl)
  refine z_stk (show _ = (.ref 7 : Value) :: _ from rfl) ?_
  refine z_putrF (t := 7) dX7_init_82 fX7_44 ⟨_, _, rfl⟩ rfl rfl zkX7_12 (fun _ => rfl) (fun _ => rfl) ?_
  have hz := zlt_Ru (r := 0) (k := 12) (t := 7) hz (Nat.le_of_ble_eq_true rfl)
  refine z_aload_n dX7_init_85 rfl rfl ?_
  refine z_sipush dX7_init_86 zsp389 ?_
  refine z_newa (N := 389) dX7_init_89 zaI (by decide) (by decide) (by decide) (zfresh_of hz) (Nat.le_of_ble_eq_true rfl) ⟨(Or.inl (Nat.le_of_ble_eq_true rfl)), trivial⟩ ⟨(Or.inl (Nat.le_of_ble_eq_true rfl)), trivial⟩ (Nat.le_of_ble_eq_true rfl) (Nat.le_of_ble_eq_true rfl) ?_
  have hw := zlet_e hw
  refine z_gam (show (zΓM.take 8) ++ [(1, 389)] = (zΓM.take 9) from by decide) ?_
  have hz := zlt_up (M := 9) (zlt_R0 (k := 8) hz) (Nat.le_of_ble_eq_true rfl)
  refine z_stk (show _ = (.ref 8 : Value) :: _ from rfl) ?_
  refine z_putrF (t := 8) dX7_init_91 fX7_47 ⟨_, _, rfl⟩ rfl rfl zkX7_13 (fun _ => rfl) (fun _ => rfl) ?_
  have hz := zlt_Ru (r := 0) (k := 13) (t := 8) hz (Nat.le_of_ble_eq_true rfl)
  refine z_aload_n dX7_init_94 rfl rfl ?_
  refine z_sipush dX7_init_95 zsp389 ?_
  refine z_newa (N := 389) dX7_init_98 zaI (by decide) (by decide) (by decide) (zfresh_of hz) (Nat.le_of_ble_eq_true rfl) ⟨(Or.inl (Nat.le_of_ble_eq_true rfl)), trivial⟩ ⟨(Or.inl (Nat.le_of_ble_eq_true rfl)), trivial⟩ (Nat.le_of_ble_eq_true rfl) (Nat.le_of_ble_eq_true rfl) ?_
  have hw := zlet_e hw
  refine z_gam (show (zΓM.take 9) ++ [(1, 389)] = (zΓM.take 10) from by decide) ?_
  have hz := zlt_up (M := 10) (zlt_R0 (k := 9) hz) (Nat.le_of_ble_eq_true rfl)
  refine z_stk (show _ = (.ref 9 : Value) :: _ from rfl) ?_
  refine z_putrF (t := 9) dX7_init_100 fX7_50 ⟨_, _, rfl⟩ rfl rfl zkX7_14 (fun _ => rfl) (fun _ => rfl) ?_
  have hz := zlt_Ru (r := 0) (k := 14) (t := 9) hz (Nat.le_of_ble_eq_true rfl)
  refine z_aload_n dX7_init_103 rfl rfl ?_
  refine z_bipush dX7_init_104 zbp16 ?_
  refine z_newa (N := 16) dX7_init_106 zaI (by decide) (by decide) (by decide) (zfresh_of hz) (Nat.le_of_ble_eq_true rfl) ⟨(Or.inl (Nat.le_of_ble_eq_true rfl)), trivial⟩ ⟨(Or.inl (Nat.le_of_ble_eq_true rfl)), trivial⟩ (Nat.le_of_ble_eq_true rfl) (Nat.le_of_ble_eq_true rfl) ?_
  have hw := zlet_e hw
  refine z_gam (show (zΓM.take 10) ++ [(1, 16)] = (zΓM.take 11) from by decide) ?_
  have hz := zlt_up (M := 11) (zlt_R0 (k := 10) hz) (Nat.le_of_ble_eq_true rfl)
  refine z_stk (show _ = (.ref 10 : Value) :: _ from rfl) ?_
  refine z_putrF (t := 10) dX7_init_108 fX7_53 ⟨_, _, rfl⟩ rfl rfl zkX7_15 (fun _ => rfl) (fun _ => rfl) ?_
  have hz := zlt_Ru (r := 0) (k := 15) (t := 10) hz (Nat.le_of_ble_eq_true rfl)
  refine z_aload_n dX7_init_111 rfl rfl ?_
  refine z_iconst dX7_init_112 zi3 ?_
  refine z_newa (N := 3) dX7_init_113 zaI (by decide) (by decide) (by decide) (zfresh_of hz) (Nat.le_of_ble_eq_true rfl) ⟨(Or.inl (Nat.le_of_ble_eq_true rfl)), trivial⟩ ⟨(Or.inl (Nat.le_of_ble_eq_true rfl)), trivial⟩ (Nat.le_of_ble_eq_true rfl) (Nat.le_of_ble_eq_true rfl) ?_
  have hw := zlet_e hw
  refine z_gam (show (zΓM.take 11) ++ [(1, 3)] = (zΓM.take 12) from by decide) ?_
  have hz := zlt_up (M := 12) (zlt_R0 (k := 11) hz) (Nat.le_of_ble_eq_true rfl)
  refine z_stk (show _ = (.ref 11 : Value) :: _ from rfl) ?_
  refine z_putrF (t := 11) dX7_init_115 fX7_56 ⟨_, _, rfl⟩ rfl rfl zkX7_17 (fun _ => rfl) (fun _ => rfl) ?_
  have hz := zlt_Ru (r := 0) (k := 17) (t := 11) hz (Nat.le_of_ble_eq_true rfl)
  refine z_aload_n dX7_init_118 rfl rfl ?_
  refine z_bipush dX7_init_119 zbp90 ?_
  refine z_newa (N := 90) dX7_init_121 zaI (by decide) (by decide) (by decide) (zfresh_of hz) (Nat.le_of_ble_eq_true rfl) ⟨(Or.inl (Nat.le_of_ble_eq_true rfl)), trivial⟩ ⟨(Or.inl (Nat.le_of_ble_eq_true rfl)), trivial⟩ (Nat.le_of_ble_eq_true rfl) (Nat.le_of_ble_eq_true rfl) ?_
  have hw := zlet_e hw
  refine z_gam (show (zΓM.take 12) ++ [(1, 90)] = zΓM from by decide) ?_
  have hz := zlt_up (M := 13) (zlt_R0 (k := 12) hz) (Nat.le_of_ble_eq_true rfl)
  refine z_stk (show _ = (.ref 12 : Value) :: _ from rfl) ?_
  refine z_putrF (t := 12) dX7_init_123 fX7_59 ⟨_, _, rfl⟩ rfl rfl zkX7_18 (fun _ => rfl) (fun _ => rfl) ?_
  have hz := zlt_Ru (r := 0) (k := 18) (t := 12) hz (Nat.le_of_ble_eq_true rfl)
  refine z_aload_n dX7_init_126 rfl rfl ?_
  refine z_rhoc (ρ2 := zρM) (by decide +kernel) (zhi_Ru (zhi_R0 (zhi_Ru (zhi_R0 (zhi_Ru (zhi_R0 (zhi_Ru (zhi_R0 (zhi_Ru (zhi_R0 (zhi_Ru (zhi_R0 (zhi_Ru (zhi_R0 (zhi_Ru (zhi_R0 (zhi_Ru (zhi_R0 (zhi_Ru (zhi_R0 (zhi_Ru (zhi_R0 (zhi_Ru (zhi_R0 zhi_0) (Nat.le_of_ble_eq_true rfl))) (Nat.le_of_ble_eq_true rfl))) (Nat.le_of_ble_eq_true rfl))) (Nat.le_of_ble_eq_true rfl))) (Nat.le_of_ble_eq_true rfl))) (Nat.le_of_ble_eq_true rfl))) (Nat.le_of_ble_eq_true rfl))) (Nat.le_of_ble_eq_true rfl))) (Nat.le_of_ble_eq_true rfl))) (Nat.le_of_ble_eq_true rfl))) (Nat.le_of_ble_eq_true rfl))) (Nat.le_of_ble_eq_true rfl)) zhi_M ?_
  refine z_callVv dX7_init_127 mX7_62 (c_X7_begins hw) zm0 rfl rfl (Nat.le_of_ble_eq_true rfl) ⟨(Nat.le_of_ble_eq_true rfl), (Nat.le_of_ble_eq_true rfl)⟩ ⟨(Nat.le_of_ble_eq_true rfl), (Nat.le_of_ble_eq_true rfl)⟩ (fun _ hw => ?_)
  refine z_iconst dX7_init_130 zi0 ?_
  refine z_istore_n dX7_init_131 rfl (Nat.le_of_ble_eq_true rfl) ?_
  obtain ⟨n, hw⟩ := hw
  exact z_to (l_X7_init_132   n _ _ hw) ⟨rfl, rfl, trivial⟩

theorem clL_X6 : Cond.classLink RL 7 RX6 ∈ ztb := (zin 12 (by decide +kernel) (by decide +kernel))
theorem mbX6_init : zMb yX6_init cX6_init 1 none 0 := ⟨(zin 1 (by decide +kernel) (by decide +kernel)), (zin 16 (by decide +kernel) (by decide +kernel)), by decide +kernel⟩
theorem miL_X6 : zMI RL 9 yX6_init cX6_init 1 0 := ⟨mbX6_init, (zin 14 (by decide +kernel) (by decide +kernel)), rfl, (zin 15 (by decide +kernel) (by decide +kernel))⟩
theorem clL_X7 : Cond.classLink RL 10 RX7 ∈ ztb := (zin 584 (by decide +kernel) (by decide +kernel))
theorem mbX7_init : zMb yX7_init cX7_init 2 none 0 := ⟨(zin 9 (by decide +kernel) (by decide +kernel)), (zin 588 (by decide +kernel) (by decide +kernel)), by decide +kernel⟩
theorem miL_X7 : zMI RL 12 yX7_init cX7_init 2 0 := ⟨mbX7_init, (zin 586 (by decide +kernel) (by decide +kernel)), rfl, (zin 587 (by decide +kernel) (by decide +kernel))⟩
theorem nsL_X0 : Cond.instantiable RX0 17 ∈ ztb := (zin 92 (by decide +kernel) (by decide +kernel))
theorem niL_X0 : Cond.initialized RX0 ∈ ztb := (zin 4 (by decide +kernel) (by decide +kernel))
theorem nsL_X1 : Cond.instantiable RX1 2 ∈ ztb := (zin 170 (by decide +kernel) (by decide +kernel))
theorem niL_X1 : Cond.initialized RX1 ∈ ztb := (zin 5 (by decide +kernel) (by decide +kernel))
theorem nsL_X2 : Cond.instantiable RX2 5 ∈ ztb := (zin 63 (by decide +kernel) (by decide +kernel))
theorem niL_X2 : Cond.initialized RX2 ∈ ztb := (zin 3 (by decide +kernel) (by decide +kernel))
theorem nsL_X3 : Cond.instantiable RX3 3 ∈ ztb := (zin 202 (by decide +kernel) (by decide +kernel))
theorem niL_X3 : Cond.initialized RX3 ∈ ztb := (zin 8 (by decide +kernel) (by decide +kernel))
theorem nsL_X4 : Cond.instantiable RX4 8 ∈ ztb := (zin 21 (by decide +kernel) (by decide +kernel))
theorem niL_X4 : Cond.initialized RX4 ∈ ztb := (zin 2 (by decide +kernel) (by decide +kernel))
theorem nsL_X5 : Cond.instantiable RX5 1 ∈ ztb := (zin 183 (by decide +kernel) (by decide +kernel))
theorem niL_X5 : Cond.initialized RX5 ∈ ztb := (zin 6 (by decide +kernel) (by decide +kernel))
theorem nsL_X6 : Cond.instantiable RX6 7 ∈ ztb := (zin 13 (by decide +kernel) (by decide +kernel))
theorem niL_X6 : Cond.initialized RX6 ∈ ztb := (zin 1 (by decide +kernel) (by decide +kernel))
theorem nsL_X7 : Cond.instantiable RX7 19 ∈ ztb := (zin 585 (by decide +kernel) (by decide +kernel))
theorem niL_X7 : Cond.initialized RX7 ∈ ztb := (zin 9 (by decide +kernel) (by decide +kernel))
theorem nst_0 : tables_1[22]? = some (Cond.methodLinkNest (zNest[0]'(by decide)).1 (zNest[0]'(by decide)).2.1 (zNest[0]'(by decide)).2.2.1 (zNest[0]'(by decide)).2.2.2) := by decide +kernel
theorem nst_1 : tables_1[171]? = some (Cond.methodLinkNest (zNest[1]'(by decide)).1 (zNest[1]'(by decide)).2.1 (zNest[1]'(by decide)).2.2.1 (zNest[1]'(by decide)).2.2.2) := by decide +kernel
theorem nst_2 : tables_1[203]? = some (Cond.methodLinkNest (zNest[2]'(by decide)).1 (zNest[2]'(by decide)).2.1 (zNest[2]'(by decide)).2.2.1 (zNest[2]'(by decide)).2.2.2) := by decide +kernel
theorem nst_3 : tables_1[542]? = some (Cond.methodLinkNest (zNest[3]'(by decide)).1 (zNest[3]'(by decide)).2.1 (zNest[3]'(by decide)).2.2.1 (zNest[3]'(by decide)).2.2.2) := by decide +kernel
theorem nst_ao : tables_1[98]? = some (Cond.arrayOver (.array .int)) := by decide +kernel
def zσ0 : zS := (fun _ _ => 0, fun _ _ => 0)
theorem zNs_start {s : State} {av : Array Value} (hts : ∀ w ∈ lw_tbl, w.before av s = true) : zNs s := by
  have hm : ∀ {i : Nat} {w : Cond}, tables_1[i]? = some w → w.before av s = true := fun h => hts _ (List.mem_append_right _ (List.mem_of_getElem? h))
  refine ⟨fun q hq => ?_, hm nst_ao⟩
  have hq2 : q = zNest[0]'(by decide) ∨ q = zNest[1]'(by decide) ∨ q = zNest[2]'(by decide) ∨ q = zNest[3]'(by decide) := by simpa [zNest] using hq
  rcases hq2 with rfl | rfl | rfl | rfl
  · exact va_Nw.of rfl (hm nst_0)
  · exact va_Nw.of rfl (hm nst_1)
  · exact va_Nw.of rfl (hm nst_2)
  · exact va_Nw.of rfl (hm nst_3)
theorem zarr_start {s : State} {av : Array Value} {ty : FieldType} (hno : ∀ C, ty ≠ .object C) (h : (Cond.arrayClass ty).before av s = true) : ∃ cA, ArrOfT s cA ty ∧ va_RA s cA ty := by
  obtain ⟨c, k, comp, h1, h2, h3⟩ := Cond.arrayClass_spec h
  refine ⟨c, fun n z => ⟨fun q hq => (by cases hq), k, h2, comp, h3⟩, ?_⟩
  cases ty <;> first | exact h1 | exact absurd rfl (hno _)
theorem zao_start {s : State} (h : (Cond.arrayOver (.array .int)).before #[] s = true) : ∃ cA, ArrOfT s cA (.array .int) ∧ va_RA s cA (.array .int) := by
  unfold Cond.before Cond.holds at h
  simp only [Cond.value] at h
  cases hc : s.vm.findClass (FieldType.array .int).toString with
  | none => rw [hc] at h; simp at h
  | some comp =>
    rw [hc] at h
    simp only [Option.bind_some, beq_iff_eq, Option.bind_eq_some_iff, Option.map_eq_some_iff] at h
    obtain ⟨c, hi, k, hk, hb⟩ := h
    cases hkind : k.kind with
    | array cm ty =>
      rw [hkind] at hb
      simp only [Bool.and_eq_true, decide_eq_true_eq] at hb
      exact ⟨c, fun n z => ⟨fun q hq => (by cases hq), k, hk, cm, by rw [hkind, hb.1]⟩, hb.2⟩
    | _ => rw [hkind] at hb; simp at hb
set_option maxHeartbeats 4000000 in
set_option maxRecDepth 100000 in
theorem whole_of {Inv : zS → zS → Prop} (h0 : w_X6_init zσ0 (fun _ σ => w_X7_init zσ0 (fun _ τ => Inv σ τ))) (hst : zSteps Inv) {p : Program} {e : Env} {s : State} {m : MethodId} {below : List Frame} {meth : Method} {c : Code} (l : Launch) {b L : Nat} {xs : Nat → Int32} (hL : L ≤ 4096) (C0 : lw_At p s m meth c b L xs) : W p l e room_1 s m #[Value.ref b] below meth c s.heap [] 0 0 (lw_Z below #[Value.ref b] s) (entryFrame m ([Value.ref b] : List Value).toArray 4) := by
  obtain ⟨hx, hb, hr, hml, hown, hts0, hX, hbl, hlocks, hgv⟩ := id C0
  have hts : ∀ w ∈ ztb, w.before #[Value.ref b] s = true := fun w hw => hts0 w (ztb_mem hw).1
  have hns := zNs_start hts0
  have hA : ∀ q : Nat, s.heap.size ≤ q → (fun q : Nat => s.heap.size ≤ q) q := fun _ h => h
  obtain ⟨c0, i0, k0⟩ := u_known (C := RX0) (T := TX0) (N := 17) (n := 17) hts inX0 (hts _ nsL_X0)
  obtain ⟨c1, i1, k1⟩ := u_known (C := RX1) (T := TX1) (N := 2) (n := 2) hts inX1 (hts _ nsL_X1)
  obtain ⟨c2, i2, k2⟩ := u_known (C := RX2) (T := TX2) (N := 5) (n := 5) hts inX2 (hts _ nsL_X2)
  obtain ⟨c3, i3, k3⟩ := u_known (C := RX3) (T := TX3) (N := 3) (n := 3) hts inX3 (hts _ nsL_X3)
  obtain ⟨c4, i4, k4⟩ := u_known (C := RX4) (T := TX4) (N := 8) (n := 8) hts inX4 (hts _ nsL_X4)
  obtain ⟨c5, i5, k5⟩ := u_known (C := RX5) (T := TX5) (N := 1) (n := 1) hts inX5 (hts _ nsL_X5)
  obtain ⟨c6, i6, k6⟩ := u_known (C := RX6) (T := TX6) (N := 7) (n := 7) hts inX6 (hts _ nsL_X6)
  obtain ⟨c7, i7, k7⟩ := u_known (C := RX7) (T := TX7) (N := 19) (n := 19) hts inX7 (hts _ nsL_X7)
  obtain ⟨D, hKc⟩ : ∃ D : va_G, ∀ (k : Nat) (q : vw_C), vwCl[k]? = some q → u_Kn s q.1 q.2.1 q.2.2 (D.1 k) (D.2 k) := by
    refine ⟨(fun k => match k with | 0 => c0 | 1 => c1 | 2 => c2 | 3 => c3 | 4 => c4 | 5 => c5 | 6 => c6 | _ => c7, fun k => match k with | 0 => i0 | 1 => i1 | 2 => i2 | 3 => i3 | 4 => i4 | 5 => i5 | 6 => i6 | _ => i7), ?_⟩
    intro k q hq
    match k, hq with
    | 0, hq => cases hq; exact k0
    | 1, hq => cases hq; exact k1
    | 2, hq => cases hq; exact k2
    | 3, hq => cases hq; exact k3
    | 4, hq => cases hq; exact k4
    | 5, hq => cases hq; exact k5
    | 6, hq => cases hq; exact k6
    | 7, hq => cases hq; exact k7
    | k + 8, hq => simp [vwCl] at hq
  obtain ⟨cI, aI1, aI2⟩ := zarr_start (ty := .int) (fun C h => by cases h) (hts _ zaI)
  obtain ⟨cZ, aZ1, aZ2⟩ := zarr_start (ty := .boolean) (fun C h => by cases h) (hts _ zaZ)
  obtain ⟨cA, aA1, aA2⟩ := zao_start hns.2
  have hK : va_K D vwCl (zty (cI, cZ, cA)) s := ⟨hKc, fun k q h => by
    match k, h with
    | 0, h => cases h; exact ⟨aI1, aI2⟩
    | 1, h => cases h; exact ⟨aZ1, aZ2⟩
    | 2, h => cases h; exact ⟨aA1, aA2⟩
    | k + 3, h => simp [zty] at h⟩
  generalize (cI, cZ, cA) = cy at hK
  have hS : va_S (fun q : Nat => s.heap.size ≤ q) s.heap s.heap [] := va_S.rf
  have hP : va_P D vwCl [] s.heap := fun k q h => by simp at h
  have hD : va_D (fun q : Nat => s.heap.size ≤ q) [] := ⟨fun i j p q h => by simp at h, fun k q h => by simp at h⟩
  have hl := lv_entry ([.ref b]) (n := 4) (Nat.le_of_ble_eq_true rfl)
  rw [lg_entry_eq]
  generalize (lg_sl ([.ref b]) ++ List.replicate (4 - (lg_sl ([.ref b])).length) Slot.unset).toArray = ls at hl ⊢
  have hl : lv_has ls 4 [(0, .ref b)] := hl
  -- new CabinChain
  refine va_new (ci := 6) (fs := [.null, .null, .null, .null, .null, .null, .null]) (C := RX6) (T := TX6) (N := 7) hx hb hts inX6 tyX6 tyX6_ok hown (hts _ clL_X6) (hts _ nsL_X6) (hts _ niL_X6) hK hP hD hS hA rfl (fun j hj => by rcases (show j = 0 ∨ j = 1 ∨ j = 2 ∨ j = 3 ∨ j = 4 ∨ j = 5 ∨ j = 6 by omega) with rfl | rfl | rfl | rfl | rfl | rfl | rfl <;> rfl) (Nat.le_of_ble_eq_true rfl) (Nat.le_of_ble_eq_true rfl) dL_law_0.1 (fun ax H hP hD hS => ?_)
  refine lv_dup hx hb dL_law_3.1 rfl ?_
  have hPw : va_P D vwCl (zW cy (fun _ => ax) (zΓ.take 1) zρn zσ0) H := hP
  have hDw : va_D (fun q : Nat => s.heap.size ≤ q) (zW cy (fun _ => ax) (zΓ.take 1) zρn zσ0) := hD
  have hF := zF_in (ρ := zρn) (σ := zσ0) hDw hS hA
  obtain ⟨⟨hini, hcode, hnm⟩, hlink, hname, hinst⟩ := miL_X6
  refine va_callv (va_runI (As := []) (rest := [.ref ax]) (b := ax) ⟨hx, hb, hml, hown, hts⟩ (c_X6_init h0 l D cy (fun _ => ax) H.size) ⟨callB_of 0 hts (zgoodIn hcode) rfl rfl rfl (hts _ hini) (hts _ hlink) hnm ⟨Nat.le_of_ble_eq_true rfl, Nat.le_of_ble_eq_true rfl⟩, hname, hts _ hinst⟩ ⟨zPc_blind, fun U hU hW => ⟨rfl, by rw [hU], by rw [hU]; exact hPw, va_K.moved hW.alike hK, hDw.weaken (fun _ _ _ _ => trivial), zNs_warm hW hns⟩⟩ rfl rfl hl.1 rfl (lv_room (Nat.le_of_ble_eq_true rfl)) dL_law_4.1 ⟨Nat.le_of_ble_eq_true rfl, Nat.le_of_ble_eq_true rfl⟩) hS (fun q _ h => hF q h) hF (fun u t H1 locs1 ht hvm hw hB hz hk hS => ?_)
  obtain ⟨σ1, ad1, hw, hag, hP1, hD1⟩ := zPostI hF hw hB ht
  rw [← zW_99 cy ad1 9 σ1] at hP1 hD1
  have hax : (fun k => if k = 99 then ad1 9 else ad1 k) 0 = ax := by
    show (if 0 = 99 then _ else _) = ax
    rw [if_neg (by decide), hag 0 (Or.inl (by decide))]
  generalize (fun k => if k = 99 then ad1 9 else ad1 k) = ad at hP1 hD1 hax
  refine lv_astore_n (lv' := [(1, .ref ax), (0, .ref b)]) hx hb dL_law_7.1 rfl hl (by decide) rfl (fun ls hl => ?_)
  -- new CabinChainModel
  refine va_new (ci := 7) (fs := [.int 0, .int 0, .int 0, .int 0, .int 0, .int 0, .null, .null, .null, .null, .null, .null, .null, .null, .null, .null, .int 0, .null, .null]) (C := RX7) (T := TX7) (N := 19) hx hb hts inX7 tyX7 tyX7_ok hown (hts _ clL_X7) (hts _ nsL_X7) (hts _ niL_X7) hK hP1 hD1 hS hA rfl (by decide) (Nat.le_of_ble_eq_true rfl) (Nat.le_of_ble_eq_true rfl) dL_law_8.1 (fun am H hP hD hS => ?_)
  refine lv_dup hx hb dL_law_11.1 rfl ?_
  have hPw : va_P D vwCl (zW cy (fun _ => am) (zΓM.take 1) zρn zσ0 ++ zW cy ad zΓ (zρ 99) σ1) H := zap_comm hP
  have hDw : va_D (fun q : Nat => s.heap.size ≤ q) (zW cy (fun _ => am) (zΓM.take 1) zρn zσ0 ++ zW cy ad zΓ (zρ 99) σ1) := zapp_D' hD
  have hF := zF_in2 hDw hS hA
  obtain ⟨⟨hini, hcode, hnm⟩, hlink, hname, hinst⟩ := miL_X7
  refine va_callv (va_runI (As := []) (rest := [.ref am]) (b := am) ⟨hx, hb, hml, hown, hts⟩ (c_X7_init hw l D cy (fun _ => am) H.size) ⟨callB_of 0 hts (zgoodIn hcode) rfl rfl rfl (hts _ hini) (hts _ hlink) hnm ⟨Nat.le_of_ble_eq_true rfl, Nat.le_of_ble_eq_true rfl⟩, hname, hts _ hinst⟩ ⟨zPc_blind, fun U hU hW => ⟨rfl, by rw [hU], by rw [hU]; exact (zapp_P hPw).1, va_K.moved hW.alike hK, (zapp_D hDw).1.weaken (fun _ _ _ _ => trivial), zNs_warm hW hns⟩⟩ rfl rfl hl.1 rfl (lv_room (Nat.le_of_ble_eq_true rfl)) dL_law_12.1 ⟨Nat.le_of_ble_eq_true rfl, Nat.le_of_ble_eq_true rfl⟩) hS (fun q _ h => hF q h) hF (fun u t H1 locs1 ht hvm hw hB hz hk hS => ?_)
  obtain ⟨Γ', ρ', τ1, ad2⟩ := u
  obtain ⟨w1, w2, hI⟩ := hw
  obtain ⟨b1, b2, b3, b4⟩ := hB
  dsimp only at w1 w2 hI b1 b2 b4
  subst w1
  subst w2
  rw [ht] at b2
  obtain ⟨f1, f2⟩ := zframe hPw hDw hF hk b2 b4
  refine lv_astore_n (lv' := [(2, .ref am), (1, .ref ax), (0, .ref b)]) hx hb dL_law_15.1 rfl hl (by decide) rfl (fun ls hl => ?_)
  refine lv_iconst hx hb dL_law_16.1 zi0 ?_
  refine lv_istore_n (lv' := [(3, .int 0), (2, .ref am), (1, .ref ax), (0, .ref b)]) hx hb dL_law_17.1 rfl hl (by decide) rfl (fun ls hl => ?_)
  refine W.widen (k := 76 + 0) (n := 2376 + 5 * 0) (Nat.le_of_ble_eq_true rfl) (Nat.le_of_ble_eq_true rfl) ?_
  exact law_loop hL C0 hK hns hst 513 0 σ1 τ1 H1 locs1 ls (by decide) (by decide) hI ⟨ad, ad2, hax, b1 0 (Or.inl (by decide)), zap_comm f1, zapp_D' f2, hS⟩ (lv_sub hl [3, 2, 1, 0] rfl)

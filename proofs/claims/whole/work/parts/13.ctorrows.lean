theorem zobj_inst : Cond.instanceMethod objectInit ∈ ztb := (zin 18 (by decide +kernel) (by decide +kernel))
theorem zobj_code : Cond.code objectInit ⟨#[0xb1]⟩ 1 none ∈ ztb := (zin 19 (by decide +kernel) (by decide +kernel))
def zMI (own : String) (idx : Nat) (y : MethodName) (cb : ByteArray) (nb n : Nat) : Prop := zMb y cb nb none n ∧ Cond.methodLink own idx y ∈ ztb ∧ y.name = "<init>" ∧ Cond.instanceMethod y ∈ ztb
def zMIN (own : String) (idx : Nat) (y : MethodName) (cb : ByteArray) (nb n : Nat) : Prop := zMb y cb nb none n ∧ (∃ host, (own, idx, y, host) ∈ zNest) ∧ y.name = "<init>" ∧ Cond.instanceMethod y ∈ ztb
/-- all references speak of cells below L -/
def zlt (ρ : zR) (L : Nat) : Prop := ∀ k j t, ρ k j = some t → t < L
theorem zlt_up {ρ : zR} {L M : Nat} (h : zlt ρ L) (hl : L ≤ M) : zlt ρ M := fun k j t ht => Nat.lt_of_lt_of_le (h k j t ht) hl
theorem zlt_R0 {ρ : zR} {L k : Nat} (h : zlt ρ L) : zlt (zR0 ρ k) L := fun a b t ht => by
  unfold zR0 at ht
  split at ht
  · cases ht
  · exact h a b t ht
theorem zlt_Ru {ρ : zR} {L r k t : Nat} (h : zlt ρ L) (ht : t < L) : zlt (zRu ρ r k (some t)) L := fun a b u hu => by
  unfold zRu at hu
  split at hu
  · cases hu; exact ht
  · exact h a b u hu
theorem zlt_Ro {ρ : zR} {L k N : Nat} (h : zlt ρ L) (hl : k + 1 + N ≤ L) : zlt (zRo ρ k N) L := fun a b u hu => by
  unfold zRo at hu
  split at hu
  · split at hu
    · cases hu; omega
    · cases hu
  · split at hu
    · cases hu
    · exact h a b u hu
theorem zfresh_of {Γ : zG} {ρ : zR} {n : Nat} (h : zlt ρ Γ.length) : zfresh Γ ρ n := fun k j t _ ht => Or.inl (h k j t ht)
/-- no reference stands in a place from 31 on -/
def zhi (ρ : zR) : Prop := ∀ k j, 31 ≤ j → ρ k j = none
theorem zhi_0 : zhi (fun _ _ => none) := fun _ _ _ => rfl
theorem zhi_R0 {ρ : zR} {k : Nat} (h : zhi ρ) : zhi (zR0 ρ k) := fun a b hb => by unfold zR0; split <;> first | rfl | exact h a b hb
theorem zhi_Ru {ρ : zR} {r k : Nat} {v : Option Nat} (h : zhi ρ) (hk : k < 31) : zhi (zRu ρ r k v) := fun a b hb => by unfold zRu; rw [if_neg (by omega)]; exact h a b hb
theorem zhi_Ro {ρ : zR} {k N : Nat} (h : zhi ρ) (hN : N ≤ 31) : zhi (zRo ρ k N) := fun a b hb => by
  unfold zRo
  split
  · rw [if_neg (by omega)]
  · split <;> first | rfl | exact h a b hb
theorem zW_rho {cy : zC} {ad : Nat → Nat} {Γ : zG} {ρ ρ2 : zR} {σ : zS} (h : ∀ k, k < Γ.length → ∀ j, j < 31 → ρ k j = ρ2 k j) (h1 : zhi ρ) (h2 : zhi ρ2) : zW cy ad Γ ρ σ = zW cy ad Γ ρ2 σ := by
  have hh : ∀ k, k < Γ.length → ρ k = ρ2 k := fun k hk => funext fun j => by
    by_cases hj : j < 31
    · exact h k hk j hj
    · rw [h1 k j (by omega), h2 k j (by omega)]
  unfold zW
  apply List.ext_getElem?
  intro k
  rw [List.getElem?_mapIdx, List.getElem?_mapIdx]
  cases hk : Γ[k]? with
  | none => rfl
  | some g =>
    have hl : k < Γ.length := (List.getElem?_eq_some_iff.mp hk).1
    simp only [Option.map_some]
    congr 2
    have hv : ∀ j b, zfv ad ρ σ k j b = zfv ad ρ2 σ k j b := fun j b => by unfold zfv; rw [hh k hl]
    unfold zE
    split <;> simp only [hv, hh k hl]
section ZCTOR
variable {own : String} {cc : ByteArray} {nL : Nat} {ret : Option FieldType} {ini : Bool} {rm : Room} {n0 : Nat} {Q : Int32 → zG → zR → zS → Prop} {pc pc' tgt : Nat} {lv : List (Nat × Value)} {st : List Value} {Γ Γ2 : zG} {ρ ρ2 : zR} {σ : zS} {ce sl : Nat}
theorem z_gam (h : Γ = Γ2) (kk : zAW own cc nL ret ini rm n0 Q pc lv st Γ2 ρ σ ce sl) : zAW own cc nL ret ini rm n0 Q pc lv st Γ ρ σ ce sl := h ▸ kk
theorem z_rhoc (h : ∀ k, k < Γ.length → ∀ j, j < 31 → ρ k j = ρ2 k j) (h1 : zhi ρ) (h2 : zhi ρ2) (kk : zAW own cc nL ret ini rm n0 Q pc lv st Γ ρ2 σ ce sl) : zAW own cc nL ret ini rm n0 Q pc lv st Γ ρ σ ce sl := by
  intro p l e s m args below meth c D cy ad0 ad A H locs ls hC hK hag hP hD hS hA hh
  rw [zW_rho h h1 h2] at hP hD
  exact kk p l e s m args below meth c D cy ad0 ad A H locs ls hC hK hag hP hD hS hA hh
theorem z_objInit {idx r : Nat} (hd : zd cc pc (.invokespecial idx) 3 pc') (hm : Cond.methodLink own idx objectInit ∈ ztb) (hfr : 1 ≤ rm.frames) (hlo : (st.map fun v => v.category).sum + 12 ≤ rm.locals) (kk : zAW own cc nL ret ini rm n0 Q pc' lv st Γ ρ σ ce sl) : zAW own cc nL ret ini rm n0 Q pc lv (.ref r :: st) Γ ρ σ ce sl := by
  intro p l e s m args below meth c D cy ad0 ad A H locs ls hC hK hag hP hD hS hA hh
  obtain ⟨hd, rfl⟩ := hd
  obtain ⟨hx, hb, hr, hml, hown, hts, hlocks, hin9, hns⟩ := id hC
  refine W.objInit hx hb hown (hts _ hm) (hts _ zobj_inst) (hts _ zobj_code) rfl (by rw [hml]; exact hh.1) rfl hd hfr (by show 2 * 0 + _ + 12 ≤ _; rw [zcat]; omega) ?_
  exact kk p l e s m args below meth c D cy ad0 ad A H locs ls hC hK hag hP hD hS hA hh
variable {y : MethodName} {cb : ByteArray} {nb : Nat} {fr lo mc ms : Nat} {As rest : List Value} {Qb : Int32 → zS → Prop} {idx n r : Nat}
theorem zPostI {D : va_G} {cy : zC} {ad : Nat → Nat} {A : Nat → Prop} {H H1 : Heap} {t : State} {v : Int32} {u : zU} (hF : ∀ q, va_A (zW cy ad Γ ρ σ) H.size q → A q) (hw : zN Γ2 ρ2 Qb v u.1 u.2.1 u.2.2.1) (hB : zB D cy ad Γ.length (va_A (zW cy ad Γ ρ σ) H.size) u t) (ht : t.heap = H1) : ∃ σ' ad', Qb v σ' ∧ (∀ k, k < Γ.length ∨ Γ2.length ≤ k → ad' k = ad k) ∧ va_P D vwCl (zW cy ad' Γ2 ρ2 σ') H1 ∧ va_D A (zW cy ad' Γ2 ρ2 σ') := by
  obtain ⟨Γ', ρ', σ', ad'⟩ := u
  obtain ⟨e1, e2, hq⟩ := hw
  obtain ⟨b1, b2, b3, b4⟩ := hB
  dsimp only at e1 e2 hq b1 b2 b4
  subst e1
  subst e2
  exact ⟨σ', ad', hq, b1, by rw [← ht]; exact b2, b4.weaken (fun _ _ _ h => hF _ h)⟩
theorem z_callI (hd : zd cc pc (.invokespecial idx) 3 pc') (hm : zMI own idx y cb nb n) (hc : zAC y cb nb none { frames := fr, cells := mc, slots := ms, locals := lo } (.ref r :: As) Γ ρ σ (zN Γ2 ρ2 Qb)) (hmono : Γ.length ≤ Γ2.length) (hn0 : n0 ≤ Γ.length) (hlv : zoks Γ.length Γ2.length (lv.map (fun q => q.2))) (hn : As.length = n) (hst : st = As.reverse ++ .ref r :: rest) (hst9 : zoks Γ.length Γ2.length rest) (hcat : (rest.map fun v => v.category).sum ≤ 8) (hR : fr + 1 ≤ rm.frames ∧ 8 + (nb + 11) + lo ≤ rm.locals) (hcs : ce + mc ≤ rm.cells ∧ sl + ms ≤ rm.slots) (kk : ∀ σ', Qb 0 σ' → zAW own cc nL ret ini rm n0 Q pc' lv rest Γ2 ρ2 σ' (ce + mc) (sl + ms)) : zAW own cc nL ret ini rm n0 Q pc lv st Γ ρ σ ce sl := by
  subst hst
  intro p l e s m args below meth c D cy ad0 ad A H locs ls hC hK hag hP hD hS hA hh
  obtain ⟨hd, rfl⟩ := hd
  obtain ⟨⟨hini, hcode, hnm⟩, hlink, hname, hinst⟩ := hm
  obtain ⟨hx, hb, hr, hml, hown, hts, hlocks, hin, hns⟩ := id hC
  have hF := zF_in hD hS hA
  refine va_callv (va_runI (As := As.map (zv ad)) (rest := rest.map (zv ad)) (b := ad r) ⟨hx, hb, hml, hown, hts⟩ (hc l D cy ad H.size) ⟨callB_of n hts (zgoodIn hcode) rfl rfl rfl (hts _ hini) (hts _ hlink) hnm hR, hname, hts _ hinst⟩ ⟨zPc_blind, fun U hU hW => ⟨rfl, by rw [hU], by rw [hU]; exact hP, va_K.moved hW.alike hK, hD.weaken (fun _ _ _ _ => trivial), zNs_warm hW hns⟩⟩ rfl (by rw [List.length_map]; exact hn) hh.1 (by simp [zv, List.map_reverse]) (lv_room (by rw [zcat]; exact hcat)) hd hcs) hS (fun q _ h => hF q h) hF (fun u t H1 locs1 ht hvm hw hB hz hk hS1 => ?_)
  obtain ⟨σ', ad', hq, hag', hP1, hD1⟩ := zPostI hF hw hB ht
  have := kk σ' hq p l e s m args below meth c D cy ad0 ad' A H1 locs1 ls hC hK (fun k hk => (hag' k (by omega)).trans (hag k (by omega))) hP1 hD1 hS1 hA (by rw [zoks_lv hag' hlv]; exact hh)
  rw [zoks_map hag' hst9] at this
  exact this
theorem z_callIN (hd : zd cc pc (.invokespecial idx) 3 pc') (hm : zMIN own idx y cb nb n) (hc : zAC y cb nb none { frames := fr, cells := mc, slots := ms, locals := lo } (.ref r :: As) Γ ρ σ (zN Γ2 ρ2 Qb)) (hmono : Γ.length ≤ Γ2.length) (hn0 : n0 ≤ Γ.length) (hlv : zoks Γ.length Γ2.length (lv.map (fun q => q.2))) (hn : As.length = n) (hst : st = As.reverse ++ .ref r :: rest) (hst9 : zoks Γ.length Γ2.length rest) (hcat : (rest.map fun v => v.category).sum ≤ 8) (hR : fr + 1 ≤ rm.frames ∧ 8 + (nb + 11) + lo ≤ rm.locals) (hcs : ce + mc ≤ rm.cells ∧ sl + ms ≤ rm.slots) (kk : ∀ σ', Qb 0 σ' → zAW own cc nL ret ini rm n0 Q pc' lv rest Γ2 ρ2 σ' (ce + mc) (sl + ms)) : zAW own cc nL ret ini rm n0 Q pc lv st Γ ρ σ ce sl := by
  subst hst
  intro p l e s m args below meth c D cy ad0 ad A H locs ls hC hK hag hP hD hS hA hh
  obtain ⟨hd, rfl⟩ := hd
  obtain ⟨⟨hini, hcode, hnm⟩, ⟨host, hnest⟩, hname, hinst⟩ := hm
  obtain ⟨hx, hb, hr, hml, hown, hts, hlocks, hin, hns⟩ := id hC
  have hF := zF_in hD hS hA
  refine va_callv (va_runIN (As := As.map (zv ad)) (rest := rest.map (zv ad)) (b := ad r) ⟨hx, hb, hml, hown, hts⟩ (hc l D cy ad H.size) ⟨va_cnB n hts (zgoodIn hcode) rfl rfl rfl (hns.1 _ hnest) (hts _ hini) hnm hR, hname, hts _ hinst⟩ ⟨zPc_blind, fun U hU hW => ⟨rfl, by rw [hU], by rw [hU]; exact hP, va_K.moved hW.alike hK, hD.weaken (fun _ _ _ _ => trivial), zNs_warm hW hns⟩⟩ rfl (by rw [List.length_map]; exact hn) hh.1 (by simp [zv, List.map_reverse]) (lv_room (by rw [zcat]; exact hcat)) hd hcs) hS (fun q _ h => hF q h) hF (fun u t H1 locs1 ht hvm hw hB hz hk hS1 => ?_)
  obtain ⟨σ', ad', hq, hag', hP1, hD1⟩ := zPostI hF hw hB ht
  have := kk σ' hq p l e s m args below meth c D cy ad0 ad' A H1 locs1 ls hC hK (fun k hk => (hag' k (by omega)).trans (hag k (by omega))) hP1 hD1 hS1 hA (by rw [zoks_lv hag' hlv]; exact hh)
  rw [zoks_map hag' hst9] at this
  exact this
end ZCTOR
theorem nwX6_9 : zNw RX6 9 4 := ⟨RX4, TX4, 8, tyX4, rfl, inX4, tyX4_ok, (zin 20 (by decide +kernel) (by decide +kernel)), (zin 21 (by decide +kernel) (by decide +kernel)), (zin 2 (by decide +kernel) (by decide +kernel)), rfl, by decide⟩
theorem mbX4_init : zMb yX4_init cX4_init 1 none 0 := ⟨(zin 2 (by decide +kernel) (by decide +kernel)), (zin 24 (by decide +kernel) (by decide +kernel)), by decide +kernel⟩
theorem miX6_11 : zMIN RX6 11 yX4_init cX4_init 1 0 := ⟨mbX4_init, ⟨"CabinChain", by decide +kernel⟩, rfl, (zin 23 (by decide +kernel) (by decide +kernel))⟩
theorem nwX6_16 : zNw RX6 16 2 := ⟨RX2, TX2, 5, tyX2, rfl, inX2, tyX2_ok, (zin 62 (by decide +kernel) (by decide +kernel)), (zin 63 (by decide +kernel) (by decide +kernel)), (zin 3 (by decide +kernel) (by decide +kernel)), rfl, by decide⟩
theorem mbX2_init : zMb yX2_init cX2_init 4 none 3 := ⟨(zin 3 (by decide +kernel) (by decide +kernel)), (zin 66 (by decide +kernel) (by decide +kernel)), by decide +kernel⟩
theorem miX6_18 : zMI RX6 18 yX2_init cX2_init 4 3 := ⟨mbX2_init, (zin 64 (by decide +kernel) (by decide +kernel)), rfl, (zin 65 (by decide +kernel) (by decide +kernel))⟩
theorem nwX6_25 : zNw RX6 25 0 := ⟨RX0, TX0, 17, tyX0, rfl, inX0, tyX0_ok, (zin 91 (by decide +kernel) (by decide +kernel)), (zin 92 (by decide +kernel) (by decide +kernel)), (zin 4 (by decide +kernel) (by decide +kernel)), rfl, by decide⟩
theorem mbX0_init : zMb yX0_init cX0_init 4 none 3 := ⟨(zin 4 (by decide +kernel) (by decide +kernel)), (zin 95 (by decide +kernel) (by decide +kernel)), by decide +kernel⟩
theorem miX6_27 : zMI RX6 27 yX0_init cX0_init 4 3 := ⟨mbX0_init, (zin 93 (by decide +kernel) (by decide +kernel)), rfl, (zin 94 (by decide +kernel) (by decide +kernel))⟩
theorem nwX6_37 : zNw RX6 37 1 := ⟨RX1, TX1, 2, tyX1, rfl, inX1, tyX1_ok, (zin 169 (by decide +kernel) (by decide +kernel)), (zin 170 (by decide +kernel) (by decide +kernel)), (zin 5 (by decide +kernel) (by decide +kernel)), rfl, by decide⟩
theorem mbX1_init : zMb yX1_init cX1_init 1 none 0 := ⟨(zin 5 (by decide +kernel) (by decide +kernel)), (zin 173 (by decide +kernel) (by decide +kernel)), by decide +kernel⟩
theorem miX6_39 : zMIN RX6 39 yX1_init cX1_init 1 0 := ⟨mbX1_init, ⟨"CabinChain", by decide +kernel⟩, rfl, (zin 172 (by decide +kernel) (by decide +kernel))⟩
theorem nwX6_44 : zNw RX6 44 5 := ⟨RX5, TX5, 1, tyX5, rfl, inX5, tyX5_ok, (zin 182 (by decide +kernel) (by decide +kernel)), (zin 183 (by decide +kernel) (by decide +kernel)), (zin 6 (by decide +kernel) (by decide +kernel)), rfl, by decide⟩
theorem mbX5_init : zMb yX5_init cX5_init 1 none 0 := ⟨(zin 6 (by decide +kernel) (by decide +kernel)), (zin 186 (by decide +kernel) (by decide +kernel)), by decide +kernel⟩
theorem miX6_46 : zMI RX6 46 yX5_init cX5_init 1 0 := ⟨mbX5_init, (zin 184 (by decide +kernel) (by decide +kernel)), rfl, (zin 185 (by decide +kernel) (by decide +kernel))⟩
theorem nwX6_51 : zNw RX6 51 3 := ⟨RX3, TX3, 3, tyX3, rfl, inX3, tyX3_ok, (zin 201 (by decide +kernel) (by decide +kernel)), (zin 202 (by decide +kernel) (by decide +kernel)), (zin 8 (by decide +kernel) (by decide +kernel)), rfl, by decide⟩
theorem mbX3_init : zMb yX3_init cX3_init 1 none 0 := ⟨(zin 8 (by decide +kernel) (by decide +kernel)), (zin 205 (by decide +kernel) (by decide +kernel)), by decide +kernel⟩
theorem miX6_53 : zMIN RX6 53 yX3_init cX3_init 1 0 := ⟨mbX3_init, ⟨"CabinChain", by decide +kernel⟩, rfl, (zin 204 (by decide +kernel) (by decide +kernel))⟩
theorem maX0_24 : Cond.classLink RX0 24 ("[" ++ (FieldType.array .int).toString) ∈ ztb := (zin 97 (by decide +kernel) (by decide +kernel))
theorem maX3_9 : Cond.classLink RX3 9 ("[" ++ (FieldType.array .int).toString) ∈ ztb := (zin 207 (by decide +kernel) (by decide +kernel))
theorem maX5_9 : Cond.classLink RX5 9 ("[" ++ (FieldType.array .int).toString) ∈ ztb := (zin 188 (by decide +kernel) (by decide +kernel))
theorem moX0_3 : Cond.methodLink RX0 3 objectInit ∈ ztb := (zin 96 (by decide +kernel) (by decide +kernel))
theorem moX1_3 : Cond.methodLink RX1 3 objectInit ∈ ztb := (zin 174 (by decide +kernel) (by decide +kernel))
theorem moX2_3 : Cond.methodLink RX2 3 objectInit ∈ ztb := (zin 67 (by decide +kernel) (by decide +kernel))
theorem moX3_3 : Cond.methodLink RX3 3 objectInit ∈ ztb := (zin 206 (by decide +kernel) (by decide +kernel))
theorem moX4_3 : Cond.methodLink RX4 3 objectInit ∈ ztb := (zin 25 (by decide +kernel) (by decide +kernel))
theorem moX5_3 : Cond.methodLink RX5 3 objectInit ∈ ztb := (zin 187 (by decide +kernel) (by decide +kernel))
theorem moX6_3 : Cond.methodLink RX6 3 objectInit ∈ ztb := (zin 17 (by decide +kernel) (by decide +kernel))
theorem moX7_1 : Cond.methodLink RX7 1 objectInit ∈ ztb := (zin 589 (by decide +kernel) (by decide +kernel))
theorem zaI : Cond.arrayClass .int ∈ ztb := (zin 61 (by decide +kernel) (by decide +kernel))
theorem zaZ : Cond.arrayClass .boolean ∈ ztb := (zin 168 (by decide +kernel) (by decide +kernel))

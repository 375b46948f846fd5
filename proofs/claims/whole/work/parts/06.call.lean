theorem ztb_mem {w : Cond} (h : w ∈ ztb) : w ∈ lw_tbl ∧ goodWord w = true := List.mem_filter.mp h
theorem zgood {w : Cond} (h : w ∈ ztb) : (w.onTables && w.keeps) = true ∨ ∃ ty, w = .arrayClass ty := good_of_word (ztb_mem h).2
theorem zgoodIn {y : MethodName} {cc : ByteArray} {nL : Nat} {ret : Option FieldType} (h : Cond.code y cc nL ret ∈ ztb) : GoodIn ztb (.code y cc nL ret :: ztb) := fun w hw => by
  rcases List.mem_cons.mp hw with rfl | hw
  · exact ⟨h, zgood h⟩
  · exact ⟨hw, zgood hw⟩
/-- int[][]'s class stays -/
theorem zAO_moved {u U : State} (hvm : u.vm.Alike U.vm) (h : (Cond.arrayOver (.array .int)).before #[] u = true) : (Cond.arrayOver (.array .int)).before #[] U = true := by
  have e1 : ∀ n, U.vm.findClass n = u.vm.findClass n := fun n => by rw [hvm.findClass]
  have e2 : ∀ comp : ClassId, (U.vm.classes.findIdx? fun (x : Class) => match x.kind with | .array component _ => component == comp | _ => false) = (u.vm.classes.findIdx? fun (x : Class) => match x.kind with | .array component _ => component == comp | _ => false) := fun comp => by
    have a := va_idx_bare U.vm comp
    have b := va_idx_bare u.vm comp
    first | (rw [hvm.bare_eq] at b; exact a.symm.trans b) | (rw [← hvm.bare_eq] at b; exact a.symm.trans b)
  unfold Cond.before Cond.holds at h ⊢
  simp only [Cond.value] at h ⊢
  rw [e1]
  cases hc : u.vm.findClass (FieldType.array .int).toString with
  | none => rw [hc] at h; exact h
  | some comp =>
    rw [hc, Option.bind_some] at h
    rw [Option.bind_some]
    refine (congrArg (fun o : Option Nat => (o.bind (fun c => (U.vm.classes[c]?).map fun (k : Class) => match k.kind with | .array _ ty => decide (ty = FieldType.array .int) && decide (U.vm.findClass ("[" ++ (FieldType.array .int).toString) = some c) | _ => false) == some true)) (e2 comp)).trans ?_
    cases hi : (u.vm.classes.findIdx? fun (x : Class) => match x.kind with | .array component _ => component == comp | _ => false) with
    | none =>
      have h2 := (congrArg (fun o : Option Nat => (o.bind (fun c => (u.vm.classes[c]?).map fun (k : Class) => match k.kind with | .array _ ty => decide (ty = FieldType.array .int) && decide (u.vm.findClass ("[" ++ (FieldType.array .int).toString) = some c) | _ => false) == some true)) hi).symm.trans h
      simp at h2
    | some c =>
      have h2 := (congrArg (fun o : Option Nat => (o.bind (fun c => (u.vm.classes[c]?).map fun (k : Class) => match k.kind with | .array _ ty => decide (ty = FieldType.array .int) && decide (u.vm.findClass ("[" ++ (FieldType.array .int).toString) = some c) | _ => false) == some true)) hi).symm.trans h
      cases hk : u.vm.classes[c]? with
      | none => simp [hk] at h2
      | some k =>
        obtain ⟨k', hk', he⟩ := hvm.2.2 _ _ hk
        have hkd : k'.kind = k.kind := by rw [he]
        simp only [Option.bind_some, hk, Option.map_some] at h2
        simp only [Option.bind_some, hk', Option.map_some, e1, hkd]
        exact h2
theorem zNs_warm {s U : State} (hW : s.WarmedH U.vm) (h : zNs s) : zNs U := ⟨fun q hq => va_Nw.warmM hW (h.1 q hq), zAO_moved hW.alike h.2⟩
theorem zNs_same {s U : State} (hv : s.vm = U.vm) (h : zNs s) : zNs U := ⟨fun q hq => va_Nw.same rfl hv (h.1 q hq), zAO_moved (by rw [hv]; exact Vm.Alike.refl _) h.2⟩
theorem zPc_blind {D : va_G} {cy : zC} {ad : Nat → Nat} {sz : Nat} {Γ : zG} {ρ : zR} {σ : zS} {av : List Value} : FrameBlind (va_Pc av (zPc D cy ad sz Γ ρ σ)) := fun a U g mk q => by
  obtain ⟨q0, q1, qP, qK, qD, qN⟩ := q
  exact ⟨q0, q1, qP, va_K.moved (u := U) (U := U.calling g mk a) (Vm.Alike.refl U.vm) qK, qD, zNs_same rfl qN⟩
/-- what the tables say of a method that is called -/
def zMb (y : MethodName) (cc : ByteArray) (nL : Nat) (ret : Option FieldType) (n : Nat) : Prop := Cond.initialized y.cls ∈ ztb ∧ Cond.code y cc nL ret ∈ ztb ∧ (y.cls ≠ "java/lang/invoke/MethodHandle" ∧ y.cls ≠ "java/lang/invoke/VarHandle" ∧ (parseMethodDescriptor y.desc).map (fun d => d.parameters.length) = some n)
def zMV (own : String) (idx : Nat) (y : MethodName) (cc : ByteArray) (nL : Nat) (ret : Option FieldType) (n ci : Nat) : Prop := zMb y cc nL ret n ∧ Cond.methodLink own idx y ∈ ztb ∧ Cond.instanceMethod y ∈ ztb ∧ Cond.selects y.cls y y ∈ ztb ∧ ∃ T N, vwCl[ci]? = some (y.cls, T, N)
def zMS (own : String) (idx : Nat) (y : MethodName) (cc : ByteArray) (nL : Nat) (ret : Option FieldType) (n : Nat) : Prop := zMb y cc nL ret n ∧ Cond.methodLink own idx y ∈ ztb ∧ Cond.static y ∈ ztb
def zMN (own : String) (idx : Nat) (y : MethodName) (cc : ByteArray) (nL : Nat) (ret : Option FieldType) (n : Nat) : Prop := zMb y cc nL ret n ∧ (∃ host, (own, idx, y, host) ∈ zNest) ∧ Cond.static y ∈ ztb
section ZCALL
variable {own : String} {cc : ByteArray} {nL : Nat} {ret : Option FieldType} {ini : Bool} {rm : Room} {n0 : Nat} {Q : Int32 → zG → zR → zS → Prop} {pc pc' tgt : Nat} {lv : List (Nat × Value)} {st : List Value} {Γ : zG} {ρ ρ2 : zR} {σ : zS} {ce sl : Nat}
variable {y : MethodName} {cb : ByteArray} {nb : Nat} {rb : Option FieldType} {fr lo : Nat} {As rest : List Value} {Qb : Int32 → zS → Prop} {idx n ci r : Nat}
theorem zF_in {cy : zC} {ad : Nat → Nat} {A : Nat → Prop} {H0 H : Heap} {locs : List Loc} (hD : va_D A (zW cy ad Γ ρ σ)) (hS : va_S A H0 H locs) (hA : ∀ q, H0.size ≤ q → A q) : ∀ q, va_A (zW cy ad Γ ρ σ) H.size q → A q := fun q h => by
  rcases h with ⟨k, e, hk⟩ | h
  · exact hD.2 k _ hk
  · exact hA q (Nat.le_trans hS.1 h)
theorem zcat {ad : Nat → Nat} (l : List Value) : ((l.map (zv ad)).map fun v => v.category).sum = (l.map fun v => v.category).sum := by
  rw [List.map_map]
  congr 2
  funext v
  exact zv_cat ad v
theorem zPost {D : va_G} {cy : zC} {ad : Nat → Nat} {A : Nat → Prop} {H H1 : Heap} {t : State} {v : Int32} {u : zU} (hF : ∀ q, va_A (zW cy ad Γ ρ σ) H.size q → A q) (hw : zN Γ ρ2 Qb v u.1 u.2.1 u.2.2.1) (hB : zB D cy ad Γ.length (va_A (zW cy ad Γ ρ σ) H.size) u t) (ht : t.heap = H1) : ∃ σ', Qb v σ' ∧ va_P D vwCl (zW cy ad Γ ρ2 σ') H1 ∧ va_D A (zW cy ad Γ ρ2 σ') := by
  obtain ⟨Γ', ρ', σ', ad'⟩ := u
  obtain ⟨e1, e2, hq⟩ := hw
  obtain ⟨b1, b2, b3, b4⟩ := hB
  dsimp only at e1 e2 hq b1 b2 b4
  subst e1
  subst e2
  have had : ad' = ad := funext fun k => b1 k (Nat.lt_or_ge k _)
  subst had
  exact ⟨σ', hq, by rw [← ht]; exact b2, b4.weaken (fun _ _ _ h => hF _ h)⟩
theorem z_callV {ty : FieldType} (hd : zd cc pc (.invokevirtual idx) 3 pc') (hm : zMV own idx y cb nb (some ty) n ci) (hc : zAC y cb nb (some ty) { frames := fr, cells := 0, slots := 0, locals := lo } (.ref r :: As) Γ ρ σ (zN Γ ρ2 Qb)) (hg : Γ[r]? = some (0, ci)) (hn : As.length = n) (hst : st = As.reverse ++ .ref r :: rest) (hcat : (rest.map fun v => v.category).sum ≤ 8) (hR : fr + 1 ≤ rm.frames ∧ 8 + (nb + 11) + lo ≤ rm.locals) (hcs : ce ≤ rm.cells ∧ sl ≤ rm.slots) (kk : ∀ v σ', Qb v σ' → zAW own cc nL ret ini rm n0 Q pc' lv (.int v :: rest) Γ ρ2 σ' ce sl) : zAW own cc nL ret ini rm n0 Q pc lv st Γ ρ σ ce sl := by
  subst hst
  intro p l e s m args below meth c D cy ad0 ad A H locs ls hC hK hag hP hD hS hA hh
  obtain ⟨hd, rfl⟩ := hd
  obtain ⟨⟨hini, hcode, hnm⟩, hlink, hinst, hsel, T, N, hcl⟩ := hm
  obtain ⟨hx, hb, hr, hml, hown, hts, hlocks, hin, hns⟩ := id hC
  have hF := zF_in hD hS hA
  refine va_calli (va_runV (As := As.map (zv ad)) (rest := rest.map (zv ad)) (b := ad r) ⟨hx, hb, hml, hown, hts⟩ (hc l D cy ad H.size) ⟨callB_of n hts (zgoodIn hcode) rfl rfl rfl (hts _ hini) (hts _ hlink) hnm hR, hts _ hinst, hts _ hsel⟩ ⟨zPc_blind, va_recv hK hP hcl (zW_get hg), fun U hU hW => ⟨rfl, by rw [hU], by rw [hU]; exact hP, va_K.moved hW.alike hK, hD.weaken (fun _ _ _ _ => trivial), zNs_warm hW hns⟩⟩ rfl (by rw [List.length_map]; exact hn) hh.1 (by simp [zv, List.map_reverse]) (lv_room (by rw [zcat]; exact hcat)) hd hcs) hS (fun q _ h => hF q h) hF (fun v u t H1 locs1 ht hvm hw hB hz hk hS1 => ?_)
  obtain ⟨σ', hq, hP1, hD1⟩ := zPost hF hw hB ht
  exact kk v σ' hq p l e s m args below meth c D cy ad0 ad A H1 locs1 ls hC hK hag hP1 hD1 hS1 hA hh
theorem z_callVv (hd : zd cc pc (.invokevirtual idx) 3 pc') (hm : zMV own idx y cb nb none n ci) (hc : zAC y cb nb none { frames := fr, cells := 0, slots := 0, locals := lo } (.ref r :: As) Γ ρ σ (zN Γ ρ2 Qb)) (hg : Γ[r]? = some (0, ci)) (hn : As.length = n) (hst : st = As.reverse ++ .ref r :: rest) (hcat : (rest.map fun v => v.category).sum ≤ 8) (hR : fr + 1 ≤ rm.frames ∧ 8 + (nb + 11) + lo ≤ rm.locals) (hcs : ce ≤ rm.cells ∧ sl ≤ rm.slots) (kk : ∀ σ', Qb 0 σ' → zAW own cc nL ret ini rm n0 Q pc' lv rest Γ ρ2 σ' ce sl) : zAW own cc nL ret ini rm n0 Q pc lv st Γ ρ σ ce sl := by
  subst hst
  intro p l e s m args below meth c D cy ad0 ad A H locs ls hC hK hag hP hD hS hA hh
  obtain ⟨hd, rfl⟩ := hd
  obtain ⟨⟨hini, hcode, hnm⟩, hlink, hinst, hsel, T, N, hcl⟩ := hm
  obtain ⟨hx, hb, hr, hml, hown, hts, hlocks, hin, hns⟩ := id hC
  have hF := zF_in hD hS hA
  refine va_callv (va_runV (As := As.map (zv ad)) (rest := rest.map (zv ad)) (b := ad r) ⟨hx, hb, hml, hown, hts⟩ (hc l D cy ad H.size) ⟨callB_of n hts (zgoodIn hcode) rfl rfl rfl (hts _ hini) (hts _ hlink) hnm hR, hts _ hinst, hts _ hsel⟩ ⟨zPc_blind, va_recv hK hP hcl (zW_get hg), fun U hU hW => ⟨rfl, by rw [hU], by rw [hU]; exact hP, va_K.moved hW.alike hK, hD.weaken (fun _ _ _ _ => trivial), zNs_warm hW hns⟩⟩ rfl (by rw [List.length_map]; exact hn) hh.1 (by simp [zv, List.map_reverse]) (lv_room (by rw [zcat]; exact hcat)) hd hcs) hS (fun q _ h => hF q h) hF (fun u t H1 locs1 ht hvm hw hB hz hk hS1 => ?_)
  obtain ⟨σ', hq, hP1, hD1⟩ := zPost hF hw hB ht
  exact kk σ' hq p l e s m args below meth c D cy ad0 ad A H1 locs1 ls hC hK hag hP1 hD1 hS1 hA hh
theorem z_callS {ty : FieldType} (hd : zd cc pc (.invokestatic idx) 3 pc') (hm : zMS own idx y cb nb (some ty) n) (hc : zAC y cb nb (some ty) { frames := fr, cells := 0, slots := 0, locals := lo } As Γ ρ σ (zN Γ ρ2 Qb)) (hn : As.length = n) (hst : st = As.reverse ++ rest) (hcat : (rest.map fun v => v.category).sum ≤ 8) (hR : fr + 1 ≤ rm.frames ∧ 8 + (nb + 11) + lo ≤ rm.locals) (hcs : ce ≤ rm.cells ∧ sl ≤ rm.slots) (kk : ∀ v σ', Qb v σ' → zAW own cc nL ret ini rm n0 Q pc' lv (.int v :: rest) Γ ρ2 σ' ce sl) : zAW own cc nL ret ini rm n0 Q pc lv st Γ ρ σ ce sl := by
  subst hst
  intro p l e s m args below meth c D cy ad0 ad A H locs ls hC hK hag hP hD hS hA hh
  obtain ⟨hd, rfl⟩ := hd
  obtain ⟨⟨hini, hcode, hnm⟩, hlink, hstt⟩ := hm
  obtain ⟨hx, hb, hr, hml, hown, hts, hlocks, hin, hns⟩ := id hC
  have hF := zF_in hD hS hA
  refine va_calli (va_runS (As := As.map (zv ad)) (rest := rest.map (zv ad)) ⟨hx, hb, hml, hown, hts⟩ (hc l D cy ad H.size) ⟨callB_of n hts (zgoodIn hcode) rfl rfl rfl (hts _ hini) (hts _ hlink) hnm hR, hts _ hstt⟩ ⟨zPc_blind, fun U hU hW => ⟨rfl, by rw [hU], by rw [hU]; exact hP, va_K.moved hW.alike hK, hD.weaken (fun _ _ _ _ => trivial), zNs_warm hW hns⟩⟩ rfl (by rw [List.length_map]; exact hn) hh.1 (by simp [List.map_reverse]) (lv_room (by rw [zcat]; exact hcat)) hd hcs) hS (fun q _ h => hF q h) hF (fun v u t H1 locs1 ht hvm hw hB hz hk hS1 => ?_)
  obtain ⟨σ', hq, hP1, hD1⟩ := zPost hF hw hB ht
  exact kk v σ' hq p l e s m args below meth c D cy ad0 ad A H1 locs1 ls hC hK hag hP1 hD1 hS1 hA hh
theorem z_callSv (hd : zd cc pc (.invokestatic idx) 3 pc') (hm : zMS own idx y cb nb none n) (hc : zAC y cb nb none { frames := fr, cells := 0, slots := 0, locals := lo } As Γ ρ σ (zN Γ ρ2 Qb)) (hn : As.length = n) (hst : st = As.reverse ++ rest) (hcat : (rest.map fun v => v.category).sum ≤ 8) (hR : fr + 1 ≤ rm.frames ∧ 8 + (nb + 11) + lo ≤ rm.locals) (hcs : ce ≤ rm.cells ∧ sl ≤ rm.slots) (kk : ∀ σ', Qb 0 σ' → zAW own cc nL ret ini rm n0 Q pc' lv rest Γ ρ2 σ' ce sl) : zAW own cc nL ret ini rm n0 Q pc lv st Γ ρ σ ce sl := by
  subst hst
  intro p l e s m args below meth c D cy ad0 ad A H locs ls hC hK hag hP hD hS hA hh
  obtain ⟨hd, rfl⟩ := hd
  obtain ⟨⟨hini, hcode, hnm⟩, hlink, hstt⟩ := hm
  obtain ⟨hx, hb, hr, hml, hown, hts, hlocks, hin, hns⟩ := id hC
  have hF := zF_in hD hS hA
  refine va_callv (va_runS (As := As.map (zv ad)) (rest := rest.map (zv ad)) ⟨hx, hb, hml, hown, hts⟩ (hc l D cy ad H.size) ⟨callB_of n hts (zgoodIn hcode) rfl rfl rfl (hts _ hini) (hts _ hlink) hnm hR, hts _ hstt⟩ ⟨zPc_blind, fun U hU hW => ⟨rfl, by rw [hU], by rw [hU]; exact hP, va_K.moved hW.alike hK, hD.weaken (fun _ _ _ _ => trivial), zNs_warm hW hns⟩⟩ rfl (by rw [List.length_map]; exact hn) hh.1 (by simp [List.map_reverse]) (lv_room (by rw [zcat]; exact hcat)) hd hcs) hS (fun q _ h => hF q h) hF (fun u t H1 locs1 ht hvm hw hB hz hk hS1 => ?_)
  obtain ⟨σ', hq, hP1, hD1⟩ := zPost hF hw hB ht
  exact kk σ' hq p l e s m args below meth c D cy ad0 ad A H1 locs1 ls hC hK hag hP1 hD1 hS1 hA hh
theorem z_callSN {ty : FieldType} (hd : zd cc pc (.invokestatic idx) 3 pc') (hm : zMN own idx y cb nb (some ty) n) (hc : zAC y cb nb (some ty) { frames := fr, cells := 0, slots := 0, locals := lo } As Γ ρ σ (zN Γ ρ2 Qb)) (hn : As.length = n) (hst : st = As.reverse ++ rest) (hcat : (rest.map fun v => v.category).sum ≤ 8) (hR : fr + 1 ≤ rm.frames ∧ 8 + (nb + 11) + lo ≤ rm.locals) (hcs : ce ≤ rm.cells ∧ sl ≤ rm.slots) (kk : ∀ v σ', Qb v σ' → zAW own cc nL ret ini rm n0 Q pc' lv (.int v :: rest) Γ ρ2 σ' ce sl) : zAW own cc nL ret ini rm n0 Q pc lv st Γ ρ σ ce sl := by
  subst hst
  intro p l e s m args below meth c D cy ad0 ad A H locs ls hC hK hag hP hD hS hA hh
  obtain ⟨hd, rfl⟩ := hd
  obtain ⟨⟨hini, hcode, hnm⟩, ⟨host, hnest⟩, hstt⟩ := hm
  obtain ⟨hx, hb, hr, hml, hown, hts, hlocks, hin, hns⟩ := id hC
  have hF := zF_in hD hS hA
  refine va_calli (va_runSN (As := As.map (zv ad)) (rest := rest.map (zv ad)) ⟨hx, hb, hml, hown, hts⟩ (hc l D cy ad H.size) ⟨va_cnB n hts (zgoodIn hcode) rfl rfl rfl (hns.1 _ hnest) (hts _ hini) hnm hR, hts _ hstt, trivial⟩ ⟨zPc_blind, fun U hU hW => ⟨rfl, by rw [hU], by rw [hU]; exact hP, va_K.moved hW.alike hK, hD.weaken (fun _ _ _ _ => trivial), zNs_warm hW hns⟩⟩ rfl (by rw [List.length_map]; exact hn) hh.1 (by simp [List.map_reverse]) (lv_room (by rw [zcat]; exact hcat)) hd hcs) hS (fun q _ h => hF q h) hF (fun v u t H1 locs1 ht hvm hw hB hz hk hS1 => ?_)
  obtain ⟨σ', hq, hP1, hD1⟩ := zPost hF hw hB ht
  exact kk v σ' hq p l e s m args below meth c D cy ad0 ad A H1 locs1 ls hC hK hag hP1 hD1 hS1 hA hh
/-! the entry -/
theorem zargs_map (ad : Nat → Nat) : ∀ (vs : List Value) (i : Nat), lv_args i (vs.map (zv ad)) = (lv_args i vs).map (fun q => (q.1, zv ad q.2))
  | [], _ => rfl
  | v :: vs, i => by
    show (i, zv ad v) :: lv_args (if (zv ad v).category = 2 then i + 2 else i + 1) (vs.map (zv ad)) = _
    rw [zv_cat, zargs_map ad vs]
    rfl
theorem zsl_len (ad : Nat → Nat) (vs : List Value) : (lg_sl (vs.map (zv ad))).length = (lg_sl vs).length := by
  induction vs with
  | nil => rfl
  | cons v vs ih =>
    unfold lg_sl at ih ⊢
    rw [List.map_cons, List.flatMap_cons, List.flatMap_cons, List.length_append, List.length_append, ih, zv_cat]
    split <;> rfl
/-- Met.ofW, of a method for which the table of natives has no row -/
theorem zOfW {l : Launch} {ws ws' : List Cond} {Pc : Array Value → State → Prop} {Qc : Array Value → State → Outcome → State → Prop} {mc ms : Nat} {free : Addr → Prop} (hy : plainFor y = true) (hw : ws = Cond.code y cc nL ret :: ws')
    (body : ∀ p e s m args below meth c s₁, BodyLoose p l y (headSpec ws rm) cc nL ret e s m args below meth c s₁ → c.maxLocals = nL → Pc args s →
      W p l e (headSpec ws rm).room s m args below meth c s.heap [] 0 0 (MQ below Qc args s mc ms free) (entryFrame m args nL)) : Met l y ws rm Pc Qc mc ms free := by
  refine MetFree.of_bodySF (code := cc) (maxLocals := nL) (ret := ret) hy ?_ ?_
  · intro args s m h hn
    obtain ⟨meth, c, h1, h2, h3, h4, h5, h6, -, -⟩ := Cond.code_spec hn (atoms_spec (ws := ws) h _ (by rw [hw]; exact List.mem_cons_self))
    exact ⟨meth, c, h1, h2, h3, h4, h5, h6⟩
  · intro p e s m args below meth c s₁ B hml hP _
    have hh0 : s₁.heap = s.heap := by rw [B.state]; rfl
    obtain ⟨t, a1, o, b1, b2, b3⟩ := body p e s m args below meth c s₁ B hml hP s₁ hh0 (Stand.of_body B)
    exact ⟨t, o, a1, b1, b2, ⟨b3.1, b3.2⟩⟩
theorem z_entry {args : List Value} (hy : plainFor y = true) (hown : y.cls = own) (hi : ini = true → y.name = "<init>") (hlen : (lg_sl args).length ≤ nL) (kk : zAW own cc nL ret ini rm Γ.length Q 0 (lv_args 0 args) [] Γ ρ σ 0 0) : zAC y cc nL ret rm args Γ ρ σ Q := by
  intro l D cy ad sz
  refine zOfW (cc := cc) (nL := nL) (ret := ret) hy rfl ?_
  intro p e s m av below meth c s₁ B hml hv
  obtain ⟨rfl, hsz, hP, hK, hD0, hns⟩ := hv
  have hts0 := atoms_spec (ws := .code y cc nL ret :: ztb) B.pre
  have hts : ∀ w ∈ ztb, w.before (args.map (zv ad)).toArray s = true := fun w hw => hts0 w (List.mem_cons_of_mem _ hw)
  have hown2 : s.vm.findClass own = some m.cls := by rw [← hown]; exact findClass_of_methodNamed B.named
  subst hsz
  have hD := hD0.self (sz := s.heap.size)
  have hA : ∀ q : Nat, s.heap.size ≤ q → va_A (zW cy ad Γ ρ σ) s.heap.size q := fun q h => Or.inr h
  have hl := lv_entry (args.map (zv ad)) (n := nL) (by rw [zsl_len]; exact hlen)
  rw [lg_entry_eq]
  rw [zargs_map] at hl
  exact kk p l e s m (args.map (zv ad)).toArray below meth c D cy ad ad _ s.heap [] _ ⟨B.exec, B.bytes, B.returns, hml, hown2, hts, B.notSynchronized, fun h => by rw [← hi h]; exact (name_of_methodNamed B.named B.method).1, hns⟩ hK (fun _ _ => rfl) hP hD va_S.rf hA hl
end ZCALL

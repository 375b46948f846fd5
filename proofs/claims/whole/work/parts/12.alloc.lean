def va_AOA (t : FieldType) (U : State) : Prop := (Cond.arrayOver (.array t)).before #[] U = true
theorem va_AOA.use {t : FieldType} {A : Array Value} {U : State} (h : va_AOA t U) : (Cond.arrayOver (.array t)).before A U = true := h
/-! ===== BEGIN new T[n][m]: the outer array a place, the inner ones among the pooled ===== -/
/-- f, but v at every address of l -/
def vr_up {α : Type} (f : Nat → α) (l : List Nat) (v : α) : Nat → α := fun a => if a ∈ l then v else f a
theorem vr_up_in {α : Type} {f : Nat → α} {l : List Nat} {v : α} {a : Nat} (h : a ∈ l) : vr_up f l v a = v := if_pos h
theorem vr_up_ne {α : Type} {f : Nat → α} {l : List Nat} {v : α} {a : Nat} (h : a ∉ l) : vr_up f l v a = f a := if_neg h
theorem vr_rows {L l : List Nat} {f : Nat → va_E} {e : va_E} (h : ∀ a, a ∈ l → a ∉ L) : va_pl L f ++ l.map (fun a => (a, e)) = va_pl (L ++ l) (vr_up f l e) := by
  unfold va_pl
  rw [List.map_append]
  congr 1
  · apply List.map_congr_left
    intro a ha
    rw [vr_up_ne (fun q => h a q ha)]
  · apply List.map_congr_left
    intro a ha
    rw [vr_up_in ha]
theorem vr_lay {X rows : va_W} {x : Nat × va_E} {pl : va_W} {D : va_G} {cl : List vw_C} {H : Heap} (hP : va_P D cl (((X ++ pl) ++ [x]) ++ rows) H) : va_P D cl ((X ++ [x]) ++ (pl ++ rows)) H := by
  rw [List.append_assoc (X ++ pl)] at hP
  have h := va_P.swap hP
  rw [← List.append_assoc X] at h
  have h2 := va_P.swap h
  rw [List.append_assoc (X ++ [x])] at h2
  exact h2
theorem vr_layD {X rows : va_W} {x : Nat × va_E} {pl : va_W} {A : Nat → Prop} (hD : va_D A (((X ++ pl) ++ [x]) ++ rows)) : va_D A ((X ++ [x]) ++ (pl ++ rows)) := by
  rw [List.append_assoc (X ++ pl)] at hD
  have h := va_D.swap hD
  rw [← List.append_assoc X] at h
  have h2 := va_D.swap h
  rw [List.append_assoc (X ++ [x])] at h2
  exact h2
theorem vr_outer (c : ClassId) (N h0 : Nat) : ∀ i : Nat, Jvm.Free.Multi.outerC c N h0 i = arrV c N (fun j => va_rf (if j < i then some (h0 + 1 + j) else none))
  | 0 => by
    show ({ cls := c, slots := Array.replicate N .null, vm := .none } : Cell) = _
    rw [arrV_new]
    refine congrArg (arrV c N) (funext fun j => ?_)
    simp [va_rf]
  | i + 1 => by
    show (Jvm.Free.Multi.outerC c N h0 i).setSlot i (.ref (h0 + 1 + i)) = _
    rw [vr_outer c N h0 i, arrV_store]
    refine congrArg (arrV c N) (funext fun j => ?_)
    by_cases e : j = i
    · subst e
      simp [updV, va_rf]
    · by_cases h : j < i
      · simp [updV, e, h, Nat.lt_succ_of_lt h]
      · simp [updV, e, h, show ¬ j < i + 1 by omega]
section VGM
variable {p : Program} {l : Launch} {e : Env} {R : Room} {s : State} {m : MethodId} {args : Array Value} {below : List Frame} {meth : Method} {c : Code} {H : Heap} {locs : List Loc} {cells slots : Nat} {Q : State → Prop}
variable {cc : ByteArray} {pc : Nat} {ls : Array Slot} {rest : List Value} {D : va_G} {cl : List vw_C} {A : Nat → Prop} {a : Nat} {tys : List (ClassId × FieldType)} {ws : va_W} {H0 : Heap}
theorem va_mna {X : va_W} {L : List Nat} {f : Nat → va_E} {cc : ByteArray} (hexec : p.tables.exec = Jvm.exec) (hb : c.code = cc) {own : String} {index : Nat} {ty : FieldType} {cy : ClassId} (hown : s.vm.findClass own = some m.cls) (hclink : (Cond.classLink own index ("[" ++ (FieldType.array ty).toString)).before args s = true) (hover : va_AOA ty s) (harr : (Cond.arrayClass ty).before args s = true) (hcy : s.vm.findClass (FieldType.array ty).toString = some cy)
    (hK : va_K D cl tys s) (hP : va_P D cl (X ++ va_pl L f) H) (hD : va_D A (X ++ va_pl L f)) (hS : va_S A H0 H locs) (hA : ∀ q, H0.size ≤ q → A q) {n k : Int32} {N' K' : Nat} {z : vp_A} (hn : ¬ n < 0) (hk : ¬ k < 0) (hN : n.toNatClampNeg = N') (hM : k.toNatClampNeg = K')
    (hb1 : N' * 4 ≤ 536870912) (hb2 : K' * componentBytes ty ≤ 536870912) (hb3 : K' ≤ 536870912) (hdf : fits ty (defaultValue ty) = true) (hdd : (defaultValue ty).isDefault = true) (hcells : cells + (1 + N') ≤ R.cells) (hslots : slots + (N' + N' * K') ≤ R.slots) (hz : ∀ c : ClassId, Jvm.Free.Multi.innerC c K' (defaultValue ty) = vp_cell c z) (hdg : decode cc pc = .ok (.multianewarray index 2, 4))
    (kk : ∀ (q : Nat) (r : Nat → Nat) (cA : ClassId) (H1 : Heap), (∀ i j : Nat, i < N' → j < N' → r i = r j → i = j) → (∀ i : Nat, i < N' → r i ∉ L) → va_K D cl (tys ++ [(cA, .array ty)]) s →
      va_P D cl ((X ++ [(q, .inl (cA, N', .inr (.inr (.inr (.inr (fun i => if i < N' then some (r i) else none))))))]) ++ va_pl (L ++ (List.range N').map r) (vr_up f ((List.range N').map r) (.inl (cy, z)))) H1 → va_D A ((X ++ [(q, .inl (cA, N', .inr (.inr (.inr (.inr (fun i => if i < N' then some (r i) else none))))))]) ++ va_pl (L ++ (List.range N').map r) (vr_up f ((List.range N').map r) (.inl (cy, z)))) → va_S A H0 H1 locs →
      W p l e R s m args below meth c H1 locs (cells + 1 + N') (slots + N' + N' * K') Q (F0 m (pc + 4) ls (.ref q :: rest))) : W p l e R s m args below meth c H locs cells slots Q (F0 m pc ls (.int k :: .int n :: rest)) := by
  subst hN
  subst hM
  intro T hT Xs
  obtain ⟨vm₁, cA, comp, -, fA, fC, hO, -, X', step⟩ := Xs.multianewarray2F hexec hown hclink (va_AOA.use hover) harr (g := F0 m pc ls (.int k :: .int n :: rest)) rfl (by rw [hb]; exact hdg) rfl hn hk hb1 hb2 hb3 hdf hdd hcells hslots
  have ec : some cy = some comp := hcy.symm.trans fC
  cases ec
  generalize hF : Jvm.Free.Multi.fill (T.setVm vm₁) cA cy n.toNatClampNeg k.toNatClampNeg (defaultValue ty) n.toNatClampNeg = F at X' step
  have hTh : (T.setVm vm₁).heap = H := hT
  obtain ⟨f1, f2, -, -⟩ := Jvm.Free.Multi.fill_facts (T.setVm vm₁) cA cy n.toNatClampNeg k.toNatClampNeg (defaultValue ty) n.toNatClampNeg
  rw [hF, hTh] at f1 f2
  have hold : ∀ x : Nat, x < H.size → F.heap[x]? = H[x]? := fun x hx => by
    have := Jvm.Free.Multi.fill_old (T.setVm vm₁) cA cy n.toNatClampNeg k.toNatClampNeg (defaultValue ty) (a := x) (by rw [hTh]; exact hx) n.toNatClampNeg
    rw [hF, hTh] at this
    exact this
  have hrow : ∀ j : Nat, j < n.toNatClampNeg → F.heap[H.size + 1 + j]? = some (vp_cell cy z) := fun j hj => by
    have := Jvm.Free.Multi.fill_inner (T.setVm vm₁) cA cy n.toNatClampNeg k.toNatClampNeg (defaultValue ty) n.toNatClampNeg j hj
    rw [hF, hTh, hz] at this
    exact this
  have hout : Jvm.Free.Multi.outerC cA n.toNatClampNeg H.size n.toNatClampNeg = vp_cell cA (n.toNatClampNeg, .inr (.inr (.inr (.inr (fun i => if i < n.toNatClampNeg then some (H.size + 1 + i) else none))))) := by
    rw [vp_cell_q]
    exact vr_outer cA n.toNatClampNeg H.size n.toNatClampNeg
  rw [hout] at f2
  have hlt : ∀ a, a ∈ L → a < H.size := fun a ha => by
    obtain ⟨k9, hk9⟩ := va_pl_get (X := X) (f := f) ha
    exact (hP k9 _ hk9).lt
  have hnl : ∀ i : Nat, i < n.toNatClampNeg → H.size + 1 + i ∉ L := fun i _ h => by
    have := hlt _ h
    omega
  have hnm : ∀ a, a ∈ (List.range n.toNatClampNeg).map (fun i => H.size + 1 + i) → a ∉ L := fun a ha h => by
    obtain ⟨i, -, rfl⟩ := List.mem_map.mp ha
    have := hlt _ h
    omega
  have hP0 : va_P D cl (X ++ va_pl L f) F.heap := hP.kept (fun k9 x hx => hold x.1 ((hP k9 x hx).lt))
  have hP1 : va_P D cl ((X ++ va_pl L f) ++ [(H.size, .inl (cA, n.toNatClampNeg, .inr (.inr (.inr (.inr (fun i => if i < n.toNatClampNeg then some (H.size + 1 + i) else none))))))]) F.heap := hP0.app (fun k9 x hx => by
    have h0 : k9 < 1 := (List.getElem?_eq_some_iff.mp hx).1
    rw [show k9 = 0 by omega] at hx
    cases hx
    exact f2)
  have hP2 : va_P D cl (((X ++ va_pl L f) ++ [(H.size, .inl (cA, n.toNatClampNeg, .inr (.inr (.inr (.inr (fun i => if i < n.toNatClampNeg then some (H.size + 1 + i) else none))))))]) ++ ((List.range n.toNatClampNeg).map (fun i => H.size + 1 + i)).map (fun a => (a, .inl (cy, z)))) F.heap := hP1.app (fun k9 x hx => by
    obtain ⟨a, ha, rfl⟩ := List.mem_map.mp (List.mem_of_getElem? hx)
    obtain ⟨i, hi, rfl⟩ := List.mem_map.mp ha
    exact hrow i (List.mem_range.mp hi))
  have hD2 : va_D A (((X ++ va_pl L f) ++ [(H.size, .inl (cA, n.toNatClampNeg, .inr (.inr (.inr (.inr (fun i => if i < n.toNatClampNeg then some (H.size + 1 + i) else none))))))]) ++ ((List.range n.toNatClampNeg).map (fun i => H.size + 1 + i)).map (fun a => (a, .inl (cy, z)))) := by
    have hD1 := hD.push (e := .inl (cA, n.toNatClampNeg, .inr (.inr (.inr (.inr (fun i => if i < n.toNatClampNeg then some (H.size + 1 + i) else none)))))) hP rfl (hA _ hS.1)
    generalize hW1 : (X ++ va_pl L f) ++ [(H.size, .inl (cA, n.toNatClampNeg, .inr (.inr (.inr (.inr (fun i => if i < n.toNatClampNeg then some (H.size + 1 + i) else none))))))] = W1 at hD1 hP1 ⊢
    have hle : ∀ (k9 : Nat) (x : Nat × va_E), W1[k9]? = some x → x.1 ≤ H.size := fun k9 x hx => by
      rw [← hW1] at hx
      by_cases hl : k9 < (X ++ va_pl L f).length
      · rw [List.getElem?_append_left hl] at hx
        exact Nat.le_of_lt ((hP k9 x hx).lt)
      · rw [List.getElem?_append_right (by omega)] at hx
        have h0 : k9 - (X ++ va_pl L f).length < 1 := (List.getElem?_eq_some_iff.mp hx).1
        rw [show k9 - (X ++ va_pl L f).length = 0 by omega] at hx
        cases hx
        exact Nat.le_refl _
    have hr : ∀ (k9 : Nat) (x : Nat × va_E), (((List.range n.toNatClampNeg).map (fun i => H.size + 1 + i)).map (fun a => ((a, .inl (cy, z)) : Nat × va_E)))[k9]? = some x → x.1 = H.size + 1 + k9 := fun k9 x hx => by
      rw [List.getElem?_map, List.getElem?_map] at hx
      by_cases h9 : k9 < n.toNatClampNeg
      · rw [List.getElem?_range h9] at hx
        cases hx
        rfl
      · have hn0 : (List.range n.toNatClampNeg)[k9]? = none := List.getElem?_eq_none (by rw [List.length_range]; omega)
        rw [hn0] at hx
        cases hx
    refine ⟨fun i j x y hi hj hxy => ?_, fun k9 x hx => ?_⟩
    · by_cases h1 : i < W1.length <;> by_cases h2 : j < W1.length
      · rw [List.getElem?_append_left h1] at hi
        rw [List.getElem?_append_left h2] at hj
        exact hD1.1 i j x y hi hj hxy
      · rw [List.getElem?_append_left h1] at hi
        rw [List.getElem?_append_right (by omega)] at hj
        have := hle _ _ hi
        have := hr _ _ hj
        omega
      · rw [List.getElem?_append_right (by omega)] at hi
        rw [List.getElem?_append_left h2] at hj
        have := hle _ _ hj
        have := hr _ _ hi
        omega
      · rw [List.getElem?_append_right (by omega)] at hi hj
        have := hr _ _ hi
        have := hr _ _ hj
        omega
    · by_cases h1 : k9 < W1.length
      · rw [List.getElem?_append_left h1] at hx
        exact hD1.2 k9 x hx
      · rw [List.getElem?_append_right (by omega)] at hx
        have := hr _ _ hx
        exact hA _ (by have := hS.1; omega)
  have hAr : ArrOfT s cA (.array ty) := fun N9 z9 => by
    obtain ⟨-, k9, hk9, cm9, hkk9⟩ := (hO 0 0 0).1
    exact ⟨(fun q hq => by cases hq), k9, hk9, cm9, hkk9⟩
  have hK2 : va_K D cl (tys ++ [(cA, .array ty)]) s := ⟨hK.1, fun k9 x hx => by
    by_cases hl : k9 < tys.length
    · rw [List.getElem?_append_left hl] at hx
      exact hK.2 k9 x hx
    · rw [List.getElem?_append_right (by omega)] at hx
      have h0 : k9 - tys.length < 1 := (List.getElem?_eq_some_iff.mp hx).1
      rw [show k9 - tys.length = 0 by omega] at hx
      cases hx
      exact ⟨hAr, fA⟩⟩
  obtain ⟨t, a1, b1⟩ := kk H.size (fun i => H.size + 1 + i) cA F.heap (fun i j _ _ h => by have h9 : H.size + 1 + i = H.size + 1 + j := h; omega) hnl hK2 (by rw [← vr_rows hnm]; exact vr_lay hP2) (by rw [← vr_rows hnm]; exact vr_layD hD2) ⟨by rw [f1]; have := hS.1; omega, fun x h1 h2 => (hold x (Nat.lt_of_lt_of_le h1 hS.1)).trans (hS.2.1 x h1 h2), hS.2.2⟩ F rfl X'
  refine ⟨t, step t ?_, b1⟩
  have e : T.heap.size = H.size := by rw [hT]
  rw [e]
  exact a1
end VGM
/-! MAKING CELLS: number Γ.length is the next -/
def zS0 (σ : zS) (k : Nat) : zS := (fun a b => if k ≤ a then 0 else σ.1 a b, fun a b => if k ≤ a then 0 else σ.2 a b)
def zR0 (ρ : zR) (k : Nat) : zR := fun a b => if k ≤ a then none else ρ a b
/-- the references of a new int[N][] at k, its rows behind it -/
def zRo (ρ : zR) (k N : Nat) : zR := fun a b => if a = k then (if b < N then some (k + 1 + b) else none) else if k ≤ a then none else ρ a b
def zok (lo hi : Nat) (v : Value) : Prop := match v with
  | .ref k => k < lo ∨ hi ≤ k
  | _ => True
def zoks (lo hi : Nat) : List Value → Prop
  | [] => True
  | v :: t => zok lo hi v ∧ zoks lo hi t
theorem zoks_map {ad ad' : Nat → Nat} {lo hi : Nat} (h : ∀ k, k < lo ∨ hi ≤ k → ad' k = ad k) : ∀ {l : List Value}, zoks lo hi l → l.map (zv ad') = l.map (zv ad)
  | [], _ => rfl
  | v :: t, hv => by
    rw [List.map_cons, List.map_cons, zoks_map h hv.2]
    congr 1
    have h1 := hv.1
    cases v <;> first | rfl | exact congrArg Value.ref (h _ h1)
theorem zoks_lv {ad ad' : Nat → Nat} {lo hi : Nat} (h : ∀ k, k < lo ∨ hi ≤ k → ad' k = ad k) : ∀ {l : List (Nat × Value)}, zoks lo hi (l.map (fun q => q.2)) → l.map (fun q => (q.1, zv ad' q.2)) = l.map (fun q => (q.1, zv ad q.2))
  | [], _ => rfl
  | q :: t, hv => by
    rw [List.map_cons, List.map_cons, zoks_lv h hv.2]
    congr 2
    have h1 := hv.1
    obtain ⟨i, v⟩ := q
    cases v <;> first | rfl | exact congrArg Value.ref (h _ h1)
/-- the references of the old cells don't speak of the new ones -/
def zfresh (Γ : zG) (ρ : zR) (n : Nat) : Prop := ∀ k j t, k < Γ.length → ρ k j = some t → t < Γ.length ∨ Γ.length + n ≤ t
theorem zW_ext {cy : zC} {ad ad' : Nat → Nat} {Γ Γx : zG} {ρ ρ' : zR} {σ σ' : zS} (hf : zfresh Γ ρ Γx.length) (ha : ∀ k, k < Γ.length ∨ Γ.length + Γx.length ≤ k → ad' k = ad k) (hr : ∀ k j, k < Γ.length → ρ' k j = ρ k j) (h1 : ∀ k j, k < Γ.length → σ'.1 k j = σ.1 k j) (h2 : ∀ k j, k < Γ.length → σ'.2 k j = σ.2 k j) : zW cy ad' (Γ ++ Γx) ρ' σ' = zW cy ad Γ ρ σ ++ Γx.mapIdx (fun i g => (ad' (i + Γ.length), zE cy ad' ρ' σ' (i + Γ.length) g)) := by
  unfold zW
  rw [List.mapIdx_append]
  congr 1
  apply List.ext_getElem?
  intro k
  rw [List.getElem?_mapIdx, List.getElem?_mapIdx]
  cases hk : Γ[k]? with
  | none => rfl
  | some g =>
    have hl : k < Γ.length := (List.getElem?_eq_some_iff.mp hk).1
    simp only [Option.map_some]
    congr 2
    · exact ha k (Or.inl hl)
    · have hm : ∀ j, (ρ' k j).map ad' = (ρ k j).map ad := fun j => by
        rw [hr k j hl]
        cases ht : ρ k j with
        | none => rfl
        | some t => simp only [Option.map_some]; rw [ha t (hf k j t hl ht)]
      have hv : ∀ j b, zfv ad' ρ' σ' k j b = zfv ad ρ σ k j b := fun j b => by unfold zfv; rw [hm, h1 k j hl]
      have h3 : σ'.2 k = σ.2 k := funext fun j => h2 k j hl
      have h4 : (fun i => (ρ' k i).map ad') = (fun i => (ρ k i).map ad) := funext hm
      unfold zE
      split <;> simp only [hv, h3, h4]
theorem zty_int {D : va_G} {cy : zC} {cA : ClassId} {s : State} (hK : va_K D vwCl (zty cy ++ [(cA, .int)]) s) : cA = cy.1 := by
  have a := (hK.2 0 (cy.1, .int) rfl).2
  have b := (hK.2 3 (cA, .int) rfl).2
  exact Option.some.inj ((show s.vm.findClass ("[" ++ FieldType.int.toString) = some cA from b).symm.trans a)
theorem zty_boo {D : va_G} {cy : zC} {cA : ClassId} {s : State} (hK : va_K D vwCl (zty cy ++ [(cA, .boolean)]) s) : cA = cy.2.1 := by
  have a := (hK.2 1 (cy.2.1, .boolean) rfl).2
  have b := (hK.2 3 (cA, .boolean) rfl).2
  exact Option.some.inj ((show s.vm.findClass ("[" ++ FieldType.boolean.toString) = some cA from b).symm.trans a)
theorem zty_arr {D : va_G} {cy : zC} {cA : ClassId} {s : State} (hK : va_K D vwCl (zty cy ++ [(cA, .array .int)]) s) : cA = cy.2.2 := by
  have a := (hK.2 2 (cy.2.2, .array .int) rfl).2
  have b := (hK.2 3 (cA, .array .int) rfl).2
  exact Option.some.inj ((show s.vm.findClass ("[" ++ (FieldType.array .int).toString) = some cA from b).symm.trans a)
/-- what the tables say of a class whose object is made -/
def zNw (own : String) (idx ci : Nat) : Prop := ∃ (C : String) (T : u_T) (N : Nat) (ty0 : Nat → FieldType), vwCl[ci]? = some (C, T, N) ∧ (∀ w ∈ u_ws C T N, w ∈ ztb) ∧ (∀ k, k < N → parseFieldDescriptor (T k).2.2.1 = some (ty0 k)) ∧ Cond.classLink own idx C ∈ ztb ∧ Cond.instantiable C N ∈ ztb ∧ Cond.initialized C ∈ ztb ∧ (zfk ci).length = N ∧ ∀ j, j < N → defaultValue (ty0 j) = (if (zfk ci)[j]? = some true then .null else .int 0)
section ZMAKE
variable {own : String} {cc : ByteArray} {nL : Nat} {ret : Option FieldType} {ini : Bool} {rm : Room} {n0 : Nat} {Q : Int32 → zG → zR → zS → Prop} {pc pc' tgt : Nat} {lv : List (Nat × Value)} {st : List Value} {Γ : zG} {ρ : zR} {σ : zS} {ce sl : Nat}
theorem z_new {idx ci : Nat} (hd : zd cc pc (.new idx) 3 pc') (hn : zNw own idx ci) (hfr : zfresh Γ ρ 1) (hn0 : n0 ≤ Γ.length) (hlv : zoks Γ.length (Γ.length + 1) (lv.map (fun q => q.2))) (hst : zoks Γ.length (Γ.length + 1) st) (hc : ce + 1 ≤ rm.cells) (hs : sl + (zfk ci).length ≤ rm.slots) (kk : zAW own cc nL ret ini rm n0 Q pc' lv (.ref Γ.length :: st) (Γ ++ [(0, ci)]) (zR0 ρ Γ.length) (zS0 σ Γ.length) (ce + 1) (sl + (zfk ci).length)) : zAW own cc nL ret ini rm n0 Q pc lv st Γ ρ σ ce sl := by
  intro p l e s m args below meth c D cy ad0 ad A H locs ls hC hK hag hP hD hS hA hh
  obtain ⟨hd, rfl⟩ := hd
  obtain ⟨C, T, N, ty0, hcl, hin, hty, hlk, hinst, hini, hlen, hdef⟩ := hn
  obtain ⟨hx, hb, hr, hml, hown, hts, hlocks, hin9, hns⟩ := id hC
  subst hlen
  refine va_new (ci := ci) (fs := (zfk ci).mapIdx (fun j b => if b = true then Value.null else .int 0)) hx hb hts hin ty0 hty hown (hts _ hlk) (hts _ hinst) (hts _ hini) hK hP hD hS hA hcl (fun j hj => ?_) hc hs hd (fun q H1 hP1 hD1 hS1 => ?_)
  · rw [hdef j hj]
    unfold vp_V
    rw [List.getD_eq_getElem?_getD, List.getElem?_mapIdx]
    cases hz : (zfk ci)[j]? with
    | none => exact absurd (List.getElem?_eq_none_iff.mp hz) (by omega)
    | some b => cases b <;> rfl
  · have ha : ∀ k, k < Γ.length ∨ Γ.length + 1 ≤ k → (fun j => if j = Γ.length then q else ad j) k = ad k := fun k hk => if_neg (by omega)
    have hE : zW cy (fun j => if j = Γ.length then q else ad j) (Γ ++ [(0, ci)]) (zR0 ρ Γ.length) (zS0 σ Γ.length) = zW cy ad Γ ρ σ ++ [(q, .inr (ci, (zfk ci).mapIdx (fun j b => if b = true then Value.null else .int 0)))] := by
      rw [zW_ext (ρ := ρ) (σ := σ) (Γx := [(0, ci)]) hfr ha (fun k j hk => by simp [zR0, Nat.not_le.mpr hk]) (fun k j hk => by simp [zS0, Nat.not_le.mpr hk]) (fun k j hk => by simp [zS0, Nat.not_le.mpr hk])]
      have hfun : (fun j b => zfv (fun j => if j = Γ.length then q else ad j) (zR0 ρ Γ.length) (zS0 σ Γ.length) (0 + Γ.length) j b) = (fun (_ : Nat) (b : Bool) => if b = true then Value.null else Value.int 0) := by
        funext j b
        simp [zfv, zR0, zS0, va_rf]
      congr 1
      rw [List.mapIdx_cons, List.mapIdx_nil]
      unfold zE
      rw [hfun, if_pos (Nat.zero_add _)]
      rfl
    have hl := zoks_lv ha hlv
    have hs9 := zoks_map ha hst
    have := kk p l e s m args below meth c D cy ad0 (fun j => if j = Γ.length then q else ad j) A H1 locs ls hC hK (fun k hk => by
      rw [List.length_append, List.length_singleton] at hk
      exact (ha k (by omega)).trans (hag k (by omega))) (by rw [hE]; exact hP1) (by rw [hE]; exact hD1) hS1 hA (by rw [hl]; exact hh)
    rw [List.map_cons, hs9] at this
    simpa [zv] using this
theorem z_newa {n : Int32} {N : Nat} (hd : zd cc pc (.newarray .int) 2 pc') (hw0 : Cond.arrayClass .int ∈ ztb) (hneg : ¬ n < 0) (hN : n.toNatClampNeg = N) (hbig : N * componentBytes .int ≤ 536870912) (hfr : zfresh Γ ρ 1) (hn0 : n0 ≤ Γ.length) (hlv : zoks Γ.length (Γ.length + 1) (lv.map (fun q => q.2))) (hst : zoks Γ.length (Γ.length + 1) st) (hc : ce + 1 ≤ rm.cells) (hs : sl + N ≤ rm.slots) (kk : zAW own cc nL ret ini rm n0 Q pc' lv (.ref Γ.length :: st) (Γ ++ [(1, N)]) (zR0 ρ Γ.length) (zS0 σ Γ.length) (ce + 1) (sl + N)) : zAW own cc nL ret ini rm n0 Q pc lv (.int n :: st) Γ ρ σ ce sl := by
  intro p l e s m args below meth c D cy ad0 ad A H locs ls hC hK hag hP hD hS hA hh
  obtain ⟨hd, rfl⟩ := hd
  obtain ⟨hx, hb, hr, hml, hown, hts, hlocks, hin9, hns⟩ := id hC
  refine va_newa (atype := .int) (a0 := (N, .inl (fun _ => 0))) (ty := .int) hx hb (hts _ hw0) rfl hK hP hD hS hA (fun cA => by rw [vp_cell_i]; rfl) hneg hN hbig hc hs hd (fun q cA H1 hK1 hP1 hD1 hS1 => ?_)
  have hcA := zty_int hK1
  subst hcA
  have ha : ∀ k, k < Γ.length ∨ Γ.length + 1 ≤ k → (fun j => if j = Γ.length then q else ad j) k = ad k := fun k hk => if_neg (by omega)
  have hE : zW cy (fun j => if j = Γ.length then q else ad j) (Γ ++ [(1, N)]) (zR0 ρ Γ.length) (zS0 σ Γ.length) = zW cy ad Γ ρ σ ++ [(q, .inl (cy.1, N, .inl (fun _ => 0)))] := by
    rw [zW_ext (ρ := ρ) (σ := σ) (Γx := [(1, N)]) hfr ha (fun k j hk => by simp [zR0, Nat.not_le.mpr hk]) (fun k j hk => by simp [zS0, Nat.not_le.mpr hk]) (fun k j hk => by simp [zS0, Nat.not_le.mpr hk])]
    simp [zE, zS0]
  have hl := zoks_lv ha hlv
  have hs9 := zoks_map ha hst
  have := kk p l e s m args below meth c D cy ad0 (fun j => if j = Γ.length then q else ad j) A H1 locs ls hC hK (fun k hk => by
    rw [List.length_append, List.length_singleton] at hk
    exact (ha k (by omega)).trans (hag k (by omega))) (by rw [hE]; exact hP1) (by rw [hE]; exact hD1) hS1 hA (by rw [hl]; exact hh)
  rw [List.map_cons, hs9] at this
  simpa [zv] using this
theorem z_newz {n : Int32} {N : Nat} (hd : zd cc pc (.newarray .boolean) 2 pc') (hw0 : Cond.arrayClass .boolean ∈ ztb) (hneg : ¬ n < 0) (hN : n.toNatClampNeg = N) (hbig : N * componentBytes .boolean ≤ 536870912) (hfr : zfresh Γ ρ 1) (hn0 : n0 ≤ Γ.length) (hlv : zoks Γ.length (Γ.length + 1) (lv.map (fun q => q.2))) (hst : zoks Γ.length (Γ.length + 1) st) (hc : ce + 1 ≤ rm.cells) (hs : sl + N ≤ rm.slots) (kk : zAW own cc nL ret ini rm n0 Q pc' lv (.ref Γ.length :: st) (Γ ++ [(2, N)]) (zR0 ρ Γ.length) (zS0 σ Γ.length) (ce + 1) (sl + N)) : zAW own cc nL ret ini rm n0 Q pc lv (.int n :: st) Γ ρ σ ce sl := by
  intro p l e s m args below meth c D cy ad0 ad A H locs ls hC hK hag hP hD hS hA hh
  obtain ⟨hd, rfl⟩ := hd
  obtain ⟨hx, hb, hr, hml, hown, hts, hlocks, hin9, hns⟩ := id hC
  refine va_newa (atype := .boolean) (a0 := (N, .inl (fun _ => 0))) (ty := .boolean) hx hb (hts _ hw0) rfl hK hP hD hS hA (fun cA => by rw [vp_cell_i]; rfl) hneg hN hbig hc hs hd (fun q cA H1 hK1 hP1 hD1 hS1 => ?_)
  have hcA := zty_boo hK1
  subst hcA
  have ha : ∀ k, k < Γ.length ∨ Γ.length + 1 ≤ k → (fun j => if j = Γ.length then q else ad j) k = ad k := fun k hk => if_neg (by omega)
  have hE : zW cy (fun j => if j = Γ.length then q else ad j) (Γ ++ [(2, N)]) (zR0 ρ Γ.length) (zS0 σ Γ.length) = zW cy ad Γ ρ σ ++ [(q, .inl (cy.2.1, N, .inl (fun _ => 0)))] := by
    rw [zW_ext (ρ := ρ) (σ := σ) (Γx := [(2, N)]) hfr ha (fun k j hk => by simp [zR0, Nat.not_le.mpr hk]) (fun k j hk => by simp [zS0, Nat.not_le.mpr hk]) (fun k j hk => by simp [zS0, Nat.not_le.mpr hk])]
    simp [zE, zS0]
  have hl := zoks_lv ha hlv
  have hs9 := zoks_map ha hst
  have := kk p l e s m args below meth c D cy ad0 (fun j => if j = Γ.length then q else ad j) A H1 locs ls hC hK (fun k hk => by
    rw [List.length_append, List.length_singleton] at hk
    exact (ha k (by omega)).trans (hag k (by omega))) (by rw [hE]; exact hP1) (by rw [hE]; exact hD1) hS1 hA (by rw [hl]; exact hh)
  rw [List.map_cons, hs9] at this
  simpa [zv] using this
theorem z_mna {n k : Int32} {N K idx : Nat} (hd : zd cc pc (.multianewarray idx 2) 4 pc') (hw0 : Cond.arrayClass .int ∈ ztb) (hlk : Cond.classLink own idx ("[" ++ (FieldType.array .int).toString) ∈ ztb) (hneg : ¬ n < 0) (hneg2 : ¬ k < 0) (hN : n.toNatClampNeg = N) (hM : k.toNatClampNeg = K) (hb1 : N * 4 ≤ 536870912) (hb2 : K * componentBytes .int ≤ 536870912) (hb3 : K ≤ 536870912) (hfr : zfresh Γ ρ (1 + N)) (hn0 : n0 ≤ Γ.length) (hlv : zoks Γ.length (Γ.length + (1 + N)) (lv.map (fun q => q.2))) (hst : zoks Γ.length (Γ.length + (1 + N)) st) (hc : ce + (1 + N) ≤ rm.cells) (hs : sl + (N + N * K) ≤ rm.slots) (kk : zAW own cc nL ret ini rm n0 Q pc' lv (.ref Γ.length :: st) (Γ ++ ((3, N) :: List.replicate N (1, K))) (zRo ρ Γ.length N) (zS0 σ Γ.length) (ce + 1 + N) (sl + N + N * K)) : zAW own cc nL ret ini rm n0 Q pc lv (.int k :: .int n :: st) Γ ρ σ ce sl := by
  intro p l e s m args below meth c D cy ad0 ad A H locs ls hC hK hag hP hD hS hA hh
  obtain ⟨hd, rfl⟩ := hd
  obtain ⟨hx, hb, hr, hml, hown, hts, hlocks, hin9, hns⟩ := id hC
  have hcy : s.vm.findClass (FieldType.array .int).toString = some cy.1 := (hK.2 0 (cy.1, .int) rfl).2
  refine va_mna (X := zW cy ad Γ ρ σ) (L := []) (f := fun _ => .inr (0, [])) (ty := .int) (cy := cy.1) (z := (K, .inl (fun _ => 0))) hx hb hown (hts _ hlk) hns.2 (hts _ hw0) hcy hK (by simpa [va_pl] using hP) (by simpa [va_pl] using hD) hS hA hneg hneg2 hN hM hb1 hb2 hb3 rfl rfl hc hs (fun c => by rw [vp_cell_i]; unfold Jvm.Free.Multi.innerC; rw [arrV_new]; rfl) hd (fun q r cA H1 hinj hnl hK1 hP1 hD1 hS1 => ?_)
  have hcA := zty_arr hK1
  subst hcA
  have ha : ∀ k, k < Γ.length ∨ Γ.length + (1 + N) ≤ k → (fun j => if j = Γ.length then q else if Γ.length < j ∧ j ≤ Γ.length + N then r (j - Γ.length - 1) else ad j) k = ad k := fun k hk => by
    show (if k = Γ.length then q else if Γ.length < k ∧ k ≤ Γ.length + N then r (k - Γ.length - 1) else ad k) = ad k
    rw [if_neg (by omega), if_neg (by omega)]
  have hE : zW cy (fun j => if j = Γ.length then q else if Γ.length < j ∧ j ≤ Γ.length + N then r (j - Γ.length - 1) else ad j) (Γ ++ ((3, N) :: List.replicate N (1, K))) (zRo ρ Γ.length N) (zS0 σ Γ.length) = (zW cy ad Γ ρ σ ++ [(q, .inl (cy.2.2, N, .inr (.inr (.inr (.inr (fun i => if i < N then some (r i) else none))))))]) ++ va_pl ([] ++ (List.range N).map r) (vr_up (fun _ => .inr (0, [])) ((List.range N).map r) (.inl (cy.1, K, .inl (fun _ => 0)))) := by
    rw [zW_ext (ρ := ρ) (σ := σ) (Γx := (3, N) :: List.replicate N (1, K)) (by rw [List.length_cons, List.length_replicate, Nat.add_comm]; exact hfr) (by rw [List.length_cons, List.length_replicate, Nat.add_comm N 1]; exact ha) (fun k j hk => by simp [zRo, Nat.ne_of_lt hk, Nat.not_le.mpr hk]) (fun k j hk => by simp [zS0, Nat.not_le.mpr hk]) (fun k j hk => by simp [zS0, Nat.not_le.mpr hk])]
    rw [List.append_assoc]
    congr 1
    have hfun : (fun i => (zRo ρ Γ.length N (0 + Γ.length) i).map (fun j => if j = Γ.length then q else if Γ.length < j ∧ j ≤ Γ.length + N then r (j - Γ.length - 1) else ad j)) = (fun i => if i < N then some (r i) else none) := by
      funext i
      unfold zRo
      rw [if_pos (Nat.zero_add _)]
      by_cases hi : i < N
      · rw [if_pos hi, if_pos hi]
        show some (if Γ.length + 1 + i = Γ.length then q else if Γ.length < Γ.length + 1 + i ∧ Γ.length + 1 + i ≤ Γ.length + N then r (Γ.length + 1 + i - Γ.length - 1) else ad (Γ.length + 1 + i)) = _
        rw [if_neg (by omega), if_pos (by omega)]
        congr 2
        omega
      · rw [if_neg hi, if_neg hi]
        rfl
    rw [List.mapIdx_cons, List.singleton_append]
    congr 1
    · rw [if_pos (Nat.zero_add _)]
      unfold zE
      rw [hfun]
      rfl
    · rw [List.nil_append]
      unfold va_pl
      rw [List.map_map]
      apply List.ext_getElem?
      intro i
      rw [List.getElem?_mapIdx, List.getElem?_replicate, List.getElem?_map]
      by_cases hi : i < N
      · rw [if_pos hi, List.getElem?_range hi]
        simp only [Option.map_some, Function.comp]
        congr 2
        · rw [if_neg (by omega), if_pos (by omega)]
          congr 1
          omega
        · rw [vr_up_in (List.mem_map.mpr ⟨i, List.mem_range.mpr hi, rfl⟩)]
          have hz : (zS0 σ Γ.length).2 (i + 1 + Γ.length) = fun _ => 0 := by
            funext j
            show (if Γ.length ≤ i + 1 + Γ.length then (0 : Int32) else _) = 0
            rw [if_pos (by omega)]
          show Sum.inl (cy.1, K, Sum.inl ((zS0 σ Γ.length).2 (i + 1 + Γ.length))) = _
          rw [hz]
      · rw [if_neg hi, List.getElem?_eq_none (by rw [List.length_range]; omega)]
        rfl
  have hl := zoks_lv ha hlv
  have hs9 := zoks_map ha hst
  have := kk p l e s m args below meth c D cy ad0 (fun j => if j = Γ.length then q else if Γ.length < j ∧ j ≤ Γ.length + N then r (j - Γ.length - 1) else ad j) A H1 locs ls hC hK (fun k hk => by
    rw [List.length_append, List.length_cons, List.length_replicate] at hk
    exact (ha k (by omega)).trans (hag k (by omega))) (by rw [hE]; exact hP1) (by rw [hE]; exact hD1) hS1 hA (by rw [hl]; exact hh)
  rw [List.map_cons, hs9] at this
  simpa [zv] using this
end ZMAKE

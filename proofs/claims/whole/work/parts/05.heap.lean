/-- a field that own's pool entry idx names: class number, place, type, whether final -/
def zF (own : String) (idx ci k : Nat) (ty : FieldType) (fin : Bool) : Prop := ∃ (C : String) (T : u_T) (N : Nat) (ty0 : Nat → FieldType), vwCl[ci]? = some (C, T, N) ∧ (∀ w ∈ u_ws C T N, w ∈ ztb) ∧ (∀ k, k < N → parseFieldDescriptor (T k).2.2.1 = some (ty0 k)) ∧ (∀ a, a < N → ∀ b, b < N → a ≠ b → (T a).2.1 ≠ (T b).2.1) ∧ k < N ∧ Cond.fieldLink own idx (T k).1 (T k).2.1 (T k).2.2.1 ∈ ztb ∧ (T k).2.2.2 = fin ∧ (fin = true → (T k).1 = C) ∧ parseFieldDescriptor (T k).2.2.1 = some ty ∧ (zfk ci).length = N
section ZHEAP
variable {own : String} {cc : ByteArray} {nL : Nat} {ret : Option FieldType} {ini : Bool} {rm : Room} {n0 : Nat} {Q : Int32 → zG → zR → zS → Prop} {pc pc' tgt : Nat} {lv : List (Nat × Value)} {st : List Value} {Γ : zG} {ρ : zR} {σ : zS} {ce sl : Nat}
theorem z_get {idx ci k r : Nat} {ty : FieldType} {fin b : Bool} {v : Value} (hd : zd cc pc (.getfield idx) 3 pc') (hf : zF own idx ci k ty fin) (hg : Γ[r]? = some (0, ci)) (hk : (zfk ci)[k]? = some b) (hv : ∀ ad : Nat → Nat, zfv ad ρ σ r k b = zv ad v) (kk : zAW own cc nL ret ini rm n0 Q pc' lv (v :: st) Γ ρ σ ce sl) : zAW own cc nL ret ini rm n0 Q pc lv (.ref r :: st) Γ ρ σ ce sl := by
  intro p l e s m args below meth c D cy ad0 ad A H locs ls hC hK hag hP hD hS hA hh
  obtain ⟨hd, rfl⟩ := hd
  obtain ⟨C, T, N, ty0, hc, hin, hty, hnm, hkN, hlk, hfin, hfC, hd5, hlen⟩ := hf
  refine va_get (v := zv ad v) hC.1 hC.2.1 hC.2.2.2.2.2.1 hin hC.2.2.2.2.1 hK hP r (zW_get hg) hc k hkN (hC.2.2.2.2.2.1 _ hlk) (fun _ h9 => h9) ?_ hd (kk p l e s m args below meth c D cy ad0 ad A H locs ls hC hK hag hP hD hS hA hh)
  rw [zfv_0 hk, hv]
/-- an int field -/
theorem z_geti {idx ci k r : Nat} {ty : FieldType} {fin : Bool} (hd : zd cc pc (.getfield idx) 3 pc') (hf : zF own idx ci k ty fin) (hg : Γ[r]? = some (0, ci)) (hk : (zfk ci)[k]? = some false) (kk : zAW own cc nL ret ini rm n0 Q pc' lv (.int (σ.1 r k) :: st) Γ ρ σ ce sl) : zAW own cc nL ret ini rm n0 Q pc lv (.ref r :: st) Γ ρ σ ce sl :=
  z_get hd hf hg hk (fun _ => rfl) kk
/-- a field that is a reference -/
theorem z_getr {idx ci k r t : Nat} {ty : FieldType} {fin : Bool} (hd : zd cc pc (.getfield idx) 3 pc') (hf : zF own idx ci k ty fin) (hg : Γ[r]? = some (0, ci)) (hk : (zfk ci)[k]? = some true) (ht : ρ r k = some t) (kk : zAW own cc nL ret ini rm n0 Q pc' lv (.ref t :: st) Γ ρ σ ce sl) : zAW own cc nL ret ini rm n0 Q pc lv (.ref r :: st) Γ ρ σ ce sl :=
  z_get hd hf hg hk (fun ad => by unfold zfv; rw [ht]; rfl) kk
theorem zput_I {cy : zC} {ad : Nat → Nat} {r ci k : Nat} {v : Int32} (hg : Γ[r]? = some (0, ci)) (hk : (zfk ci)[k]? = some false) : (zW cy ad Γ ρ σ).set r (ad r, .inr (ci, ((zfk ci).mapIdx (fun j b => zfv ad ρ σ r j b)).set k (.int v))) = zW cy ad Γ ρ (zI σ r k v) :=
  zW_set hg (by
    rw [zfv_set (ρ' := ρ) (σ' := zI σ r k v) hk (by simp [zfv, zI]) (fun i b hi => by simp [zfv, zI, hi])]
    rfl) (fun j gj hj => zE_I j gj hj)
theorem z_put {idx ci k r : Nat} {ty : FieldType} {v : Int32} (hd : zd cc pc (.putfield idx) 3 pc') (hf : zF own idx ci k ty false) (hg : Γ[r]? = some (0, ci)) (hk : (zfk ci)[k]? = some false) (h1 : narrow ty (.int v) = .int v) (h2 : fits ty (.int v) = true) (kk : zAW own cc nL ret ini rm n0 Q pc' lv st Γ ρ (zI σ r k v) ce sl) : zAW own cc nL ret ini rm n0 Q pc lv (.int v :: .ref r :: st) Γ ρ σ ce sl := by
  intro p l e s m args below meth c D cy ad0 ad A H locs ls hC hK hag hP hD hS hA hh
  obtain ⟨hd, rfl⟩ := hd
  obtain ⟨C, T, N, ty0, hc, hin, hty, hnm, hkN, hlk, hfin, hfC, hd5, hlen⟩ := hf
  refine va_put (v := .int v) hC.1 hC.2.1 hC.2.2.2.2.2.1 hin ty0 hty hnm hC.2.2.2.2.1 hK hP hD hS r (zW_get hg) hc k hkN (hC.2.2.2.2.2.1 _ hlk) (fun _ h9 => h9) hfin hd5 h1 h2 (by rw [List.length_mapIdx, hlen]; exact hkN) hd (fun H1 locs1 hP1 hD1 hS1 => ?_)
  rw [zput_I hg hk] at hP1 hD1
  exact kk p l e s m args below meth c D cy ad0 ad A H1 locs1 ls hC hK hag hP1 hD1 hS1 hA hh
theorem z_puti {idx ci k r : Nat} {v : Int32} (hd : zd cc pc (.putfield idx) 3 pc') (hf : zF own idx ci k .int false) (hg : Γ[r]? = some (0, ci)) (hk : (zfk ci)[k]? = some false) (kk : zAW own cc nL ret ini rm n0 Q pc' lv st Γ ρ (zI σ r k v) ce sl) : zAW own cc nL ret ini rm n0 Q pc lv (.int v :: .ref r :: st) Γ ρ σ ce sl :=
  z_put hd hf hg hk rfl rfl kk
theorem zb_nar {v : Int32} (h : v = 0 ∨ v = 1) : narrow .boolean (.int v) = .int v := by rcases h with rfl | rfl <;> decide +kernel
theorem zb_fit {v : Int32} (h : v = 0 ∨ v = 1) : fits .boolean (.int v) = true := by rcases h with rfl | rfl <;> decide +kernel
theorem z_putz {idx ci k r : Nat} {v : Int32} {P : Prop} (hd : zd cc pc (.putfield idx) 3 pc') (hf : zF own idx ci k .boolean false) (hg : Γ[r]? = some (0, ci)) (hk : (zfk ci)[k]? = some false) (hw : (v = 0 ∨ v = 1) ∧ P) (kk : P → zAW own cc nL ret ini rm n0 Q pc' lv st Γ ρ (zI σ r k v) ce sl) : zAW own cc nL ret ini rm n0 Q pc lv (.int v :: .ref r :: st) Γ ρ σ ce sl :=
  z_put hd hf hg hk (zb_nar hw.1) (zb_fit hw.1) (kk hw.2)
/-- in a constructor, a final int field -/
theorem z_putF {idx ci k r : Nat} {v : Int32} (hd : zd cc pc (.putfield idx) 3 pc') (hf : zF own idx ci k .int true) (hci : ∃ T N, vwCl[ci]? = some (own, T, N)) (hi : ini = true) (hg : Γ[r]? = some (0, ci)) (hk : (zfk ci)[k]? = some false) (kk : zAW own cc nL ret ini rm n0 Q pc' lv st Γ ρ (zI σ r k v) ce sl) : zAW own cc nL ret ini rm n0 Q pc lv (.int v :: .ref r :: st) Γ ρ σ ce sl := by
  intro p l e s m args below meth c D cy ad0 ad A H locs ls hC hK hag hP hD hS hA hh
  obtain ⟨hd, rfl⟩ := hd
  obtain ⟨C, T, N, ty0, hc, hin, hty, hnm, hkN, hlk, hfin, hfC, hd5, hlen⟩ := hf
  obtain ⟨T9, N9, hc9⟩ := hci
  have hCo : C = own := by rw [hc] at hc9; cases hc9; rfl
  refine va_putF (v := .int v) hC.1 hC.2.1 hC.2.2.2.2.2.1 hin ty0 hty hnm hC.2.2.2.2.1 hK hP hD hS r (zW_get hg) hc k hkN (hC.2.2.2.2.2.1 _ hlk) (fun _ h9 => h9) hfin (hC.2.2.2.2.2.2.2.1 hi) ((hfC rfl).trans hCo) hd5 rfl rfl (by rw [List.length_mapIdx, hlen]; exact hkN) hd (fun H1 locs1 hP1 hD1 hS1 => ?_)
  rw [zput_I hg hk] at hP1 hD1
  exact kk p l e s m args below meth c D cy ad0 ad A H1 locs1 ls hC hK hag hP1 hD1 hS1 hA hh
theorem zput_R {cy : zC} {ad : Nat → Nat} {r ci k t : Nat} (hg : Γ[r]? = some (0, ci)) (hk : (zfk ci)[k]? = some true) : (zW cy ad Γ ρ σ).set r (ad r, .inr (ci, ((zfk ci).mapIdx (fun j b => zfv ad ρ σ r j b)).set k (.ref (ad t)))) = zW cy ad Γ (zRu ρ r k (some t)) σ :=
  zW_set hg (by
    rw [zfv_set (ρ' := zRu ρ r k (some t)) (σ' := σ) hk (by simp [zfv, zRu, va_rf]) (fun i b hi => by simp [zfv, zRu, hi])]
    rfl) (fun j gj hj => zE_R j gj hj)
theorem z_putr {idx ci k r t : Nat} {ty : FieldType} (hd : zd cc pc (.putfield idx) 3 pc') (hf : zF own idx ci k ty false) (hg : Γ[r]? = some (0, ci)) (hk : (zfk ci)[k]? = some true) (h1 : ∀ a : Nat, narrow ty (.ref a) = .ref a) (h2 : ∀ a : Nat, fits ty (.ref a) = true) (kk : zAW own cc nL ret ini rm n0 Q pc' lv st Γ (zRu ρ r k (some t)) σ ce sl) : zAW own cc nL ret ini rm n0 Q pc lv (.ref t :: .ref r :: st) Γ ρ σ ce sl := by
  intro p l e s m args below meth c D cy ad0 ad A H locs ls hC hK hag hP hD hS hA hh
  obtain ⟨hd, rfl⟩ := hd
  obtain ⟨C, T, N, ty0, hc, hin, hty, hnm, hkN, hlk, hfin, hfC, hd5, hlen⟩ := hf
  refine va_put (v := .ref (ad t)) hC.1 hC.2.1 hC.2.2.2.2.2.1 hin ty0 hty hnm hC.2.2.2.2.1 hK hP hD hS r (zW_get hg) hc k hkN (hC.2.2.2.2.2.1 _ hlk) (fun _ h9 => h9) hfin hd5 (h1 _) (h2 _) (by rw [List.length_mapIdx, hlen]; exact hkN) hd (fun H1 locs1 hP1 hD1 hS1 => ?_)
  rw [zput_R hg hk] at hP1 hD1
  exact kk p l e s m args below meth c D cy ad0 ad A H1 locs1 ls hC hK hag hP1 hD1 hS1 hA hh
theorem z_putrF {idx ci k r t : Nat} {ty : FieldType} (hd : zd cc pc (.putfield idx) 3 pc') (hf : zF own idx ci k ty true) (hci : ∃ T N, vwCl[ci]? = some (own, T, N)) (hi : ini = true) (hg : Γ[r]? = some (0, ci)) (hk : (zfk ci)[k]? = some true) (h1 : ∀ a : Nat, narrow ty (.ref a) = .ref a) (h2 : ∀ a : Nat, fits ty (.ref a) = true) (kk : zAW own cc nL ret ini rm n0 Q pc' lv st Γ (zRu ρ r k (some t)) σ ce sl) : zAW own cc nL ret ini rm n0 Q pc lv (.ref t :: .ref r :: st) Γ ρ σ ce sl := by
  intro p l e s m args below meth c D cy ad0 ad A H locs ls hC hK hag hP hD hS hA hh
  obtain ⟨hd, rfl⟩ := hd
  obtain ⟨C, T, N, ty0, hc, hin, hty, hnm, hkN, hlk, hfin, hfC, hd5, hlen⟩ := hf
  obtain ⟨T9, N9, hc9⟩ := hci
  have hCo : C = own := by rw [hc] at hc9; cases hc9; rfl
  refine va_putF (v := .ref (ad t)) hC.1 hC.2.1 hC.2.2.2.2.2.1 hin ty0 hty hnm hC.2.2.2.2.1 hK hP hD hS r (zW_get hg) hc k hkN (hC.2.2.2.2.2.1 _ hlk) (fun _ h9 => h9) hfin (hC.2.2.2.2.2.2.2.1 hi) ((hfC rfl).trans hCo) hd5 (h1 _) (h2 _) (by rw [List.length_mapIdx, hlen]; exact hkN) hd (fun H1 locs1 hP1 hD1 hS1 => ?_)
  rw [zput_R hg hk] at hP1 hD1
  exact kk p l e s m args below meth c D cy ad0 ad A H1 locs1 ls hC hK hag hP1 hD1 hS1 hA hh
/-! arrays -/
theorem z_iald {a n : Nat} {i : Int32} {P : Prop} (hd : zd cc pc .iaload 1 pc') (hg : Γ[a]? = some (1, n)) (hw : vp_in i n ∧ P) (kk : P → zAW own cc nL ret ini rm n0 Q pc' lv (.int (σ.2 a i.toNatClampNeg) :: st) Γ ρ σ ce sl) : zAW own cc nL ret ini rm n0 Q pc lv (.int i :: .ref a :: st) Γ ρ σ ce sl := by
  intro p l e s m args below meth c D cy ad0 ad A H locs ls hC hK hag hP hD hS hA hh
  obtain ⟨hd, rfl⟩ := hd
  exact va_iald hC.1 hC.2.1 hK hP a 0 (zW_get hg) rfl hw.1 hd (kk hw.2 p l e s m args below meth c D cy ad0 ad A H locs ls hC hK hag hP hD hS hA hh)
theorem z_zald {a n : Nat} {i : Int32} {P : Prop} (hd : zd cc pc .baload 1 pc') (hg : Γ[a]? = some (2, n)) (hw : vp_in i n ∧ P) (kk : P → zAW own cc nL ret ini rm n0 Q pc' lv (.int (σ.2 a i.toNatClampNeg) :: st) Γ ρ σ ce sl) : zAW own cc nL ret ini rm n0 Q pc lv (.int i :: .ref a :: st) Γ ρ σ ce sl := by
  intro p l e s m args below meth c D cy ad0 ad A H locs ls hC hK hag hP hD hS hA hh
  obtain ⟨hd, rfl⟩ := hd
  exact va_zald hC.1 hC.2.1 hK hP a 1 (zW_get hg) rfl hw.1 hd (kk hw.2 p l e s m args below meth c D cy ad0 ad A H locs ls hC hK hag hP hD hS hA hh)
theorem z_aald {a n : Nat} {i : Int32} {t : Nat} {P : Prop} (hd : zd cc pc .aaload 1 pc') (hg : Γ[a]? = some (3, n)) (hw : vp_in i n ∧ P) (ht : vp_in i n → ρ a i.toNatClampNeg = some t) (kk : P → zAW own cc nL ret ini rm n0 Q pc' lv (.ref t :: st) Γ ρ σ ce sl) : zAW own cc nL ret ini rm n0 Q pc lv (.int i :: .ref a :: st) Γ ρ σ ce sl := by
  intro p l e s m args below meth c D cy ad0 ad A H locs ls hC hK hag hP hD hS hA hh
  obtain ⟨hd, rfl⟩ := hd
  have hlt : i.toNatClampNeg < n := Nat.not_le.mp fun q => hw.1 (Or.inr q)
  have hK3 := hK.2 2 (cy.2.2, .array .int) rfl
  refine W.aald (v := .ref (ad t)) (ty := .array .int) hC.1 hC.2.1 (hP a _ (zW_get hg)) (hK3.1 n (fun j => va_rf ((ρ a j).map ad))) rfl (fun q => by cases q) (by show ¬ (i < 0 ∨ (arrV _ _ _).slots.size ≤ _); rw [arrV_size]; exact hw.1) (by show (arrV _ _ _).slots[_]? = _; rw [arrV_read _ _ hlt]; show some (va_rf ((ρ a i.toNatClampNeg).map ad)) = _; rw [ht hw.1]; rfl) rfl rfl hd (kk hw.2 p l e s m args below meth c D cy ad0 ad A H locs ls hC hK hag hP hD hS hA hh)
theorem z_alen {a n : Nat} (hd : zd cc pc .arraylength 1 pc') (hg : Γ[a]? = some (1, n)) (kk : zAW own cc nL ret ini rm n0 Q pc' lv (.int (nI n) :: st) Γ ρ σ ce sl) : zAW own cc nL ret ini rm n0 Q pc lv (.ref a :: st) Γ ρ σ ce sl := by
  intro p l e s m args below meth c D cy ad0 ad A H locs ls hC hK hag hP hD hS hA hh
  obtain ⟨hd, rfl⟩ := hd
  exact va_alen (v := nI n) hC.1 hC.2.1 hK hP a 0 (zW_get hg) rfl rfl hd (kk p l e s m args below meth c D cy ad0 ad A H locs ls hC hK hag hP hD hS hA hh)
theorem zupd {f : Nat → Int32} {a i : Nat} {x : Int32} (h : f = σ.2 a) : upd f i x = (zA σ a i x).2 a := by
  subst h
  funext j
  simp [zA, upd]
theorem z_iast {a n : Nat} {i x : Int32} {P : Prop} (hd : zd cc pc .iastore 1 pc') (hg : Γ[a]? = some (1, n)) (hw : vp_in i n ∧ P) (kk : P → zAW own cc nL ret ini rm n0 Q pc' lv st Γ ρ (zA σ a i.toNatClampNeg x) ce sl) : zAW own cc nL ret ini rm n0 Q pc lv (.int x :: .int i :: .ref a :: st) Γ ρ σ ce sl := by
  intro p l e s m args below meth c D cy ad0 ad A H locs ls hC hK hag hP hD hS hA hh
  obtain ⟨hd, rfl⟩ := hd
  refine va_iast hC.1 hC.2.1 hK hP hD hS a 0 (zW_get hg) rfl hw.1 hd (fun H1 locs1 hP1 hD1 hS1 => ?_)
  have hE : (zW cy ad Γ ρ σ).set a (ad a, .inl (cy.1, n, .inl (upd (σ.2 a) i.toNatClampNeg x))) = zW cy ad Γ ρ (zA σ a i.toNatClampNeg x) := zW_set hg (by rw [zupd (σ := σ) (a := a) rfl]; rfl) (fun j gj hj => zE_A j gj hj)
  rw [hE] at hP1 hD1
  exact kk hw.2 p l e s m args below meth c D cy ad0 ad A H1 locs1 ls hC hK hag hP1 hD1 hS1 hA hh
theorem z_zast {a n : Nat} {i x : Int32} {P : Prop} (hd : zd cc pc .bastore 1 pc') (hg : Γ[a]? = some (2, n)) (hw : vp_in i n ∧ (x = 0 ∨ x = 1) ∧ P) (kk : P → zAW own cc nL ret ini rm n0 Q pc' lv st Γ ρ (zA σ a i.toNatClampNeg x) ce sl) : zAW own cc nL ret ini rm n0 Q pc lv (.int x :: .int i :: .ref a :: st) Γ ρ σ ce sl := by
  intro p l e s m args below meth c D cy ad0 ad A H locs ls hC hK hag hP hD hS hA hh
  obtain ⟨hd, rfl⟩ := hd
  refine va_zast hC.1 hC.2.1 hK hP hD hS a 1 (zW_get hg) rfl hw.1 hd (fun H1 locs1 hP1 hD1 hS1 => ?_)
  have hx : vp_nar .boolean x = x := by unfold vp_nar; rw [zb_nar hw.2.1]
  have hE : (zW cy ad Γ ρ σ).set a (ad a, .inl (cy.2.1, n, .inl (upd (σ.2 a) i.toNatClampNeg (vp_nar .boolean x)))) = zW cy ad Γ ρ (zA σ a i.toNatClampNeg x) := zW_set hg (by rw [hx, zupd (σ := σ) (a := a) rfl]; rfl) (fun j gj hj => zE_A j gj hj)
  rw [hE] at hP1 hD1
  exact kk hw.2.2 p l e s m args below meth c D cy ad0 ad A H1 locs1 ls hC hK hag hP1 hD1 hS1 hA hh
/-! ends -/
theorem z_iret {v : Int32} (hd : zd cc pc .ireturn 1 pc') (hce : ce ≤ rm.cells) (hsl : sl ≤ rm.slots) (hret : ret = some .int) (hq : Q v Γ ρ σ) : zAW own cc nL ret ini rm n0 Q pc lv [.int v] Γ ρ σ ce sl := by
  subst hret
  intro p l e s m args below meth c D cy ad0 ad A H locs ls hC hK hag hP hD hS hA hh
  obtain ⟨hd, rfl⟩ := hd
  have hlocks := hC.2.2.2.2.2.2.1
  refine W.widen hce hsl ?_
  exact W.iret (v := v) hC.1 hC.2.1 hC.2.2.1 (fun t ht hW => ⟨⟨v, (Γ, ρ, σ, ad), rfl, hq, hag, by rw [ht]; exact hP, va_K.moved hW.alike hK, hD⟩, hS.F ht⟩) hS.2.2 hd
theorem z_zret {v : Int32} (hd : zd cc pc .ireturn 1 pc') (hce : ce ≤ rm.cells) (hsl : sl ≤ rm.slots) (hret : ret = some .boolean) (hw : (v = 0 ∨ v = 1) ∧ Q v Γ ρ σ) : zAW own cc nL ret ini rm n0 Q pc lv [.int v] Γ ρ σ ce sl := by
  subst hret
  intro p l e s m args below meth c D cy ad0 ad A H locs ls hC hK hag hP hD hS hA hh
  obtain ⟨hd, rfl⟩ := hd
  have hlocks := hC.2.2.2.2.2.2.1
  refine W.widen hce hsl ?_
  exact W.zret (v := v) hC.1 hC.2.1 hC.2.2.1 (zb_nar hw.1) (fun t ht hW => ⟨⟨v, (Γ, ρ, σ, ad), rfl, hw.2, hag, by rw [ht]; exact hP, va_K.moved hW.alike hK, hD⟩, hS.F ht⟩) hS.2.2 hd
theorem z_vret (hd : zd cc pc .return_ 1 pc') (hce : ce ≤ rm.cells) (hsl : sl ≤ rm.slots) (hret : ret = none) (hq : Q 0 Γ ρ σ) : zAW own cc nL ret ini rm n0 Q pc lv [] Γ ρ σ ce sl := by
  subst hret
  intro p l e s m args below meth c D cy ad0 ad A H locs ls hC hK hag hP hD hS hA hh
  obtain ⟨hd, rfl⟩ := hd
  have hlocks := hC.2.2.2.2.2.2.1
  refine W.widen hce hsl ?_
  exact W.vret hC.1 hC.2.1 hC.2.2.1 (fun t ht hW => ⟨⟨(Γ, ρ, σ, ad), rfl, hq, hag, by rw [ht]; exact hP, va_K.moved hW.alike hK, hD⟩, hS.F ht⟩) hS.2.2 hd
end ZHEAP

section ZROW
variable {own : String} {cc : ByteArray} {nL : Nat} {ret : Option FieldType} {ini : Bool} {rm : Room} {n0 : Nat} {Q : Int32 → zG → zR → zS → Prop} {pc pc' tgt : Nat} {lv : List (Nat × Value)} {st : List Value} {Γ : zG} {ρ : zR} {σ : zS} {ce sl : Nat}
theorem z_widen {ce' sl' : Nat} (h1 : ce ≤ ce') (h2 : sl ≤ sl') (k : zAW own cc nL ret ini rm n0 Q pc lv st Γ ρ σ ce' sl') : zAW own cc nL ret ini rm n0 Q pc lv st Γ ρ σ ce sl := by
  intro p l e s m args below meth c D cy ad0 ad A H locs ls hC hK hag hP hD hS hA hl
  exact W.widen h1 h2 (k p l e s m args below meth c D cy ad0 ad A H locs ls hC hK hag hP hD hS hA hl)
/-- fewer locals, in any order -/
theorem z_sub {lv' : List (Nat × Value)} (h : ∀ q ∈ lv', zl lv q.1 = some q.2) (k : zAW own cc nL ret ini rm n0 Q pc lv' st Γ ρ σ ce sl) : zAW own cc nL ret ini rm n0 Q pc lv st Γ ρ σ ce sl := by
  intro p l e s m args below meth c D cy ad0 ad A H locs ls hC hK hag hP hD hS hA hl
  refine k p l e s m args below meth c D cy ad0 ad A H locs ls hC hK hag hP hD hS hA ⟨hl.1, hl.2.1, fun q hq => ?_⟩
  obtain ⟨a, ha, rfl⟩ := List.mem_map.mp hq
  exact zhas hl (h a ha)
theorem z_aload_n {k : Fin 4} {i : Nat} {x : Nat} (hd : zd cc pc (.aload_n k) 1 pc') (hi : (k : Nat) = i) (hl : zl lv i = some (.ref x)) (kk : zAW own cc nL ret ini rm n0 Q pc' lv (.ref x :: st) Γ ρ σ ce sl) : zAW own cc nL ret ini rm n0 Q pc lv st Γ ρ σ ce sl := by
  intro p l e s m args below meth c D cy ad0 ad A H locs ls hC hK hag hP hD hS hA hh
  obtain ⟨hd, rfl⟩ := hd
  exact lv_aload_n hC.1 hC.2.1 hd hi (zhas hh hl) (kk p l e s m args below meth c D cy ad0 ad A H locs ls hC hK hag hP hD hS hA hh)
theorem z_iload_n {k : Fin 4} {i : Nat} {x : Int32} (hd : zd cc pc (.iload_n k) 1 pc') (hi : (k : Nat) = i) (hl : zl lv i = some (.int x)) (kk : zAW own cc nL ret ini rm n0 Q pc' lv (.int x :: st) Γ ρ σ ce sl) : zAW own cc nL ret ini rm n0 Q pc lv st Γ ρ σ ce sl := by
  intro p l e s m args below meth c D cy ad0 ad A H locs ls hC hK hag hP hD hS hA hh
  obtain ⟨hd, rfl⟩ := hd
  exact lv_iload_n hC.1 hC.2.1 hd hi (zhas hh hl) (kk p l e s m args below meth c D cy ad0 ad A H locs ls hC hK hag hP hD hS hA hh)
theorem z_iload {i : Nat} {x : Int32} (hd : zd cc pc (.iload i) 2 pc') (hl : zl lv i = some (.int x)) (kk : zAW own cc nL ret ini rm n0 Q pc' lv (.int x :: st) Γ ρ σ ce sl) : zAW own cc nL ret ini rm n0 Q pc lv st Γ ρ σ ce sl := by
  intro p l e s m args below meth c D cy ad0 ad A H locs ls hC hK hag hP hD hS hA hh
  obtain ⟨hd, rfl⟩ := hd
  exact lv_iload hC.1 hC.2.1 hd (zhas hh hl) (kk p l e s m args below meth c D cy ad0 ad A H locs ls hC hK hag hP hD hS hA hh)
theorem z_iconst {n : Int} {v : Int32} (hd : zd cc pc (.iconst n) 1 pc') (hv : Int32.ofInt n = v) (kk : zAW own cc nL ret ini rm n0 Q pc' lv (.int v :: st) Γ ρ σ ce sl) : zAW own cc nL ret ini rm n0 Q pc lv st Γ ρ σ ce sl := by
  intro p l e s m args below meth c D cy ad0 ad A H locs ls hC hK hag hP hD hS hA hh
  obtain ⟨hd, rfl⟩ := hd
  exact lv_iconst hC.1 hC.2.1 hd hv (kk p l e s m args below meth c D cy ad0 ad A H locs ls hC hK hag hP hD hS hA hh)
theorem z_bipush {n : Int} {v : Int32} (hd : zd cc pc (.bipush n) 2 pc') (hv : (Int8.ofInt n).toInt32 = v) (kk : zAW own cc nL ret ini rm n0 Q pc' lv (.int v :: st) Γ ρ σ ce sl) : zAW own cc nL ret ini rm n0 Q pc lv st Γ ρ σ ce sl := by
  intro p l e s m args below meth c D cy ad0 ad A H locs ls hC hK hag hP hD hS hA hh
  obtain ⟨hd, rfl⟩ := hd
  exact lv_bipush hC.1 hC.2.1 hd hv (kk p l e s m args below meth c D cy ad0 ad A H locs ls hC hK hag hP hD hS hA hh)
theorem z_sipush {n : Int} {v : Int32} (hd : zd cc pc (.sipush n) 3 pc') (hv : (Int16.ofInt n).toInt32 = v) (kk : zAW own cc nL ret ini rm n0 Q pc' lv (.int v :: st) Γ ρ σ ce sl) : zAW own cc nL ret ini rm n0 Q pc lv st Γ ρ σ ce sl := by
  intro p l e s m args below meth c D cy ad0 ad A H locs ls hC hK hag hP hD hS hA hh
  obtain ⟨hd, rfl⟩ := hd
  exact lv_sipush hC.1 hC.2.1 hd hv (kk p l e s m args below meth c D cy ad0 ad A H locs ls hC hK hag hP hD hS hA hh)
theorem z_ldc {i : Nat} {v : Int32} (hd : zd cc pc (.ldc i) 2 pc') (hc : Cond.constant own i v ∈ ztb) (kk : zAW own cc nL ret ini rm n0 Q pc' lv (.int v :: st) Γ ρ σ ce sl) : zAW own cc nL ret ini rm n0 Q pc lv st Γ ρ σ ce sl := by
  intro p l e s m args below meth c D cy ad0 ad A H locs ls hC hK hag hP hD hS hA hh
  obtain ⟨hd, rfl⟩ := hd
  exact lv_ldc hC.1 hC.2.1 hC.2.2.2.2.1 (hC.2.2.2.2.2.1 _ hc) hd (kk p l e s m args below meth c D cy ad0 ad A H locs ls hC hK hag hP hD hS hA hh)
theorem z_istore_n {k : Fin 4} {i : Nat} {x : Int32} (hd : zd cc pc (.istore_n k) 1 pc') (hi : (k : Nat) = i) (hn : i < nL) (kk : zAW own cc nL ret ini rm n0 Q pc' (zs lv i (.int x)) st Γ ρ σ ce sl) : zAW own cc nL ret ini rm n0 Q pc lv (.int x :: st) Γ ρ σ ce sl := by
  intro p l e s m args below meth c D cy ad0 ad A H locs ls hC hK hag hP hD hS hA hh
  obtain ⟨hd, rfl⟩ := hd
  exact lv_istore_n hC.1 hC.2.1 hd hi hh hn (zs_map ad lv i (.int x)) (fun ls' hl' => kk p l e s m args below meth c D cy ad0 ad A H locs ls' hC hK hag hP hD hS hA hl')
theorem z_istore {i : Nat} {x : Int32} (hd : zd cc pc (.istore i) 2 pc') (hn : i < nL) (kk : zAW own cc nL ret ini rm n0 Q pc' (zs lv i (.int x)) st Γ ρ σ ce sl) : zAW own cc nL ret ini rm n0 Q pc lv (.int x :: st) Γ ρ σ ce sl := by
  intro p l e s m args below meth c D cy ad0 ad A H locs ls hC hK hag hP hD hS hA hh
  obtain ⟨hd, rfl⟩ := hd
  exact lv_istore hC.1 hC.2.1 hd hh hn (zs_map ad lv i (.int x)) (fun ls' hl' => kk p l e s m args below meth c D cy ad0 ad A H locs ls' hC hK hag hP hD hS hA hl')
theorem z_astore_n {k : Fin 4} {i : Nat} {x : Nat} (hd : zd cc pc (.astore_n k) 1 pc') (hi : (k : Nat) = i) (hn : i < nL) (kk : zAW own cc nL ret ini rm n0 Q pc' (zs lv i (.ref x)) st Γ ρ σ ce sl) : zAW own cc nL ret ini rm n0 Q pc lv (.ref x :: st) Γ ρ σ ce sl := by
  intro p l e s m args below meth c D cy ad0 ad A H locs ls hC hK hag hP hD hS hA hh
  obtain ⟨hd, rfl⟩ := hd
  exact lv_astore_n hC.1 hC.2.1 hd hi hh hn (zs_map ad lv i (.ref x)) (fun ls' hl' => kk p l e s m args below meth c D cy ad0 ad A H locs ls' hC hK hag hP hD hS hA hl')
theorem z_iinc {i : Nat} {n : Int} {x v : Int32} (hd : zd cc pc (.iinc i n) 3 pc') (hl : zl lv i = some (.int x)) (hv : Int32.ofInt n = v) (hn : i < nL) (kk : zAW own cc nL ret ini rm n0 Q pc' (zs lv i (.int (x + v))) st Γ ρ σ ce sl) : zAW own cc nL ret ini rm n0 Q pc lv st Γ ρ σ ce sl := by
  intro p l e s m args below meth c D cy ad0 ad A H locs ls hC hK hag hP hD hS hA hh
  obtain ⟨hd, rfl⟩ := hd
  have hm : (i, Value.int x) ∈ lv.map (fun q => (q.1, zv ad q.2)) := List.mem_map.mpr ⟨(i, .int x), zl_mem hl, rfl⟩
  obtain ⟨k, hk⟩ := List.getElem?_of_mem hm
  exact lv_iinc (v := x + v) hC.1 hC.2.1 hd hh hk (by rw [hv]) hn (zs_map ad lv i (.int (x + v))) (fun ls' hl' => kk p l e s m args below meth c D cy ad0 ad A H locs ls' hC hK hag hP hD hS hA hl')
theorem z_dup {v : Value} (hd : zd cc pc .dup 1 pc') (hv : v.category = 1) (kk : zAW own cc nL ret ini rm n0 Q pc' lv (v :: v :: st) Γ ρ σ ce sl) : zAW own cc nL ret ini rm n0 Q pc lv (v :: st) Γ ρ σ ce sl := by
  intro p l e s m args below meth c D cy ad0 ad A H locs ls hC hK hag hP hD hS hA hh
  obtain ⟨hd, rfl⟩ := hd
  exact lv_dup hC.1 hC.2.1 hd (by rw [zv_cat]; exact hv) (kk p l e s m args below meth c D cy ad0 ad A H locs ls hC hK hag hP hD hS hA hh)
theorem z_dup2 {v w : Value} (hd : zd cc pc .dup2 1 pc') (hv : v.category = 1) (hw : w.category = 1) (kk : zAW own cc nL ret ini rm n0 Q pc' lv (v :: w :: v :: w :: st) Γ ρ σ ce sl) : zAW own cc nL ret ini rm n0 Q pc lv (v :: w :: st) Γ ρ σ ce sl := by
  intro p l e s m args below meth c D cy ad0 ad A H locs ls hC hK hag hP hD hS hA hh
  obtain ⟨hd, rfl⟩ := hd
  exact lv_dup2_11 hC.1 hC.2.1 hd (by rw [zv_cat]; exact hv) (by rw [zv_cat]; exact hw) (kk p l e s m args below meth c D cy ad0 ad A H locs ls hC hK hag hP hD hS hA hh)
theorem z_pop {v : Value} (hd : zd cc pc .pop 1 pc') (hv : v.category = 1) (kk : zAW own cc nL ret ini rm n0 Q pc' lv st Γ ρ σ ce sl) : zAW own cc nL ret ini rm n0 Q pc lv (v :: st) Γ ρ σ ce sl := by
  intro p l e s m args below meth c D cy ad0 ad A H locs ls hC hK hag hP hD hS hA hh
  obtain ⟨hd, rfl⟩ := hd
  exact lv_pop hC.1 hC.2.1 hd (by rw [zv_cat]; exact hv) (kk p l e s m args below meth c D cy ad0 ad A H locs ls hC hK hag hP hD hS hA hh)
theorem z_iadd {x y : Int32} (hd : zd cc pc .iadd 1 pc') (kk : zAW own cc nL ret ini rm n0 Q pc' lv (.int (x + y) :: st) Γ ρ σ ce sl) : zAW own cc nL ret ini rm n0 Q pc lv (.int y :: .int x :: st) Γ ρ σ ce sl := by
  intro p l e s m args below meth c D cy ad0 ad A H locs ls hC hK hag hP hD hS hA hh
  obtain ⟨hd, rfl⟩ := hd
  exact lv_iadd hC.1 hC.2.1 hd (kk p l e s m args below meth c D cy ad0 ad A H locs ls hC hK hag hP hD hS hA hh)
theorem z_isub {x y : Int32} (hd : zd cc pc .isub 1 pc') (kk : zAW own cc nL ret ini rm n0 Q pc' lv (.int (x - y) :: st) Γ ρ σ ce sl) : zAW own cc nL ret ini rm n0 Q pc lv (.int y :: .int x :: st) Γ ρ σ ce sl := by
  intro p l e s m args below meth c D cy ad0 ad A H locs ls hC hK hag hP hD hS hA hh
  obtain ⟨hd, rfl⟩ := hd
  exact lv_isub hC.1 hC.2.1 hd (kk p l e s m args below meth c D cy ad0 ad A H locs ls hC hK hag hP hD hS hA hh)
theorem z_imul {x y : Int32} (hd : zd cc pc .imul 1 pc') (kk : zAW own cc nL ret ini rm n0 Q pc' lv (.int (x * y) :: st) Γ ρ σ ce sl) : zAW own cc nL ret ini rm n0 Q pc lv (.int y :: .int x :: st) Γ ρ σ ce sl := by
  intro p l e s m args below meth c D cy ad0 ad A H locs ls hC hK hag hP hD hS hA hh
  obtain ⟨hd, rfl⟩ := hd
  exact lv_imul hC.1 hC.2.1 hd (kk p l e s m args below meth c D cy ad0 ad A H locs ls hC hK hag hP hD hS hA hh)
theorem z_ishl {x y : Int32} (hd : zd cc pc .ishl 1 pc') (kk : zAW own cc nL ret ini rm n0 Q pc' lv (.int (x <<< (y &&& 31)) :: st) Γ ρ σ ce sl) : zAW own cc nL ret ini rm n0 Q pc lv (.int y :: .int x :: st) Γ ρ σ ce sl := by
  intro p l e s m args below meth c D cy ad0 ad A H locs ls hC hK hag hP hD hS hA hh
  obtain ⟨hd, rfl⟩ := hd
  exact lv_ishl hC.1 hC.2.1 hd (kk p l e s m args below meth c D cy ad0 ad A H locs ls hC hK hag hP hD hS hA hh)
theorem z_ishr {x y : Int32} (hd : zd cc pc .ishr 1 pc') (kk : zAW own cc nL ret ini rm n0 Q pc' lv (.int (x >>> (y &&& 31)) :: st) Γ ρ σ ce sl) : zAW own cc nL ret ini rm n0 Q pc lv (.int y :: .int x :: st) Γ ρ σ ce sl := by
  intro p l e s m args below meth c D cy ad0 ad A H locs ls hC hK hag hP hD hS hA hh
  obtain ⟨hd, rfl⟩ := hd
  exact lv_ishr hC.1 hC.2.1 hd (kk p l e s m args below meth c D cy ad0 ad A H locs ls hC hK hag hP hD hS hA hh)
theorem z_iushr {x y : Int32} (hd : zd cc pc .iushr 1 pc') (kk : zAW own cc nL ret ini rm n0 Q pc' lv (.int ((x.toUInt32 >>> (y.toUInt32 &&& Int32.toUInt32 31)).toInt32) :: st) Γ ρ σ ce sl) : zAW own cc nL ret ini rm n0 Q pc lv (.int y :: .int x :: st) Γ ρ σ ce sl := by
  intro p l e s m args below meth c D cy ad0 ad A H locs ls hC hK hag hP hD hS hA hh
  obtain ⟨hd, rfl⟩ := hd
  exact lv_iushr hC.1 hC.2.1 hd rfl (kk p l e s m args below meth c D cy ad0 ad A H locs ls hC hK hag hP hD hS hA hh)
theorem z_iand {x y : Int32} (hd : zd cc pc .iand 1 pc') (kk : zAW own cc nL ret ini rm n0 Q pc' lv (.int (x &&& y) :: st) Γ ρ σ ce sl) : zAW own cc nL ret ini rm n0 Q pc lv (.int y :: .int x :: st) Γ ρ σ ce sl := by
  intro p l e s m args below meth c D cy ad0 ad A H locs ls hC hK hag hP hD hS hA hh
  obtain ⟨hd, rfl⟩ := hd
  exact lv_iand hC.1 hC.2.1 hd (kk p l e s m args below meth c D cy ad0 ad A H locs ls hC hK hag hP hD hS hA hh)
theorem z_ior {x y : Int32} (hd : zd cc pc .ior 1 pc') (kk : zAW own cc nL ret ini rm n0 Q pc' lv (.int (x ||| y) :: st) Γ ρ σ ce sl) : zAW own cc nL ret ini rm n0 Q pc lv (.int y :: .int x :: st) Γ ρ σ ce sl := by
  intro p l e s m args below meth c D cy ad0 ad A H locs ls hC hK hag hP hD hS hA hh
  obtain ⟨hd, rfl⟩ := hd
  exact lv_ior hC.1 hC.2.1 hd (kk p l e s m args below meth c D cy ad0 ad A H locs ls hC hK hag hP hD hS hA hh)
theorem z_ixor {x y : Int32} (hd : zd cc pc .ixor 1 pc') (kk : zAW own cc nL ret ini rm n0 Q pc' lv (.int (x ^^^ y) :: st) Γ ρ σ ce sl) : zAW own cc nL ret ini rm n0 Q pc lv (.int y :: .int x :: st) Γ ρ σ ce sl := by
  intro p l e s m args below meth c D cy ad0 ad A H locs ls hC hK hag hP hD hS hA hh
  obtain ⟨hd, rfl⟩ := hd
  exact lv_ixor hC.1 hC.2.1 hd (kk p l e s m args below meth c D cy ad0 ad A H locs ls hC hK hag hP hD hS hA hh)
theorem z_ineg {x : Int32} (hd : zd cc pc .ineg 1 pc') (kk : zAW own cc nL ret ini rm n0 Q pc' lv (.int (-x) :: st) Γ ρ σ ce sl) : zAW own cc nL ret ini rm n0 Q pc lv (.int x :: st) Γ ρ σ ce sl := by
  intro p l e s m args below meth c D cy ad0 ad A H locs ls hC hK hag hP hD hS hA hh
  obtain ⟨hd, rfl⟩ := hd
  exact lv_ineg hC.1 hC.2.1 hd (kk p l e s m args below meth c D cy ad0 ad A H locs ls hC hK hag hP hD hS hA hh)
theorem z_idiv {x y : Int32} {P : Prop} (hd : zd cc pc .idiv 1 pc') (hw : (¬ y = 0) ∧ P) (kk : P → zAW own cc nL ret ini rm n0 Q pc' lv (.int (x / y) :: st) Γ ρ σ ce sl) : zAW own cc nL ret ini rm n0 Q pc lv (.int y :: .int x :: st) Γ ρ σ ce sl := by
  intro p l e s m args below meth c D cy ad0 ad A H locs ls hC hK hag hP hD hS hA hh
  obtain ⟨hd, rfl⟩ := hd
  exact lv_idiv hC.1 hC.2.1 hd hw.1 (kk hw.2 p l e s m args below meth c D cy ad0 ad A H locs ls hC hK hag hP hD hS hA hh)
theorem z_irem {x y : Int32} {P : Prop} (hd : zd cc pc .irem 1 pc') (hw : (¬ y = 0) ∧ P) (kk : P → zAW own cc nL ret ini rm n0 Q pc' lv (.int (x - x / y * y) :: st) Γ ρ σ ce sl) : zAW own cc nL ret ini rm n0 Q pc lv (.int y :: .int x :: st) Γ ρ σ ce sl := by
  intro p l e s m args below meth c D cy ad0 ad A H locs ls hC hK hag hP hD hS hA hh
  obtain ⟨hd, rfl⟩ := hd
  exact lv_irem hC.1 hC.2.1 hd hw.1 (kk hw.2 p l e s m args below meth c D cy ad0 ad A H locs ls hC hK hag hP hD hS hA hh)
theorem z_icmp_eq {x y : Int32} {off : Int} {P R : Prop} (hd : zj cc pc (.if_icmp .eq off) off 3 pc' tgt) (hw : (x = y → P) ∧ (¬ (x = y) → R)) (kt : P → zAW own cc nL ret ini rm n0 Q tgt lv st Γ ρ σ ce sl) (kf : R → zAW own cc nL ret ini rm n0 Q pc' lv st Γ ρ σ ce sl) : zAW own cc nL ret ini rm n0 Q pc lv (.int y :: .int x :: st) Γ ρ σ ce sl := by
  intro p l e s m args below meth c D cy ad0 ad A H locs ls hC hK hag hP hD hS hA hh
  obtain ⟨hd, rfl, ht⟩ := hd
  exact lv_icmp_eq hC.1 hC.2.1 hd ht (fun q => kt (hw.1 q) p l e s m args below meth c D cy ad0 ad A H locs ls hC hK hag hP hD hS hA hh) (fun q => kf (hw.2 q) p l e s m args below meth c D cy ad0 ad A H locs ls hC hK hag hP hD hS hA hh)
theorem z_icmp_ne {x y : Int32} {off : Int} {P R : Prop} (hd : zj cc pc (.if_icmp .ne off) off 3 pc' tgt) (hw : (x = y → R) ∧ (¬ x = y → P)) (kt : P → zAW own cc nL ret ini rm n0 Q tgt lv st Γ ρ σ ce sl) (kf : R → zAW own cc nL ret ini rm n0 Q pc' lv st Γ ρ σ ce sl) : zAW own cc nL ret ini rm n0 Q pc lv (.int y :: .int x :: st) Γ ρ σ ce sl := by
  intro p l e s m args below meth c D cy ad0 ad A H locs ls hC hK hag hP hD hS hA hh
  obtain ⟨hd, rfl, ht⟩ := hd
  exact lv_icmp_ne hC.1 hC.2.1 hd ht (fun q => kt (hw.2 q) p l e s m args below meth c D cy ad0 ad A H locs ls hC hK hag hP hD hS hA hh) (fun q => kf (hw.1 q) p l e s m args below meth c D cy ad0 ad A H locs ls hC hK hag hP hD hS hA hh)
theorem z_icmp_lt {x y : Int32} {off : Int} {P R : Prop} (hd : zj cc pc (.if_icmp .lt off) off 3 pc' tgt) (hw : (x < y → P) ∧ (¬ (x < y) → R)) (kt : P → zAW own cc nL ret ini rm n0 Q tgt lv st Γ ρ σ ce sl) (kf : R → zAW own cc nL ret ini rm n0 Q pc' lv st Γ ρ σ ce sl) : zAW own cc nL ret ini rm n0 Q pc lv (.int y :: .int x :: st) Γ ρ σ ce sl := by
  intro p l e s m args below meth c D cy ad0 ad A H locs ls hC hK hag hP hD hS hA hh
  obtain ⟨hd, rfl, ht⟩ := hd
  exact lv_icmp_lt hC.1 hC.2.1 hd ht (fun q => kt (hw.1 q) p l e s m args below meth c D cy ad0 ad A H locs ls hC hK hag hP hD hS hA hh) (fun q => kf (hw.2 q) p l e s m args below meth c D cy ad0 ad A H locs ls hC hK hag hP hD hS hA hh)
theorem z_icmp_ge {x y : Int32} {off : Int} {P R : Prop} (hd : zj cc pc (.if_icmp .ge off) off 3 pc' tgt) (hw : (y ≤ x → P) ∧ (¬ (y ≤ x) → R)) (kt : P → zAW own cc nL ret ini rm n0 Q tgt lv st Γ ρ σ ce sl) (kf : R → zAW own cc nL ret ini rm n0 Q pc' lv st Γ ρ σ ce sl) : zAW own cc nL ret ini rm n0 Q pc lv (.int y :: .int x :: st) Γ ρ σ ce sl := by
  intro p l e s m args below meth c D cy ad0 ad A H locs ls hC hK hag hP hD hS hA hh
  obtain ⟨hd, rfl, ht⟩ := hd
  exact lv_icmp_ge hC.1 hC.2.1 hd ht (fun q => kt (hw.1 q) p l e s m args below meth c D cy ad0 ad A H locs ls hC hK hag hP hD hS hA hh) (fun q => kf (hw.2 q) p l e s m args below meth c D cy ad0 ad A H locs ls hC hK hag hP hD hS hA hh)
theorem z_icmp_gt {x y : Int32} {off : Int} {P R : Prop} (hd : zj cc pc (.if_icmp .gt off) off 3 pc' tgt) (hw : (y < x → P) ∧ (¬ (y < x) → R)) (kt : P → zAW own cc nL ret ini rm n0 Q tgt lv st Γ ρ σ ce sl) (kf : R → zAW own cc nL ret ini rm n0 Q pc' lv st Γ ρ σ ce sl) : zAW own cc nL ret ini rm n0 Q pc lv (.int y :: .int x :: st) Γ ρ σ ce sl := by
  intro p l e s m args below meth c D cy ad0 ad A H locs ls hC hK hag hP hD hS hA hh
  obtain ⟨hd, rfl, ht⟩ := hd
  exact lv_icmp_gt hC.1 hC.2.1 hd ht (fun q => kt (hw.1 q) p l e s m args below meth c D cy ad0 ad A H locs ls hC hK hag hP hD hS hA hh) (fun q => kf (hw.2 q) p l e s m args below meth c D cy ad0 ad A H locs ls hC hK hag hP hD hS hA hh)
theorem z_icmp_le {x y : Int32} {off : Int} {P R : Prop} (hd : zj cc pc (.if_icmp .le off) off 3 pc' tgt) (hw : (x ≤ y → P) ∧ (¬ (x ≤ y) → R)) (kt : P → zAW own cc nL ret ini rm n0 Q tgt lv st Γ ρ σ ce sl) (kf : R → zAW own cc nL ret ini rm n0 Q pc' lv st Γ ρ σ ce sl) : zAW own cc nL ret ini rm n0 Q pc lv (.int y :: .int x :: st) Γ ρ σ ce sl := by
  intro p l e s m args below meth c D cy ad0 ad A H locs ls hC hK hag hP hD hS hA hh
  obtain ⟨hd, rfl, ht⟩ := hd
  exact lv_icmp_le hC.1 hC.2.1 hd ht (fun q => kt (hw.1 q) p l e s m args below meth c D cy ad0 ad A H locs ls hC hK hag hP hD hS hA hh) (fun q => kf (hw.2 q) p l e s m args below meth c D cy ad0 ad A H locs ls hC hK hag hP hD hS hA hh)
theorem z_if_eq {x : Int32} {off : Int} {P R : Prop} (hd : zj cc pc (.ifCond .eq off) off 3 pc' tgt) (hw : (x = 0 → P) ∧ (¬ (x = 0) → R)) (kt : P → zAW own cc nL ret ini rm n0 Q tgt lv st Γ ρ σ ce sl) (kf : R → zAW own cc nL ret ini rm n0 Q pc' lv st Γ ρ σ ce sl) : zAW own cc nL ret ini rm n0 Q pc lv (.int x :: st) Γ ρ σ ce sl := by
  intro p l e s m args below meth c D cy ad0 ad A H locs ls hC hK hag hP hD hS hA hh
  obtain ⟨hd, rfl, ht⟩ := hd
  exact lv_if_eq hC.1 hC.2.1 hd ht (fun q => kt (hw.1 q) p l e s m args below meth c D cy ad0 ad A H locs ls hC hK hag hP hD hS hA hh) (fun q => kf (hw.2 q) p l e s m args below meth c D cy ad0 ad A H locs ls hC hK hag hP hD hS hA hh)
theorem z_if_ne {x : Int32} {off : Int} {P R : Prop} (hd : zj cc pc (.ifCond .ne off) off 3 pc' tgt) (hw : (x = 0 → R) ∧ (¬ x = 0 → P)) (kt : P → zAW own cc nL ret ini rm n0 Q tgt lv st Γ ρ σ ce sl) (kf : R → zAW own cc nL ret ini rm n0 Q pc' lv st Γ ρ σ ce sl) : zAW own cc nL ret ini rm n0 Q pc lv (.int x :: st) Γ ρ σ ce sl := by
  intro p l e s m args below meth c D cy ad0 ad A H locs ls hC hK hag hP hD hS hA hh
  obtain ⟨hd, rfl, ht⟩ := hd
  exact lv_if_ne hC.1 hC.2.1 hd ht (fun q => kt (hw.2 q) p l e s m args below meth c D cy ad0 ad A H locs ls hC hK hag hP hD hS hA hh) (fun q => kf (hw.1 q) p l e s m args below meth c D cy ad0 ad A H locs ls hC hK hag hP hD hS hA hh)
theorem z_if_lt {x : Int32} {off : Int} {P R : Prop} (hd : zj cc pc (.ifCond .lt off) off 3 pc' tgt) (hw : (x < 0 → P) ∧ (¬ (x < 0) → R)) (kt : P → zAW own cc nL ret ini rm n0 Q tgt lv st Γ ρ σ ce sl) (kf : R → zAW own cc nL ret ini rm n0 Q pc' lv st Γ ρ σ ce sl) : zAW own cc nL ret ini rm n0 Q pc lv (.int x :: st) Γ ρ σ ce sl := by
  intro p l e s m args below meth c D cy ad0 ad A H locs ls hC hK hag hP hD hS hA hh
  obtain ⟨hd, rfl, ht⟩ := hd
  exact lv_if_lt hC.1 hC.2.1 hd ht (fun q => kt (hw.1 q) p l e s m args below meth c D cy ad0 ad A H locs ls hC hK hag hP hD hS hA hh) (fun q => kf (hw.2 q) p l e s m args below meth c D cy ad0 ad A H locs ls hC hK hag hP hD hS hA hh)
theorem z_if_ge {x : Int32} {off : Int} {P R : Prop} (hd : zj cc pc (.ifCond .ge off) off 3 pc' tgt) (hw : (0 ≤ x → P) ∧ (¬ (0 ≤ x) → R)) (kt : P → zAW own cc nL ret ini rm n0 Q tgt lv st Γ ρ σ ce sl) (kf : R → zAW own cc nL ret ini rm n0 Q pc' lv st Γ ρ σ ce sl) : zAW own cc nL ret ini rm n0 Q pc lv (.int x :: st) Γ ρ σ ce sl := by
  intro p l e s m args below meth c D cy ad0 ad A H locs ls hC hK hag hP hD hS hA hh
  obtain ⟨hd, rfl, ht⟩ := hd
  exact lv_if_ge hC.1 hC.2.1 hd ht (fun q => kt (hw.1 q) p l e s m args below meth c D cy ad0 ad A H locs ls hC hK hag hP hD hS hA hh) (fun q => kf (hw.2 q) p l e s m args below meth c D cy ad0 ad A H locs ls hC hK hag hP hD hS hA hh)
theorem z_if_gt {x : Int32} {off : Int} {P R : Prop} (hd : zj cc pc (.ifCond .gt off) off 3 pc' tgt) (hw : (0 < x → P) ∧ (¬ (0 < x) → R)) (kt : P → zAW own cc nL ret ini rm n0 Q tgt lv st Γ ρ σ ce sl) (kf : R → zAW own cc nL ret ini rm n0 Q pc' lv st Γ ρ σ ce sl) : zAW own cc nL ret ini rm n0 Q pc lv (.int x :: st) Γ ρ σ ce sl := by
  intro p l e s m args below meth c D cy ad0 ad A H locs ls hC hK hag hP hD hS hA hh
  obtain ⟨hd, rfl, ht⟩ := hd
  exact lv_if_gt hC.1 hC.2.1 hd ht (fun q => kt (hw.1 q) p l e s m args below meth c D cy ad0 ad A H locs ls hC hK hag hP hD hS hA hh) (fun q => kf (hw.2 q) p l e s m args below meth c D cy ad0 ad A H locs ls hC hK hag hP hD hS hA hh)
theorem z_if_le {x : Int32} {off : Int} {P R : Prop} (hd : zj cc pc (.ifCond .le off) off 3 pc' tgt) (hw : (x ≤ 0 → P) ∧ (¬ (x ≤ 0) → R)) (kt : P → zAW own cc nL ret ini rm n0 Q tgt lv st Γ ρ σ ce sl) (kf : R → zAW own cc nL ret ini rm n0 Q pc' lv st Γ ρ σ ce sl) : zAW own cc nL ret ini rm n0 Q pc lv (.int x :: st) Γ ρ σ ce sl := by
  intro p l e s m args below meth c D cy ad0 ad A H locs ls hC hK hag hP hD hS hA hh
  obtain ⟨hd, rfl, ht⟩ := hd
  exact lv_if_le hC.1 hC.2.1 hd ht (fun q => kt (hw.1 q) p l e s m args below meth c D cy ad0 ad A H locs ls hC hK hag hP hD hS hA hh) (fun q => kf (hw.2 q) p l e s m args below meth c D cy ad0 ad A H locs ls hC hK hag hP hD hS hA hh)
theorem z_goto {off : Int} (hd : zj cc pc (.goto off) off 3 pc' tgt) (kk : zAW own cc nL ret ini rm n0 Q tgt lv st Γ ρ σ ce sl) : zAW own cc nL ret ini rm n0 Q pc lv st Γ ρ σ ce sl := by
  intro p l e s m args below meth c D cy ad0 ad A H locs ls hC hK hag hP hD hS hA hh
  obtain ⟨hd, rfl, ht⟩ := hd
  exact lv_goto hC.1 hC.2.1 hd ht (kk p l e s m args below meth c D cy ad0 ad A H locs ls hC hK hag hP hD hS hA hh)
end ZROW

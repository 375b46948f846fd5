/-- the tables' words that keep while the machine links and warms -/
def ztb : List Cond := lw_tbl.filter goodWord
/-- the links to nest mates' private members, and the class of int[][]: said of a state -/
def zNest : List (String × Nat × MethodName × String) := [("CabinChain", 11, ⟨"CabinChain$People", "<init>", "()V"⟩, "CabinChain"), ("CabinChain", 39, ⟨"CabinChain$HandWheel", "<init>", "()V"⟩, "CabinChain"), ("CabinChain", 53, ⟨"CabinChain$KeptDays", "<init>", "()V"⟩, "CabinChain"), ("CabinChain$ToldCounts", 29, ⟨"CabinChain", "within", "(III)Z"⟩, "CabinChain")]
def zNs (U : State) : Prop := (∀ q ∈ zNest, va_Nw (.methodLinkNest q.1 q.2.1 q.2.2.1 q.2.2.2) U) ∧ (Cond.arrayOver (.array .int)).before #[] U = true
/-! THE STORE: cells by number; refs are cell numbers; 'ad' says where each cell lies on the machine. -/
abbrev zG : Type := List (Nat × Nat)
abbrev zR : Type := Nat → Nat → Option Nat
abbrev zS : Type := (Nat → Nat → Int32) × (Nat → Nat → Int32)
abbrev zC : Type := ClassId × ClassId × ClassId
abbrev zU : Type := zG × zR × zS × (Nat → Nat)
/-- which fields are references, by class number -/
def zfk (ci : Nat) : List Bool := (([[true, true, true, true, true, true, true, true, true, true, true, false, false, false, false, false, false], [true, true], [false, false, false, false, false], [true, true, false], [true, true, true, true, true, true, true, false], [true], [true, true, true, true, true, true, true], [false, false, false, false, false, false, true, true, true, true, true, true, true, true, true, true, false, true, true]] : List (List Bool))[ci]?).getD []
def zfv (ad : Nat → Nat) (ρ : zR) (σ : zS) (k j : Nat) (b : Bool) : Value := if b = true then va_rf ((ρ k j).map ad) else .int (σ.1 k j)
def zE (cy : zC) (ad : Nat → Nat) (ρ : zR) (σ : zS) (k : Nat) (g : Nat × Nat) : va_E := match g with
  | (0, ci) => .inr (ci, (zfk ci).mapIdx (fun j b => zfv ad ρ σ k j b))
  | (1, n) => .inl (cy.1, n, .inl (σ.2 k))
  | (2, n) => .inl (cy.2.1, n, .inl (σ.2 k))
  | (_, n) => .inl (cy.2.2, n, .inr (.inr (.inr (.inr (fun i => (ρ k i).map ad)))))
def zW (cy : zC) (ad : Nat → Nat) (Γ : zG) (ρ : zR) (σ : zS) : va_W := Γ.mapIdx (fun k g => (ad k, zE cy ad ρ σ k g))
def zty (cy : zC) : List (ClassId × FieldType) := [(cy.1, .int), (cy.2.1, .boolean), (cy.2.2, .array .int)]
def zv (ad : Nat → Nat) (v : Value) : Value := match v with
  | .ref k => .ref (ad k)
  | v => v
def zI (σ : zS) (r k : Nat) (v : Int32) : zS := (fun a b => if a = r ∧ b = k then v else σ.1 a b, σ.2)
def zA (σ : zS) (a i : Nat) (v : Int32) : zS := (σ.1, fun x j => if x = a ∧ j = i then v else σ.2 x j)
def zRu (ρ : zR) (r k : Nat) (v : Option Nat) : zR := fun a b => if a = r ∧ b = k then v else ρ a b
theorem zW_get {cy : zC} {ad : Nat → Nat} {Γ : zG} {ρ : zR} {σ : zS} {k : Nat} {g : Nat × Nat} (h : Γ[k]? = some g) : (zW cy ad Γ ρ σ)[k]? = some (ad k, zE cy ad ρ σ k g) := by
  unfold zW
  rw [List.getElem?_mapIdx, h]
  rfl
theorem zW_set {cy : zC} {ad : Nat → Nat} {Γ : zG} {ρ ρ' : zR} {σ σ' : zS} {r : Nat} {g : Nat × Nat} {e : va_E} (h : Γ[r]? = some g) (hE : e = zE cy ad ρ' σ' r g) (hO : ∀ (j : Nat) (gj : Nat × Nat), j ≠ r → zE cy ad ρ' σ' j gj = zE cy ad ρ σ j gj) : (zW cy ad Γ ρ σ).set r (ad r, e) = zW cy ad Γ ρ' σ' := by
  apply List.ext_getElem?
  intro j
  have hl : r < Γ.length := (List.getElem?_eq_some_iff.mp h).1
  by_cases hj : j = r
  · subst hj
    rw [zW_get h, List.getElem?_set_self (by unfold zW; rw [List.length_mapIdx]; exact hl), hE]
  · rw [List.getElem?_set_ne (fun q => hj q.symm)]
    unfold zW
    rw [List.getElem?_mapIdx, List.getElem?_mapIdx]
    cases Γ[j]? with
    | none => rfl
    | some gj => simp only [Option.map_some, hO j gj hj]
theorem zfv_0 {ad : Nat → Nat} {ρ : zR} {σ : zS} {ci k j : Nat} {b : Bool} (h : (zfk ci)[j]? = some b) : ((zfk ci).mapIdx (fun j b => zfv ad ρ σ k j b))[j]? = some (zfv ad ρ σ k j b) := by
  rw [List.getElem?_mapIdx, h]
  rfl
theorem zfv_set {ad : Nat → Nat} {ρ ρ' : zR} {σ σ' : zS} {ci k j : Nat} {b : Bool} {v : Value} (h : (zfk ci)[j]? = some b) (hv : v = zfv ad ρ' σ' k j b) (hO : ∀ (i : Nat) (b : Bool), i ≠ j → zfv ad ρ' σ' k i b = zfv ad ρ σ k i b) : ((zfk ci).mapIdx (fun j b => zfv ad ρ σ k j b)).set j v = (zfk ci).mapIdx (fun j b => zfv ad ρ' σ' k j b) := by
  apply List.ext_getElem?
  intro i
  have hl : j < (zfk ci).length := (List.getElem?_eq_some_iff.mp h).1
  by_cases hi : i = j
  · subst hi
    rw [zfv_0 h, List.getElem?_set_self (by rw [List.length_mapIdx]; exact hl), hv]
  · rw [List.getElem?_set_ne (fun q => hi q.symm), List.getElem?_mapIdx, List.getElem?_mapIdx]
    cases (zfk ci)[i]? with
    | none => rfl
    | some gj => simp only [Option.map_some, hO i gj hi]
theorem zE_I {cy : zC} {ad : Nat → Nat} {ρ : zR} {σ : zS} {r k : Nat} {v : Int32} (j : Nat) (gj : Nat × Nat) (hj : j ≠ r) : zE cy ad ρ (zI σ r k v) j gj = zE cy ad ρ σ j gj := by
  have : ∀ i b, zfv ad ρ (zI σ r k v) j i b = zfv ad ρ σ j i b := fun i b => by simp [zfv, zI, hj]
  have h2 : (zI σ r k v).2 = σ.2 := rfl
  unfold zE
  split <;> simp [this, h2]
theorem zE_A {cy : zC} {ad : Nat → Nat} {ρ : zR} {σ : zS} {r k : Nat} {v : Int32} (j : Nat) (gj : Nat × Nat) (hj : j ≠ r) : zE cy ad ρ (zA σ r k v) j gj = zE cy ad ρ σ j gj := by
  have h2 : (zA σ r k v).2 j = σ.2 j := by funext x; simp [zA, hj]
  have : ∀ i b, zfv ad ρ (zA σ r k v) j i b = zfv ad ρ σ j i b := fun i b => by simp [zfv, zA]
  unfold zE
  split <;> simp [this, h2]
theorem zE_R {cy : zC} {ad : Nat → Nat} {ρ : zR} {σ : zS} {r k : Nat} {v : Option Nat} (j : Nat) (gj : Nat × Nat) (hj : j ≠ r) : zE cy ad (zRu ρ r k v) σ j gj = zE cy ad ρ σ j gj := by
  have : ∀ i b, zfv ad (zRu ρ r k v) σ j i b = zfv ad ρ σ j i b := fun i b => by simp [zfv, zRu, hj]
  unfold zE
  split <;> simp [this, zRu, hj]
/-! THE CONTRACT AND THE WALK -/
def zB (D : va_G) (cy : zC) (ad : Nat → Nat) (n0 : Nat) (A : Nat → Prop) (u : zU) (t : State) : Prop :=
  (∀ k, k < n0 ∨ u.1.length ≤ k → u.2.2.2 k = ad k) ∧ va_P D vwCl (zW cy u.2.2.2 u.1 u.2.1 u.2.2.1) t.heap ∧ va_K D vwCl (zty cy) t ∧ va_D A (zW cy u.2.2.2 u.1 u.2.1 u.2.2.1)
def zQc (ret : Option FieldType) (Q : Int32 → zG → zR → zS → Prop) (D : va_G) (cy : zC) (ad : Nat → Nat) (n0 : Nat) (A : Nat → Prop) : Array Value → State → Outcome → State → Prop := match ret with
  | none => va_Qv (fun u : zU => Q 0 u.1 u.2.1 u.2.2.1) (zB D cy ad n0 A) A
  | some _ => va_Qi (fun r (u : zU) => Q r u.1 u.2.1 u.2.2.1) (zB D cy ad n0 A) A
def zPc (D : va_G) (cy : zC) (ad : Nat → Nat) (sz : Nat) (Γ : zG) (ρ : zR) (σ : zS) (U : State) : Prop := U.heap.size = sz ∧ va_P D vwCl (zW cy ad Γ ρ σ) U.heap ∧ va_K D vwCl (zty cy) U ∧ va_D (fun _ => True) (zW cy ad Γ ρ σ) ∧ zNs U
/-- THE CONTRACT of method y at arguments and store: it returns, and Q of its answer (0 where it has none) and the store behind it -/
def zAC (y : MethodName) (cc : ByteArray) (nL : Nat) (ret : Option FieldType) (rm : Room) (args : List Value) (Γ : zG) (ρ : zR) (σ : zS) (Q : Int32 → zG → zR → zS → Prop) : Prop :=
  ∀ (l : Launch) (D : va_G) (cy : zC) (ad : Nat → Nat) (sz : Nat), Met l y (.code y cc nL ret :: ztb) rm (va_Pc (args.map (zv ad)) (zPc D cy ad sz Γ ρ σ)) (zQc ret Q D cy ad Γ.length (va_A (zW cy ad Γ ρ σ) sz)) rm.cells rm.slots (va_A (zW cy ad Γ ρ σ) sz)
/-- the contract of a method that makes nothing: refs go from ρ to ρ2 -/
def zN (Γ : zG) (ρ2 : zR) (Q : Int32 → zS → Prop) : Int32 → zG → zR → zS → Prop := fun v Γ' ρ' σ' => Γ' = Γ ∧ ρ' = ρ2 ∧ Q v σ'
def zCx (own : String) (cc : ByteArray) (nL : Nat) (ret : Option FieldType) (ini : Bool) (p : Program) (s : State) (m : MethodId) (args : Array Value) (meth : Method) (c : Code) : Prop :=
  p.tables.exec = Jvm.exec ∧ c.code = cc ∧ meth.sig.returnType = ret ∧ c.maxLocals = nL ∧ s.vm.findClass own = some m.cls ∧ (∀ w ∈ ztb, w.before args s = true) ∧ meth.locks = false ∧ (ini = true → meth.name = "<init>") ∧ zNs s
/-- THE WALK: from pc, with these locals, stack and store, the method comes to its end with Q -/
def zAW (own : String) (cc : ByteArray) (nL : Nat) (ret : Option FieldType) (ini : Bool) (rm : Room) (n0 : Nat) (Q : Int32 → zG → zR → zS → Prop) (pc : Nat) (lv : List (Nat × Value)) (st : List Value) (Γ : zG) (ρ : zR) (σ : zS) (ce sl : Nat) : Prop :=
  ∀ (p : Program) (l : Launch) (e : Env) (s : State) (m : MethodId) (args : Array Value) (below : List Frame) (meth : Method) (c : Code) (D : va_G) (cy : zC) (ad0 ad : Nat → Nat) (A : Nat → Prop) (H : Heap) (locs : List Loc) (ls : Array Slot),
    zCx own cc nL ret ini p s m args meth c → va_K D vwCl (zty cy) s → (∀ k, k < n0 ∨ Γ.length ≤ k → ad k = ad0 k) → va_P D vwCl (zW cy ad Γ ρ σ) H → va_D A (zW cy ad Γ ρ σ) → va_S A s.heap H locs → (∀ q, s.heap.size ≤ q → A q) → lv_has ls nL (lv.map (fun q => (q.1, zv ad q.2))) →
    W p l e rm s m args below meth c H locs ce sl (MQ below (zQc ret Q D cy ad0 n0 A) args s rm.cells rm.slots A) (F0 m pc ls (st.map (zv ad)))
def zl : List (Nat × Value) → Nat → Option Value
  | [], _ => none
  | q :: t, i => if q.1 = i then some q.2 else zl t i
theorem zl_mem {l : List (Nat × Value)} {i : Nat} {v : Value} (h : zl l i = some v) : (i, v) ∈ l := by
  induction l with
  | nil => cases h
  | cons q t ih =>
    unfold zl at h
    by_cases e : q.1 = i
    · rw [if_pos e] at h
      cases h
      rw [← e]
      exact List.mem_cons_self
    · rw [if_neg e] at h
      exact List.mem_cons_of_mem _ (ih h)
def zs (lv : List (Nat × Value)) (i : Nat) (v : Value) : List (Nat × Value) := (i, v) :: lv.filter (fun q => !(q.1 == i) && !(q.1 + 1 == i && q.2.category == 2))
theorem zv_cat (ad : Nat → Nat) (v : Value) : (zv ad v).category = v.category := by cases v <;> rfl
theorem zs_map (ad : Nat → Nat) (lv : List (Nat × Value)) (i : Nat) (v : Value) : (i, zv ad v) :: (lv.map (fun q => (q.1, zv ad q.2))).filter (fun q => !(q.1 == i) && !(q.1 + 1 == i && q.2.category == 2)) = (zs lv i v).map (fun q => (q.1, zv ad q.2)) := by
  unfold zs
  rw [List.map_cons, List.filter_map]
  congr 3
  funext q
  simp [Function.comp, zv_cat]
theorem zhas {ad : Nat → Nat} {ls : Array Slot} {nL : Nat} {lv : List (Nat × Value)} (h : lv_has ls nL (lv.map (fun q => (q.1, zv ad q.2)))) {i : Nat} {v : Value} (hl : zl lv i = some v) : ls[i]? = some (.val (zv ad v)) :=
  h.2.2 (i, zv ad v) (List.mem_map.mpr ⟨(i, v), zl_mem hl, rfl⟩)

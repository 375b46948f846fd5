theorem zne {x : Int32} (k : Int32) (j : Int) (hj : k.toInt = j) (h : ¬ x = k) : x.toInt ≠ j := fun e => h (Int32.toInt_inj.mp (by rw [e, hj]))
def zsubs (lv : List (Nat × Value)) : List (Nat × Value) → Prop
  | [] => True
  | q :: t => zl lv q.1 = some q.2 ∧ zsubs lv t
theorem zsubs_all {lv : List (Nat × Value)} : ∀ {l : List (Nat × Value)}, zsubs lv l → ∀ q ∈ l, zl lv q.1 = some q.2
  | [], _, q, hq => absurd hq List.not_mem_nil
  | _ :: _, h, q, hq => by
    rcases List.mem_cons.mp hq with rfl | hq
    · exact h.1
    · exact zsubs_all h.2 q hq
/-- a value that is used more than once -/
def zlet {α : Type} (x : α) (f : α → Prop) : Prop := f x
theorem zrow {Γ : zG} {a n m : Nat} {i : Int32} (h : ∀ j, j < n → Γ[a + j]? = some (1, m)) (hv : vp_in i n) : Γ[a + i.toNatClampNeg]? = some (1, m) := h _ (Nat.not_le.mp fun q => hv (Or.inr q))
theorem zrho {ρ : zR} {a n base : Nat} {i : Int32} (h : ∀ j, j < n → ρ a j = some (base + j)) (hv : vp_in i n) : ρ a i.toNatClampNeg = some (base + i.toNatClampNeg) := h _ (Nat.not_le.mp fun q => hv (Or.inr q))
section ZSW
variable {own : String} {cc : ByteArray} {nL : Nat} {ret : Option FieldType} {ini : Bool} {rm : Room} {n0 : Nat} {Q : Int32 → zG → zR → zS → Prop} {pc pc' tgt : Nat} {lv : List (Nat × Value)} {st : List Value} {Γ : zG} {ρ : zR} {σ : zS} {ce sl : Nat}
theorem z_to {lv' : List (Nat × Value)} (k : zAW own cc nL ret ini rm n0 Q pc lv' st Γ ρ σ ce sl) (h : zsubs lv lv') : zAW own cc nL ret ini rm n0 Q pc lv st Γ ρ σ ce sl := z_sub (zsubs_all h) k
theorem z_tabIn {x k : Int32} {dflt lo hi off : Int} {offs : Array Int} {n : Nat} (hd : zd cc pc (.tableswitch dflt lo hi offs) n pc') (hx : x = k) (h1 : ¬ k.toInt < lo) (h2 : ¬ hi < k.toInt) (ho : offs[(k.toInt - lo).toNat]? = some off) (ht : (pc : Int) + off = (tgt : Int)) (kk : zAW own cc nL ret ini rm n0 Q tgt lv st Γ ρ σ ce sl) : zAW own cc nL ret ini rm n0 Q pc lv (.int x :: st) Γ ρ σ ce sl := by
  subst hx
  intro p l e s m args below meth c D cy ad0 ad A H locs ls hC hK hag hP hD hS hA hh
  exact lv_tableIn hC.1 hC.2.1 hd.1 h1 h2 ho ht (kk p l e s m args below meth c D cy ad0 ad A H locs ls hC hK hag hP hD hS hA hh)
theorem z_tabOut {x : Int32} {dflt lo hi : Int} {offs : Array Int} {n : Nat} (hd : zd cc pc (.tableswitch dflt lo hi offs) n pc') (h : x.toInt < lo ∨ hi < x.toInt) (ht : (pc : Int) + dflt = (tgt : Int)) (kk : zAW own cc nL ret ini rm n0 Q tgt lv st Γ ρ σ ce sl) : zAW own cc nL ret ini rm n0 Q pc lv (.int x :: st) Γ ρ σ ce sl := by
  intro p l e s m args below meth c D cy ad0 ad A H locs ls hC hK hag hP hD hS hA hh
  exact lv_tableOut hC.1 hC.2.1 hd.1 h ht (kk p l e s m args below meth c D cy ad0 ad A H locs ls hC hK hag hP hD hS hA hh)
theorem z_look {x : Int32} {dflt off : Int} {ps : Array (Int × Int)} {n : Nat} (hd : zd cc pc (.lookupswitch dflt ps) n pc') (hp : (ps.toList.zip (ps.toList.drop 1)).all (fun (a, next) => a.1 < next.1) = true) (ho : Op.lookupswitch.offset ps.toList dflt x.toInt = off) (ht : (pc : Int) + off = (tgt : Int)) (kk : zAW own cc nL ret ini rm n0 Q tgt lv st Γ ρ σ ce sl) : zAW own cc nL ret ini rm n0 Q pc lv (.int x :: st) Γ ρ σ ce sl := by
  intro p l e s m args below meth c D cy ad0 ad A H locs ls hC hK hag hP hD hS hA hh
  exact lv_lookup hC.1 hC.2.1 hd.1 hp ho ht (kk p l e s m args below meth c D cy ad0 ad A H locs ls hC hK hag hP hD hS hA hh)
end ZSW
/-! THE TWO LAYOUTS -/
def zcG : zG := [(0, 0), (1, 30), (1, 30), (1, 30), (1, 30), (3, 8), (1, 30), (1, 30), (1, 30), (1, 30), (1, 30), (1, 30), (1, 30), (1, 30), (1, 8), (1, 18), (3, 2), (1, 8), (1, 8), (2, 8)]
/-- the system: 0 itself; 1 People, 2.. its rows; 9 House; 10 the course now, 30 the day's; 50 HandWheel; 53 ToldCounts; 57 KeptDays -/
def zΓ : zG := [(0, 6), (0, 4), (1, 30), (1, 30), (1, 30), (1, 30), (1, 30), (1, 30), (1, 30), (0, 2)] ++ zcG ++ zcG ++ [(0, 1), (1, 18), (1, 18), (0, 5), (3, 2), (1, 8), (1, 8), (0, 3), (3, 3), (1, 30), (1, 30), (1, 30), (1, 3)]
def zcR (r : Nat) : List (List Nat) := [[1, r + 1, r + 2, r + 3, r + 4, r + 5, r + 14, r + 15, r + 16, r + 19, 9], [], [], [], [], [r + 6, r + 7, r + 8, r + 9, r + 10, r + 11, r + 12, r + 13], [], [], [], [], [], [], [], [], [], [], [r + 17, r + 18], [], [], []]
def zρL : List (List Nat) := [[1, 10, 30, 50, 53, 57, 9], [2, 3, 4, 5, 6, 7, 8], [], [], [], [], [], [], [], []] ++ zcR 10 ++ zcR 30 ++ [[51, 52], [], [], [54], [55, 56], [], [], [58, 62], [59, 60, 61], [], [], [], []]
def zρT (k j : Nat) : Option Nat := (zρL[k]?.getD [])[j]?
/-- its references; b: the day's house -/
def zρ (b : Nat) : zR := fun k j => if k = 30 ∧ j = 10 then some b else zρT k j
theorem zρ_ne {b k j : Nat} (h : ¬ (k = 30 ∧ j = 10)) : zρ b k j = zρT k j := if_neg h
/-- the reference: 0 itself; 1.. its rows -/
def zΓM : zG := [(0, 7), (1, 30), (1, 30), (1, 30), (1, 30), (1, 30), (1, 30), (1, 30), (1, 389), (1, 389), (1, 16), (1, 3), (1, 90)]
def zρM : zR := fun k j => if k = 0 then (if 6 ≤ j ∧ j ≤ 15 then some (j - 5) else if j = 17 then some 11 else if j = 18 then some 12 else none) else none
def zNp (Q : Int32 → zS → Prop) : Int32 → zG → zR → zS → Prop := fun v Γ' ρ' σ' => Γ' = zΓ ∧ (∃ b', ρ' = zρ b') ∧ Q v σ'

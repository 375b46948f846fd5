/-- what the tables say of a method of Math -/
def zMm (own : String) (idx : Nat) (y : MethodName) (cb : ByteArray) (nb : Nat) : Prop := Cond.methodLink own idx y ∈ ztb ∧ Cond.static y ∈ ztb ∧ Cond.initialized "java/lang/Math" ∈ ztb ∧ Cond.code y cb nb (some .int) ∈ ztb
section ZMORE
variable {own : String} {cc : ByteArray} {nL : Nat} {ret : Option FieldType} {ini : Bool} {rm : Room} {n0 : Nat} {Q : Int32 → zG → zR → zS → Prop} {pc pc' tgt : Nat} {lv : List (Nat × Value)} {st : List Value} {Γ : zG} {ρ : zR} {σ : zS} {ce sl : Nat}
theorem z_putiL {idx ci k r : Nat} {v : Int32} {F : zS → Prop} (hd : zd cc pc (.putfield idx) 3 pc') (hf : zF own idx ci k .int false) (hg : Γ[r]? = some (0, ci)) (hk : (zfk ci)[k]? = some false) (hw : zlet (zI σ r k v) F) (kk : F (zI σ r k v) → zAW own cc nL ret ini rm n0 Q pc' lv st Γ ρ (zI σ r k v) ce sl) : zAW own cc nL ret ini rm n0 Q pc lv (.int v :: .ref r :: st) Γ ρ σ ce sl := z_puti hd hf hg hk (kk hw)
theorem z_putzL {idx ci k r : Nat} {v : Int32} {F : zS → Prop} (hd : zd cc pc (.putfield idx) 3 pc') (hf : zF own idx ci k .boolean false) (hg : Γ[r]? = some (0, ci)) (hk : (zfk ci)[k]? = some false) (hw : (v = 0 ∨ v = 1) ∧ zlet (zI σ r k v) F) (kk : F (zI σ r k v) → zAW own cc nL ret ini rm n0 Q pc' lv st Γ ρ (zI σ r k v) ce sl) : zAW own cc nL ret ini rm n0 Q pc lv (.int v :: .ref r :: st) Γ ρ σ ce sl := z_putz hd hf hg hk hw kk
theorem z_iastL {a n : Nat} {i x : Int32} {F : zS → Prop} (hd : zd cc pc .iastore 1 pc') (hg : Γ[a]? = some (1, n)) (hw : vp_in i n ∧ zlet (zA σ a i.toNatClampNeg x) F) (kk : F (zA σ a i.toNatClampNeg x) → zAW own cc nL ret ini rm n0 Q pc' lv st Γ ρ (zA σ a i.toNatClampNeg x) ce sl) : zAW own cc nL ret ini rm n0 Q pc lv (.int x :: .int i :: .ref a :: st) Γ ρ σ ce sl := z_iast hd hg hw kk
theorem z_zastL {a n : Nat} {i x : Int32} {F : zS → Prop} (hd : zd cc pc .bastore 1 pc') (hg : Γ[a]? = some (2, n)) (hw : vp_in i n ∧ (x = 0 ∨ x = 1) ∧ zlet (zA σ a i.toNatClampNeg x) F) (kk : F (zA σ a i.toNatClampNeg x) → zAW own cc nL ret ini rm n0 Q pc' lv st Γ ρ (zA σ a i.toNatClampNeg x) ce sl) : zAW own cc nL ret ini rm n0 Q pc lv (.int x :: .int i :: .ref a :: st) Γ ρ σ ce sl := z_zast hd hg hw kk
theorem z_mmax {idx : Nat} {x y : Int32} (hd : zd cc pc (.invokestatic idx) 3 pc') (hm : zMm own idx Lib.Math.max.name Lib.Math.max.code 2) (hfr : 1 ≤ rm.frames) (hlo : (st.map fun v => v.category).sum + 13 ≤ rm.locals) (hc : ce ≤ rm.cells) (hs : sl ≤ rm.slots) (kk : zAW own cc nL ret ini rm n0 Q pc' lv (.int (if x < y then y else x) :: st) Γ ρ σ ce sl) : zAW own cc nL ret ini rm n0 Q pc lv (.int y :: .int x :: st) Γ ρ σ ce sl := by
  intro p l e s m args below meth c D cy ad0 ad A H locs ls hC hK hag hP hD hS hA hh
  obtain ⟨hd, rfl⟩ := hd
  obtain ⟨hx, hb, hr, hml, hown, hts, hlocks, hin, hns⟩ := id hC
  obtain ⟨w1, w2, w3, w4⟩ := hm
  exact va_mmax hx hb (by rw [hml, hh.1]) hown (hts _ w1) (hts _ w2) (hts _ w3) (hts _ w4) hfr (by rw [zcat]; exact hlo) hc hs hd (kk p l e s m args below meth c D cy ad0 ad A H locs ls hC hK hag hP hD hS hA hh)
theorem z_mmin {idx : Nat} {x y : Int32} (hd : zd cc pc (.invokestatic idx) 3 pc') (hm : zMm own idx Lib.Math.min.name Lib.Math.min.code 2) (hfr : 1 ≤ rm.frames) (hlo : (st.map fun v => v.category).sum + 13 ≤ rm.locals) (hc : ce ≤ rm.cells) (hs : sl ≤ rm.slots) (kk : zAW own cc nL ret ini rm n0 Q pc' lv (.int (if y < x then y else x) :: st) Γ ρ σ ce sl) : zAW own cc nL ret ini rm n0 Q pc lv (.int y :: .int x :: st) Γ ρ σ ce sl := by
  intro p l e s m args below meth c D cy ad0 ad A H locs ls hC hK hag hP hD hS hA hh
  obtain ⟨hd, rfl⟩ := hd
  obtain ⟨hx, hb, hr, hml, hown, hts, hlocks, hin, hns⟩ := id hC
  obtain ⟨w1, w2, w3, w4⟩ := hm
  exact va_mmin hx hb (by rw [hml, hh.1]) hown (hts _ w1) (hts _ w2) (hts _ w3) (hts _ w4) hfr (by rw [zcat]; exact hlo) hc hs hd (kk p l e s m args below meth c D cy ad0 ad A H locs ls hC hK hag hP hD hS hA hh)
theorem z_mabs {idx : Nat} {x : Int32} (hd : zd cc pc (.invokestatic idx) 3 pc') (hm : zMm own idx Lib.Math.abs.name Lib.Math.abs.code 1) (hfr : 1 ≤ rm.frames) (hlo : (st.map fun v => v.category).sum + 13 ≤ rm.locals) (hc : ce ≤ rm.cells) (hs : sl ≤ rm.slots) (kk : zAW own cc nL ret ini rm n0 Q pc' lv (.int (if 0 ≤ x then x else 0 - x) :: st) Γ ρ σ ce sl) : zAW own cc nL ret ini rm n0 Q pc lv (.int x :: st) Γ ρ σ ce sl := by
  intro p l e s m args below meth c D cy ad0 ad A H locs ls hC hK hag hP hD hS hA hh
  obtain ⟨hd, rfl⟩ := hd
  obtain ⟨hx, hb, hr, hml, hown, hts, hlocks, hin, hns⟩ := id hC
  obtain ⟨w1, w2, w3, w4⟩ := hm
  exact va_mabs hx hb (by rw [hml, hh.1]) hown (hts _ w1) (hts _ w2) (hts _ w3) (hts _ w4) hfr (by rw [zcat]; exact hlo) hc hs hd (kk p l e s m args below meth c D cy ad0 ad A H locs ls hC hK hag hP hD hS hA hh)
end ZMORE

def R_law : String := "CabinChainLaw"
def lw_P (b : Addr) (xs : List Int32) (args : Array Value) (s : State) : Prop := args = #[.ref b] ∧ s.IntsAt b xs ∧ xs.length ≤ 4096 ∧ (Jvm.Cond.and given_1 narrow_1).before args s = true
def lw_Q (_ : Array Value) (s : State) (o : Outcome) (t : State) : Prop := o = .returned (some (.int 1)) ∧ Framed s o t [] 600000 7302250
def lw_Z (below : List Frame) (a : Array Value) (s : State) : State → Prop := fun t => ∃ o, t.status = .running ∧ Ended t below o ∧ lw_Q a s o t
/-- the law's own end, with 1 on the stack, nothing written that was there before, its room as the claim has it -/
theorem lw_ret {p : Program} {l : Launch} {e : Env} {s : State} {m : MethodId} {below : List Frame} {meth : Method} {c : Code} {b : Nat} (hx : p.tables.exec = Jvm.exec) (hb : c.code = code) (hr : meth.sig.returnType = ret) (hlocks : meth.locks = false) {pc : Nat} {H : Heap} {ls : Array Slot} (hdg : decode code pc = .ok (.ireturn, 1)) : W p l e room_1 s m #[Value.ref b] below meth c H [] 600000 7302250 (lw_Z below #[Value.ref b] s) (F0 m pc ls [.int 1]) := by
  intro T hT X
  obtain ⟨fs, hret, hrun, hended, hW, hframe⟩ := X.leave (v := some (.int 1)) (hlocks := hlocks) (fun h => by rw [hr] at h; cases h)
  have hmeth' : T.vm.method? m = some meth := X.method'
  refine ⟨T.setFrames fs, ?_, .returned (some (.int 1)), hrun, hended, rfl, ⟨_, rfl⟩, hW, hframe⟩
  jvm_step X.here [X.here.top, hx, hb, hdg, hmeth', hr, ret, narrow_b1]
  (try refine ⟨rfl, ?_⟩); (try refine ⟨rfl, ?_⟩)
  first | (intro acts; rw [hret _ acts rfl rfl rfl]) | rw [hret _ _ rfl rfl rfl]
  exact Steps.refl _
/-- what holds at the law's entry: the machine, the code, the tables' words (any of lw_tbl by 'hts w (by decide +kernel)'), the script of L ints xs at the cell b, what the Statement gives of the start (any of its parts by flat_of_before) -/
def lw_At (p : Program) (s : State) (m : MethodId) (meth : Method) (c : Code) (b L : Nat) (xs : Nat → Int32) : Prop :=
  p.tables.exec = Jvm.exec ∧ c.code = code ∧ meth.sig.returnType = ret ∧ c.maxLocals = 4 ∧ s.vm.findClass R_law = some m.cls ∧ (∀ w ∈ lw_tbl, w.before #[Value.ref b] s = true) ∧ va_X b L xs s s.heap ∧ b < s.heap.size ∧ meth.locks = false ∧ (Jvm.Cond.and given_1 narrow_1).before #[Value.ref b] s = true
/-- the two objects stand at ax and am, their stores are σ and τ -/
def zLH (s : State) (D : va_G) (cy : zC) (ax am : Nat) (σ τ : zS) (H : Heap) (locs : List Loc) : Prop := ∃ ad ad2 : Nat → Nat, ad 0 = ax ∧ ad2 0 = am ∧ va_P D vwCl (zW cy ad zΓ (zρ 99) σ ++ zW cy ad2 zΓM zρM τ) H ∧ va_D (fun q : Nat => s.heap.size ≤ q) (zW cy ad zΓ (zρ 99) σ ++ zW cy ad2 zΓM zρM τ) ∧ va_S (fun q : Nat => s.heap.size ≤ q) s.heap H locs
section LAWC
variable {p : Program} {l : Launch} {e : Env} {s : State} {m : MethodId} {below : List Frame} {meth : Method} {c : Code} {b L : Nat} {xs : Nat → Int32}
variable {y : MethodName} {cb : ByteArray} {nb n fr lo idx pc pc' ax am ce sl : Nat} {As rest : List Value} {Qb : Int32 → zS → Prop} {D : va_G} {cy : zC} {σ τ : zS} {H : Heap} {locs : List Loc} {ls : Array Slot}
theorem zF_in2 {A : Nat → Prop} {w1 w2 : va_W} {H0 : Heap} (hD : va_D A (w1 ++ w2)) (hS : va_S A H0 H locs) (hA : ∀ q, H0.size ≤ q → A q) : ∀ q, va_A w1 H.size q → A q := fun q h => by
  rcases h with ⟨k, e, hk⟩ | h
  · exact (zapp_D hD).1.2 k _ hk
  · exact hA q (Nat.le_trans hS.1 h)
theorem law_callC (C0 : lw_At p s m meth c b L xs) (hK : va_K D vwCl (zty cy) s) (hns : zNs s) (hd : zd cL_law pc (.invokevirtual idx) 3 pc') (hm : zMV RL idx y cb nb (some .int) n 6) (hc : zAC y cb nb (some .int) { frames := fr, cells := 0, slots := 0, locals := lo } (.ref 0 :: As) zΓ (zρ 99) σ (zNp Qb)) (hn : As.length = n) (hAs : ∀ ad, As.map (zv ad) = As) (hsz : ls.size = 4) (hcat : (rest.map fun v => v.category).sum ≤ 8) (hR : fr + 1 ≤ 10 ∧ 8 + (nb + 11) + lo ≤ 382) (hcs : ce ≤ 600000 ∧ sl ≤ 7302250) (hH : zLH s D cy ax am σ τ H locs)
    (kk : ∀ v σ' H' locs', Qb v σ' → zLH s D cy ax am σ' τ H' locs' → W p l e room_1 s m #[Value.ref b] below meth c H' locs' ce sl (lw_Z below #[Value.ref b] s) (F0 m pc' ls (.int v :: rest))) : W p l e room_1 s m #[Value.ref b] below meth c H locs ce sl (lw_Z below #[Value.ref b] s) (F0 m pc ls (As.reverse ++ .ref ax :: rest)) := by
  obtain ⟨hx, hb, hr, hml, hown, hts0, hX, hbl, hlocks, hgv⟩ := C0
  obtain ⟨hd, rfl⟩ := hd
  obtain ⟨⟨hini, hcode, hnm⟩, hlink, hinst, hsel, T, N, hcl⟩ := hm
  have hts : ∀ w ∈ ztb, w.before #[Value.ref b] s = true := fun w hw => hts0 w (ztb_mem hw).1
  obtain ⟨ad, ad2, e1, e2, hP, hD, hS⟩ := hH
  have hA : ∀ q : Nat, s.heap.size ≤ q → (fun q : Nat => s.heap.size ≤ q) q := fun _ h => h
  have hF := zF_in2 hD hS hA
  obtain ⟨hP1, hP2⟩ := zapp_P hP
  obtain ⟨hD1, hD2, hD3⟩ := zapp_D hD
  refine va_calli (va_runV (As := As) (rest := rest) (b := ax) ⟨hx, hb, hml, hown, hts⟩ (hc l D cy ad H.size) ⟨callB_of n hts (zgoodIn hcode) rfl rfl rfl (hts _ hini) (hts _ hlink) hnm hR, hts _ hinst, hts _ hsel⟩ ⟨zPc_blind, by rw [← e1]; exact va_recv hK hP1 hcl (zW_get zg0), fun U hU hW => ⟨by rw [List.map_cons, hAs ad]; show _ = (Value.ref (ad 0) :: As).toArray; rw [e1], by rw [hU], by rw [hU]; exact hP1, va_K.moved hW.alike hK, hD1.weaken (fun _ _ _ _ => trivial), zNs_warm hW hns⟩⟩ rfl hn hsz rfl (lv_room hcat) hd hcs) hS (fun q _ h => hF q h) hF (fun v u t H1 locs1 ht hvm hw hB hz hk hS1 => ?_)
  obtain ⟨Γ', ρ', σ', ad'⟩ := u
  obtain ⟨w1, ⟨b', w2⟩, hq⟩ := hw
  obtain ⟨b1, b2, b3, b4⟩ := hB
  dsimp only at w1 w2 hq b1 b2 b4
  subst w1
  subst w2
  rw [ht] at b2
  rw [← zW_99 cy ad' b' σ'] at b2 b4
  obtain ⟨f1, f2⟩ := zframe hP hD hF hk b2 b4
  refine kk v σ' H1 locs1 hq ⟨_, ad2, ?_, e2, f1, f2, hS1⟩
  show (if 0 = 99 then _ else _) = ax
  rw [if_neg (by decide), b1 0 (Or.inl (by decide)), e1]
theorem law_callH (C0 : lw_At p s m meth c b L xs) (hK : va_K D vwCl (zty cy) s) (hns : zNs s) (hd : zd cL_law pc (.invokevirtual idx) 3 pc') (hm : zMV RL idx y cb nb (some .int) n 6) (hc : zAC y cb nb (some .int) { frames := fr, cells := 1, slots := 5, locals := lo } (.ref 0 :: As) zΓ (zρ 99) σ (zH Qb)) (hn : As.length = n) (hAs : ∀ ad, As.map (zv ad) = As) (hsz : ls.size = 4) (hcat : (rest.map fun v => v.category).sum ≤ 8) (hR : fr + 1 ≤ 10 ∧ 8 + (nb + 11) + lo ≤ 382) (hcs : ce + 1 ≤ 600000 ∧ sl + 5 ≤ 7302250) (hH : zLH s D cy ax am σ τ H locs)
    (kk : ∀ v σ' H' locs', Qb v σ' → zLH s D cy ax am σ' τ H' locs' → W p l e room_1 s m #[Value.ref b] below meth c H' locs' (ce + 1) (sl + 5) (lw_Z below #[Value.ref b] s) (F0 m pc' ls (.int v :: rest))) : W p l e room_1 s m #[Value.ref b] below meth c H locs ce sl (lw_Z below #[Value.ref b] s) (F0 m pc ls (As.reverse ++ .ref ax :: rest)) := by
  obtain ⟨hx, hb, hr, hml, hown, hts0, hX, hbl, hlocks, hgv⟩ := C0
  obtain ⟨hd, rfl⟩ := hd
  obtain ⟨⟨hini, hcode, hnm⟩, hlink, hinst, hsel, T, N, hcl⟩ := hm
  have hts : ∀ w ∈ ztb, w.before #[Value.ref b] s = true := fun w hw => hts0 w (ztb_mem hw).1
  obtain ⟨ad, ad2, e1, e2, hP, hD, hS⟩ := hH
  have hA : ∀ q : Nat, s.heap.size ≤ q → (fun q : Nat => s.heap.size ≤ q) q := fun _ h => h
  have hF := zF_in2 hD hS hA
  obtain ⟨hP1, hP2⟩ := zapp_P hP
  obtain ⟨hD1, hD2, hD3⟩ := zapp_D hD
  refine va_calli (va_runV (As := As) (rest := rest) (b := ax) ⟨hx, hb, hml, hown, hts⟩ (hc l D cy ad H.size) ⟨callB_of n hts (zgoodIn hcode) rfl rfl rfl (hts _ hini) (hts _ hlink) hnm hR, hts _ hinst, hts _ hsel⟩ ⟨zPc_blind, by rw [← e1]; exact va_recv hK hP1 hcl (zW_get zg0), fun U hU hW => ⟨by rw [List.map_cons, hAs ad]; show _ = (Value.ref (ad 0) :: As).toArray; rw [e1], by rw [hU], by rw [hU]; exact hP1, va_K.moved hW.alike hK, hD1.weaken (fun _ _ _ _ => trivial), zNs_warm hW hns⟩⟩ rfl hn hsz rfl (lv_room hcat) hd hcs) hS (fun q _ h => hF q h) hF (fun v u t H1 locs1 ht hvm hw hB hz hk hS1 => ?_)
  obtain ⟨Γ', ρ', σ', ad'⟩ := u
  obtain ⟨b1, b2, b3, b4⟩ := hB
  dsimp only at b1 b2 b4 hw
  rw [ht] at b2
  rcases hw with ⟨w1, w2, hq⟩ | ⟨w1, w2, hq⟩
  · subst w1
    subst w2
    obtain ⟨f1, f2⟩ := zframe hP hD hF hk b2 b4
    exact kk v σ' H1 locs1 hq ⟨ad', ad2, (b1 0 (Or.inl (by decide))).trans e1, e2, f1, f2, hS1⟩
  · subst w1
    subst w2
    obtain ⟨g1, g2⟩ := zmove_H b2 b4
    obtain ⟨f1, f2⟩ := zframe hP hD hF hk g1 g2
    refine kk v _ H1 locs1 hq ⟨_, ad2, ?_, e2, f1, f2, hS1⟩
    show (if 0 = 9 then _ else _) = ax
    rw [if_neg (by decide), b1 0 (Or.inl (by decide)), e1]
theorem law_callM (C0 : lw_At p s m meth c b L xs) (hK : va_K D vwCl (zty cy) s) (hns : zNs s) (hd : zd cL_law pc (.invokevirtual idx) 3 pc') (hm : zMV RL idx y cb nb (some .int) n 7) (hc : zAC y cb nb (some .int) { frames := fr, cells := 0, slots := 0, locals := lo } (.ref 0 :: As) zΓM zρM τ (zN zΓM zρM Qb)) (hn : As.length = n) (hAs : ∀ ad, As.map (zv ad) = As) (hsz : ls.size = 4) (hcat : (rest.map fun v => v.category).sum ≤ 8) (hR : fr + 1 ≤ 10 ∧ 8 + (nb + 11) + lo ≤ 382) (hcs : ce ≤ 600000 ∧ sl ≤ 7302250) (hH : zLH s D cy ax am σ τ H locs)
    (kk : ∀ v τ' H' locs', Qb v τ' → zLH s D cy ax am σ τ' H' locs' → W p l e room_1 s m #[Value.ref b] below meth c H' locs' ce sl (lw_Z below #[Value.ref b] s) (F0 m pc' ls (.int v :: rest))) : W p l e room_1 s m #[Value.ref b] below meth c H locs ce sl (lw_Z below #[Value.ref b] s) (F0 m pc ls (As.reverse ++ .ref am :: rest)) := by
  obtain ⟨hx, hb, hr, hml, hown, hts0, hX, hbl, hlocks, hgv⟩ := C0
  obtain ⟨hd, rfl⟩ := hd
  obtain ⟨⟨hini, hcode, hnm⟩, hlink, hinst, hsel, T, N, hcl⟩ := hm
  have hts : ∀ w ∈ ztb, w.before #[Value.ref b] s = true := fun w hw => hts0 w (ztb_mem hw).1
  obtain ⟨ad, ad2, e1, e2, hP, hD, hS⟩ := hH
  have hA : ∀ q : Nat, s.heap.size ≤ q → (fun q : Nat => s.heap.size ≤ q) q := fun _ h => h
  have hP' := zap_comm hP
  have hD' := zapp_D' hD
  have hF := zF_in2 hD' hS hA
  obtain ⟨hP1, hP2⟩ := zapp_P hP'
  obtain ⟨hD1, hD2, hD3⟩ := zapp_D hD'
  refine va_calli (va_runV (As := As) (rest := rest) (b := am) ⟨hx, hb, hml, hown, hts⟩ (hc l D cy ad2 H.size) ⟨callB_of n hts (zgoodIn hcode) rfl rfl rfl (hts _ hini) (hts _ hlink) hnm hR, hts _ hinst, hts _ hsel⟩ ⟨zPc_blind, by rw [← e2]; exact va_recv hK hP1 hcl (zW_get zm0), fun U hU hW => ⟨by rw [List.map_cons, hAs ad2]; show _ = (Value.ref (ad2 0) :: As).toArray; rw [e2], by rw [hU], by rw [hU]; exact hP1, va_K.moved hW.alike hK, hD1.weaken (fun _ _ _ _ => trivial), zNs_warm hW hns⟩⟩ rfl hn hsz rfl (lv_room hcat) hd hcs) hS (fun q _ h => hF q h) hF (fun v u t H1 locs1 ht hvm hw hB hz hk hS1 => ?_)
  obtain ⟨Γ', ρ', τ', ad'⟩ := u
  obtain ⟨w1, w2, hq⟩ := hw
  obtain ⟨b1, b2, b3, b4⟩ := hB
  dsimp only at w1 w2 hq b1 b2 b4
  subst w1
  subst w2
  rw [ht] at b2
  obtain ⟨f1, f2⟩ := zframe hP' hD' hF hk b2 b4
  exact kk v τ' H1 locs1 hq ⟨ad, ad', e1, (b1 0 (Or.inl (by decide))).trans e2, zap_comm f1, zapp_D' f2, hS1⟩
end LAWC
theorem mbX6_house : zMb yX6_house cX6_house 5 (some .int) 4 := ⟨(zin 1 (by decide +kernel) (by decide +kernel)), (zin 244 (by decide +kernel) (by decide +kernel)), by decide +kernel⟩
theorem mL_13 : zMV RL 13 yX6_house cX6_house 5 (some .int) 4 6 := ⟨mbX6_house, (zin 241 (by decide +kernel) (by decide +kernel)), (zin 242 (by decide +kernel) (by decide +kernel)), (zin 243 (by decide +kernel) (by decide +kernel)), TX6, 7, rfl⟩
theorem mbX7_house : zMb yX7_house cX7_house 6 (some .int) 4 := ⟨(zin 9 (by decide +kernel) (by decide +kernel)), (zin 658 (by decide +kernel) (by decide +kernel)), by decide +kernel⟩
theorem mL_17 : zMV RL 17 yX7_house cX7_house 6 (some .int) 4 7 := ⟨mbX7_house, (zin 655 (by decide +kernel) (by decide +kernel)), (zin 656 (by decide +kernel) (by decide +kernel)), (zin 657 (by decide +kernel) (by decide +kernel)), TX7, 19, rfl⟩
theorem mbX6_person : zMb yX6_person cX6_person 8 (some .int) 7 := ⟨(zin 1 (by decide +kernel) (by decide +kernel)), (zin 263 (by decide +kernel) (by decide +kernel)), by decide +kernel⟩
theorem mL_18 : zMV RL 18 yX6_person cX6_person 8 (some .int) 7 6 := ⟨mbX6_person, (zin 260 (by decide +kernel) (by decide +kernel)), (zin 261 (by decide +kernel) (by decide +kernel)), (zin 262 (by decide +kernel) (by decide +kernel)), TX6, 7, rfl⟩
theorem mbX7_person : zMb yX7_person cX7_person 8 (some .int) 7 := ⟨(zin 9 (by decide +kernel) (by decide +kernel)), (zin 666 (by decide +kernel) (by decide +kernel)), by decide +kernel⟩
theorem mL_22 : zMV RL 22 yX7_person cX7_person 8 (some .int) 7 7 := ⟨mbX7_person, (zin 663 (by decide +kernel) (by decide +kernel)), (zin 664 (by decide +kernel) (by decide +kernel)), (zin 665 (by decide +kernel) (by decide +kernel)), TX7, 19, rfl⟩
theorem mbX6_speed : zMb yX6_speed cX6_speed 3 (some .int) 1 := ⟨(zin 1 (by decide +kernel) (by decide +kernel)), (zin 275 (by decide +kernel) (by decide +kernel)), by decide +kernel⟩
theorem mL_23 : zMV RL 23 yX6_speed cX6_speed 3 (some .int) 1 6 := ⟨mbX6_speed, (zin 272 (by decide +kernel) (by decide +kernel)), (zin 273 (by decide +kernel) (by decide +kernel)), (zin 274 (by decide +kernel) (by decide +kernel)), TX6, 7, rfl⟩
theorem mbX7_speed : zMb yX7_speed cX7_speed 3 (some .int) 1 := ⟨(zin 9 (by decide +kernel) (by decide +kernel)), (zin 674 (by decide +kernel) (by decide +kernel)), by decide +kernel⟩
theorem mL_27 : zMV RL 27 yX7_speed cX7_speed 3 (some .int) 1 7 := ⟨mbX7_speed, (zin 671 (by decide +kernel) (by decide +kernel)), (zin 672 (by decide +kernel) (by decide +kernel)), (zin 673 (by decide +kernel) (by decide +kernel)), TX7, 19, rfl⟩
theorem mbX6_anew : zMb yX6_anew cX6_anew 2 (some .int) 0 := ⟨(zin 1 (by decide +kernel) (by decide +kernel)), (zin 279 (by decide +kernel) (by decide +kernel)), by decide +kernel⟩
theorem mL_28 : zMV RL 28 yX6_anew cX6_anew 2 (some .int) 0 6 := ⟨mbX6_anew, (zin 276 (by decide +kernel) (by decide +kernel)), (zin 277 (by decide +kernel) (by decide +kernel)), (zin 278 (by decide +kernel) (by decide +kernel)), TX6, 7, rfl⟩
theorem mbX7_anew : zMb yX7_anew cX7_anew 2 (some .int) 0 := ⟨(zin 9 (by decide +kernel) (by decide +kernel)), (zin 682 (by decide +kernel) (by decide +kernel)), by decide +kernel⟩
theorem mL_32 : zMV RL 32 yX7_anew cX7_anew 2 (some .int) 0 7 := ⟨mbX7_anew, (zin 679 (by decide +kernel) (by decide +kernel)), (zin 680 (by decide +kernel) (by decide +kernel)), (zin 681 (by decide +kernel) (by decide +kernel)), TX7, 19, rfl⟩
theorem mbX6_ticks : zMb yX6_ticks cX6_ticks 3 (some .int) 1 := ⟨(zin 1 (by decide +kernel) (by decide +kernel)), (zin 283 (by decide +kernel) (by decide +kernel)), by decide +kernel⟩
theorem mL_33 : zMV RL 33 yX6_ticks cX6_ticks 3 (some .int) 1 6 := ⟨mbX6_ticks, (zin 280 (by decide +kernel) (by decide +kernel)), (zin 281 (by decide +kernel) (by decide +kernel)), (zin 282 (by decide +kernel) (by decide +kernel)), TX6, 7, rfl⟩
theorem mbX7_ticks : zMb yX7_ticks cX7_ticks 3 (some .int) 1 := ⟨(zin 9 (by decide +kernel) (by decide +kernel)), (zin 686 (by decide +kernel) (by decide +kernel)), by decide +kernel⟩
theorem mL_36 : zMV RL 36 yX7_ticks cX7_ticks 3 (some .int) 1 7 := ⟨mbX7_ticks, (zin 683 (by decide +kernel) (by decide +kernel)), (zin 684 (by decide +kernel) (by decide +kernel)), (zin 685 (by decide +kernel) (by decide +kernel)), TX7, 19, rfl⟩
theorem mbX6_stop : zMb yX6_stop cX6_stop 3 (some .int) 1 := ⟨(zin 1 (by decide +kernel) (by decide +kernel)), (zin 399 (by decide +kernel) (by decide +kernel)), by decide +kernel⟩
theorem mL_37 : zMV RL 37 yX6_stop cX6_stop 3 (some .int) 1 6 := ⟨mbX6_stop, (zin 396 (by decide +kernel) (by decide +kernel)), (zin 397 (by decide +kernel) (by decide +kernel)), (zin 398 (by decide +kernel) (by decide +kernel)), TX6, 7, rfl⟩
theorem mbX7_stop : zMb yX7_stop cX7_stop 3 (some .int) 1 := ⟨(zin 9 (by decide +kernel) (by decide +kernel)), (zin 754 (by decide +kernel) (by decide +kernel)), by decide +kernel⟩
theorem mL_41 : zMV RL 41 yX7_stop cX7_stop 3 (some .int) 1 7 := ⟨mbX7_stop, (zin 751 (by decide +kernel) (by decide +kernel)), (zin 752 (by decide +kernel) (by decide +kernel)), (zin 753 (by decide +kernel) (by decide +kernel)), TX7, 19, rfl⟩
theorem mbX6_shut : zMb yX6_shut cX6_shut 4 (some .int) 2 := ⟨(zin 1 (by decide +kernel) (by decide +kernel)), (zin 403 (by decide +kernel) (by decide +kernel)), by decide +kernel⟩
theorem mL_42 : zMV RL 42 yX6_shut cX6_shut 4 (some .int) 2 6 := ⟨mbX6_shut, (zin 400 (by decide +kernel) (by decide +kernel)), (zin 401 (by decide +kernel) (by decide +kernel)), (zin 402 (by decide +kernel) (by decide +kernel)), TX6, 7, rfl⟩
theorem mbX7_shut : zMb yX7_shut cX7_shut 4 (some .int) 2 := ⟨(zin 9 (by decide +kernel) (by decide +kernel)), (zin 758 (by decide +kernel) (by decide +kernel)), by decide +kernel⟩
theorem mL_46 : zMV RL 46 yX7_shut cX7_shut 4 (some .int) 2 7 := ⟨mbX7_shut, (zin 755 (by decide +kernel) (by decide +kernel)), (zin 756 (by decide +kernel) (by decide +kernel)), (zin 757 (by decide +kernel) (by decide +kernel)), TX7, 19, rfl⟩
theorem mbX6_box : zMb yX6_box cX6_box 4 (some .int) 2 := ⟨(zin 1 (by decide +kernel) (by decide +kernel)), (zin 407 (by decide +kernel) (by decide +kernel)), by decide +kernel⟩
theorem mL_47 : zMV RL 47 yX6_box cX6_box 4 (some .int) 2 6 := ⟨mbX6_box, (zin 404 (by decide +kernel) (by decide +kernel)), (zin 405 (by decide +kernel) (by decide +kernel)), (zin 406 (by decide +kernel) (by decide +kernel)), TX6, 7, rfl⟩
theorem mbX7_box : zMb yX7_box cX7_box 4 (some .int) 2 := ⟨(zin 9 (by decide +kernel) (by decide +kernel)), (zin 762 (by decide +kernel) (by decide +kernel)), by decide +kernel⟩
theorem mL_51 : zMV RL 51 yX7_box cX7_box 4 (some .int) 2 7 := ⟨mbX7_box, (zin 759 (by decide +kernel) (by decide +kernel)), (zin 760 (by decide +kernel) (by decide +kernel)), (zin 761 (by decide +kernel) (by decide +kernel)), TX7, 19, rfl⟩
theorem mbX6_left : zMb yX6_left cX6_left 1 (some .int) 0 := ⟨(zin 1 (by decide +kernel) (by decide +kernel)), (zin 420 (by decide +kernel) (by decide +kernel)), by decide +kernel⟩
theorem mL_52 : zMV RL 52 yX6_left cX6_left 1 (some .int) 0 6 := ⟨mbX6_left, (zin 417 (by decide +kernel) (by decide +kernel)), (zin 418 (by decide +kernel) (by decide +kernel)), (zin 419 (by decide +kernel) (by decide +kernel)), TX6, 7, rfl⟩
theorem mbX7_left : zMb yX7_left cX7_left 1 (some .int) 0 := ⟨(zin 9 (by decide +kernel) (by decide +kernel)), (zin 770 (by decide +kernel) (by decide +kernel)), by decide +kernel⟩
theorem mL_55 : zMV RL 55 yX7_left cX7_left 1 (some .int) 0 7 := ⟨mbX7_left, (zin 767 (by decide +kernel) (by decide +kernel)), (zin 768 (by decide +kernel) (by decide +kernel)), (zin 769 (by decide +kernel) (by decide +kernel)), TX7, 19, rfl⟩
theorem mbX6_about : zMb yX6_about cX6_about 3 (some .int) 2 := ⟨(zin 1 (by decide +kernel) (by decide +kernel)), (zin 425 (by decide +kernel) (by decide +kernel)), by decide +kernel⟩
theorem mL_56 : zMV RL 56 yX6_about cX6_about 3 (some .int) 2 6 := ⟨mbX6_about, (zin 422 (by decide +kernel) (by decide +kernel)), (zin 423 (by decide +kernel) (by decide +kernel)), (zin 424 (by decide +kernel) (by decide +kernel)), TX6, 7, rfl⟩
theorem mbX7_about : zMb yX7_about cX7_about 4 (some .int) 2 := ⟨(zin 9 (by decide +kernel) (by decide +kernel)), (zin 774 (by decide +kernel) (by decide +kernel)), by decide +kernel⟩
theorem mL_59 : zMV RL 59 yX7_about cX7_about 4 (some .int) 2 7 := ⟨mbX7_about, (zin 771 (by decide +kernel) (by decide +kernel)), (zin 772 (by decide +kernel) (by decide +kernel)), (zin 773 (by decide +kernel) (by decide +kernel)), TX7, 19, rfl⟩
theorem mbX6_stands : zMb yX6_stands cX6_stands 3 (some .int) 2 := ⟨(zin 1 (by decide +kernel) (by decide +kernel)), (zin 437 (by decide +kernel) (by decide +kernel)), by decide +kernel⟩
theorem mL_60 : zMV RL 60 yX6_stands cX6_stands 3 (some .int) 2 6 := ⟨mbX6_stands, (zin 434 (by decide +kernel) (by decide +kernel)), (zin 435 (by decide +kernel) (by decide +kernel)), (zin 436 (by decide +kernel) (by decide +kernel)), TX6, 7, rfl⟩
theorem mbX7_stands : zMb yX7_stands cX7_stands 3 (some .int) 2 := ⟨(zin 9 (by decide +kernel) (by decide +kernel)), (zin 790 (by decide +kernel) (by decide +kernel)), by decide +kernel⟩
theorem mL_63 : zMV RL 63 yX7_stands cX7_stands 3 (some .int) 2 7 := ⟨mbX7_stands, (zin 787 (by decide +kernel) (by decide +kernel)), (zin 788 (by decide +kernel) (by decide +kernel)), (zin 789 (by decide +kernel) (by decide +kernel)), TX7, 19, rfl⟩
theorem mbX6_safe : zMb yX6_safe cX6_safe 2 (some .int) 1 := ⟨(zin 1 (by decide +kernel) (by decide +kernel)), (zin 441 (by decide +kernel) (by decide +kernel)), by decide +kernel⟩
theorem mL_64 : zMV RL 64 yX6_safe cX6_safe 2 (some .int) 1 6 := ⟨mbX6_safe, (zin 438 (by decide +kernel) (by decide +kernel)), (zin 439 (by decide +kernel) (by decide +kernel)), (zin 440 (by decide +kernel) (by decide +kernel)), TX6, 7, rfl⟩
theorem mbX7_safe : zMb yX7_safe cX7_safe 2 (some .int) 1 := ⟨(zin 9 (by decide +kernel) (by decide +kernel)), (zin 794 (by decide +kernel) (by decide +kernel)), by decide +kernel⟩
theorem mL_67 : zMV RL 67 yX7_safe cX7_safe 2 (some .int) 1 7 := ⟨mbX7_safe, (zin 791 (by decide +kernel) (by decide +kernel)), (zin 792 (by decide +kernel) (by decide +kernel)), (zin 793 (by decide +kernel) (by decide +kernel)), TX7, 19, rfl⟩
theorem mbX6_cost : zMb yX6_cost cX6_cost 3 (some .int) 2 := ⟨(zin 1 (by decide +kernel) (by decide +kernel)), (zin 450 (by decide +kernel) (by decide +kernel)), by decide +kernel⟩
theorem mL_68 : zMV RL 68 yX6_cost cX6_cost 3 (some .int) 2 6 := ⟨mbX6_cost, (zin 447 (by decide +kernel) (by decide +kernel)), (zin 448 (by decide +kernel) (by decide +kernel)), (zin 449 (by decide +kernel) (by decide +kernel)), TX6, 7, rfl⟩
theorem mbX7_cost : zMb yX7_cost cX7_cost 3 (some .int) 2 := ⟨(zin 9 (by decide +kernel) (by decide +kernel)), (zin 802 (by decide +kernel) (by decide +kernel)), by decide +kernel⟩
theorem mL_71 : zMV RL 71 yX7_cost cX7_cost 3 (some .int) 2 7 := ⟨mbX7_cost, (zin 799 (by decide +kernel) (by decide +kernel)), (zin 800 (by decide +kernel) (by decide +kernel)), (zin 801 (by decide +kernel) (by decide +kernel)), TX7, 19, rfl⟩
theorem mbX6_bestSpeed : zMb yX6_bestSpeed cX6_bestSpeed 5 (some .int) 0 := ⟨(zin 1 (by decide +kernel) (by decide +kernel)), (zin 469 (by decide +kernel) (by decide +kernel)), by decide +kernel⟩
theorem mL_72 : zMV RL 72 yX6_bestSpeed cX6_bestSpeed 5 (some .int) 0 6 := ⟨mbX6_bestSpeed, (zin 466 (by decide +kernel) (by decide +kernel)), (zin 467 (by decide +kernel) (by decide +kernel)), (zin 468 (by decide +kernel) (by decide +kernel)), TX6, 7, rfl⟩
theorem mbX7_bestSpeed : zMb yX7_bestSpeed cX7_bestSpeed 5 (some .int) 0 := ⟨(zin 9 (by decide +kernel) (by decide +kernel)), (zin 818 (by decide +kernel) (by decide +kernel)), by decide +kernel⟩
theorem mL_75 : zMV RL 75 yX7_bestSpeed cX7_bestSpeed 5 (some .int) 0 7 := ⟨mbX7_bestSpeed, (zin 815 (by decide +kernel) (by decide +kernel)), (zin 816 (by decide +kernel) (by decide +kernel)), (zin 817 (by decide +kernel) (by decide +kernel)), TX7, 19, rfl⟩
theorem mbX6_bestStairs : zMb yX6_bestStairs cX6_bestStairs 5 (some .int) 0 := ⟨(zin 1 (by decide +kernel) (by decide +kernel)), (zin 473 (by decide +kernel) (by decide +kernel)), by decide +kernel⟩
theorem mL_76 : zMV RL 76 yX6_bestStairs cX6_bestStairs 5 (some .int) 0 6 := ⟨mbX6_bestStairs, (zin 470 (by decide +kernel) (by decide +kernel)), (zin 471 (by decide +kernel) (by decide +kernel)), (zin 472 (by decide +kernel) (by decide +kernel)), TX6, 7, rfl⟩
theorem mbX7_bestStairs : zMb yX7_bestStairs cX7_bestStairs 5 (some .int) 0 := ⟨(zin 9 (by decide +kernel) (by decide +kernel)), (zin 822 (by decide +kernel) (by decide +kernel)), by decide +kernel⟩
theorem mL_79 : zMV RL 79 yX7_bestStairs cX7_bestStairs 5 (some .int) 0 7 := ⟨mbX7_bestStairs, (zin 819 (by decide +kernel) (by decide +kernel)), (zin 820 (by decide +kernel) (by decide +kernel)), (zin 821 (by decide +kernel) (by decide +kernel)), TX7, 19, rfl⟩
theorem mbX6_day : zMb yX6_day cX6_day 2 (some .int) 1 := ⟨(zin 1 (by decide +kernel) (by decide +kernel)), (zin 477 (by decide +kernel) (by decide +kernel)), by decide +kernel⟩
theorem mL_80 : zMV RL 80 yX6_day cX6_day 2 (some .int) 1 6 := ⟨mbX6_day, (zin 474 (by decide +kernel) (by decide +kernel)), (zin 475 (by decide +kernel) (by decide +kernel)), (zin 476 (by decide +kernel) (by decide +kernel)), TX6, 7, rfl⟩
theorem mbX7_day : zMb yX7_day cX7_day 8 (some .int) 1 := ⟨(zin 9 (by decide +kernel) (by decide +kernel)), (zin 826 (by decide +kernel) (by decide +kernel)), by decide +kernel⟩
theorem mL_83 : zMV RL 83 yX7_day cX7_day 8 (some .int) 1 7 := ⟨mbX7_day, (zin 823 (by decide +kernel) (by decide +kernel)), (zin 824 (by decide +kernel) (by decide +kernel)), (zin 825 (by decide +kernel) (by decide +kernel)), TX7, 19, rfl⟩
theorem mbX6_wheel : zMb yX6_wheel cX6_wheel 1 (some .int) 0 := ⟨(zin 1 (by decide +kernel) (by decide +kernel)), (zin 493 (by decide +kernel) (by decide +kernel)), by decide +kernel⟩
theorem mL_84 : zMV RL 84 yX6_wheel cX6_wheel 1 (some .int) 0 6 := ⟨mbX6_wheel, (zin 490 (by decide +kernel) (by decide +kernel)), (zin 491 (by decide +kernel) (by decide +kernel)), (zin 492 (by decide +kernel) (by decide +kernel)), TX6, 7, rfl⟩
theorem mbX7_wheel : zMb yX7_wheel cX7_wheel 5 (some .int) 0 := ⟨(zin 9 (by decide +kernel) (by decide +kernel)), (zin 830 (by decide +kernel) (by decide +kernel)), by decide +kernel⟩
theorem mL_87 : zMV RL 87 yX7_wheel cX7_wheel 5 (some .int) 0 7 := ⟨mbX7_wheel, (zin 827 (by decide +kernel) (by decide +kernel)), (zin 828 (by decide +kernel) (by decide +kernel)), (zin 829 (by decide +kernel) (by decide +kernel)), TX7, 19, rfl⟩
theorem mbX6_turn : zMb yX6_turn cX6_turn 2 (some .int) 1 := ⟨(zin 1 (by decide +kernel) (by decide +kernel)), (zin 516 (by decide +kernel) (by decide +kernel)), by decide +kernel⟩
theorem mL_88 : zMV RL 88 yX6_turn cX6_turn 2 (some .int) 1 6 := ⟨mbX6_turn, (zin 513 (by decide +kernel) (by decide +kernel)), (zin 514 (by decide +kernel) (by decide +kernel)), (zin 515 (by decide +kernel) (by decide +kernel)), TX6, 7, rfl⟩
theorem mbX7_turn : zMb yX7_turn cX7_turn 6 (some .int) 1 := ⟨(zin 9 (by decide +kernel) (by decide +kernel)), (zin 842 (by decide +kernel) (by decide +kernel)), by decide +kernel⟩
theorem mL_91 : zMV RL 91 yX7_turn cX7_turn 6 (some .int) 1 7 := ⟨mbX7_turn, (zin 839 (by decide +kernel) (by decide +kernel)), (zin 840 (by decide +kernel) (by decide +kernel)), (zin 841 (by decide +kernel) (by decide +kernel)), TX7, 19, rfl⟩
theorem mbX6_counted : zMb yX6_counted cX6_counted 3 (some .int) 2 := ⟨(zin 1 (by decide +kernel) (by decide +kernel)), (zin 525 (by decide +kernel) (by decide +kernel)), by decide +kernel⟩
theorem mL_92 : zMV RL 92 yX6_counted cX6_counted 3 (some .int) 2 6 := ⟨mbX6_counted, (zin 522 (by decide +kernel) (by decide +kernel)), (zin 523 (by decide +kernel) (by decide +kernel)), (zin 524 (by decide +kernel) (by decide +kernel)), TX6, 7, rfl⟩
theorem mbX7_counted : zMb yX7_counted cX7_counted 3 (some .int) 2 := ⟨(zin 9 (by decide +kernel) (by decide +kernel)), (zin 846 (by decide +kernel) (by decide +kernel)), by decide +kernel⟩
theorem mL_95 : zMV RL 95 yX7_counted cX7_counted 3 (some .int) 2 7 := ⟨mbX7_counted, (zin 843 (by decide +kernel) (by decide +kernel)), (zin 844 (by decide +kernel) (by decide +kernel)), (zin 845 (by decide +kernel) (by decide +kernel)), TX7, 19, rfl⟩
theorem mbX6_tell : zMb yX6_tell cX6_tell 5 (some .int) 3 := ⟨(zin 1 (by decide +kernel) (by decide +kernel)), (zin 529 (by decide +kernel) (by decide +kernel)), by decide +kernel⟩
theorem mL_96 : zMV RL 96 yX6_tell cX6_tell 5 (some .int) 3 6 := ⟨mbX6_tell, (zin 526 (by decide +kernel) (by decide +kernel)), (zin 527 (by decide +kernel) (by decide +kernel)), (zin 528 (by decide +kernel) (by decide +kernel)), TX6, 7, rfl⟩
theorem mbX7_tell : zMb yX7_tell cX7_tell 5 (some .int) 3 := ⟨(zin 9 (by decide +kernel) (by decide +kernel)), (zin 850 (by decide +kernel) (by decide +kernel)), by decide +kernel⟩
theorem mL_100 : zMV RL 100 yX7_tell cX7_tell 5 (some .int) 3 7 := ⟨mbX7_tell, (zin 847 (by decide +kernel) (by decide +kernel)), (zin 848 (by decide +kernel) (by decide +kernel)), (zin 849 (by decide +kernel) (by decide +kernel)), TX7, 19, rfl⟩
theorem mbX6_fits : zMb yX6_fits cX6_fits 2 (some .int) 1 := ⟨(zin 1 (by decide +kernel) (by decide +kernel)), (zin 533 (by decide +kernel) (by decide +kernel)), by decide +kernel⟩
theorem mL_101 : zMV RL 101 yX6_fits cX6_fits 2 (some .int) 1 6 := ⟨mbX6_fits, (zin 530 (by decide +kernel) (by decide +kernel)), (zin 531 (by decide +kernel) (by decide +kernel)), (zin 532 (by decide +kernel) (by decide +kernel)), TX6, 7, rfl⟩
theorem mbX7_fits : zMb yX7_fits cX7_fits 7 (some .int) 1 := ⟨(zin 9 (by decide +kernel) (by decide +kernel)), (zin 854 (by decide +kernel) (by decide +kernel)), by decide +kernel⟩
theorem mL_104 : zMV RL 104 yX7_fits cX7_fits 7 (some .int) 1 7 := ⟨mbX7_fits, (zin 851 (by decide +kernel) (by decide +kernel)), (zin 852 (by decide +kernel) (by decide +kernel)), (zin 853 (by decide +kernel) (by decide +kernel)), TX7, 19, rfl⟩
theorem mbX6_wrong : zMb yX6_wrong cX6_wrong 3 (some .int) 0 := ⟨(zin 1 (by decide +kernel) (by decide +kernel)), (zin 546 (by decide +kernel) (by decide +kernel)), by decide +kernel⟩
theorem mL_105 : zMV RL 105 yX6_wrong cX6_wrong 3 (some .int) 0 6 := ⟨mbX6_wrong, (zin 543 (by decide +kernel) (by decide +kernel)), (zin 544 (by decide +kernel) (by decide +kernel)), (zin 545 (by decide +kernel) (by decide +kernel)), TX6, 7, rfl⟩
theorem mbX7_wrong : zMb yX7_wrong cX7_wrong 4 (some .int) 0 := ⟨(zin 9 (by decide +kernel) (by decide +kernel)), (zin 858 (by decide +kernel) (by decide +kernel)), by decide +kernel⟩
theorem mL_108 : zMV RL 108 yX7_wrong cX7_wrong 4 (some .int) 0 7 := ⟨mbX7_wrong, (zin 855 (by decide +kernel) (by decide +kernel)), (zin 856 (by decide +kernel) (by decide +kernel)), (zin 857 (by decide +kernel) (by decide +kernel)), TX7, 19, rfl⟩
theorem mbX6_keep : zMb yX6_keep cX6_keep 1 (some .int) 0 := ⟨(zin 1 (by decide +kernel) (by decide +kernel)), (zin 554 (by decide +kernel) (by decide +kernel)), by decide +kernel⟩
theorem mL_109 : zMV RL 109 yX6_keep cX6_keep 1 (some .int) 0 6 := ⟨mbX6_keep, (zin 551 (by decide +kernel) (by decide +kernel)), (zin 552 (by decide +kernel) (by decide +kernel)), (zin 553 (by decide +kernel) (by decide +kernel)), TX6, 7, rfl⟩
theorem mbX7_keep : zMb yX7_keep cX7_keep 2 (some .int) 0 := ⟨(zin 9 (by decide +kernel) (by decide +kernel)), (zin 862 (by decide +kernel) (by decide +kernel)), by decide +kernel⟩
theorem mL_112 : zMV RL 112 yX7_keep cX7_keep 2 (some .int) 0 7 := ⟨mbX7_keep, (zin 859 (by decide +kernel) (by decide +kernel)), (zin 860 (by decide +kernel) (by decide +kernel)), (zin 861 (by decide +kernel) (by decide +kernel)), TX7, 19, rfl⟩
theorem mbX6_beside : zMb yX6_beside cX6_beside 3 (some .int) 2 := ⟨(zin 1 (by decide +kernel) (by decide +kernel)), (zin 563 (by decide +kernel) (by decide +kernel)), by decide +kernel⟩
theorem mL_113 : zMV RL 113 yX6_beside cX6_beside 3 (some .int) 2 6 := ⟨mbX6_beside, (zin 560 (by decide +kernel) (by decide +kernel)), (zin 561 (by decide +kernel) (by decide +kernel)), (zin 562 (by decide +kernel) (by decide +kernel)), TX6, 7, rfl⟩
theorem mbX7_beside : zMb yX7_beside cX7_beside 8 (some .int) 2 := ⟨(zin 9 (by decide +kernel) (by decide +kernel)), (zin 866 (by decide +kernel) (by decide +kernel)), by decide +kernel⟩
theorem mL_116 : zMV RL 116 yX7_beside cX7_beside 8 (some .int) 2 7 := ⟨mbX7_beside, (zin 863 (by decide +kernel) (by decide +kernel)), (zin 864 (by decide +kernel) (by decide +kernel)), (zin 865 (by decide +kernel) (by decide +kernel)), TX7, 19, rfl⟩
theorem mbX6_count : zMb yX6_count cX6_count 2 (some .int) 1 := ⟨(zin 1 (by decide +kernel) (by decide +kernel)), (zin 579 (by decide +kernel) (by decide +kernel)), by decide +kernel⟩
theorem mL_117 : zMV RL 117 yX6_count cX6_count 2 (some .int) 1 6 := ⟨mbX6_count, (zin 576 (by decide +kernel) (by decide +kernel)), (zin 577 (by decide +kernel) (by decide +kernel)), (zin 578 (by decide +kernel) (by decide +kernel)), TX6, 7, rfl⟩
theorem mbX7_count : zMb yX7_count cX7_count 4 (some .int) 1 := ⟨(zin 9 (by decide +kernel) (by decide +kernel)), (zin 871 (by decide +kernel) (by decide +kernel)), by decide +kernel⟩
theorem mL_120 : zMV RL 120 yX7_count cX7_count 4 (some .int) 1 7 := ⟨mbX7_count, (zin 868 (by decide +kernel) (by decide +kernel)), (zin 869 (by decide +kernel) (by decide +kernel)), (zin 870 (by decide +kernel) (by decide +kernel)), TX7, 19, rfl⟩

theorem zin {w : Cond} (i : Nat) (h : tables_1[i]? = some w) (hg : goodWord w = true) : w ∈ ztb := List.mem_filter.mpr ⟨List.mem_append_right _ (List.mem_of_getElem? h), hg⟩
theorem zins {w : Cond} (i : Nat) (h : (k2_sels lw_privs)[i]? = some w) (hg : goodWord w = true) : w ∈ ztb := List.mem_filter.mpr ⟨List.mem_append_left _ (List.mem_of_getElem? h), hg⟩
theorem inX0 : ∀ w ∈ u_ws RX0 TX0 17, w ∈ ztb := by
  intro w hw
  obtain ⟨k, hk, rfl⟩ := List.mem_map.mp hw
  have hk := List.mem_range.mp hk
  match k, hk with
  | 0, _ => exact (zin 133 (by decide +kernel) (by decide +kernel))
  | 1, _ => exact (zin 135 (by decide +kernel) (by decide +kernel))
  | 2, _ => exact (zin 137 (by decide +kernel) (by decide +kernel))
  | 3, _ => exact (zin 139 (by decide +kernel) (by decide +kernel))
  | 4, _ => exact (zin 141 (by decide +kernel) (by decide +kernel))
  | 5, _ => exact (zin 143 (by decide +kernel) (by decide +kernel))
  | 6, _ => exact (zin 145 (by decide +kernel) (by decide +kernel))
  | 7, _ => exact (zin 147 (by decide +kernel) (by decide +kernel))
  | 8, _ => exact (zin 149 (by decide +kernel) (by decide +kernel))
  | 9, _ => exact (zin 151 (by decide +kernel) (by decide +kernel))
  | 10, _ => exact (zin 153 (by decide +kernel) (by decide +kernel))
  | 11, _ => exact (zin 155 (by decide +kernel) (by decide +kernel))
  | 12, _ => exact (zin 157 (by decide +kernel) (by decide +kernel))
  | 13, _ => exact (zin 159 (by decide +kernel) (by decide +kernel))
  | 14, _ => exact (zin 161 (by decide +kernel) (by decide +kernel))
  | 15, _ => exact (zin 163 (by decide +kernel) (by decide +kernel))
  | 16, _ => exact (zin 165 (by decide +kernel) (by decide +kernel))
  | k + 17, hk => exact absurd hk (by omega)
theorem pnX0 : plainName RX0 = true := by decide +kernel
theorem inX1 : ∀ w ∈ u_ws RX1 TX1 2, w ∈ ztb := by
  intro w hw
  obtain ⟨k, hk, rfl⟩ := List.mem_map.mp hw
  have hk := List.mem_range.mp hk
  match k, hk with
  | 0, _ => exact (zin 177 (by decide +kernel) (by decide +kernel))
  | 1, _ => exact (zin 179 (by decide +kernel) (by decide +kernel))
  | k + 2, hk => exact absurd hk (by omega)
theorem pnX1 : plainName RX1 = true := by decide +kernel
theorem inX2 : ∀ w ∈ u_ws RX2 TX2 5, w ∈ ztb := by
  intro w hw
  obtain ⟨k, hk, rfl⟩ := List.mem_map.mp hw
  have hk := List.mem_range.mp hk
  match k, hk with
  | 0, _ => exact (zin 80 (by decide +kernel) (by decide +kernel))
  | 1, _ => exact (zin 82 (by decide +kernel) (by decide +kernel))
  | 2, _ => exact (zin 84 (by decide +kernel) (by decide +kernel))
  | 3, _ => exact (zin 86 (by decide +kernel) (by decide +kernel))
  | 4, _ => exact (zin 88 (by decide +kernel) (by decide +kernel))
  | k + 5, hk => exact absurd hk (by omega)
theorem pnX2 : plainName RX2 = true := by decide +kernel
theorem inX3 : ∀ w ∈ u_ws RX3 TX3 3, w ∈ ztb := by
  intro w hw
  obtain ⟨k, hk, rfl⟩ := List.mem_map.mp hw
  have hk := List.mem_range.mp hk
  match k, hk with
  | 0, _ => exact (zin 212 (by decide +kernel) (by decide +kernel))
  | 1, _ => exact (zin 214 (by decide +kernel) (by decide +kernel))
  | 2, _ => exact (zin 216 (by decide +kernel) (by decide +kernel))
  | k + 3, hk => exact absurd hk (by omega)
theorem pnX3 : plainName RX3 = true := by decide +kernel
theorem inX4 : ∀ w ∈ u_ws RX4 TX4 8, w ∈ ztb := by
  intro w hw
  obtain ⟨k, hk, rfl⟩ := List.mem_map.mp hw
  have hk := List.mem_range.mp hk
  match k, hk with
  | 0, _ => exact (zin 44 (by decide +kernel) (by decide +kernel))
  | 1, _ => exact (zin 46 (by decide +kernel) (by decide +kernel))
  | 2, _ => exact (zin 48 (by decide +kernel) (by decide +kernel))
  | 3, _ => exact (zin 50 (by decide +kernel) (by decide +kernel))
  | 4, _ => exact (zin 52 (by decide +kernel) (by decide +kernel))
  | 5, _ => exact (zin 54 (by decide +kernel) (by decide +kernel))
  | 6, _ => exact (zin 56 (by decide +kernel) (by decide +kernel))
  | 7, _ => exact (zin 58 (by decide +kernel) (by decide +kernel))
  | k + 8, hk => exact absurd hk (by omega)
theorem pnX4 : plainName RX4 = true := by decide +kernel
theorem inX5 : ∀ w ∈ u_ws RX5 TX5 1, w ∈ ztb := by
  intro w hw
  obtain ⟨k, hk, rfl⟩ := List.mem_map.mp hw
  have hk := List.mem_range.mp hk
  match k, hk with
  | 0, _ => exact (zin 198 (by decide +kernel) (by decide +kernel))
  | k + 1, hk => exact absurd hk (by omega)
theorem pnX5 : plainName RX5 = true := by decide +kernel
theorem inX6 : ∀ w ∈ u_ws RX6 TX6 7, w ∈ ztb := by
  intro w hw
  obtain ⟨k, hk, rfl⟩ := List.mem_map.mp hw
  have hk := List.mem_range.mp hk
  match k, hk with
  | 0, _ => exact (zin 226 (by decide +kernel) (by decide +kernel))
  | 1, _ => exact (zin 228 (by decide +kernel) (by decide +kernel))
  | 2, _ => exact (zin 230 (by decide +kernel) (by decide +kernel))
  | 3, _ => exact (zin 232 (by decide +kernel) (by decide +kernel))
  | 4, _ => exact (zin 234 (by decide +kernel) (by decide +kernel))
  | 5, _ => exact (zin 236 (by decide +kernel) (by decide +kernel))
  | 6, _ => exact (zin 238 (by decide +kernel) (by decide +kernel))
  | k + 7, hk => exact absurd hk (by omega)
theorem pnX6 : plainName RX6 = true := by decide +kernel
theorem inX7 : ∀ w ∈ u_ws RX7 TX7 19, w ∈ ztb := by
  intro w hw
  obtain ⟨k, hk, rfl⟩ := List.mem_map.mp hw
  have hk := List.mem_range.mp hk
  match k, hk with
  | 0, _ => exact (zin 616 (by decide +kernel) (by decide +kernel))
  | 1, _ => exact (zin 618 (by decide +kernel) (by decide +kernel))
  | 2, _ => exact (zin 620 (by decide +kernel) (by decide +kernel))
  | 3, _ => exact (zin 622 (by decide +kernel) (by decide +kernel))
  | 4, _ => exact (zin 624 (by decide +kernel) (by decide +kernel))
  | 5, _ => exact (zin 626 (by decide +kernel) (by decide +kernel))
  | 6, _ => exact (zin 628 (by decide +kernel) (by decide +kernel))
  | 7, _ => exact (zin 630 (by decide +kernel) (by decide +kernel))
  | 8, _ => exact (zin 632 (by decide +kernel) (by decide +kernel))
  | 9, _ => exact (zin 634 (by decide +kernel) (by decide +kernel))
  | 10, _ => exact (zin 636 (by decide +kernel) (by decide +kernel))
  | 11, _ => exact (zin 638 (by decide +kernel) (by decide +kernel))
  | 12, _ => exact (zin 640 (by decide +kernel) (by decide +kernel))
  | 13, _ => exact (zin 642 (by decide +kernel) (by decide +kernel))
  | 14, _ => exact (zin 644 (by decide +kernel) (by decide +kernel))
  | 15, _ => exact (zin 646 (by decide +kernel) (by decide +kernel))
  | 16, _ => exact (zin 648 (by decide +kernel) (by decide +kernel))
  | 17, _ => exact (zin 650 (by decide +kernel) (by decide +kernel))
  | 18, _ => exact (zin 652 (by decide +kernel) (by decide +kernel))
  | k + 19, hk => exact absurd hk (by omega)
theorem pnX7 : plainName RX7 = true := by decide +kernel
theorem pfJ9 : plainFor yJ9_floorMod_7cf53 = true := by decide +kernel
theorem pnJ6 : plainName RJ6 = true := by decide +kernel
theorem pnJ7 : plainName RJ7 = true := by decide +kernel
theorem zkX0_0 : (zfk 0)[0]? = some true := rfl
theorem zkX0_1 : (zfk 0)[1]? = some true := rfl
theorem zkX0_2 : (zfk 0)[2]? = some true := rfl
theorem zkX0_3 : (zfk 0)[3]? = some true := rfl
theorem zkX0_4 : (zfk 0)[4]? = some true := rfl
theorem zkX0_5 : (zfk 0)[5]? = some true := rfl
theorem zkX0_6 : (zfk 0)[6]? = some true := rfl
theorem zkX0_7 : (zfk 0)[7]? = some true := rfl
theorem zkX0_8 : (zfk 0)[8]? = some true := rfl
theorem zkX0_9 : (zfk 0)[9]? = some true := rfl
theorem zkX0_10 : (zfk 0)[10]? = some true := rfl
theorem zkX0_11 : (zfk 0)[11]? = some false := rfl
theorem zkX0_12 : (zfk 0)[12]? = some false := rfl
theorem zkX0_13 : (zfk 0)[13]? = some false := rfl
theorem zkX0_14 : (zfk 0)[14]? = some false := rfl
theorem zkX0_15 : (zfk 0)[15]? = some false := rfl
theorem zkX0_16 : (zfk 0)[16]? = some false := rfl
theorem zkX1_0 : (zfk 1)[0]? = some true := rfl
theorem zkX1_1 : (zfk 1)[1]? = some true := rfl
theorem zkX2_0 : (zfk 2)[0]? = some false := rfl
theorem zkX2_1 : (zfk 2)[1]? = some false := rfl
theorem zkX2_2 : (zfk 2)[2]? = some false := rfl
theorem zkX2_3 : (zfk 2)[3]? = some false := rfl
theorem zkX2_4 : (zfk 2)[4]? = some false := rfl
theorem zkX3_0 : (zfk 3)[0]? = some true := rfl
theorem zkX3_1 : (zfk 3)[1]? = some true := rfl
theorem zkX3_2 : (zfk 3)[2]? = some false := rfl
theorem zkX4_0 : (zfk 4)[0]? = some true := rfl
theorem zkX4_1 : (zfk 4)[1]? = some true := rfl
theorem zkX4_2 : (zfk 4)[2]? = some true := rfl
theorem zkX4_3 : (zfk 4)[3]? = some true := rfl
theorem zkX4_4 : (zfk 4)[4]? = some true := rfl
theorem zkX4_5 : (zfk 4)[5]? = some true := rfl
theorem zkX4_6 : (zfk 4)[6]? = some true := rfl
theorem zkX4_7 : (zfk 4)[7]? = some false := rfl
theorem zkX5_0 : (zfk 5)[0]? = some true := rfl
theorem zkX6_0 : (zfk 6)[0]? = some true := rfl
theorem zkX6_1 : (zfk 6)[1]? = some true := rfl
theorem zkX6_2 : (zfk 6)[2]? = some true := rfl
theorem zkX6_3 : (zfk 6)[3]? = some true := rfl
theorem zkX6_4 : (zfk 6)[4]? = some true := rfl
theorem zkX6_5 : (zfk 6)[5]? = some true := rfl
theorem zkX6_6 : (zfk 6)[6]? = some true := rfl
theorem zkX7_0 : (zfk 7)[0]? = some false := rfl
theorem zkX7_1 : (zfk 7)[1]? = some false := rfl
theorem zkX7_2 : (zfk 7)[2]? = some false := rfl
theorem zkX7_3 : (zfk 7)[3]? = some false := rfl
theorem zkX7_4 : (zfk 7)[4]? = some false := rfl
theorem zkX7_5 : (zfk 7)[5]? = some false := rfl
theorem zkX7_6 : (zfk 7)[6]? = some true := rfl
theorem zkX7_7 : (zfk 7)[7]? = some true := rfl
theorem zkX7_8 : (zfk 7)[8]? = some true := rfl
theorem zkX7_9 : (zfk 7)[9]? = some true := rfl
theorem zkX7_10 : (zfk 7)[10]? = some true := rfl
theorem zkX7_11 : (zfk 7)[11]? = some true := rfl
theorem zkX7_12 : (zfk 7)[12]? = some true := rfl
theorem zkX7_13 : (zfk 7)[13]? = some true := rfl
theorem zkX7_14 : (zfk 7)[14]? = some true := rfl
theorem zkX7_15 : (zfk 7)[15]? = some true := rfl
theorem zkX7_16 : (zfk 7)[16]? = some false := rfl
theorem zkX7_17 : (zfk 7)[17]? = some true := rfl
theorem zkX7_18 : (zfk 7)[18]? = some true := rfl
theorem fX0_9 : zF RX0 9 0 1 (.array .int) true := ⟨RX0, TX0, 17, tyX0, rfl, inX0, tyX0_ok, nmX0, by decide, (zin 101 (by decide +kernel) (by decide +kernel)), rfl, fun _ => rfl, by decide +kernel, rfl⟩
theorem fX0_15 : zF RX0 15 0 2 (.array .int) true := ⟨RX0, TX0, 17, tyX0, rfl, inX0, tyX0_ok, nmX0, by decide, (zin 103 (by decide +kernel) (by decide +kernel)), rfl, fun _ => rfl, by decide +kernel, rfl⟩
theorem fX0_18 : zF RX0 18 0 3 (.array .int) true := ⟨RX0, TX0, 17, tyX0, rfl, inX0, tyX0_ok, nmX0, by decide, (zin 104 (by decide +kernel) (by decide +kernel)), rfl, fun _ => rfl, by decide +kernel, rfl⟩
theorem fX0_21 : zF RX0 21 0 4 (.array .int) true := ⟨RX0, TX0, 17, tyX0, rfl, inX0, tyX0_ok, nmX0, by decide, (zin 106 (by decide +kernel) (by decide +kernel)), rfl, fun _ => rfl, by decide +kernel, rfl⟩
theorem fX0_26 : zF RX0 26 0 5 (.array (.array .int)) true := ⟨RX0, TX0, 17, tyX0, rfl, inX0, tyX0_ok, nmX0, by decide, (zin 108 (by decide +kernel) (by decide +kernel)), rfl, fun _ => rfl, by decide +kernel, rfl⟩
theorem fX0_29 : zF RX0 29 0 6 (.array .int) true := ⟨RX0, TX0, 17, tyX0, rfl, inX0, tyX0_ok, nmX0, by decide, (zin 110 (by decide +kernel) (by decide +kernel)), rfl, fun _ => rfl, by decide +kernel, rfl⟩
theorem fX0_32 : zF RX0 32 0 7 (.array .int) true := ⟨RX0, TX0, 17, tyX0, rfl, inX0, tyX0_ok, nmX0, by decide, (zin 112 (by decide +kernel) (by decide +kernel)), rfl, fun _ => rfl, by decide +kernel, rfl⟩
theorem fX0_35 : zF RX0 35 0 8 (.array (.array .int)) true := ⟨RX0, TX0, 17, tyX0, rfl, inX0, tyX0_ok, nmX0, by decide, (zin 115 (by decide +kernel) (by decide +kernel)), rfl, fun _ => rfl, by decide +kernel, rfl⟩
theorem fX0_38 : zF RX0 38 0 9 (.array .boolean) true := ⟨RX0, TX0, 17, tyX0, rfl, inX0, tyX0_ok, nmX0, by decide, (zin 117 (by decide +kernel) (by decide +kernel)), rfl, fun _ => rfl, by decide +kernel, rfl⟩
theorem fX0_42 : zF RX0 42 0 0 (.object "CabinChain$People") true := ⟨RX0, TX0, 17, tyX0, rfl, inX0, tyX0_ok, nmX0, by decide, (zin 99 (by decide +kernel) (by decide +kernel)), rfl, fun _ => rfl, by decide +kernel, rfl⟩
theorem fX0_46 : zF RX0 46 0 10 (.object "CabinChain$House") false := ⟨RX0, TX0, 17, tyX0, rfl, inX0, tyX0_ok, nmX0, by decide, (zin 119 (by decide +kernel) (by decide +kernel)), rfl, fun h => absurd h (by decide), by decide +kernel, rfl⟩
theorem fX0_50 : zF RX0 50 0 11 .int false := ⟨RX0, TX0, 17, tyX0, rfl, inX0, tyX0_ok, nmX0, by decide, (zin 121 (by decide +kernel) (by decide +kernel)), rfl, fun h => absurd h (by decide), by decide +kernel, rfl⟩
theorem fX0_54 : zF RX0 54 0 12 .int false := ⟨RX0, TX0, 17, tyX0, rfl, inX0, tyX0_ok, nmX0, by decide, (zin 123 (by decide +kernel) (by decide +kernel)), rfl, fun h => absurd h (by decide), by decide +kernel, rfl⟩
theorem fX0_57 : zF RX0 57 0 13 .int false := ⟨RX0, TX0, 17, tyX0, rfl, inX0, tyX0_ok, nmX0, by decide, (zin 124 (by decide +kernel) (by decide +kernel)), rfl, fun h => absurd h (by decide), by decide +kernel, rfl⟩
theorem fX0_60 : zF RX0 60 0 14 .int false := ⟨RX0, TX0, 17, tyX0, rfl, inX0, tyX0_ok, nmX0, by decide, (zin 126 (by decide +kernel) (by decide +kernel)), rfl, fun h => absurd h (by decide), by decide +kernel, rfl⟩
theorem fX0_63 : zF RX0 63 0 15 .int false := ⟨RX0, TX0, 17, tyX0, rfl, inX0, tyX0_ok, nmX0, by decide, (zin 129 (by decide +kernel) (by decide +kernel)), rfl, fun h => absurd h (by decide), by decide +kernel, rfl⟩
theorem fX0_66 : zF RX0 66 0 16 .boolean false := ⟨RX0, TX0, 17, tyX0, rfl, inX0, tyX0_ok, nmX0, by decide, (zin 131 (by decide +kernel) (by decide +kernel)), rfl, fun h => absurd h (by decide), by decide +kernel, rfl⟩
theorem fX0_100 : zF RX0 100 2 0 .int true := ⟨RX2, TX2, 5, tyX2, rfl, inX2, tyX2_ok, nmX2, by decide, (zin 69 (by decide +kernel) (by decide +kernel)), rfl, fun _ => rfl, by decide +kernel, rfl⟩
theorem fX0_114 : zF RX0 114 2 3 .int true := ⟨RX2, TX2, 5, tyX2, rfl, inX2, tyX2_ok, nmX2, by decide, (zin 78 (by decide +kernel) (by decide +kernel)), rfl, fun _ => rfl, by decide +kernel, rfl⟩
theorem fX0_128 : zF RX0 128 4 7 .int false := ⟨RX4, TX4, 8, tyX4, rfl, inX4, tyX4_ok, nmX4, by decide, (zin 43 (by decide +kernel) (by decide +kernel)), rfl, fun h => absurd h (by decide), by decide +kernel, rfl⟩
theorem fX0_137 : zF RX0 137 4 0 (.array .int) true := ⟨RX4, TX4, 8, tyX4, rfl, inX4, tyX4_ok, nmX4, by decide, (zin 27 (by decide +kernel) (by decide +kernel)), rfl, fun _ => rfl, by decide +kernel, rfl⟩
theorem fX0_150 : zF RX0 150 4 1 (.array .int) true := ⟨RX4, TX4, 8, tyX4, rfl, inX4, tyX4_ok, nmX4, by decide, (zin 29 (by decide +kernel) (by decide +kernel)), rfl, fun _ => rfl, by decide +kernel, rfl⟩
theorem fX0_179 : zF RX0 179 4 2 (.array .int) true := ⟨RX4, TX4, 8, tyX4, rfl, inX4, tyX4_ok, nmX4, by decide, (zin 31 (by decide +kernel) (by decide +kernel)), rfl, fun _ => rfl, by decide +kernel, rfl⟩
theorem fX0_182 : zF RX0 182 4 5 (.array .int) true := ⟨RX4, TX4, 8, tyX4, rfl, inX4, tyX4_ok, nmX4, by decide, (zin 38 (by decide +kernel) (by decide +kernel)), rfl, fun _ => rfl, by decide +kernel, rfl⟩
theorem fX0_185 : zF RX0 185 4 4 (.array .int) true := ⟨RX4, TX4, 8, tyX4, rfl, inX4, tyX4_ok, nmX4, by decide, (zin 35 (by decide +kernel) (by decide +kernel)), rfl, fun _ => rfl, by decide +kernel, rfl⟩
theorem fX0_194 : zF RX0 194 4 3 (.array .int) true := ⟨RX4, TX4, 8, tyX4, rfl, inX4, tyX4_ok, nmX4, by decide, (zin 33 (by decide +kernel) (by decide +kernel)), rfl, fun _ => rfl, by decide +kernel, rfl⟩
theorem fX1_9 : zF RX1 9 1 0 (.array .int) true := ⟨RX1, TX1, 2, tyX1, rfl, inX1, tyX1_ok, nmX1, by decide, (zin 175 (by decide +kernel) (by decide +kernel)), rfl, fun _ => rfl, by decide +kernel, rfl⟩
theorem fX1_15 : zF RX1 15 1 1 (.array .int) true := ⟨RX1, TX1, 2, tyX1, rfl, inX1, tyX1_ok, nmX1, by decide, (zin 176 (by decide +kernel) (by decide +kernel)), rfl, fun _ => rfl, by decide +kernel, rfl⟩
theorem fX1_18 : zF RX1 18 0 10 (.object "CabinChain$House") false := ⟨RX0, TX0, 17, tyX0, rfl, inX0, tyX0_ok, nmX0, by decide, (zin 120 (by decide +kernel) (by decide +kernel)), rfl, fun h => absurd h (by decide), by decide +kernel, rfl⟩
theorem fX1_24 : zF RX1 24 2 1 .int true := ⟨RX2, TX2, 5, tyX2, rfl, inX2, tyX2_ok, nmX2, by decide, (zin 72 (by decide +kernel) (by decide +kernel)), rfl, fun _ => rfl, by decide +kernel, rfl⟩
theorem fX1_44 : zF RX1 44 2 3 .int true := ⟨RX2, TX2, 5, tyX2, rfl, inX2, tyX2_ok, nmX2, by decide, (zin 77 (by decide +kernel) (by decide +kernel)), rfl, fun _ => rfl, by decide +kernel, rfl⟩
theorem fX1_51 : zF RX1 51 0 14 .int false := ⟨RX0, TX0, 17, tyX0, rfl, inX0, tyX0_ok, nmX0, by decide, (zin 127 (by decide +kernel) (by decide +kernel)), rfl, fun h => absurd h (by decide), by decide +kernel, rfl⟩
theorem fX1_60 : zF RX1 60 0 7 (.array .int) true := ⟨RX0, TX0, 17, tyX0, rfl, inX0, tyX0_ok, nmX0, by decide, (zin 113 (by decide +kernel) (by decide +kernel)), rfl, fun _ => rfl, by decide +kernel, rfl⟩
theorem fX2_9 : zF RX2 9 2 0 .int true := ⟨RX2, TX2, 5, tyX2, rfl, inX2, tyX2_ok, nmX2, by decide, (zin 68 (by decide +kernel) (by decide +kernel)), rfl, fun _ => rfl, by decide +kernel, rfl⟩
theorem fX2_15 : zF RX2 15 2 1 .int true := ⟨RX2, TX2, 5, tyX2, rfl, inX2, tyX2_ok, nmX2, by decide, (zin 71 (by decide +kernel) (by decide +kernel)), rfl, fun _ => rfl, by decide +kernel, rfl⟩
theorem fX2_18 : zF RX2 18 2 2 .int true := ⟨RX2, TX2, 5, tyX2, rfl, inX2, tyX2_ok, nmX2, by decide, (zin 74 (by decide +kernel) (by decide +kernel)), rfl, fun _ => rfl, by decide +kernel, rfl⟩
theorem fX2_21 : zF RX2 21 2 3 .int true := ⟨RX2, TX2, 5, tyX2, rfl, inX2, tyX2_ok, nmX2, by decide, (zin 75 (by decide +kernel) (by decide +kernel)), rfl, fun _ => rfl, by decide +kernel, rfl⟩
theorem fX2_24 : zF RX2 24 2 4 .int true := ⟨RX2, TX2, 5, tyX2, rfl, inX2, tyX2_ok, nmX2, by decide, (zin 79 (by decide +kernel) (by decide +kernel)), rfl, fun _ => rfl, by decide +kernel, rfl⟩
theorem fX3_11 : zF RX3 11 3 0 (.array (.array .int)) true := ⟨RX3, TX3, 3, tyX3, rfl, inX3, tyX3_ok, nmX3, by decide, (zin 208 (by decide +kernel) (by decide +kernel)), rfl, fun _ => rfl, by decide +kernel, rfl⟩
theorem fX3_16 : zF RX3 16 3 1 (.array .int) true := ⟨RX3, TX3, 3, tyX3, rfl, inX3, tyX3_ok, nmX3, by decide, (zin 209 (by decide +kernel) (by decide +kernel)), rfl, fun _ => rfl, by decide +kernel, rfl⟩
theorem fX3_20 : zF RX3 20 3 2 .int false := ⟨RX3, TX3, 3, tyX3, rfl, inX3, tyX3_ok, nmX3, by decide, (zin 210 (by decide +kernel) (by decide +kernel)), rfl, fun h => absurd h (by decide), by decide +kernel, rfl⟩
theorem fX3_24 : zF RX3 24 0 0 (.object "CabinChain$People") true := ⟨RX0, TX0, 17, tyX0, rfl, inX0, tyX0_ok, nmX0, by decide, (zin 100 (by decide +kernel) (by decide +kernel)), rfl, fun _ => rfl, by decide +kernel, rfl⟩
theorem fX3_29 : zF RX3 29 4 7 .int false := ⟨RX4, TX4, 8, tyX4, rfl, inX4, tyX4_ok, nmX4, by decide, (zin 41 (by decide +kernel) (by decide +kernel)), rfl, fun h => absurd h (by decide), by decide +kernel, rfl⟩
theorem fX4_9 : zF RX4 9 4 0 (.array .int) true := ⟨RX4, TX4, 8, tyX4, rfl, inX4, tyX4_ok, nmX4, by decide, (zin 26 (by decide +kernel) (by decide +kernel)), rfl, fun _ => rfl, by decide +kernel, rfl⟩
theorem fX4_15 : zF RX4 15 4 1 (.array .int) true := ⟨RX4, TX4, 8, tyX4, rfl, inX4, tyX4_ok, nmX4, by decide, (zin 28 (by decide +kernel) (by decide +kernel)), rfl, fun _ => rfl, by decide +kernel, rfl⟩
theorem fX4_18 : zF RX4 18 4 2 (.array .int) true := ⟨RX4, TX4, 8, tyX4, rfl, inX4, tyX4_ok, nmX4, by decide, (zin 30 (by decide +kernel) (by decide +kernel)), rfl, fun _ => rfl, by decide +kernel, rfl⟩
theorem fX4_21 : zF RX4 21 4 3 (.array .int) true := ⟨RX4, TX4, 8, tyX4, rfl, inX4, tyX4_ok, nmX4, by decide, (zin 32 (by decide +kernel) (by decide +kernel)), rfl, fun _ => rfl, by decide +kernel, rfl⟩
theorem fX4_24 : zF RX4 24 4 4 (.array .int) true := ⟨RX4, TX4, 8, tyX4, rfl, inX4, tyX4_ok, nmX4, by decide, (zin 34 (by decide +kernel) (by decide +kernel)), rfl, fun _ => rfl, by decide +kernel, rfl⟩
theorem fX4_27 : zF RX4 27 4 5 (.array .int) true := ⟨RX4, TX4, 8, tyX4, rfl, inX4, tyX4_ok, nmX4, by decide, (zin 37 (by decide +kernel) (by decide +kernel)), rfl, fun _ => rfl, by decide +kernel, rfl⟩
theorem fX4_30 : zF RX4 30 4 6 (.array .int) true := ⟨RX4, TX4, 8, tyX4, rfl, inX4, tyX4_ok, nmX4, by decide, (zin 39 (by decide +kernel) (by decide +kernel)), rfl, fun _ => rfl, by decide +kernel, rfl⟩
theorem fX4_33 : zF RX4 33 4 7 .int false := ⟨RX4, TX4, 8, tyX4, rfl, inX4, tyX4_ok, nmX4, by decide, (zin 40 (by decide +kernel) (by decide +kernel)), rfl, fun h => absurd h (by decide), by decide +kernel, rfl⟩
theorem fX5_11 : zF RX5 11 5 0 (.array (.array .int)) true := ⟨RX5, TX5, 1, tyX5, rfl, inX5, tyX5_ok, nmX5, by decide, (zin 196 (by decide +kernel) (by decide +kernel)), rfl, fun _ => rfl, by decide +kernel, rfl⟩
theorem fX6_12 : zF RX6 12 6 0 (.object "CabinChain$People") true := ⟨RX6, TX6, 7, tyX6, rfl, inX6, tyX6_ok, nmX6, by decide, (zin 219 (by decide +kernel) (by decide +kernel)), rfl, fun _ => rfl, by decide +kernel, rfl⟩
theorem fX6_21 : zF RX6 21 6 6 (.object "CabinChain$House") false := ⟨RX6, TX6, 7, tyX6, rfl, inX6, tyX6_ok, nmX6, by decide, (zin 225 (by decide +kernel) (by decide +kernel)), rfl, fun h => absurd h (by decide), by decide +kernel, rfl⟩
theorem fX6_30 : zF RX6 30 6 1 (.object "CabinChain$Course") true := ⟨RX6, TX6, 7, tyX6, rfl, inX6, tyX6_ok, nmX6, by decide, (zin 220 (by decide +kernel) (by decide +kernel)), rfl, fun _ => rfl, by decide +kernel, rfl⟩
theorem fX6_34 : zF RX6 34 6 2 (.object "CabinChain$Course") true := ⟨RX6, TX6, 7, tyX6, rfl, inX6, tyX6_ok, nmX6, by decide, (zin 221 (by decide +kernel) (by decide +kernel)), rfl, fun _ => rfl, by decide +kernel, rfl⟩
theorem fX6_40 : zF RX6 40 6 3 (.object "CabinChain$HandWheel") true := ⟨RX6, TX6, 7, tyX6, rfl, inX6, tyX6_ok, nmX6, by decide, (zin 222 (by decide +kernel) (by decide +kernel)), rfl, fun _ => rfl, by decide +kernel, rfl⟩
theorem fX6_47 : zF RX6 47 6 4 (.object "CabinChain$ToldCounts") true := ⟨RX6, TX6, 7, tyX6, rfl, inX6, tyX6_ok, nmX6, by decide, (zin 223 (by decide +kernel) (by decide +kernel)), rfl, fun _ => rfl, by decide +kernel, rfl⟩
theorem fX6_54 : zF RX6 54 6 5 (.object "CabinChain$KeptDays") true := ⟨RX6, TX6, 7, tyX6, rfl, inX6, tyX6_ok, nmX6, by decide, (zin 224 (by decide +kernel) (by decide +kernel)), rfl, fun _ => rfl, by decide +kernel, rfl⟩
theorem fX6_66 : zF RX6 66 4 7 .int false := ⟨RX4, TX4, 8, tyX4, rfl, inX4, tyX4_ok, nmX4, by decide, (zin 42 (by decide +kernel) (by decide +kernel)), rfl, fun h => absurd h (by decide), by decide +kernel, rfl⟩
theorem fX6_77 : zF RX6 77 3 2 .int false := ⟨RX3, TX3, 3, tyX3, rfl, inX3, tyX3_ok, nmX3, by decide, (zin 211 (by decide +kernel) (by decide +kernel)), rfl, fun h => absurd h (by decide), by decide +kernel, rfl⟩
theorem fX6_78 : zF RX6 78 2 3 .int true := ⟨RX2, TX2, 5, tyX2, rfl, inX2, tyX2_ok, nmX2, by decide, (zin 76 (by decide +kernel) (by decide +kernel)), rfl, fun _ => rfl, by decide +kernel, rfl⟩
theorem fX6_85 : zF RX6 85 0 13 .int false := ⟨RX0, TX0, 17, tyX0, rfl, inX0, tyX0_ok, nmX0, by decide, (zin 125 (by decide +kernel) (by decide +kernel)), rfl, fun h => absurd h (by decide), by decide +kernel, rfl⟩
theorem fX6_92 : zF RX6 92 2 1 .int true := ⟨RX2, TX2, 5, tyX2, rfl, inX2, tyX2_ok, nmX2, by decide, (zin 73 (by decide +kernel) (by decide +kernel)), rfl, fun _ => rfl, by decide +kernel, rfl⟩
theorem fX6_95 : zF RX6 95 0 11 .int false := ⟨RX0, TX0, 17, tyX0, rfl, inX0, tyX0_ok, nmX0, by decide, (zin 122 (by decide +kernel) (by decide +kernel)), rfl, fun h => absurd h (by decide), by decide +kernel, rfl⟩
theorem fX6_101 : zF RX6 101 0 16 .boolean false := ⟨RX0, TX0, 17, tyX0, rfl, inX0, tyX0_ok, nmX0, by decide, (zin 132 (by decide +kernel) (by decide +kernel)), rfl, fun h => absurd h (by decide), by decide +kernel, rfl⟩
theorem fX6_105 : zF RX6 105 0 9 (.array .boolean) true := ⟨RX0, TX0, 17, tyX0, rfl, inX0, tyX0_ok, nmX0, by decide, (zin 118 (by decide +kernel) (by decide +kernel)), rfl, fun _ => rfl, by decide +kernel, rfl⟩
theorem fX6_109 : zF RX6 109 0 14 .int false := ⟨RX0, TX0, 17, tyX0, rfl, inX0, tyX0_ok, nmX0, by decide, (zin 128 (by decide +kernel) (by decide +kernel)), rfl, fun h => absurd h (by decide), by decide +kernel, rfl⟩
theorem fX6_129 : zF RX6 129 0 7 (.array .int) true := ⟨RX0, TX0, 17, tyX0, rfl, inX0, tyX0_ok, nmX0, by decide, (zin 114 (by decide +kernel) (by decide +kernel)), rfl, fun _ => rfl, by decide +kernel, rfl⟩
theorem fX6_139 : zF RX6 139 0 1 (.array .int) true := ⟨RX0, TX0, 17, tyX0, rfl, inX0, tyX0_ok, nmX0, by decide, (zin 102 (by decide +kernel) (by decide +kernel)), rfl, fun _ => rfl, by decide +kernel, rfl⟩
theorem fX6_145 : zF RX6 145 0 3 (.array .int) true := ⟨RX0, TX0, 17, tyX0, rfl, inX0, tyX0_ok, nmX0, by decide, (zin 105 (by decide +kernel) (by decide +kernel)), rfl, fun _ => rfl, by decide +kernel, rfl⟩
theorem fX6_148 : zF RX6 148 0 4 (.array .int) true := ⟨RX0, TX0, 17, tyX0, rfl, inX0, tyX0_ok, nmX0, by decide, (zin 107 (by decide +kernel) (by decide +kernel)), rfl, fun _ => rfl, by decide +kernel, rfl⟩
theorem fX6_154 : zF RX6 154 0 6 (.array .int) true := ⟨RX0, TX0, 17, tyX0, rfl, inX0, tyX0_ok, nmX0, by decide, (zin 111 (by decide +kernel) (by decide +kernel)), rfl, fun _ => rfl, by decide +kernel, rfl⟩
theorem fX6_157 : zF RX6 157 0 5 (.array (.array .int)) true := ⟨RX0, TX0, 17, tyX0, rfl, inX0, tyX0_ok, nmX0, by decide, (zin 109 (by decide +kernel) (by decide +kernel)), rfl, fun _ => rfl, by decide +kernel, rfl⟩
theorem fX6_173 : zF RX6 173 2 0 .int true := ⟨RX2, TX2, 5, tyX2, rfl, inX2, tyX2_ok, nmX2, by decide, (zin 70 (by decide +kernel) (by decide +kernel)), rfl, fun _ => rfl, by decide +kernel, rfl⟩
theorem fX6_183 : zF RX6 183 0 15 .int false := ⟨RX0, TX0, 17, tyX0, rfl, inX0, tyX0_ok, nmX0, by decide, (zin 130 (by decide +kernel) (by decide +kernel)), rfl, fun h => absurd h (by decide), by decide +kernel, rfl⟩
theorem fX6_199 : zF RX6 199 0 8 (.array (.array .int)) true := ⟨RX0, TX0, 17, tyX0, rfl, inX0, tyX0_ok, nmX0, by decide, (zin 116 (by decide +kernel) (by decide +kernel)), rfl, fun _ => rfl, by decide +kernel, rfl⟩
theorem fX6_202 : zF RX6 202 5 0 (.array (.array .int)) true := ⟨RX5, TX5, 1, tyX5, rfl, inX5, tyX5_ok, nmX5, by decide, (zin 197 (by decide +kernel) (by decide +kernel)), rfl, fun _ => rfl, by decide +kernel, rfl⟩
theorem fX6_228 : zF RX6 228 4 4 (.array .int) true := ⟨RX4, TX4, 8, tyX4, rfl, inX4, tyX4_ok, nmX4, by decide, (zin 36 (by decide +kernel) (by decide +kernel)), rfl, fun _ => rfl, by decide +kernel, rfl⟩
theorem fX7_7 : zF RX7 7 7 0 .int false := ⟨RX7, TX7, 19, tyX7, rfl, inX7, tyX7_ok, nmX7, by decide, (zin 597 (by decide +kernel) (by decide +kernel)), rfl, fun h => absurd h (by decide), by decide +kernel, rfl⟩
theorem fX7_13 : zF RX7 13 7 1 .int false := ⟨RX7, TX7, 19, tyX7, rfl, inX7, tyX7_ok, nmX7, by decide, (zin 598 (by decide +kernel) (by decide +kernel)), rfl, fun h => absurd h (by decide), by decide +kernel, rfl⟩
theorem fX7_16 : zF RX7 16 7 2 .int false := ⟨RX7, TX7, 19, tyX7, rfl, inX7, tyX7_ok, nmX7, by decide, (zin 599 (by decide +kernel) (by decide +kernel)), rfl, fun h => absurd h (by decide), by decide +kernel, rfl⟩
theorem fX7_19 : zF RX7 19 7 3 .int false := ⟨RX7, TX7, 19, tyX7, rfl, inX7, tyX7_ok, nmX7, by decide, (zin 600 (by decide +kernel) (by decide +kernel)), rfl, fun h => absurd h (by decide), by decide +kernel, rfl⟩
theorem fX7_22 : zF RX7 22 7 4 .int false := ⟨RX7, TX7, 19, tyX7, rfl, inX7, tyX7_ok, nmX7, by decide, (zin 601 (by decide +kernel) (by decide +kernel)), rfl, fun h => absurd h (by decide), by decide +kernel, rfl⟩
theorem fX7_25 : zF RX7 25 7 6 (.array .int) true := ⟨RX7, TX7, 19, tyX7, rfl, inX7, tyX7_ok, nmX7, by decide, (zin 603 (by decide +kernel) (by decide +kernel)), rfl, fun _ => rfl, by decide +kernel, rfl⟩
theorem fX7_29 : zF RX7 29 7 7 (.array .int) true := ⟨RX7, TX7, 19, tyX7, rfl, inX7, tyX7_ok, nmX7, by decide, (zin 604 (by decide +kernel) (by decide +kernel)), rfl, fun _ => rfl, by decide +kernel, rfl⟩
theorem fX7_32 : zF RX7 32 7 8 (.array .int) true := ⟨RX7, TX7, 19, tyX7, rfl, inX7, tyX7_ok, nmX7, by decide, (zin 605 (by decide +kernel) (by decide +kernel)), rfl, fun _ => rfl, by decide +kernel, rfl⟩
theorem fX7_35 : zF RX7 35 7 9 (.array .int) true := ⟨RX7, TX7, 19, tyX7, rfl, inX7, tyX7_ok, nmX7, by decide, (zin 606 (by decide +kernel) (by decide +kernel)), rfl, fun _ => rfl, by decide +kernel, rfl⟩
theorem fX7_38 : zF RX7 38 7 10 (.array .int) true := ⟨RX7, TX7, 19, tyX7, rfl, inX7, tyX7_ok, nmX7, by decide, (zin 607 (by decide +kernel) (by decide +kernel)), rfl, fun _ => rfl, by decide +kernel, rfl⟩
theorem fX7_41 : zF RX7 41 7 11 (.array .int) true := ⟨RX7, TX7, 19, tyX7, rfl, inX7, tyX7_ok, nmX7, by decide, (zin 608 (by decide +kernel) (by decide +kernel)), rfl, fun _ => rfl, by decide +kernel, rfl⟩
theorem fX7_44 : zF RX7 44 7 12 (.array .int) true := ⟨RX7, TX7, 19, tyX7, rfl, inX7, tyX7_ok, nmX7, by decide, (zin 609 (by decide +kernel) (by decide +kernel)), rfl, fun _ => rfl, by decide +kernel, rfl⟩
theorem fX7_47 : zF RX7 47 7 13 (.array .int) true := ⟨RX7, TX7, 19, tyX7, rfl, inX7, tyX7_ok, nmX7, by decide, (zin 610 (by decide +kernel) (by decide +kernel)), rfl, fun _ => rfl, by decide +kernel, rfl⟩
theorem fX7_50 : zF RX7 50 7 14 (.array .int) true := ⟨RX7, TX7, 19, tyX7, rfl, inX7, tyX7_ok, nmX7, by decide, (zin 611 (by decide +kernel) (by decide +kernel)), rfl, fun _ => rfl, by decide +kernel, rfl⟩
theorem fX7_53 : zF RX7 53 7 15 (.array .int) true := ⟨RX7, TX7, 19, tyX7, rfl, inX7, tyX7_ok, nmX7, by decide, (zin 612 (by decide +kernel) (by decide +kernel)), rfl, fun _ => rfl, by decide +kernel, rfl⟩
theorem fX7_56 : zF RX7 56 7 17 (.array .int) true := ⟨RX7, TX7, 19, tyX7, rfl, inX7, tyX7_ok, nmX7, by decide, (zin 614 (by decide +kernel) (by decide +kernel)), rfl, fun _ => rfl, by decide +kernel, rfl⟩
theorem fX7_59 : zF RX7 59 7 18 (.array .int) true := ⟨RX7, TX7, 19, tyX7, rfl, inX7, tyX7_ok, nmX7, by decide, (zin 615 (by decide +kernel) (by decide +kernel)), rfl, fun _ => rfl, by decide +kernel, rfl⟩
theorem fX7_69 : zF RX7 69 7 5 .int false := ⟨RX7, TX7, 19, tyX7, rfl, inX7, tyX7_ok, nmX7, by decide, (zin 602 (by decide +kernel) (by decide +kernel)), rfl, fun h => absurd h (by decide), by decide +kernel, rfl⟩
theorem fX7_72 : zF RX7 72 7 16 .int false := ⟨RX7, TX7, 19, tyX7, rfl, inX7, tyX7_ok, nmX7, by decide, (zin 613 (by decide +kernel) (by decide +kernel)), rfl, fun h => absurd h (by decide), by decide +kernel, rfl⟩
theorem mbJ7_fill_53178 : zMb yJ7_fill_53178 cJ7_fill_53178 4 none 2 := ⟨(zin 7 (by decide +kernel) (by decide +kernel)), (zin 195 (by decide +kernel) (by decide +kernel)), by decide +kernel⟩
theorem mbX0_begin : zMb yX0_begin cX0_begin 5 none 3 := ⟨(zin 4 (by decide +kernel) (by decide +kernel)), (zin 257 (by decide +kernel) (by decide +kernel)), by decide +kernel⟩
theorem mbX0_areAllDone : zMb yX0_areAllDone cX0_areAllDone 2 (some .boolean) 0 := ⟨(zin 4 (by decide +kernel) (by decide +kernel)), (zin 459 (by decide +kernel) (by decide +kernel)), by decide +kernel⟩
theorem mbX0_tick : zMb yX0_tick cX0_tick 2 none 0 := ⟨(zin 4 (by decide +kernel) (by decide +kernel)), (zin 287 (by decide +kernel) (by decide +kernel)), by decide +kernel⟩
theorem mbX0_costTogether : zMb yX0_costTogether cX0_costTogether 3 (some .int) 0 := ⟨(zin 4 (by decide +kernel) (by decide +kernel)), (zin 464 (by decide +kernel) (by decide +kernel)), by decide +kernel⟩
theorem mbX0_moveOn : zMb yX0_moveOn cX0_moveOn 3 none 0 := ⟨(zin 4 (by decide +kernel) (by decide +kernel)), (zin 291 (by decide +kernel) (by decide +kernel)), by decide +kernel⟩
theorem mbX0_comeAndArrive : zMb yX0_comeAndArrive cX0_comeAndArrive 2 none 0 := ⟨(zin 4 (by decide +kernel) (by decide +kernel)), (zin 322 (by decide +kernel) (by decide +kernel)), by decide +kernel⟩
theorem mbX0_serveBoxes : zMb yX0_serveBoxes cX0_serveBoxes 4 none 0 := ⟨(zin 4 (by decide +kernel) (by decide +kernel)), (zin 346 (by decide +kernel) (by decide +kernel)), by decide +kernel⟩
theorem mbX2_along : zMb yX2_along cX2_along 3 (some .int) 2 := ⟨(zin 3 (by decide +kernel) (by decide +kernel)), (zin 295 (by decide +kernel) (by decide +kernel)), by decide +kernel⟩
theorem mbX2_slot : zMb yX2_slot cX2_slot 3 (some .int) 2 := ⟨(zin 3 (by decide +kernel) (by decide +kernel)), (zin 302 (by decide +kernel) (by decide +kernel)), by decide +kernel⟩
theorem mbX2_isAtFloor : zMb yX2_isAtFloor cX2_isAtFloor 2 (some .boolean) 1 := ⟨(zin 3 (by decide +kernel) (by decide +kernel)), (zin 310 (by decide +kernel) (by decide +kernel)), by decide +kernel⟩
theorem mbX0_countTurned : zMb yX0_countTurned cX0_countTurned 3 none 1 := ⟨(zin 4 (by decide +kernel) (by decide +kernel)), (zin 314 (by decide +kernel) (by decide +kernel)), by decide +kernel⟩
theorem mbX0_isIn : zMb yX0_isIn cX0_isIn 3 (some .boolean) 2 := ⟨(zin 4 (by decide +kernel) (by decide +kernel)), (zin 318 (by decide +kernel) (by decide +kernel)), by decide +kernel⟩
theorem mbX0_come : zMb yX0_come cX0_come 2 none 1 := ⟨(zin 4 (by decide +kernel) (by decide +kernel)), (zin 326 (by decide +kernel) (by decide +kernel)), by decide +kernel⟩
theorem mbX4_goesOnFoot : zMb yX4_goesOnFoot cX4_goesOnFoot 4 (some .boolean) 2 := ⟨(zin 2 (by decide +kernel) (by decide +kernel)), (zin 330 (by decide +kernel) (by decide +kernel)), by decide +kernel⟩
theorem mbX4_floorsApart : zMb yX4_floorsApart cX4_floorsApart 2 (some .int) 1 := ⟨(zin 2 (by decide +kernel) (by decide +kernel)), (zin 334 (by decide +kernel) (by decide +kernel)), by decide +kernel⟩
theorem mbX0_stand : zMb yX0_stand cX0_stand 4 none 2 := ⟨(zin 4 (by decide +kernel) (by decide +kernel)), (zin 342 (by decide +kernel) (by decide +kernel)), by decide +kernel⟩
theorem mbX2_ticksLeft : zMb yX2_ticksLeft cX2_ticksLeft 4 (some .int) 2 := ⟨(zin 3 (by decide +kernel) (by decide +kernel)), (zin 350 (by decide +kernel) (by decide +kernel)), by decide +kernel⟩
theorem mbX0_openDoor : zMb yX0_openDoor cX0_openDoor 5 (some .int) 2 := ⟨(zin 4 (by decide +kernel) (by decide +kernel)), (zin 354 (by decide +kernel) (by decide +kernel)), by decide +kernel⟩
theorem mbX0_stepOut : zMb yX0_stepOut cX0_stepOut 7 none 3 := ⟨(zin 4 (by decide +kernel) (by decide +kernel)), (zin 371 (by decide +kernel) (by decide +kernel)), by decide +kernel⟩
theorem mbX0_stepIn : zMb yX0_stepIn cX0_stepIn 8 none 3 := ⟨(zin 4 (by decide +kernel) (by decide +kernel)), (zin 383 (by decide +kernel) (by decide +kernel)), by decide +kernel⟩
theorem mbX2_isOpen : zMb yX2_isOpen cX2_isOpen 2 (some .boolean) 1 := ⟨(zin 3 (by decide +kernel) (by decide +kernel)), (zin 358 (by decide +kernel) (by decide +kernel)), by decide +kernel⟩
theorem mbX2_floorOrEnd : zMb yX2_floorOrEnd cX2_floorOrEnd 2 (some .int) 1 := ⟨(zin 3 (by decide +kernel) (by decide +kernel)), (zin 362 (by decide +kernel) (by decide +kernel)), by decide +kernel⟩
theorem mbX2_isLastBeforeEnd : zMb yX2_isLastBeforeEnd cX2_isLastBeforeEnd 2 (some .boolean) 1 := ⟨(zin 3 (by decide +kernel) (by decide +kernel)), (zin 375 (by decide +kernel) (by decide +kernel)), by decide +kernel⟩
theorem mbX0_leave : zMb yX0_leave cX0_leave 4 none 3 := ⟨(zin 4 (by decide +kernel) (by decide +kernel)), (zin 379 (by decide +kernel) (by decide +kernel)), by decide +kernel⟩
theorem mbX2_isUp : zMb yX2_isUp cX2_isUp 2 (some .boolean) 1 := ⟨(zin 3 (by decide +kernel) (by decide +kernel)), (zin 366 (by decide +kernel) (by decide +kernel)), by decide +kernel⟩
theorem mbX0_takeFromLine : zMb yX0_takeFromLine cX0_takeFromLine 4 none 2 := ⟨(zin 4 (by decide +kernel) (by decide +kernel)), (zin 388 (by decide +kernel) (by decide +kernel)), by decide +kernel⟩
theorem mbX0_enter : zMb yX0_enter cX0_enter 4 none 3 := ⟨(zin 4 (by decide +kernel) (by decide +kernel)), (zin 392 (by decide +kernel) (by decide +kernel)), by decide +kernel⟩
theorem mbX0_costOf : zMb yX0_costOf cX0_costOf 3 (some .int) 1 := ⟨(zin 4 (by decide +kernel) (by decide +kernel)), (zin 433 (by decide +kernel) (by decide +kernel)), by decide +kernel⟩
theorem mbX1_measure : zMb yX1_measure cX1_measure 4 none 2 := ⟨(zin 5 (by decide +kernel) (by decide +kernel)), (zin 501 (by decide +kernel) (by decide +kernel)), by decide +kernel⟩
theorem mbX1_backBeside : zMb yX1_backBeside cX1_backBeside 5 (some .int) 2 := ⟨(zin 5 (by decide +kernel) (by decide +kernel)), (zin 510 (by decide +kernel) (by decide +kernel)), by decide +kernel⟩
theorem mbX1_stepsToDoor : zMb yX1_stepsToDoor cX1_stepsToDoor 5 (some .int) 4 := ⟨(zin 5 (by decide +kernel) (by decide +kernel)), (zin 504 (by decide +kernel) (by decide +kernel)), by decide +kernel⟩
theorem mbJ9_floorMod_7cf53 : zMb yJ9_floorMod_7cf53 cJ9_floorMod_7cf53 3 (some .int) 2 := ⟨(zin 10 (by decide +kernel) (by decide +kernel)), (zin 298 (by decide +kernel) (by decide +kernel)), by decide +kernel⟩
theorem mbX2_place : zMb yX2_place cX2_place 3 (some .int) 2 := ⟨(zin 3 (by decide +kernel) (by decide +kernel)), (zin 306 (by decide +kernel) (by decide +kernel)), by decide +kernel⟩
theorem mbJ6_signum_0f7a4 : zMb yJ6_signum_0f7a4 cJ6_signum_0f7a4 1 (some .int) 1 := ⟨(zin 11 (by decide +kernel) (by decide +kernel)), (zin 571 (by decide +kernel) (by decide +kernel)), by decide +kernel⟩
theorem mbX5_forget : zMb yX5_forget cX5_forget 1 none 0 := ⟨(zin 6 (by decide +kernel) (by decide +kernel)), (zin 192 (by decide +kernel) (by decide +kernel)), by decide +kernel⟩
theorem mbX5_together : zMb yX5_together cX5_together 7 (some .int) 3 := ⟨(zin 6 (by decide +kernel) (by decide +kernel)), (zin 541 (by decide +kernel) (by decide +kernel)), by decide +kernel⟩
theorem mbX6_within : zMb yX6_within cX6_within 3 (some .boolean) 3 := ⟨(zin 1 (by decide +kernel) (by decide +kernel)), (zin 247 (by decide +kernel) (by decide +kernel)), by decide +kernel⟩
theorem mbX6_isSpeed : zMb yX6_isSpeed cX6_isSpeed 2 (some .boolean) 2 := ⟨(zin 1 (by decide +kernel) (by decide +kernel)), (zin 250 (by decide +kernel) (by decide +kernel)), by decide +kernel⟩
theorem mbX6_isFloor : zMb yX6_isFloor cX6_isFloor 2 (some .boolean) 1 := ⟨(zin 1 (by decide +kernel) (by decide +kernel)), (zin 267 (by decide +kernel) (by decide +kernel)), by decide +kernel⟩
theorem mbX4_add : zMb yX4_add cX4_add 9 (some .int) 7 := ⟨(zin 2 (by decide +kernel) (by decide +kernel)), (zin 271 (by decide +kernel) (by decide +kernel)), by decide +kernel⟩
theorem mbX0_riders : zMb yX0_riders cX0_riders 4 (some .int) 1 := ⟨(zin 4 (by decide +kernel) (by decide +kernel)), (zin 416 (by decide +kernel) (by decide +kernel)), by decide +kernel⟩
theorem mbX0_spot : zMb yX0_spot cX0_spot 2 (some .int) 1 := ⟨(zin 4 (by decide +kernel) (by decide +kernel)), (zin 429 (by decide +kernel) (by decide +kernel)), by decide +kernel⟩
theorem mbX6_isSafe : zMb yX6_isSafe cX6_isSafe 4 (some .boolean) 1 := ⟨(zin 1 (by decide +kernel) (by decide +kernel)), (zin 445 (by decide +kernel) (by decide +kernel)), by decide +kernel⟩
theorem mbX0_playDay : zMb yX0_playDay cX0_playDay 5 (some .int) 3 := ⟨(zin 4 (by decide +kernel) (by decide +kernel)), (zin 454 (by decide +kernel) (by decide +kernel)), by decide +kernel⟩
theorem mbX0_howMany : zMb yX0_howMany cX0_howMany 4 (some .int) 1 := ⟨(zin 4 (by decide +kernel) (by decide +kernel)), (zin 481 (by decide +kernel) (by decide +kernel)), by decide +kernel⟩
theorem mbX0_turnedTogether : zMb yX0_turnedTogether cX0_turnedTogether 3 (some .int) 0 := ⟨(zin 4 (by decide +kernel) (by decide +kernel)), (zin 485 (by decide +kernel) (by decide +kernel)), by decide +kernel⟩
theorem mbX0_dearest : zMb yX0_dearest cX0_dearest 3 (some .int) 0 := ⟨(zin 4 (by decide +kernel) (by decide +kernel)), (zin 489 (by decide +kernel) (by decide +kernel)), by decide +kernel⟩
theorem mbX1_fewestSteps : zMb yX1_fewestSteps cX1_fewestSteps 7 (some .int) 1 := ⟨(zin 5 (by decide +kernel) (by decide +kernel)), (zin 497 (by decide +kernel) (by decide +kernel)), by decide +kernel⟩
theorem mbX0_letOut : zMb yX0_letOut cX0_letOut 5 (some .int) 0 := ⟨(zin 4 (by decide +kernel) (by decide +kernel)), (zin 521 (by decide +kernel) (by decide +kernel)), by decide +kernel⟩
theorem mbX5_mayLeaveInside : zMb yX5_mayLeaveInside cX5_mayLeaveInside 5 (some .boolean) 2 := ⟨(zin 6 (by decide +kernel) (by decide +kernel)), (zin 537 (by decide +kernel) (by decide +kernel)), by decide +kernel⟩
theorem mbX5_differs : zMb yX5_differs cX5_differs 5 (some .boolean) 2 := ⟨(zin 6 (by decide +kernel) (by decide +kernel)), (zin 550 (by decide +kernel) (by decide +kernel)), by decide +kernel⟩
theorem mbX3_add : zMb yX3_add cX3_add 3 none 1 := ⟨(zin 8 (by decide +kernel) (by decide +kernel)), (zin 558 (by decide +kernel) (by decide +kernel)), by decide +kernel⟩
theorem mbX3_howManyHave : zMb yX3_howManyHave cX3_howManyHave 6 (some .int) 3 := ⟨(zin 8 (by decide +kernel) (by decide +kernel)), (zin 568 (by decide +kernel) (by decide +kernel)), by decide +kernel⟩
theorem mbX3_lessTogether : zMb yX3_lessTogether cX3_lessTogether 5 (some .int) 2 := ⟨(zin 8 (by decide +kernel) (by decide +kernel)), (zin 575 (by decide +kernel) (by decide +kernel)), by decide +kernel⟩
theorem mbX5_howManyTold : zMb yX5_howManyTold cX5_howManyTold 4 (some .int) 1 := ⟨(zin 6 (by decide +kernel) (by decide +kernel)), (zin 583 (by decide +kernel) (by decide +kernel)), by decide +kernel⟩
theorem mbX7_begins : zMb yX7_begins cX7_begins 2 none 0 := ⟨(zin 9 (by decide +kernel) (by decide +kernel)), (zin 593 (by decide +kernel) (by decide +kernel)), by decide +kernel⟩
theorem mbX7_in : zMb yX7_in cX7_in 3 (some .boolean) 3 := ⟨(zin 9 (by decide +kernel) (by decide +kernel)), (zin 596 (by decide +kernel) (by decide +kernel)), by decide +kernel⟩
theorem mbX7_boxes : zMb yX7_boxes cX7_boxes 1 (some .int) 0 := ⟨(zin 9 (by decide +kernel) (by decide +kernel)), (zin 662 (by decide +kernel) (by decide +kernel)), by decide +kernel⟩
theorem mbX7_isFloor : zMb yX7_isFloor cX7_isFloor 2 (some .boolean) 1 := ⟨(zin 9 (by decide +kernel) (by decide +kernel)), (zin 670 (by decide +kernel) (by decide +kernel)), by decide +kernel⟩
theorem mbX7_isSpeed : zMb yX7_isSpeed cX7_isSpeed 2 (some .boolean) 1 := ⟨(zin 9 (by decide +kernel) (by decide +kernel)), (zin 678 (by decide +kernel) (by decide +kernel)), by decide +kernel⟩
theorem mbX7_placeOf : zMb yX7_placeOf cX7_placeOf 2 (some .int) 1 := ⟨(zin 9 (by decide +kernel) (by decide +kernel)), (zin 698 (by decide +kernel) (by decide +kernel)), by decide +kernel⟩
theorem mbX7_rides : zMb yX7_rides cX7_rides 3 (some .boolean) 2 := ⟨(zin 9 (by decide +kernel) (by decide +kernel)), (zin 710 (by decide +kernel) (by decide +kernel)), by decide +kernel⟩
theorem mbX7_isAside : zMb yX7_isAside cX7_isAside 2 (some .boolean) 1 := ⟨(zin 9 (by decide +kernel) (by decide +kernel)), (zin 702 (by decide +kernel) (by decide +kernel)), by decide +kernel⟩
theorem mbX7_partOf : zMb yX7_partOf cX7_partOf 2 (some .int) 1 := ⟨(zin 9 (by decide +kernel) (by decide +kernel)), (zin 706 (by decide +kernel) (by decide +kernel)), by decide +kernel⟩
theorem mbX7_far : zMb yX7_far cX7_far 2 (some .int) 1 := ⟨(zin 9 (by decide +kernel) (by decide +kernel)), (zin 722 (by decide +kernel) (by decide +kernel)), by decide +kernel⟩
theorem mbX7_walks : zMb yX7_walks cX7_walks 2 (some .boolean) 1 := ⟨(zin 9 (by decide +kernel) (by decide +kernel)), (zin 718 (by decide +kernel) (by decide +kernel)), by decide +kernel⟩
theorem mbX7_joins : zMb yX7_joins cX7_joins 3 none 2 := ⟨(zin 9 (by decide +kernel) (by decide +kernel)), (zin 726 (by decide +kernel) (by decide +kernel)), by decide +kernel⟩
theorem mbX7_floorOf : zMb yX7_floorOf cX7_floorOf 2 (some .int) 1 := ⟨(zin 9 (by decide +kernel) (by decide +kernel)), (zin 738 (by decide +kernel) (by decide +kernel)), by decide +kernel⟩
theorem mbX7_leaves : zMb yX7_leaves cX7_leaves 3 none 2 := ⟨(zin 9 (by decide +kernel) (by decide +kernel)), (zin 742 (by decide +kernel) (by decide +kernel)), by decide +kernel⟩
theorem mbX7_widths : zMb yX7_widths cX7_widths 4 (some .int) 1 := ⟨(zin 9 (by decide +kernel) (by decide +kernel)), (zin 746 (by decide +kernel) (by decide +kernel)), by decide +kernel⟩
theorem mbX7_parts : zMb yX7_parts cX7_parts 4 none 2 := ⟨(zin 9 (by decide +kernel) (by decide +kernel)), (zin 750 (by decide +kernel) (by decide +kernel)), by decide +kernel⟩
theorem mbX7_moves : zMb yX7_moves cX7_moves 6 none 0 := ⟨(zin 9 (by decide +kernel) (by decide +kernel)), (zin 694 (by decide +kernel) (by decide +kernel)), by decide +kernel⟩
theorem mbX7_comes : zMb yX7_comes cX7_comes 2 none 0 := ⟨(zin 9 (by decide +kernel) (by decide +kernel)), (zin 714 (by decide +kernel) (by decide +kernel)), by decide +kernel⟩
theorem mbX7_leftOf : zMb yX7_leftOf cX7_leftOf 3 (some .int) 1 := ⟨(zin 9 (by decide +kernel) (by decide +kernel)), (zin 730 (by decide +kernel) (by decide +kernel)), by decide +kernel⟩
theorem mbX7_serves : zMb yX7_serves cX7_serves 13 none 2 := ⟨(zin 9 (by decide +kernel) (by decide +kernel)), (zin 734 (by decide +kernel) (by decide +kernel)), by decide +kernel⟩
theorem mbX7_passes : zMb yX7_passes cX7_passes 3 none 0 := ⟨(zin 9 (by decide +kernel) (by decide +kernel)), (zin 690 (by decide +kernel) (by decide +kernel)), by decide +kernel⟩
theorem mbX7_ridersOf : zMb yX7_ridersOf cX7_ridersOf 4 (some .int) 1 := ⟨(zin 9 (by decide +kernel) (by decide +kernel)), (zin 766 (by decide +kernel) (by decide +kernel)), by decide +kernel⟩
theorem mbX7_stateOf : zMb yX7_stateOf cX7_stateOf 3 (some .int) 1 := ⟨(zin 9 (by decide +kernel) (by decide +kernel)), (zin 782 (by decide +kernel) (by decide +kernel)), by decide +kernel⟩
theorem mbX7_isPerson : zMb yX7_isPerson cX7_isPerson 2 (some .boolean) 1 := ⟨(zin 9 (by decide +kernel) (by decide +kernel)), (zin 778 (by decide +kernel) (by decide +kernel)), by decide +kernel⟩
theorem mbX7_costOf : zMb yX7_costOf cX7_costOf 3 (some .int) 1 := ⟨(zin 9 (by decide +kernel) (by decide +kernel)), (zin 786 (by decide +kernel) (by decide +kernel)), by decide +kernel⟩
theorem mbX7_dayBy : zMb yX7_dayBy cX7_dayBy 6 (some .int) 2 := ⟨(zin 9 (by decide +kernel) (by decide +kernel)), (zin 810 (by decide +kernel) (by decide +kernel)), by decide +kernel⟩
theorem mbX7_returns : zMb yX7_returns cX7_returns 2 none 0 := ⟨(zin 9 (by decide +kernel) (by decide +kernel)), (zin 814 (by decide +kernel) (by decide +kernel)), by decide +kernel⟩
theorem mbX7_isSafe : zMb yX7_isSafe cX7_isSafe 4 (some .boolean) 1 := ⟨(zin 9 (by decide +kernel) (by decide +kernel)), (zin 798 (by decide +kernel) (by decide +kernel)), by decide +kernel⟩
theorem mbX7_dayCost : zMb yX7_dayCost cX7_dayCost 4 (some .int) 2 := ⟨(zin 9 (by decide +kernel) (by decide +kernel)), (zin 806 (by decide +kernel) (by decide +kernel)), by decide +kernel⟩
theorem mbX7_opens : zMb yX7_opens cX7_opens 6 (some .boolean) 2 := ⟨(zin 9 (by decide +kernel) (by decide +kernel)), (zin 838 (by decide +kernel) (by decide +kernel)), by decide +kernel⟩
theorem mbX7_frees : zMb yX7_frees cX7_frees 7 (some .boolean) 2 := ⟨(zin 9 (by decide +kernel) (by decide +kernel)), (zin 834 (by decide +kernel) (by decide +kernel)), by decide +kernel⟩
theorem mbX7_inState : zMb yX7_inState cX7_inState 4 (some .int) 1 := ⟨(zin 9 (by decide +kernel) (by decide +kernel)), (zin 875 (by decide +kernel) (by decide +kernel)), by decide +kernel⟩
theorem mX0_70 : zMS RX0 70 yJ7_fill_53178 cJ7_fill_53178 4 none 2 := ⟨mbJ7_fill_53178, (zin 258 (by decide +kernel) (by decide +kernel)), (zin 194 (by decide +kernel) (by decide +kernel))⟩
theorem mX0_76 : zMV RX0 76 yX0_begin cX0_begin 5 none 3 0 := ⟨mbX0_begin, (zin 455 (by decide +kernel) (by decide +kernel)), (zin 255 (by decide +kernel) (by decide +kernel)), (zin 256 (by decide +kernel) (by decide +kernel)), TX0, 17, rfl⟩
theorem mX0_80 : zMV RX0 80 yX0_areAllDone cX0_areAllDone 2 (some .boolean) 0 0 := ⟨mbX0_areAllDone, (zin 456 (by decide +kernel) (by decide +kernel)), (zin 458 (by decide +kernel) (by decide +kernel)), (zins 14 (by decide +kernel) (by decide +kernel)), TX0, 17, rfl⟩
theorem mX0_84 : zMV RX0 84 yX0_tick cX0_tick 2 none 0 0 := ⟨mbX0_tick, (zin 460 (by decide +kernel) (by decide +kernel)), (zin 285 (by decide +kernel) (by decide +kernel)), (zin 286 (by decide +kernel) (by decide +kernel)), TX0, 17, rfl⟩
theorem mX0_87 : zMV RX0 87 yX0_costTogether cX0_costTogether 3 (some .int) 0 0 := ⟨mbX0_costTogether, (zin 461 (by decide +kernel) (by decide +kernel)), (zin 463 (by decide +kernel) (by decide +kernel)), (zins 15 (by decide +kernel) (by decide +kernel)), TX0, 17, rfl⟩
theorem mX0_91 : zMV RX0 91 yX0_moveOn cX0_moveOn 3 none 0 0 := ⟨mbX0_moveOn, (zin 288 (by decide +kernel) (by decide +kernel)), (zin 290 (by decide +kernel) (by decide +kernel)), (zins 1 (by decide +kernel) (by decide +kernel)), TX0, 17, rfl⟩
theorem mX0_94 : zMV RX0 94 yX0_comeAndArrive cX0_comeAndArrive 2 none 0 0 := ⟨mbX0_comeAndArrive, (zin 319 (by decide +kernel) (by decide +kernel)), (zin 321 (by decide +kernel) (by decide +kernel)), (zins 4 (by decide +kernel) (by decide +kernel)), TX0, 17, rfl⟩
theorem mX0_97 : zMV RX0 97 yX0_serveBoxes cX0_serveBoxes 4 none 0 0 := ⟨mbX0_serveBoxes, (zin 343 (by decide +kernel) (by decide +kernel)), (zin 345 (by decide +kernel) (by decide +kernel)), (zins 7 (by decide +kernel) (by decide +kernel)), TX0, 17, rfl⟩
theorem mX0_111 : zMV RX0 111 yX2_along cX2_along 3 (some .int) 2 2 := ⟨mbX2_along, (zin 292 (by decide +kernel) (by decide +kernel)), (zin 293 (by decide +kernel) (by decide +kernel)), (zin 294 (by decide +kernel) (by decide +kernel)), TX2, 5, rfl⟩
theorem mX0_117 : zMV RX0 117 yX2_slot cX2_slot 3 (some .int) 2 2 := ⟨mbX2_slot, (zin 299 (by decide +kernel) (by decide +kernel)), (zin 300 (by decide +kernel) (by decide +kernel)), (zin 301 (by decide +kernel) (by decide +kernel)), TX2, 5, rfl⟩
theorem mX0_120 : zMV RX0 120 yX2_isAtFloor cX2_isAtFloor 2 (some .boolean) 1 2 := ⟨mbX2_isAtFloor, (zin 307 (by decide +kernel) (by decide +kernel)), (zin 308 (by decide +kernel) (by decide +kernel)), (zin 309 (by decide +kernel) (by decide +kernel)), TX2, 5, rfl⟩
theorem mX0_124 : zMV RX0 124 yX0_countTurned cX0_countTurned 3 none 1 0 := ⟨mbX0_countTurned, (zin 311 (by decide +kernel) (by decide +kernel)), (zin 313 (by decide +kernel) (by decide +kernel)), (zins 2 (by decide +kernel) (by decide +kernel)), TX0, 17, rfl⟩
theorem mX0_133 : zMV RX0 133 yX0_isIn cX0_isIn 3 (some .boolean) 2 0 := ⟨mbX0_isIn, (zin 315 (by decide +kernel) (by decide +kernel)), (zin 317 (by decide +kernel) (by decide +kernel)), (zins 3 (by decide +kernel) (by decide +kernel)), TX0, 17, rfl⟩
theorem mX0_140 : zMV RX0 140 yX0_come cX0_come 2 none 1 0 := ⟨mbX0_come, (zin 323 (by decide +kernel) (by decide +kernel)), (zin 325 (by decide +kernel) (by decide +kernel)), (zins 5 (by decide +kernel) (by decide +kernel)), TX0, 17, rfl⟩
theorem mX0_143 : zMV RX0 143 yX4_goesOnFoot cX4_goesOnFoot 4 (some .boolean) 2 4 := ⟨mbX4_goesOnFoot, (zin 327 (by decide +kernel) (by decide +kernel)), (zin 328 (by decide +kernel) (by decide +kernel)), (zin 329 (by decide +kernel) (by decide +kernel)), TX4, 8, rfl⟩
theorem mX0_146 : zMV RX0 146 yX4_floorsApart cX4_floorsApart 2 (some .int) 1 4 := ⟨mbX4_floorsApart, (zin 338 (by decide +kernel) (by decide +kernel)), (zin 332 (by decide +kernel) (by decide +kernel)), (zin 333 (by decide +kernel) (by decide +kernel)), TX4, 8, rfl⟩
theorem mX0_153 : zMV RX0 153 yX0_stand cX0_stand 4 none 2 0 := ⟨mbX0_stand, (zin 339 (by decide +kernel) (by decide +kernel)), (zin 341 (by decide +kernel) (by decide +kernel)), (zins 6 (by decide +kernel) (by decide +kernel)), TX0, 17, rfl⟩
theorem mX0_157 : zMV RX0 157 yX2_ticksLeft cX2_ticksLeft 4 (some .int) 2 2 := ⟨mbX2_ticksLeft, (zin 347 (by decide +kernel) (by decide +kernel)), (zin 348 (by decide +kernel) (by decide +kernel)), (zin 349 (by decide +kernel) (by decide +kernel)), TX2, 5, rfl⟩
theorem mX0_160 : zMV RX0 160 yX0_openDoor cX0_openDoor 5 (some .int) 2 0 := ⟨mbX0_openDoor, (zin 351 (by decide +kernel) (by decide +kernel)), (zin 352 (by decide +kernel) (by decide +kernel)), (zin 353 (by decide +kernel) (by decide +kernel)), TX0, 17, rfl⟩
theorem mX0_163 : zMV RX0 163 yX0_stepOut cX0_stepOut 7 none 3 0 := ⟨mbX0_stepOut, (zin 368 (by decide +kernel) (by decide +kernel)), (zin 370 (by decide +kernel) (by decide +kernel)), (zins 8 (by decide +kernel) (by decide +kernel)), TX0, 17, rfl⟩
theorem mX0_167 : zMV RX0 167 yX0_stepIn cX0_stepIn 8 none 3 0 := ⟨mbX0_stepIn, (zin 380 (by decide +kernel) (by decide +kernel)), (zin 382 (by decide +kernel) (by decide +kernel)), (zins 10 (by decide +kernel) (by decide +kernel)), TX0, 17, rfl⟩
theorem mX0_170 : zMV RX0 170 yX2_isOpen cX2_isOpen 2 (some .boolean) 1 2 := ⟨mbX2_isOpen, (zin 355 (by decide +kernel) (by decide +kernel)), (zin 356 (by decide +kernel) (by decide +kernel)), (zin 357 (by decide +kernel) (by decide +kernel)), TX2, 5, rfl⟩
theorem mX0_173 : zMV RX0 173 yX2_floorOrEnd cX2_floorOrEnd 2 (some .int) 1 2 := ⟨mbX2_floorOrEnd, (zin 359 (by decide +kernel) (by decide +kernel)), (zin 360 (by decide +kernel) (by decide +kernel)), (zin 361 (by decide +kernel) (by decide +kernel)), TX2, 5, rfl⟩
theorem mX0_176 : zMV RX0 176 yX2_isLastBeforeEnd cX2_isLastBeforeEnd 2 (some .boolean) 1 2 := ⟨mbX2_isLastBeforeEnd, (zin 372 (by decide +kernel) (by decide +kernel)), (zin 373 (by decide +kernel) (by decide +kernel)), (zin 374 (by decide +kernel) (by decide +kernel)), TX2, 5, rfl⟩
theorem mX0_188 : zMV RX0 188 yX0_leave cX0_leave 4 none 3 0 := ⟨mbX0_leave, (zin 376 (by decide +kernel) (by decide +kernel)), (zin 378 (by decide +kernel) (by decide +kernel)), (zins 9 (by decide +kernel) (by decide +kernel)), TX0, 17, rfl⟩
theorem mX0_191 : zMV RX0 191 yX2_isUp cX2_isUp 2 (some .boolean) 1 2 := ⟨mbX2_isUp, (zin 384 (by decide +kernel) (by decide +kernel)), (zin 364 (by decide +kernel) (by decide +kernel)), (zin 365 (by decide +kernel) (by decide +kernel)), TX2, 5, rfl⟩
theorem mX0_197 : zMV RX0 197 yX0_takeFromLine cX0_takeFromLine 4 none 2 0 := ⟨mbX0_takeFromLine, (zin 385 (by decide +kernel) (by decide +kernel)), (zin 387 (by decide +kernel) (by decide +kernel)), (zins 11 (by decide +kernel) (by decide +kernel)), TX0, 17, rfl⟩
theorem mX0_200 : zMV RX0 200 yX0_enter cX0_enter 4 none 3 0 := ⟨mbX0_enter, (zin 389 (by decide +kernel) (by decide +kernel)), (zin 391 (by decide +kernel) (by decide +kernel)), (zins 12 (by decide +kernel) (by decide +kernel)), TX0, 17, rfl⟩
theorem mX0_203 : zMV RX0 203 yX0_costOf cX0_costOf 3 (some .int) 1 0 := ⟨mbX0_costOf, (zin 465 (by decide +kernel) (by decide +kernel)), (zin 431 (by decide +kernel) (by decide +kernel)), (zin 432 (by decide +kernel) (by decide +kernel)), TX0, 17, rfl⟩
theorem mX1_30 : zMV RX1 30 yX1_measure cX1_measure 4 none 2 1 := ⟨mbX1_measure, (zin 498 (by decide +kernel) (by decide +kernel)), (zin 500 (by decide +kernel) (by decide +kernel)), (zins 16 (by decide +kernel) (by decide +kernel)), TX1, 2, rfl⟩
theorem mX1_34 : zMV RX1 34 yX1_backBeside cX1_backBeside 5 (some .int) 2 1 := ⟨mbX1_backBeside, (zin 507 (by decide +kernel) (by decide +kernel)), (zin 509 (by decide +kernel) (by decide +kernel)), (zins 17 (by decide +kernel) (by decide +kernel)), TX1, 2, rfl⟩
theorem mX1_47 : zMS RX1 47 yX1_stepsToDoor cX1_stepsToDoor 5 (some .int) 4 := ⟨mbX1_stepsToDoor, (zin 502 (by decide +kernel) (by decide +kernel)), (zin 503 (by decide +kernel) (by decide +kernel))⟩
theorem mX1_54 : zMV RX1 54 yX2_along cX2_along 3 (some .int) 2 2 := ⟨mbX2_along, (zin 505 (by decide +kernel) (by decide +kernel)), (zin 293 (by decide +kernel) (by decide +kernel)), (zin 294 (by decide +kernel) (by decide +kernel)), TX2, 5, rfl⟩
theorem mX1_57 : zMV RX1 57 yX0_openDoor cX0_openDoor 5 (some .int) 2 0 := ⟨mbX0_openDoor, (zin 506 (by decide +kernel) (by decide +kernel)), (zin 352 (by decide +kernel) (by decide +kernel)), (zin 353 (by decide +kernel) (by decide +kernel)), TX0, 17, rfl⟩
theorem mX2_27 : zMS RX2 27 yJ9_floorMod_7cf53 cJ9_floorMod_7cf53 3 (some .int) 2 := ⟨mbJ9_floorMod_7cf53, (zin 296 (by decide +kernel) (by decide +kernel)), (zin 297 (by decide +kernel) (by decide +kernel))⟩
theorem mX2_33 : zMV RX2 33 yX2_place cX2_place 3 (some .int) 2 2 := ⟨mbX2_place, (zin 303 (by decide +kernel) (by decide +kernel)), (zin 304 (by decide +kernel) (by decide +kernel)), (zin 305 (by decide +kernel) (by decide +kernel)), TX2, 5, rfl⟩
theorem mX2_36 : zMV RX2 36 yX2_isUp cX2_isUp 2 (some .boolean) 1 2 := ⟨mbX2_isUp, (zin 363 (by decide +kernel) (by decide +kernel)), (zin 364 (by decide +kernel) (by decide +kernel)), (zin 365 (by decide +kernel) (by decide +kernel)), TX2, 5, rfl⟩
theorem mX2_40 : zMV RX2 40 yX2_isAtFloor cX2_isAtFloor 2 (some .boolean) 1 2 := ⟨mbX2_isAtFloor, (zin 367 (by decide +kernel) (by decide +kernel)), (zin 308 (by decide +kernel) (by decide +kernel)), (zin 309 (by decide +kernel) (by decide +kernel)), TX2, 5, rfl⟩
theorem mX3_32 : zMV RX3 32 yX0_costOf cX0_costOf 3 (some .int) 1 0 := ⟨mbX0_costOf, (zin 559 (by decide +kernel) (by decide +kernel)), (zin 431 (by decide +kernel) (by decide +kernel)), (zin 432 (by decide +kernel) (by decide +kernel)), TX0, 17, rfl⟩
theorem mX3_36 : zMS RX3 36 yJ6_signum_0f7a4 cJ6_signum_0f7a4 1 (some .int) 1 := ⟨mbJ6_signum_0f7a4, (zin 569 (by decide +kernel) (by decide +kernel)), (zin 570 (by decide +kernel) (by decide +kernel))⟩
theorem mX4_43 : zMV RX4 43 yX4_floorsApart cX4_floorsApart 2 (some .int) 1 4 := ⟨mbX4_floorsApart, (zin 331 (by decide +kernel) (by decide +kernel)), (zin 332 (by decide +kernel) (by decide +kernel)), (zin 333 (by decide +kernel) (by decide +kernel)), TX4, 8, rfl⟩
theorem mX5_16 : zMV RX5 16 yX5_forget cX5_forget 1 none 0 5 := ⟨mbX5_forget, (zin 189 (by decide +kernel) (by decide +kernel)), (zin 190 (by decide +kernel) (by decide +kernel)), (zin 191 (by decide +kernel) (by decide +kernel)), TX5, 1, rfl⟩
theorem mX5_19 : zMS RX5 19 yJ7_fill_53178 cJ7_fill_53178 4 none 2 := ⟨mbJ7_fill_53178, (zin 193 (by decide +kernel) (by decide +kernel)), (zin 194 (by decide +kernel) (by decide +kernel))⟩
theorem mX5_25 : zMV RX5 25 yX5_together cX5_together 7 (some .int) 3 5 := ⟨mbX5_together, (zin 538 (by decide +kernel) (by decide +kernel)), (zin 540 (by decide +kernel) (by decide +kernel)), (zins 18 (by decide +kernel) (by decide +kernel)), TX5, 1, rfl⟩
theorem mX5_29 : zMN RX5 29 yX6_within cX6_within 3 (some .boolean) 3 := ⟨mbX6_within, ⟨"CabinChain", by decide +kernel⟩, (zin 246 (by decide +kernel) (by decide +kernel))⟩
theorem mX6_58 : zMS RX6 58 yX6_within cX6_within 3 (some .boolean) 3 := ⟨mbX6_within, (zin 245 (by decide +kernel) (by decide +kernel)), (zin 246 (by decide +kernel) (by decide +kernel))⟩
theorem mX6_62 : zMS RX6 62 yX6_isSpeed cX6_isSpeed 2 (some .boolean) 2 := ⟨mbX6_isSpeed, (zin 248 (by decide +kernel) (by decide +kernel)), (zin 249 (by decide +kernel) (by decide +kernel))⟩
theorem mX6_70 : zMV RX6 70 yX0_begin cX0_begin 5 none 3 0 := ⟨mbX0_begin, (zin 254 (by decide +kernel) (by decide +kernel)), (zin 255 (by decide +kernel) (by decide +kernel)), (zin 256 (by decide +kernel) (by decide +kernel)), TX0, 17, rfl⟩
theorem mX6_74 : zMV RX6 74 yX5_forget cX5_forget 1 none 0 5 := ⟨mbX5_forget, (zin 259 (by decide +kernel) (by decide +kernel)), (zin 190 (by decide +kernel) (by decide +kernel)), (zin 191 (by decide +kernel) (by decide +kernel)), TX5, 1, rfl⟩
theorem mX6_81 : zMV RX6 81 yX6_isFloor cX6_isFloor 2 (some .boolean) 1 6 := ⟨mbX6_isFloor, (zin 264 (by decide +kernel) (by decide +kernel)), (zin 266 (by decide +kernel) (by decide +kernel)), (zins 0 (by decide +kernel) (by decide +kernel)), TX6, 7, rfl⟩
theorem mX6_88 : zMV RX6 88 yX4_add cX4_add 9 (some .int) 7 4 := ⟨mbX4_add, (zin 268 (by decide +kernel) (by decide +kernel)), (zin 269 (by decide +kernel) (by decide +kernel)), (zin 270 (by decide +kernel) (by decide +kernel)), TX4, 8, rfl⟩
theorem mX6_98 : zMV RX6 98 yX0_tick cX0_tick 2 none 0 0 := ⟨mbX0_tick, (zin 284 (by decide +kernel) (by decide +kernel)), (zin 285 (by decide +kernel) (by decide +kernel)), (zin 286 (by decide +kernel) (by decide +kernel)), TX0, 17, rfl⟩
theorem mX6_112 : zMV RX6 112 yX2_slot cX2_slot 3 (some .int) 2 2 := ⟨mbX2_slot, (zin 408 (by decide +kernel) (by decide +kernel)), (zin 300 (by decide +kernel) (by decide +kernel)), (zin 301 (by decide +kernel) (by decide +kernel)), TX2, 5, rfl⟩
theorem mX6_116 : zMV RX6 116 yX2_place cX2_place 3 (some .int) 2 2 := ⟨mbX2_place, (zin 409 (by decide +kernel) (by decide +kernel)), (zin 304 (by decide +kernel) (by decide +kernel)), (zin 305 (by decide +kernel) (by decide +kernel)), TX2, 5, rfl⟩
theorem mX6_119 : zMV RX6 119 yX2_floorOrEnd cX2_floorOrEnd 2 (some .int) 1 2 := ⟨mbX2_floorOrEnd, (zin 410 (by decide +kernel) (by decide +kernel)), (zin 360 (by decide +kernel) (by decide +kernel)), (zin 361 (by decide +kernel) (by decide +kernel)), TX2, 5, rfl⟩
theorem mX6_123 : zMV RX6 123 yX2_isAtFloor cX2_isAtFloor 2 (some .boolean) 1 2 := ⟨mbX2_isAtFloor, (zin 411 (by decide +kernel) (by decide +kernel)), (zin 308 (by decide +kernel) (by decide +kernel)), (zin 309 (by decide +kernel) (by decide +kernel)), TX2, 5, rfl⟩
theorem mX6_126 : zMV RX6 126 yX2_isUp cX2_isUp 2 (some .boolean) 1 2 := ⟨mbX2_isUp, (zin 412 (by decide +kernel) (by decide +kernel)), (zin 364 (by decide +kernel) (by decide +kernel)), (zin 365 (by decide +kernel) (by decide +kernel)), TX2, 5, rfl⟩
theorem mX6_133 : zMV RX6 133 yX0_riders cX0_riders 4 (some .int) 1 0 := ⟨mbX0_riders, (zin 413 (by decide +kernel) (by decide +kernel)), (zin 414 (by decide +kernel) (by decide +kernel)), (zin 415 (by decide +kernel) (by decide +kernel)), TX0, 17, rfl⟩
theorem mX6_136 : zMV RX6 136 yX2_ticksLeft cX2_ticksLeft 4 (some .int) 2 2 := ⟨mbX2_ticksLeft, (zin 421 (by decide +kernel) (by decide +kernel)), (zin 348 (by decide +kernel) (by decide +kernel)), (zin 349 (by decide +kernel) (by decide +kernel)), TX2, 5, rfl⟩
theorem mX6_142 : zMV RX6 142 yX0_spot cX0_spot 2 (some .int) 1 0 := ⟨mbX0_spot, (zin 426 (by decide +kernel) (by decide +kernel)), (zin 427 (by decide +kernel) (by decide +kernel)), (zin 428 (by decide +kernel) (by decide +kernel)), TX0, 17, rfl⟩
theorem mX6_151 : zMV RX6 151 yX0_costOf cX0_costOf 3 (some .int) 1 0 := ⟨mbX0_costOf, (zin 430 (by decide +kernel) (by decide +kernel)), (zin 431 (by decide +kernel) (by decide +kernel)), (zin 432 (by decide +kernel) (by decide +kernel)), TX0, 17, rfl⟩
theorem mX6_161 : zMV RX6 161 yX6_isSafe cX6_isSafe 4 (some .boolean) 1 6 := ⟨mbX6_isSafe, (zin 442 (by decide +kernel) (by decide +kernel)), (zin 444 (by decide +kernel) (by decide +kernel)), (zins 13 (by decide +kernel) (by decide +kernel)), TX6, 7, rfl⟩
theorem mX6_164 : zMV RX6 164 yX0_playDay cX0_playDay 5 (some .int) 3 0 := ⟨mbX0_playDay, (zin 451 (by decide +kernel) (by decide +kernel)), (zin 452 (by decide +kernel) (by decide +kernel)), (zin 453 (by decide +kernel) (by decide +kernel)), TX0, 17, rfl⟩
theorem mX6_176 : zMV RX6 176 yX0_howMany cX0_howMany 4 (some .int) 1 0 := ⟨mbX0_howMany, (zin 478 (by decide +kernel) (by decide +kernel)), (zin 479 (by decide +kernel) (by decide +kernel)), (zin 480 (by decide +kernel) (by decide +kernel)), TX0, 17, rfl⟩
theorem mX6_179 : zMV RX6 179 yX0_turnedTogether cX0_turnedTogether 3 (some .int) 0 0 := ⟨mbX0_turnedTogether, (zin 482 (by decide +kernel) (by decide +kernel)), (zin 483 (by decide +kernel) (by decide +kernel)), (zin 484 (by decide +kernel) (by decide +kernel)), TX0, 17, rfl⟩
theorem mX6_186 : zMV RX6 186 yX0_dearest cX0_dearest 3 (some .int) 0 0 := ⟨mbX0_dearest, (zin 486 (by decide +kernel) (by decide +kernel)), (zin 487 (by decide +kernel) (by decide +kernel)), (zin 488 (by decide +kernel) (by decide +kernel)), TX0, 17, rfl⟩
theorem mX6_189 : zMV RX6 189 yX1_fewestSteps cX1_fewestSteps 7 (some .int) 1 1 := ⟨mbX1_fewestSteps, (zin 494 (by decide +kernel) (by decide +kernel)), (zin 495 (by decide +kernel) (by decide +kernel)), (zin 496 (by decide +kernel) (by decide +kernel)), TX1, 2, rfl⟩
theorem mX6_193 : zMV RX6 193 yX2_along cX2_along 3 (some .int) 2 2 := ⟨mbX2_along, (zin 517 (by decide +kernel) (by decide +kernel)), (zin 293 (by decide +kernel) (by decide +kernel)), (zin 294 (by decide +kernel) (by decide +kernel)), TX2, 5, rfl⟩
theorem mX6_196 : zMV RX6 196 yX0_letOut cX0_letOut 5 (some .int) 0 0 := ⟨mbX0_letOut, (zin 518 (by decide +kernel) (by decide +kernel)), (zin 519 (by decide +kernel) (by decide +kernel)), (zin 520 (by decide +kernel) (by decide +kernel)), TX0, 17, rfl⟩
theorem mX6_203 : zMV RX6 203 yX5_mayLeaveInside cX5_mayLeaveInside 5 (some .boolean) 2 5 := ⟨mbX5_mayLeaveInside, (zin 534 (by decide +kernel) (by decide +kernel)), (zin 535 (by decide +kernel) (by decide +kernel)), (zin 536 (by decide +kernel) (by decide +kernel)), TX5, 1, rfl⟩
theorem mX6_206 : zMV RX6 206 yX5_differs cX5_differs 5 (some .boolean) 2 5 := ⟨mbX5_differs, (zin 547 (by decide +kernel) (by decide +kernel)), (zin 548 (by decide +kernel) (by decide +kernel)), (zin 549 (by decide +kernel) (by decide +kernel)), TX5, 1, rfl⟩
theorem mX6_210 : zMV RX6 210 yX3_add cX3_add 3 none 1 3 := ⟨mbX3_add, (zin 555 (by decide +kernel) (by decide +kernel)), (zin 556 (by decide +kernel) (by decide +kernel)), (zin 557 (by decide +kernel) (by decide +kernel)), TX3, 3, rfl⟩
theorem mX6_214 : zMV RX6 214 yX3_howManyHave cX3_howManyHave 6 (some .int) 3 3 := ⟨mbX3_howManyHave, (zin 565 (by decide +kernel) (by decide +kernel)), (zin 566 (by decide +kernel) (by decide +kernel)), (zin 567 (by decide +kernel) (by decide +kernel)), TX3, 3, rfl⟩
theorem mX6_218 : zMV RX6 218 yX3_lessTogether cX3_lessTogether 5 (some .int) 2 3 := ⟨mbX3_lessTogether, (zin 572 (by decide +kernel) (by decide +kernel)), (zin 573 (by decide +kernel) (by decide +kernel)), (zin 574 (by decide +kernel) (by decide +kernel)), TX3, 3, rfl⟩
theorem mX6_222 : zMV RX6 222 yX5_howManyTold cX5_howManyTold 4 (some .int) 1 5 := ⟨mbX5_howManyTold, (zin 580 (by decide +kernel) (by decide +kernel)), (zin 581 (by decide +kernel) (by decide +kernel)), (zin 582 (by decide +kernel) (by decide +kernel)), TX5, 1, rfl⟩
theorem mX6_225 : zMV RX6 225 yX4_goesOnFoot cX4_goesOnFoot 4 (some .boolean) 2 4 := ⟨mbX4_goesOnFoot, (zin 446 (by decide +kernel) (by decide +kernel)), (zin 328 (by decide +kernel) (by decide +kernel)), (zin 329 (by decide +kernel) (by decide +kernel)), TX4, 8, rfl⟩
theorem mX7_62 : zMV RX7 62 yX7_begins cX7_begins 2 none 0 7 := ⟨mbX7_begins, (zin 590 (by decide +kernel) (by decide +kernel)), (zin 592 (by decide +kernel) (by decide +kernel)), (zins 19 (by decide +kernel) (by decide +kernel)), TX7, 19, rfl⟩
theorem mX7_65 : zMS RX7 65 yX7_in cX7_in 3 (some .boolean) 3 := ⟨mbX7_in, (zin 594 (by decide +kernel) (by decide +kernel)), (zin 595 (by decide +kernel) (by decide +kernel))⟩
theorem mX7_75 : zMV RX7 75 yX7_boxes cX7_boxes 1 (some .int) 0 7 := ⟨mbX7_boxes, (zin 659 (by decide +kernel) (by decide +kernel)), (zin 661 (by decide +kernel) (by decide +kernel)), (zins 20 (by decide +kernel) (by decide +kernel)), TX7, 19, rfl⟩
theorem mX7_79 : zMV RX7 79 yX7_isFloor cX7_isFloor 2 (some .boolean) 1 7 := ⟨mbX7_isFloor, (zin 667 (by decide +kernel) (by decide +kernel)), (zin 669 (by decide +kernel) (by decide +kernel)), (zins 21 (by decide +kernel) (by decide +kernel)), TX7, 19, rfl⟩
theorem mX7_83 : zMV RX7 83 yX7_isSpeed cX7_isSpeed 2 (some .boolean) 1 7 := ⟨mbX7_isSpeed, (zin 675 (by decide +kernel) (by decide +kernel)), (zin 677 (by decide +kernel) (by decide +kernel)), (zins 22 (by decide +kernel) (by decide +kernel)), TX7, 19, rfl⟩
theorem mX7_86 : zMV RX7 86 yX7_placeOf cX7_placeOf 2 (some .int) 1 7 := ⟨mbX7_placeOf, (zin 695 (by decide +kernel) (by decide +kernel)), (zin 697 (by decide +kernel) (by decide +kernel)), (zins 25 (by decide +kernel) (by decide +kernel)), TX7, 19, rfl⟩
theorem mX7_90 : zMV RX7 90 yX7_rides cX7_rides 3 (some .boolean) 2 7 := ⟨mbX7_rides, (zin 707 (by decide +kernel) (by decide +kernel)), (zin 709 (by decide +kernel) (by decide +kernel)), (zins 28 (by decide +kernel) (by decide +kernel)), TX7, 19, rfl⟩
theorem mX7_94 : zMV RX7 94 yX7_isAside cX7_isAside 2 (some .boolean) 1 7 := ⟨mbX7_isAside, (zin 699 (by decide +kernel) (by decide +kernel)), (zin 701 (by decide +kernel) (by decide +kernel)), (zins 26 (by decide +kernel) (by decide +kernel)), TX7, 19, rfl⟩
theorem mX7_97 : zMV RX7 97 yX7_partOf cX7_partOf 2 (some .int) 1 7 := ⟨mbX7_partOf, (zin 703 (by decide +kernel) (by decide +kernel)), (zin 705 (by decide +kernel) (by decide +kernel)), (zins 27 (by decide +kernel) (by decide +kernel)), TX7, 19, rfl⟩
theorem mX7_100 : zMV RX7 100 yX7_far cX7_far 2 (some .int) 1 7 := ⟨mbX7_far, (zin 719 (by decide +kernel) (by decide +kernel)), (zin 721 (by decide +kernel) (by decide +kernel)), (zins 31 (by decide +kernel) (by decide +kernel)), TX7, 19, rfl⟩
theorem mX7_103 : zMV RX7 103 yX7_walks cX7_walks 2 (some .boolean) 1 7 := ⟨mbX7_walks, (zin 715 (by decide +kernel) (by decide +kernel)), (zin 717 (by decide +kernel) (by decide +kernel)), (zins 30 (by decide +kernel) (by decide +kernel)), TX7, 19, rfl⟩
theorem mX7_106 : zMV RX7 106 yX7_joins cX7_joins 3 none 2 7 := ⟨mbX7_joins, (zin 723 (by decide +kernel) (by decide +kernel)), (zin 725 (by decide +kernel) (by decide +kernel)), (zins 32 (by decide +kernel) (by decide +kernel)), TX7, 19, rfl⟩
theorem mX7_110 : zMV RX7 110 yX7_floorOf cX7_floorOf 2 (some .int) 1 7 := ⟨mbX7_floorOf, (zin 735 (by decide +kernel) (by decide +kernel)), (zin 737 (by decide +kernel) (by decide +kernel)), (zins 35 (by decide +kernel) (by decide +kernel)), TX7, 19, rfl⟩
theorem mX7_113 : zMV RX7 113 yX7_leaves cX7_leaves 3 none 2 7 := ⟨mbX7_leaves, (zin 739 (by decide +kernel) (by decide +kernel)), (zin 741 (by decide +kernel) (by decide +kernel)), (zins 36 (by decide +kernel) (by decide +kernel)), TX7, 19, rfl⟩
theorem mX7_116 : zMV RX7 116 yX7_widths cX7_widths 4 (some .int) 1 7 := ⟨mbX7_widths, (zin 743 (by decide +kernel) (by decide +kernel)), (zin 745 (by decide +kernel) (by decide +kernel)), (zins 37 (by decide +kernel) (by decide +kernel)), TX7, 19, rfl⟩
theorem mX7_119 : zMV RX7 119 yX7_parts cX7_parts 4 none 2 7 := ⟨mbX7_parts, (zin 747 (by decide +kernel) (by decide +kernel)), (zin 749 (by decide +kernel) (by decide +kernel)), (zins 38 (by decide +kernel) (by decide +kernel)), TX7, 19, rfl⟩
theorem mX7_122 : zMV RX7 122 yX7_moves cX7_moves 6 none 0 7 := ⟨mbX7_moves, (zin 691 (by decide +kernel) (by decide +kernel)), (zin 693 (by decide +kernel) (by decide +kernel)), (zins 24 (by decide +kernel) (by decide +kernel)), TX7, 19, rfl⟩
theorem mX7_125 : zMV RX7 125 yX7_comes cX7_comes 2 none 0 7 := ⟨mbX7_comes, (zin 711 (by decide +kernel) (by decide +kernel)), (zin 713 (by decide +kernel) (by decide +kernel)), (zins 29 (by decide +kernel) (by decide +kernel)), TX7, 19, rfl⟩
theorem mX7_128 : zMV RX7 128 yX7_leftOf cX7_leftOf 3 (some .int) 1 7 := ⟨mbX7_leftOf, (zin 727 (by decide +kernel) (by decide +kernel)), (zin 729 (by decide +kernel) (by decide +kernel)), (zins 33 (by decide +kernel) (by decide +kernel)), TX7, 19, rfl⟩
theorem mX7_131 : zMV RX7 131 yX7_serves cX7_serves 13 none 2 7 := ⟨mbX7_serves, (zin 731 (by decide +kernel) (by decide +kernel)), (zin 733 (by decide +kernel) (by decide +kernel)), (zins 34 (by decide +kernel) (by decide +kernel)), TX7, 19, rfl⟩
theorem mX7_134 : zMV RX7 134 yX7_passes cX7_passes 3 none 0 7 := ⟨mbX7_passes, (zin 687 (by decide +kernel) (by decide +kernel)), (zin 689 (by decide +kernel) (by decide +kernel)), (zins 23 (by decide +kernel) (by decide +kernel)), TX7, 19, rfl⟩
theorem mX7_137 : zMV RX7 137 yX7_ridersOf cX7_ridersOf 4 (some .int) 1 7 := ⟨mbX7_ridersOf, (zin 763 (by decide +kernel) (by decide +kernel)), (zin 765 (by decide +kernel) (by decide +kernel)), (zins 39 (by decide +kernel) (by decide +kernel)), TX7, 19, rfl⟩
theorem mX7_140 : zMV RX7 140 yX7_stateOf cX7_stateOf 3 (some .int) 1 7 := ⟨mbX7_stateOf, (zin 779 (by decide +kernel) (by decide +kernel)), (zin 781 (by decide +kernel) (by decide +kernel)), (zins 41 (by decide +kernel) (by decide +kernel)), TX7, 19, rfl⟩
theorem mX7_143 : zMV RX7 143 yX7_isPerson cX7_isPerson 2 (some .boolean) 1 7 := ⟨mbX7_isPerson, (zin 775 (by decide +kernel) (by decide +kernel)), (zin 777 (by decide +kernel) (by decide +kernel)), (zins 40 (by decide +kernel) (by decide +kernel)), TX7, 19, rfl⟩
theorem mX7_146 : zMV RX7 146 yX7_costOf cX7_costOf 3 (some .int) 1 7 := ⟨mbX7_costOf, (zin 783 (by decide +kernel) (by decide +kernel)), (zin 785 (by decide +kernel) (by decide +kernel)), (zins 42 (by decide +kernel) (by decide +kernel)), TX7, 19, rfl⟩
theorem mX7_149 : zMV RX7 149 yX7_dayBy cX7_dayBy 6 (some .int) 2 7 := ⟨mbX7_dayBy, (zin 807 (by decide +kernel) (by decide +kernel)), (zin 809 (by decide +kernel) (by decide +kernel)), (zins 45 (by decide +kernel) (by decide +kernel)), TX7, 19, rfl⟩
theorem mX7_153 : zMV RX7 153 yX7_returns cX7_returns 2 none 0 7 := ⟨mbX7_returns, (zin 811 (by decide +kernel) (by decide +kernel)), (zin 813 (by decide +kernel) (by decide +kernel)), (zins 46 (by decide +kernel) (by decide +kernel)), TX7, 19, rfl⟩
theorem mX7_156 : zMV RX7 156 yX7_isSafe cX7_isSafe 4 (some .boolean) 1 7 := ⟨mbX7_isSafe, (zin 795 (by decide +kernel) (by decide +kernel)), (zin 797 (by decide +kernel) (by decide +kernel)), (zins 43 (by decide +kernel) (by decide +kernel)), TX7, 19, rfl⟩
theorem mX7_159 : zMV RX7 159 yX7_dayCost cX7_dayCost 4 (some .int) 2 7 := ⟨mbX7_dayCost, (zin 803 (by decide +kernel) (by decide +kernel)), (zin 805 (by decide +kernel) (by decide +kernel)), (zins 44 (by decide +kernel) (by decide +kernel)), TX7, 19, rfl⟩
theorem mX7_162 : zMV RX7 162 yX7_opens cX7_opens 6 (some .boolean) 2 7 := ⟨mbX7_opens, (zin 835 (by decide +kernel) (by decide +kernel)), (zin 837 (by decide +kernel) (by decide +kernel)), (zins 48 (by decide +kernel) (by decide +kernel)), TX7, 19, rfl⟩
theorem mX7_165 : zMV RX7 165 yX7_frees cX7_frees 7 (some .boolean) 2 7 := ⟨mbX7_frees, (zin 831 (by decide +kernel) (by decide +kernel)), (zin 833 (by decide +kernel) (by decide +kernel)), (zins 47 (by decide +kernel) (by decide +kernel)), TX7, 19, rfl⟩
theorem mX7_169 : zMV RX7 169 yX7_inState cX7_inState 4 (some .int) 1 7 := ⟨mbX7_inState, (zin 872 (by decide +kernel) (by decide +kernel)), (zin 874 (by decide +kernel) (by decide +kernel)), (zins 49 (by decide +kernel) (by decide +kernel)), TX7, 19, rfl⟩
theorem zim1 : Int32.ofInt (-1) = (-1 : Int32) := by decide
theorem zi0 : Int32.ofInt (0) = (0 : Int32) := by decide
theorem zi1 : Int32.ofInt (1) = (1 : Int32) := by decide
theorem zi2 : Int32.ofInt (2) = (2 : Int32) := by decide
theorem zi3 : Int32.ofInt (3) = (3 : Int32) := by decide
theorem zi4 : Int32.ofInt (4) = (4 : Int32) := by decide
theorem zi5 : Int32.ofInt (5) = (5 : Int32) := by decide
theorem zi8 : Int32.ofInt (8) = (8 : Int32) := by decide
theorem zbpm100 : (Int8.ofInt (-100)).toInt32 = (-100 : Int32) := by decide
theorem zbpm4 : (Int8.ofInt (-4)).toInt32 = (-4 : Int32) := by decide
theorem zbpm3 : (Int8.ofInt (-3)).toInt32 = (-3 : Int32) := by decide
theorem zbpm2 : (Int8.ofInt (-2)).toInt32 = (-2 : Int32) := by decide
theorem zbp6 : (Int8.ofInt (6)).toInt32 = (6 : Int32) := by decide
theorem zbp7 : (Int8.ofInt (7)).toInt32 = (7 : Int32) := by decide
theorem zbp8 : (Int8.ofInt (8)).toInt32 = (8 : Int32) := by decide
theorem zbp12 : (Int8.ofInt (12)).toInt32 = (12 : Int32) := by decide
theorem zbp16 : (Int8.ofInt (16)).toInt32 = (16 : Int32) := by decide
theorem zbp18 : (Int8.ofInt (18)).toInt32 = (18 : Int32) := by decide
theorem zbp30 : (Int8.ofInt (30)).toInt32 = (30 : Int32) := by decide
theorem zbp31 : (Int8.ofInt (31)).toInt32 = (31 : Int32) := by decide
theorem zbp35 : (Int8.ofInt (35)).toInt32 = (35 : Int32) := by decide
theorem zbp65 : (Int8.ofInt (65)).toInt32 = (65 : Int32) := by decide
theorem zbp90 : (Int8.ofInt (90)).toInt32 = (90 : Int32) := by decide
theorem zbp94 : (Int8.ofInt (94)).toInt32 = (94 : Int32) := by decide
theorem zbp95 : (Int8.ofInt (95)).toInt32 = (95 : Int32) := by decide
theorem zbp100 : (Int8.ofInt (100)).toInt32 = (100 : Int32) := by decide
theorem zbp101 : (Int8.ofInt (101)).toInt32 = (101 : Int32) := by decide
theorem zbp125 : (Int8.ofInt (125)).toInt32 = (125 : Int32) := by decide
theorem zsp133 : (Int16.ofInt (133)).toInt32 = (133 : Int32) := by decide
theorem zsp141 : (Int16.ofInt (141)).toInt32 = (141 : Int32) := by decide
theorem zsp149 : (Int16.ofInt (149)).toInt32 = (149 : Int32) := by decide
theorem zsp200 : (Int16.ofInt (200)).toInt32 = (200 : Int32) := by decide
theorem zsp389 : (Int16.ofInt (389)).toInt32 = (389 : Int32) := by decide
theorem zsp900 : (Int16.ofInt (900)).toInt32 = (900 : Int32) := by decide
theorem zsp1000 : (Int16.ofInt (1000)).toInt32 = (1000 : Int32) := by decide
theorem zsp2000 : (Int16.ofInt (2000)).toInt32 = (2000 : Int32) := by decide
theorem zldX6_213 : Cond.constant RX6 213 (-1000000 : Int32) ∈ ztb := by decide +kernel
theorem zldX7_168 : Cond.constant RX7 168 (-1000000 : Int32) ∈ ztb := by decide +kernel
theorem zg0 : zΓ[0]? = some (0, 6) := rfl
theorem zg1 : zΓ[1]? = some (0, 4) := rfl
theorem zg2 : zΓ[2]? = some (1, 30) := rfl
theorem zg3 : zΓ[3]? = some (1, 30) := rfl
theorem zg4 : zΓ[4]? = some (1, 30) := rfl
theorem zg5 : zΓ[5]? = some (1, 30) := rfl
theorem zg6 : zΓ[6]? = some (1, 30) := rfl
theorem zg7 : zΓ[7]? = some (1, 30) := rfl
theorem zg8 : zΓ[8]? = some (1, 30) := rfl
theorem zg9 : zΓ[9]? = some (0, 2) := rfl
theorem zg10 : zΓ[10]? = some (0, 0) := rfl
theorem zg11 : zΓ[11]? = some (1, 30) := rfl
theorem zg12 : zΓ[12]? = some (1, 30) := rfl
theorem zg13 : zΓ[13]? = some (1, 30) := rfl
theorem zg14 : zΓ[14]? = some (1, 30) := rfl
theorem zg15 : zΓ[15]? = some (3, 8) := rfl
theorem zg16 : zΓ[16]? = some (1, 30) := rfl
theorem zg17 : zΓ[17]? = some (1, 30) := rfl
theorem zg18 : zΓ[18]? = some (1, 30) := rfl
theorem zg19 : zΓ[19]? = some (1, 30) := rfl
theorem zg20 : zΓ[20]? = some (1, 30) := rfl
theorem zg21 : zΓ[21]? = some (1, 30) := rfl
theorem zg22 : zΓ[22]? = some (1, 30) := rfl
theorem zg23 : zΓ[23]? = some (1, 30) := rfl
theorem zg24 : zΓ[24]? = some (1, 8) := rfl
theorem zg25 : zΓ[25]? = some (1, 18) := rfl
theorem zg26 : zΓ[26]? = some (3, 2) := rfl
theorem zg27 : zΓ[27]? = some (1, 8) := rfl
theorem zg28 : zΓ[28]? = some (1, 8) := rfl
theorem zg29 : zΓ[29]? = some (2, 8) := rfl
theorem zg30 : zΓ[30]? = some (0, 0) := rfl
theorem zg31 : zΓ[31]? = some (1, 30) := rfl
theorem zg32 : zΓ[32]? = some (1, 30) := rfl
theorem zg33 : zΓ[33]? = some (1, 30) := rfl
theorem zg34 : zΓ[34]? = some (1, 30) := rfl
theorem zg35 : zΓ[35]? = some (3, 8) := rfl
theorem zg36 : zΓ[36]? = some (1, 30) := rfl
theorem zg37 : zΓ[37]? = some (1, 30) := rfl
theorem zg38 : zΓ[38]? = some (1, 30) := rfl
theorem zg39 : zΓ[39]? = some (1, 30) := rfl
theorem zg40 : zΓ[40]? = some (1, 30) := rfl
theorem zg41 : zΓ[41]? = some (1, 30) := rfl
theorem zg42 : zΓ[42]? = some (1, 30) := rfl
theorem zg43 : zΓ[43]? = some (1, 30) := rfl
theorem zg44 : zΓ[44]? = some (1, 8) := rfl
theorem zg45 : zΓ[45]? = some (1, 18) := rfl
theorem zg46 : zΓ[46]? = some (3, 2) := rfl
theorem zg47 : zΓ[47]? = some (1, 8) := rfl
theorem zg48 : zΓ[48]? = some (1, 8) := rfl
theorem zg49 : zΓ[49]? = some (2, 8) := rfl
theorem zg50 : zΓ[50]? = some (0, 1) := rfl
theorem zg51 : zΓ[51]? = some (1, 18) := rfl
theorem zg52 : zΓ[52]? = some (1, 18) := rfl
theorem zg53 : zΓ[53]? = some (0, 5) := rfl
theorem zg54 : zΓ[54]? = some (3, 2) := rfl
theorem zg55 : zΓ[55]? = some (1, 8) := rfl
theorem zg56 : zΓ[56]? = some (1, 8) := rfl
theorem zg57 : zΓ[57]? = some (0, 3) := rfl
theorem zg58 : zΓ[58]? = some (3, 3) := rfl
theorem zg59 : zΓ[59]? = some (1, 30) := rfl
theorem zg60 : zΓ[60]? = some (1, 30) := rfl
theorem zg61 : zΓ[61]? = some (1, 30) := rfl
theorem zg62 : zΓ[62]? = some (1, 3) := rfl
theorem zm0 : zΓM[0]? = some (0, 7) := rfl
theorem zm1 : zΓM[1]? = some (1, 30) := rfl
theorem zm2 : zΓM[2]? = some (1, 30) := rfl
theorem zm3 : zΓM[3]? = some (1, 30) := rfl
theorem zm4 : zΓM[4]? = some (1, 30) := rfl
theorem zm5 : zΓM[5]? = some (1, 30) := rfl
theorem zm6 : zΓM[6]? = some (1, 30) := rfl
theorem zm7 : zΓM[7]? = some (1, 30) := rfl
theorem zm8 : zΓM[8]? = some (1, 389) := rfl
theorem zm9 : zΓM[9]? = some (1, 389) := rfl
theorem zm10 : zΓM[10]? = some (1, 16) := rfl
theorem zm11 : zΓM[11]? = some (1, 3) := rfl
theorem zm12 : zΓM[12]? = some (1, 90) := rfl
/-- a course at r, whose house stands at 9 -/
def zHr (r b : Nat) : Prop := r = 10 ∨ (r = 30 ∧ b = 9)
theorem zHw {r b : Nat} (h : zHr r b) : r = 10 ∨ r = 30 := h.imp id (fun q => q.1)
theorem zH10 {b : Nat} : zHr 10 b := Or.inl rfl
theorem zH30 : zHr 30 9 := Or.inr ⟨rfl, rfl⟩
theorem zgC0 {r : Nat} (h : r = 10 ∨ r = 30) : zΓ[r]? = some (0, 0) := by rcases h with rfl | rfl <;> rfl
theorem zgC1 {r : Nat} (h : r = 10 ∨ r = 30) : zΓ[r + 1]? = some (1, 30) := by rcases h with rfl | rfl <;> rfl
theorem zgC2 {r : Nat} (h : r = 10 ∨ r = 30) : zΓ[r + 2]? = some (1, 30) := by rcases h with rfl | rfl <;> rfl
theorem zgC3 {r : Nat} (h : r = 10 ∨ r = 30) : zΓ[r + 3]? = some (1, 30) := by rcases h with rfl | rfl <;> rfl
theorem zgC4 {r : Nat} (h : r = 10 ∨ r = 30) : zΓ[r + 4]? = some (1, 30) := by rcases h with rfl | rfl <;> rfl
theorem zgC5 {r : Nat} (h : r = 10 ∨ r = 30) : zΓ[r + 5]? = some (3, 8) := by rcases h with rfl | rfl <;> rfl
theorem zgC6 {r : Nat} (h : r = 10 ∨ r = 30) : zΓ[r + 6]? = some (1, 30) := by rcases h with rfl | rfl <;> rfl
theorem zgC7 {r : Nat} (h : r = 10 ∨ r = 30) : zΓ[r + 7]? = some (1, 30) := by rcases h with rfl | rfl <;> rfl
theorem zgC8 {r : Nat} (h : r = 10 ∨ r = 30) : zΓ[r + 8]? = some (1, 30) := by rcases h with rfl | rfl <;> rfl
theorem zgC9 {r : Nat} (h : r = 10 ∨ r = 30) : zΓ[r + 9]? = some (1, 30) := by rcases h with rfl | rfl <;> rfl
theorem zgC10 {r : Nat} (h : r = 10 ∨ r = 30) : zΓ[r + 10]? = some (1, 30) := by rcases h with rfl | rfl <;> rfl
theorem zgC11 {r : Nat} (h : r = 10 ∨ r = 30) : zΓ[r + 11]? = some (1, 30) := by rcases h with rfl | rfl <;> rfl
theorem zgC12 {r : Nat} (h : r = 10 ∨ r = 30) : zΓ[r + 12]? = some (1, 30) := by rcases h with rfl | rfl <;> rfl
theorem zgC13 {r : Nat} (h : r = 10 ∨ r = 30) : zΓ[r + 13]? = some (1, 30) := by rcases h with rfl | rfl <;> rfl
theorem zgC14 {r : Nat} (h : r = 10 ∨ r = 30) : zΓ[r + 14]? = some (1, 8) := by rcases h with rfl | rfl <;> rfl
theorem zgC15 {r : Nat} (h : r = 10 ∨ r = 30) : zΓ[r + 15]? = some (1, 18) := by rcases h with rfl | rfl <;> rfl
theorem zgC16 {r : Nat} (h : r = 10 ∨ r = 30) : zΓ[r + 16]? = some (3, 2) := by rcases h with rfl | rfl <;> rfl
theorem zgC17 {r : Nat} (h : r = 10 ∨ r = 30) : zΓ[r + 17]? = some (1, 8) := by rcases h with rfl | rfl <;> rfl
theorem zgC18 {r : Nat} (h : r = 10 ∨ r = 30) : zΓ[r + 18]? = some (1, 8) := by rcases h with rfl | rfl <;> rfl
theorem zgC19 {r : Nat} (h : r = 10 ∨ r = 30) : zΓ[r + 19]? = some (2, 8) := by rcases h with rfl | rfl <;> rfl
theorem zrC0 {r b : Nat} (h : r = 10 ∨ r = 30) : zρ b r 0 = some (1) := by rcases h with rfl | rfl <;> rfl
theorem zrC1 {r b : Nat} (h : r = 10 ∨ r = 30) : zρ b r 1 = some (r + 1) := by rcases h with rfl | rfl <;> rfl
theorem zrC2 {r b : Nat} (h : r = 10 ∨ r = 30) : zρ b r 2 = some (r + 2) := by rcases h with rfl | rfl <;> rfl
theorem zrC3 {r b : Nat} (h : r = 10 ∨ r = 30) : zρ b r 3 = some (r + 3) := by rcases h with rfl | rfl <;> rfl
theorem zrC4 {r b : Nat} (h : r = 10 ∨ r = 30) : zρ b r 4 = some (r + 4) := by rcases h with rfl | rfl <;> rfl
theorem zrC5 {r b : Nat} (h : r = 10 ∨ r = 30) : zρ b r 5 = some (r + 5) := by rcases h with rfl | rfl <;> rfl
theorem zrC6 {r b : Nat} (h : r = 10 ∨ r = 30) : zρ b r 6 = some (r + 14) := by rcases h with rfl | rfl <;> rfl
theorem zrC7 {r b : Nat} (h : r = 10 ∨ r = 30) : zρ b r 7 = some (r + 15) := by rcases h with rfl | rfl <;> rfl
theorem zrC8 {r b : Nat} (h : r = 10 ∨ r = 30) : zρ b r 8 = some (r + 16) := by rcases h with rfl | rfl <;> rfl
theorem zrC9 {r b : Nat} (h : r = 10 ∨ r = 30) : zρ b r 9 = some (r + 19) := by rcases h with rfl | rfl <;> rfl
theorem zrC10 {r b : Nat} (h : zHr r b) : zρ b r 10 = some 9 := by rcases h with rfl | ⟨rfl, rfl⟩ <;> rfl
theorem zrowL {r : Nat} (h : r = 10 ∨ r = 30) : ∀ j, j < 8 → zΓ[r + 6 + j]? = some (1, 30) := by rcases h with rfl | rfl <;> decide
theorem zrowN {r : Nat} (h : r = 10 ∨ r = 30) : ∀ j, j < 2 → zΓ[r + 17 + j]? = some (1, 8) := by rcases h with rfl | rfl <;> decide
theorem zrefL {r b : Nat} (h : r = 10 ∨ r = 30) : ∀ j, j < 8 → zρ b (r + 5) j = some (r + 6 + j) := by
  intro j hj
  rw [zρ_ne (by omega)]
  revert j
  rcases h with rfl | rfl <;> decide
theorem zrefN {r b : Nat} (h : r = 10 ∨ r = 30) : ∀ j, j < 2 → zρ b (r + 16) j = some (r + 17 + j) := by
  intro j hj
  rw [zρ_ne (by omega)]
  revert j
  rcases h with rfl | rfl <;> decide
theorem zrow54 : ∀ j, j < 2 → zΓ[55 + j]? = some (1, 8) := by decide
theorem zref54 {b : Nat} : ∀ j, j < 2 → zρ b 54 j = some (55 + j) := by
  intro j hj
  rw [zρ_ne (by omega)]
  revert j
  decide
theorem zrow58 : ∀ j, j < 3 → zΓ[59 + j]? = some (1, 30) := by decide
theorem zref58 {b : Nat} : ∀ j, j < 3 → zρ b 58 j = some (59 + j) := by
  intro j hj
  rw [zρ_ne (by omega)]
  revert j
  decide
theorem zρ_10 {b : Nat} : zRu (zρ b) 10 10 (some 9) = zρ b := by
  funext k j
  unfold zRu
  by_cases h : k = 10 ∧ j = 10
  · rw [if_pos h, h.1, h.2]; rfl
  · rw [if_neg h]
theorem zρ_30 {b : Nat} : zRu (zρ b) 30 10 (some 9) = zρ 9 := by
  funext k j
  unfold zRu zρ
  by_cases h : k = 30 ∧ j = 10
  · rw [if_pos h, if_pos h]
  · rw [if_neg h, if_neg h, if_neg h]
/-- the day's house once the course at r begins anew -/
def zb2 (r b : Nat) : Nat := if r = 10 then b else 9
theorem zρ_up {r b : Nat} (h : r = 10 ∨ r = 30) : zRu (zρ b) r 10 (some 9) = zρ (zb2 r b) := by
  rcases h with rfl | rfl
  · exact zρ_10
  · exact zρ_30
theorem zr0_0 {b : Nat} : zρ b 0 0 = some 1 := rfl
theorem zr0_1 {b : Nat} : zρ b 0 1 = some 10 := rfl
theorem zr0_2 {b : Nat} : zρ b 0 2 = some 30 := rfl
theorem zr0_3 {b : Nat} : zρ b 0 3 = some 50 := rfl
theorem zr0_4 {b : Nat} : zρ b 0 4 = some 53 := rfl
theorem zr0_5 {b : Nat} : zρ b 0 5 = some 57 := rfl
theorem zr0_6 {b : Nat} : zρ b 0 6 = some 9 := rfl
theorem zr1_0 {b : Nat} : zρ b 1 0 = some 2 := rfl
theorem zr1_1 {b : Nat} : zρ b 1 1 = some 3 := rfl
theorem zr1_2 {b : Nat} : zρ b 1 2 = some 4 := rfl
theorem zr1_3 {b : Nat} : zρ b 1 3 = some 5 := rfl
theorem zr1_4 {b : Nat} : zρ b 1 4 = some 6 := rfl
theorem zr1_5 {b : Nat} : zρ b 1 5 = some 7 := rfl
theorem zr1_6 {b : Nat} : zρ b 1 6 = some 8 := rfl
theorem zr50_0 {b : Nat} : zρ b 50 0 = some 51 := rfl
theorem zr50_1 {b : Nat} : zρ b 50 1 = some 52 := rfl
theorem zr53_0 {b : Nat} : zρ b 53 0 = some 54 := rfl
theorem zr57_0 {b : Nat} : zρ b 57 0 = some 58 := rfl
theorem zr57_1 {b : Nat} : zρ b 57 1 = some 62 := rfl
theorem zrM6 : zρM 0 6 = some 1 := rfl
theorem zrM7 : zρM 0 7 = some 2 := rfl
theorem zrM8 : zρM 0 8 = some 3 := rfl
theorem zrM9 : zρM 0 9 = some 4 := rfl
theorem zrM10 : zρM 0 10 = some 5 := rfl
theorem zrM11 : zρM 0 11 = some 6 := rfl
theorem zrM12 : zρM 0 12 = some 7 := rfl
theorem zrM13 : zρM 0 13 = some 8 := rfl
theorem zrM14 : zρM 0 14 = some 9 := rfl
theorem zrM15 : zρM 0 15 = some 10 := rfl
theorem zrM17 : zρM 0 17 = some 11 := rfl
theorem zrM18 : zρM 0 18 = some 12 := rfl

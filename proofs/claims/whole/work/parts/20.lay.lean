/-! ===== layouts (by program) ===== -/
def zC : List zSh := [(0, 9, [some 1, some 3, some 5, some 9, some 12, some 21, some 25, some 34, some 37, some 40, some 43, some 47, some 51, none, none]), (0, 5, [some 2, none]), (1, 60, []), (0, 5, [some 4, none]), (1, 60, []), (0, 7, [some 6, some 7, some 8, none, none]), (1, 10, []), (1, 10, []), (1, 10, []), (0, 6, [some 10, some 11, none, none]), (1, 15, []), (1, 15, []), (0, 8, [some 13, some 14, some 15, some 16, some 17, some 18, none]), (1, 400, []), (1, 400, []), (1, 400, []), (1, 400, []), (1, 400, []), (0, 4, [some 19, some 20, none]), (1, 10, []), (1, 10, []), (0, 7, [some 22, some 23, some 24, none, none]), (1, 10, []), (1, 10, []), (1, 10, []), (0, 8, [some 26, some 27, some 28, some 29, some 30, some 31, none]), (1, 400, []), (1, 400, []), (1, 400, []), (1, 400, []), (1, 400, []), (0, 4, [some 32, some 33, none]), (1, 10, []), (1, 10, []), (0, 4, [some 35, some 36, none]), (1, 10, []), (1, 10, []), (0, 2, [some 38, some 39, none]), (1, 52, []), (2, 82, []), (0, 1, [some 41, some 42, none]), (1, 10, []), (1, 10, []), (0, 0, [some 44, some 45, some 46, none]), (1, 8, []), (1, 8, []), (1, 8, []), (0, 0, [some 48, some 49, some 50, none]), (1, 20, []), (1, 20, []), (1, 20, []), (4, 4, [some 52, some 54, some 56, some 58]), (0, 3, [some 53, none, none, none]), (1, 60, []), (0, 3, [some 55, none, none, none]), (1, 60, []), (0, 3, [some 57, none, none, none]), (1, 60, []), (0, 3, [some 59, none, none, none]), (1, 60, [])]
def zMo : List zSh := [(0, 10, [some 1, some 2, some 3, some 4, none, some 5, some 6, some 7, none, some 8, some 9, some 10, some 11, none, none, some 12, some 13, some 14, none, some 15, some 16, none, some 17, none, some 18, some 19, some 20, some 21, some 22, some 23, some 24, some 25, none]), (1, 52, []), (1, 2, []), (1, 2, []), (1, 120, []), (1, 11, []), (1, 11, []), (1, 11, []), (1, 20, []), (1, 20, []), (1, 11, []), (1, 11, []), (1, 512, []), (1, 52, []), (1, 512, []), (1, 10, []), (1, 10, []), (1, 8, []), (1, 20, []), (1, 20, []), (2, 100, []), (3, 4, []), (1, 4, []), (1, 4, []), (1, 240, []), (1, 60, [])]
theorem hC0 : zC[0]? = some (0, 9, [some 1, some 3, some 5, some 9, some 12, some 21, some 25, some 34, some 37, some 40, some 43, some 47, some 51, none, none]) := rfl
theorem hC1 : zC[1]? = some (0, 5, [some 2, none]) := rfl
theorem hC2 : zC[2]? = some (1, 60, []) := rfl
theorem hC3 : zC[3]? = some (0, 5, [some 4, none]) := rfl
theorem hC4 : zC[4]? = some (1, 60, []) := rfl
theorem hC5 : zC[5]? = some (0, 7, [some 6, some 7, some 8, none, none]) := rfl
theorem hC6 : zC[6]? = some (1, 10, []) := rfl
theorem hC7 : zC[7]? = some (1, 10, []) := rfl
theorem hC8 : zC[8]? = some (1, 10, []) := rfl
theorem hC9 : zC[9]? = some (0, 6, [some 10, some 11, none, none]) := rfl
theorem hC10 : zC[10]? = some (1, 15, []) := rfl
theorem hC11 : zC[11]? = some (1, 15, []) := rfl
theorem hC12 : zC[12]? = some (0, 8, [some 13, some 14, some 15, some 16, some 17, some 18, none]) := rfl
theorem hC13 : zC[13]? = some (1, 400, []) := rfl
theorem hC14 : zC[14]? = some (1, 400, []) := rfl
theorem hC15 : zC[15]? = some (1, 400, []) := rfl
theorem hC16 : zC[16]? = some (1, 400, []) := rfl
theorem hC17 : zC[17]? = some (1, 400, []) := rfl
theorem hC18 : zC[18]? = some (0, 4, [some 19, some 20, none]) := rfl
theorem hC19 : zC[19]? = some (1, 10, []) := rfl
theorem hC20 : zC[20]? = some (1, 10, []) := rfl
theorem hC21 : zC[21]? = some (0, 7, [some 22, some 23, some 24, none, none]) := rfl
theorem hC22 : zC[22]? = some (1, 10, []) := rfl
theorem hC23 : zC[23]? = some (1, 10, []) := rfl
theorem hC24 : zC[24]? = some (1, 10, []) := rfl
theorem hC25 : zC[25]? = some (0, 8, [some 26, some 27, some 28, some 29, some 30, some 31, none]) := rfl
theorem hC26 : zC[26]? = some (1, 400, []) := rfl
theorem hC27 : zC[27]? = some (1, 400, []) := rfl
theorem hC28 : zC[28]? = some (1, 400, []) := rfl
theorem hC29 : zC[29]? = some (1, 400, []) := rfl
theorem hC30 : zC[30]? = some (1, 400, []) := rfl
theorem hC31 : zC[31]? = some (0, 4, [some 32, some 33, none]) := rfl
theorem hC32 : zC[32]? = some (1, 10, []) := rfl
theorem hC33 : zC[33]? = some (1, 10, []) := rfl
theorem hC34 : zC[34]? = some (0, 4, [some 35, some 36, none]) := rfl
theorem hC35 : zC[35]? = some (1, 10, []) := rfl
theorem hC36 : zC[36]? = some (1, 10, []) := rfl
theorem hC37 : zC[37]? = some (0, 2, [some 38, some 39, none]) := rfl
theorem hC38 : zC[38]? = some (1, 52, []) := rfl
theorem hC39 : zC[39]? = some (2, 82, []) := rfl
theorem hC40 : zC[40]? = some (0, 1, [some 41, some 42, none]) := rfl
theorem hC41 : zC[41]? = some (1, 10, []) := rfl
theorem hC42 : zC[42]? = some (1, 10, []) := rfl
theorem hC43 : zC[43]? = some (0, 0, [some 44, some 45, some 46, none]) := rfl
theorem hC44 : zC[44]? = some (1, 8, []) := rfl
theorem hC45 : zC[45]? = some (1, 8, []) := rfl
theorem hC46 : zC[46]? = some (1, 8, []) := rfl
theorem hC47 : zC[47]? = some (0, 0, [some 48, some 49, some 50, none]) := rfl
theorem hC48 : zC[48]? = some (1, 20, []) := rfl
theorem hC49 : zC[49]? = some (1, 20, []) := rfl
theorem hC50 : zC[50]? = some (1, 20, []) := rfl
theorem hC51 : zC[51]? = some (4, 4, [some 52, some 54, some 56, some 58]) := rfl
theorem hC52 : zC[52]? = some (0, 3, [some 53, none, none, none]) := rfl
theorem hC53 : zC[53]? = some (1, 60, []) := rfl
theorem hC54 : zC[54]? = some (0, 3, [some 55, none, none, none]) := rfl
theorem hC55 : zC[55]? = some (1, 60, []) := rfl
theorem hC56 : zC[56]? = some (0, 3, [some 57, none, none, none]) := rfl
theorem hC57 : zC[57]? = some (1, 60, []) := rfl
theorem hC58 : zC[58]? = some (0, 3, [some 59, none, none, none]) := rfl
theorem hC59 : zC[59]? = some (1, 60, []) := rfl
theorem hM0 : zMo[0]? = some (0, 10, [some 1, some 2, some 3, some 4, none, some 5, some 6, some 7, none, some 8, some 9, some 10, some 11, none, none, some 12, some 13, some 14, none, some 15, some 16, none, some 17, none, some 18, some 19, some 20, some 21, some 22, some 23, some 24, some 25, none]) := rfl
theorem hM1 : zMo[1]? = some (1, 52, []) := rfl
theorem hM2 : zMo[2]? = some (1, 2, []) := rfl
theorem hM3 : zMo[3]? = some (1, 2, []) := rfl
theorem hM4 : zMo[4]? = some (1, 120, []) := rfl
theorem hM5 : zMo[5]? = some (1, 11, []) := rfl
theorem hM6 : zMo[6]? = some (1, 11, []) := rfl
theorem hM7 : zMo[7]? = some (1, 11, []) := rfl
theorem hM8 : zMo[8]? = some (1, 20, []) := rfl
theorem hM9 : zMo[9]? = some (1, 20, []) := rfl
theorem hM10 : zMo[10]? = some (1, 11, []) := rfl
theorem hM11 : zMo[11]? = some (1, 11, []) := rfl
theorem hM12 : zMo[12]? = some (1, 512, []) := rfl
theorem hM13 : zMo[13]? = some (1, 52, []) := rfl
theorem hM14 : zMo[14]? = some (1, 512, []) := rfl
theorem hM15 : zMo[15]? = some (1, 10, []) := rfl
theorem hM16 : zMo[16]? = some (1, 10, []) := rfl
theorem hM17 : zMo[17]? = some (1, 8, []) := rfl
theorem hM18 : zMo[18]? = some (1, 20, []) := rfl
theorem hM19 : zMo[19]? = some (1, 20, []) := rfl
theorem hM20 : zMo[20]? = some (2, 100, []) := rfl
theorem hM21 : zMo[21]? = some (3, 4, []) := rfl
theorem hM22 : zMo[22]? = some (1, 4, []) := rfl
theorem hM23 : zMo[23]? = some (1, 4, []) := rfl
theorem hM24 : zMo[24]? = some (1, 240, []) := rfl
theorem hM25 : zMo[25]? = some (1, 60, []) := rfl
def okMarks (k : Nat) (n : Nat) : Prop := zC[k]? = some (0, 0, [some (k + 1), some (k + 2), some (k + 3), none]) ∧ zC[k + 1]? = some (1, n, []) ∧ zC[k + 2]? = some (1, n, []) ∧ zC[k + 3]? = some (1, n, [])
def okPairs (k : Nat) : Prop := zC[k]? = some (0, 1, [some (k + 1), some (k + 2), none]) ∧ zC[k + 1]? = some (1, 10, []) ∧ zC[k + 2]? = some (1, 10, [])
def okSand (k : Nat) : Prop := zC[k]? = some (0, 2, [some (k + 1), some (k + 2), none]) ∧ zC[k + 1]? = some (1, 52, []) ∧ zC[k + 2]? = some (2, 82, [])
def okSheet (k : Nat) : Prop := zC[k]? = some (0, 3, [some (k + 1), none, none, none]) ∧ zC[k + 1]? = some (1, 60, [])
def okStand (k : Nat) : Prop := zC[k]? = some (0, 4, [some (k + 1), some (k + 2), none]) ∧ zC[k + 1]? = some (1, 10, []) ∧ zC[k + 2]? = some (1, 10, [])
def okText (k : Nat) : Prop := zC[k]? = some (0, 5, [some (k + 1), none]) ∧ zC[k + 1]? = some (1, 60, [])
def okTold (k : Nat) : Prop := zC[k]? = some (0, 6, [some (k + 1), some (k + 2), none, none]) ∧ zC[k + 1]? = some (1, 15, []) ∧ zC[k + 2]? = some (1, 15, [])
def okTown (k : Nat) : Prop := zC[k]? = some (0, 7, [some (k + 1), some (k + 2), some (k + 3), none, none]) ∧ zC[k + 1]? = some (1, 10, []) ∧ zC[k + 2]? = some (1, 10, []) ∧ zC[k + 3]? = some (1, 10, [])
def okWalk (k : Nat) : Prop := zC[k]? = some (0, 8, [some (k + 1), some (k + 2), some (k + 3), some (k + 4), some (k + 5), some (k + 6), none]) ∧ zC[k + 1]? = some (1, 400, []) ∧ zC[k + 2]? = some (1, 400, []) ∧ zC[k + 3]? = some (1, 400, []) ∧ zC[k + 4]? = some (1, 400, []) ∧ zC[k + 5]? = some (1, 400, []) ∧ okStand (k + 6)
theorem ok_1 : okText 1 := ⟨rfl, rfl⟩
theorem ok_3 : okText 3 := ⟨rfl, rfl⟩
theorem ok_5 : okTown 5 := ⟨rfl, rfl, rfl, rfl⟩
theorem ok_9 : okTold 9 := ⟨rfl, rfl, rfl⟩
theorem ok_12 : okWalk 12 := ⟨rfl, rfl, rfl, rfl, rfl, rfl, ⟨rfl, rfl, rfl⟩⟩
theorem ok_21 : okTown 21 := ⟨rfl, rfl, rfl, rfl⟩
theorem ok_25 : okWalk 25 := ⟨rfl, rfl, rfl, rfl, rfl, rfl, ⟨rfl, rfl, rfl⟩⟩
theorem ok_34 : okStand 34 := ⟨rfl, rfl, rfl⟩
theorem ok_37 : okSand 37 := ⟨rfl, rfl, rfl⟩
theorem ok_40 : okPairs 40 := ⟨rfl, rfl, rfl⟩
theorem ok_43 : okMarks 43 8 := ⟨rfl, rfl, rfl, rfl⟩
theorem ok_47 : okMarks 47 20 := ⟨rfl, rfl, rfl, rfl⟩
theorem ok_52 : okSheet 52 := ⟨rfl, rfl⟩
theorem ok_54 : okSheet 54 := ⟨rfl, rfl⟩
theorem ok_56 : okSheet 56 := ⟨rfl, rfl⟩
theorem ok_58 : okSheet 58 := ⟨rfl, rfl⟩
theorem zSheetAt {i : Int} (h0 : 0 ≤ i) (h1 : i < ((4 : Nat) : Int)) : ([some 52, some 54, some 56, some 58] : List (Option Nat)).getD i.toNat none = some (52 + 2 * i.toNat) ∧ okSheet (52 + 2 * i.toNat) := by
  have h : i.toNat = 0 ∨ i.toNat = 1 ∨ i.toNat = 2 ∨ i.toNat = 3 := by omega
  rcases h with h | h | h | h <;> rw [h]
  · exact ⟨rfl, ok_52⟩
  · exact ⟨rfl, ok_54⟩
  · exact ⟨rfl, ok_56⟩
  · exact ⟨rfl, ok_58⟩
theorem zci_0_in : ∀ w ∈ u_ws RX0 TX0 4, w ∈ zG := by
  have h : (u_ws RX0 TX0 4).all (fun w => decide (w ∈ lw_tbl) && goodWord w) = true := by decide +kernel
  intro w hw
  have h1 := List.all_eq_true.mp h w hw
  simp only [Bool.and_eq_true, decide_eq_true_eq] at h1
  exact List.mem_filter.mpr h1
theorem zci_0 : zCi 0 RX0 TX0 4 := ⟨rfl, zci_0_in, tyX0, tyX0_ok, nmX0⟩
theorem zci_1_in : ∀ w ∈ u_ws RX1 TX1 3, w ∈ zG := by
  have h : (u_ws RX1 TX1 3).all (fun w => decide (w ∈ lw_tbl) && goodWord w) = true := by decide +kernel
  intro w hw
  have h1 := List.all_eq_true.mp h w hw
  simp only [Bool.and_eq_true, decide_eq_true_eq] at h1
  exact List.mem_filter.mpr h1
theorem zci_1 : zCi 1 RX1 TX1 3 := ⟨rfl, zci_1_in, tyX1, tyX1_ok, nmX1⟩
theorem zci_2_in : ∀ w ∈ u_ws RX2 TX2 3, w ∈ zG := by
  have h : (u_ws RX2 TX2 3).all (fun w => decide (w ∈ lw_tbl) && goodWord w) = true := by decide +kernel
  intro w hw
  have h1 := List.all_eq_true.mp h w hw
  simp only [Bool.and_eq_true, decide_eq_true_eq] at h1
  exact List.mem_filter.mpr h1
theorem zci_2 : zCi 2 RX2 TX2 3 := ⟨rfl, zci_2_in, tyX2, tyX2_ok, nmX2⟩
theorem zci_3_in : ∀ w ∈ u_ws RX3 TX3 4, w ∈ zG := by
  have h : (u_ws RX3 TX3 4).all (fun w => decide (w ∈ lw_tbl) && goodWord w) = true := by decide +kernel
  intro w hw
  have h1 := List.all_eq_true.mp h w hw
  simp only [Bool.and_eq_true, decide_eq_true_eq] at h1
  exact List.mem_filter.mpr h1
theorem zci_3 : zCi 3 RX3 TX3 4 := ⟨rfl, zci_3_in, tyX3, tyX3_ok, nmX3⟩
theorem zci_4_in : ∀ w ∈ u_ws RX4 TX4 3, w ∈ zG := by
  have h : (u_ws RX4 TX4 3).all (fun w => decide (w ∈ lw_tbl) && goodWord w) = true := by decide +kernel
  intro w hw
  have h1 := List.all_eq_true.mp h w hw
  simp only [Bool.and_eq_true, decide_eq_true_eq] at h1
  exact List.mem_filter.mpr h1
theorem zci_4 : zCi 4 RX4 TX4 3 := ⟨rfl, zci_4_in, tyX4, tyX4_ok, nmX4⟩
theorem zci_5_in : ∀ w ∈ u_ws RX5 TX5 2, w ∈ zG := by
  have h : (u_ws RX5 TX5 2).all (fun w => decide (w ∈ lw_tbl) && goodWord w) = true := by decide +kernel
  intro w hw
  have h1 := List.all_eq_true.mp h w hw
  simp only [Bool.and_eq_true, decide_eq_true_eq] at h1
  exact List.mem_filter.mpr h1
theorem zci_5 : zCi 5 RX5 TX5 2 := ⟨rfl, zci_5_in, tyX5, tyX5_ok, nmX5⟩
theorem zci_6_in : ∀ w ∈ u_ws RX6 TX6 4, w ∈ zG := by
  have h : (u_ws RX6 TX6 4).all (fun w => decide (w ∈ lw_tbl) && goodWord w) = true := by decide +kernel
  intro w hw
  have h1 := List.all_eq_true.mp h w hw
  simp only [Bool.and_eq_true, decide_eq_true_eq] at h1
  exact List.mem_filter.mpr h1
theorem zci_6 : zCi 6 RX6 TX6 4 := ⟨rfl, zci_6_in, tyX6, tyX6_ok, nmX6⟩
theorem zci_7_in : ∀ w ∈ u_ws RX7 TX7 5, w ∈ zG := by
  have h : (u_ws RX7 TX7 5).all (fun w => decide (w ∈ lw_tbl) && goodWord w) = true := by decide +kernel
  intro w hw
  have h1 := List.all_eq_true.mp h w hw
  simp only [Bool.and_eq_true, decide_eq_true_eq] at h1
  exact List.mem_filter.mpr h1
theorem zci_7 : zCi 7 RX7 TX7 5 := ⟨rfl, zci_7_in, tyX7, tyX7_ok, nmX7⟩
theorem zci_8_in : ∀ w ∈ u_ws RX8 TX8 7, w ∈ zG := by
  have h : (u_ws RX8 TX8 7).all (fun w => decide (w ∈ lw_tbl) && goodWord w) = true := by decide +kernel
  intro w hw
  have h1 := List.all_eq_true.mp h w hw
  simp only [Bool.and_eq_true, decide_eq_true_eq] at h1
  exact List.mem_filter.mpr h1
theorem zci_8 : zCi 8 RX8 TX8 7 := ⟨rfl, zci_8_in, tyX8, tyX8_ok, nmX8⟩
theorem zci_9_in : ∀ w ∈ u_ws RX9 TX9 15, w ∈ zG := by
  have h : (u_ws RX9 TX9 15).all (fun w => decide (w ∈ lw_tbl) && goodWord w) = true := by decide +kernel
  intro w hw
  have h1 := List.all_eq_true.mp h w hw
  simp only [Bool.and_eq_true, decide_eq_true_eq] at h1
  exact List.mem_filter.mpr h1
theorem zci_9 : zCi 9 RX9 TX9 15 := ⟨rfl, zci_9_in, tyX9, tyX9_ok, nmX9⟩
theorem zci_10_in : ∀ w ∈ u_ws RX10 TX10 33, w ∈ zG := by
  have h : (u_ws RX10 TX10 33).all (fun w => decide (w ∈ lw_tbl) && goodWord w) = true := by decide +kernel
  intro w hw
  have h1 := List.all_eq_true.mp h w hw
  simp only [Bool.and_eq_true, decide_eq_true_eq] at h1
  exact List.mem_filter.mpr h1
theorem zci_10 : zCi 10 RX10 TX10 33 := ⟨rfl, zci_10_in, tyX10, tyX10_ok, nmX10⟩
/-! ===== method descriptors (by program) ===== -/
abbrev mX0_add : zM := (yX0_add, cX0_add, 4, some .boolean, 0, 0)
abbrev mX0_inRows : zM := (yX0_inRows, cX0_inRows, 5, some .int, 0, 0)
abbrev mX0_amountOn : zM := (yX0_amountOn, cX0_amountOn, 5, some .int, 0, 0)
abbrev mX0_amountBelow : zM := (yX0_amountBelow, cX0_amountBelow, 4, some .int, 0, 0)
abbrev mX1_add : zM := (yX1_add, cX1_add, 3, some .boolean, 0, 0)
abbrev mX1_apart : zM := (yX1_apart, cX1_apart, 9, some .int, 1, 30)
abbrev mX2_footIn : zM := (yX2_footIn, cX2_footIn, 4, some .int, 0, 0)
abbrev mX2_spread : zM := (yX2_spread, cX2_spread, 7, none, 1, 30)
abbrev mX2_waysOver : zM := (yX2_waysOver, cX2_waysOver, 5, some .long, 0, 0)
abbrev mX3_renew : zM := (yX3_renew, cX3_renew, 3, none, 1, 23)
abbrev mX3_amissAt : zM := (yX3_amissAt, cX3_amissAt, 3, some .int, 0, 0)
abbrev mX3_hasRange : zM := (yX3_hasRange, cX3_hasRange, 3, some .boolean, 0, 0)
abbrev mX3_keep : zM := (yX3_keep, cX3_keep, 3, none, 0, 0)
abbrev mX4_begin : zM := (yX4_begin, cX4_begin, 3, none, 0, 0)
abbrev mX4_move : zM := (yX4_move, cX4_move, 5, some .int, 1, 30)
abbrev mX4_hindmost : zM := (yX4_hindmost, cX4_hindmost, 3, some .int, 0, 0)
abbrev mX4_greatestRow : zM := (yX4_greatestRow, cX4_greatestRow, 3, some .int, 1, 30)
abbrev mX4_isCovered : zM := (yX4_isCovered, cX4_isCovered, 3, some .boolean, 1, 22)
abbrev mX5_append : zM := (yX5_append, cX5_append, 2, none, 0, 0)
abbrev mX5_byteAt : zM := (yX5_byteAt, cX5_byteAt, 2, some .int, 0, 0)
abbrev mX5_figureAt : zM := (yX5_figureAt, cX5_figureAt, 3, some .int, 1, 21)
abbrev mX6_readFrom : zM := (yX6_readFrom, cX6_readFrom, 3, none, 4, 96)
abbrev mX6_readParts : zM := (yX6_readParts, cX6_readParts, 6, some .int, 3, 71)
abbrev mX6_readPart : zM := (yX6_readPart, cX6_readPart, 9, some .int, 2, 43)
abbrev mX6_endOfWeek : zM := (yX6_endOfWeek, cX6_endOfWeek, 4, some .int, 0, 0)
abbrev mX7_readFrom : zM := (yX7_readFrom, cX7_readFrom, 2, none, 4, 94)
abbrev mX7_readParts : zM := (yX7_readParts, cX7_readParts, 5, some .int, 3, 70)
abbrev mX7_readPart : zM := (yX7_readPart, cX7_readPart, 8, some .int, 2, 43)
abbrev mX7_kindOf : zM := (yX7_kindOf, cX7_kindOf, 1, some .int, 0, 0)
abbrev mX7_isTaken : zM := (yX7_isTaken, cX7_isTaken, 4, some .boolean, 0, 0)
abbrev mX7_swapOf : zM := (yX7_swapOf, cX7_swapOf, 6, none, 0, 0)
abbrev mX7_handsFor : zM := (yX7_handsFor, cX7_handsFor, 3, some .int, 0, 0)
abbrev mX8_plan : zM := (yX8_plan, cX8_plan, 5, none, 2, 54)
abbrev mX8_nextBehind : zM := (yX8_nextBehind, cX8_nextBehind, 2, some .int, 1, 30)
abbrev mX8_rowBehind : zM := (yX8_rowBehind, cX8_rowBehind, 7, some .int, 1, 30)
abbrev mX8_step : zM := (yX8_step, cX8_step, 3, none, 0, 0)
abbrev mX8_movesAheadOf : zM := (yX8_movesAheadOf, cX8_movesAheadOf, 3, some .int, 1, 24)
abbrev mX8_dueAheadOf : zM := (yX8_dueAheadOf, cX8_dueAheadOf, 5, some .int, 0, 0)
abbrev mX8_madeInWeek : zM := (yX8_madeInWeek, cX8_madeInWeek, 6, some .int, 0, 0)
abbrev mX8_handsForFirst : zM := (yX8_handsForFirst, cX8_handsForFirst, 4, some .int, 0, 0)
abbrev mX9_wind : zM := (yX9_wind, cX9_wind, 4, some .int, 2, 41)
abbrev mX9_read : zM := (yX9_read, cX9_read, 5, some .int, 2, 41)
abbrev mX9_set : zM := (yX9_set, cX9_set, 4, some .int, 1, 21)
abbrev mX9_foot : zM := (yX9_foot, cX9_foot, 2, some .int, 2, 41)
abbrev mX9_type : zM := (yX9_type, cX9_type, 4, some .int, 6, 139)
abbrev mX9_wipe : zM := (yX9_wipe, cX9_wipe, 4, some .int, 6, 139)
abbrev mX9_fault : zM := (yX9_fault, cX9_fault, 2, some .int, 2, 41)
abbrev mX9_house : zM := (yX9_house, cX9_house, 3, some .int, 2, 42)
abbrev mX9_takes : zM := (yX9_takes, cX9_takes, 3, some .int, 2, 42)
abbrev mX9_judged : zM := (yX9_judged, cX9_judged, 6, some .int, 3, 80)
abbrev mX9_ends : zM := (yX9_ends, cX9_ends, 3, some .int, 2, 54)
abbrev mX9_queue : zM := (yX9_queue, cX9_queue, 3, some .int, 2, 56)
abbrev mX9_needs : zM := (yX9_needs, cX9_needs, 2, some .int, 2, 46)
abbrev mX9_fewest : zM := (yX9_fewest, cX9_fewest, 2, some .int, 3, 80)
abbrev mX9_turn : zM := (yX9_turn, cX9_turn, 7, some .int, 3, 80)
abbrev mX9_owed : zM := (yX9_owed, cX9_owed, 3, some .int, 1, 22)
abbrev mX9_broken : zM := (yX9_broken, cX9_broken, 7, some .int, 2, 58)
abbrev mX9_well : zM := (yX9_well, cX9_well, 3, some .int, 2, 42)
abbrev mX9_met : zM := (yX9_met, cX9_met, 2, some .int, 3, 68)
abbrev mX9_dry : zM := (yX9_dry, cX9_dry, 6, some .int, 3, 68)
abbrev mX9_sold : zM := (yX9_sold, cX9_sold, 6, some .int, 3, 80)
abbrev mX9_debt : zM := (yX9_debt, cX9_debt, 4, some .int, 2, 42)
abbrev mX9_owes : zM := (yX9_owes, cX9_owes, 6, some .int, 2, 56)
abbrev mX9_lost : zM := (yX9_lost, cX9_lost, 2, some .int, 2, 41)
abbrev mX9_church : zM := (yX9_church, cX9_church, 6, some .int, 2, 52)
abbrev mX9_likely : zM := (yX9_likely, cX9_likely, 12, some .long, 2, 56)
abbrev mX9_stone : zM := (yX9_stone, cX9_stone, 8, some .int, 2, 52)
abbrev mX9_sheet : zM := (yX9_sheet, cX9_sheet, 4, some .int, 2, 45)
abbrev mX9_lose : zM := (yX9_lose, cX9_lose, 2, some .int, 2, 41)
abbrev mX9_put : zM := (yX9_put, cX9_put, 6, some .int, 2, 41)
abbrev mX9_get : zM := (yX9_get, cX9_get, 5, some .int, 2, 41)
abbrev mX9_copy : zM := (yX9_copy, cX9_copy, 8, some .int, 2, 41)
abbrev mX9_write : zM := (yX9_write, cX9_write, 6, some .int, 2, 56)
abbrev mX9_count : zM := (yX9_count, cX9_count, 2, some .int, 0, 0)
abbrev mX9_digest : zM := (yX9_digest, cX9_digest, 4, some .long, 5, 126)
abbrev mX9_withHouse : zM := (yX9_withHouse, cX9_withHouse, 7, some .long, 3, 81)
abbrev mX9_withWeek : zM := (yX9_withWeek, cX9_withWeek, 6, some .long, 4, 101)
abbrev mX9_mixed : zM := (yX9_mixed, cX9_mixed, 4, some .long, 0, 0)
abbrev mX9_isWithin : zM := (yX9_isWithin, cX9_isWithin, 2, some .boolean, 0, 0)
abbrev mX9_isWeek : zM := (yX9_isWeek, cX9_isWeek, 1, some .boolean, 1, 21)
abbrev mX9_isText : zM := (yX9_isText, cX9_isText, 1, some .boolean, 1, 21)
abbrev mX9_isSheet : zM := (yX9_isSheet, cX9_isSheet, 1, some .boolean, 1, 21)
abbrev mX9_isForm : zM := (yX9_isForm, cX9_isForm, 1, some .boolean, 1, 21)
abbrev mX9_isPlot : zM := (yX9_isPlot, cX9_isPlot, 2, some .boolean, 1, 21)
abbrev mX9_isHouse : zM := (yX9_isHouse, cX9_isHouse, 2, some .boolean, 1, 21)
abbrev mX9_textOf : zM := (yX9_textOf, cX9_textOf, 2, some (.object "WalkingTown$Text"), 0, 0)
abbrev mX9_found : zM := (yX9_found, cX9_found, 2, some .int, 0, 0)
abbrev mX9_readAgain : zM := (yX9_readAgain, cX9_readAgain, 2, none, 5, 118)
abbrev mX9_whyWrong : zM := (yX9_whyWrong, cX9_whyWrong, 7, some .int, 2, 54)
abbrev mX9_fewestHands : zM := (yX9_fewestHands, cX9_fewestHands, 8, some .int, 2, 53)
abbrev mX9_keepsAhead : zM := (yX9_keepsAhead, cX9_keepsAhead, 9, some .boolean, 1, 25)
abbrev mX9_wellsMet : zM := (yX9_wellsMet, cX9_wellsMet, 3, some .int, 2, 46)
abbrev mX9_roundedUp : zM := (yX9_roundedUp, cX9_roundedUp, 3, some .int, 1, 30)
abbrev mX9_commonDivisor : zM := (yX9_commonDivisor, cX9_commonDivisor, 11, some .long, 0, 0)
abbrev mX10_in : zM := (yX10_in, cX10_in, 3, some .boolean, 0, 0)
abbrev mX10_amount : zM := (yX10_amount, cX10_amount, 1, some .int, 0, 0)
abbrev mX10_no : zM := (yX10_no, cX10_no, 1, some .long, 0, 0)
abbrev mX10_lowest : zM := (yX10_lowest, cX10_lowest, 11, some .long, 0, 0)
abbrev mX10_isWeek : zM := (yX10_isWeek, cX10_isWeek, 1, some .boolean, 1, 22)
abbrev mX10_wind : zM := (yX10_wind, cX10_wind, 4, some .int, 2, 42)
abbrev mX10_read : zM := (yX10_read, cX10_read, 3, some .int, 2, 42)
abbrev mX10_set : zM := (yX10_set, cX10_set, 4, some .int, 1, 22)
abbrev mX10_footOf : zM := (yX10_footOf, cX10_footOf, 4, some .int, 0, 0)
abbrev mX10_foot : zM := (yX10_foot, cX10_foot, 2, some .int, 2, 42)
abbrev mX10_type : zM := (yX10_type, cX10_type, 3, some .int, 1, 22)
abbrev mX10_wipe : zM := (yX10_wipe, cX10_wipe, 3, some .int, 1, 22)
abbrev mX10_byteAt : zM := (yX10_byteAt, cX10_byteAt, 3, some .int, 0, 0)
abbrev mX10_figureAt : zM := (yX10_figureAt, cX10_figureAt, 4, some .int, 1, 22)
abbrev mX10_townFault : zM := (yX10_townFault, cX10_townFault, 5, some .int, 2, 45)
abbrev mX10_movesFault : zM := (yX10_movesFault, cX10_movesFault, 6, some .int, 3, 69)
abbrev mX10_faultOf : zM := (yX10_faultOf, cX10_faultOf, 2, some .int, 4, 94)
abbrev mX10_fault : zM := (yX10_fault, cX10_fault, 2, some .int, 5, 115)
abbrev mX10_housesNow : zM := (yX10_housesNow, cX10_housesNow, 2, some .int, 3, 69)
abbrev mX10_isHouse : zM := (yX10_isHouse, cX10_isHouse, 2, some .boolean, 4, 90)
abbrev mX10_houseOf : zM := (yX10_houseOf, cX10_houseOf, 3, some .int, 0, 0)
abbrev mX10_house : zM := (yX10_house, cX10_house, 3, some .int, 5, 111)
abbrev mX10_handsOf : zM := (yX10_handsOf, cX10_handsOf, 3, some .int, 0, 0)
abbrev mX10_takes : zM := (yX10_takes, cX10_takes, 3, some .int, 5, 111)
abbrev mX10_begins : zM := (yX10_begins, cX10_begins, 2, none, 0, 0)
abbrev mX10_goes : zM := (yX10_goes, cX10_goes, 4, some .boolean, 0, 0)
abbrev mX10_judges : zM := (yX10_judges, cX10_judges, 9, none, 4, 94)
abbrev mX10_judgedOf : zM := (yX10_judgedOf, cX10_judgedOf, 2, some .int, 5, 122)
abbrev mX10_judged : zM := (yX10_judged, cX10_judged, 2, some .int, 6, 143)
abbrev mX10_endsOf : zM := (yX10_endsOf, cX10_endsOf, 2, some .int, 5, 122)
abbrev mX10_ends : zM := (yX10_ends, cX10_ends, 2, some .int, 6, 143)
abbrev mX10_nextOne : zM := (yX10_nextOne, cX10_nextOne, 3, some .int, 0, 0)
abbrev mX10_queues : zM := (yX10_queues, cX10_queues, 5, none, 3, 69)
abbrev mX10_queueOf : zM := (yX10_queueOf, cX10_queueOf, 3, some .int, 4, 93)
abbrev mX10_queue : zM := (yX10_queue, cX10_queue, 3, some .int, 5, 115)
abbrev mX10_needsBy : zM := (yX10_needsBy, cX10_needsBy, 5, some .int, 1, 23)
abbrev mX10_needsOf : zM := (yX10_needsOf, cX10_needsOf, 3, some .int, 3, 69)
abbrev mX10_needs : zM := (yX10_needs, cX10_needs, 2, some .int, 4, 91)
abbrev mX10_areEnough : zM := (yX10_areEnough, cX10_areEnough, 7, some .boolean, 0, 0)
abbrev mX10_fewestBy : zM := (yX10_fewestBy, cX10_fewestBy, 4, some .int, 2, 47)
abbrev mX10_fewestOf : zM := (yX10_fewestOf, cX10_fewestOf, 3, some .int, 3, 70)
abbrev mX10_fewest : zM := (yX10_fewest, cX10_fewest, 2, some .int, 4, 92)
abbrev mX10_turnOf : zM := (yX10_turnOf, cX10_turnOf, 4, some .int, 4, 92)
abbrev mX10_turn : zM := (yX10_turn, cX10_turn, 3, some .int, 5, 115)
abbrev mX10_owed : zM := (yX10_owed, cX10_owed, 3, some .int, 1, 22)
abbrev mX10_brokenNow : zM := (yX10_brokenNow, cX10_brokenNow, 7, some .int, 1, 20)
abbrev mX10_brokenOf : zM := (yX10_brokenOf, cX10_brokenOf, 7, some .int, 4, 93)
abbrev mX10_broken : zM := (yX10_broken, cX10_broken, 3, some .int, 5, 119)
abbrev mX10_isPlot : zM := (yX10_isPlot, cX10_isPlot, 2, some .boolean, 1, 22)
abbrev mX10_well : zM := (yX10_well, cX10_well, 3, some .int, 2, 43)
abbrev mX10_metOf : zM := (yX10_metOf, cX10_metOf, 6, some .int, 4, 91)
abbrev mX10_met : zM := (yX10_met, cX10_met, 2, some .int, 5, 116)
abbrev mX10_dryOf : zM := (yX10_dryOf, cX10_dryOf, 6, some .int, 5, 116)
abbrev mX10_dry : zM := (yX10_dry, cX10_dry, 2, some .int, 6, 141)
abbrev mX10_changes : zM := (yX10_changes, cX10_changes, 5, none, 0, 0)
abbrev mX10_soldOf : zM := (yX10_soldOf, cX10_soldOf, 6, some .int, 4, 92)
abbrev mX10_sold : zM := (yX10_sold, cX10_sold, 4, some .int, 5, 117)
abbrev mX10_debt : zM := (yX10_debt, cX10_debt, 4, some .int, 2, 43)
abbrev mX10_owesOf : zM := (yX10_owesOf, cX10_owesOf, 6, some .int, 4, 91)
abbrev mX10_owes : zM := (yX10_owes, cX10_owes, 3, some .int, 5, 116)
abbrev mX10_lostOf : zM := (yX10_lostOf, cX10_lostOf, 4, some .int, 1, 23)
abbrev mX10_lost : zM := (yX10_lost, cX10_lost, 2, some .int, 2, 46)
abbrev mX10_church : zM := (yX10_church, cX10_church, 5, some .int, 2, 42)
abbrev mX10_likely : zM := (yX10_likely, cX10_likely, 12, some .long, 1, 30)
abbrev mX10_stone : zM := (yX10_stone, cX10_stone, 7, some .int, 2, 42)
abbrev mX10_meets : zM := (yX10_meets, cX10_meets, 2, some .int, 0, 0)
abbrev mX10_isSheet : zM := (yX10_isSheet, cX10_isSheet, 1, some .boolean, 1, 22)
abbrev mX10_sheet : zM := (yX10_sheet, cX10_sheet, 5, some .int, 2, 42)
abbrev mX10_lose : zM := (yX10_lose, cX10_lose, 2, some .int, 2, 42)
abbrev mX10_lacks : zM := (yX10_lacks, cX10_lacks, 4, some .int, 1, 22)
abbrev mX10_keep : zM := (yX10_keep, cX10_keep, 4, none, 0, 0)
abbrev mX10_put : zM := (yX10_put, cX10_put, 6, some .int, 2, 45)
abbrev mX10_get : zM := (yX10_get, cX10_get, 5, some .int, 2, 45)
abbrev mX10_copy : zM := (yX10_copy, cX10_copy, 7, some .int, 2, 42)
abbrev mX10_write : zM := (yX10_write, cX10_write, 4, some .int, 4, 93)
abbrev mX10_movesNow : zM := (yX10_movesNow, cX10_movesNow, 2, some .int, 4, 94)
abbrev mX10_count : zM := (yX10_count, cX10_count, 2, some .int, 5, 115)
abbrev mX10_digest : zM := (yX10_digest, cX10_digest, 5, some .long, 6, 143)
abbrev mJ7_fill_d0a16 : zM := (yJ7_fill_d0a16, cJ7_fill_d0a16, 5, none, 0, 0)
abbrev mJ7_fill_53178 : zM := (yJ7_fill_53178, cJ7_fill_53178, 4, none, 0, 0)

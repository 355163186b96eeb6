/-! methods, and the words that their instructions link, each by its place in the tables -/
theorem ltb {a b : Nat} (h : Nat.ble (a + 1) b = true) : a < b := Nat.le_of_ble_eq_true h
theorem leb {a b : Nat} (h : Nat.ble a b = true) : a ≤ b := Nat.le_of_ble_eq_true h
set_option maxRecDepth 20000 in
theorem clw0 : ∀ x ∈ u_ws RX0 TX0 7, x ∈ Tb := fun x hx => by
  have e : u_ws RX0 TX0 7 = [337, 339, 341, 343, 345, 347, 349].filterMap (fun i => lw_tbl[i]?) := by decide +kernel
  have g : (u_ws RX0 TX0 7).all goodWord = true := by decide +kernel
  have hg := List.all_eq_true.mp g x hx
  rw [e] at hx
  obtain ⟨i, -, hi⟩ := List.mem_filterMap.mp hx
  exact tb_in i hi hg
theorem cls0 : Cls 0 RX0 TX0 7 := ⟨rfl, clw0, by decide, tyX0, tyX0_ok, nmX0⟩
set_option maxRecDepth 20000 in
theorem clw1 : ∀ x ∈ u_ws RX1 TX1 5, x ∈ Tb := fun x hx => by
  have e : u_ws RX1 TX1 5 = [164, 166, 168, 170, 172].filterMap (fun i => lw_tbl[i]?) := by decide +kernel
  have g : (u_ws RX1 TX1 5).all goodWord = true := by decide +kernel
  have hg := List.all_eq_true.mp g x hx
  rw [e] at hx
  obtain ⟨i, -, hi⟩ := List.mem_filterMap.mp hx
  exact tb_in i hi hg
theorem cls1 : Cls 1 RX1 TX1 5 := ⟨rfl, clw1, by decide, tyX1, tyX1_ok, nmX1⟩
set_option maxRecDepth 20000 in
theorem clw2 : ∀ x ∈ u_ws RX2 TX2 7, x ∈ Tb := fun x hx => by
  have e : u_ws RX2 TX2 7 = [203, 205, 207, 209, 211, 213, 215].filterMap (fun i => lw_tbl[i]?) := by decide +kernel
  have g : (u_ws RX2 TX2 7).all goodWord = true := by decide +kernel
  have hg := List.all_eq_true.mp g x hx
  rw [e] at hx
  obtain ⟨i, -, hi⟩ := List.mem_filterMap.mp hx
  exact tb_in i hi hg
theorem cls2 : Cls 2 RX2 TX2 7 := ⟨rfl, clw2, by decide, tyX2, tyX2_ok, nmX2⟩
set_option maxRecDepth 20000 in
theorem clw3 : ∀ x ∈ u_ws RX3 TX3 14, x ∈ Tb := fun x hx => by
  have e : u_ws RX3 TX3 14 = [246, 248, 250, 252, 254, 256, 258, 260, 262, 264, 266, 268, 270, 272].filterMap (fun i => lw_tbl[i]?) := by decide +kernel
  have g : (u_ws RX3 TX3 14).all goodWord = true := by decide +kernel
  have hg := List.all_eq_true.mp g x hx
  rw [e] at hx
  obtain ⟨i, -, hi⟩ := List.mem_filterMap.mp hx
  exact tb_in i hi hg
theorem cls3 : Cls 3 RX3 TX3 14 := ⟨rfl, clw3, by decide, tyX3, tyX3_ok, nmX3⟩
set_option maxRecDepth 20000 in
theorem clw4 : ∀ x ∈ u_ws RX4 TX4 3, x ∈ Tb := fun x hx => by
  have e : u_ws RX4 TX4 3 = [182, 184, 186].filterMap (fun i => lw_tbl[i]?) := by decide +kernel
  have g : (u_ws RX4 TX4 3).all goodWord = true := by decide +kernel
  have hg := List.all_eq_true.mp g x hx
  rw [e] at hx
  obtain ⟨i, -, hi⟩ := List.mem_filterMap.mp hx
  exact tb_in i hi hg
theorem cls4 : Cls 4 RX4 TX4 3 := ⟨rfl, clw4, by decide, tyX4, tyX4_ok, nmX4⟩
set_option maxRecDepth 20000 in
theorem clw5 : ∀ x ∈ u_ws RX5 TX5 8, x ∈ Tb := fun x hx => by
  have e : u_ws RX5 TX5 8 = [114, 116, 118, 120, 122, 124, 126, 128].filterMap (fun i => lw_tbl[i]?) := by decide +kernel
  have g : (u_ws RX5 TX5 8).all goodWord = true := by decide +kernel
  have hg := List.all_eq_true.mp g x hx
  rw [e] at hx
  obtain ⟨i, -, hi⟩ := List.mem_filterMap.mp hx
  exact tb_in i hi hg
theorem cls5 : Cls 5 RX5 TX5 8 := ⟨rfl, clw5, by decide, tyX5, tyX5_ok, nmX5⟩
set_option maxRecDepth 20000 in
theorem clw6 : ∀ x ∈ u_ws RX6 TX6 6, x ∈ Tb := fun x hx => by
  have e : u_ws RX6 TX6 6 = [292, 294, 296, 298, 300, 302].filterMap (fun i => lw_tbl[i]?) := by decide +kernel
  have g : (u_ws RX6 TX6 6).all goodWord = true := by decide +kernel
  have hg := List.all_eq_true.mp g x hx
  rw [e] at hx
  obtain ⟨i, -, hi⟩ := List.mem_filterMap.mp hx
  exact tb_in i hi hg
theorem cls6 : Cls 6 RX6 TX6 6 := ⟨rfl, clw6, by decide, tyX6, tyX6_ok, nmX6⟩
set_option maxRecDepth 20000 in
theorem clw7 : ∀ x ∈ u_ws RX7 TX7 12, x ∈ Tb := fun x hx => by
  have e : u_ws RX7 TX7 12 = [364, 366, 368, 370, 372, 374, 376, 378, 380, 382, 384, 386].filterMap (fun i => lw_tbl[i]?) := by decide +kernel
  have g : (u_ws RX7 TX7 12).all goodWord = true := by decide +kernel
  have hg := List.all_eq_true.mp g x hx
  rw [e] at hx
  obtain ⟨i, -, hi⟩ := List.mem_filterMap.mp hx
  exact tb_in i hi hg
theorem cls7 : Cls 7 RX7 TX7 12 := ⟨rfl, clw7, by decide, tyX7, tyX7_ok, nmX7⟩
set_option maxRecDepth 20000 in
theorem clw8 : ∀ x ∈ u_ws RX8 TX8 51, x ∈ Tb := fun x hx => by
  have e : u_ws RX8 TX8 51 = [907, 909, 911, 913, 915, 917, 919, 921, 923, 925, 927, 929, 931, 933, 935, 937, 939, 941, 943, 945, 947, 949, 951, 953, 955, 957, 959, 961, 963, 965, 967, 969, 971, 973, 975, 977, 979, 981, 983, 985, 987, 989, 991, 993, 995, 997, 999, 1001, 1003, 1005, 1007].filterMap (fun i => lw_tbl[i]?) := by decide +kernel
  have g : (u_ws RX8 TX8 51).all goodWord = true := by decide +kernel
  have hg := List.all_eq_true.mp g x hx
  rw [e] at hx
  obtain ⟨i, -, hi⟩ := List.mem_filterMap.mp hx
  exact tb_in i hi hg
theorem cls8 : Cls 8 RX8 TX8 51 := ⟨rfl, clw8, by decide, tyX8, tyX8_ok, nmX8⟩
theorem in_X7 : Cond.initialized RX7 ∈ Tb := tb_in 72 (by decide +kernel) rfl
theorem in_X0 : Cond.initialized RX0 ∈ Tb := tb_in 79 (by decide +kernel) rfl
theorem in_X1 : Cond.initialized RX1 ∈ Tb := tb_in 75 (by decide +kernel) rfl
theorem in_X2 : Cond.initialized RX2 ∈ Tb := tb_in 76 (by decide +kernel) rfl
theorem in_X3 : Cond.initialized RX3 ∈ Tb := tb_in 77 (by decide +kernel) rfl
theorem in_X4 : Cond.initialized RX4 ∈ Tb := tb_in 74 (by decide +kernel) rfl
theorem in_X5 : Cond.initialized RX5 ∈ Tb := tb_in 73 (by decide +kernel) rfl
theorem in_X6 : Cond.initialized RX6 ∈ Tb := tb_in 78 (by decide +kernel) rfl
theorem in_X8 : Cond.initialized RX8 ∈ Tb := tb_in 81 (by decide +kernel) rfl
theorem in_J6 : Cond.initialized RJ6 ∈ Tb := tb_in 87 (by decide +kernel) rfl
theorem in_J9 : Cond.initialized RJ9 ∈ Tb := tb_in 86 (by decide +kernel) rfl
theorem in_J0 : Cond.initialized RJ0 ∈ Tb := tb_in 82 (by decide +kernel) rfl
theorem in_J1 : Cond.initialized RJ1 ∈ Tb := tb_in 83 (by decide +kernel) rfl
theorem in_J2 : Cond.initialized RJ2 ∈ Tb := tb_in 85 (by decide +kernel) rfl
theorem in_J7 : Cond.initialized RJ7 ∈ Tb := tb_in 80 (by decide +kernel) rfl
theorem in_J3 : Cond.initialized RJ3 ∈ Tb := tb_in 84 (by decide +kernel) rfl
abbrev mX0_init : MD := (yX0_init, cX0_init, 1, none, { frames := 2, cells := 5, slots := 52, locals := 43 })
theorem cd_X0_init : Cond.code yX0_init cX0_init 1 none ∈ Tb := tb_in 309 (by decide +kernel) rfl
theorem mk_X0_init : Mk mX0_init 0 := ⟨in_X0, cd_X0_init, by decide, by decide, by decide +kernel⟩
theorem im_X0_init : Cond.instanceMethod yX0_init ∈ Tb := tb_in 308 (by decide +kernel) rfl
abbrev mX0_empty : MD := (yX0_empty, cX0_empty, 1, none, { frames := 1, cells := 0, slots := 0, locals := 23 })
theorem cd_X0_empty : Cond.code yX0_empty cX0_empty 1 none ∈ Tb := tb_in 314 (by decide +kernel) rfl
theorem mk_X0_empty : Mk mX0_empty 0 := ⟨in_X0, cd_X0_empty, by decide, by decide, by decide +kernel⟩
theorem im_X0_empty : Cond.instanceMethod yX0_empty ∈ Tb := tb_in 313 (by decide +kernel) rfl
theorem se_X0_empty : Cond.selects RX0 yX0_empty yX0_empty ∈ Tb := tb_in 0 (by decide +kernel) rfl
abbrev mX0_read : MD := (yX0_read, cX0_read, 2, (some .boolean), { frames := 4, cells := 0, slots := 0, locals := 87 })
theorem cd_X0_read : Cond.code yX0_read cX0_read 2 (some .boolean) ∈ Tb := tb_in 524 (by decide +kernel) rfl
theorem mk_X0_read : Mk mX0_read 1 := ⟨in_X0, cd_X0_read, by decide, by decide, by decide +kernel⟩
theorem im_X0_read : Cond.instanceMethod yX0_read ∈ Tb := tb_in 522 (by decide +kernel) rfl
theorem se_X0_read : Cond.selects RX0 yX0_read yX0_read ∈ Tb := tb_in 523 (by decide +kernel) rfl
abbrev mX0_readItem : MD := (yX0_readItem, cX0_readItem, 2, (some .boolean), { frames := 3, cells := 0, slots := 0, locals := 66 })
theorem cd_X0_readItem : Cond.code yX0_readItem cX0_readItem 2 (some .boolean) ∈ Tb := tb_in 529 (by decide +kernel) rfl
theorem mk_X0_readItem : Mk mX0_readItem 1 := ⟨in_X0, cd_X0_readItem, by decide, by decide, by decide +kernel⟩
theorem im_X0_readItem : Cond.instanceMethod yX0_readItem ∈ Tb := tb_in 528 (by decide +kernel) rfl
theorem se_X0_readItem : Cond.selects RX0 yX0_readItem yX0_readItem ∈ Tb := tb_in 8 (by decide +kernel) rfl
abbrev mX0_readStuff : MD := (yX0_readStuff, cX0_readStuff, 4, (some .boolean), { frames := 2, cells := 0, slots := 0, locals := 43 })
theorem cd_X0_readStuff : Cond.code yX0_readStuff cX0_readStuff 4 (some .boolean) ∈ Tb := tb_in 534 (by decide +kernel) rfl
theorem mk_X0_readStuff : Mk mX0_readStuff 1 := ⟨in_X0, cd_X0_readStuff, by decide, by decide, by decide +kernel⟩
theorem im_X0_readStuff : Cond.instanceMethod yX0_readStuff ∈ Tb := tb_in 533 (by decide +kernel) rfl
theorem se_X0_readStuff : Cond.selects RX0 yX0_readStuff yX0_readStuff ∈ Tb := tb_in 9 (by decide +kernel) rfl
abbrev mX0_readAlike : MD := (yX0_readAlike, cX0_readAlike, 3, (some .boolean), { frames := 2, cells := 0, slots := 0, locals := 42 })
theorem cd_X0_readAlike : Cond.code yX0_readAlike cX0_readAlike 3 (some .boolean) ∈ Tb := tb_in 539 (by decide +kernel) rfl
theorem mk_X0_readAlike : Mk mX0_readAlike 1 := ⟨in_X0, cd_X0_readAlike, by decide, by decide, by decide +kernel⟩
theorem im_X0_readAlike : Cond.instanceMethod yX0_readAlike ∈ Tb := tb_in 538 (by decide +kernel) rfl
theorem se_X0_readAlike : Cond.selects RX0 yX0_readAlike yX0_readAlike ∈ Tb := tb_in 10 (by decide +kernel) rfl
abbrev mX0_readBill : MD := (yX0_readBill, cX0_readBill, 2, (some .boolean), { frames := 2, cells := 0, slots := 0, locals := 43 })
theorem cd_X0_readBill : Cond.code yX0_readBill cX0_readBill 2 (some .boolean) ∈ Tb := tb_in 547 (by decide +kernel) rfl
theorem mk_X0_readBill : Mk mX0_readBill 1 := ⟨in_X0, cd_X0_readBill, by decide, by decide, by decide +kernel⟩
theorem im_X0_readBill : Cond.instanceMethod yX0_readBill ∈ Tb := tb_in 546 (by decide +kernel) rfl
theorem se_X0_readBill : Cond.selects RX0 yX0_readBill yX0_readBill ∈ Tb := tb_in 11 (by decide +kernel) rfl
abbrev mX1_init : MD := (yX1_init, cX1_init, 1, none, { frames := 1, cells := 2, slots := 20, locals := 20 })
theorem cd_X1_init : Cond.code yX1_init cX1_init 1 none ∈ Tb := tb_in 144 (by decide +kernel) rfl
theorem mk_X1_init : Mk mX1_init 0 := ⟨in_X1, cd_X1_init, by decide, by decide, by decide +kernel⟩
theorem im_X1_init : Cond.instanceMethod yX1_init ∈ Tb := tb_in 143 (by decide +kernel) rfl
abbrev mX1_read : MD := (yX1_read, cX1_read, 2, (some .boolean), { frames := 3, cells := 0, slots := 0, locals := 64 })
theorem cd_X1_read : Cond.code yX1_read cX1_read 2 (some .boolean) ∈ Tb := tb_in 495 (by decide +kernel) rfl
theorem mk_X1_read : Mk mX1_read 1 := ⟨in_X1, cd_X1_read, by decide, by decide, by decide +kernel⟩
theorem im_X1_read : Cond.instanceMethod yX1_read ∈ Tb := tb_in 493 (by decide +kernel) rfl
theorem se_X1_read : Cond.selects RX1 yX1_read yX1_read ∈ Tb := tb_in 494 (by decide +kernel) rfl
abbrev mX1_readCoats : MD := (yX1_readCoats, cX1_readCoats, 2, (some .boolean), { frames := 2, cells := 0, slots := 0, locals := 43 })
theorem cd_X1_readCoats : Cond.code yX1_readCoats cX1_readCoats 2 (some .boolean) ∈ Tb := tb_in 508 (by decide +kernel) rfl
theorem mk_X1_readCoats : Mk mX1_readCoats 1 := ⟨in_X1, cd_X1_readCoats, by decide, by decide, by decide +kernel⟩
theorem im_X1_readCoats : Cond.instanceMethod yX1_readCoats ∈ Tb := tb_in 507 (by decide +kernel) rfl
theorem se_X1_readCoats : Cond.selects RX1 yX1_readCoats yX1_readCoats ∈ Tb := tb_in 7 (by decide +kernel) rfl
abbrev mX1_copy : MD := (yX1_copy, cX1_copy, 2, none, { frames := 1, cells := 0, slots := 0, locals := 54 })
theorem cd_X1_copy : Cond.code yX1_copy cX1_copy 2 none ∈ Tb := tb_in 830 (by decide +kernel) rfl
theorem mk_X1_copy : Mk mX1_copy 1 := ⟨in_X1, cd_X1_copy, by decide, by decide, by decide +kernel⟩
theorem im_X1_copy : Cond.instanceMethod yX1_copy ∈ Tb := tb_in 828 (by decide +kernel) rfl
theorem se_X1_copy : Cond.selects RX1 yX1_copy yX1_copy ∈ Tb := tb_in 829 (by decide +kernel) rfl
abbrev mX2_init : MD := (yX2_init, cX2_init, 1, none, { frames := 1, cells := 2, slots := 242, locals := 20 })
theorem cd_X2_init : Cond.code yX2_init cX2_init 1 none ∈ Tb := tb_in 194 (by decide +kernel) rfl
theorem mk_X2_init : Mk mX2_init 0 := ⟨in_X2, cd_X2_init, by decide, by decide, by decide +kernel⟩
theorem im_X2_init : Cond.instanceMethod yX2_init ∈ Tb := tb_in 193 (by decide +kernel) rfl
abbrev mX2_lay : MD := (yX2_lay, cX2_lay, 8, none, { frames := 3, cells := 0, slots := 0, locals := 72 })
theorem cd_X2_lay : Cond.code yX2_lay cX2_lay 8 none ∈ Tb := tb_in 646 (by decide +kernel) rfl
theorem mk_X2_lay : Mk mX2_lay 5 := ⟨in_X2, cd_X2_lay, by decide, by decide, by decide +kernel⟩
theorem im_X2_lay : Cond.instanceMethod yX2_lay ∈ Tb := tb_in 644 (by decide +kernel) rfl
theorem se_X2_lay : Cond.selects RX2 yX2_lay yX2_lay ∈ Tb := tb_in 645 (by decide +kernel) rfl
abbrev mX2_leastCost : MD := (yX2_leastCost, cX2_leastCost, 1, (some .int), { frames := 0, cells := 0, slots := 0, locals := 0 })
theorem cd_X2_leastCost : Cond.code yX2_leastCost cX2_leastCost 1 (some .int) ∈ Tb := tb_in 665 (by decide +kernel) rfl
theorem mk_X2_leastCost : Mk mX2_leastCost 0 := ⟨in_X2, cd_X2_leastCost, by decide, by decide, by decide +kernel⟩
theorem im_X2_leastCost : Cond.instanceMethod yX2_leastCost ∈ Tb := tb_in 663 (by decide +kernel) rfl
theorem se_X2_leastCost : Cond.selects RX2 yX2_leastCost yX2_leastCost ∈ Tb := tb_in 664 (by decide +kernel) rfl
abbrev mX2_leastWays : MD := (yX2_leastWays, cX2_leastWays, 1, (some .long), { frames := 0, cells := 0, slots := 0, locals := 0 })
theorem cd_X2_leastWays : Cond.code yX2_leastWays cX2_leastWays 1 (some .long) ∈ Tb := tb_in 674 (by decide +kernel) rfl
theorem mk_X2_leastWays : Mk mX2_leastWays 0 := ⟨in_X2, cd_X2_leastWays, by decide, by decide, by decide +kernel⟩
theorem im_X2_leastWays : Cond.instanceMethod yX2_leastWays ∈ Tb := tb_in 672 (by decide +kernel) rfl
theorem se_X2_leastWays : Cond.selects RX2 yX2_leastWays yX2_leastWays ∈ Tb := tb_in 673 (by decide +kernel) rfl
abbrev mX2_beside : MD := (yX2_beside, cX2_beside, 5, (some .int), { frames := 3, cells := 0, slots := 0, locals := 67 })
theorem cd_X2_beside : Cond.code yX2_beside cX2_beside 5 (some .int) ∈ Tb := tb_in 682 (by decide +kernel) rfl
theorem mk_X2_beside : Mk mX2_beside 1 := ⟨in_X2, cd_X2_beside, by decide, by decide, by decide +kernel⟩
theorem im_X2_beside : Cond.instanceMethod yX2_beside ∈ Tb := tb_in 680 (by decide +kernel) rfl
theorem se_X2_beside : Cond.selects RX2 yX2_beside yX2_beside ∈ Tb := tb_in 681 (by decide +kernel) rfl
abbrev mX2_nearest : MD := (yX2_nearest, cX2_nearest, 4, (some .int), { frames := 2, cells := 0, slots := 0, locals := 44 })
theorem cd_X2_nearest : Cond.code yX2_nearest cX2_nearest 4 (some .int) ∈ Tb := tb_in 686 (by decide +kernel) rfl
theorem mk_X2_nearest : Mk mX2_nearest 2 := ⟨in_X2, cd_X2_nearest, by decide, by decide, by decide +kernel⟩
theorem im_X2_nearest : Cond.instanceMethod yX2_nearest ∈ Tb := tb_in 685 (by decide +kernel) rfl
theorem se_X2_nearest : Cond.selects RX2 yX2_nearest yX2_nearest ∈ Tb := tb_in 29 (by decide +kernel) rfl
abbrev mX2_fill : MD := (yX2_fill, cX2_fill, 9, none, { frames := 2, cells := 0, slots := 0, locals := 44 })
theorem cd_X2_fill : Cond.code yX2_fill cX2_fill 9 none ∈ Tb := tb_in 650 (by decide +kernel) rfl
theorem mk_X2_fill : Mk mX2_fill 2 := ⟨in_X2, cd_X2_fill, by decide, by decide, by decide +kernel⟩
theorem im_X2_fill : Cond.instanceMethod yX2_fill ∈ Tb := tb_in 649 (by decide +kernel) rfl
theorem se_X2_fill : Cond.selects RX2 yX2_fill yX2_fill ∈ Tb := tb_in 26 (by decide +kernel) rfl
abbrev mX2_isSame : MD := (yX2_isSame, cX2_isSame, 3, (some .boolean), { frames := 0, cells := 0, slots := 0, locals := 0 })
theorem cd_X2_isSame : Cond.code yX2_isSame cX2_isSame 3 (some .boolean) ∈ Tb := tb_in 654 (by decide +kernel) rfl
theorem mk_X2_isSame : Mk mX2_isSame 2 := ⟨in_X2, cd_X2_isSame, by decide, by decide, by decide +kernel⟩
theorem im_X2_isSame : Cond.instanceMethod yX2_isSame ∈ Tb := tb_in 653 (by decide +kernel) rfl
theorem se_X2_isSame : Cond.selects RX2 yX2_isSame yX2_isSame ∈ Tb := tb_in 27 (by decide +kernel) rfl
abbrev mX2_costBeside : MD := (yX2_costBeside, cX2_costBeside, 5, (some .int), { frames := 1, cells := 0, slots := 0, locals := 20 })
theorem cd_X2_costBeside : Cond.code yX2_costBeside cX2_costBeside 5 (some .int) ∈ Tb := tb_in 658 (by decide +kernel) rfl
theorem mk_X2_costBeside : Mk mX2_costBeside 3 := ⟨in_X2, cd_X2_costBeside, by decide, by decide, by decide +kernel⟩
theorem im_X2_costBeside : Cond.instanceMethod yX2_costBeside ∈ Tb := tb_in 657 (by decide +kernel) rfl
theorem se_X2_costBeside : Cond.selects RX2 yX2_costBeside yX2_costBeside ∈ Tb := tb_in 28 (by decide +kernel) rfl
abbrev mX3_init : MD := (yX3_init, cX3_init, 1, none, { frames := 1, cells := 10, slots := 14837, locals := 20 })
theorem cd_X3_init : Cond.code yX3_init cX3_init 1 none ∈ Tb := tb_in 223 (by decide +kernel) rfl
theorem mk_X3_init : Mk mX3_init 0 := ⟨in_X3, cd_X3_init, by decide, by decide, by decide +kernel⟩
theorem im_X3_init : Cond.instanceMethod yX3_init ∈ Tb := tb_in 222 (by decide +kernel) rfl
abbrev mX3_find : MD := (yX3_find, cX3_find, 6, none, { frames := 3, cells := 0, slots := 0, locals := 69 })
theorem cd_X3_find : Cond.code yX3_find cX3_find 6 none ∈ Tb := tb_in 583 (by decide +kernel) rfl
theorem mk_X3_find : Mk mX3_find 2 := ⟨in_X3, cd_X3_find, by decide, by decide, by decide +kernel⟩
theorem im_X3_find : Cond.instanceMethod yX3_find ∈ Tb := tb_in 581 (by decide +kernel) rfl
theorem se_X3_find : Cond.selects RX3 yX3_find yX3_find ∈ Tb := tb_in 582 (by decide +kernel) rfl
abbrev mX3_notIn : MD := (yX3_notIn, cX3_notIn, 4, (some .int), { frames := 0, cells := 0, slots := 0, locals := 0 })
theorem cd_X3_notIn : Cond.code yX3_notIn cX3_notIn 4 (some .int) ∈ Tb := tb_in 780 (by decide +kernel) rfl
theorem mk_X3_notIn : Mk mX3_notIn 1 := ⟨in_X3, cd_X3_notIn, by decide, by decide, by decide +kernel⟩
theorem im_X3_notIn : Cond.instanceMethod yX3_notIn ∈ Tb := tb_in 778 (by decide +kernel) rfl
theorem se_X3_notIn : Cond.selects RX3 yX3_notIn yX3_notIn ∈ Tb := tb_in 779 (by decide +kernel) rfl
abbrev mX3_findServing : MD := (yX3_findServing, cX3_findServing, 3, none, { frames := 1, cells := 0, slots := 0, locals := 24 })
theorem cd_X3_findServing : Cond.code yX3_findServing cX3_findServing 3 none ∈ Tb := tb_in 594 (by decide +kernel) rfl
theorem mk_X3_findServing : Mk mX3_findServing 0 := ⟨in_X3, cd_X3_findServing, by decide, by decide, by decide +kernel⟩
theorem im_X3_findServing : Cond.instanceMethod yX3_findServing ∈ Tb := tb_in 593 (by decide +kernel) rfl
theorem se_X3_findServing : Cond.selects RX3 yX3_findServing yX3_findServing ∈ Tb := tb_in 17 (by decide +kernel) rfl
abbrev mX3_fillRow : MD := (yX3_fillRow, cX3_fillRow, 10, none, { frames := 0, cells := 0, slots := 0, locals := 0 })
theorem cd_X3_fillRow : Cond.code yX3_fillRow cX3_fillRow 10 none ∈ Tb := tb_in 602 (by decide +kernel) rfl
theorem mk_X3_fillRow : Mk mX3_fillRow 2 := ⟨in_X3, cd_X3_fillRow, by decide, by decide, by decide +kernel⟩
theorem im_X3_fillRow : Cond.instanceMethod yX3_fillRow ∈ Tb := tb_in 601 (by decide +kernel) rfl
theorem se_X3_fillRow : Cond.selects RX3 yX3_fillRow yX3_fillRow ∈ Tb := tb_in 19 (by decide +kernel) rfl
abbrev mX3_walk : MD := (yX3_walk, cX3_walk, 3, none, { frames := 2, cells := 0, slots := 0, locals := 47 })
theorem cd_X3_walk : Cond.code yX3_walk cX3_walk 3 none ∈ Tb := tb_in 606 (by decide +kernel) rfl
theorem mk_X3_walk : Mk mX3_walk 0 := ⟨in_X3, cd_X3_walk, by decide, by decide, by decide +kernel⟩
theorem im_X3_walk : Cond.instanceMethod yX3_walk ∈ Tb := tb_in 605 (by decide +kernel) rfl
theorem se_X3_walk : Cond.selects RX3 yX3_walk yX3_walk ∈ Tb := tb_in 20 (by decide +kernel) rfl
abbrev mX3_firstColour : MD := (yX3_firstColour, cX3_firstColour, 4, (some .int), { frames := 1, cells := 0, slots := 0, locals := 24 })
theorem cd_X3_firstColour : Cond.code yX3_firstColour cX3_firstColour 4 (some .int) ∈ Tb := tb_in 610 (by decide +kernel) rfl
theorem mk_X3_firstColour : Mk mX3_firstColour 1 := ⟨in_X3, cd_X3_firstColour, by decide, by decide, by decide +kernel⟩
theorem im_X3_firstColour : Cond.instanceMethod yX3_firstColour ∈ Tb := tb_in 609 (by decide +kernel) rfl
theorem se_X3_firstColour : Cond.selects RX3 yX3_firstColour yX3_firstColour ∈ Tb := tb_in 21 (by decide +kernel) rfl
abbrev mX3_paint : MD := (yX3_paint, cX3_paint, 3, none, { frames := 1, cells := 0, slots := 0, locals := 21 })
theorem cd_X3_paint : Cond.code yX3_paint cX3_paint 3 none ∈ Tb := tb_in 614 (by decide +kernel) rfl
theorem mk_X3_paint : Mk mX3_paint 1 := ⟨in_X3, cd_X3_paint, by decide, by decide, by decide +kernel⟩
theorem im_X3_paint : Cond.instanceMethod yX3_paint ∈ Tb := tb_in 613 (by decide +kernel) rfl
theorem se_X3_paint : Cond.selects RX3 yX3_paint yX3_paint ∈ Tb := tb_in 22 (by decide +kernel) rfl
abbrev mX3_look : MD := (yX3_look, cX3_look, 6, none, { frames := 1, cells := 0, slots := 0, locals := 21 })
theorem cd_X3_look : Cond.code yX3_look cX3_look 6 none ∈ Tb := tb_in 587 (by decide +kernel) rfl
theorem mk_X3_look : Mk mX3_look 1 := ⟨in_X3, cd_X3_look, by decide, by decide, by decide +kernel⟩
theorem im_X3_look : Cond.instanceMethod yX3_look ∈ Tb := tb_in 586 (by decide +kernel) rfl
theorem se_X3_look : Cond.selects RX3 yX3_look yX3_look ∈ Tb := tb_in 16 (by decide +kernel) rfl
abbrev mX3_strideOf : MD := (yX3_strideOf, cX3_strideOf, 5, (some .int), { frames := 0, cells := 0, slots := 0, locals := 0 })
theorem cd_X3_strideOf : Cond.code yX3_strideOf cX3_strideOf 5 (some .int) ∈ Tb := tb_in 598 (by decide +kernel) rfl
theorem mk_X3_strideOf : Mk mX3_strideOf 2 := ⟨in_X3, cd_X3_strideOf, by decide, by decide, by decide +kernel⟩
theorem im_X3_strideOf : Cond.instanceMethod yX3_strideOf ∈ Tb := tb_in 597 (by decide +kernel) rfl
theorem se_X3_strideOf : Cond.selects RX3 yX3_strideOf yX3_strideOf ∈ Tb := tb_in 18 (by decide +kernel) rfl
abbrev mX4_init : MD := (yX4_init, cX4_init, 2, none, { frames := 2, cells := 13, slots := 104, locals := 40 })
theorem cd_X4_init : Cond.code yX4_init cX4_init 2 none ∈ Tb := tb_in 137 (by decide +kernel) rfl
theorem mk_X4_init : Mk mX4_init 0 := ⟨in_X4, cd_X4_init, by decide, by decide, by decide +kernel⟩
theorem im_X4_init : Cond.instanceMethod yX4_init ∈ Tb := tb_in 136 (by decide +kernel) rfl
abbrev mX4_takeOut : MD := (yX4_takeOut, cX4_takeOut, 4, none, { frames := 0, cells := 0, slots := 0, locals := 0 })
theorem cd_X4_takeOut : Cond.code yX4_takeOut cX4_takeOut 4 none ∈ Tb := tb_in 559 (by decide +kernel) rfl
theorem mk_X4_takeOut : Mk mX4_takeOut 1 := ⟨in_X4, cd_X4_takeOut, by decide, by decide, by decide +kernel⟩
theorem im_X4_takeOut : Cond.instanceMethod yX4_takeOut ∈ Tb := tb_in 557 (by decide +kernel) rfl
theorem se_X4_takeOut : Cond.selects RX4 yX4_takeOut yX4_takeOut ∈ Tb := tb_in 558 (by decide +kernel) rfl
abbrev mX4_copy : MD := (yX4_copy, cX4_copy, 3, none, { frames := 2, cells := 0, slots := 0, locals := 75 })
theorem cd_X4_copy : Cond.code yX4_copy cX4_copy 3 none ∈ Tb := tb_in 826 (by decide +kernel) rfl
theorem mk_X4_copy : Mk mX4_copy 1 := ⟨in_X4, cd_X4_copy, by decide, by decide, by decide +kernel⟩
theorem im_X4_copy : Cond.instanceMethod yX4_copy ∈ Tb := tb_in 824 (by decide +kernel) rfl
theorem se_X4_copy : Cond.selects RX4 yX4_copy yX4_copy ∈ Tb := tb_in 825 (by decide +kernel) rfl
abbrev mX4_coats : MD := (yX4_coats, cX4_coats, 3, (some .int), { frames := 0, cells := 0, slots := 0, locals := 0 })
theorem cd_X4_coats : Cond.code yX4_coats cX4_coats 3 (some .int) ∈ Tb := tb_in 845 (by decide +kernel) rfl
theorem mk_X4_coats : Mk mX4_coats 0 := ⟨in_X4, cd_X4_coats, by decide, by decide, by decide +kernel⟩
theorem im_X4_coats : Cond.instanceMethod yX4_coats ∈ Tb := tb_in 843 (by decide +kernel) rfl
theorem se_X4_coats : Cond.selects RX4 yX4_coats yX4_coats ∈ Tb := tb_in 844 (by decide +kernel) rfl
abbrev mX4_inRoom : MD := (yX4_inRoom, cX4_inRoom, 4, (some .int), { frames := 0, cells := 0, slots := 0, locals := 0 })
theorem cd_X4_inRoom : Cond.code yX4_inRoom cX4_inRoom 4 (some .int) ∈ Tb := tb_in 776 (by decide +kernel) rfl
theorem mk_X4_inRoom : Mk mX4_inRoom 1 := ⟨in_X4, cd_X4_inRoom, by decide, by decide, by decide +kernel⟩
theorem im_X4_inRoom : Cond.instanceMethod yX4_inRoom ∈ Tb := tb_in 774 (by decide +kernel) rfl
theorem se_X4_inRoom : Cond.selects RX4 yX4_inRoom yX4_inRoom ∈ Tb := tb_in 775 (by decide +kernel) rfl
abbrev mX5_init : MD := (yX5_init, cX5_init, 1, none, { frames := 1, cells := 4, slots := 1603, locals := 20 })
theorem cd_X5_init : Cond.code yX5_init cX5_init 1 none ∈ Tb := tb_in 101 (by decide +kernel) rfl
theorem mk_X5_init : Mk mX5_init 0 := ⟨in_X5, cd_X5_init, by decide, by decide, by decide +kernel⟩
theorem im_X5_init : Cond.instanceMethod yX5_init ∈ Tb := tb_in 100 (by decide +kernel) rfl
abbrev mX5_add : MD := (yX5_add, cX5_add, 5, (some .boolean), { frames := 0, cells := 0, slots := 0, locals := 0 })
theorem cd_X5_add : Cond.code yX5_add cX5_add 5 (some .boolean) ∈ Tb := tb_in 396 (by decide +kernel) rfl
theorem mk_X5_add : Mk mX5_add 2 := ⟨in_X5, cd_X5_add, by decide, by decide, by decide +kernel⟩
theorem im_X5_add : Cond.instanceMethod yX5_add ∈ Tb := tb_in 394 (by decide +kernel) rfl
theorem se_X5_add : Cond.selects RX5 yX5_add yX5_add ∈ Tb := tb_in 395 (by decide +kernel) rfl
abbrev mX5_split : MD := (yX5_split, cX5_split, 2, none, { frames := 9, cells := 0, slots := 0, locals := 196 })
theorem cd_X5_split : Cond.code yX5_split cX5_split 2 none ∈ Tb := tb_in 408 (by decide +kernel) rfl
theorem mk_X5_split : Mk mX5_split 0 := ⟨in_X5, cd_X5_split, by decide, by decide, by decide +kernel⟩
theorem im_X5_split : Cond.instanceMethod yX5_split ∈ Tb := tb_in 406 (by decide +kernel) rfl
theorem se_X5_split : Cond.selects RX5 yX5_split yX5_split ∈ Tb := tb_in 407 (by decide +kernel) rfl
abbrev mX5_isAt : MD := (yX5_isAt, cX5_isAt, 2, (some .boolean), { frames := 0, cells := 0, slots := 0, locals := 0 })
theorem cd_X5_isAt : Cond.code yX5_isAt cX5_isAt 2 (some .boolean) ∈ Tb := tb_in 512 (by decide +kernel) rfl
theorem mk_X5_isAt : Mk mX5_isAt 1 := ⟨in_X5, cd_X5_isAt, by decide, by decide, by decide +kernel⟩
theorem im_X5_isAt : Cond.instanceMethod yX5_isAt ∈ Tb := tb_in 510 (by decide +kernel) rfl
theorem se_X5_isAt : Cond.selects RX5 yX5_isAt yX5_isAt ∈ Tb := tb_in 511 (by decide +kernel) rfl
abbrev mX5_fault : MD := (yX5_fault, cX5_fault, 1, (some .int), { frames := 0, cells := 0, slots := 0, locals := 0 })
theorem cd_X5_fault : Cond.code yX5_fault cX5_fault 1 (some .int) ∈ Tb := tb_in 516 (by decide +kernel) rfl
theorem mk_X5_fault : Mk mX5_fault 0 := ⟨in_X5, cd_X5_fault, by decide, by decide, by decide +kernel⟩
theorem im_X5_fault : Cond.instanceMethod yX5_fault ∈ Tb := tb_in 514 (by decide +kernel) rfl
theorem se_X5_fault : Cond.selects RX5 yX5_fault yX5_fault ∈ Tb := tb_in 515 (by decide +kernel) rfl
abbrev mX5_take : MD := (yX5_take, cX5_take, 2, (some .boolean), { frames := 0, cells := 0, slots := 0, locals := 0 })
theorem cd_X5_take : Cond.code yX5_take cX5_take 2 (some .boolean) ∈ Tb := tb_in 499 (by decide +kernel) rfl
theorem mk_X5_take : Mk mX5_take 1 := ⟨in_X5, cd_X5_take, by decide, by decide, by decide +kernel⟩
theorem im_X5_take : Cond.instanceMethod yX5_take ∈ Tb := tb_in 497 (by decide +kernel) rfl
theorem se_X5_take : Cond.selects RX5 yX5_take yX5_take ∈ Tb := tb_in 498 (by decide +kernel) rfl
abbrev mX5_takeNumber : MD := (yX5_takeNumber, cX5_takeNumber, 3, (some .boolean), { frames := 1, cells := 0, slots := 0, locals := 21 })
theorem cd_X5_takeNumber : Cond.code yX5_takeNumber cX5_takeNumber 3 (some .boolean) ∈ Tb := tb_in 503 (by decide +kernel) rfl
theorem mk_X5_takeNumber : Mk mX5_takeNumber 2 := ⟨in_X5, cd_X5_takeNumber, by decide, by decide, by decide +kernel⟩
theorem im_X5_takeNumber : Cond.instanceMethod yX5_takeNumber ∈ Tb := tb_in 501 (by decide +kernel) rfl
theorem se_X5_takeNumber : Cond.selects RX5 yX5_takeNumber yX5_takeNumber ∈ Tb := tb_in 502 (by decide +kernel) rfl
abbrev mX5_takeColourBut : MD := (yX5_takeColourBut, cX5_takeColourBut, 2, (some .boolean), { frames := 1, cells := 0, slots := 0, locals := 21 })
theorem cd_X5_takeColourBut : Cond.code yX5_takeColourBut cX5_takeColourBut 2 (some .boolean) ∈ Tb := tb_in 543 (by decide +kernel) rfl
theorem mk_X5_takeColourBut : Mk mX5_takeColourBut 1 := ⟨in_X5, cd_X5_takeColourBut, by decide, by decide, by decide +kernel⟩
theorem im_X5_takeColourBut : Cond.instanceMethod yX5_takeColourBut ∈ Tb := tb_in 541 (by decide +kernel) rfl
theorem se_X5_takeColourBut : Cond.selects RX5 yX5_takeColourBut yX5_takeColourBut ∈ Tb := tb_in 542 (by decide +kernel) rfl
abbrev mX5_beginsToken : MD := (yX5_beginsToken, cX5_beginsToken, 4, (some .boolean), { frames := 1, cells := 0, slots := 0, locals := 20 })
theorem cd_X5_beginsToken : Cond.code yX5_beginsToken cX5_beginsToken 4 (some .boolean) ∈ Tb := tb_in 412 (by decide +kernel) rfl
theorem mk_X5_beginsToken : Mk mX5_beginsToken 1 := ⟨in_X5, cd_X5_beginsToken, by decide, by decide, by decide +kernel⟩
theorem im_X5_beginsToken : Cond.instanceMethod yX5_beginsToken ∈ Tb := tb_in 411 (by decide +kernel) rfl
theorem se_X5_beginsToken : Cond.selects RX5 yX5_beginsToken yX5_beginsToken ∈ Tb := tb_in 1 (by decide +kernel) rfl
abbrev mX5_readToken : MD := (yX5_readToken, cX5_readToken, 2, none, { frames := 8, cells := 0, slots := 0, locals := 175 })
theorem cd_X5_readToken : Cond.code yX5_readToken cX5_readToken 2 none ∈ Tb := tb_in 422 (by decide +kernel) rfl
theorem mk_X5_readToken : Mk mX5_readToken 1 := ⟨in_X5, cd_X5_readToken, by decide, by decide, by decide +kernel⟩
theorem im_X5_readToken : Cond.instanceMethod yX5_readToken ∈ Tb := tb_in 421 (by decide +kernel) rfl
theorem se_X5_readToken : Cond.selects RX5 yX5_readToken yX5_readToken ∈ Tb := tb_in 2 (by decide +kernel) rfl
abbrev mX5_readNumber : MD := (yX5_readNumber, cX5_readNumber, 5, none, { frames := 1, cells := 0, slots := 0, locals := 20 })
theorem cd_X5_readNumber : Cond.code yX5_readNumber cX5_readNumber 5 none ∈ Tb := tb_in 426 (by decide +kernel) rfl
theorem mk_X5_readNumber : Mk mX5_readNumber 1 := ⟨in_X5, cd_X5_readNumber, by decide, by decide, by decide +kernel⟩
theorem im_X5_readNumber : Cond.instanceMethod yX5_readNumber ∈ Tb := tb_in 425 (by decide +kernel) rfl
theorem se_X5_readNumber : Cond.selects RX5 yX5_readNumber yX5_readNumber ∈ Tb := tb_in 3 (by decide +kernel) rfl
abbrev mX5_readWord : MD := (yX5_readWord, cX5_readWord, 4, none, { frames := 7, cells := 0, slots := 0, locals := 152 })
theorem cd_X5_readWord : Cond.code yX5_readWord cX5_readWord 4 none ∈ Tb := tb_in 430 (by decide +kernel) rfl
theorem mk_X5_readWord : Mk mX5_readWord 1 := ⟨in_X5, cd_X5_readWord, by decide, by decide, by decide +kernel⟩
theorem im_X5_readWord : Cond.instanceMethod yX5_readWord ∈ Tb := tb_in 429 (by decide +kernel) rfl
theorem se_X5_readWord : Cond.selects RX5 yX5_readWord yX5_readWord ∈ Tb := tb_in 4 (by decide +kernel) rfl
abbrev mX5_kindOfWord : MD := (yX5_kindOfWord, cX5_kindOfWord, 3, (some .int), { frames := 6, cells := 0, slots := 0, locals := 130 })
theorem cd_X5_kindOfWord : Cond.code yX5_kindOfWord cX5_kindOfWord 3 (some .int) ∈ Tb := tb_in 434 (by decide +kernel) rfl
theorem mk_X5_kindOfWord : Mk mX5_kindOfWord 2 := ⟨in_X5, cd_X5_kindOfWord, by decide, by decide, by decide +kernel⟩
theorem im_X5_kindOfWord : Cond.instanceMethod yX5_kindOfWord ∈ Tb := tb_in 433 (by decide +kernel) rfl
theorem se_X5_kindOfWord : Cond.selects RX5 yX5_kindOfWord yX5_kindOfWord ∈ Tb := tb_in 5 (by decide +kernel) rfl
abbrev mX5_isWord : MD := (yX5_isWord, cX5_isWord, 5, (some .boolean), { frames := 5, cells := 0, slots := 0, locals := 106 })
theorem cd_X5_isWord : Cond.code yX5_isWord cX5_isWord 5 (some .boolean) ∈ Tb := tb_in 439 (by decide +kernel) rfl
theorem mk_X5_isWord : Mk mX5_isWord 3 := ⟨in_X5, cd_X5_isWord, by decide, by decide, by decide +kernel⟩
theorem im_X5_isWord : Cond.instanceMethod yX5_isWord ∈ Tb := tb_in 438 (by decide +kernel) rfl
theorem se_X5_isWord : Cond.selects RX5 yX5_isWord yX5_isWord ∈ Tb := tb_in 6 (by decide +kernel) rfl
abbrev mX5_isDigit : MD := (yX5_isDigit, cX5_isDigit, 1, (some .boolean), { frames := 0, cells := 0, slots := 0, locals := 0 })
theorem cd_X5_isDigit : Cond.code yX5_isDigit cX5_isDigit 1 (some .boolean) ∈ Tb := tb_in 418 (by decide +kernel) rfl
theorem mk_X5_isDigit : Mk mX5_isDigit 1 := ⟨in_X5, cd_X5_isDigit, by decide, by decide, by decide +kernel⟩
theorem sm_X5_isDigit : Cond.static yX5_isDigit ∈ Tb := tb_in 417 (by decide +kernel) rfl
abbrev mX5_isLetter : MD := (yX5_isLetter, cX5_isLetter, 1, (some .boolean), { frames := 0, cells := 0, slots := 0, locals := 0 })
theorem cd_X5_isLetter : Cond.code yX5_isLetter cX5_isLetter 1 (some .boolean) ∈ Tb := tb_in 415 (by decide +kernel) rfl
theorem mk_X5_isLetter : Mk mX5_isLetter 1 := ⟨in_X5, cd_X5_isLetter, by decide, by decide, by decide +kernel⟩
theorem sm_X5_isLetter : Cond.static yX5_isLetter ∈ Tb := tb_in 414 (by decide +kernel) rfl
abbrev mX6_init : MD := (yX6_init, cX6_init, 1, none, { frames := 1, cells := 4, slots := 489, locals := 20 })
theorem cd_X6_init : Cond.code yX6_init cX6_init 1 none ∈ Tb := tb_in 279 (by decide +kernel) rfl
theorem mk_X6_init : Mk mX6_init 0 := ⟨in_X6, cd_X6_init, by decide, by decide, by decide +kernel⟩
theorem im_X6_init : Cond.instanceMethod yX6_init ∈ Tb := tb_in 278 (by decide +kernel) rfl
abbrev mX6_find : MD := (yX6_find, cX6_find, 8, none, { frames := 1, cells := 0, slots := 0, locals := 21 })
theorem cd_X6_find : Cond.code yX6_find cX6_find 8 none ∈ Tb := tb_in 722 (by decide +kernel) rfl
theorem mk_X6_find : Mk mX6_find 3 := ⟨in_X6, cd_X6_find, by decide, by decide, by decide +kernel⟩
theorem im_X6_find : Cond.instanceMethod yX6_find ∈ Tb := tb_in 720 (by decide +kernel) rfl
theorem se_X6_find : Cond.selects RX6 yX6_find yX6_find ∈ Tb := tb_in 721 (by decide +kernel) rfl
abbrev mX6_match : MD := (yX6_match, cX6_match, 6, none, { frames := 2, cells := 0, slots := 0, locals := 53 })
theorem cd_X6_match : Cond.code yX6_match cX6_match 6 none ∈ Tb := tb_in 746 (by decide +kernel) rfl
theorem mk_X6_match : Mk mX6_match 2 := ⟨in_X6, cd_X6_match, by decide, by decide, by decide +kernel⟩
theorem im_X6_match : Cond.instanceMethod yX6_match ∈ Tb := tb_in 744 (by decide +kernel) rfl
theorem se_X6_match : Cond.selects RX6 yX6_match yX6_match ∈ Tb := tb_in 745 (by decide +kernel) rfl
abbrev mX6_mostFrom : MD := (yX6_mostFrom, cX6_mostFrom, 7, (some .int), { frames := 1, cells := 0, slots := 0, locals := 27 })
theorem cd_X6_mostFrom : Cond.code yX6_mostFrom cX6_mostFrom 7 (some .int) ∈ Tb := tb_in 750 (by decide +kernel) rfl
theorem mk_X6_mostFrom : Mk mX6_mostFrom 4 := ⟨in_X6, cd_X6_mostFrom, by decide, by decide, by decide +kernel⟩
theorem im_X6_mostFrom : Cond.instanceMethod yX6_mostFrom ∈ Tb := tb_in 749 (by decide +kernel) rfl
theorem se_X6_mostFrom : Cond.selects RX6 yX6_mostFrom yX6_mostFrom ∈ Tb := tb_in 35 (by decide +kernel) rfl
abbrev mX6_leastBill : MD := (yX6_leastBill, cX6_leastBill, 7, (some .int), { frames := 1, cells := 0, slots := 0, locals := 27 })
theorem cd_X6_leastBill : Cond.code yX6_leastBill cX6_leastBill 7 (some .int) ∈ Tb := tb_in 758 (by decide +kernel) rfl
theorem mk_X6_leastBill : Mk mX6_leastBill 4 := ⟨in_X6, cd_X6_leastBill, by decide, by decide, by decide +kernel⟩
theorem im_X6_leastBill : Cond.instanceMethod yX6_leastBill ∈ Tb := tb_in 757 (by decide +kernel) rfl
theorem se_X6_leastBill : Cond.selects RX6 yX6_leastBill yX6_leastBill ∈ Tb := tb_in 37 (by decide +kernel) rfl
abbrev mX6_fits : MD := (yX6_fits, cX6_fits, 8, (some .boolean), { frames := 0, cells := 0, slots := 0, locals := 0 })
theorem cd_X6_fits : Cond.code yX6_fits cX6_fits 8 (some .boolean) ∈ Tb := tb_in 754 (by decide +kernel) rfl
theorem mk_X6_fits : Mk mX6_fits 5 := ⟨in_X6, cd_X6_fits, by decide, by decide, by decide +kernel⟩
theorem im_X6_fits : Cond.instanceMethod yX6_fits ∈ Tb := tb_in 753 (by decide +kernel) rfl
theorem se_X6_fits : Cond.selects RX6 yX6_fits yX6_fits ∈ Tb := tb_in 36 (by decide +kernel) rfl
abbrev mX7_init : MD := (yX7_init, cX7_init, 2, none, { frames := 3, cells := 81, slots := 17664, locals := 63 })
theorem cd_X7_init : Cond.code yX7_init cX7_init 2 none ∈ Tb := tb_in 93 (by decide +kernel) rfl
theorem mk_X7_init : Mk mX7_init 0 := ⟨in_X7, cd_X7_init, by decide, by decide, by decide +kernel⟩
theorem im_X7_init : Cond.instanceMethod yX7_init ∈ Tb := tb_in 92 (by decide +kernel) rfl
abbrev mX7_type : MD := (yX7_type, cX7_type, 4, (some .int), { frames := 1, cells := 0, slots := 0, locals := 24 })
theorem cd_X7_type : Cond.code yX7_type cX7_type 4 (some .int) ∈ Tb := tb_in 392 (by decide +kernel) rfl
theorem mk_X7_type : Mk mX7_type 2 := ⟨in_X7, cd_X7_type, by decide, by decide, by decide +kernel⟩
theorem im_X7_type : Cond.instanceMethod yX7_type ∈ Tb := tb_in 390 (by decide +kernel) rfl
theorem se_X7_type : Cond.selects RX7 yX7_type yX7_type ∈ Tb := tb_in 391 (by decide +kernel) rfl
abbrev mX7_clear : MD := (yX7_clear, cX7_clear, 2, (some .int), { frames := 0, cells := 0, slots := 0, locals := 0 })
theorem cd_X7_clear : Cond.code yX7_clear cX7_clear 2 (some .int) ∈ Tb := tb_in 400 (by decide +kernel) rfl
theorem mk_X7_clear : Mk mX7_clear 0 := ⟨in_X7, cd_X7_clear, by decide, by decide, by decide +kernel⟩
theorem im_X7_clear : Cond.instanceMethod yX7_clear ∈ Tb := tb_in 398 (by decide +kernel) rfl
theorem se_X7_clear : Cond.selects RX7 yX7_clear yX7_clear ∈ Tb := tb_in 399 (by decide +kernel) rfl
abbrev mX7_chip : MD := (yX7_chip, cX7_chip, 1, (some .int), { frames := 10, cells := 0, slots := 0, locals := 217 })
theorem cd_X7_chip : Cond.code yX7_chip cX7_chip 1 (some .int) ∈ Tb := tb_in 404 (by decide +kernel) rfl
theorem mk_X7_chip : Mk mX7_chip 0 := ⟨in_X7, cd_X7_chip, by decide, by decide, by decide +kernel⟩
theorem im_X7_chip : Cond.instanceMethod yX7_chip ∈ Tb := tb_in 402 (by decide +kernel) rfl
theorem se_X7_chip : Cond.selects RX7 yX7_chip yX7_chip ∈ Tb := tb_in 403 (by decide +kernel) rfl
abbrev mX7_book : MD := (yX7_book, cX7_book, 2, (some .int), { frames := 10, cells := 0, slots := 0, locals := 217 })
theorem cd_X7_book : Cond.code yX7_book cX7_book 2 (some .int) ∈ Tb := tb_in 520 (by decide +kernel) rfl
theorem mk_X7_book : Mk mX7_book 0 := ⟨in_X7, cd_X7_book, by decide, by decide, by decide +kernel⟩
theorem im_X7_book : Cond.instanceMethod yX7_book ∈ Tb := tb_in 518 (by decide +kernel) rfl
theorem se_X7_book : Cond.selects RX7 yX7_book yX7_book ∈ Tb := tb_in 519 (by decide +kernel) rfl
abbrev mX7_drop : MD := (yX7_drop, cX7_drop, 2, (some .int), { frames := 1, cells := 0, slots := 0, locals := 23 })
theorem cd_X7_drop : Cond.code yX7_drop cX7_drop 2 (some .int) ∈ Tb := tb_in 551 (by decide +kernel) rfl
theorem mk_X7_drop : Mk mX7_drop 1 := ⟨in_X7, cd_X7_drop, by decide, by decide, by decide +kernel⟩
theorem im_X7_drop : Cond.instanceMethod yX7_drop ∈ Tb := tb_in 549 (by decide +kernel) rfl
theorem se_X7_drop : Cond.selects RX7 yX7_drop yX7_drop ∈ Tb := tb_in 550 (by decide +kernel) rfl
abbrev mX7_about : MD := (yX7_about, cX7_about, 4, (some .int), { frames := 1, cells := 0, slots := 0, locals := 21 })
theorem cd_X7_about : Cond.code yX7_about cX7_about 4 (some .int) ∈ Tb := tb_in 563 (by decide +kernel) rfl
theorem mk_X7_about : Mk mX7_about 2 := ⟨in_X7, cd_X7_about, by decide, by decide, by decide +kernel⟩
theorem im_X7_about : Cond.instanceMethod yX7_about ∈ Tb := tb_in 561 (by decide +kernel) rfl
theorem se_X7_about : Cond.selects RX7 yX7_about yX7_about ∈ Tb := tb_in 562 (by decide +kernel) rfl
abbrev mX7_coat : MD := (yX7_coat, cX7_coat, 4, (some .int), { frames := 5, cells := 0, slots := 0, locals := 114 })
theorem cd_X7_coat : Cond.code yX7_coat cX7_coat 4 (some .int) ∈ Tb := tb_in 567 (by decide +kernel) rfl
theorem mk_X7_coat : Mk mX7_coat 3 := ⟨in_X7, cd_X7_coat, by decide, by decide, by decide +kernel⟩
theorem im_X7_coat : Cond.instanceMethod yX7_coat ∈ Tb := tb_in 565 (by decide +kernel) rfl
theorem se_X7_coat : Cond.selects RX7 yX7_coat yX7_coat ∈ Tb := tb_in 566 (by decide +kernel) rfl
abbrev mX7_colour : MD := (yX7_colour, cX7_colour, 3, (some .int), { frames := 0, cells := 0, slots := 0, locals := 0 })
theorem cd_X7_colour : Cond.code yX7_colour cX7_colour 3 (some .int) ∈ Tb := tb_in 622 (by decide +kernel) rfl
theorem mk_X7_colour : Mk mX7_colour 2 := ⟨in_X7, cd_X7_colour, by decide, by decide, by decide +kernel⟩
theorem im_X7_colour : Cond.instanceMethod yX7_colour ∈ Tb := tb_in 620 (by decide +kernel) rfl
theorem se_X7_colour : Cond.selects RX7 yX7_colour yX7_colour ∈ Tb := tb_in 621 (by decide +kernel) rfl
abbrev mX7_tune : MD := (yX7_tune, cX7_tune, 4, (some .int), { frames := 0, cells := 0, slots := 0, locals := 0 })
theorem cd_X7_tune : Cond.code yX7_tune cX7_tune 4 (some .int) ∈ Tb := tb_in 626 (by decide +kernel) rfl
theorem mk_X7_tune : Mk mX7_tune 2 := ⟨in_X7, cd_X7_tune, by decide, by decide, by decide +kernel⟩
theorem im_X7_tune : Cond.instanceMethod yX7_tune ∈ Tb := tb_in 624 (by decide +kernel) rfl
theorem se_X7_tune : Cond.selects RX7 yX7_tune yX7_tune ∈ Tb := tb_in 625 (by decide +kernel) rfl
abbrev mX7_least : MD := (yX7_least, cX7_least, 3, (some .int), { frames := 5, cells := 0, slots := 0, locals := 121 })
theorem cd_X7_least : Cond.code yX7_least cX7_least 3 (some .int) ∈ Tb := tb_in 634 (by decide +kernel) rfl
theorem mk_X7_least : Mk mX7_least 2 := ⟨in_X7, cd_X7_least, by decide, by decide, by decide +kernel⟩
theorem im_X7_least : Cond.instanceMethod yX7_least ∈ Tb := tb_in 632 (by decide +kernel) rfl
theorem se_X7_least : Cond.selects RX7 yX7_least yX7_least ∈ Tb := tb_in 633 (by decide +kernel) rfl
abbrev mX7_ways : MD := (yX7_ways, cX7_ways, 3, (some .long), { frames := 5, cells := 0, slots := 0, locals := 121 })
theorem cd_X7_ways : Cond.code yX7_ways cX7_ways 3 (some .long) ∈ Tb := tb_in 669 (by decide +kernel) rfl
theorem mk_X7_ways : Mk mX7_ways 2 := ⟨in_X7, cd_X7_ways, by decide, by decide, by decide +kernel⟩
theorem im_X7_ways : Cond.instanceMethod yX7_ways ∈ Tb := tb_in 667 (by decide +kernel) rfl
theorem se_X7_ways : Cond.selects RX7 yX7_ways yX7_ways ∈ Tb := tb_in 668 (by decide +kernel) rfl
abbrev mX7_laid : MD := (yX7_laid, cX7_laid, 4, (some .int), { frames := 5, cells := 0, slots := 0, locals := 121 })
theorem cd_X7_laid : Cond.code yX7_laid cX7_laid 4 (some .int) ∈ Tb := tb_in 678 (by decide +kernel) rfl
theorem mk_X7_laid : Mk mX7_laid 3 := ⟨in_X7, cd_X7_laid, by decide, by decide, by decide +kernel⟩
theorem im_X7_laid : Cond.instanceMethod yX7_laid ∈ Tb := tb_in 676 (by decide +kernel) rfl
theorem se_X7_laid : Cond.selects RX7 yX7_laid yX7_laid ∈ Tb := tb_in 677 (by decide +kernel) rfl
abbrev mX7_painting : MD := (yX7_painting, cX7_painting, 2, (some .int), { frames := 5, cells := 0, slots := 0, locals := 114 })
theorem cd_X7_painting : Cond.code yX7_painting cX7_painting 2 (some .int) ∈ Tb := tb_in 690 (by decide +kernel) rfl
theorem mk_X7_painting : Mk mX7_painting 1 := ⟨in_X7, cd_X7_painting, by decide, by decide, by decide +kernel⟩
theorem im_X7_painting : Cond.instanceMethod yX7_painting ∈ Tb := tb_in 688 (by decide +kernel) rfl
theorem se_X7_painting : Cond.selects RX7 yX7_painting yX7_painting ∈ Tb := tb_in 689 (by decide +kernel) rfl
abbrev mX7_had : MD := (yX7_had, cX7_had, 2, (some .int), { frames := 5, cells := 0, slots := 0, locals := 114 })
theorem cd_X7_had : Cond.code yX7_had cX7_had 2 (some .int) ∈ Tb := tb_in 698 (by decide +kernel) rfl
theorem mk_X7_had : Mk mX7_had 1 := ⟨in_X7, cd_X7_had, by decide, by decide, by decide +kernel⟩
theorem im_X7_had : Cond.instanceMethod yX7_had ∈ Tb := tb_in 696 (by decide +kernel) rfl
theorem se_X7_had : Cond.selects RX7 yX7_had yX7_had ∈ Tb := tb_in 697 (by decide +kernel) rfl
abbrev mX7_face : MD := (yX7_face, cX7_face, 3, (some .int), { frames := 6, cells := 0, slots := 0, locals := 148 })
theorem cd_X7_face : Cond.code yX7_face cX7_face 3 (some .int) ∈ Tb := tb_in 702 (by decide +kernel) rfl
theorem mk_X7_face : Mk mX7_face 2 := ⟨in_X7, cd_X7_face, by decide, by decide, by decide +kernel⟩
theorem im_X7_face : Cond.instanceMethod yX7_face ∈ Tb := tb_in 700 (by decide +kernel) rfl
theorem se_X7_face : Cond.selects RX7 yX7_face yX7_face ∈ Tb := tb_in 701 (by decide +kernel) rfl
abbrev mX7_span : MD := (yX7_span, cX7_span, 3, (some .int), { frames := 5, cells := 0, slots := 0, locals := 114 })
theorem cd_X7_span : Cond.code yX7_span cX7_span 3 (some .int) ∈ Tb := tb_in 718 (by decide +kernel) rfl
theorem mk_X7_span : Mk mX7_span 2 := ⟨in_X7, cd_X7_span, by decide, by decide, by decide +kernel⟩
theorem im_X7_span : Cond.instanceMethod yX7_span ∈ Tb := tb_in 716 (by decide +kernel) rfl
theorem se_X7_span : Cond.selects RX7 yX7_span yX7_span ∈ Tb := tb_in 717 (by decide +kernel) rfl
abbrev mX7_day : MD := (yX7_day, cX7_day, 3, (some .int), { frames := 5, cells := 0, slots := 0, locals := 114 })
theorem cd_X7_day : Cond.code yX7_day cX7_day 3 (some .int) ∈ Tb := tb_in 730 (by decide +kernel) rfl
theorem mk_X7_day : Mk mX7_day 2 := ⟨in_X7, cd_X7_day, by decide, by decide, by decide +kernel⟩
theorem im_X7_day : Cond.instanceMethod yX7_day ∈ Tb := tb_in 728 (by decide +kernel) rfl
theorem se_X7_day : Cond.selects RX7 yX7_day yX7_day ∈ Tb := tb_in 729 (by decide +kernel) rfl
abbrev mX7_bill : MD := (yX7_bill, cX7_bill, 3, (some .int), { frames := 0, cells := 0, slots := 0, locals := 0 })
theorem cd_X7_bill : Cond.code yX7_bill cX7_bill 3 (some .int) ∈ Tb := tb_in 738 (by decide +kernel) rfl
theorem mk_X7_bill : Mk mX7_bill 2 := ⟨in_X7, cd_X7_bill, by decide, by decide, by decide +kernel⟩
theorem im_X7_bill : Cond.instanceMethod yX7_bill ∈ Tb := tb_in 736 (by decide +kernel) rfl
theorem se_X7_bill : Cond.selects RX7 yX7_bill yX7_bill ∈ Tb := tb_in 737 (by decide +kernel) rfl
abbrev mX7_billed : MD := (yX7_billed, cX7_billed, 2, (some .int), { frames := 5, cells := 0, slots := 0, locals := 114 })
theorem cd_X7_billed : Cond.code yX7_billed cX7_billed 2 (some .int) ∈ Tb := tb_in 742 (by decide +kernel) rfl
theorem mk_X7_billed : Mk mX7_billed 1 := ⟨in_X7, cd_X7_billed, by decide, by decide, by decide +kernel⟩
theorem im_X7_billed : Cond.instanceMethod yX7_billed ∈ Tb := tb_in 740 (by decide +kernel) rfl
theorem se_X7_billed : Cond.selects RX7 yX7_billed yX7_billed ∈ Tb := tb_in 741 (by decide +kernel) rfl
abbrev mX7_enough : MD := (yX7_enough, cX7_enough, 10, (some .int), { frames := 1, cells := 0, slots := 0, locals := 25 })
theorem cd_X7_enough : Cond.code yX7_enough cX7_enough 10 (some .int) ∈ Tb := tb_in 762 (by decide +kernel) rfl
theorem mk_X7_enough : Mk mX7_enough 2 := ⟨in_X7, cd_X7_enough, by decide, by decide, by decide +kernel⟩
theorem im_X7_enough : Cond.instanceMethod yX7_enough ∈ Tb := tb_in 760 (by decide +kernel) rfl
theorem se_X7_enough : Cond.selects RX7 yX7_enough yX7_enough ∈ Tb := tb_in 761 (by decide +kernel) rfl
abbrev mX7_next : MD := (yX7_next, cX7_next, 6, (some .int), { frames := 5, cells := 0, slots := 0, locals := 114 })
theorem cd_X7_next : Cond.code yX7_next cX7_next 6 (some .int) ∈ Tb := tb_in 772 (by decide +kernel) rfl
theorem mk_X7_next : Mk mX7_next 0 := ⟨in_X7, cd_X7_next, by decide, by decide, by decide +kernel⟩
theorem im_X7_next : Cond.instanceMethod yX7_next ∈ Tb := tb_in 770 (by decide +kernel) rfl
theorem se_X7_next : Cond.selects RX7 yX7_next yX7_next ∈ Tb := tb_in 771 (by decide +kernel) rfl
abbrev mX7_rank : MD := (yX7_rank, cX7_rank, 4, (some .int), { frames := 5, cells := 0, slots := 0, locals := 114 })
theorem cd_X7_rank : Cond.code yX7_rank cX7_rank 4 (some .int) ∈ Tb := tb_in 784 (by decide +kernel) rfl
theorem mk_X7_rank : Mk mX7_rank 3 := ⟨in_X7, cd_X7_rank, by decide, by decide, by decide +kernel⟩
theorem im_X7_rank : Cond.instanceMethod yX7_rank ∈ Tb := tb_in 782 (by decide +kernel) rfl
theorem se_X7_rank : Cond.selects RX7 yX7_rank yX7_rank ∈ Tb := tb_in 783 (by decide +kernel) rfl
abbrev mX7_keep : MD := (yX7_keep, cX7_keep, 2, (some .int), { frames := 3, cells := 0, slots := 0, locals := 97 })
theorem cd_X7_keep : Cond.code yX7_keep cX7_keep 2 (some .int) ∈ Tb := tb_in 822 (by decide +kernel) rfl
theorem mk_X7_keep : Mk mX7_keep 1 := ⟨in_X7, cd_X7_keep, by decide, by decide, by decide +kernel⟩
theorem im_X7_keep : Cond.instanceMethod yX7_keep ∈ Tb := tb_in 820 (by decide +kernel) rfl
theorem se_X7_keep : Cond.selects RX7 yX7_keep yX7_keep ∈ Tb := tb_in 821 (by decide +kernel) rfl
abbrev mX7_back : MD := (yX7_back, cX7_back, 2, (some .int), { frames := 3, cells := 0, slots := 0, locals := 97 })
theorem cd_X7_back : Cond.code yX7_back cX7_back 2 (some .int) ∈ Tb := tb_in 837 (by decide +kernel) rfl
theorem mk_X7_back : Mk mX7_back 1 := ⟨in_X7, cd_X7_back, by decide, by decide, by decide +kernel⟩
theorem im_X7_back : Cond.instanceMethod yX7_back ∈ Tb := tb_in 835 (by decide +kernel) rfl
theorem se_X7_back : Cond.selects RX7 yX7_back yX7_back ∈ Tb := tb_in 836 (by decide +kernel) rfl
abbrev mX7_count : MD := (yX7_count, cX7_count, 2, (some .int), { frames := 1, cells := 0, slots := 0, locals := 22 })
theorem cd_X7_count : Cond.code yX7_count cX7_count 2 (some .int) ∈ Tb := tb_in 841 (by decide +kernel) rfl
theorem mk_X7_count : Mk mX7_count 1 := ⟨in_X7, cd_X7_count, by decide, by decide, by decide +kernel⟩
theorem im_X7_count : Cond.instanceMethod yX7_count ∈ Tb := tb_in 839 (by decide +kernel) rfl
theorem se_X7_count : Cond.selects RX7 yX7_count yX7_count ∈ Tb := tb_in 840 (by decide +kernel) rfl
abbrev mX7_trace : MD := (yX7_trace, cX7_trace, 1, (some .long), { frames := 0, cells := 0, slots := 0, locals := 0 })
theorem cd_X7_trace : Cond.code yX7_trace cX7_trace 1 (some .long) ∈ Tb := tb_in 849 (by decide +kernel) rfl
theorem mk_X7_trace : Mk mX7_trace 0 := ⟨in_X7, cd_X7_trace, by decide, by decide, by decide +kernel⟩
theorem im_X7_trace : Cond.instanceMethod yX7_trace ∈ Tb := tb_in 847 (by decide +kernel) rfl
theorem se_X7_trace : Cond.selects RX7 yX7_trace yX7_trace ∈ Tb := tb_in 848 (by decide +kernel) rfl
abbrev mX7_isChip : MD := (yX7_isChip, cX7_isChip, 2, (some .boolean), { frames := 0, cells := 0, slots := 0, locals := 0 })
theorem cd_X7_isChip : Cond.code yX7_isChip cX7_isChip 2 (some .boolean) ∈ Tb := tb_in 555 (by decide +kernel) rfl
theorem mk_X7_isChip : Mk mX7_isChip 1 := ⟨in_X7, cd_X7_isChip, by decide, by decide, by decide +kernel⟩
theorem im_X7_isChip : Cond.instanceMethod yX7_isChip ∈ Tb := tb_in 554 (by decide +kernel) rfl
theorem se_X7_isChip : Cond.selects RX7 yX7_isChip yX7_isChip ∈ Tb := tb_in 12 (by decide +kernel) rfl
abbrev mX7_isCoat : MD := (yX7_isCoat, cX7_isCoat, 3, (some .boolean), { frames := 1, cells := 0, slots := 0, locals := 21 })
theorem cd_X7_isCoat : Cond.code yX7_isCoat cX7_isCoat 3 (some .boolean) ∈ Tb := tb_in 571 (by decide +kernel) rfl
theorem mk_X7_isCoat : Mk mX7_isCoat 2 := ⟨in_X7, cd_X7_isCoat, by decide, by decide, by decide +kernel⟩
theorem im_X7_isCoat : Cond.instanceMethod yX7_isCoat ∈ Tb := tb_in 570 (by decide +kernel) rfl
theorem se_X7_isCoat : Cond.selects RX7 yX7_isCoat yX7_isCoat ∈ Tb := tb_in 13 (by decide +kernel) rfl
abbrev mX7_areTwo : MD := (yX7_areTwo, cX7_areTwo, 3, (some .boolean), { frames := 1, cells := 0, slots := 0, locals := 21 })
theorem cd_X7_areTwo : Cond.code yX7_areTwo cX7_areTwo 3 (some .boolean) ∈ Tb := tb_in 638 (by decide +kernel) rfl
theorem mk_X7_areTwo : Mk mX7_areTwo 2 := ⟨in_X7, cd_X7_areTwo, by decide, by decide, by decide +kernel⟩
theorem im_X7_areTwo : Cond.instanceMethod yX7_areTwo ∈ Tb := tb_in 637 (by decide +kernel) rfl
theorem se_X7_areTwo : Cond.selects RX7 yX7_areTwo yX7_areTwo ∈ Tb := tb_in 24 (by decide +kernel) rfl
abbrev mX7_isPainting : MD := (yX7_isPainting, cX7_isPainting, 2, (some .boolean), { frames := 0, cells := 0, slots := 0, locals := 0 })
theorem cd_X7_isPainting : Cond.code yX7_isPainting cX7_isPainting 2 (some .boolean) ∈ Tb := tb_in 694 (by decide +kernel) rfl
theorem mk_X7_isPainting : Mk mX7_isPainting 1 := ⟨in_X7, cd_X7_isPainting, by decide, by decide, by decide +kernel⟩
theorem im_X7_isPainting : Cond.instanceMethod yX7_isPainting ∈ Tb := tb_in 693 (by decide +kernel) rfl
theorem se_X7_isPainting : Cond.selects RX7 yX7_isPainting yX7_isPainting ∈ Tb := tb_in 30 (by decide +kernel) rfl
abbrev mX7_findSame : MD := (yX7_findSame, cX7_findSame, 2, none, { frames := 0, cells := 0, slots := 0, locals := 0 })
theorem cd_X7_findSame : Cond.code yX7_findSame cX7_findSame 2 none ∈ Tb := tb_in 579 (by decide +kernel) rfl
theorem mk_X7_findSame : Mk mX7_findSame 0 := ⟨in_X7, cd_X7_findSame, by decide, by decide, by decide +kernel⟩
theorem im_X7_findSame : Cond.instanceMethod yX7_findSame ∈ Tb := tb_in 578 (by decide +kernel) rfl
theorem se_X7_findSame : Cond.selects RX7 yX7_findSame yX7_findSame ∈ Tb := tb_in 15 (by decide +kernel) rfl
abbrev mX7_lay : MD := (yX7_lay, cX7_lay, 3, none, { frames := 4, cells := 0, slots := 0, locals := 99 })
theorem cd_X7_lay : Cond.code yX7_lay cX7_lay 3 none ∈ Tb := tb_in 642 (by decide +kernel) rfl
theorem mk_X7_lay : Mk mX7_lay 2 := ⟨in_X7, cd_X7_lay, by decide, by decide, by decide +kernel⟩
theorem im_X7_lay : Cond.instanceMethod yX7_lay ∈ Tb := tb_in 641 (by decide +kernel) rfl
theorem se_X7_lay : Cond.selects RX7 yX7_lay yX7_lay ∈ Tb := tb_in 25 (by decide +kernel) rfl
abbrev mX7_settle : MD := (yX7_settle, cX7_settle, 1, none, { frames := 4, cells := 0, slots := 0, locals := 94 })
theorem cd_X7_settle : Cond.code yX7_settle cX7_settle 1 none ∈ Tb := tb_in 575 (by decide +kernel) rfl
theorem mk_X7_settle : Mk mX7_settle 0 := ⟨in_X7, cd_X7_settle, by decide, by decide, by decide +kernel⟩
theorem im_X7_settle : Cond.instanceMethod yX7_settle ∈ Tb := tb_in 574 (by decide +kernel) rfl
theorem se_X7_settle : Cond.selects RX7 yX7_settle yX7_settle ∈ Tb := tb_in 14 (by decide +kernel) rfl
abbrev mX7_paintingOf : MD := (yX7_paintingOf, cX7_paintingOf, 3, (some .int), { frames := 0, cells := 0, slots := 0, locals := 0 })
theorem cd_X7_paintingOf : Cond.code yX7_paintingOf cX7_paintingOf 3 (some .int) ∈ Tb := tb_in 618 (by decide +kernel) rfl
theorem mk_X7_paintingOf : Mk mX7_paintingOf 2 := ⟨in_X7, cd_X7_paintingOf, by decide, by decide, by decide +kernel⟩
theorem im_X7_paintingOf : Cond.instanceMethod yX7_paintingOf ∈ Tb := tb_in 617 (by decide +kernel) rfl
theorem se_X7_paintingOf : Cond.selects RX7 yX7_paintingOf yX7_paintingOf ∈ Tb := tb_in 23 (by decide +kernel) rfl
abbrev mX7_missedBy : MD := (yX7_missedBy, cX7_missedBy, 3, (some .int), { frames := 1, cells := 0, slots := 0, locals := 22 })
theorem cd_X7_missedBy : Cond.code yX7_missedBy cX7_missedBy 3 (some .int) ∈ Tb := tb_in 706 (by decide +kernel) rfl
theorem mk_X7_missedBy : Mk mX7_missedBy 1 := ⟨in_X7, cd_X7_missedBy, by decide, by decide, by decide +kernel⟩
theorem im_X7_missedBy : Cond.instanceMethod yX7_missedBy ∈ Tb := tb_in 705 (by decide +kernel) rfl
theorem se_X7_missedBy : Cond.selects RX7 yX7_missedBy yX7_missedBy ∈ Tb := tb_in 31 (by decide +kernel) rfl
abbrev mX7_ageOf : MD := (yX7_ageOf, cX7_ageOf, 2, (some .int), { frames := 1, cells := 0, slots := 0, locals := 22 })
theorem cd_X7_ageOf : Cond.code yX7_ageOf cX7_ageOf 2 (some .int) ∈ Tb := tb_in 710 (by decide +kernel) rfl
theorem mk_X7_ageOf : Mk mX7_ageOf 1 := ⟨in_X7, cd_X7_ageOf, by decide, by decide, by decide +kernel⟩
theorem im_X7_ageOf : Cond.instanceMethod yX7_ageOf ∈ Tb := tb_in 709 (by decide +kernel) rfl
theorem se_X7_ageOf : Cond.selects RX7 yX7_ageOf yX7_ageOf ∈ Tb := tb_in 32 (by decide +kernel) rfl
abbrev mX7_movedFrom : MD := (yX7_movedFrom, cX7_movedFrom, 8, (some .int), { frames := 5, cells := 0, slots := 0, locals := 121 })
theorem cd_X7_movedFrom : Cond.code yX7_movedFrom cX7_movedFrom 8 (some .int) ∈ Tb := tb_in 714 (by decide +kernel) rfl
theorem mk_X7_movedFrom : Mk mX7_movedFrom 1 := ⟨in_X7, cd_X7_movedFrom, by decide, by decide, by decide +kernel⟩
theorem im_X7_movedFrom : Cond.instanceMethod yX7_movedFrom ∈ Tb := tb_in 713 (by decide +kernel) rfl
theorem se_X7_movedFrom : Cond.selects RX7 yX7_movedFrom yX7_movedFrom ∈ Tb := tb_in 33 (by decide +kernel) rfl
abbrev mX7_lastCoats : MD := (yX7_lastCoats, cX7_lastCoats, 7, (some .int), { frames := 1, cells := 0, slots := 0, locals := 22 })
theorem cd_X7_lastCoats : Cond.code yX7_lastCoats cX7_lastCoats 7 (some .int) ∈ Tb := tb_in 734 (by decide +kernel) rfl
theorem mk_X7_lastCoats : Mk mX7_lastCoats 2 := ⟨in_X7, cd_X7_lastCoats, by decide, by decide, by decide +kernel⟩
theorem im_X7_lastCoats : Cond.instanceMethod yX7_lastCoats ∈ Tb := tb_in 733 (by decide +kernel) rfl
theorem se_X7_lastCoats : Cond.selects RX7 yX7_lastCoats yX7_lastCoats ∈ Tb := tb_in 34 (by decide +kernel) rfl
abbrev mX7_oddsOfAll : MD := (yX7_oddsOfAll, cX7_oddsOfAll, 6, (some .long), { frames := 0, cells := 0, slots := 0, locals := 0 })
theorem cd_X7_oddsOfAll : Cond.code yX7_oddsOfAll cX7_oddsOfAll 6 (some .long) ∈ Tb := tb_in 767 (by decide +kernel) rfl
theorem mk_X7_oddsOfAll : Mk mX7_oddsOfAll 2 := ⟨in_X7, cd_X7_oddsOfAll, by decide, by decide, by decide +kernel⟩
theorem sm_X7_oddsOfAll : Cond.static yX7_oddsOfAll ∈ Tb := tb_in 766 (by decide +kernel) rfl
abbrev mX7_asCoat : MD := (yX7_asCoat, cX7_asCoat, 3, (some .int), { frames := 0, cells := 0, slots := 0, locals := 0 })
theorem cd_X7_asCoat : Cond.code yX7_asCoat cX7_asCoat 3 (some .int) ∈ Tb := tb_in 789 (by decide +kernel) rfl
theorem mk_X7_asCoat : Mk mX7_asCoat 2 := ⟨in_X7, cd_X7_asCoat, by decide, by decide, by decide +kernel⟩
theorem im_X7_asCoat : Cond.instanceMethod yX7_asCoat ∈ Tb := tb_in 788 (by decide +kernel) rfl
theorem se_X7_asCoat : Cond.selects RX7 yX7_asCoat yX7_asCoat ∈ Tb := tb_in 38 (by decide +kernel) rfl
abbrev mX7_asWhole : MD := (yX7_asWhole, cX7_asWhole, 3, (some .int), { frames := 1, cells := 0, slots := 0, locals := 22 })
theorem cd_X7_asWhole : Cond.code yX7_asWhole cX7_asWhole 3 (some .int) ∈ Tb := tb_in 793 (by decide +kernel) rfl
theorem mk_X7_asWhole : Mk mX7_asWhole 2 := ⟨in_X7, cd_X7_asWhole, by decide, by decide, by decide +kernel⟩
theorem im_X7_asWhole : Cond.instanceMethod yX7_asWhole ∈ Tb := tb_in 792 (by decide +kernel) rfl
theorem se_X7_asWhole : Cond.selects RX7 yX7_asWhole yX7_asWhole ∈ Tb := tb_in 39 (by decide +kernel) rfl
abbrev mX7_asUnder : MD := (yX7_asUnder, cX7_asUnder, 3, (some .int), { frames := 1, cells := 0, slots := 0, locals := 22 })
theorem cd_X7_asUnder : Cond.code yX7_asUnder cX7_asUnder 3 (some .int) ∈ Tb := tb_in 803 (by decide +kernel) rfl
theorem mk_X7_asUnder : Mk mX7_asUnder 2 := ⟨in_X7, cd_X7_asUnder, by decide, by decide, by decide +kernel⟩
theorem im_X7_asUnder : Cond.instanceMethod yX7_asUnder ∈ Tb := tb_in 802 (by decide +kernel) rfl
theorem se_X7_asUnder : Cond.selects RX7 yX7_asUnder yX7_asUnder ∈ Tb := tb_in 40 (by decide +kernel) rfl
abbrev mX7_asPatch : MD := (yX7_asPatch, cX7_asPatch, 3, (some .int), { frames := 2, cells := 0, slots := 0, locals := 44 })
theorem cd_X7_asPatch : Cond.code yX7_asPatch cX7_asPatch 3 (some .int) ∈ Tb := tb_in 808 (by decide +kernel) rfl
theorem mk_X7_asPatch : Mk mX7_asPatch 2 := ⟨in_X7, cd_X7_asPatch, by decide, by decide, by decide +kernel⟩
theorem im_X7_asPatch : Cond.instanceMethod yX7_asPatch ∈ Tb := tb_in 807 (by decide +kernel) rfl
theorem se_X7_asPatch : Cond.selects RX7 yX7_asPatch yX7_asPatch ∈ Tb := tb_in 41 (by decide +kernel) rfl
abbrev mX7_asScraped : MD := (yX7_asScraped, cX7_asScraped, 3, (some .int), { frames := 2, cells := 0, slots := 0, locals := 44 })
theorem cd_X7_asScraped : Cond.code yX7_asScraped cX7_asScraped 3 (some .int) ∈ Tb := tb_in 813 (by decide +kernel) rfl
theorem mk_X7_asScraped : Mk mX7_asScraped 2 := ⟨in_X7, cd_X7_asScraped, by decide, by decide, by decide +kernel⟩
theorem im_X7_asScraped : Cond.instanceMethod yX7_asScraped ∈ Tb := tb_in 812 (by decide +kernel) rfl
theorem se_X7_asScraped : Cond.selects RX7 yX7_asScraped yX7_asScraped ∈ Tb := tb_in 42 (by decide +kernel) rfl
abbrev mX7_asVarnish : MD := (yX7_asVarnish, cX7_asVarnish, 3, (some .int), { frames := 1, cells := 0, slots := 0, locals := 22 })
theorem cd_X7_asVarnish : Cond.code yX7_asVarnish cX7_asVarnish 3 (some .int) ∈ Tb := tb_in 817 (by decide +kernel) rfl
theorem mk_X7_asVarnish : Mk mX7_asVarnish 2 := ⟨in_X7, cd_X7_asVarnish, by decide, by decide, by decide +kernel⟩
theorem im_X7_asVarnish : Cond.instanceMethod yX7_asVarnish ∈ Tb := tb_in 816 (by decide +kernel) rfl
theorem se_X7_asVarnish : Cond.selects RX7 yX7_asVarnish yX7_asVarnish ∈ Tb := tb_in 43 (by decide +kernel) rfl
abbrev mX8_init : MD := (yX8_init, cX8_init, 2, none, { frames := 1, cells := 35, slots := 16227, locals := 20 })
theorem cd_X8_init : Cond.code yX8_init cX8_init 2 none ∈ Tb := tb_in 854 (by decide +kernel) rfl
theorem mk_X8_init : Mk mX8_init 0 := ⟨in_X8, cd_X8_init, by decide, by decide, by decide +kernel⟩
theorem im_X8_init : Cond.instanceMethod yX8_init ∈ Tb := tb_in 853 (by decide +kernel) rfl
abbrev mX8_in : MD := (yX8_in, cX8_in, 3, (some .boolean), { frames := 0, cells := 0, slots := 0, locals := 0 })
theorem cd_X8_in : Cond.code yX8_in cX8_in 3 (some .boolean) ∈ Tb := tb_in 1016 (by decide +kernel) rfl
theorem mk_X8_in : Mk mX8_in 3 := ⟨in_X8, cd_X8_in, by decide, by decide, by decide +kernel⟩
theorem sm_X8_in : Cond.static yX8_in ∈ Tb := tb_in 1015 (by decide +kernel) rfl
abbrev mX8_type : MD := (yX8_type, cX8_type, 5, (some .int), { frames := 1, cells := 0, slots := 0, locals := 22 })
theorem cd_X8_type : Cond.code yX8_type cX8_type 5 (some .int) ∈ Tb := tb_in 1013 (by decide +kernel) rfl
theorem mk_X8_type : Mk mX8_type 2 := ⟨in_X8, cd_X8_type, by decide, by decide, by decide +kernel⟩
theorem im_X8_type : Cond.instanceMethod yX8_type ∈ Tb := tb_in 1011 (by decide +kernel) rfl
theorem se_X8_type : Cond.selects RX8 yX8_type yX8_type ∈ Tb := tb_in 1012 (by decide +kernel) rfl
abbrev mX8_clear : MD := (yX8_clear, cX8_clear, 2, (some .int), { frames := 0, cells := 0, slots := 0, locals := 0 })
theorem cd_X8_clear : Cond.code yX8_clear cX8_clear 2 (some .int) ∈ Tb := tb_in 1021 (by decide +kernel) rfl
theorem mk_X8_clear : Mk mX8_clear 0 := ⟨in_X8, cd_X8_clear, by decide, by decide, by decide +kernel⟩
theorem im_X8_clear : Cond.instanceMethod yX8_clear ∈ Tb := tb_in 1019 (by decide +kernel) rfl
theorem se_X8_clear : Cond.selects RX8 yX8_clear yX8_clear ∈ Tb := tb_in 1020 (by decide +kernel) rfl
abbrev mX8_isLetter : MD := (yX8_isLetter, cX8_isLetter, 1, (some .boolean), { frames := 1, cells := 0, slots := 0, locals := 22 })
theorem cd_X8_isLetter : Cond.code yX8_isLetter cX8_isLetter 1 (some .boolean) ∈ Tb := tb_in 1040 (by decide +kernel) rfl
theorem mk_X8_isLetter : Mk mX8_isLetter 1 := ⟨in_X8, cd_X8_isLetter, by decide, by decide, by decide +kernel⟩
theorem sm_X8_isLetter : Cond.static yX8_isLetter ∈ Tb := tb_in 1039 (by decide +kernel) rfl
abbrev mX8_isDigit : MD := (yX8_isDigit, cX8_isDigit, 1, (some .boolean), { frames := 1, cells := 0, slots := 0, locals := 22 })
theorem cd_X8_isDigit : Cond.code yX8_isDigit cX8_isDigit 1 (some .boolean) ∈ Tb := tb_in 1052 (by decide +kernel) rfl
theorem mk_X8_isDigit : Mk mX8_isDigit 1 := ⟨in_X8, cd_X8_isDigit, by decide, by decide, by decide +kernel⟩
theorem sm_X8_isDigit : Cond.static yX8_isDigit ∈ Tb := tb_in 1051 (by decide +kernel) rfl
abbrev mX8_look : MD := (yX8_look, cX8_look, 1, (some .int), { frames := 0, cells := 0, slots := 0, locals := 0 })
theorem cd_X8_look : Cond.code yX8_look cX8_look 1 (some .int) ∈ Tb := tb_in 1037 (by decide +kernel) rfl
theorem mk_X8_look : Mk mX8_look 0 := ⟨in_X8, cd_X8_look, by decide, by decide, by decide +kernel⟩
theorem im_X8_look : Cond.instanceMethod yX8_look ∈ Tb := tb_in 1036 (by decide +kernel) rfl
theorem se_X8_look : Cond.selects RX8 yX8_look yX8_look ∈ Tb := tb_in 46 (by decide +kernel) rfl
abbrev mX8_read : MD := (yX8_read, cX8_read, 2, none, { frames := 3, cells := 0, slots := 0, locals := 64 })
theorem cd_X8_read : Cond.code yX8_read cX8_read 2 none ∈ Tb := tb_in 1033 (by decide +kernel) rfl
theorem mk_X8_read : Mk mX8_read 0 := ⟨in_X8, cd_X8_read, by decide, by decide, by decide +kernel⟩
theorem im_X8_read : Cond.instanceMethod yX8_read ∈ Tb := tb_in 1032 (by decide +kernel) rfl
theorem se_X8_read : Cond.selects RX8 yX8_read yX8_read ∈ Tb := tb_in 45 (by decide +kernel) rfl
abbrev mX8_word : MD := (yX8_word, cX8_word, 3, none, { frames := 2, cells := 0, slots := 0, locals := 42 })
theorem cd_X8_word : Cond.code yX8_word cX8_word 3 none ∈ Tb := tb_in 1044 (by decide +kernel) rfl
theorem mk_X8_word : Mk mX8_word 0 := ⟨in_X8, cd_X8_word, by decide, by decide, by decide +kernel⟩
theorem im_X8_word : Cond.instanceMethod yX8_word ∈ Tb := tb_in 1043 (by decide +kernel) rfl
theorem se_X8_word : Cond.selects RX8 yX8_word yX8_word ∈ Tb := tb_in 47 (by decide +kernel) rfl
abbrev mX8_isNumber : MD := (yX8_isNumber, cX8_isNumber, 3, (some .boolean), { frames := 1, cells := 0, slots := 0, locals := 22 })
theorem cd_X8_isNumber : Cond.code yX8_isNumber cX8_isNumber 3 (some .boolean) ∈ Tb := tb_in 1056 (by decide +kernel) rfl
theorem mk_X8_isNumber : Mk mX8_isNumber 2 := ⟨in_X8, cd_X8_isNumber, by decide, by decide, by decide +kernel⟩
theorem im_X8_isNumber : Cond.instanceMethod yX8_isNumber ∈ Tb := tb_in 1055 (by decide +kernel) rfl
theorem se_X8_isNumber : Cond.selects RX8 yX8_isNumber yX8_isNumber ∈ Tb := tb_in 48 (by decide +kernel) rfl
abbrev mX8_isChip : MD := (yX8_isChip, cX8_isChip, 1, (some .boolean), { frames := 4, cells := 0, slots := 0, locals := 85 })
theorem cd_X8_isChip : Cond.code yX8_isChip cX8_isChip 1 (some .boolean) ∈ Tb := tb_in 1029 (by decide +kernel) rfl
theorem mk_X8_isChip : Mk mX8_isChip 0 := ⟨in_X8, cd_X8_isChip, by decide, by decide, by decide +kernel⟩
theorem im_X8_isChip : Cond.instanceMethod yX8_isChip ∈ Tb := tb_in 1028 (by decide +kernel) rfl
theorem se_X8_isChip : Cond.selects RX8 yX8_isChip yX8_isChip ∈ Tb := tb_in 44 (by decide +kernel) rfl
abbrev mX8_chip : MD := (yX8_chip, cX8_chip, 2, (some .int), { frames := 5, cells := 0, slots := 0, locals := 105 })
theorem cd_X8_chip : Cond.code yX8_chip cX8_chip 2 (some .int) ∈ Tb := tb_in 1025 (by decide +kernel) rfl
theorem mk_X8_chip : Mk mX8_chip 0 := ⟨in_X8, cd_X8_chip, by decide, by decide, by decide +kernel⟩
theorem im_X8_chip : Cond.instanceMethod yX8_chip ∈ Tb := tb_in 1023 (by decide +kernel) rfl
theorem se_X8_chip : Cond.selects RX8 yX8_chip yX8_chip ∈ Tb := tb_in 1024 (by decide +kernel) rfl
abbrev mX8_isStuff : MD := (yX8_isStuff, cX8_isStuff, 4, (some .boolean), { frames := 4, cells := 0, slots := 0, locals := 85 })
theorem cd_X8_isStuff : Cond.code yX8_isStuff cX8_isStuff 4 (some .boolean) ∈ Tb := tb_in 1064 (by decide +kernel) rfl
theorem mk_X8_isStuff : Mk mX8_isStuff 0 := ⟨in_X8, cd_X8_isStuff, by decide, by decide, by decide +kernel⟩
theorem im_X8_isStuff : Cond.instanceMethod yX8_isStuff ∈ Tb := tb_in 1063 (by decide +kernel) rfl
theorem se_X8_isStuff : Cond.selects RX8 yX8_isStuff yX8_isStuff ∈ Tb := tb_in 49 (by decide +kernel) rfl
abbrev mX8_areAlike : MD := (yX8_areAlike, cX8_areAlike, 3, (some .boolean), { frames := 4, cells := 0, slots := 0, locals := 85 })
theorem cd_X8_areAlike : Cond.code yX8_areAlike cX8_areAlike 3 (some .boolean) ∈ Tb := tb_in 1068 (by decide +kernel) rfl
theorem mk_X8_areAlike : Mk mX8_areAlike 0 := ⟨in_X8, cd_X8_areAlike, by decide, by decide, by decide +kernel⟩
theorem im_X8_areAlike : Cond.instanceMethod yX8_areAlike ∈ Tb := tb_in 1067 (by decide +kernel) rfl
theorem se_X8_areAlike : Cond.selects RX8 yX8_areAlike yX8_areAlike ∈ Tb := tb_in 50 (by decide +kernel) rfl
abbrev mX8_isBill : MD := (yX8_isBill, cX8_isBill, 1, (some .boolean), { frames := 4, cells := 0, slots := 0, locals := 85 })
theorem cd_X8_isBill : Cond.code yX8_isBill cX8_isBill 1 (some .boolean) ∈ Tb := tb_in 1072 (by decide +kernel) rfl
theorem mk_X8_isBill : Mk mX8_isBill 0 := ⟨in_X8, cd_X8_isBill, by decide, by decide, by decide +kernel⟩
theorem im_X8_isBill : Cond.instanceMethod yX8_isBill ∈ Tb := tb_in 1071 (by decide +kernel) rfl
theorem se_X8_isBill : Cond.selects RX8 yX8_isBill yX8_isBill ∈ Tb := tb_in 51 (by decide +kernel) rfl
abbrev mX8_book : MD := (yX8_book, cX8_book, 3, (some .int), { frames := 5, cells := 0, slots := 0, locals := 108 })
theorem cd_X8_book : Cond.code yX8_book cX8_book 3 (some .int) ∈ Tb := tb_in 1060 (by decide +kernel) rfl
theorem mk_X8_book : Mk mX8_book 0 := ⟨in_X8, cd_X8_book, by decide, by decide, by decide +kernel⟩
theorem im_X8_book : Cond.instanceMethod yX8_book ∈ Tb := tb_in 1058 (by decide +kernel) rfl
theorem se_X8_book : Cond.selects RX8 yX8_book yX8_book ∈ Tb := tb_in 1059 (by decide +kernel) rfl
abbrev mX8_isChipAt : MD := (yX8_isChipAt, cX8_isChipAt, 2, (some .boolean), { frames := 1, cells := 0, slots := 0, locals := 22 })
theorem cd_X8_isChipAt : Cond.code yX8_isChipAt cX8_isChipAt 2 (some .boolean) ∈ Tb := tb_in 1080 (by decide +kernel) rfl
theorem mk_X8_isChipAt : Mk mX8_isChipAt 1 := ⟨in_X8, cd_X8_isChipAt, by decide, by decide, by decide +kernel⟩
theorem im_X8_isChipAt : Cond.instanceMethod yX8_isChipAt ∈ Tb := tb_in 1079 (by decide +kernel) rfl
theorem se_X8_isChipAt : Cond.selects RX8 yX8_isChipAt yX8_isChipAt ∈ Tb := tb_in 52 (by decide +kernel) rfl
abbrev mX8_drop : MD := (yX8_drop, cX8_drop, 4, (some .int), { frames := 2, cells := 0, slots := 0, locals := 43 })
theorem cd_X8_drop : Cond.code yX8_drop cX8_drop 4 (some .int) ∈ Tb := tb_in 1076 (by decide +kernel) rfl
theorem mk_X8_drop : Mk mX8_drop 1 := ⟨in_X8, cd_X8_drop, by decide, by decide, by decide +kernel⟩
theorem im_X8_drop : Cond.instanceMethod yX8_drop ∈ Tb := tb_in 1074 (by decide +kernel) rfl
theorem se_X8_drop : Cond.selects RX8 yX8_drop yX8_drop ∈ Tb := tb_in 1075 (by decide +kernel) rfl
abbrev mX8_about : MD := (yX8_about, cX8_about, 3, (some .int), { frames := 2, cells := 0, slots := 0, locals := 43 })
theorem cd_X8_about : Cond.code yX8_about cX8_about 3 (some .int) ∈ Tb := tb_in 1084 (by decide +kernel) rfl
theorem mk_X8_about : Mk mX8_about 2 := ⟨in_X8, cd_X8_about, by decide, by decide, by decide +kernel⟩
theorem im_X8_about : Cond.instanceMethod yX8_about ∈ Tb := tb_in 1082 (by decide +kernel) rfl
theorem se_X8_about : Cond.selects RX8 yX8_about yX8_about ∈ Tb := tb_in 1083 (by decide +kernel) rfl
abbrev mX8_isCoat : MD := (yX8_isCoat, cX8_isCoat, 3, (some .boolean), { frames := 2, cells := 0, slots := 0, locals := 43 })
theorem cd_X8_isCoat : Cond.code yX8_isCoat cX8_isCoat 3 (some .boolean) ∈ Tb := tb_in 1092 (by decide +kernel) rfl
theorem mk_X8_isCoat : Mk mX8_isCoat 2 := ⟨in_X8, cd_X8_isCoat, by decide, by decide, by decide +kernel⟩
theorem im_X8_isCoat : Cond.instanceMethod yX8_isCoat ∈ Tb := tb_in 1091 (by decide +kernel) rfl
theorem se_X8_isCoat : Cond.selects RX8 yX8_isCoat yX8_isCoat ∈ Tb := tb_in 53 (by decide +kernel) rfl
abbrev mX8_coat : MD := (yX8_coat, cX8_coat, 4, (some .int), { frames := 4, cells := 0, slots := 0, locals := 95 })
theorem cd_X8_coat : Cond.code yX8_coat cX8_coat 4 (some .int) ∈ Tb := tb_in 1088 (by decide +kernel) rfl
theorem mk_X8_coat : Mk mX8_coat 3 := ⟨in_X8, cd_X8_coat, by decide, by decide, by decide +kernel⟩
theorem im_X8_coat : Cond.instanceMethod yX8_coat ∈ Tb := tb_in 1086 (by decide +kernel) rfl
theorem se_X8_coat : Cond.selects RX8 yX8_coat yX8_coat ∈ Tb := tb_in 1087 (by decide +kernel) rfl
abbrev mX8_colour : MD := (yX8_colour, cX8_colour, 3, (some .int), { frames := 1, cells := 0, slots := 0, locals := 22 })
theorem cd_X8_colour : Cond.code yX8_colour cX8_colour 3 (some .int) ∈ Tb := tb_in 1124 (by decide +kernel) rfl
theorem mk_X8_colour : Mk mX8_colour 2 := ⟨in_X8, cd_X8_colour, by decide, by decide, by decide +kernel⟩
theorem im_X8_colour : Cond.instanceMethod yX8_colour ∈ Tb := tb_in 1122 (by decide +kernel) rfl
theorem se_X8_colour : Cond.selects RX8 yX8_colour yX8_colour ∈ Tb := tb_in 1123 (by decide +kernel) rfl
abbrev mX8_tune : MD := (yX8_tune, cX8_tune, 5, (some .int), { frames := 1, cells := 0, slots := 0, locals := 22 })
theorem cd_X8_tune : Cond.code yX8_tune cX8_tune 5 (some .int) ∈ Tb := tb_in 1128 (by decide +kernel) rfl
theorem mk_X8_tune : Mk mX8_tune 2 := ⟨in_X8, cd_X8_tune, by decide, by decide, by decide +kernel⟩
theorem im_X8_tune : Cond.instanceMethod yX8_tune ∈ Tb := tb_in 1126 (by decide +kernel) rfl
theorem se_X8_tune : Cond.selects RX8 yX8_tune yX8_tune ∈ Tb := tb_in 1127 (by decide +kernel) rfl
abbrev mX8_isSame : MD := (yX8_isSame, cX8_isSame, 3, (some .boolean), { frames := 0, cells := 0, slots := 0, locals := 0 })
theorem cd_X8_isSame : Cond.code yX8_isSame cX8_isSame 3 (some .boolean) ∈ Tb := tb_in 1108 (by decide +kernel) rfl
theorem mk_X8_isSame : Mk mX8_isSame 2 := ⟨in_X8, cd_X8_isSame, by decide, by decide, by decide +kernel⟩
theorem im_X8_isSame : Cond.instanceMethod yX8_isSame ∈ Tb := tb_in 1107 (by decide +kernel) rfl
theorem se_X8_isSame : Cond.selects RX8 yX8_isSame yX8_isSame ∈ Tb := tb_in 57 (by decide +kernel) rfl
abbrev mX8_costOf : MD := (yX8_costOf, cX8_costOf, 7, (some .int), { frames := 0, cells := 0, slots := 0, locals := 0 })
theorem cd_X8_costOf : Cond.code yX8_costOf cX8_costOf 7 (some .int) ∈ Tb := tb_in 1148 (by decide +kernel) rfl
theorem mk_X8_costOf : Mk mX8_costOf 5 := ⟨in_X8, cd_X8_costOf, by decide, by decide, by decide +kernel⟩
theorem im_X8_costOf : Cond.instanceMethod yX8_costOf ∈ Tb := tb_in 1147 (by decide +kernel) rfl
theorem se_X8_costOf : Cond.selects RX8 yX8_costOf yX8_costOf ∈ Tb := tb_in 64 (by decide +kernel) rfl
abbrev mX8_areSame : MD := (yX8_areSame, cX8_areSame, 5, (some .boolean), { frames := 1, cells := 0, slots := 0, locals := 22 })
theorem cd_X8_areSame : Cond.code yX8_areSame cX8_areSame 5 (some .boolean) ∈ Tb := tb_in 1144 (by decide +kernel) rfl
theorem mk_X8_areSame : Mk mX8_areSame 4 := ⟨in_X8, cd_X8_areSame, by decide, by decide, by decide +kernel⟩
theorem im_X8_areSame : Cond.instanceMethod yX8_areSame ∈ Tb := tb_in 1143 (by decide +kernel) rfl
theorem se_X8_areSame : Cond.selects RX8 yX8_areSame yX8_areSame ∈ Tb := tb_in 63 (by decide +kernel) rfl
abbrev mX8_lay : MD := (yX8_lay, cX8_lay, 9, none, { frames := 2, cells := 0, slots := 0, locals := 46 })
theorem cd_X8_lay : Cond.code yX8_lay cX8_lay 9 none ∈ Tb := tb_in 1140 (by decide +kernel) rfl
theorem mk_X8_lay : Mk mX8_lay 2 := ⟨in_X8, cd_X8_lay, by decide, by decide, by decide +kernel⟩
theorem im_X8_lay : Cond.instanceMethod yX8_lay ∈ Tb := tb_in 1139 (by decide +kernel) rfl
theorem se_X8_lay : Cond.selects RX8 yX8_lay yX8_lay ∈ Tb := tb_in 62 (by decide +kernel) rfl
abbrev mX8_areTwo : MD := (yX8_areTwo, cX8_areTwo, 3, (some .boolean), { frames := 2, cells := 0, slots := 0, locals := 43 })
theorem cd_X8_areTwo : Cond.code yX8_areTwo cX8_areTwo 3 (some .boolean) ∈ Tb := tb_in 1136 (by decide +kernel) rfl
theorem mk_X8_areTwo : Mk mX8_areTwo 2 := ⟨in_X8, cd_X8_areTwo, by decide, by decide, by decide +kernel⟩
theorem im_X8_areTwo : Cond.instanceMethod yX8_areTwo ∈ Tb := tb_in 1135 (by decide +kernel) rfl
theorem se_X8_areTwo : Cond.selects RX8 yX8_areTwo yX8_areTwo ∈ Tb := tb_in 61 (by decide +kernel) rfl
abbrev mX8_least : MD := (yX8_least, cX8_least, 3, (some .int), { frames := 3, cells := 0, slots := 0, locals := 74 })
theorem cd_X8_least : Cond.code yX8_least cX8_least 3 (some .int) ∈ Tb := tb_in 1132 (by decide +kernel) rfl
theorem mk_X8_least : Mk mX8_least 2 := ⟨in_X8, cd_X8_least, by decide, by decide, by decide +kernel⟩
theorem im_X8_least : Cond.instanceMethod yX8_least ∈ Tb := tb_in 1130 (by decide +kernel) rfl
theorem se_X8_least : Cond.selects RX8 yX8_least yX8_least ∈ Tb := tb_in 1131 (by decide +kernel) rfl
abbrev mX8_ways : MD := (yX8_ways, cX8_ways, 3, (some .long), { frames := 3, cells := 0, slots := 0, locals := 74 })
theorem cd_X8_ways : Cond.code yX8_ways cX8_ways 3 (some .long) ∈ Tb := tb_in 1152 (by decide +kernel) rfl
theorem mk_X8_ways : Mk mX8_ways 2 := ⟨in_X8, cd_X8_ways, by decide, by decide, by decide +kernel⟩
theorem im_X8_ways : Cond.instanceMethod yX8_ways ∈ Tb := tb_in 1150 (by decide +kernel) rfl
theorem se_X8_ways : Cond.selects RX8 yX8_ways yX8_ways ∈ Tb := tb_in 1151 (by decide +kernel) rfl
abbrev mX8_laid : MD := (yX8_laid, cX8_laid, 8, (some .int), { frames := 3, cells := 0, slots := 0, locals := 74 })
theorem cd_X8_laid : Cond.code yX8_laid cX8_laid 8 (some .int) ∈ Tb := tb_in 1157 (by decide +kernel) rfl
theorem mk_X8_laid : Mk mX8_laid 3 := ⟨in_X8, cd_X8_laid, by decide, by decide, by decide +kernel⟩
theorem im_X8_laid : Cond.instanceMethod yX8_laid ∈ Tb := tb_in 1155 (by decide +kernel) rfl
theorem se_X8_laid : Cond.selects RX8 yX8_laid yX8_laid ∈ Tb := tb_in 1156 (by decide +kernel) rfl
abbrev mX8_behind : MD := (yX8_behind, cX8_behind, 5, (some .int), { frames := 1, cells := 0, slots := 0, locals := 22 })
theorem cd_X8_behind : Cond.code yX8_behind cX8_behind 5 (some .int) ∈ Tb := tb_in 1104 (by decide +kernel) rfl
theorem mk_X8_behind : Mk mX8_behind 1 := ⟨in_X8, cd_X8_behind, by decide, by decide, by decide +kernel⟩
theorem im_X8_behind : Cond.instanceMethod yX8_behind ∈ Tb := tb_in 1103 (by decide +kernel) rfl
theorem se_X8_behind : Cond.selects RX8 yX8_behind yX8_behind ∈ Tb := tb_in 56 (by decide +kernel) rfl
abbrev mX8_make : MD := (yX8_make, cX8_make, 3, none, { frames := 3, cells := 0, slots := 0, locals := 73 })
theorem cd_X8_make : Cond.code yX8_make cX8_make 3 none ∈ Tb := tb_in 1096 (by decide +kernel) rfl
theorem mk_X8_make : Mk mX8_make 0 := ⟨in_X8, cd_X8_make, by decide, by decide, by decide +kernel⟩
theorem im_X8_make : Cond.instanceMethod yX8_make ∈ Tb := tb_in 1095 (by decide +kernel) rfl
theorem se_X8_make : Cond.selects RX8 yX8_make yX8_make ∈ Tb := tb_in 54 (by decide +kernel) rfl
abbrev mX8_weigh : MD := (yX8_weigh, cX8_weigh, 8, none, { frames := 2, cells := 0, slots := 0, locals := 46 })
theorem cd_X8_weigh : Cond.code yX8_weigh cX8_weigh 8 none ∈ Tb := tb_in 1100 (by decide +kernel) rfl
theorem mk_X8_weigh : Mk mX8_weigh 1 := ⟨in_X8, cd_X8_weigh, by decide, by decide, by decide +kernel⟩
theorem im_X8_weigh : Cond.instanceMethod yX8_weigh ∈ Tb := tb_in 1099 (by decide +kernel) rfl
theorem se_X8_weigh : Cond.selects RX8 yX8_weigh yX8_weigh ∈ Tb := tb_in 55 (by decide +kernel) rfl
abbrev mX8_goOn : MD := (yX8_goOn, cX8_goOn, 5, (some .int), { frames := 2, cells := 0, slots := 0, locals := 46 })
theorem cd_X8_goOn : Cond.code yX8_goOn cX8_goOn 5 (some .int) ∈ Tb := tb_in 1112 (by decide +kernel) rfl
theorem mk_X8_goOn : Mk mX8_goOn 1 := ⟨in_X8, cd_X8_goOn, by decide, by decide, by decide +kernel⟩
theorem im_X8_goOn : Cond.instanceMethod yX8_goOn ∈ Tb := tb_in 1111 (by decide +kernel) rfl
theorem se_X8_goOn : Cond.selects RX8 yX8_goOn yX8_goOn ∈ Tb := tb_in 58 (by decide +kernel) rfl
abbrev mX8_hasPainting : MD := (yX8_hasPainting, cX8_hasPainting, 5, (some .boolean), { frames := 0, cells := 0, slots := 0, locals := 0 })
theorem cd_X8_hasPainting : Cond.code yX8_hasPainting cX8_hasPainting 5 (some .boolean) ∈ Tb := tb_in 1169 (by decide +kernel) rfl
theorem mk_X8_hasPainting : Mk mX8_hasPainting 2 := ⟨in_X8, cd_X8_hasPainting, by decide, by decide, by decide +kernel⟩
theorem im_X8_hasPainting : Cond.instanceMethod yX8_hasPainting ∈ Tb := tb_in 1168 (by decide +kernel) rfl
theorem se_X8_hasPainting : Cond.selects RX8 yX8_hasPainting yX8_hasPainting ∈ Tb := tb_in 65 (by decide +kernel) rfl
abbrev mX8_painting : MD := (yX8_painting, cX8_painting, 2, (some .int), { frames := 4, cells := 0, slots := 0, locals := 95 })
theorem cd_X8_painting : Cond.code yX8_painting cX8_painting 2 (some .int) ∈ Tb := tb_in 1161 (by decide +kernel) rfl
theorem mk_X8_painting : Mk mX8_painting 1 := ⟨in_X8, cd_X8_painting, by decide, by decide, by decide +kernel⟩
theorem im_X8_painting : Cond.instanceMethod yX8_painting ∈ Tb := tb_in 1159 (by decide +kernel) rfl
theorem se_X8_painting : Cond.selects RX8 yX8_painting yX8_painting ∈ Tb := tb_in 1160 (by decide +kernel) rfl
abbrev mX8_had : MD := (yX8_had, cX8_had, 4, (some .int), { frames := 4, cells := 0, slots := 0, locals := 95 })
theorem cd_X8_had : Cond.code yX8_had cX8_had 4 (some .int) ∈ Tb := tb_in 1165 (by decide +kernel) rfl
theorem mk_X8_had : Mk mX8_had 1 := ⟨in_X8, cd_X8_had, by decide, by decide, by decide +kernel⟩
theorem im_X8_had : Cond.instanceMethod yX8_had ∈ Tb := tb_in 1163 (by decide +kernel) rfl
theorem se_X8_had : Cond.selects RX8 yX8_had yX8_had ∈ Tb := tb_in 1164 (by decide +kernel) rfl
abbrev mX8_moved : MD := (yX8_moved, cX8_moved, 6, (some .int), { frames := 4, cells := 0, slots := 0, locals := 96 })
theorem cd_X8_moved : Cond.code yX8_moved cX8_moved 6 (some .int) ∈ Tb := tb_in 1177 (by decide +kernel) rfl
theorem mk_X8_moved : Mk mX8_moved 1 := ⟨in_X8, cd_X8_moved, by decide, by decide, by decide +kernel⟩
theorem im_X8_moved : Cond.instanceMethod yX8_moved ∈ Tb := tb_in 1176 (by decide +kernel) rfl
theorem se_X8_moved : Cond.selects RX8 yX8_moved yX8_moved ∈ Tb := tb_in 66 (by decide +kernel) rfl
abbrev mX8_face : MD := (yX8_face, cX8_face, 5, (some .int), { frames := 5, cells := 0, slots := 0, locals := 121 })
theorem cd_X8_face : Cond.code yX8_face cX8_face 5 (some .int) ∈ Tb := tb_in 1173 (by decide +kernel) rfl
theorem mk_X8_face : Mk mX8_face 2 := ⟨in_X8, cd_X8_face, by decide, by decide, by decide +kernel⟩
theorem im_X8_face : Cond.instanceMethod yX8_face ∈ Tb := tb_in 1171 (by decide +kernel) rfl
theorem se_X8_face : Cond.selects RX8 yX8_face yX8_face ∈ Tb := tb_in 1172 (by decide +kernel) rfl
abbrev mX8_later : MD := (yX8_later, cX8_later, 5, (some .int), { frames := 0, cells := 0, slots := 0, locals := 0 })
theorem cd_X8_later : Cond.code yX8_later cX8_later 5 (some .int) ∈ Tb := tb_in 1120 (by decide +kernel) rfl
theorem mk_X8_later : Mk mX8_later 1 := ⟨in_X8, cd_X8_later, by decide, by decide, by decide +kernel⟩
theorem im_X8_later : Cond.instanceMethod yX8_later ∈ Tb := tb_in 1119 (by decide +kernel) rfl
theorem se_X8_later : Cond.selects RX8 yX8_later yX8_later ∈ Tb := tb_in 60 (by decide +kernel) rfl
abbrev mX8_years : MD := (yX8_years, cX8_years, 3, none, { frames := 1, cells := 0, slots := 0, locals := 24 })
theorem cd_X8_years : Cond.code yX8_years cX8_years 3 none ∈ Tb := tb_in 1116 (by decide +kernel) rfl
theorem mk_X8_years : Mk mX8_years 0 := ⟨in_X8, cd_X8_years, by decide, by decide, by decide +kernel⟩
theorem im_X8_years : Cond.instanceMethod yX8_years ∈ Tb := tb_in 1115 (by decide +kernel) rfl
theorem se_X8_years : Cond.selects RX8 yX8_years yX8_years ∈ Tb := tb_in 59 (by decide +kernel) rfl
abbrev mX8_span : MD := (yX8_span, cX8_span, 3, (some .int), { frames := 4, cells := 0, slots := 0, locals := 95 })
theorem cd_X8_span : Cond.code yX8_span cX8_span 3 (some .int) ∈ Tb := tb_in 1182 (by decide +kernel) rfl
theorem mk_X8_span : Mk mX8_span 2 := ⟨in_X8, cd_X8_span, by decide, by decide, by decide +kernel⟩
theorem im_X8_span : Cond.instanceMethod yX8_span ∈ Tb := tb_in 1180 (by decide +kernel) rfl
theorem se_X8_span : Cond.selects RX8 yX8_span yX8_span ∈ Tb := tb_in 1181 (by decide +kernel) rfl
abbrev mX8_day : MD := (yX8_day, cX8_day, 6, (some .int), { frames := 4, cells := 0, slots := 0, locals := 95 })
theorem cd_X8_day : Cond.code yX8_day cX8_day 6 (some .int) ∈ Tb := tb_in 1186 (by decide +kernel) rfl
theorem mk_X8_day : Mk mX8_day 2 := ⟨in_X8, cd_X8_day, by decide, by decide, by decide +kernel⟩
theorem im_X8_day : Cond.instanceMethod yX8_day ∈ Tb := tb_in 1184 (by decide +kernel) rfl
theorem se_X8_day : Cond.selects RX8 yX8_day yX8_day ∈ Tb := tb_in 1185 (by decide +kernel) rfl
abbrev mX8_bill : MD := (yX8_bill, cX8_bill, 3, (some .int), { frames := 1, cells := 0, slots := 0, locals := 22 })
theorem cd_X8_bill : Cond.code yX8_bill cX8_bill 3 (some .int) ∈ Tb := tb_in 1190 (by decide +kernel) rfl
theorem mk_X8_bill : Mk mX8_bill 2 := ⟨in_X8, cd_X8_bill, by decide, by decide, by decide +kernel⟩
theorem im_X8_bill : Cond.instanceMethod yX8_bill ∈ Tb := tb_in 1188 (by decide +kernel) rfl
theorem se_X8_bill : Cond.selects RX8 yX8_bill yX8_bill ∈ Tb := tb_in 1189 (by decide +kernel) rfl
abbrev mX8_suits : MD := (yX8_suits, cX8_suits, 4, (some .boolean), { frames := 1, cells := 0, slots := 0, locals := 22 })
theorem cd_X8_suits : Cond.code yX8_suits cX8_suits 4 (some .boolean) ∈ Tb := tb_in 1198 (by decide +kernel) rfl
theorem mk_X8_suits : Mk mX8_suits 3 := ⟨in_X8, cd_X8_suits, by decide, by decide, by decide +kernel⟩
theorem im_X8_suits : Cond.instanceMethod yX8_suits ∈ Tb := tb_in 1197 (by decide +kernel) rfl
theorem se_X8_suits : Cond.selects RX8 yX8_suits yX8_suits ∈ Tb := tb_in 67 (by decide +kernel) rfl
abbrev mX8_billed : MD := (yX8_billed, cX8_billed, 6, (some .int), { frames := 4, cells := 0, slots := 0, locals := 95 })
theorem cd_X8_billed : Cond.code yX8_billed cX8_billed 6 (some .int) ∈ Tb := tb_in 1194 (by decide +kernel) rfl
theorem mk_X8_billed : Mk mX8_billed 1 := ⟨in_X8, cd_X8_billed, by decide, by decide, by decide +kernel⟩
theorem im_X8_billed : Cond.instanceMethod yX8_billed ∈ Tb := tb_in 1192 (by decide +kernel) rfl
theorem se_X8_billed : Cond.selects RX8 yX8_billed yX8_billed ∈ Tb := tb_in 1193 (by decide +kernel) rfl
abbrev mX8_enough : MD := (yX8_enough, cX8_enough, 13, (some .int), { frames := 1, cells := 0, slots := 0, locals := 22 })
theorem cd_X8_enough : Cond.code yX8_enough cX8_enough 13 (some .int) ∈ Tb := tb_in 1202 (by decide +kernel) rfl
theorem mk_X8_enough : Mk mX8_enough 2 := ⟨in_X8, cd_X8_enough, by decide, by decide, by decide +kernel⟩
theorem im_X8_enough : Cond.instanceMethod yX8_enough ∈ Tb := tb_in 1200 (by decide +kernel) rfl
theorem se_X8_enough : Cond.selects RX8 yX8_enough yX8_enough ∈ Tb := tb_in 1201 (by decide +kernel) rfl
abbrev mX8_next : MD := (yX8_next, cX8_next, 9, (some .int), { frames := 4, cells := 0, slots := 0, locals := 95 })
theorem cd_X8_next : Cond.code yX8_next cX8_next 9 (some .int) ∈ Tb := tb_in 1209 (by decide +kernel) rfl
theorem mk_X8_next : Mk mX8_next 0 := ⟨in_X8, cd_X8_next, by decide, by decide, by decide +kernel⟩
theorem im_X8_next : Cond.instanceMethod yX8_next ∈ Tb := tb_in 1207 (by decide +kernel) rfl
theorem se_X8_next : Cond.selects RX8 yX8_next yX8_next ∈ Tb := tb_in 1208 (by decide +kernel) rfl
abbrev mX8_ofCoat : MD := (yX8_ofCoat, cX8_ofCoat, 3, (some .int), { frames := 0, cells := 0, slots := 0, locals := 0 })
theorem cd_X8_ofCoat : Cond.code yX8_ofCoat cX8_ofCoat 3 (some .int) ∈ Tb := tb_in 1218 (by decide +kernel) rfl
theorem mk_X8_ofCoat : Mk mX8_ofCoat 2 := ⟨in_X8, cd_X8_ofCoat, by decide, by decide, by decide +kernel⟩
theorem im_X8_ofCoat : Cond.instanceMethod yX8_ofCoat ∈ Tb := tb_in 1217 (by decide +kernel) rfl
theorem se_X8_ofCoat : Cond.selects RX8 yX8_ofCoat yX8_ofCoat ∈ Tb := tb_in 68 (by decide +kernel) rfl
abbrev mX8_ofWhole : MD := (yX8_ofWhole, cX8_ofWhole, 5, (some .int), { frames := 1, cells := 0, slots := 0, locals := 24 })
theorem cd_X8_ofWhole : Cond.code yX8_ofWhole cX8_ofWhole 5 (some .int) ∈ Tb := tb_in 1222 (by decide +kernel) rfl
theorem mk_X8_ofWhole : Mk mX8_ofWhole 2 := ⟨in_X8, cd_X8_ofWhole, by decide, by decide, by decide +kernel⟩
theorem im_X8_ofWhole : Cond.instanceMethod yX8_ofWhole ∈ Tb := tb_in 1221 (by decide +kernel) rfl
theorem se_X8_ofWhole : Cond.selects RX8 yX8_ofWhole yX8_ofWhole ∈ Tb := tb_in 69 (by decide +kernel) rfl
abbrev mX8_ofUnder : MD := (yX8_ofUnder, cX8_ofUnder, 3, (some .int), { frames := 1, cells := 0, slots := 0, locals := 22 })
theorem cd_X8_ofUnder : Cond.code yX8_ofUnder cX8_ofUnder 3 (some .int) ∈ Tb := tb_in 1226 (by decide +kernel) rfl
theorem mk_X8_ofUnder : Mk mX8_ofUnder 2 := ⟨in_X8, cd_X8_ofUnder, by decide, by decide, by decide +kernel⟩
theorem im_X8_ofUnder : Cond.instanceMethod yX8_ofUnder ∈ Tb := tb_in 1225 (by decide +kernel) rfl
theorem se_X8_ofUnder : Cond.selects RX8 yX8_ofUnder yX8_ofUnder ∈ Tb := tb_in 70 (by decide +kernel) rfl
abbrev mX8_rank : MD := (yX8_rank, cX8_rank, 4, (some .int), { frames := 4, cells := 0, slots := 0, locals := 95 })
theorem cd_X8_rank : Cond.code yX8_rank cX8_rank 4 (some .int) ∈ Tb := tb_in 1213 (by decide +kernel) rfl
theorem mk_X8_rank : Mk mX8_rank 3 := ⟨in_X8, cd_X8_rank, by decide, by decide, by decide +kernel⟩
theorem im_X8_rank : Cond.instanceMethod yX8_rank ∈ Tb := tb_in 1211 (by decide +kernel) rfl
theorem se_X8_rank : Cond.selects RX8 yX8_rank yX8_rank ∈ Tb := tb_in 1212 (by decide +kernel) rfl
abbrev mX8_keep : MD := (yX8_keep, cX8_keep, 3, (some .int), { frames := 1, cells := 0, slots := 0, locals := 22 })
theorem cd_X8_keep : Cond.code yX8_keep cX8_keep 3 (some .int) ∈ Tb := tb_in 1233 (by decide +kernel) rfl
theorem mk_X8_keep : Mk mX8_keep 1 := ⟨in_X8, cd_X8_keep, by decide, by decide, by decide +kernel⟩
theorem im_X8_keep : Cond.instanceMethod yX8_keep ∈ Tb := tb_in 1231 (by decide +kernel) rfl
theorem se_X8_keep : Cond.selects RX8 yX8_keep yX8_keep ∈ Tb := tb_in 1232 (by decide +kernel) rfl
abbrev mX8_back : MD := (yX8_back, cX8_back, 3, (some .int), { frames := 1, cells := 0, slots := 0, locals := 22 })
theorem cd_X8_back : Cond.code yX8_back cX8_back 3 (some .int) ∈ Tb := tb_in 1237 (by decide +kernel) rfl
theorem mk_X8_back : Mk mX8_back 1 := ⟨in_X8, cd_X8_back, by decide, by decide, by decide +kernel⟩
theorem im_X8_back : Cond.instanceMethod yX8_back ∈ Tb := tb_in 1235 (by decide +kernel) rfl
theorem se_X8_back : Cond.selects RX8 yX8_back yX8_back ∈ Tb := tb_in 1236 (by decide +kernel) rfl
abbrev mX8_count : MD := (yX8_count, cX8_count, 4, (some .int), { frames := 1, cells := 0, slots := 0, locals := 22 })
theorem cd_X8_count : Cond.code yX8_count cX8_count 4 (some .int) ∈ Tb := tb_in 1241 (by decide +kernel) rfl
theorem mk_X8_count : Mk mX8_count 1 := ⟨in_X8, cd_X8_count, by decide, by decide, by decide +kernel⟩
theorem im_X8_count : Cond.instanceMethod yX8_count ∈ Tb := tb_in 1239 (by decide +kernel) rfl
theorem se_X8_count : Cond.selects RX8 yX8_count yX8_count ∈ Tb := tb_in 1240 (by decide +kernel) rfl
abbrev mX8_trace : MD := (yX8_trace, cX8_trace, 1, (some .long), { frames := 0, cells := 0, slots := 0, locals := 0 })
theorem cd_X8_trace : Cond.code yX8_trace cX8_trace 1 (some .long) ∈ Tb := tb_in 1245 (by decide +kernel) rfl
theorem mk_X8_trace : Mk mX8_trace 0 := ⟨in_X8, cd_X8_trace, by decide, by decide, by decide +kernel⟩
theorem im_X8_trace : Cond.instanceMethod yX8_trace ∈ Tb := tb_in 1243 (by decide +kernel) rfl
theorem se_X8_trace : Cond.selects RX8 yX8_trace yX8_trace ∈ Tb := tb_in 1244 (by decide +kernel) rfl
abbrev mJ6_bitCount_0f7a4 : MD := (yJ6_bitCount_0f7a4, cJ6_bitCount_0f7a4, 1, (some .int), { frames := 0, cells := 0, slots := 0, locals := 0 })
theorem cd_J6_bitCount_0f7a4 : Cond.code yJ6_bitCount_0f7a4 cJ6_bitCount_0f7a4 1 (some .int) ∈ Tb := tb_in 796 (by decide +kernel) rfl
theorem mk_J6_bitCount_0f7a4 : Mk mJ6_bitCount_0f7a4 1 := ⟨in_J6, cd_J6_bitCount_0f7a4, by decide, by decide, by decide +kernel⟩
theorem sm_J6_bitCount_0f7a4 : Cond.static yJ6_bitCount_0f7a4 ∈ Tb := tb_in 795 (by decide +kernel) rfl
abbrev mJ9_abs_0f7a4 : MD := (yJ9_abs_0f7a4, cJ9_abs_0f7a4, 1, (some .int), { frames := 0, cells := 0, slots := 0, locals := 0 })
theorem cd_J9_abs_0f7a4 : Cond.code yJ9_abs_0f7a4 cJ9_abs_0f7a4 1 (some .int) ∈ Tb := tb_in 661 (by decide +kernel) rfl
theorem mk_J9_abs_0f7a4 : Mk mJ9_abs_0f7a4 1 := ⟨in_J9, cd_J9_abs_0f7a4, by decide, by decide, by decide +kernel⟩
theorem sm_J9_abs_0f7a4 : Cond.static yJ9_abs_0f7a4 ∈ Tb := tb_in 660 (by decide +kernel) rfl
abbrev mJ9_max_7cf53 : MD := (yJ9_max_7cf53, cJ9_max_7cf53, 2, (some .int), { frames := 0, cells := 0, slots := 0, locals := 0 })
theorem cd_J9_max_7cf53 : Cond.code yJ9_max_7cf53 cJ9_max_7cf53 2 (some .int) ∈ Tb := tb_in 590 (by decide +kernel) rfl
theorem mk_J9_max_7cf53 : Mk mJ9_max_7cf53 2 := ⟨in_J9, cd_J9_max_7cf53, by decide, by decide, by decide +kernel⟩
theorem sm_J9_max_7cf53 : Cond.static yJ9_max_7cf53 ∈ Tb := tb_in 589 (by decide +kernel) rfl
abbrev mJ9_min_7cf53 : MD := (yJ9_min_7cf53, cJ9_min_7cf53, 2, (some .int), { frames := 0, cells := 0, slots := 0, locals := 0 })
theorem cd_J9_min_7cf53 : Cond.code yJ9_min_7cf53 cJ9_min_7cf53 2 (some .int) ∈ Tb := tb_in 726 (by decide +kernel) rfl
theorem mk_J9_min_7cf53 : Mk mJ9_min_7cf53 2 := ⟨in_J9, cd_J9_min_7cf53, by decide, by decide, by decide +kernel⟩
theorem sm_J9_min_7cf53 : Cond.static yJ9_min_7cf53 ∈ Tb := tb_in 725 (by decide +kernel) rfl
abbrev mJ0_length_8abf5 : MD := (yJ0_length_8abf5, cJ0_length_8abf5, 1, (some .int), { frames := 1, cells := 0, slots := 0, locals := 20 })
theorem cd_J0_length_8abf5 : Cond.code yJ0_length_8abf5 cJ0_length_8abf5 1 (some .int) ∈ Tb := tb_in 443 (by decide +kernel) rfl
theorem mk_J0_length_8abf5 : Mk mJ0_length_8abf5 0 := ⟨in_J0, cd_J0_length_8abf5, by decide, by decide, by decide +kernel⟩
theorem im_J0_length_8abf5 : Cond.instanceMethod yJ0_length_8abf5 ∈ Tb := tb_in 441 (by decide +kernel) rfl
theorem se_J0_length_8abf5 : Cond.selects RJ0 yJ0_length_8abf5 yJ0_length_8abf5 ∈ Tb := tb_in 442 (by decide +kernel) rfl
abbrev mJ0_charAt_5068e : MD := (yJ0_charAt_5068e, cJ0_charAt_5068e, 2, (some .char), { frames := 4, cells := 0, slots := 0, locals := 85 })
theorem cd_J0_charAt_5068e : Cond.code yJ0_charAt_5068e cJ0_charAt_5068e 2 (some .char) ∈ Tb := tb_in 453 (by decide +kernel) rfl
theorem mk_J0_charAt_5068e : Mk mJ0_charAt_5068e 1 := ⟨in_J0, cd_J0_charAt_5068e, by decide, by decide, by decide +kernel⟩
theorem im_J0_charAt_5068e : Cond.instanceMethod yJ0_charAt_5068e ∈ Tb := tb_in 451 (by decide +kernel) rfl
theorem se_J0_charAt_5068e : Cond.selects RJ0 yJ0_charAt_5068e yJ0_charAt_5068e ∈ Tb := tb_in 452 (by decide +kernel) rfl
abbrev mJ0_coder_7d493 : MD := (yJ0_coder_7d493, cJ0_coder_7d493, 1, (some .byte), { frames := 0, cells := 0, slots := 0, locals := 0 })
theorem cd_J0_coder_7d493 : Cond.code yJ0_coder_7d493 cJ0_coder_7d493 1 (some .byte) ∈ Tb := tb_in 447 (by decide +kernel) rfl
theorem mk_J0_coder_7d493 : Mk mJ0_coder_7d493 0 := ⟨in_J0, cd_J0_coder_7d493, by decide, by decide, by decide +kernel⟩
theorem im_J0_coder_7d493 : Cond.instanceMethod yJ0_coder_7d493 ∈ Tb := tb_in 445 (by decide +kernel) rfl
theorem se_J0_coder_7d493 : Cond.selects RJ0 yJ0_coder_7d493 yJ0_coder_7d493 ∈ Tb := tb_in 446 (by decide +kernel) rfl
abbrev mJ0_isLatin1_aae02 : MD := (yJ0_isLatin1_aae02, cJ0_isLatin1_aae02, 1, (some .boolean), { frames := 0, cells := 0, slots := 0, locals := 0 })
theorem cd_J0_isLatin1_aae02 : Cond.code yJ0_isLatin1_aae02 cJ0_isLatin1_aae02 1 (some .boolean) ∈ Tb := tb_in 457 (by decide +kernel) rfl
theorem mk_J0_isLatin1_aae02 : Mk mJ0_isLatin1_aae02 0 := ⟨in_J0, cd_J0_isLatin1_aae02, by decide, by decide, by decide +kernel⟩
theorem im_J0_isLatin1_aae02 : Cond.instanceMethod yJ0_isLatin1_aae02 ∈ Tb := tb_in 455 (by decide +kernel) rfl
theorem se_J0_isLatin1_aae02 : Cond.selects RJ0 yJ0_isLatin1_aae02 yJ0_isLatin1_aae02 ∈ Tb := tb_in 456 (by decide +kernel) rfl
abbrev mJ0_checkIndex_df160 : MD := (yJ0_checkIndex_df160, cJ0_checkIndex_df160, 2, none, { frames := 1, cells := 0, slots := 0, locals := 22 })
theorem cd_J0_checkIndex_df160 : Cond.code yJ0_checkIndex_df160 cJ0_checkIndex_df160 2 none ∈ Tb := tb_in 463 (by decide +kernel) rfl
theorem mk_J0_checkIndex_df160 : Mk mJ0_checkIndex_df160 2 := ⟨in_J0, cd_J0_checkIndex_df160, by decide, by decide, by decide +kernel⟩
theorem sm_J0_checkIndex_df160 : Cond.static yJ0_checkIndex_df160 ∈ Tb := tb_in 462 (by decide +kernel) rfl
abbrev mJ1_charAt_3b067 : MD := (yJ1_charAt_3b067, cJ1_charAt_3b067, 2, (some .char), { frames := 2, cells := 0, slots := 0, locals := 43 })
theorem cd_J1_charAt_3b067 : Cond.code yJ1_charAt_3b067 cJ1_charAt_3b067 2 (some .char) ∈ Tb := tb_in 460 (by decide +kernel) rfl
theorem mk_J1_charAt_3b067 : Mk mJ1_charAt_3b067 2 := ⟨in_J1, cd_J1_charAt_3b067, by decide, by decide, by decide +kernel⟩
theorem sm_J1_charAt_3b067 : Cond.static yJ1_charAt_3b067 ∈ Tb := tb_in 459 (by decide +kernel) rfl
abbrev mJ2_getChar_3b067 : MD := (yJ2_getChar_3b067, cJ2_getChar_3b067, 2, (some .char), { frames := 1, cells := 0, slots := 0, locals := 20 })
theorem cd_J2_getChar_3b067 : Cond.code yJ2_getChar_3b067 cJ2_getChar_3b067 2 (some .char) ∈ Tb := tb_in 481 (by decide +kernel) rfl
theorem mk_J2_getChar_3b067 : Mk mJ2_getChar_3b067 2 := ⟨in_J2, cd_J2_getChar_3b067, by decide, by decide, by decide +kernel⟩
theorem sm_J2_getChar_3b067 : Cond.static yJ2_getChar_3b067 ∈ Tb := tb_in 480 (by decide +kernel) rfl
abbrev mJ2_length_9d52b : MD := (yJ2_length_9d52b, cJ2_length_9d52b, 1, (some .int), { frames := 0, cells := 0, slots := 0, locals := 0 })
theorem cd_J2_length_9d52b : Cond.code yJ2_length_9d52b cJ2_length_9d52b 1 (some .int) ∈ Tb := tb_in 477 (by decide +kernel) rfl
theorem mk_J2_length_9d52b : Mk mJ2_length_9d52b 1 := ⟨in_J2, cd_J2_length_9d52b, by decide, by decide, by decide +kernel⟩
theorem sm_J2_length_9d52b : Cond.static yJ2_length_9d52b ∈ Tb := tb_in 476 (by decide +kernel) rfl
abbrev mJ2_charAt_3b067 : MD := (yJ2_charAt_3b067, cJ2_charAt_3b067, 2, (some .char), { frames := 3, cells := 0, slots := 0, locals := 64 })
theorem cd_J2_charAt_3b067 : Cond.code yJ2_charAt_3b067 cJ2_charAt_3b067 2 (some .char) ∈ Tb := tb_in 471 (by decide +kernel) rfl
theorem mk_J2_charAt_3b067 : Mk mJ2_charAt_3b067 2 := ⟨in_J2, cd_J2_charAt_3b067, by decide, by decide, by decide +kernel⟩
theorem sm_J2_charAt_3b067 : Cond.static yJ2_charAt_3b067 ∈ Tb := tb_in 470 (by decide +kernel) rfl
abbrev mJ2_checkIndex_2214a : MD := (yJ2_checkIndex_2214a, cJ2_checkIndex_2214a, 2, none, { frames := 2, cells := 0, slots := 0, locals := 43 })
theorem cd_J2_checkIndex_2214a : Cond.code yJ2_checkIndex_2214a cJ2_checkIndex_2214a 2 none ∈ Tb := tb_in 474 (by decide +kernel) rfl
theorem mk_J2_checkIndex_2214a : Mk mJ2_checkIndex_2214a 2 := ⟨in_J2, cd_J2_checkIndex_2214a, by decide, by decide, by decide +kernel⟩
theorem sm_J2_checkIndex_2214a : Cond.static yJ2_checkIndex_2214a ∈ Tb := tb_in 473 (by decide +kernel) rfl
abbrev mJ7_fill_53178 : MD := (yJ7_fill_53178, cJ7_fill_53178, 4, none, { frames := 0, cells := 0, slots := 0, locals := 0 })
theorem cd_J7_fill_53178 : Cond.code yJ7_fill_53178 cJ7_fill_53178 4 none ∈ Tb := tb_in 317 (by decide +kernel) rfl
theorem mk_J7_fill_53178 : Mk mJ7_fill_53178 2 := ⟨in_J7, cd_J7_fill_53178, by decide, by decide, by decide +kernel⟩
theorem sm_J7_fill_53178 : Cond.static yJ7_fill_53178 ∈ Tb := tb_in 316 (by decide +kernel) rfl
abbrev mJ3_checkIndex_8e157 : MD := (yJ3_checkIndex_8e157, cJ3_checkIndex_8e157, 3, (some .int), { frames := 0, cells := 0, slots := 0, locals := 0 })
theorem cd_J3_checkIndex_8e157 : Cond.code yJ3_checkIndex_8e157 cJ3_checkIndex_8e157 3 (some .int) ∈ Tb := tb_in 468 (by decide +kernel) rfl
theorem mk_J3_checkIndex_8e157 : Mk mJ3_checkIndex_8e157 3 := ⟨in_J3, cd_J3_checkIndex_8e157, by decide, by decide, by decide +kernel⟩
theorem sm_J3_checkIndex_8e157 : Cond.static yJ3_checkIndex_8e157 ∈ Tb := tb_in 467 (by decide +kernel) rfl
theorem cl_L_7 : Cond.classLink RL 7 RX7 ∈ Tb := tb_in 89 (by decide +kernel) rfl
theorem nw_X7 : Cond.instantiable RX7 12 ∈ Tb := tb_in 90 (by decide +kernel) rfl
theorem ml_L_9 : Cond.methodLink RL 9 yX7_init ∈ Tb := tb_in 91 (by decide +kernel) rfl
theorem cl_X7_9 : Cond.classLink RX7 9 RX5 ∈ Tb := tb_in 97 (by decide +kernel) rfl
theorem nw_X5 : Cond.instantiable RX5 8 ∈ Tb := tb_in 98 (by decide +kernel) rfl
theorem fl_X5_9 : Cond.fieldLink RX5 9 (TX5 0).1 (TX5 0).2.1 (TX5 0).2.2.1 ∈ Tb := tb_in 103 (by decide +kernel) rfl
theorem fl_X5_25 : Cond.fieldLink RX5 25 (TX5 1).1 (TX5 1).2.1 (TX5 1).2.2.1 ∈ Tb := tb_in 104 (by decide +kernel) rfl
theorem fl_X7_69 : Cond.fieldLink RX7 69 (TX5 1).1 (TX5 1).2.1 (TX5 1).2.2.1 ∈ Tb := tb_in 105 (by decide +kernel) rfl
theorem fl_X1_28 : Cond.fieldLink RX1 28 (TX5 2).1 (TX5 2).2.1 (TX5 2).2.2.1 ∈ Tb := tb_in 106 (by decide +kernel) rfl
theorem fl_X0_65 : Cond.fieldLink RX0 65 (TX5 2).1 (TX5 2).2.1 (TX5 2).2.2.1 ∈ Tb := tb_in 107 (by decide +kernel) rfl
theorem fl_X5_43 : Cond.fieldLink RX5 43 (TX5 2).1 (TX5 2).2.1 (TX5 2).2.2.1 ∈ Tb := tb_in 108 (by decide +kernel) rfl
theorem fl_X5_15 : Cond.fieldLink RX5 15 (TX5 3).1 (TX5 3).2.1 (TX5 3).2.2.1 ∈ Tb := tb_in 109 (by decide +kernel) rfl
theorem fl_X5_19 : Cond.fieldLink RX5 19 (TX5 4).1 (TX5 4).2.1 (TX5 4).2.2.1 ∈ Tb := tb_in 110 (by decide +kernel) rfl
theorem fl_X5_22 : Cond.fieldLink RX5 22 (TX5 5).1 (TX5 5).2.1 (TX5 5).2.2.1 ∈ Tb := tb_in 111 (by decide +kernel) rfl
theorem fl_X5_29 : Cond.fieldLink RX5 29 (TX5 6).1 (TX5 6).2.1 (TX5 6).2.2.1 ∈ Tb := tb_in 112 (by decide +kernel) rfl
theorem fl_X5_32 : Cond.fieldLink RX5 32 (TX5 7).1 (TX5 7).2.1 (TX5 7).2.2.1 ∈ Tb := tb_in 113 (by decide +kernel) rfl
theorem cl_X7_16 : Cond.classLink RX7 16 RX4 ∈ Tb := tb_in 133 (by decide +kernel) rfl
theorem nw_X4 : Cond.instantiable RX4 3 ∈ Tb := tb_in 134 (by decide +kernel) rfl
theorem ml_X7_18 : Cond.methodLink RX7 18 yX4_init ∈ Tb := tb_in 135 (by decide +kernel) rfl
theorem cl_X4_9 : Cond.classLink RX4 9 RX1 ∈ Tb := tb_in 139 (by decide +kernel) rfl
theorem nw_X1 : Cond.instantiable RX1 5 ∈ Tb := tb_in 141 (by decide +kernel) rfl
theorem fl_X1_9 : Cond.fieldLink RX1 9 (TX1 0).1 (TX1 0).2.1 (TX1 0).2.2.1 ∈ Tb := tb_in 146 (by decide +kernel) rfl
theorem fl_X3_87 : Cond.fieldLink RX3 87 (TX1 0).1 (TX1 0).2.1 (TX1 0).2.2.1 ∈ Tb := tb_in 147 (by decide +kernel) rfl
theorem fl_X2_57 : Cond.fieldLink RX2 57 (TX1 0).1 (TX1 0).2.1 (TX1 0).2.2.1 ∈ Tb := tb_in 148 (by decide +kernel) rfl
theorem fl_X7_122 : Cond.fieldLink RX7 122 (TX1 0).1 (TX1 0).2.1 (TX1 0).2.2.1 ∈ Tb := tb_in 149 (by decide +kernel) rfl
theorem fl_X1_15 : Cond.fieldLink RX1 15 (TX1 1).1 (TX1 1).2.1 (TX1 1).2.2.1 ∈ Tb := tb_in 150 (by decide +kernel) rfl
theorem fl_X7_125 : Cond.fieldLink RX7 125 (TX1 1).1 (TX1 1).2.1 (TX1 1).2.2.1 ∈ Tb := tb_in 151 (by decide +kernel) rfl
theorem fl_X3_95 : Cond.fieldLink RX3 95 (TX1 1).1 (TX1 1).2.1 (TX1 1).2.2.1 ∈ Tb := tb_in 152 (by decide +kernel) rfl
theorem fl_X2_60 : Cond.fieldLink RX2 60 (TX1 1).1 (TX1 1).2.1 (TX1 1).2.2.1 ∈ Tb := tb_in 153 (by decide +kernel) rfl
theorem fl_X1_32 : Cond.fieldLink RX1 32 (TX1 2).1 (TX1 2).2.1 (TX1 2).2.2.1 ∈ Tb := tb_in 154 (by decide +kernel) rfl
theorem fl_X4_29 : Cond.fieldLink RX4 29 (TX1 2).1 (TX1 2).2.1 (TX1 2).2.2.1 ∈ Tb := tb_in 155 (by decide +kernel) rfl
theorem fl_X7_109 : Cond.fieldLink RX7 109 (TX1 2).1 (TX1 2).2.1 (TX1 2).2.2.1 ∈ Tb := tb_in 156 (by decide +kernel) rfl
theorem fl_X2_36 : Cond.fieldLink RX2 36 (TX1 3).1 (TX1 3).2.1 (TX1 3).2.2.1 ∈ Tb := tb_in 157 (by decide +kernel) rfl
theorem fl_X3_60 : Cond.fieldLink RX3 60 (TX1 3).1 (TX1 3).2.1 (TX1 3).2.2.1 ∈ Tb := tb_in 158 (by decide +kernel) rfl
theorem fl_X1_46 : Cond.fieldLink RX1 46 (TX1 3).1 (TX1 3).2.1 (TX1 3).2.2.1 ∈ Tb := tb_in 159 (by decide +kernel) rfl
theorem fl_X4_26 : Cond.fieldLink RX4 26 (TX1 3).1 (TX1 3).2.1 (TX1 3).2.2.1 ∈ Tb := tb_in 160 (by decide +kernel) rfl
theorem fl_X7_115 : Cond.fieldLink RX7 115 (TX1 3).1 (TX1 3).2.1 (TX1 3).2.2.1 ∈ Tb := tb_in 161 (by decide +kernel) rfl
theorem fl_X1_35 : Cond.fieldLink RX1 35 (TX1 4).1 (TX1 4).2.1 (TX1 4).2.2.1 ∈ Tb := tb_in 162 (by decide +kernel) rfl
theorem fl_X7_112 : Cond.fieldLink RX7 112 (TX1 4).1 (TX1 4).2.1 (TX1 4).2.2.1 ∈ Tb := tb_in 163 (by decide +kernel) rfl
theorem fl_X4_11 : Cond.fieldLink RX4 11 (TX4 0).1 (TX4 0).2.1 (TX4 0).2.2.1 ∈ Tb := tb_in 175 (by decide +kernel) rfl
theorem fl_X3_56 : Cond.fieldLink RX3 56 (TX4 0).1 (TX4 0).2.1 (TX4 0).2.2.1 ∈ Tb := tb_in 176 (by decide +kernel) rfl
theorem fl_X7_79 : Cond.fieldLink RX7 79 (TX4 0).1 (TX4 0).2.1 (TX4 0).2.2.1 ∈ Tb := tb_in 177 (by decide +kernel) rfl
theorem fl_X4_18 : Cond.fieldLink RX4 18 (TX4 1).1 (TX4 1).2.1 (TX4 1).2.2.1 ∈ Tb := tb_in 178 (by decide +kernel) rfl
theorem fl_X3_50 : Cond.fieldLink RX3 50 (TX4 1).1 (TX4 1).2.1 (TX4 1).2.2.1 ∈ Tb := tb_in 179 (by decide +kernel) rfl
theorem fl_X7_73 : Cond.fieldLink RX7 73 (TX4 1).1 (TX4 1).2.1 (TX4 1).2.2.1 ∈ Tb := tb_in 180 (by decide +kernel) rfl
theorem fl_X7_261 : Cond.fieldLink RX7 261 (TX4 2).1 (TX4 2).2.1 (TX4 2).2.2.1 ∈ Tb := tb_in 181 (by decide +kernel) rfl
theorem cl_X7_34 : Cond.classLink RX7 34 RX2 ∈ Tb := tb_in 190 (by decide +kernel) rfl
theorem nw_X2 : Cond.instantiable RX2 7 ∈ Tb := tb_in 191 (by decide +kernel) rfl
theorem fl_X2_11 : Cond.fieldLink RX2 11 (TX2 0).1 (TX2 0).2.1 (TX2 0).2.2.1 ∈ Tb := tb_in 196 (by decide +kernel) rfl
theorem fl_X2_15 : Cond.fieldLink RX2 15 (TX2 1).1 (TX2 1).2.1 (TX2 1).2.2.1 ∈ Tb := tb_in 197 (by decide +kernel) rfl
theorem fl_X2_19 : Cond.fieldLink RX2 19 (TX2 2).1 (TX2 2).2.1 (TX2 2).2.2.1 ∈ Tb := tb_in 198 (by decide +kernel) rfl
theorem fl_X2_23 : Cond.fieldLink RX2 23 (TX2 3).1 (TX2 3).2.1 (TX2 3).2.2.1 ∈ Tb := tb_in 199 (by decide +kernel) rfl
theorem fl_X2_26 : Cond.fieldLink RX2 26 (TX2 4).1 (TX2 4).2.1 (TX2 4).2.2.1 ∈ Tb := tb_in 200 (by decide +kernel) rfl
theorem fl_X2_29 : Cond.fieldLink RX2 29 (TX2 5).1 (TX2 5).2.1 (TX2 5).2.2.1 ∈ Tb := tb_in 201 (by decide +kernel) rfl
theorem fl_X2_33 : Cond.fieldLink RX2 33 (TX2 6).1 (TX2 6).2.1 (TX2 6).2.2.1 ∈ Tb := tb_in 202 (by decide +kernel) rfl
theorem cl_X7_41 : Cond.classLink RX7 41 RX3 ∈ Tb := tb_in 219 (by decide +kernel) rfl
theorem nw_X3 : Cond.instantiable RX3 14 ∈ Tb := tb_in 220 (by decide +kernel) rfl
theorem fl_X6_24 : Cond.fieldLink RX6 24 (TX3 0).1 (TX3 0).2.1 (TX3 0).2.2.1 ∈ Tb := tb_in 225 (by decide +kernel) rfl
theorem fl_X3_79 : Cond.fieldLink RX3 79 (TX3 0).1 (TX3 0).2.1 (TX3 0).2.2.1 ∈ Tb := tb_in 226 (by decide +kernel) rfl
theorem fl_X7_170 : Cond.fieldLink RX7 170 (TX3 0).1 (TX3 0).2.1 (TX3 0).2.2.1 ∈ Tb := tb_in 227 (by decide +kernel) rfl
theorem fl_X3_9 : Cond.fieldLink RX3 9 (TX3 1).1 (TX3 1).2.1 (TX3 1).2.2.1 ∈ Tb := tb_in 228 (by decide +kernel) rfl
theorem fl_X6_34 : Cond.fieldLink RX6 34 (TX3 1).1 (TX3 1).2.1 (TX3 1).2.2.1 ∈ Tb := tb_in 229 (by decide +kernel) rfl
theorem fl_X7_174 : Cond.fieldLink RX7 174 (TX3 1).1 (TX3 1).2.1 (TX3 1).2.2.1 ∈ Tb := tb_in 230 (by decide +kernel) rfl
theorem fl_X3_15 : Cond.fieldLink RX3 15 (TX3 2).1 (TX3 2).2.1 (TX3 2).2.2.1 ∈ Tb := tb_in 231 (by decide +kernel) rfl
theorem fl_X7_175 : Cond.fieldLink RX7 175 (TX3 2).1 (TX3 2).2.1 (TX3 2).2.2.1 ∈ Tb := tb_in 232 (by decide +kernel) rfl
theorem fl_X3_18 : Cond.fieldLink RX3 18 (TX3 3).1 (TX3 3).2.1 (TX3 3).2.2.1 ∈ Tb := tb_in 233 (by decide +kernel) rfl
theorem fl_X6_51 : Cond.fieldLink RX6 51 (TX3 3).1 (TX3 3).2.1 (TX3 3).2.2.1 ∈ Tb := tb_in 234 (by decide +kernel) rfl
theorem fl_X3_21 : Cond.fieldLink RX3 21 (TX3 4).1 (TX3 4).2.1 (TX3 4).2.2.1 ∈ Tb := tb_in 235 (by decide +kernel) rfl
theorem fl_X7_280 : Cond.fieldLink RX7 280 (TX3 4).1 (TX3 4).2.1 (TX3 4).2.2.1 ∈ Tb := tb_in 236 (by decide +kernel) rfl
theorem fl_X3_24 : Cond.fieldLink RX3 24 (TX3 5).1 (TX3 5).2.1 (TX3 5).2.2.1 ∈ Tb := tb_in 237 (by decide +kernel) rfl
theorem fl_X3_28 : Cond.fieldLink RX3 28 (TX3 6).1 (TX3 6).2.1 (TX3 6).2.2.1 ∈ Tb := tb_in 238 (by decide +kernel) rfl
theorem fl_X3_31 : Cond.fieldLink RX3 31 (TX3 7).1 (TX3 7).2.1 (TX3 7).2.2.1 ∈ Tb := tb_in 239 (by decide +kernel) rfl
theorem fl_X3_34 : Cond.fieldLink RX3 34 (TX3 8).1 (TX3 8).2.1 (TX3 8).2.2.1 ∈ Tb := tb_in 240 (by decide +kernel) rfl
theorem fl_X3_37 : Cond.fieldLink RX3 37 (TX3 9).1 (TX3 9).2.1 (TX3 9).2.2.1 ∈ Tb := tb_in 241 (by decide +kernel) rfl
theorem fl_X3_40 : Cond.fieldLink RX3 40 (TX3 10).1 (TX3 10).2.1 (TX3 10).2.2.1 ∈ Tb := tb_in 242 (by decide +kernel) rfl
theorem fl_X3_80 : Cond.fieldLink RX3 80 (TX3 11).1 (TX3 11).2.1 (TX3 11).2.2.1 ∈ Tb := tb_in 243 (by decide +kernel) rfl
theorem fl_X3_43 : Cond.fieldLink RX3 43 (TX3 12).1 (TX3 12).2.1 (TX3 12).2.2.1 ∈ Tb := tb_in 244 (by decide +kernel) rfl
theorem fl_X3_47 : Cond.fieldLink RX3 47 (TX3 13).1 (TX3 13).2.1 (TX3 13).2.2.1 ∈ Tb := tb_in 245 (by decide +kernel) rfl
theorem cl_X7_48 : Cond.classLink RX7 48 RX6 ∈ Tb := tb_in 275 (by decide +kernel) rfl
theorem nw_X6 : Cond.instantiable RX6 6 ∈ Tb := tb_in 276 (by decide +kernel) rfl
theorem fl_X6_30 : Cond.fieldLink RX6 30 (TX6 0).1 (TX6 0).2.1 (TX6 0).2.2.1 ∈ Tb := tb_in 281 (by decide +kernel) rfl
theorem fl_X7_191 : Cond.fieldLink RX7 191 (TX6 0).1 (TX6 0).2.1 (TX6 0).2.2.1 ∈ Tb := tb_in 282 (by decide +kernel) rfl
theorem fl_X6_9 : Cond.fieldLink RX6 9 (TX6 1).1 (TX6 1).2.1 (TX6 1).2.2.1 ∈ Tb := tb_in 283 (by decide +kernel) rfl
theorem fl_X7_194 : Cond.fieldLink RX7 194 (TX6 1).1 (TX6 1).2.1 (TX6 1).2.2.1 ∈ Tb := tb_in 284 (by decide +kernel) rfl
theorem fl_X6_15 : Cond.fieldLink RX6 15 (TX6 2).1 (TX6 2).2.1 (TX6 2).2.2.1 ∈ Tb := tb_in 285 (by decide +kernel) rfl
theorem fl_X7_197 : Cond.fieldLink RX7 197 (TX6 2).1 (TX6 2).2.1 (TX6 2).2.2.1 ∈ Tb := tb_in 286 (by decide +kernel) rfl
theorem fl_X6_67 : Cond.fieldLink RX6 67 (TX6 3).1 (TX6 3).2.1 (TX6 3).2.2.1 ∈ Tb := tb_in 287 (by decide +kernel) rfl
theorem fl_X7_216 : Cond.fieldLink RX7 216 (TX6 3).1 (TX6 3).2.1 (TX6 3).2.2.1 ∈ Tb := tb_in 288 (by decide +kernel) rfl
theorem fl_X6_18 : Cond.fieldLink RX6 18 (TX6 4).1 (TX6 4).2.1 (TX6 4).2.2.1 ∈ Tb := tb_in 289 (by decide +kernel) rfl
theorem fl_X7_219 : Cond.fieldLink RX7 219 (TX6 4).1 (TX6 4).2.1 (TX6 4).2.2.1 ∈ Tb := tb_in 290 (by decide +kernel) rfl
theorem fl_X6_21 : Cond.fieldLink RX6 21 (TX6 5).1 (TX6 5).2.1 (TX6 5).2.2.1 ∈ Tb := tb_in 291 (by decide +kernel) rfl
theorem cl_X7_55 : Cond.classLink RX7 55 RX0 ∈ Tb := tb_in 305 (by decide +kernel) rfl
theorem nw_X0 : Cond.instantiable RX0 7 ∈ Tb := tb_in 306 (by decide +kernel) rfl
theorem ml_X7_57 : Cond.methodLink RX7 57 yX0_init ∈ Tb := tb_in 307 (by decide +kernel) rfl
theorem ml_X0_27 : Cond.methodLink RX0 27 yX0_empty ∈ Tb := tb_in 311 (by decide +kernel) rfl
theorem ml_X0_30 : Cond.methodLink RX0 30 yJ7_fill_53178 ∈ Tb := tb_in 315 (by decide +kernel) rfl
theorem fl_X0_9 : Cond.fieldLink RX0 9 (TX0 0).1 (TX0 0).2.1 (TX0 0).2.2.1 ∈ Tb := tb_in 318 (by decide +kernel) rfl
theorem fl_X6_37 : Cond.fieldLink RX6 37 (TX0 0).1 (TX0 0).2.1 (TX0 0).2.2.1 ∈ Tb := tb_in 319 (by decide +kernel) rfl
theorem fl_X7_135 : Cond.fieldLink RX7 135 (TX0 0).1 (TX0 0).2.1 (TX0 0).2.2.1 ∈ Tb := tb_in 320 (by decide +kernel) rfl
theorem fl_X0_15 : Cond.fieldLink RX0 15 (TX0 1).1 (TX0 1).2.1 (TX0 1).2.2.1 ∈ Tb := tb_in 321 (by decide +kernel) rfl
theorem fl_X6_48 : Cond.fieldLink RX6 48 (TX0 1).1 (TX0 1).2.1 (TX0 1).2.2.1 ∈ Tb := tb_in 322 (by decide +kernel) rfl
theorem fl_X7_138 : Cond.fieldLink RX7 138 (TX0 1).1 (TX0 1).2.1 (TX0 1).2.2.1 ∈ Tb := tb_in 323 (by decide +kernel) rfl
theorem fl_X0_18 : Cond.fieldLink RX0 18 (TX0 2).1 (TX0 2).2.1 (TX0 2).2.2.1 ∈ Tb := tb_in 324 (by decide +kernel) rfl
theorem fl_X7_141 : Cond.fieldLink RX7 141 (TX0 2).1 (TX0 2).2.1 (TX0 2).2.2.1 ∈ Tb := tb_in 325 (by decide +kernel) rfl
theorem fl_X0_21 : Cond.fieldLink RX0 21 (TX0 3).1 (TX0 3).2.1 (TX0 3).2.2.1 ∈ Tb := tb_in 326 (by decide +kernel) rfl
theorem fl_X6_74 : Cond.fieldLink RX6 74 (TX0 3).1 (TX0 3).2.1 (TX0 3).2.2.1 ∈ Tb := tb_in 327 (by decide +kernel) rfl
theorem fl_X7_206 : Cond.fieldLink RX7 206 (TX0 3).1 (TX0 3).2.1 (TX0 3).2.2.1 ∈ Tb := tb_in 328 (by decide +kernel) rfl
theorem fl_X0_24 : Cond.fieldLink RX0 24 (TX0 4).1 (TX0 4).2.1 (TX0 4).2.2.1 ∈ Tb := tb_in 329 (by decide +kernel) rfl
theorem fl_X6_77 : Cond.fieldLink RX6 77 (TX0 4).1 (TX0 4).2.1 (TX0 4).2.2.1 ∈ Tb := tb_in 330 (by decide +kernel) rfl
theorem fl_X7_209 : Cond.fieldLink RX7 209 (TX0 4).1 (TX0 4).2.1 (TX0 4).2.2.1 ∈ Tb := tb_in 331 (by decide +kernel) rfl
theorem fl_X0_36 : Cond.fieldLink RX0 36 (TX0 5).1 (TX0 5).2.1 (TX0 5).2.2.1 ∈ Tb := tb_in 332 (by decide +kernel) rfl
theorem fl_X6_57 : Cond.fieldLink RX6 57 (TX0 5).1 (TX0 5).2.1 (TX0 5).2.2.1 ∈ Tb := tb_in 333 (by decide +kernel) rfl
theorem fl_X7_203 : Cond.fieldLink RX7 203 (TX0 5).1 (TX0 5).2.1 (TX0 5).2.2.1 ∈ Tb := tb_in 334 (by decide +kernel) rfl
theorem fl_X0_40 : Cond.fieldLink RX0 40 (TX0 6).1 (TX0 6).2.1 (TX0 6).2.2.1 ∈ Tb := tb_in 335 (by decide +kernel) rfl
theorem fl_X7_98 : Cond.fieldLink RX7 98 (TX0 6).1 (TX0 6).2.1 (TX0 6).2.2.1 ∈ Tb := tb_in 336 (by decide +kernel) rfl
theorem fl_X7_12 : Cond.fieldLink RX7 12 (TX7 0).1 (TX7 0).2.1 (TX7 0).2.2.1 ∈ Tb := tb_in 352 (by decide +kernel) rfl
theorem fl_X7_19 : Cond.fieldLink RX7 19 (TX7 1).1 (TX7 1).2.1 (TX7 1).2.2.1 ∈ Tb := tb_in 353 (by decide +kernel) rfl
theorem fl_X7_23 : Cond.fieldLink RX7 23 (TX7 2).1 (TX7 2).2.1 (TX7 2).2.2.1 ∈ Tb := tb_in 354 (by decide +kernel) rfl
theorem fl_X7_27 : Cond.fieldLink RX7 27 (TX7 3).1 (TX7 3).2.1 (TX7 3).2.2.1 ∈ Tb := tb_in 355 (by decide +kernel) rfl
theorem fl_X7_31 : Cond.fieldLink RX7 31 (TX7 4).1 (TX7 4).2.1 (TX7 4).2.2.1 ∈ Tb := tb_in 356 (by decide +kernel) rfl
theorem fl_X7_37 : Cond.fieldLink RX7 37 (TX7 5).1 (TX7 5).2.1 (TX7 5).2.2.1 ∈ Tb := tb_in 357 (by decide +kernel) rfl
theorem fl_X7_44 : Cond.fieldLink RX7 44 (TX7 6).1 (TX7 6).2.1 (TX7 6).2.2.1 ∈ Tb := tb_in 358 (by decide +kernel) rfl
theorem fl_X7_51 : Cond.fieldLink RX7 51 (TX7 7).1 (TX7 7).2.1 (TX7 7).2.2.1 ∈ Tb := tb_in 359 (by decide +kernel) rfl
theorem fl_X7_58 : Cond.fieldLink RX7 58 (TX7 8).1 (TX7 8).2.1 (TX7 8).2.2.1 ∈ Tb := tb_in 360 (by decide +kernel) rfl
theorem fl_X7_62 : Cond.fieldLink RX7 62 (TX7 9).1 (TX7 9).2.1 (TX7 9).2.2.1 ∈ Tb := tb_in 361 (by decide +kernel) rfl
theorem fl_X7_93 : Cond.fieldLink RX7 93 (TX7 10).1 (TX7 10).2.1 (TX7 10).2.2.1 ∈ Tb := tb_in 362 (by decide +kernel) rfl
theorem fl_X7_267 : Cond.fieldLink RX7 267 (TX7 11).1 (TX7 11).2.1 (TX7 11).2.2.1 ∈ Tb := tb_in 363 (by decide +kernel) rfl
theorem ml_L_15 : Cond.methodLink RL 15 yX7_type ∈ Tb := tb_in 389 (by decide +kernel) rfl
theorem ml_X7_65 : Cond.methodLink RX7 65 yX5_add ∈ Tb := tb_in 393 (by decide +kernel) rfl
theorem ml_L_20 : Cond.methodLink RL 20 yX7_clear ∈ Tb := tb_in 397 (by decide +kernel) rfl
theorem ml_L_25 : Cond.methodLink RL 25 yX7_chip ∈ Tb := tb_in 401 (by decide +kernel) rfl
theorem ml_X7_76 : Cond.methodLink RX7 76 yX5_split ∈ Tb := tb_in 405 (by decide +kernel) rfl
theorem ml_X5_35 : Cond.methodLink RX5 35 yX5_beginsToken ∈ Tb := tb_in 409 (by decide +kernel) rfl
theorem ml_X5_49 : Cond.methodLink RX5 49 yX5_isLetter ∈ Tb := tb_in 413 (by decide +kernel) rfl
theorem ml_X5_52 : Cond.methodLink RX5 52 yX5_isDigit ∈ Tb := tb_in 416 (by decide +kernel) rfl
theorem ml_X5_39 : Cond.methodLink RX5 39 yX5_readToken ∈ Tb := tb_in 419 (by decide +kernel) rfl
theorem ml_X5_55 : Cond.methodLink RX5 55 yX5_readNumber ∈ Tb := tb_in 423 (by decide +kernel) rfl
theorem ml_X5_58 : Cond.methodLink RX5 58 yX5_readWord ∈ Tb := tb_in 427 (by decide +kernel) rfl
theorem ml_X5_61 : Cond.methodLink RX5 61 yX5_kindOfWord ∈ Tb := tb_in 431 (by decide +kernel) rfl
theorem ml_X5_67 : Cond.methodLink RX5 67 yX5_isWord ∈ Tb := tb_in 436 (by decide +kernel) rfl
theorem ml_X5_79 : Cond.methodLink RX5 79 yJ0_length_8abf5 ∈ Tb := tb_in 440 (by decide +kernel) rfl
theorem ml_J0_335 : Cond.methodLink RJ0 335 yJ0_coder_7d493 ∈ Tb := tb_in 444 (by decide +kernel) rfl
theorem ml_X5_84 : Cond.methodLink RX5 84 yJ0_charAt_5068e ∈ Tb := tb_in 450 (by decide +kernel) rfl
theorem ml_J0_492 : Cond.methodLink RJ0 492 yJ0_isLatin1_aae02 ∈ Tb := tb_in 454 (by decide +kernel) rfl
theorem ml_J0_495 : Cond.methodLink RJ0 495 yJ1_charAt_3b067 ∈ Tb := tb_in 458 (by decide +kernel) rfl
theorem ml_J1_9 : Cond.methodLink RJ1 9 yJ0_checkIndex_df160 ∈ Tb := tb_in 461 (by decide +kernel) rfl
theorem ml_J0_1059 : Cond.methodLink RJ0 1059 yJ3_checkIndex_8e157 ∈ Tb := tb_in 466 (by decide +kernel) rfl
theorem ml_J0_498 : Cond.methodLink RJ0 498 yJ2_charAt_3b067 ∈ Tb := tb_in 469 (by decide +kernel) rfl
theorem ml_J2_67 : Cond.methodLink RJ2 67 yJ2_checkIndex_2214a ∈ Tb := tb_in 472 (by decide +kernel) rfl
theorem ml_J2_48 : Cond.methodLink RJ2 48 yJ2_length_9d52b ∈ Tb := tb_in 475 (by decide +kernel) rfl
theorem ml_J2_414 : Cond.methodLink RJ2 414 yJ0_checkIndex_df160 ∈ Tb := tb_in 478 (by decide +kernel) rfl
theorem ml_J2_71 : Cond.methodLink RJ2 71 yJ2_getChar_3b067 ∈ Tb := tb_in 479 (by decide +kernel) rfl
theorem ml_X7_83 : Cond.methodLink RX7 83 yX1_read ∈ Tb := tb_in 492 (by decide +kernel) rfl
theorem ml_X1_20 : Cond.methodLink RX1 20 yX5_take ∈ Tb := tb_in 496 (by decide +kernel) rfl
theorem ml_X1_24 : Cond.methodLink RX1 24 yX5_takeNumber ∈ Tb := tb_in 500 (by decide +kernel) rfl
theorem ml_X5_46 : Cond.methodLink RX5 46 yX5_take ∈ Tb := tb_in 504 (by decide +kernel) rfl
theorem ml_X1_39 : Cond.methodLink RX1 39 yX1_readCoats ∈ Tb := tb_in 505 (by decide +kernel) rfl
theorem ml_X1_43 : Cond.methodLink RX1 43 yX5_isAt ∈ Tb := tb_in 509 (by decide +kernel) rfl
theorem ml_X7_89 : Cond.methodLink RX7 89 yX5_fault ∈ Tb := tb_in 513 (by decide +kernel) rfl
theorem ml_L_29 : Cond.methodLink RL 29 yX7_book ∈ Tb := tb_in 517 (by decide +kernel) rfl
theorem ml_X7_97 : Cond.methodLink RX7 97 yX0_read ∈ Tb := tb_in 521 (by decide +kernel) rfl
theorem ml_X0_45 : Cond.methodLink RX0 45 yX5_isAt ∈ Tb := tb_in 525 (by decide +kernel) rfl
theorem ml_X0_49 : Cond.methodLink RX0 49 yX0_readItem ∈ Tb := tb_in 526 (by decide +kernel) rfl
theorem ml_X0_53 : Cond.methodLink RX0 53 yX5_take ∈ Tb := tb_in 530 (by decide +kernel) rfl
theorem ml_X0_56 : Cond.methodLink RX0 56 yX0_readStuff ∈ Tb := tb_in 531 (by decide +kernel) rfl
theorem ml_X0_68 : Cond.methodLink RX0 68 yX5_takeNumber ∈ Tb := tb_in 535 (by decide +kernel) rfl
theorem ml_X0_59 : Cond.methodLink RX0 59 yX0_readAlike ∈ Tb := tb_in 536 (by decide +kernel) rfl
theorem ml_X0_72 : Cond.methodLink RX0 72 yX5_takeColourBut ∈ Tb := tb_in 540 (by decide +kernel) rfl
theorem ml_X0_62 : Cond.methodLink RX0 62 yX0_readBill ∈ Tb := tb_in 544 (by decide +kernel) rfl
theorem ml_L_33 : Cond.methodLink RL 33 yX7_drop ∈ Tb := tb_in 548 (by decide +kernel) rfl
theorem ml_X7_101 : Cond.methodLink RX7 101 yX7_isChip ∈ Tb := tb_in 552 (by decide +kernel) rfl
theorem ml_X7_105 : Cond.methodLink RX7 105 yX4_takeOut ∈ Tb := tb_in 556 (by decide +kernel) rfl
theorem ml_L_38 : Cond.methodLink RL 38 yX7_about ∈ Tb := tb_in 560 (by decide +kernel) rfl
theorem ml_L_43 : Cond.methodLink RL 43 yX7_coat ∈ Tb := tb_in 564 (by decide +kernel) rfl
theorem ml_X7_118 : Cond.methodLink RX7 118 yX7_isCoat ∈ Tb := tb_in 568 (by decide +kernel) rfl
theorem ml_X7_128 : Cond.methodLink RX7 128 yX7_settle ∈ Tb := tb_in 572 (by decide +kernel) rfl
theorem ml_X7_271 : Cond.methodLink RX7 271 yX7_findSame ∈ Tb := tb_in 576 (by decide +kernel) rfl
theorem ml_X7_277 : Cond.methodLink RX7 277 yX3_find ∈ Tb := tb_in 580 (by decide +kernel) rfl
theorem ml_X3_65 : Cond.methodLink RX3 65 yX3_look ∈ Tb := tb_in 584 (by decide +kernel) rfl
theorem ml_X3_96 : Cond.methodLink RX3 96 yJ9_max_7cf53 ∈ Tb := tb_in 588 (by decide +kernel) rfl
theorem ml_X3_69 : Cond.methodLink RX3 69 yX3_findServing ∈ Tb := tb_in 591 (by decide +kernel) rfl
theorem ml_X3_83 : Cond.methodLink RX3 83 yX3_strideOf ∈ Tb := tb_in 595 (by decide +kernel) rfl
theorem ml_X3_72 : Cond.methodLink RX3 72 yX3_fillRow ∈ Tb := tb_in 599 (by decide +kernel) rfl
theorem ml_X3_76 : Cond.methodLink RX3 76 yX3_walk ∈ Tb := tb_in 603 (by decide +kernel) rfl
theorem ml_X3_88 : Cond.methodLink RX3 88 yX3_firstColour ∈ Tb := tb_in 607 (by decide +kernel) rfl
theorem ml_X3_92 : Cond.methodLink RX3 92 yX3_paint ∈ Tb := tb_in 611 (by decide +kernel) rfl
theorem ml_X7_131 : Cond.methodLink RX7 131 yX7_paintingOf ∈ Tb := tb_in 615 (by decide +kernel) rfl
theorem ml_L_48 : Cond.methodLink RL 48 yX7_colour ∈ Tb := tb_in 619 (by decide +kernel) rfl
theorem ml_L_52 : Cond.methodLink RL 52 yX7_tune ∈ Tb := tb_in 623 (by decide +kernel) rfl
theorem ml_L_56 : Cond.methodLink RL 56 yX7_least ∈ Tb := tb_in 631 (by decide +kernel) rfl
theorem ml_X7_150 : Cond.methodLink RX7 150 yX7_areTwo ∈ Tb := tb_in 635 (by decide +kernel) rfl
theorem ml_X7_153 : Cond.methodLink RX7 153 yX7_lay ∈ Tb := tb_in 639 (by decide +kernel) rfl
theorem ml_X7_274 : Cond.methodLink RX7 274 yX2_lay ∈ Tb := tb_in 643 (by decide +kernel) rfl
theorem ml_X2_41 : Cond.methodLink RX2 41 yX2_fill ∈ Tb := tb_in 647 (by decide +kernel) rfl
theorem ml_X2_49 : Cond.methodLink RX2 49 yX2_isSame ∈ Tb := tb_in 651 (by decide +kernel) rfl
theorem ml_X2_53 : Cond.methodLink RX2 53 yX2_costBeside ∈ Tb := tb_in 655 (by decide +kernel) rfl
theorem ml_X2_63 : Cond.methodLink RX2 63 yJ9_abs_0f7a4 ∈ Tb := tb_in 659 (by decide +kernel) rfl
theorem ml_X7_157 : Cond.methodLink RX7 157 yX2_leastCost ∈ Tb := tb_in 662 (by decide +kernel) rfl
theorem ml_L_60 : Cond.methodLink RL 60 yX7_ways ∈ Tb := tb_in 666 (by decide +kernel) rfl
theorem co_X7_160 : Cond.constantLong RX7 160 (-1) ∈ Tb := tb_in 670 (by decide +kernel) rfl
theorem ml_X7_162 : Cond.methodLink RX7 162 yX2_leastWays ∈ Tb := tb_in 671 (by decide +kernel) rfl
theorem ml_L_65 : Cond.methodLink RL 65 yX7_laid ∈ Tb := tb_in 675 (by decide +kernel) rfl
theorem ml_X7_166 : Cond.methodLink RX7 166 yX2_beside ∈ Tb := tb_in 679 (by decide +kernel) rfl
theorem ml_X2_45 : Cond.methodLink RX2 45 yX2_nearest ∈ Tb := tb_in 683 (by decide +kernel) rfl
theorem ml_L_69 : Cond.methodLink RL 69 yX7_painting ∈ Tb := tb_in 687 (by decide +kernel) rfl
theorem ml_X7_171 : Cond.methodLink RX7 171 yX7_isPainting ∈ Tb := tb_in 691 (by decide +kernel) rfl
theorem ml_L_73 : Cond.methodLink RL 73 yX7_had ∈ Tb := tb_in 695 (by decide +kernel) rfl
theorem ml_L_77 : Cond.methodLink RL 77 yX7_face ∈ Tb := tb_in 699 (by decide +kernel) rfl
theorem ml_X7_178 : Cond.methodLink RX7 178 yX7_missedBy ∈ Tb := tb_in 703 (by decide +kernel) rfl
theorem ml_X7_181 : Cond.methodLink RX7 181 yX7_ageOf ∈ Tb := tb_in 707 (by decide +kernel) rfl
theorem ml_X7_184 : Cond.methodLink RX7 184 yX7_movedFrom ∈ Tb := tb_in 711 (by decide +kernel) rfl
theorem ml_L_81 : Cond.methodLink RL 81 yX7_span ∈ Tb := tb_in 715 (by decide +kernel) rfl
theorem ml_X7_187 : Cond.methodLink RX7 187 yX6_find ∈ Tb := tb_in 719 (by decide +kernel) rfl
theorem ml_X6_42 : Cond.methodLink RX6 42 yJ9_max_7cf53 ∈ Tb := tb_in 723 (by decide +kernel) rfl
theorem ml_X6_54 : Cond.methodLink RX6 54 yJ9_min_7cf53 ∈ Tb := tb_in 724 (by decide +kernel) rfl
theorem ml_L_85 : Cond.methodLink RL 85 yX7_day ∈ Tb := tb_in 727 (by decide +kernel) rfl
theorem ml_X7_200 : Cond.methodLink RX7 200 yX7_lastCoats ∈ Tb := tb_in 731 (by decide +kernel) rfl
theorem ml_L_89 : Cond.methodLink RL 89 yX7_bill ∈ Tb := tb_in 735 (by decide +kernel) rfl
theorem ml_L_93 : Cond.methodLink RL 93 yX7_billed ∈ Tb := tb_in 739 (by decide +kernel) rfl
theorem ml_X7_212 : Cond.methodLink RX7 212 yX6_match ∈ Tb := tb_in 743 (by decide +kernel) rfl
theorem ml_X6_60 : Cond.methodLink RX6 60 yX6_mostFrom ∈ Tb := tb_in 747 (by decide +kernel) rfl
theorem ml_X6_70 : Cond.methodLink RX6 70 yX6_fits ∈ Tb := tb_in 751 (by decide +kernel) rfl
theorem ml_X6_64 : Cond.methodLink RX6 64 yX6_leastBill ∈ Tb := tb_in 755 (by decide +kernel) rfl
theorem ml_L_97 : Cond.methodLink RL 97 yX7_enough ∈ Tb := tb_in 759 (by decide +kernel) rfl
theorem co_X7_222 : Cond.constantLong RX7 222 (10) ∈ Tb := tb_in 763 (by decide +kernel) rfl
theorem co_X7_224 : Cond.constantLong RX7 224 (1000000) ∈ Tb := tb_in 764 (by decide +kernel) rfl
theorem ml_X7_226 : Cond.methodLink RX7 226 yX7_oddsOfAll ∈ Tb := tb_in 765 (by decide +kernel) rfl
theorem co_X7_230 : Cond.constantLong RX7 230 (10000) ∈ Tb := tb_in 768 (by decide +kernel) rfl
theorem ml_L_101 : Cond.methodLink RL 101 yX7_next ∈ Tb := tb_in 769 (by decide +kernel) rfl
theorem ml_X7_232 : Cond.methodLink RX7 232 yX4_inRoom ∈ Tb := tb_in 773 (by decide +kernel) rfl
theorem ml_X7_235 : Cond.methodLink RX7 235 yX3_notIn ∈ Tb := tb_in 777 (by decide +kernel) rfl
theorem ml_L_105 : Cond.methodLink RL 105 yX7_rank ∈ Tb := tb_in 781 (by decide +kernel) rfl
theorem co_X7_238 : Cond.constant RX7 238 (-1000000) ∈ Tb := tb_in 785 (by decide +kernel) rfl
theorem ml_X7_239 : Cond.methodLink RX7 239 yX7_asCoat ∈ Tb := tb_in 786 (by decide +kernel) rfl
theorem ml_X7_242 : Cond.methodLink RX7 242 yX7_asWhole ∈ Tb := tb_in 790 (by decide +kernel) rfl
theorem ml_X7_283 : Cond.methodLink RX7 283 yJ6_bitCount_0f7a4 ∈ Tb := tb_in 794 (by decide +kernel) rfl
theorem co_J6_265 : Cond.constant RJ6 265 (1431655765) ∈ Tb := tb_in 797 (by decide +kernel) rfl
theorem co_J6_266 : Cond.constant RJ6 266 (858993459) ∈ Tb := tb_in 798 (by decide +kernel) rfl
theorem co_J6_267 : Cond.constant RJ6 267 (252645135) ∈ Tb := tb_in 799 (by decide +kernel) rfl
theorem ml_X7_245 : Cond.methodLink RX7 245 yX7_asUnder ∈ Tb := tb_in 800 (by decide +kernel) rfl
theorem co_X7_288 : Cond.constantLong RX7 288 (100) ∈ Tb := tb_in 804 (by decide +kernel) rfl
theorem ml_X7_248 : Cond.methodLink RX7 248 yX7_asPatch ∈ Tb := tb_in 805 (by decide +kernel) rfl
theorem co_X7_290 : Cond.constantLong RX7 290 (1000) ∈ Tb := tb_in 809 (by decide +kernel) rfl
theorem ml_X7_251 : Cond.methodLink RX7 251 yX7_asScraped ∈ Tb := tb_in 810 (by decide +kernel) rfl
theorem ml_X7_254 : Cond.methodLink RX7 254 yX7_asVarnish ∈ Tb := tb_in 814 (by decide +kernel) rfl
theorem co_X7_292 : Cond.constantLong RX7 292 (100000) ∈ Tb := tb_in 818 (by decide +kernel) rfl
theorem ml_L_109 : Cond.methodLink RL 109 yX7_keep ∈ Tb := tb_in 819 (by decide +kernel) rfl
theorem ml_X7_257 : Cond.methodLink RX7 257 yX4_copy ∈ Tb := tb_in 823 (by decide +kernel) rfl
theorem ml_X4_22 : Cond.methodLink RX4 22 yX1_copy ∈ Tb := tb_in 827 (by decide +kernel) rfl
theorem ml_L_113 : Cond.methodLink RL 113 yX7_back ∈ Tb := tb_in 834 (by decide +kernel) rfl
theorem ml_L_117 : Cond.methodLink RL 117 yX7_count ∈ Tb := tb_in 838 (by decide +kernel) rfl
theorem ml_X7_264 : Cond.methodLink RX7 264 yX4_coats ∈ Tb := tb_in 842 (by decide +kernel) rfl
theorem ml_L_121 : Cond.methodLink RL 121 yX7_trace ∈ Tb := tb_in 846 (by decide +kernel) rfl
theorem cl_L_10 : Cond.classLink RL 10 RX8 ∈ Tb := tb_in 850 (by decide +kernel) rfl
theorem nw_X8 : Cond.instantiable RX8 51 ∈ Tb := tb_in 851 (by decide +kernel) rfl
theorem ml_L_12 : Cond.methodLink RL 12 yX8_init ∈ Tb := tb_in 852 (by decide +kernel) rfl
theorem fl_X8_7 : Cond.fieldLink RX8 7 (TX8 0).1 (TX8 0).2.1 (TX8 0).2.2.1 ∈ Tb := tb_in 856 (by decide +kernel) rfl
theorem fl_X8_120 : Cond.fieldLink RX8 120 (TX8 1).1 (TX8 1).2.1 (TX8 1).2.2.1 ∈ Tb := tb_in 857 (by decide +kernel) rfl
theorem fl_X8_126 : Cond.fieldLink RX8 126 (TX8 2).1 (TX8 2).2.1 (TX8 2).2.2.1 ∈ Tb := tb_in 858 (by decide +kernel) rfl
theorem fl_X8_133 : Cond.fieldLink RX8 133 (TX8 3).1 (TX8 3).2.1 (TX8 3).2.2.1 ∈ Tb := tb_in 859 (by decide +kernel) rfl
theorem fl_X8_136 : Cond.fieldLink RX8 136 (TX8 4).1 (TX8 4).2.1 (TX8 4).2.2.1 ∈ Tb := tb_in 860 (by decide +kernel) rfl
theorem fl_X8_149 : Cond.fieldLink RX8 149 (TX8 5).1 (TX8 5).2.1 (TX8 5).2.2.1 ∈ Tb := tb_in 861 (by decide +kernel) rfl
theorem fl_X8_173 : Cond.fieldLink RX8 173 (TX8 6).1 (TX8 6).2.1 (TX8 6).2.2.1 ∈ Tb := tb_in 862 (by decide +kernel) rfl
theorem fl_X8_13 : Cond.fieldLink RX8 13 (TX8 7).1 (TX8 7).2.1 (TX8 7).2.2.1 ∈ Tb := tb_in 863 (by decide +kernel) rfl
theorem fl_X8_16 : Cond.fieldLink RX8 16 (TX8 8).1 (TX8 8).2.1 (TX8 8).2.2.1 ∈ Tb := tb_in 864 (by decide +kernel) rfl
theorem fl_X8_19 : Cond.fieldLink RX8 19 (TX8 9).1 (TX8 9).2.1 (TX8 9).2.2.1 ∈ Tb := tb_in 865 (by decide +kernel) rfl
theorem fl_X8_22 : Cond.fieldLink RX8 22 (TX8 10).1 (TX8 10).2.1 (TX8 10).2.2.1 ∈ Tb := tb_in 866 (by decide +kernel) rfl
theorem fl_X8_25 : Cond.fieldLink RX8 25 (TX8 11).1 (TX8 11).2.1 (TX8 11).2.2.1 ∈ Tb := tb_in 867 (by decide +kernel) rfl
theorem fl_X8_28 : Cond.fieldLink RX8 28 (TX8 12).1 (TX8 12).2.1 (TX8 12).2.2.1 ∈ Tb := tb_in 868 (by decide +kernel) rfl
theorem fl_X8_31 : Cond.fieldLink RX8 31 (TX8 13).1 (TX8 13).2.1 (TX8 13).2.2.1 ∈ Tb := tb_in 869 (by decide +kernel) rfl
theorem fl_X8_34 : Cond.fieldLink RX8 34 (TX8 14).1 (TX8 14).2.1 (TX8 14).2.2.1 ∈ Tb := tb_in 870 (by decide +kernel) rfl
theorem fl_X8_37 : Cond.fieldLink RX8 37 (TX8 15).1 (TX8 15).2.1 (TX8 15).2.2.1 ∈ Tb := tb_in 871 (by decide +kernel) rfl
theorem fl_X8_40 : Cond.fieldLink RX8 40 (TX8 16).1 (TX8 16).2.1 (TX8 16).2.2.1 ∈ Tb := tb_in 872 (by decide +kernel) rfl
theorem fl_X8_196 : Cond.fieldLink RX8 196 (TX8 17).1 (TX8 17).2.1 (TX8 17).2.2.1 ∈ Tb := tb_in 873 (by decide +kernel) rfl
theorem fl_X8_43 : Cond.fieldLink RX8 43 (TX8 18).1 (TX8 18).2.1 (TX8 18).2.2.1 ∈ Tb := tb_in 874 (by decide +kernel) rfl
theorem fl_X8_46 : Cond.fieldLink RX8 46 (TX8 19).1 (TX8 19).2.1 (TX8 19).2.2.1 ∈ Tb := tb_in 875 (by decide +kernel) rfl
theorem fl_X8_49 : Cond.fieldLink RX8 49 (TX8 20).1 (TX8 20).2.1 (TX8 20).2.2.1 ∈ Tb := tb_in 876 (by decide +kernel) rfl
theorem fl_X8_52 : Cond.fieldLink RX8 52 (TX8 21).1 (TX8 21).2.1 (TX8 21).2.2.1 ∈ Tb := tb_in 877 (by decide +kernel) rfl
theorem fl_X8_55 : Cond.fieldLink RX8 55 (TX8 22).1 (TX8 22).2.1 (TX8 22).2.2.1 ∈ Tb := tb_in 878 (by decide +kernel) rfl
theorem fl_X8_58 : Cond.fieldLink RX8 58 (TX8 23).1 (TX8 23).2.1 (TX8 23).2.2.1 ∈ Tb := tb_in 879 (by decide +kernel) rfl
theorem fl_X8_61 : Cond.fieldLink RX8 61 (TX8 24).1 (TX8 24).2.1 (TX8 24).2.2.1 ∈ Tb := tb_in 880 (by decide +kernel) rfl
theorem fl_X8_64 : Cond.fieldLink RX8 64 (TX8 25).1 (TX8 25).2.1 (TX8 25).2.2.1 ∈ Tb := tb_in 881 (by decide +kernel) rfl
theorem fl_X8_67 : Cond.fieldLink RX8 67 (TX8 26).1 (TX8 26).2.1 (TX8 26).2.2.1 ∈ Tb := tb_in 882 (by decide +kernel) rfl
theorem fl_X8_70 : Cond.fieldLink RX8 70 (TX8 27).1 (TX8 27).2.1 (TX8 27).2.2.1 ∈ Tb := tb_in 883 (by decide +kernel) rfl
theorem fl_X8_73 : Cond.fieldLink RX8 73 (TX8 28).1 (TX8 28).2.1 (TX8 28).2.2.1 ∈ Tb := tb_in 884 (by decide +kernel) rfl
theorem fl_X8_76 : Cond.fieldLink RX8 76 (TX8 29).1 (TX8 29).2.1 (TX8 29).2.2.1 ∈ Tb := tb_in 885 (by decide +kernel) rfl
theorem fl_X8_79 : Cond.fieldLink RX8 79 (TX8 30).1 (TX8 30).2.1 (TX8 30).2.2.1 ∈ Tb := tb_in 886 (by decide +kernel) rfl
theorem fl_X8_82 : Cond.fieldLink RX8 82 (TX8 31).1 (TX8 31).2.1 (TX8 31).2.2.1 ∈ Tb := tb_in 887 (by decide +kernel) rfl
theorem fl_X8_273 : Cond.fieldLink RX8 273 (TX8 32).1 (TX8 32).2.1 (TX8 32).2.2.1 ∈ Tb := tb_in 888 (by decide +kernel) rfl
theorem fl_X8_85 : Cond.fieldLink RX8 85 (TX8 33).1 (TX8 33).2.1 (TX8 33).2.2.1 ∈ Tb := tb_in 889 (by decide +kernel) rfl
theorem fl_X8_88 : Cond.fieldLink RX8 88 (TX8 34).1 (TX8 34).2.1 (TX8 34).2.2.1 ∈ Tb := tb_in 890 (by decide +kernel) rfl
theorem fl_X8_92 : Cond.fieldLink RX8 92 (TX8 35).1 (TX8 35).2.1 (TX8 35).2.2.1 ∈ Tb := tb_in 891 (by decide +kernel) rfl
theorem fl_X8_95 : Cond.fieldLink RX8 95 (TX8 36).1 (TX8 36).2.1 (TX8 36).2.2.1 ∈ Tb := tb_in 892 (by decide +kernel) rfl
theorem fl_X8_98 : Cond.fieldLink RX8 98 (TX8 37).1 (TX8 37).2.1 (TX8 37).2.2.1 ∈ Tb := tb_in 893 (by decide +kernel) rfl
theorem fl_X8_235 : Cond.fieldLink RX8 235 (TX8 38).1 (TX8 38).2.1 (TX8 38).2.2.1 ∈ Tb := tb_in 894 (by decide +kernel) rfl
theorem fl_X8_101 : Cond.fieldLink RX8 101 (TX8 39).1 (TX8 39).2.1 (TX8 39).2.2.1 ∈ Tb := tb_in 895 (by decide +kernel) rfl
theorem fl_X8_104 : Cond.fieldLink RX8 104 (TX8 40).1 (TX8 40).2.1 (TX8 40).2.2.1 ∈ Tb := tb_in 896 (by decide +kernel) rfl
theorem fl_X8_180 : Cond.fieldLink RX8 180 (TX8 41).1 (TX8 41).2.1 (TX8 41).2.2.1 ∈ Tb := tb_in 897 (by decide +kernel) rfl
theorem fl_X8_107 : Cond.fieldLink RX8 107 (TX8 42).1 (TX8 42).2.1 (TX8 42).2.2.1 ∈ Tb := tb_in 898 (by decide +kernel) rfl
theorem fl_X8_110 : Cond.fieldLink RX8 110 (TX8 43).1 (TX8 43).2.1 (TX8 43).2.2.1 ∈ Tb := tb_in 899 (by decide +kernel) rfl
theorem fl_X8_258 : Cond.fieldLink RX8 258 (TX8 44).1 (TX8 44).2.1 (TX8 44).2.2.1 ∈ Tb := tb_in 900 (by decide +kernel) rfl
theorem fl_X8_113 : Cond.fieldLink RX8 113 (TX8 45).1 (TX8 45).2.1 (TX8 45).2.2.1 ∈ Tb := tb_in 901 (by decide +kernel) rfl
theorem fl_X8_164 : Cond.fieldLink RX8 164 (TX8 46).1 (TX8 46).2.1 (TX8 46).2.2.1 ∈ Tb := tb_in 902 (by decide +kernel) rfl
theorem fl_X8_167 : Cond.fieldLink RX8 167 (TX8 47).1 (TX8 47).2.1 (TX8 47).2.2.1 ∈ Tb := tb_in 903 (by decide +kernel) rfl
theorem fl_X8_170 : Cond.fieldLink RX8 170 (TX8 48).1 (TX8 48).2.1 (TX8 48).2.2.1 ∈ Tb := tb_in 904 (by decide +kernel) rfl
theorem fl_X8_184 : Cond.fieldLink RX8 184 (TX8 49).1 (TX8 49).2.1 (TX8 49).2.2.1 ∈ Tb := tb_in 905 (by decide +kernel) rfl
theorem fl_X8_228 : Cond.fieldLink RX8 228 (TX8 50).1 (TX8 50).2.1 (TX8 50).2.2.1 ∈ Tb := tb_in 906 (by decide +kernel) rfl
theorem ml_L_19 : Cond.methodLink RL 19 yX8_type ∈ Tb := tb_in 1010 (by decide +kernel) rfl
theorem ml_X8_116 : Cond.methodLink RX8 116 yX8_in ∈ Tb := tb_in 1014 (by decide +kernel) rfl
theorem co_X8_124 : Cond.constantLong RX8 124 (255) ∈ Tb := tb_in 1017 (by decide +kernel) rfl
theorem ml_L_24 : Cond.methodLink RL 24 yX8_clear ∈ Tb := tb_in 1018 (by decide +kernel) rfl
theorem ml_L_28 : Cond.methodLink RL 28 yX8_chip ∈ Tb := tb_in 1022 (by decide +kernel) rfl
theorem ml_X8_176 : Cond.methodLink RX8 176 yX8_isChip ∈ Tb := tb_in 1026 (by decide +kernel) rfl
theorem ml_X8_157 : Cond.methodLink RX8 157 yX8_read ∈ Tb := tb_in 1030 (by decide +kernel) rfl
theorem ml_X8_129 : Cond.methodLink RX8 129 yX8_look ∈ Tb := tb_in 1034 (by decide +kernel) rfl
theorem ml_X8_139 : Cond.methodLink RX8 139 yX8_isLetter ∈ Tb := tb_in 1038 (by decide +kernel) rfl
theorem ml_X8_143 : Cond.methodLink RX8 143 yX8_word ∈ Tb := tb_in 1041 (by decide +kernel) rfl
theorem co_X8_152 : Cond.constant RX8 152 (605677) ∈ Tb := tb_in 1045 (by decide +kernel) rfl
theorem co_X8_153 : Cond.constant RX8 153 (17287347) ∈ Tb := tb_in 1046 (by decide +kernel) rfl
theorem co_X8_154 : Cond.constant RX8 154 (20600006) ∈ Tb := tb_in 1047 (by decide +kernel) rfl
theorem co_X8_155 : Cond.constant RX8 155 (1451365) ∈ Tb := tb_in 1048 (by decide +kernel) rfl
theorem co_X8_156 : Cond.constant RX8 156 (75148) ∈ Tb := tb_in 1049 (by decide +kernel) rfl
theorem ml_X8_146 : Cond.methodLink RX8 146 yX8_isDigit ∈ Tb := tb_in 1050 (by decide +kernel) rfl
theorem ml_X8_160 : Cond.methodLink RX8 160 yX8_isNumber ∈ Tb := tb_in 1053 (by decide +kernel) rfl
theorem ml_L_32 : Cond.methodLink RL 32 yX8_book ∈ Tb := tb_in 1057 (by decide +kernel) rfl
theorem ml_X8_187 : Cond.methodLink RX8 187 yX8_isStuff ∈ Tb := tb_in 1061 (by decide +kernel) rfl
theorem ml_X8_190 : Cond.methodLink RX8 190 yX8_areAlike ∈ Tb := tb_in 1065 (by decide +kernel) rfl
theorem ml_X8_193 : Cond.methodLink RX8 193 yX8_isBill ∈ Tb := tb_in 1069 (by decide +kernel) rfl
theorem ml_L_37 : Cond.methodLink RL 37 yX8_drop ∈ Tb := tb_in 1073 (by decide +kernel) rfl
theorem ml_X8_199 : Cond.methodLink RX8 199 yX8_isChipAt ∈ Tb := tb_in 1077 (by decide +kernel) rfl
theorem ml_L_42 : Cond.methodLink RL 42 yX8_about ∈ Tb := tb_in 1081 (by decide +kernel) rfl
theorem ml_L_47 : Cond.methodLink RL 47 yX8_coat ∈ Tb := tb_in 1085 (by decide +kernel) rfl
theorem ml_X8_202 : Cond.methodLink RX8 202 yX8_isCoat ∈ Tb := tb_in 1089 (by decide +kernel) rfl
theorem ml_X8_205 : Cond.methodLink RX8 205 yX8_make ∈ Tb := tb_in 1093 (by decide +kernel) rfl
theorem ml_X8_231 : Cond.methodLink RX8 231 yX8_weigh ∈ Tb := tb_in 1097 (by decide +kernel) rfl
theorem ml_X8_245 : Cond.methodLink RX8 245 yX8_behind ∈ Tb := tb_in 1101 (by decide +kernel) rfl
theorem ml_X8_208 : Cond.methodLink RX8 208 yX8_isSame ∈ Tb := tb_in 1105 (by decide +kernel) rfl
theorem ml_X8_238 : Cond.methodLink RX8 238 yX8_goOn ∈ Tb := tb_in 1109 (by decide +kernel) rfl
theorem ml_X8_242 : Cond.methodLink RX8 242 yX8_years ∈ Tb := tb_in 1113 (by decide +kernel) rfl
theorem ml_X8_261 : Cond.methodLink RX8 261 yX8_later ∈ Tb := tb_in 1117 (by decide +kernel) rfl
theorem ml_L_51 : Cond.methodLink RL 51 yX8_colour ∈ Tb := tb_in 1121 (by decide +kernel) rfl
theorem ml_L_55 : Cond.methodLink RL 55 yX8_tune ∈ Tb := tb_in 1125 (by decide +kernel) rfl
theorem ml_L_59 : Cond.methodLink RL 59 yX8_least ∈ Tb := tb_in 1129 (by decide +kernel) rfl
theorem ml_X8_219 : Cond.methodLink RX8 219 yX8_areTwo ∈ Tb := tb_in 1133 (by decide +kernel) rfl
theorem ml_X8_222 : Cond.methodLink RX8 222 yX8_lay ∈ Tb := tb_in 1137 (by decide +kernel) rfl
theorem ml_X8_211 : Cond.methodLink RX8 211 yX8_areSame ∈ Tb := tb_in 1141 (by decide +kernel) rfl
theorem ml_X8_215 : Cond.methodLink RX8 215 yX8_costOf ∈ Tb := tb_in 1145 (by decide +kernel) rfl
theorem ml_L_64 : Cond.methodLink RL 64 yX8_ways ∈ Tb := tb_in 1149 (by decide +kernel) rfl
theorem co_X8_226 : Cond.constantLong RX8 226 (-1) ∈ Tb := tb_in 1153 (by decide +kernel) rfl
theorem ml_L_68 : Cond.methodLink RL 68 yX8_laid ∈ Tb := tb_in 1154 (by decide +kernel) rfl
theorem ml_L_72 : Cond.methodLink RL 72 yX8_painting ∈ Tb := tb_in 1158 (by decide +kernel) rfl
theorem ml_L_76 : Cond.methodLink RL 76 yX8_had ∈ Tb := tb_in 1162 (by decide +kernel) rfl
theorem ml_X8_248 : Cond.methodLink RX8 248 yX8_hasPainting ∈ Tb := tb_in 1166 (by decide +kernel) rfl
theorem ml_L_80 : Cond.methodLink RL 80 yX8_face ∈ Tb := tb_in 1170 (by decide +kernel) rfl
theorem ml_X8_255 : Cond.methodLink RX8 255 yX8_moved ∈ Tb := tb_in 1174 (by decide +kernel) rfl
theorem ml_X8_251 : Cond.methodLink RX8 251 yX8_least ∈ Tb := tb_in 1178 (by decide +kernel) rfl
theorem ml_L_84 : Cond.methodLink RL 84 yX8_span ∈ Tb := tb_in 1179 (by decide +kernel) rfl
theorem ml_L_88 : Cond.methodLink RL 88 yX8_day ∈ Tb := tb_in 1183 (by decide +kernel) rfl
theorem ml_L_92 : Cond.methodLink RL 92 yX8_bill ∈ Tb := tb_in 1187 (by decide +kernel) rfl
theorem ml_L_96 : Cond.methodLink RL 96 yX8_billed ∈ Tb := tb_in 1191 (by decide +kernel) rfl
theorem ml_X8_264 : Cond.methodLink RX8 264 yX8_suits ∈ Tb := tb_in 1195 (by decide +kernel) rfl
theorem ml_L_100 : Cond.methodLink RL 100 yX8_enough ∈ Tb := tb_in 1199 (by decide +kernel) rfl
theorem co_X8_267 : Cond.constantLong RX8 267 (10) ∈ Tb := tb_in 1203 (by decide +kernel) rfl
theorem co_X8_269 : Cond.constantLong RX8 269 (1000000) ∈ Tb := tb_in 1204 (by decide +kernel) rfl
theorem co_X8_271 : Cond.constantLong RX8 271 (10000) ∈ Tb := tb_in 1205 (by decide +kernel) rfl
theorem ml_L_104 : Cond.methodLink RL 104 yX8_next ∈ Tb := tb_in 1206 (by decide +kernel) rfl
theorem ml_L_108 : Cond.methodLink RL 108 yX8_rank ∈ Tb := tb_in 1210 (by decide +kernel) rfl
theorem co_X8_282 : Cond.constant RX8 282 (-1000000) ∈ Tb := tb_in 1214 (by decide +kernel) rfl
theorem ml_X8_277 : Cond.methodLink RX8 277 yX8_ofCoat ∈ Tb := tb_in 1215 (by decide +kernel) rfl
theorem ml_X8_283 : Cond.methodLink RX8 283 yX8_ofWhole ∈ Tb := tb_in 1219 (by decide +kernel) rfl
theorem ml_X8_286 : Cond.methodLink RX8 286 yX8_ofUnder ∈ Tb := tb_in 1223 (by decide +kernel) rfl
theorem co_X8_280 : Cond.constantLong RX8 280 (100) ∈ Tb := tb_in 1227 (by decide +kernel) rfl
theorem co_X8_289 : Cond.constantLong RX8 289 (1000) ∈ Tb := tb_in 1228 (by decide +kernel) rfl
theorem co_X8_291 : Cond.constantLong RX8 291 (100000) ∈ Tb := tb_in 1229 (by decide +kernel) rfl
theorem ml_L_112 : Cond.methodLink RL 112 yX8_keep ∈ Tb := tb_in 1230 (by decide +kernel) rfl
theorem ml_L_116 : Cond.methodLink RL 116 yX8_back ∈ Tb := tb_in 1234 (by decide +kernel) rfl
theorem ml_L_120 : Cond.methodLink RL 120 yX8_count ∈ Tb := tb_in 1238 (by decide +kernel) rfl
theorem ml_L_125 : Cond.methodLink RL 125 yX8_trace ∈ Tb := tb_in 1242 (by decide +kernel) rfl
theorem co_L_13 : Cond.constantLong RL 13 (4294967295) ∈ Tb := tb_in 1246 (by decide +kernel) rfl

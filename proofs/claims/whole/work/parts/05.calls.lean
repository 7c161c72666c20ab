theorem uw_X0 : ∀ w ∈ u_ws RX0 TX0 6, w ∈ tblG := by
  have h : u_ws RX0 TX0 6 = ([243, 245, 247, 249, 251, 253] : List Nat).filterMap (fun i => lw_tbl[i]?) := by decide +kernel
  have g : (u_ws RX0 TX0 6).all goodWord = true := by decide +kernel
  intro w hw
  have g2 := List.all_eq_true.mp g w hw
  rw [h] at hw
  obtain ⟨i, -, hi⟩ := List.mem_filterMap.mp hw
  exact tG i hi g2
theorem cfX0 : CF 0 RX0 TX0 6 tyX0 := ⟨rfl, uw_X0, tyX0_ok, nmX0, rfl, by decide⟩
theorem uw_X1 : ∀ w ∈ u_ws RX1 TX1 0, w ∈ tblG := by
  intro w hw; exact absurd hw List.not_mem_nil
theorem cfX1 : CF 1 RX1 TX1 0 tyX1 := ⟨rfl, uw_X1, tyX1_ok, nmX1, rfl, by decide⟩
theorem uw_X2 : ∀ w ∈ u_ws RX2 TX2 0, w ∈ tblG := by
  intro w hw; exact absurd hw List.not_mem_nil
theorem cfX2 : CF 2 RX2 TX2 0 tyX2 := ⟨rfl, uw_X2, tyX2_ok, nmX2, rfl, by decide⟩
theorem uw_X3 : ∀ w ∈ u_ws RX3 TX3 0, w ∈ tblG := by
  intro w hw; exact absurd hw List.not_mem_nil
theorem cfX3 : CF 3 RX3 TX3 0 tyX3 := ⟨rfl, uw_X3, tyX3_ok, nmX3, rfl, by decide⟩
theorem uw_X4 : ∀ w ∈ u_ws RX4 TX4 0, w ∈ tblG := by
  intro w hw; exact absurd hw List.not_mem_nil
theorem cfX4 : CF 4 RX4 TX4 0 tyX4 := ⟨rfl, uw_X4, tyX4_ok, nmX4, rfl, by decide⟩
theorem uw_X5 : ∀ w ∈ u_ws RX5 TX5 5, w ∈ tblG := by
  have h : u_ws RX5 TX5 5 = ([209, 211, 213, 215, 217] : List Nat).filterMap (fun i => lw_tbl[i]?) := by decide +kernel
  have g : (u_ws RX5 TX5 5).all goodWord = true := by decide +kernel
  intro w hw
  have g2 := List.all_eq_true.mp g w hw
  rw [h] at hw
  obtain ⟨i, -, hi⟩ := List.mem_filterMap.mp hw
  exact tG i hi g2
theorem cfX5 : CF 5 RX5 TX5 5 tyX5 := ⟨rfl, uw_X5, tyX5_ok, nmX5, rfl, by decide⟩
theorem uw_X6 : ∀ w ∈ u_ws RX6 TX6 0, w ∈ tblG := by
  intro w hw; exact absurd hw List.not_mem_nil
theorem cfX6 : CF 6 RX6 TX6 0 tyX6 := ⟨rfl, uw_X6, tyX6_ok, nmX6, rfl, by decide⟩
theorem uw_X7 : ∀ w ∈ u_ws RX7 TX7 5, w ∈ tblG := by
  have h : u_ws RX7 TX7 5 = ([119, 121, 123, 125, 127] : List Nat).filterMap (fun i => lw_tbl[i]?) := by decide +kernel
  have g : (u_ws RX7 TX7 5).all goodWord = true := by decide +kernel
  intro w hw
  have g2 := List.all_eq_true.mp g w hw
  rw [h] at hw
  obtain ⟨i, -, hi⟩ := List.mem_filterMap.mp hw
  exact tG i hi g2
theorem cfX7 : CF 7 RX7 TX7 5 tyX7 := ⟨rfl, uw_X7, tyX7_ok, nmX7, rfl, by decide⟩
theorem uw_X8 : ∀ w ∈ u_ws RX8 TX8 8, w ∈ tblG := by
  have h : u_ws RX8 TX8 8 = ([156, 158, 160, 162, 164, 166, 168, 170] : List Nat).filterMap (fun i => lw_tbl[i]?) := by decide +kernel
  have g : (u_ws RX8 TX8 8).all goodWord = true := by decide +kernel
  intro w hw
  have g2 := List.all_eq_true.mp g w hw
  rw [h] at hw
  obtain ⟨i, -, hi⟩ := List.mem_filterMap.mp hw
  exact tG i hi g2
theorem cfX8 : CF 8 RX8 TX8 8 tyX8 := ⟨rfl, uw_X8, tyX8_ok, nmX8, rfl, by decide⟩
theorem uw_X9 : ∀ w ∈ u_ws RX9 TX9 7, w ∈ tblG := by
  have h : u_ws RX9 TX9 7 = ([182, 184, 186, 188, 190, 192, 194] : List Nat).filterMap (fun i => lw_tbl[i]?) := by decide +kernel
  have g : (u_ws RX9 TX9 7).all goodWord = true := by decide +kernel
  intro w hw
  have g2 := List.all_eq_true.mp g w hw
  rw [h] at hw
  obtain ⟨i, -, hi⟩ := List.mem_filterMap.mp hw
  exact tG i hi g2
theorem cfX9 : CF 9 RX9 TX9 7 tyX9 := ⟨rfl, uw_X9, tyX9_ok, nmX9, rfl, by decide⟩
theorem uw_X10 : ∀ w ∈ u_ws RX10 TX10 0, w ∈ tblG := by
  intro w hw; exact absurd hw List.not_mem_nil
theorem cfX10 : CF 10 RX10 TX10 0 tyX10 := ⟨rfl, uw_X10, tyX10_ok, nmX10, rfl, by decide⟩
theorem uw_X11 : ∀ w ∈ u_ws RX11 TX11 16, w ∈ tblG := by
  have h : u_ws RX11 TX11 16 = ([321, 323, 325, 327, 329, 331, 333, 335, 337, 339, 341, 343, 345, 347, 349, 351] : List Nat).filterMap (fun i => lw_tbl[i]?) := by decide +kernel
  have g : (u_ws RX11 TX11 16).all goodWord = true := by decide +kernel
  intro w hw
  have g2 := List.all_eq_true.mp g w hw
  rw [h] at hw
  obtain ⟨i, -, hi⟩ := List.mem_filterMap.mp hw
  exact tG i hi g2
theorem cfX11 : CF 11 RX11 TX11 16 tyX11 := ⟨rfl, uw_X11, tyX11_ok, nmX11, rfl, by decide⟩
theorem uw_X12 : ∀ w ∈ u_ws RX12 TX12 26, w ∈ tblG := by
  have h : u_ws RX12 TX12 26 = ([731, 733, 735, 737, 739, 741, 743, 745, 747, 749, 751, 753, 755, 757, 759, 761, 763, 765, 767, 769, 771, 773, 775, 777, 779, 781] : List Nat).filterMap (fun i => lw_tbl[i]?) := by decide +kernel
  have g : (u_ws RX12 TX12 26).all goodWord = true := by decide +kernel
  intro w hw
  have g2 := List.all_eq_true.mp g w hw
  rw [h] at hw
  obtain ⟨i, -, hi⟩ := List.mem_filterMap.mp hw
  exact tG i hi g2
theorem cfX12 : CF 12 RX12 TX12 26 tyX12 := ⟨rfl, uw_X12, tyX12_ok, nmX12, rfl, by decide⟩
theorem my_X0_init : MY yX0_init cX0_init 1 none 0 := ⟨wC_X0_init, wN_X0, by decide +kernel⟩
theorem my_X6_init : MY yX6_init cX6_init 1 none 0 := ⟨wC_X6_init, wN_X6, by decide +kernel⟩
theorem my_X1_init : MY yX1_init cX1_init 1 none 0 := ⟨wC_X1_init, wN_X1, by decide +kernel⟩
theorem my_X6_worth : MY yX6_worth cX6_worth 2 (some .int) 1 := ⟨wC_X6_worth, wN_X6, by decide +kernel⟩
theorem my_X1_worth : MY yX1_worth cX1_worth 2 (some .int) 1 := ⟨wC_X1_worth, wN_X1, by decide +kernel⟩
theorem my_X10_init : MY yX10_init cX10_init 1 none 0 := ⟨wC_X10_init, wN_X10, by decide +kernel⟩
theorem my_X2_init : MY yX2_init cX2_init 1 none 0 := ⟨wC_X2_init, wN_X2, by decide +kernel⟩
theorem my_X10_worth : MY yX10_worth cX10_worth 2 (some .int) 1 := ⟨wC_X10_worth, wN_X10, by decide +kernel⟩
theorem my_X2_worth : MY yX2_worth cX2_worth 2 (some .int) 1 := ⟨wC_X2_worth, wN_X2, by decide +kernel⟩
theorem my_X3_init : MY yX3_init cX3_init 1 none 0 := ⟨wC_X3_init, wN_X3, by decide +kernel⟩
theorem my_X3_worth : MY yX3_worth cX3_worth 2 (some .int) 1 := ⟨wC_X3_worth, wN_X3, by decide +kernel⟩
theorem my_X4_init : MY yX4_init cX4_init 1 none 0 := ⟨wC_X4_init, wN_X4, by decide +kernel⟩
theorem my_X4_worth : MY yX4_worth cX4_worth 2 (some .int) 1 := ⟨wC_X4_worth, wN_X4, by decide +kernel⟩
theorem my_X5_init : MY yX5_init cX5_init 1 none 0 := ⟨wC_X5_init, wN_X5, by decide +kernel⟩
theorem my_X8_needs : MY yX8_needs cX8_needs 4 (some .int) 2 := ⟨wC_X8_needs, wN_X8, by decide +kernel⟩
theorem my_X5_most : MY yX5_most cX5_most 6 (some .int) 1 := ⟨wC_X5_most, wN_X5, by decide +kernel⟩
theorem my_X5_firstFor : MY yX5_firstFor cX5_firstFor 4 (some .int) 2 := ⟨wC_X5_firstFor, wN_X5, by decide +kernel⟩
theorem my_X5_share : MY yX5_share cX5_share 6 (some .int) 2 := ⟨wC_X5_share, wN_X5, by decide +kernel⟩
theorem my_X7_init : MY yX7_init cX7_init 1 none 0 := ⟨wC_X7_init, wN_X7, by decide +kernel⟩
theorem my_X7_become : MY yX7_become cX7_become 2 none 1 := ⟨wC_X7_become, wN_X7, by decide +kernel⟩
theorem my_X7_changeSeats : MY yX7_changeSeats cX7_changeSeats 4 none 2 := ⟨wC_X7_changeSeats, wN_X7, by decide +kernel⟩
theorem my_X8_init : MY yX8_init cX8_init 1 none 0 := ⟨wC_X8_init, wN_X8, by decide +kernel⟩
theorem my_X8_empty : MY yX8_empty cX8_empty 1 none 0 := ⟨wC_X8_empty, wN_X8, by decide +kernel⟩
theorem my_J9_floorMod_7cf53 : MY yJ9_floorMod_7cf53 cJ9_floorMod_7cf53 3 (some .int) 2 := ⟨wC_J9_floorMod_7cf53, wN_J9, by decide +kernel⟩
theorem my_X8_around : MY yX8_around cX8_around 2 (some .int) 1 := ⟨wC_X8_around, wN_X8, by decide +kernel⟩
theorem my_X8_seatBefore : MY yX8_seatBefore cX8_seatBefore 3 (some .int) 2 := ⟨wC_X8_seatBefore, wN_X8, by decide +kernel⟩
theorem my_X8_gap : MY yX8_gap cX8_gap 5 (some .int) 4 := ⟨wC_X8_gap, wN_X8, by decide +kernel⟩
theorem my_X8_reaches : MY yX8_reaches cX8_reaches 6 (some .boolean) 4 := ⟨wC_X8_reaches, wN_X8, by decide +kernel⟩
theorem my_X8_stepsBy : MY yX8_stepsBy cX8_stepsBy 8 (some .int) 4 := ⟨wC_X8_stepsBy, wN_X8, by decide +kernel⟩
theorem my_X8_reachedBy : MY yX8_reachedBy cX8_reachedBy 5 (some .int) 2 := ⟨wC_X8_reachedBy, wN_X8, by decide +kernel⟩
theorem my_X8_whoReach : MY yX8_whoReach cX8_whoReach 6 (some .int) 3 := ⟨wC_X8_whoReach, wN_X8, by decide +kernel⟩
theorem my_X8_hasEnough : MY yX8_hasEnough cX8_hasEnough 5 (some .boolean) 2 := ⟨wC_X8_hasEnough, wN_X8, by decide +kernel⟩
theorem my_J7_fill_53178 : MY yJ7_fill_53178 cJ7_fill_53178 4 none 2 := ⟨wC_J7_fill_53178, wN_J7, by decide +kernel⟩
theorem my_X8_fillFurthest : MY yX8_fillFurthest cX8_fillFurthest 6 none 1 := ⟨wC_X8_fillFurthest, wN_X8, by decide +kernel⟩
theorem my_X8_tour : MY yX8_tour cX8_tour 5 (some .int) 1 := ⟨wC_X8_tour, wN_X8, by decide +kernel⟩
theorem my_X9_init : MY yX9_init cX9_init 1 none 0 := ⟨wC_X9_init, wN_X9, by decide +kernel⟩
theorem my_X9_isSmall : MY yX9_isSmall cX9_isSmall 1 (some .boolean) 1 := ⟨wC_X9_isSmall, wN_X9, by decide +kernel⟩
theorem my_X9_nextWord : MY yX9_nextWord cX9_nextWord 1 none 0 := ⟨wC_X9_nextWord, wN_X9, by decide +kernel⟩
theorem my_X9_isDigit : MY yX9_isDigit cX9_isDigit 1 (some .boolean) 1 := ⟨wC_X9_isDigit, wN_X9, by decide +kernel⟩
theorem my_X9_nextNumber : MY yX9_nextNumber cX9_nextNumber 2 none 0 := ⟨wC_X9_nextNumber, wN_X9, by decide +kernel⟩
theorem my_X9_nextToken : MY yX9_nextToken cX9_nextToken 1 none 0 := ⟨wC_X9_nextToken, wN_X9, by decide +kernel⟩
theorem my_X9_isWord : MY yX9_isWord cX9_isWord 2 (some .boolean) 1 := ⟨wC_X9_isWord, wN_X9, by decide +kernel⟩
theorem my_X9_readNumber : MY yX9_readNumber cX9_readNumber 3 (some .boolean) 2 := ⟨wC_X9_readNumber, wN_X9, by decide +kernel⟩
theorem my_X9_readClose : MY yX9_readClose cX9_readClose 1 (some .boolean) 0 := ⟨wC_X9_readClose, wN_X9, by decide +kernel⟩
theorem my_X9_readSeats : MY yX9_readSeats cX9_readSeats 1 (some .boolean) 0 := ⟨wC_X9_readSeats, wN_X9, by decide +kernel⟩
theorem my_X9_isAmong : MY yX9_isAmong cX9_isAmong 4 (some .boolean) 2 := ⟨wC_X9_isAmong, wN_X9, by decide +kernel⟩
theorem my_X9_readRow : MY yX9_readRow cX9_readRow 2 (some .boolean) 0 := ⟨wC_X9_readRow, wN_X9, by decide +kernel⟩
theorem my_X9_readGuest : MY yX9_readGuest cX9_readGuest 2 (some .boolean) 0 := ⟨wC_X9_readGuest, wN_X9, by decide +kernel⟩
theorem my_X9_readDish : MY yX9_readDish cX9_readDish 2 (some .boolean) 0 := ⟨wC_X9_readDish, wN_X9, by decide +kernel⟩
theorem my_X9_readItem : MY yX9_readItem cX9_readItem 2 (some .boolean) 1 := ⟨wC_X9_readItem, wN_X9, by decide +kernel⟩
theorem my_X9_read : MY yX9_read cX9_read 2 (some .int) 0 := ⟨wC_X9_read, wN_X9, by decide +kernel⟩
theorem my_X9_handOver : MY yX9_handOver cX9_handOver 3 (some (.object "TrayTurns$Party")) 1 := ⟨wC_X9_handOver, wN_X9, by decide +kernel⟩
theorem my_X11_init : MY yX11_init cX11_init 2 none 0 := ⟨wC_X11_init, wN_X11, by decide +kernel⟩
theorem my_X11_type : MY yX11_type cX11_type 2 (some .int) 1 := ⟨wC_X11_type, wN_X11, by decide +kernel⟩
theorem my_X11_clear : MY yX11_clear cX11_clear 2 (some .int) 0 := ⟨wC_X11_clear, wN_X11, by decide +kernel⟩
theorem my_X11_table : MY yX11_table cX11_table 3 (some .int) 0 := ⟨wC_X11_table, wN_X11, by decide +kernel⟩
theorem my_X11_isGuest : MY yX11_isGuest cX11_isGuest 2 (some .boolean) 1 := ⟨wC_X11_isGuest, wN_X11, by decide +kernel⟩
theorem my_X11_guest : MY yX11_guest cX11_guest 3 (some .int) 2 := ⟨wC_X11_guest, wN_X11, by decide +kernel⟩
theorem my_X11_isDish : MY yX11_isDish cX11_isDish 2 (some .boolean) 1 := ⟨wC_X11_isDish, wN_X11, by decide +kernel⟩
theorem my_X11_dish : MY yX11_dish cX11_dish 3 (some .int) 2 := ⟨wC_X11_dish, wN_X11, by decide +kernel⟩
theorem my_X11_allPortions : MY yX11_allPortions cX11_allPortions 3 (some .int) 0 := ⟨wC_X11_allPortions, wN_X11, by decide +kernel⟩
theorem my_X11_swap : MY yX11_swap cX11_swap 6 (some .int) 0 := ⟨wC_X11_swap, wN_X11, by decide +kernel⟩
theorem my_X11_now : MY yX11_now cX11_now 2 (some .int) 1 := ⟨wC_X11_now, wN_X11, by decide +kernel⟩
theorem my_X11_isBit : MY yX11_isBit cX11_isBit 1 (some .boolean) 1 := ⟨wC_X11_isBit, wN_X11, by decide +kernel⟩
theorem my_X11_remember : MY yX11_remember cX11_remember 3 none 0 := ⟨wC_X11_remember, wN_X11, by decide +kernel⟩
theorem my_X11_spill : MY yX11_spill cX11_spill 3 (some .int) 0 := ⟨wC_X11_spill, wN_X11, by decide +kernel⟩
theorem my_X11_spins : MY yX11_spins cX11_spins 3 (some .int) 2 := ⟨wC_X11_spins, wN_X11, by decide +kernel⟩
theorem my_X11_takes : MY yX11_takes cX11_takes 3 (some .int) 2 := ⟨wC_X11_takes, wN_X11, by decide +kernel⟩
theorem my_X11_isTurn : MY yX11_isTurn cX11_isTurn 2 (some .boolean) 1 := ⟨wC_X11_isTurn, wN_X11, by decide +kernel⟩
theorem my_X11_isEmpty : MY yX11_isEmpty cX11_isEmpty 3 (some .boolean) 1 := ⟨wC_X11_isEmpty, wN_X11, by decide +kernel⟩
theorem my_X11_moves : MY yX11_moves cX11_moves 4 (some .int) 2 := ⟨wC_X11_moves, wN_X11, by decide +kernel⟩
theorem my_X11_changes : MY yX11_changes cX11_changes 3 (some .int) 2 := ⟨wC_X11_changes, wN_X11, by decide +kernel⟩
theorem my_X11_undo : MY yX11_undo cX11_undo 1 (some .int) 0 := ⟨wC_X11_undo, wN_X11, by decide +kernel⟩
theorem my_X11_steps : MY yX11_steps cX11_steps 7 (some .int) 3 := ⟨wC_X11_steps, wN_X11, by decide +kernel⟩
theorem my_X11_puts : MY yX11_puts cX11_puts 6 (some .int) 1 := ⟨wC_X11_puts, wN_X11, by decide +kernel⟩
theorem my_X11_fed : MY yX11_fed cX11_fed 2 (some .int) 1 := ⟨wC_X11_fed, wN_X11, by decide +kernel⟩
theorem my_X11_spreadChances : MY yX11_spreadChances cX11_spreadChances 7 (some .int) 1 := ⟨wC_X11_spreadChances, wN_X11, by decide +kernel⟩
theorem my_X11_odds : MY yX11_odds cX11_odds 7 (some .int) 3 := ⟨wC_X11_odds, wN_X11, by decide +kernel⟩
theorem my_X11_sees : MY yX11_sees cX11_sees 4 (some .int) 3 := ⟨wC_X11_sees, wN_X11, by decide +kernel⟩
theorem my_X11_forget : MY yX11_forget cX11_forget 2 (some .int) 0 := ⟨wC_X11_forget, wN_X11, by decide +kernel⟩
theorem my_X11_fitsAllSeen : MY yX11_fitsAllSeen cX11_fitsAllSeen 3 (some .boolean) 1 := ⟨wC_X11_fitsAllSeen, wN_X11, by decide +kernel⟩
theorem my_X11_who : MY yX11_who cX11_who 3 (some .int) 0 := ⟨wC_X11_who, wN_X11, by decide +kernel⟩
theorem my_J6_bitCount_0f7a4 : MY yJ6_bitCount_0f7a4 cJ6_bitCount_0f7a4 1 (some .int) 1 := ⟨wC_J6_bitCount_0f7a4, wN_J6, by decide +kernel⟩
theorem my_X11_look : MY yX11_look cX11_look 9 (some .int) 1 := ⟨wC_X11_look, wN_X11, by decide +kernel⟩
theorem my_X11_rate : MY yX11_rate cX11_rate 3 (some .int) 2 := ⟨wC_X11_rate, wN_X11, by decide +kernel⟩
theorem my_X11_isImage : MY yX11_isImage cX11_isImage 2 (some .boolean) 1 := ⟨wC_X11_isImage, wN_X11, by decide +kernel⟩
theorem my_X11_keep : MY yX11_keep cX11_keep 2 (some .int) 1 := ⟨wC_X11_keep, wN_X11, by decide +kernel⟩
theorem my_X11_back : MY yX11_back cX11_back 2 (some .int) 1 := ⟨wC_X11_back, wN_X11, by decide +kernel⟩
theorem my_X11_count : MY yX11_count cX11_count 2 (some .int) 1 := ⟨wC_X11_count, wN_X11, by decide +kernel⟩
theorem my_X11_trace : MY yX11_trace cX11_trace 1 (some .long) 0 := ⟨wC_X11_trace, wN_X11, by decide +kernel⟩
theorem my_X12_begins : MY yX12_begins cX12_begins 2 none 0 := ⟨wC_X12_begins, wN_X12, by decide +kernel⟩
theorem my_X12_settles : MY yX12_settles cX12_settles 2 none 0 := ⟨wC_X12_settles, wN_X12, by decide +kernel⟩
theorem my_X12_init : MY yX12_init cX12_init 1 none 0 := ⟨wC_X12_init, wN_X12, by decide +kernel⟩
theorem my_X12_in : MY yX12_in cX12_in 3 (some .boolean) 3 := ⟨wC_X12_in, wN_X12, by decide +kernel⟩
theorem my_X12_isOf : MY yX12_isOf cX12_isOf 2 (some .boolean) 2 := ⟨wC_X12_isOf, wN_X12, by decide +kernel⟩
theorem my_X12_ones : MY yX12_ones cX12_ones 3 (some .int) 1 := ⟨wC_X12_ones, wN_X12, by decide +kernel⟩
theorem my_X12_type : MY yX12_type cX12_type 2 (some .int) 1 := ⟨wC_X12_type, wN_X12, by decide +kernel⟩
theorem my_X12_clear : MY yX12_clear cX12_clear 2 (some .int) 0 := ⟨wC_X12_clear, wN_X12, by decide +kernel⟩
theorem my_X12_letterAt : MY yX12_letterAt cX12_letterAt 2 (some .int) 1 := ⟨wC_X12_letterAt, wN_X12, by decide +kernel⟩
theorem my_X12_advances : MY yX12_advances cX12_advances 2 none 0 := ⟨wC_X12_advances, wN_X12, by decide +kernel⟩
theorem my_X12_isWell : MY yX12_isWell cX12_isWell 1 (some .boolean) 0 := ⟨wC_X12_isWell, wN_X12, by decide +kernel⟩
theorem my_X12_takesToken : MY yX12_takesToken cX12_takesToken 3 (some .int) 1 := ⟨wC_X12_takesToken, wN_X12, by decide +kernel⟩
theorem my_X12_number : MY yX12_number cX12_number 3 (some .int) 2 := ⟨wC_X12_number, wN_X12, by decide +kernel⟩
theorem my_X12_mayBegin : MY yX12_mayBegin cX12_mayBegin 2 (some .boolean) 1 := ⟨wC_X12_mayBegin, wN_X12, by decide +kernel⟩
theorem my_X12_free : MY yX12_free cX12_free 5 (some .int) 2 := ⟨wC_X12_free, wN_X12, by decide +kernel⟩
theorem my_X12_lettersRow : MY yX12_lettersRow cX12_lettersRow 6 (some .int) 0 := ⟨wC_X12_lettersRow, wN_X12, by decide +kernel⟩
theorem my_X12_readsItem : MY yX12_readsItem cX12_readsItem 3 none 1 := ⟨wC_X12_readsItem, wN_X12, by decide +kernel⟩
theorem my_X12_table : MY yX12_table cX12_table 3 (some .int) 0 := ⟨wC_X12_table, wN_X12, by decide +kernel⟩
theorem my_X12_isGuest : MY yX12_isGuest cX12_isGuest 2 (some .boolean) 1 := ⟨wC_X12_isGuest, wN_X12, by decide +kernel⟩
theorem my_X12_isDish : MY yX12_isDish cX12_isDish 2 (some .boolean) 1 := ⟨wC_X12_isDish, wN_X12, by decide +kernel⟩
theorem my_X12_isSeat : MY yX12_isSeat cX12_isSeat 2 (some .boolean) 1 := ⟨wC_X12_isSeat, wN_X12, by decide +kernel⟩
theorem my_X12_reachesBy : MY yX12_reachesBy cX12_reachesBy 6 (some .boolean) 3 := ⟨wC_X12_reachesBy, wN_X12, by decide +kernel⟩
theorem my_X12_reachedBy : MY yX12_reachedBy cX12_reachedBy 4 (some .int) 1 := ⟨wC_X12_reachedBy, wN_X12, by decide +kernel⟩
theorem my_X12_needsOf : MY yX12_needsOf cX12_needsOf 2 (some .int) 1 := ⟨wC_X12_needsOf, wN_X12, by decide +kernel⟩
theorem my_X12_guest : MY yX12_guest cX12_guest 3 (some .int) 2 := ⟨wC_X12_guest, wN_X12, by decide +kernel⟩
theorem my_X12_whoReach : MY yX12_whoReach cX12_whoReach 5 (some .int) 2 := ⟨wC_X12_whoReach, wN_X12, by decide +kernel⟩
theorem my_X12_dish : MY yX12_dish cX12_dish 3 (some .int) 2 := ⟨wC_X12_dish, wN_X12, by decide +kernel⟩
theorem my_X12_isEnough : MY yX12_isEnough cX12_isEnough 4 (some .boolean) 0 := ⟨wC_X12_isEnough, wN_X12, by decide +kernel⟩
theorem my_X12_isAll : MY yX12_isAll cX12_isAll 7 (some .boolean) 2 := ⟨wC_X12_isAll, wN_X12, by decide +kernel⟩
theorem my_X12_tourOf : MY yX12_tourOf cX12_tourOf 5 (some .int) 0 := ⟨wC_X12_tourOf, wN_X12, by decide +kernel⟩
theorem my_X12_trades : MY yX12_trades cX12_trades 4 none 2 := ⟨wC_X12_trades, wN_X12, by decide +kernel⟩
theorem my_X12_swapOf : MY yX12_swapOf cX12_swapOf 6 (some .int) 0 := ⟨wC_X12_swapOf, wN_X12, by decide +kernel⟩
theorem my_X12_sevens : MY yX12_sevens cX12_sevens 3 (some .int) 1 := ⟨wC_X12_sevens, wN_X12, by decide +kernel⟩
theorem my_X12_havingBy : MY yX12_havingBy cX12_havingBy 6 (some .int) 1 := ⟨wC_X12_havingBy, wN_X12, by decide +kernel⟩
theorem my_X12_feeds : MY yX12_feeds cX12_feeds 6 (some .int) 0 := ⟨wC_X12_feeds, wN_X12, by decide +kernel⟩
theorem my_X12_now : MY yX12_now cX12_now 4 (some .int) 1 := ⟨wC_X12_now, wN_X12, by decide +kernel⟩
theorem my_X12_notes : MY yX12_notes cX12_notes 2 none 0 := ⟨wC_X12_notes, wN_X12, by decide +kernel⟩
theorem my_X12_spins : MY yX12_spins cX12_spins 7 (some .int) 2 := ⟨wC_X12_spins, wN_X12, by decide +kernel⟩
theorem my_X12_takes : MY yX12_takes cX12_takes 3 (some .int) 2 := ⟨wC_X12_takes, wN_X12, by decide +kernel⟩
theorem my_X12_isEmpty : MY yX12_isEmpty cX12_isEmpty 4 (some .boolean) 1 := ⟨wC_X12_isEmpty, wN_X12, by decide +kernel⟩
theorem my_X12_moves : MY yX12_moves cX12_moves 4 (some .int) 2 := ⟨wC_X12_moves, wN_X12, by decide +kernel⟩
theorem my_X12_changes : MY yX12_changes cX12_changes 3 (some .int) 2 := ⟨wC_X12_changes, wN_X12, by decide +kernel⟩
theorem my_X12_undo : MY yX12_undo cX12_undo 2 (some .int) 0 := ⟨wC_X12_undo, wN_X12, by decide +kernel⟩
theorem my_X12_steps : MY yX12_steps cX12_steps 7 (some .int) 3 := ⟨wC_X12_steps, wN_X12, by decide +kernel⟩
theorem my_X12_puts : MY yX12_puts cX12_puts 7 (some .int) 1 := ⟨wC_X12_puts, wN_X12, by decide +kernel⟩
theorem my_X12_fed : MY yX12_fed cX12_fed 2 (some .int) 1 := ⟨wC_X12_fed, wN_X12, by decide +kernel⟩
theorem my_X12_power : MY yX12_power cX12_power 4 (some .int) 2 := ⟨wC_X12_power, wN_X12, by decide +kernel⟩
theorem my_X12_gcd : MY yX12_gcd cX12_gcd 5 (some .int) 2 := ⟨wC_X12_gcd, wN_X12, by decide +kernel⟩
theorem my_X12_odds : MY yX12_odds cX12_odds 8 (some .int) 3 := ⟨wC_X12_odds, wN_X12, by decide +kernel⟩
theorem my_X12_sees : MY yX12_sees cX12_sees 4 (some .int) 3 := ⟨wC_X12_sees, wN_X12, by decide +kernel⟩
theorem my_X12_forget : MY yX12_forget cX12_forget 2 (some .int) 0 := ⟨wC_X12_forget, wN_X12, by decide +kernel⟩
theorem my_X12_whoCan : MY yX12_whoCan cX12_whoCan 4 (some .int) 0 := ⟨wC_X12_whoCan, wN_X12, by decide +kernel⟩
theorem my_X12_who : MY yX12_who cX12_who 1 (some .int) 0 := ⟨wC_X12_who, wN_X12, by decide +kernel⟩
theorem my_X12_look : MY yX12_look cX12_look 8 (some .int) 1 := ⟨wC_X12_look, wN_X12, by decide +kernel⟩
theorem my_X12_rate : MY yX12_rate cX12_rate 6 (some .int) 2 := ⟨wC_X12_rate, wN_X12, by decide +kernel⟩
theorem my_X12_keep : MY yX12_keep cX12_keep 3 (some .int) 1 := ⟨wC_X12_keep, wN_X12, by decide +kernel⟩
theorem my_X12_back : MY yX12_back cX12_back 3 (some .int) 1 := ⟨wC_X12_back, wN_X12, by decide +kernel⟩
theorem my_X12_count : MY yX12_count cX12_count 2 (some .int) 1 := ⟨wC_X12_count, wN_X12, by decide +kernel⟩
theorem my_X12_trace : MY yX12_trace cX12_trace 1 (some .long) 0 := ⟨wC_X12_trace, wN_X12, by decide +kernel⟩
theorem my_J9_max_7cf53 : MY yJ9_max_7cf53 cJ9_max_7cf53 2 (some .int) 2 := ⟨wC_J9_max_7cf53, wN_J9, by decide +kernel⟩
theorem my_J9_min_7cf53 : MY yJ9_min_7cf53 cJ9_min_7cf53 2 (some .int) 2 := ⟨wC_J9_min_7cf53, wN_J9, by decide +kernel⟩
section KW
variable {p : Program} {l : Launch} {e : Env} {R : Room} {s : State} {m : MethodId} {args : Array Value} {below : List Frame} {meth : Method} {c : Code} {H : Heap} {locs : List Loc} {cells slots : Nat} {Q : State → Prop}
variable {cc : ByteArray} {pc nL : Nat} {ls : Array Slot} {rest st : List Value} {D : va_G} {cA : Nat → ClassId} {ad : Nat → Nat} {A : Nat → Prop} {own : String} {M M' : Mem}
variable {y : MethodName} {bytes : ByteArray} {maxL n d index k ci N : Nat} {ret : Option FieldType} {C : String} {T : u_T} {ty : Nat → FieldType} {As : List Value}
theorem k_cb (hC : CallFix p m c cc nL s args tblG own) (hy : MY y bytes maxL ret n) (hl : Cond.methodLink own index y ∈ tblG) (hR : (rmD d).frames + 1 ≤ R.frames ∧ 8 + (maxL + 11) + (rmD d).locals ≤ R.locals) : CallB R s args own index y bytes maxL ret (wd y bytes maxL ret) (rmD d) 0 0 n :=
  callB_of n hC.2.2.2.2 (gd hy.1) rfl rfl rfl (hC.2.2.2.2 _ hy.2.1) (hC.2.2.2.2 _ hl) hy.2.2 hR
theorem k_vI {r : Int32} (hC : CallFix p m c cc nL s args tblG own) (hK : va_K D vwCl (tysOf cA) s) (hW : Wd D cA ad A s M H locs) (cf : CF ci C T N ty) (hM : Met l y (wd y bytes maxL ret) (rmD d) (PcW D cA ad (.ref (ad k) :: As) M) (QI D cA ad A r M') 0 0 A) (hk : k < M.1 ∧ (lay k).1 = ci) (hy : MY y bytes maxL ret n) (hi : Cond.instanceMethod y ∈ tblG) (hs : Cond.selects C y y ∈ tblG) (hl : Cond.methodLink own index y ∈ tblG) (hR : (rmD d).frames + 1 ≤ R.frames ∧ 8 + (maxL + 11) + (rmD d).locals ≤ R.locals) (hn : As.length = n) (hsize : ls.size = nL) (hst : st = As.reverse ++ .ref (ad k) :: rest) (hroom : (rest.map fun v => v.category).sum ≤ 8) (hc : cells + 0 ≤ R.cells ∧ slots + 0 ≤ R.slots) (hdg : decode cc pc = .ok (.invokevirtual index, 3))
    (kk : ∀ (H1 : Heap) (locs1 : List Loc), Wd D cA ad A s M' H1 locs1 → W p l e R s m args below meth c H1 locs1 cells slots Q (F0 m (pc + 3) ls (.int r :: rest))) : W p l e R s m args below meth c H locs cells slots Q (F0 m pc ls st) :=
  va_calli (va_runV hC hM ⟨k_cb hC hy hl hR, hC.2.2.2.2 _ hi, hC.2.2.2.2 _ hs⟩ (pre_v cf hk.1 hk.2 hK hW) rfl hn hsize hst (lv_room hroom) hdg hc) hW.2 (fun _ _ h => h) (fun _ h => h) (fun r' u t H1 locs1 ht hvm hw hB hz hk hS => by subst hw; exact kk H1 locs1 ⟨by rw [← ht]; exact hB, hS⟩)
theorem k_vV (hC : CallFix p m c cc nL s args tblG own) (hK : va_K D vwCl (tysOf cA) s) (hW : Wd D cA ad A s M H locs) (cf : CF ci C T N ty) (hM : Met l y (wd y bytes maxL ret) (rmD d) (PcW D cA ad (.ref (ad k) :: As) M) (QV D cA ad A M') 0 0 A) (hk : k < M.1 ∧ (lay k).1 = ci) (hy : MY y bytes maxL ret n) (hi : Cond.instanceMethod y ∈ tblG) (hs : Cond.selects C y y ∈ tblG) (hl : Cond.methodLink own index y ∈ tblG) (hR : (rmD d).frames + 1 ≤ R.frames ∧ 8 + (maxL + 11) + (rmD d).locals ≤ R.locals) (hn : As.length = n) (hsize : ls.size = nL) (hst : st = As.reverse ++ .ref (ad k) :: rest) (hroom : (rest.map fun v => v.category).sum ≤ 8) (hc : cells + 0 ≤ R.cells ∧ slots + 0 ≤ R.slots) (hdg : decode cc pc = .ok (.invokevirtual index, 3))
    (kk : ∀ (H1 : Heap) (locs1 : List Loc), Wd D cA ad A s M' H1 locs1 → W p l e R s m args below meth c H1 locs1 cells slots Q (F0 m (pc + 3) ls rest)) : W p l e R s m args below meth c H locs cells slots Q (F0 m pc ls st) :=
  va_callv (va_runV hC hM ⟨k_cb hC hy hl hR, hC.2.2.2.2 _ hi, hC.2.2.2.2 _ hs⟩ (pre_v cf hk.1 hk.2 hK hW) rfl hn hsize hst (lv_room hroom) hdg hc) hW.2 (fun _ _ h => h) (fun _ h => h) (fun u t H1 locs1 ht hvm hw hB hz hk hS => kk H1 locs1 ⟨by rw [← ht]; exact hB, hS⟩)
theorem k_vL {r : Int64} (hC : CallFix p m c cc nL s args tblG own) (hK : va_K D vwCl (tysOf cA) s) (hW : Wd D cA ad A s M H locs) (cf : CF ci C T N ty) (hM : Met l y (wd y bytes maxL ret) (rmD d) (PcW D cA ad (.ref (ad k) :: As) M) (QL D cA ad A r M') 0 0 A) (hk : k < M.1 ∧ (lay k).1 = ci) (hy : MY y bytes maxL ret n) (hi : Cond.instanceMethod y ∈ tblG) (hs : Cond.selects C y y ∈ tblG) (hl : Cond.methodLink own index y ∈ tblG) (hR : (rmD d).frames + 1 ≤ R.frames ∧ 8 + (maxL + 11) + (rmD d).locals ≤ R.locals) (hn : As.length = n) (hsize : ls.size = nL) (hst : st = As.reverse ++ .ref (ad k) :: rest) (hroom : (rest.map fun v => v.category).sum ≤ 8) (hc : cells + 0 ≤ R.cells ∧ slots + 0 ≤ R.slots) (hdg : decode cc pc = .ok (.invokevirtual index, 3))
    (kk : ∀ (H1 : Heap) (locs1 : List Loc), Wd D cA ad A s M' H1 locs1 → W p l e R s m args below meth c H1 locs1 cells slots Q (F0 m (pc + 3) ls (.long r :: rest))) : W p l e R s m args below meth c H locs cells slots Q (F0 m pc ls st) :=
  va_calll (va_runV hC hM ⟨k_cb hC hy hl hR, hC.2.2.2.2 _ hi, hC.2.2.2.2 _ hs⟩ (pre_v cf hk.1 hk.2 hK hW) rfl hn hsize hst (lv_room hroom) hdg hc) hW.2 (fun _ _ h => h) (fun _ h => h) (fun r' u t H1 locs1 ht hvm hw hB hz hk hS => by subst hw; exact kk H1 locs1 ⟨by rw [← ht]; exact hB, hS⟩)
theorem k_vR {r : Nat} (hC : CallFix p m c cc nL s args tblG own) (hK : va_K D vwCl (tysOf cA) s) (hW : Wd D cA ad A s M H locs) (cf : CF ci C T N ty) (hM : Met l y (wd y bytes maxL ret) (rmD d) (PcW D cA ad (.ref (ad k) :: As) M) (QR D cA ad A r M') 0 0 A) (hk : k < M.1 ∧ (lay k).1 = ci) (hy : MY y bytes maxL ret n) (hi : Cond.instanceMethod y ∈ tblG) (hs : Cond.selects C y y ∈ tblG) (hl : Cond.methodLink own index y ∈ tblG) (hR : (rmD d).frames + 1 ≤ R.frames ∧ 8 + (maxL + 11) + (rmD d).locals ≤ R.locals) (hn : As.length = n) (hsize : ls.size = nL) (hst : st = As.reverse ++ .ref (ad k) :: rest) (hroom : (rest.map fun v => v.category).sum ≤ 8) (hc : cells + 0 ≤ R.cells ∧ slots + 0 ≤ R.slots) (hdg : decode cc pc = .ok (.invokevirtual index, 3))
    (kk : ∀ (H1 : Heap) (locs1 : List Loc), Wd D cA ad A s M' H1 locs1 → W p l e R s m args below meth c H1 locs1 cells slots Q (F0 m (pc + 3) ls (.ref (ad r) :: rest))) : W p l e R s m args below meth c H locs cells slots Q (F0 m pc ls st) :=
  va_callr (va_runV hC hM ⟨k_cb hC hy hl hR, hC.2.2.2.2 _ hi, hC.2.2.2.2 _ hs⟩ (pre_v cf hk.1 hk.2 hK hW) rfl hn hsize hst (lv_room hroom) hdg hc) hW.2 (fun _ _ h => h) (fun _ h => h) (fun u ra t H1 locs1 ht hvm hw hB hz hk hS => by obtain ⟨h8, hB⟩ := hB; subst h8; exact kk H1 locs1 ⟨by rw [← ht]; exact hB, hS⟩)
theorem k_sI {r : Int32} (hC : CallFix p m c cc nL s args tblG own) (hK : va_K D vwCl (tysOf cA) s) (hW : Wd D cA ad A s M H locs) (hM : Met l y (wd y bytes maxL ret) (rmD d) (PcW D cA ad As M) (QI D cA ad A r M') 0 0 A) (hy : MY y bytes maxL ret n) (hi : Cond.static y ∈ tblG) (hl : Cond.methodLink own index y ∈ tblG) (hR : (rmD d).frames + 1 ≤ R.frames ∧ 8 + (maxL + 11) + (rmD d).locals ≤ R.locals) (hn : As.length = n) (hsize : ls.size = nL) (hst : st = As.reverse ++ rest) (hroom : (rest.map fun v => v.category).sum ≤ 8) (hc : cells + 0 ≤ R.cells ∧ slots + 0 ≤ R.slots) (hdg : decode cc pc = .ok (.invokestatic index, 3))
    (kk : ∀ (H1 : Heap) (locs1 : List Loc), Wd D cA ad A s M' H1 locs1 → W p l e R s m args below meth c H1 locs1 cells slots Q (F0 m (pc + 3) ls (.int r :: rest))) : W p l e R s m args below meth c H locs cells slots Q (F0 m pc ls st) :=
  va_calli (va_runS hC hM ⟨k_cb hC hy hl hR, hC.2.2.2.2 _ hi⟩ (pre_s hK hW) rfl hn hsize hst (lv_room hroom) hdg hc) hW.2 (fun _ _ h => h) (fun _ h => h) (fun r' u t H1 locs1 ht hvm hw hB hz hk hS => by subst hw; exact kk H1 locs1 ⟨by rw [← ht]; exact hB, hS⟩)
theorem k_sV (hC : CallFix p m c cc nL s args tblG own) (hK : va_K D vwCl (tysOf cA) s) (hW : Wd D cA ad A s M H locs) (hM : Met l y (wd y bytes maxL ret) (rmD d) (PcW D cA ad As M) (QV D cA ad A M') 0 0 A) (hy : MY y bytes maxL ret n) (hi : Cond.static y ∈ tblG) (hl : Cond.methodLink own index y ∈ tblG) (hR : (rmD d).frames + 1 ≤ R.frames ∧ 8 + (maxL + 11) + (rmD d).locals ≤ R.locals) (hn : As.length = n) (hsize : ls.size = nL) (hst : st = As.reverse ++ rest) (hroom : (rest.map fun v => v.category).sum ≤ 8) (hc : cells + 0 ≤ R.cells ∧ slots + 0 ≤ R.slots) (hdg : decode cc pc = .ok (.invokestatic index, 3))
    (kk : ∀ (H1 : Heap) (locs1 : List Loc), Wd D cA ad A s M' H1 locs1 → W p l e R s m args below meth c H1 locs1 cells slots Q (F0 m (pc + 3) ls rest)) : W p l e R s m args below meth c H locs cells slots Q (F0 m pc ls st) :=
  va_callv (va_runS hC hM ⟨k_cb hC hy hl hR, hC.2.2.2.2 _ hi⟩ (pre_s hK hW) rfl hn hsize hst (lv_room hroom) hdg hc) hW.2 (fun _ _ h => h) (fun _ h => h) (fun u t H1 locs1 ht hvm hw hB hz hk hS => kk H1 locs1 ⟨by rw [← ht]; exact hB, hS⟩)
/-- super.m(..) -/
theorem k_uI {r : Int32} (hC : CallFix p m c cc nL s args tblG own) (hK : va_K D vwCl (tysOf cA) s) (hW : Wd D cA ad A s M H locs) (cf : CF ci C T N ty) (hM : Met l y (wd y bytes maxL ret) (rmD d) (PcW D cA ad (.ref (ad k) :: As) M) (QI D cA ad A r M') 0 0 A) (hk : k < M.1 ∧ (lay k).1 = ci) (hy : MY y bytes maxL ret n) (hno : y.name ≠ "<init>") (hi : Cond.instanceMethod y ∈ tblG) (hsm : Cond.sameMethod y.cls y.cls y.name y.desc ∈ tblG) (hsu : Cond.superclass own y.cls ∈ tblG) (hl : Cond.methodLink own index y ∈ tblG) (hR : (rmD d).frames + 1 ≤ R.frames ∧ 8 + (maxL + 11) + (rmD d).locals ≤ R.locals) (hn : As.length = n) (hsize : ls.size = nL) (hst : st = As.reverse ++ .ref (ad k) :: rest) (hroom : (rest.map fun v => v.category).sum ≤ 8) (hc : cells + 0 ≤ R.cells ∧ slots + 0 ≤ R.slots) (hdg : decode cc pc = .ok (.invokespecial index, 3))
    (kk : ∀ (H1 : Heap) (locs1 : List Loc), Wd D cA ad A s M' H1 locs1 → W p l e R s m args below meth c H1 locs1 cells slots Q (F0 m (pc + 3) ls (.int r :: rest))) : W p l e R s m args below meth c H locs cells slots Q (F0 m pc ls st) := by
  have hb := k_cb hC hy hl hR
  have hcs : va_CS R s args own index y bytes maxL ret (wd y bytes maxL ret) (rmD d) 0 0 n := ⟨⟨rfl, rfl, hR.1, hR.2, hb.2.2.2.2.1, List.mem_cons_self⟩, hC.2.2.2.2 _ hl, hC.2.2.2.2 _ hsm, hC.2.2.2.2 _ hsu, hC.2.2.2.2 _ hi, hC.2.2.2.2 _ hy.2.1, hC.2.2.2.2 _ hy.1, hno, hb.2.2.2.2.2.2.2.2.2.1⟩
  exact va_calli (va_runSU (hK.1 ci _ cf.1).2 hC hM hcs (pre_v cf hk.1 hk.2 hK hW) rfl hn hsize hst (lv_room hroom) hdg hc) hW.2 (fun _ _ h => h) (fun _ h => h) (fun r' u t H1 locs1 ht hvm hw hB hz hk hS => by subst hw; exact kk H1 locs1 ⟨by rw [← ht]; exact hB, hS⟩)
/-- super.m(..) on an object of any of the kinds -/
theorem k_uK {r : Int32} (hC : CallFix p m c cc nL s args tblG own) (hK : va_K D vwCl (tysOf cA) s) (hW : Wd D cA ad A s M H locs) (hM : Met l y (wd y bytes maxL ret) (rmD d) (PcW D cA ad (.ref (ad k) :: As) M) (QI D cA ad A r M') 0 0 A) (hk : k < M.1 ∧ isK (lay k).1 = true) (hy : MY y bytes maxL ret n) (hno : y.name ≠ "<init>") (hi : Cond.instanceMethod y ∈ tblG) (hsm : Cond.sameMethod y.cls y.cls y.name y.desc ∈ tblG) (hsu : Cond.superclass own y.cls ∈ tblG) (hl : Cond.methodLink own index y ∈ tblG) (hR : (rmD d).frames + 1 ≤ R.frames ∧ 8 + (maxL + 11) + (rmD d).locals ≤ R.locals) (hn : As.length = n) (hsize : ls.size = nL) (hst : st = As.reverse ++ .ref (ad k) :: rest) (hroom : (rest.map fun v => v.category).sum ≤ 8) (hc : cells + 0 ≤ R.cells ∧ slots + 0 ≤ R.slots) (hdg : decode cc pc = .ok (.invokespecial index, 3))
    (kk : ∀ (H1 : Heap) (locs1 : List Loc), Wd D cA ad A s M' H1 locs1 → W p l e R s m args below meth c H1 locs1 cells slots Q (F0 m (pc + 3) ls (.int r :: rest))) : W p l e R s m args below meth c H locs cells slots Q (F0 m pc ls st) := by
  rcases isK_c hk.2 with h | h | h | h | h | h
  · exact k_uI hC hK hW cfX6 hM ⟨hk.1, h⟩ hy hno hi hsm hsu hl hR hn hsize hst hroom hc hdg kk
  · exact k_uI hC hK hW cfX10 hM ⟨hk.1, h⟩ hy hno hi hsm hsu hl hR hn hsize hst hroom hc hdg kk
  · exact k_uI hC hK hW cfX1 hM ⟨hk.1, h⟩ hy hno hi hsm hsu hl hR hn hsize hst hroom hc hdg kk
  · exact k_uI hC hK hW cfX2 hM ⟨hk.1, h⟩ hy hno hi hsm hsu hl hR hn hsize hst hroom hc hdg kk
  · exact k_uI hC hK hW cfX4 hM ⟨hk.1, h⟩ hy hno hi hsm hsu hl hR hn hsize hst hroom hc hdg kk
  · exact k_uI hC hK hW cfX3 hM ⟨hk.1, h⟩ hy hno hi hsm hsu hl hR hn hsize hst hroom hc hdg kk
/-- a method that overrides the named one -/
theorem k_oI {r : Int32} {x : MethodName} {owner : String} {b0 : ByteArray} {m0 : Nat} {r0 : Option FieldType} (hC : CallFix p m c cc nL s args tblG own) (hK : va_K D vwCl (tysOf cA) s) (hW : Wd D cA ad A s M H locs) (cf : CF ci C T N ty) (hM : Met l y (wd y bytes maxL ret) (rmD d) (PcW D cA ad (.ref (ad k) :: As) M) (QI D cA ad A r M') 0 0 A) (hk : k < M.1 ∧ (lay k).1 = ci) (hy : MY y bytes maxL ret n) (hi : Cond.instanceMethod y ∈ tblG) (hsm : Cond.sameMethod x.cls owner x.name x.desc ∈ tblG) (hio : Cond.instanceMethod ⟨owner, x.name, x.desc⟩ ∈ tblG) (hs : Cond.selects C x y ∈ tblG) (h0 : Cond.code ⟨owner, x.name, x.desc⟩ b0 m0 r0 ∈ tblG) (hd : owner ≠ "java/lang/invoke/MethodHandle" ∧ owner ≠ "java/lang/invoke/VarHandle" ∧ (parseMethodDescriptor x.desc).map (fun d => d.parameters.length) = some n) (hl : Cond.methodLink own index x ∈ tblG) (hR : (rmD d).frames + 1 ≤ R.frames ∧ 8 + (maxL + 11) + (rmD d).locals ≤ R.locals) (hn : As.length = n) (hsize : ls.size = nL) (hst : st = As.reverse ++ .ref (ad k) :: rest) (hroom : (rest.map fun v => v.category).sum ≤ 8) (hc : cells + 0 ≤ R.cells ∧ slots + 0 ≤ R.slots) (hdg : decode cc pc = .ok (.invokevirtual index, 3))
    (kk : ∀ (H1 : Heap) (locs1 : List Loc), Wd D cA ad A s M' H1 locs1 → W p l e R s m args below meth c H1 locs1 cells slots Q (F0 m (pc + 3) ls (.int r :: rest))) : W p l e R s m args below meth c H locs cells slots Q (F0 m pc ls st) := by
  have hG : GoodIn tblG (va_wsO own index C owner x y (wd y bytes maxL ret)) := by
    have gm : ∀ w, w ∈ tblG → w ∈ tblG ∧ ((w.onTables && w.keeps) = true ∨ ∃ ty, w = .arrayClass ty) := fun w h => ⟨h, good_of_word (List.mem_filter.mp h).2⟩
    intro w hw
    unfold va_wsO at hw
    rcases List.mem_append.mp hw with hw | hw
    · simp only [List.mem_cons, List.not_mem_nil, or_false] at hw
      rcases hw with rfl | rfl | rfl | rfl | rfl | rfl
      · exact gm _ hl
      · exact gm _ hsm
      · exact gm _ hio
      · exact gm _ hs
      · exact gm _ hi
      · exact gm _ hy.2.1
    · exact gd hy.1 w hw
  exact va_calli (va_runU hC hM (va_cwO n hC.2.2.2.2 hG rfl rfl rfl h0 hd hR) (pre_v cf hk.1 hk.2 hK hW) rfl hn hsize hst (lv_room hroom) hdg hc) hW.2 (fun _ _ h => h) (fun _ h => h) (fun r' u t H1 locs1 ht hvm hw hB hz hk hS => by subst hw; exact kk H1 locs1 ⟨by rw [← ht]; exact hB, hS⟩)
/-- a switch over 0 .. n - 1: the row for one of the numbers, and the one for all others -/
theorem k_tbl {dflt lo hi : Int} {offs : Array Int} {len : Nat} {x v : Int32} {off : Int} {tgt : Nat} (hx : x = v) (hC : CallFix p m c cc nL s args tblG own) (hdg : decode cc pc = .ok (.tableswitch dflt lo hi offs, len)) (h1 : ¬ v.toInt < lo) (h2 : ¬ hi < v.toInt) (ho : offs[(v.toInt - lo).toNat]? = some off) (ht : (pc : Int) + off = (tgt : Int))
    (kk : W p l e R s m args below meth c H locs cells slots Q (F0 m tgt ls rest)) : W p l e R s m args below meth c H locs cells slots Q (F0 m pc ls (.int x :: rest)) := by
  subst hx
  exact lv_tableIn hC.1 hC.2.1 hdg h1 h2 ho ht kk
end KW
/-- a number that is none of 0 .. n - 1 lies outside a table from 0 -/
theorem tbl_out {x : Int32} : ∀ n : Nat, n < 2 ^ 31 → (∀ j : Nat, j < n → ¬ x = nI j) → x.toInt < 0 ∨ ((n : Int) - 1) < x.toInt := by
  intro n hn h
  by_cases h0 : x.toInt < 0
  · exact Or.inl h0
  · right
    by_cases h1 : (n : Int) - 1 < x.toInt
    · exact h1
    · exfalso
      obtain ⟨j, hj, rfl⟩ := nI_of (x := x) (fun q => h0 (by have := Int32.lt_iff_toInt_lt.mp q; simpa using this))
      have h2 := nI_toInt hj
      rw [h2] at h1
      exact h j (by omega) rfl


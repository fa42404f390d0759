/-! The systems, and what their links mean. -/
def dx_wA : List Cond := lw_tbl.filter goodWord
theorem dx_in {w : Cond} (i : Nat) (h : lw_tbl[i]? = some w) (hg : goodWord w = true) : w ∈ dx_wA := List.mem_filter.mpr ⟨List.mem_of_getElem? h, hg⟩
theorem dx_wA_good : ∀ w ∈ dx_wA, (w.onTables && w.keeps) = true ∨ ∃ ty, w = .arrayClass ty := fun w h => good_of_word (List.mem_filter.mp h).2
theorem dx_ina {ws : List Cond} (h : ws.all (fun w => decide (w ∈ lw_tbl) && goodWord w) = true) : ∀ w ∈ ws, w ∈ dx_wA := by
  intro w hw
  have h1 := List.all_eq_true.mp h w hw
  simp only [Bool.and_eq_true, decide_eq_true_eq] at h1
  exact List.mem_filter.mpr ⟨h1.1, h1.2⟩
def tX : dx_T := (dx_wA, [(RST, 45, yMC_isIn, RMC), (RRU, 148, yMC_isIn, RMC), (RSE, 47, yMC_isIn, RMC), (RSI, 36, yMC_isIn, RMC)], dx_cl, [.inr (0, [.inl 1, .inl 2, .inl 3, .inl 4]), .inr (1, [.inl 11, .inl 12, .inl 13, .inl 14, .inl 15, .inl 16, .inr false]), .inr (2, [.inl 17, .inl 18, .inl 19, .inl 20, .inl 21, .inl 22, .inl 23, .inr false]), .inr (3, [.inl 24, .inl 25, .inl 26, .inl 27, .inr false]), .inr (4, [.inl 1, .inl 2, .inl 3, .inl 5, .inl 6, .inl 7, .inl 8, .inl 9, .inl 10, .inl 28, .inr false, .inr false, .inr false, .inr true]), .inr (5, [.inl 29, .inr false]), .inr (6, [.inl 1, .inl 2, .inl 5, .inl 30, .inl 31, .inr false, .inr false]), .inr (7, [.inl 32, .inr false]), .inr (7, [.inl 33, .inr false]), .inr (7, [.inl 34, .inr false]), .inr (8, [.inl 35, .inl 36, .inr false]), .inl (false, 16), .inl (false, 16), .inl (false, 16), .inl (false, 16), .inl (false, 16), .inl (false, 16), .inl (false, 20), .inl (false, 20), .inl (false, 20), .inl (false, 20), .inl (false, 20), .inl (false, 20), .inl (false, 20), .inl (false, 32), .inl (false, 32), .inl (false, 32), .inl (false, 32), .inl (false, 16), .inl (false, 4), .inl (false, 20), .inl (false, 20), .inl (false, 16), .inl (false, 16), .inl (false, 200), .inl (false, 12), .inl (false, 12)])
def tM : dx_T := (dx_wA, [], dx_cl, [.inr (9, [.inr false, .inl 1, .inl 2, .inl 3, .inr false, .inl 4, .inl 5, .inl 6, .inl 7, .inl 8, .inl 9, .inl 10, .inr false, .inl 11, .inl 12, .inl 13, .inl 14, .inr false, .inr true, .inr false, .inl 15, .inl 16, .inl 17, .inr false, .inl 18, .inr false, .inl 19, .inr false, .inl 20, .inl 21, .inr false, .inr false, .inl 22, .inr false, .inl 23, .inr false, .inl 24, .inl 25, .inl 26]), .inl (false, 16), .inl (false, 16), .inl (false, 16), .inl (false, 20), .inl (false, 20), .inl (false, 20), .inl (true, 20), .inl (false, 20), .inl (false, 20), .inl (false, 20), .inl (false, 32), .inl (false, 32), .inl (false, 32), .inl (false, 32), .inl (true, 16), .inl (false, 16), .inl (false, 4), .inl (false, 16), .inl (false, 16), .inl (false, 12), .inl (false, 12), .inl (false, 200), .inl (false, 20), .inl (false, 20), .inl (true, 16), .inl (true, 16)])
theorem layMC : ∀ w ∈ u_ws RMC TMC 4, w ∈ dx_wA := dx_ina (by decide +kernel)
theorem layST : ∀ w ∈ u_ws RST TST 7, w ∈ dx_wA := dx_ina (by decide +kernel)
theorem layTT : ∀ w ∈ u_ws RTT TTT 8, w ∈ dx_wA := dx_ina (by decide +kernel)
theorem layAT : ∀ w ∈ u_ws RAT TAT 5, w ∈ dx_wA := dx_ina (by decide +kernel)
theorem layRU : ∀ w ∈ u_ws RRU TRU 14, w ∈ dx_wA := dx_ina (by decide +kernel)
theorem laySI : ∀ w ∈ u_ws RSI TSI 2, w ∈ dx_wA := dx_ina (by decide +kernel)
theorem laySE : ∀ w ∈ u_ws RSE TSE 7, w ∈ dx_wA := dx_ina (by decide +kernel)
theorem layLN : ∀ w ∈ u_ws RLN TLN 2, w ∈ dx_wA := dx_ina (by decide +kernel)
theorem laySV : ∀ w ∈ u_ws RSV TSV 3, w ∈ dx_wA := dx_ina (by decide +kernel)
theorem layMM : ∀ w ∈ u_ws RMM TMM 39, w ∈ dx_wA := dx_ina (by decide +kernel)
theorem iniMC : Cond.initialized RMC ∈ dx_wA := dx_in 63 (by decide +kernel) (by decide +kernel)
theorem iniAT : Cond.initialized RAT ∈ dx_wA := dx_in 66 (by decide +kernel) (by decide +kernel)
theorem iniLN : Cond.initialized RLN ∈ dx_wA := dx_in 69 (by decide +kernel) (by decide +kernel)
theorem iniRU : Cond.initialized RRU ∈ dx_wA := dx_in 67 (by decide +kernel) (by decide +kernel)
theorem iniSE : Cond.initialized RSE ∈ dx_wA := dx_in 71 (by decide +kernel) (by decide +kernel)
theorem iniSV : Cond.initialized RSV ∈ dx_wA := dx_in 70 (by decide +kernel) (by decide +kernel)
theorem iniSI : Cond.initialized RSI ∈ dx_wA := dx_in 68 (by decide +kernel) (by decide +kernel)
theorem iniST : Cond.initialized RST ∈ dx_wA := dx_in 64 (by decide +kernel) (by decide +kernel)
theorem iniTT : Cond.initialized RTT ∈ dx_wA := dx_in 65 (by decide +kernel) (by decide +kernel)
theorem iniMM : Cond.initialized RMM ∈ dx_wA := dx_in 72 (by decide +kernel) (by decide +kernel)
theorem iniAR : Cond.initialized RAR ∈ dx_wA := dx_in 73 (by decide +kernel) (by decide +kernel)
theorem cbMC_state {t : dx_T} (h : t.1 = dx_wA) : dx_cb t yMC_state cMC_state 3 (some .int) 2 := by
  unfold dx_cb
  rw [h]
  exact ⟨dx_wA_good, dx_in 351 (by decide +kernel) (by decide +kernel), iniMC, ⟨by decide +kernel, by decide +kernel, by decide +kernel⟩, by decide⟩
theorem cbMC_initial {t : dx_T} (h : t.1 = dx_wA) : dx_cb t yMC_initial cMC_initial 2 (some .boolean) 1 := by
  unfold dx_cb
  rw [h]
  exact ⟨dx_wA_good, dx_in 378 (by decide +kernel) (by decide +kernel), iniMC, ⟨by decide +kernel, by decide +kernel, by decide +kernel⟩, by decide⟩
theorem cbMC_transition {t : dx_T} (h : t.1 = dx_wA) : dx_cb t yMC_transition cMC_transition 5 (some .int) 3 := by
  unfold dx_cb
  rw [h]
  exact ⟨dx_wA_good, dx_in 390 (by decide +kernel) (by decide +kernel), iniMC, ⟨by decide +kernel, by decide +kernel, by decide +kernel⟩, by decide⟩
theorem cbMC_guard {t : dx_T} (h : t.1 = dx_wA) : dx_cb t yMC_guard cMC_guard 5 (some .boolean) 4 := by
  unfold dx_cb
  rw [h]
  exact ⟨dx_wA_good, dx_in 422 (by decide +kernel) (by decide +kernel), iniMC, ⟨by decide +kernel, by decide +kernel, by decide +kernel⟩, by decide⟩
theorem cbMC_action {t : dx_T} (h : t.1 = dx_wA) : dx_cb t yMC_action cMC_action 5 (some .boolean) 4 := by
  unfold dx_cb
  rw [h]
  exact ⟨dx_wA_good, dx_in 441 (by decide +kernel) (by decide +kernel), iniMC, ⟨by decide +kernel, by decide +kernel, by decide +kernel⟩, by decide⟩
theorem cbMC_begin {t : dx_T} (h : t.1 = dx_wA) : dx_cb t yMC_begin cMC_begin 1 (some .int) 0 := by
  unfold dx_cb
  rw [h]
  exact ⟨dx_wA_good, dx_in 456 (by decide +kernel) (by decide +kernel), iniMC, ⟨by decide +kernel, by decide +kernel, by decide +kernel⟩, by decide⟩
theorem cbMC_post {t : dx_T} (h : t.1 = dx_wA) : dx_cb t yMC_post cMC_post 2 (some .boolean) 1 := by
  unfold dx_cb
  rw [h]
  exact ⟨dx_wA_good, dx_in 629 (by decide +kernel) (by decide +kernel), iniMC, ⟨by decide +kernel, by decide +kernel, by decide +kernel⟩, by decide⟩
theorem cbMC_step {t : dx_T} (h : t.1 = dx_wA) : dx_cb t yMC_step cMC_step 1 (some .int) 0 := by
  unfold dx_cb
  rw [h]
  exact ⟨dx_wA_good, dx_in 635 (by decide +kernel) (by decide +kernel), iniMC, ⟨by decide +kernel, by decide +kernel, by decide +kernel⟩, by decide⟩
theorem cbMC_tick {t : dx_T} (h : t.1 = dx_wA) : dx_cb t yMC_tick cMC_tick 2 (some .int) 1 := by
  unfold dx_cb
  rw [h]
  exact ⟨dx_wA_good, dx_in 643 (by decide +kernel) (by decide +kernel), iniMC, ⟨by decide +kernel, by decide +kernel, by decide +kernel⟩, by decide⟩
theorem cbMC_reset {t : dx_T} (h : t.1 = dx_wA) : dx_cb t yMC_reset cMC_reset 1 none 0 := by
  unfold dx_cb
  rw [h]
  exact ⟨dx_wA_good, dx_in 659 (by decide +kernel) (by decide +kernel), iniMC, ⟨by decide +kernel, by decide +kernel, by decide +kernel⟩, by decide⟩
theorem cbMC_outcome {t : dx_T} (h : t.1 = dx_wA) : dx_cb t yMC_outcome cMC_outcome 1 (some .int) 0 := by
  unfold dx_cb
  rw [h]
  exact ⟨dx_wA_good, dx_in 663 (by decide +kernel) (by decide +kernel), iniMC, ⟨by decide +kernel, by decide +kernel, by decide +kernel⟩, by decide⟩
theorem cbMC_active {t : dx_T} (h : t.1 = dx_wA) : dx_cb t yMC_active cMC_active 1 (some .int) 0 := by
  unfold dx_cb
  rw [h]
  exact ⟨dx_wA_good, dx_in 667 (by decide +kernel) (by decide +kernel), iniMC, ⟨by decide +kernel, by decide +kernel, by decide +kernel⟩, by decide⟩
theorem cbMC_remembered {t : dx_T} (h : t.1 = dx_wA) : dx_cb t yMC_remembered cMC_remembered 2 (some .int) 1 := by
  unfold dx_cb
  rw [h]
  exact ⟨dx_wA_good, dx_in 671 (by decide +kernel) (by decide +kernel), iniMC, ⟨by decide +kernel, by decide +kernel, by decide +kernel⟩, by decide⟩
theorem cbMC_variable {t : dx_T} (h : t.1 = dx_wA) : dx_cb t yMC_variable cMC_variable 2 (some .int) 1 := by
  unfold dx_cb
  rw [h]
  exact ⟨dx_wA_good, dx_in 675 (by decide +kernel) (by decide +kernel), iniMC, ⟨by decide +kernel, by decide +kernel, by decide +kernel⟩, by decide⟩
theorem cbMC_listed {t : dx_T} (h : t.1 = dx_wA) : dx_cb t yMC_listed cMC_listed 2 (some .int) 1 := by
  unfold dx_cb
  rw [h]
  exact ⟨dx_wA_good, dx_in 679 (by decide +kernel) (by decide +kernel), iniMC, ⟨by decide +kernel, by decide +kernel, by decide +kernel⟩, by decide⟩
theorem cbMC_waiting {t : dx_T} (h : t.1 = dx_wA) : dx_cb t yMC_waiting cMC_waiting 2 (some .int) 1 := by
  unfold dx_cb
  rw [h]
  exact ⟨dx_wA_good, dx_in 687 (by decide +kernel) (by decide +kernel), iniMC, ⟨by decide +kernel, by decide +kernel, by decide +kernel⟩, by decide⟩
theorem cbMC_isBuilding {t : dx_T} (h : t.1 = dx_wA) : dx_cb t yMC_isBuilding cMC_isBuilding 1 (some .boolean) 0 := by
  unfold dx_cb
  rw [h]
  exact ⟨dx_wA_good, dx_in 355 (by decide +kernel) (by decide +kernel), iniMC, ⟨by decide +kernel, by decide +kernel, by decide +kernel⟩, by decide⟩
theorem cbMC_maySource {t : dx_T} (h : t.1 = dx_wA) : dx_cb t yMC_maySource cMC_maySource 2 (some .boolean) 1 := by
  unfold dx_cb
  rw [h]
  exact ⟨dx_wA_good, dx_in 394 (by decide +kernel) (by decide +kernel), iniMC, ⟨by decide +kernel, by decide +kernel, by decide +kernel⟩, by decide⟩
theorem cbMC_mayAwait {t : dx_T} (h : t.1 = dx_wA) : dx_cb t yMC_mayAwait cMC_mayAwait 2 (some .boolean) 1 := by
  unfold dx_cb
  rw [h]
  exact ⟨dx_wA_good, dx_in 398 (by decide +kernel) (by decide +kernel), iniMC, ⟨by decide +kernel, by decide +kernel, by decide +kernel⟩, by decide⟩
theorem cbMC_mayTarget {t : dx_T} (h : t.1 = dx_wA) : dx_cb t yMC_mayTarget cMC_mayTarget 2 (some .boolean) 1 := by
  unfold dx_cb
  rw [h]
  exact ⟨dx_wA_good, dx_in 405 (by decide +kernel) (by decide +kernel), iniMC, ⟨by decide +kernel, by decide +kernel, by decide +kernel⟩, by decide⟩
theorem cbMC_mayGuard {t : dx_T} (h : t.1 = dx_wA) : dx_cb t yMC_mayGuard cMC_mayGuard 4 (some .boolean) 3 := by
  unfold dx_cb
  rw [h]
  exact ⟨dx_wA_good, dx_in 430 (by decide +kernel) (by decide +kernel), iniMC, ⟨by decide +kernel, by decide +kernel, by decide +kernel⟩, by decide⟩
theorem cbMC_mayOwn {t : dx_T} (h : t.1 = dx_wA) : dx_cb t yMC_mayOwn cMC_mayOwn 2 (some .boolean) 1 := by
  unfold dx_cb
  rw [h]
  exact ⟨dx_wA_good, dx_in 445 (by decide +kernel) (by decide +kernel), iniMC, ⟨by decide +kernel, by decide +kernel, by decide +kernel⟩, by decide⟩
theorem cbMC_mayDo {t : dx_T} (h : t.1 = dx_wA) : dx_cb t yMC_mayDo cMC_mayDo 3 (some .boolean) 3 := by
  unfold dx_cb
  rw [h]
  exact ⟨dx_wA_good, dx_in 448 (by decide +kernel) (by decide +kernel), iniMC, ⟨by decide +kernel, by decide +kernel, by decide +kernel⟩, by decide⟩
theorem cbMC_isEvent {t : dx_T} (h : t.1 = dx_wA) : dx_cb t yMC_isEvent cMC_isEvent 1 (some .boolean) 1 := by
  unfold dx_cb
  rw [h]
  exact ⟨dx_wA_good, dx_in 401 (by decide +kernel) (by decide +kernel), iniMC, ⟨by decide +kernel, by decide +kernel, by decide +kernel⟩, by decide⟩
theorem cbMC_isVariable {t : dx_T} (h : t.1 = dx_wA) : dx_cb t yMC_isVariable cMC_isVariable 1 (some .boolean) 1 := by
  unfold dx_cb
  rw [h]
  exact ⟨dx_wA_good, dx_in 433 (by decide +kernel) (by decide +kernel), iniMC, ⟨by decide +kernel, by decide +kernel, by decide +kernel⟩, by decide⟩
theorem cbMC_isIn {t : dx_T} (h : t.1 = dx_wA) : dx_cb t yMC_isIn cMC_isIn 2 (some .boolean) 2 := by
  unfold dx_cb
  rw [h]
  exact ⟨dx_wA_good, dx_in 374 (by decide +kernel) (by decide +kernel), iniMC, ⟨by decide +kernel, by decide +kernel, by decide +kernel⟩, by decide⟩
theorem cbMM_is {t : dx_T} (h : t.1 = dx_wA) : dx_cb t yMM_is cMM_is 2 (some .boolean) 1 := by
  unfold dx_cb
  rw [h]
  exact ⟨dx_wA_good, dx_in 824 (by decide +kernel) (by decide +kernel), iniMM, ⟨by decide +kernel, by decide +kernel, by decide +kernel⟩, by decide⟩
theorem cbMM_hasChild {t : dx_T} (h : t.1 = dx_wA) : dx_cb t yMM_hasChild cMM_hasChild 4 (some .boolean) 2 := by
  unfold dx_cb
  rw [h]
  exact ⟨dx_wA_good, dx_in 848 (by decide +kernel) (by decide +kernel), iniMM, ⟨by decide +kernel, by decide +kernel, by decide +kernel⟩, by decide⟩
theorem cbMM_compound {t : dx_T} (h : t.1 = dx_wA) : dx_cb t yMM_compound cMM_compound 2 (some .boolean) 1 := by
  unfold dx_cb
  rw [h]
  exact ⟨dx_wA_good, dx_in 872 (by decide +kernel) (by decide +kernel), iniMM, ⟨by decide +kernel, by decide +kernel, by decide +kernel⟩, by decide⟩
theorem cbMM_below {t : dx_T} (h : t.1 = dx_wA) : dx_cb t yMM_below cMM_below 4 (some .boolean) 2 := by
  unfold dx_cb
  rw [h]
  exact ⟨dx_wA_good, dx_in 948 (by decide +kernel) (by decide +kernel), iniMM, ⟨by decide +kernel, by decide +kernel, by decide +kernel⟩, by decide⟩
theorem cbMM_initialOf {t : dx_T} (h : t.1 = dx_wA) : dx_cb t yMM_initialOf cMM_initialOf 3 (some .int) 1 := by
  unfold dx_cb
  rw [h]
  exact ⟨dx_wA_good, dx_in 856 (by decide +kernel) (by decide +kernel), iniMM, ⟨by decide +kernel, by decide +kernel, by decide +kernel⟩, by decide⟩
theorem cbMM_state {t : dx_T} (h : t.1 = dx_wA) : dx_cb t yMM_state cMM_state 4 (some .int) 2 := by
  unfold dx_cb
  rw [h]
  exact ⟨dx_wA_good, dx_in 816 (by decide +kernel) (by decide +kernel), iniMM, ⟨by decide +kernel, by decide +kernel, by decide +kernel⟩, by decide⟩
theorem cbMM_initial {t : dx_T} (h : t.1 = dx_wA) : dx_cb t yMM_initial cMM_initial 2 (some .boolean) 1 := by
  unfold dx_cb
  rw [h]
  exact ⟨dx_wA_good, dx_in 820 (by decide +kernel) (by decide +kernel), iniMM, ⟨by decide +kernel, by decide +kernel, by decide +kernel⟩, by decide⟩
theorem cbMM_transition {t : dx_T} (h : t.1 = dx_wA) : dx_cb t yMM_transition cMM_transition 6 (some .int) 3 := by
  unfold dx_cb
  rw [h]
  exact ⟨dx_wA_good, dx_in 828 (by decide +kernel) (by decide +kernel), iniMM, ⟨by decide +kernel, by decide +kernel, by decide +kernel⟩, by decide⟩
theorem cbMM_guard {t : dx_T} (h : t.1 = dx_wA) : dx_cb t yMM_guard cMM_guard 5 (some .boolean) 4 := by
  unfold dx_cb
  rw [h]
  exact ⟨dx_wA_good, dx_in 832 (by decide +kernel) (by decide +kernel), iniMM, ⟨by decide +kernel, by decide +kernel, by decide +kernel⟩, by decide⟩
theorem cbMM_action {t : dx_T} (h : t.1 = dx_wA) : dx_cb t yMM_action cMM_action 7 (some .boolean) 4 := by
  unfold dx_cb
  rw [h]
  exact ⟨dx_wA_good, dx_in 836 (by decide +kernel) (by decide +kernel), iniMM, ⟨by decide +kernel, by decide +kernel, by decide +kernel⟩, by decide⟩
theorem cbMM_failed {t : dx_T} (h : t.1 = dx_wA) : dx_cb t yMM_failed cMM_failed 1 (some .boolean) 0 := by
  unfold dx_cb
  rw [h]
  exact ⟨dx_wA_good, dx_in 876 (by decide +kernel) (by decide +kernel), iniMM, ⟨by decide +kernel, by decide +kernel, by decide +kernel⟩, by decide⟩
theorem cbMM_write {t : dx_T} (h : t.1 = dx_wA) : dx_cb t yMM_write cMM_write 2 none 1 := by
  unfold dx_cb
  rw [h]
  exact ⟨dx_wA_good, dx_in 880 (by decide +kernel) (by decide +kernel), iniMM, ⟨by decide +kernel, by decide +kernel, by decide +kernel⟩, by decide⟩
theorem cbMM_raise {t : dx_T} (h : t.1 = dx_wA) : dx_cb t yMM_raise cMM_raise 2 none 1 := by
  unfold dx_cb
  rw [h]
  exact ⟨dx_wA_good, dx_in 888 (by decide +kernel) (by decide +kernel), iniMM, ⟨by decide +kernel, by decide +kernel, by decide +kernel⟩, by decide⟩
theorem cbMM_queue {t : dx_T} (h : t.1 = dx_wA) : dx_cb t yMM_queue cMM_queue 2 (some .boolean) 1 := by
  unfold dx_cb
  rw [h]
  exact ⟨dx_wA_good, dx_in 896 (by decide +kernel) (by decide +kernel), iniMM, ⟨by decide +kernel, by decide +kernel, by decide +kernel⟩, by decide⟩
theorem cbMM_send {t : dx_T} (h : t.1 = dx_wA) : dx_cb t yMM_send cMM_send 3 none 2 := by
  unfold dx_cb
  rw [h]
  exact ⟨dx_wA_good, dx_in 892 (by decide +kernel) (by decide +kernel), iniMM, ⟨by decide +kernel, by decide +kernel, by decide +kernel⟩, by decide⟩
theorem cbMM_act {t : dx_T} (h : t.1 = dx_wA) : dx_cb t yMM_act cMM_act 3 none 1 := by
  unfold dx_cb
  rw [h]
  exact ⟨dx_wA_good, dx_in 884 (by decide +kernel) (by decide +kernel), iniMM, ⟨by decide +kernel, by decide +kernel, by decide +kernel⟩, by decide⟩
theorem cbMM_holds {t : dx_T} (h : t.1 = dx_wA) : dx_cb t yMM_holds cMM_holds 3 (some .boolean) 1 := by
  unfold dx_cb
  rw [h]
  exact ⟨dx_wA_good, dx_in 920 (by decide +kernel) (by decide +kernel), iniMM, ⟨by decide +kernel, by decide +kernel, by decide +kernel⟩, by decide⟩
theorem cbMM_waiter {t : dx_T} (h : t.1 = dx_wA) : dx_cb t yMM_waiter cMM_waiter 4 (some .int) 2 := by
  unfold dx_cb
  rw [h]
  exact ⟨dx_wA_good, dx_in 916 (by decide +kernel) (by decide +kernel), iniMM, ⟨by decide +kernel, by decide +kernel, by decide +kernel⟩, by decide⟩
theorem cbMM_select {t : dx_T} (h : t.1 = dx_wA) : dx_cb t yMM_select cMM_select 7 none 1 := by
  unfold dx_cb
  rw [h]
  exact ⟨dx_wA_good, dx_in 912 (by decide +kernel) (by decide +kernel), iniMM, ⟨by decide +kernel, by decide +kernel, by decide +kernel⟩, by decide⟩
theorem cbMM_domain {t : dx_T} (h : t.1 = dx_wA) : dx_cb t yMM_domain cMM_domain 3 (some .int) 1 := by
  unfold dx_cb
  rw [h]
  exact ⟨dx_wA_good, dx_in 944 (by decide +kernel) (by decide +kernel), iniMM, ⟨by decide +kernel, by decide +kernel, by decide +kernel⟩, by decide⟩
theorem cbMM_leaves {t : dx_T} (h : t.1 = dx_wA) : dx_cb t yMM_leaves cMM_leaves 3 (some .boolean) 2 := by
  unfold dx_cb
  rw [h]
  exact ⟨dx_wA_good, dx_in 940 (by decide +kernel) (by decide +kernel), iniMM, ⟨by decide +kernel, by decide +kernel, by decide +kernel⟩, by decide⟩
theorem cbMM_clash {t : dx_T} (h : t.1 = dx_wA) : dx_cb t yMM_clash cMM_clash 4 (some .boolean) 2 := by
  unfold dx_cb
  rw [h]
  exact ⟨dx_wA_good, dx_in 936 (by decide +kernel) (by decide +kernel), iniMM, ⟨by decide +kernel, by decide +kernel, by decide +kernel⟩, by decide⟩
theorem cbMM_settle {t : dx_T} (h : t.1 = dx_wA) : dx_cb t yMM_settle cMM_settle 6 none 0 := by
  unfold dx_cb
  rw [h]
  exact ⟨dx_wA_good, dx_in 932 (by decide +kernel) (by decide +kernel), iniMM, ⟨by decide +kernel, by decide +kernel, by decide +kernel⟩, by decide⟩
theorem cbMM_remember {t : dx_T} (h : t.1 = dx_wA) : dx_cb t yMM_remember cMM_remember 4 none 0 := by
  unfold dx_cb
  rw [h]
  exact ⟨dx_wA_good, dx_in 956 (by decide +kernel) (by decide +kernel), iniMM, ⟨by decide +kernel, by decide +kernel, by decide +kernel⟩, by decide⟩
theorem cbMM_leaveAll {t : dx_T} (h : t.1 = dx_wA) : dx_cb t yMM_leaveAll cMM_leaveAll 3 none 0 := by
  unfold dx_cb
  rw [h]
  exact ⟨dx_wA_good, dx_in 952 (by decide +kernel) (by decide +kernel), iniMM, ⟨by decide +kernel, by decide +kernel, by decide +kernel⟩, by decide⟩
theorem cbMM_want {t : dx_T} (h : t.1 = dx_wA) : dx_cb t yMM_want cMM_want 4 none 2 := by
  unfold dx_cb
  rw [h]
  exact ⟨dx_wA_good, dx_in 860 (by decide +kernel) (by decide +kernel), iniMM, ⟨by decide +kernel, by decide +kernel, by decide +kernel⟩, by decide⟩
theorem cbMM_aim {t : dx_T} (h : t.1 = dx_wA) : dx_cb t yMM_aim cMM_aim 5 none 1 := by
  unfold dx_cb
  rw [h]
  exact ⟨dx_wA_good, dx_in 960 (by decide +kernel) (by decide +kernel), iniMM, ⟨by decide +kernel, by decide +kernel, by decide +kernel⟩, by decide⟩
theorem cbMM_fill {t : dx_T} (h : t.1 = dx_wA) : dx_cb t yMM_fill cMM_fill 5 none 0 := by
  unfold dx_cb
  rw [h]
  exact ⟨dx_wA_good, dx_in 868 (by decide +kernel) (by decide +kernel), iniMM, ⟨by decide +kernel, by decide +kernel, by decide +kernel⟩, by decide⟩
theorem cbMM_done {t : dx_T} (h : t.1 = dx_wA) : dx_cb t yMM_done cMM_done 3 (some .boolean) 1 := by
  unfold dx_cb
  rw [h]
  exact ⟨dx_wA_good, dx_in 904 (by decide +kernel) (by decide +kernel), iniMM, ⟨by decide +kernel, by decide +kernel, by decide +kernel⟩, by decide⟩
theorem cbMM_finish {t : dx_T} (h : t.1 = dx_wA) : dx_cb t yMM_finish cMM_finish 6 none 1 := by
  unfold dx_cb
  rw [h]
  exact ⟨dx_wA_good, dx_in 900 (by decide +kernel) (by decide +kernel), iniMM, ⟨by decide +kernel, by decide +kernel, by decide +kernel⟩, by decide⟩
theorem cbMM_enterAll {t : dx_T} (h : t.1 = dx_wA) : dx_cb t yMM_enterAll cMM_enterAll 2 none 0 := by
  unfold dx_cb
  rw [h]
  exact ⟨dx_wA_good, dx_in 864 (by decide +kernel) (by decide +kernel), iniMM, ⟨by decide +kernel, by decide +kernel, by decide +kernel⟩, by decide⟩
theorem cbMM_none {t : dx_T} (h : t.1 = dx_wA) : dx_cb t yMM_none cMM_none 2 none 0 := by
  unfold dx_cb
  rw [h]
  exact ⟨dx_wA_good, dx_in 852 (by decide +kernel) (by decide +kernel), iniMM, ⟨by decide +kernel, by decide +kernel, by decide +kernel⟩, by decide⟩
theorem cbMM_microstep {t : dx_T} (h : t.1 = dx_wA) : dx_cb t yMM_microstep cMM_microstep 2 none 0 := by
  unfold dx_cb
  rw [h]
  exact ⟨dx_wA_good, dx_in 928 (by decide +kernel) (by decide +kernel), iniMM, ⟨by decide +kernel, by decide +kernel, by decide +kernel⟩, by decide⟩
theorem cbMM_take {t : dx_T} (h : t.1 = dx_wA) : dx_cb t yMM_take cMM_take 3 (some .int) 0 := by
  unfold dx_cb
  rw [h]
  exact ⟨dx_wA_good, dx_in 924 (by decide +kernel) (by decide +kernel), iniMM, ⟨by decide +kernel, by decide +kernel, by decide +kernel⟩, by decide⟩
theorem cbMM_macrostep {t : dx_T} (h : t.1 = dx_wA) : dx_cb t yMM_macrostep cMM_macrostep 3 none 0 := by
  unfold dx_cb
  rw [h]
  exact ⟨dx_wA_good, dx_in 908 (by decide +kernel) (by decide +kernel), iniMM, ⟨by decide +kernel, by decide +kernel, by decide +kernel⟩, by decide⟩
theorem cbMM_ill {t : dx_T} (h : t.1 = dx_wA) : dx_cb t yMM_ill cMM_ill 4 (some .boolean) 0 := by
  unfold dx_cb
  rw [h]
  exact ⟨dx_wA_good, dx_in 844 (by decide +kernel) (by decide +kernel), iniMM, ⟨by decide +kernel, by decide +kernel, by decide +kernel⟩, by decide⟩
theorem cbMM_begin {t : dx_T} (h : t.1 = dx_wA) : dx_cb t yMM_begin cMM_begin 2 (some .int) 0 := by
  unfold dx_cb
  rw [h]
  exact ⟨dx_wA_good, dx_in 840 (by decide +kernel) (by decide +kernel), iniMM, ⟨by decide +kernel, by decide +kernel, by decide +kernel⟩, by decide⟩
theorem cbMM_post {t : dx_T} (h : t.1 = dx_wA) : dx_cb t yMM_post cMM_post 2 (some .boolean) 1 := by
  unfold dx_cb
  rw [h]
  exact ⟨dx_wA_good, dx_in 964 (by decide +kernel) (by decide +kernel), iniMM, ⟨by decide +kernel, by decide +kernel, by decide +kernel⟩, by decide⟩
theorem cbMM_step {t : dx_T} (h : t.1 = dx_wA) : dx_cb t yMM_step cMM_step 3 (some .int) 0 := by
  unfold dx_cb
  rw [h]
  exact ⟨dx_wA_good, dx_in 968 (by decide +kernel) (by decide +kernel), iniMM, ⟨by decide +kernel, by decide +kernel, by decide +kernel⟩, by decide⟩
theorem cbMM_tick {t : dx_T} (h : t.1 = dx_wA) : dx_cb t yMM_tick cMM_tick 5 (some .int) 1 := by
  unfold dx_cb
  rw [h]
  exact ⟨dx_wA_good, dx_in 972 (by decide +kernel) (by decide +kernel), iniMM, ⟨by decide +kernel, by decide +kernel, by decide +kernel⟩, by decide⟩
theorem cbMM_reset {t : dx_T} (h : t.1 = dx_wA) : dx_cb t yMM_reset cMM_reset 1 none 0 := by
  unfold dx_cb
  rw [h]
  exact ⟨dx_wA_good, dx_in 976 (by decide +kernel) (by decide +kernel), iniMM, ⟨by decide +kernel, by decide +kernel, by decide +kernel⟩, by decide⟩
theorem cbMM_outcome {t : dx_T} (h : t.1 = dx_wA) : dx_cb t yMM_outcome cMM_outcome 1 (some .int) 0 := by
  unfold dx_cb
  rw [h]
  exact ⟨dx_wA_good, dx_in 980 (by decide +kernel) (by decide +kernel), iniMM, ⟨by decide +kernel, by decide +kernel, by decide +kernel⟩, by decide⟩
theorem cbMM_active {t : dx_T} (h : t.1 = dx_wA) : dx_cb t yMM_active cMM_active 3 (some .int) 0 := by
  unfold dx_cb
  rw [h]
  exact ⟨dx_wA_good, dx_in 984 (by decide +kernel) (by decide +kernel), iniMM, ⟨by decide +kernel, by decide +kernel, by decide +kernel⟩, by decide⟩
theorem cbMM_remembered {t : dx_T} (h : t.1 = dx_wA) : dx_cb t yMM_remembered cMM_remembered 2 (some .int) 1 := by
  unfold dx_cb
  rw [h]
  exact ⟨dx_wA_good, dx_in 988 (by decide +kernel) (by decide +kernel), iniMM, ⟨by decide +kernel, by decide +kernel, by decide +kernel⟩, by decide⟩
theorem cbMM_variable {t : dx_T} (h : t.1 = dx_wA) : dx_cb t yMM_variable cMM_variable 2 (some .int) 1 := by
  unfold dx_cb
  rw [h]
  exact ⟨dx_wA_good, dx_in 992 (by decide +kernel) (by decide +kernel), iniMM, ⟨by decide +kernel, by decide +kernel, by decide +kernel⟩, by decide⟩
theorem cbMM_listed {t : dx_T} (h : t.1 = dx_wA) : dx_cb t yMM_listed cMM_listed 2 (some .int) 1 := by
  unfold dx_cb
  rw [h]
  exact ⟨dx_wA_good, dx_in 996 (by decide +kernel) (by decide +kernel), iniMM, ⟨by decide +kernel, by decide +kernel, by decide +kernel⟩, by decide⟩
theorem cbMM_waiting {t : dx_T} (h : t.1 = dx_wA) : dx_cb t yMM_waiting cMM_waiting 2 (some .int) 1 := by
  unfold dx_cb
  rw [h]
  exact ⟨dx_wA_good, dx_in 1000 (by decide +kernel) (by decide +kernel), iniMM, ⟨by decide +kernel, by decide +kernel, by decide +kernel⟩, by decide⟩
theorem cbAT_add {t : dx_T} (h : t.1 = dx_wA) : dx_cb t yAT_add cAT_add 5 none 4 := by
  unfold dx_cb
  rw [h]
  exact ⟨dx_wA_good, dx_in 452 (by decide +kernel) (by decide +kernel), iniAT, ⟨by decide +kernel, by decide +kernel, by decide +kernel⟩, by decide⟩
theorem cbLN_put {t : dx_T} (h : t.1 = dx_wA) : dx_cb t yLN_put cLN_put 2 (some .boolean) 1 := by
  unfold dx_cb
  rw [h]
  exact ⟨dx_wA_good, dx_in 501 (by decide +kernel) (by decide +kernel), iniLN, ⟨by decide +kernel, by decide +kernel, by decide +kernel⟩, by decide⟩
theorem cbLN_at {t : dx_T} (h : t.1 = dx_wA) : dx_cb t yLN_at cLN_at 2 (some .int) 1 := by
  unfold dx_cb
  rw [h]
  exact ⟨dx_wA_good, dx_in 683 (by decide +kernel) (by decide +kernel), iniLN, ⟨by decide +kernel, by decide +kernel, by decide +kernel⟩, by decide⟩
theorem cbLN_takeFirst {t : dx_T} (h : t.1 = dx_wA) : dx_cb t yLN_takeFirst cLN_takeFirst 3 (some .int) 0 := by
  unfold dx_cb
  rw [h]
  exact ⟨dx_wA_good, dx_in 588 (by decide +kernel) (by decide +kernel), iniLN, ⟨by decide +kernel, by decide +kernel, by decide +kernel⟩, by decide⟩
theorem cbLN_clear {t : dx_T} (h : t.1 = dx_wA) : dx_cb t yLN_clear cLN_clear 1 none 0 := by
  unfold dx_cb
  rw [h]
  exact ⟨dx_wA_good, dx_in 479 (by decide +kernel) (by decide +kernel), iniLN, ⟨by decide +kernel, by decide +kernel, by decide +kernel⟩, by decide⟩
theorem cbRU_isGoingOn {t : dx_T} (h : t.1 = dx_wA) : dx_cb t yRU_isGoingOn cRU_isGoingOn 1 (some .boolean) 0 := by
  unfold dx_cb
  rw [h]
  exact ⟨dx_wA_good, dx_in 497 (by decide +kernel) (by decide +kernel), iniRU, ⟨by decide +kernel, by decide +kernel, by decide +kernel⟩, by decide⟩
theorem cbRU_open {t : dx_T} (h : t.1 = dx_wA) : dx_cb t yRU_open cRU_open 1 none 0 := by
  unfold dx_cb
  rw [h]
  exact ⟨dx_wA_good, dx_in 468 (by decide +kernel) (by decide +kernel), iniRU, ⟨by decide +kernel, by decide +kernel, by decide +kernel⟩, by decide⟩
theorem cbRU_takeExternalEvent {t : dx_T} (h : t.1 = dx_wA) : dx_cb t yRU_takeExternalEvent cRU_takeExternalEvent 1 none 0 := by
  unfold dx_cb
  rw [h]
  exact ⟨dx_wA_good, dx_in 639 (by decide +kernel) (by decide +kernel), iniRU, ⟨by decide +kernel, by decide +kernel, by decide +kernel⟩, by decide⟩
theorem cbRU_macrostep {t : dx_T} (h : t.1 = dx_wA) : dx_cb t yRU_macrostep cRU_macrostep 2 none 0 := by
  unfold dx_cb
  rw [h]
  exact ⟨dx_wA_good, dx_in 541 (by decide +kernel) (by decide +kernel), iniRU, ⟨by decide +kernel, by decide +kernel, by decide +kernel⟩, by decide⟩
theorem cbRU_chooseNext {t : dx_T} (h : t.1 = dx_wA) : dx_cb t yRU_chooseNext cRU_chooseNext 2 (some .boolean) 0 := by
  unfold dx_cb
  rw [h]
  exact ⟨dx_wA_good, dx_in 545 (by decide +kernel) (by decide +kernel), iniRU, ⟨by decide +kernel, by decide +kernel, by decide +kernel⟩, by decide⟩
theorem cbRU_microstep {t : dx_T} (h : t.1 = dx_wA) : dx_cb t yRU_microstep cRU_microstep 2 none 0 := by
  unfold dx_cb
  rw [h]
  exact ⟨dx_wA_good, dx_in 592 (by decide +kernel) (by decide +kernel), iniRU, ⟨by decide +kernel, by decide +kernel, by decide +kernel⟩, by decide⟩
theorem cbRU_finishIfEnded {t : dx_T} (h : t.1 = dx_wA) : dx_cb t yRU_finishIfEnded cRU_finishIfEnded 1 none 0 := by
  unfold dx_cb
  rw [h]
  exact ⟨dx_wA_good, dx_in 537 (by decide +kernel) (by decide +kernel), iniRU, ⟨by decide +kernel, by decide +kernel, by decide +kernel⟩, by decide⟩
theorem cbRU_rememberBefore {t : dx_T} (h : t.1 = dx_wA) : dx_cb t yRU_rememberBefore cRU_rememberBefore 4 none 1 := by
  unfold dx_cb
  rw [h]
  exact ⟨dx_wA_good, dx_in 600 (by decide +kernel) (by decide +kernel), iniRU, ⟨by decide +kernel, by decide +kernel, by decide +kernel⟩, by decide⟩
theorem cbRU_leave {t : dx_T} (h : t.1 = dx_wA) : dx_cb t yRU_leave cRU_leave 3 none 1 := by
  unfold dx_cb
  rw [h]
  exact ⟨dx_wA_good, dx_in 609 (by decide +kernel) (by decide +kernel), iniRU, ⟨by decide +kernel, by decide +kernel, by decide +kernel⟩, by decide⟩
theorem cbRU_takeTransitions {t : dx_T} (h : t.1 = dx_wA) : dx_cb t yRU_takeTransitions cRU_takeTransitions 2 none 0 := by
  unfold dx_cb
  rw [h]
  exact ⟨dx_wA_good, dx_in 613 (by decide +kernel) (by decide +kernel), iniRU, ⟨by decide +kernel, by decide +kernel, by decide +kernel⟩, by decide⟩
theorem cbRU_entrySet {t : dx_T} (h : t.1 = dx_wA) : dx_cb t yRU_entrySet cRU_entrySet 4 (some .int) 0 := by
  unfold dx_cb
  rw [h]
  exact ⟨dx_wA_good, dx_in 617 (by decide +kernel) (by decide +kernel), iniRU, ⟨by decide +kernel, by decide +kernel, by decide +kernel⟩, by decide⟩
theorem cbRU_meantBy {t : dx_T} (h : t.1 = dx_wA) : dx_cb t yRU_meantBy cRU_meantBy 3 (some .int) 1 := by
  unfold dx_cb
  rw [h]
  exact ⟨dx_wA_good, dx_in 621 (by decide +kernel) (by decide +kernel), iniRU, ⟨by decide +kernel, by decide +kernel, by decide +kernel⟩, by decide⟩
theorem cbRU_withPath {t : dx_T} (h : t.1 = dx_wA) : dx_cb t yRU_withPath cRU_withPath 5 (some .int) 2 := by
  unfold dx_cb
  rw [h]
  exact ⟨dx_wA_good, dx_in 625 (by decide +kernel) (by decide +kernel), iniRU, ⟨by decide +kernel, by decide +kernel, by decide +kernel⟩, by decide⟩
theorem cbRU_enter {t : dx_T} (h : t.1 = dx_wA) : dx_cb t yRU_enter cRU_enter 3 none 1 := by
  unfold dx_cb
  rw [h]
  exact ⟨dx_wA_good, dx_in 488 (by decide +kernel) (by decide +kernel), iniRU, ⟨by decide +kernel, by decide +kernel, by decide +kernel⟩, by decide⟩
theorem cbRU_announceFinal {t : dx_T} (h : t.1 = dx_wA) : dx_cb t yRU_announceFinal cRU_announceFinal 4 none 1 := by
  unfold dx_cb
  rw [h]
  exact ⟨dx_wA_good, dx_in 521 (by decide +kernel) (by decide +kernel), iniRU, ⟨by decide +kernel, by decide +kernel, by decide +kernel⟩, by decide⟩
theorem cbRU_allChildrenDone {t : dx_T} (h : t.1 = dx_wA) : dx_cb t yRU_allChildrenDone cRU_allChildrenDone 3 (some .boolean) 1 := by
  unfold dx_cb
  rw [h]
  exact ⟨dx_wA_good, dx_in 529 (by decide +kernel) (by decide +kernel), iniRU, ⟨by decide +kernel, by decide +kernel, by decide +kernel⟩, by decide⟩
theorem cbRU_hasActiveFinalChild {t : dx_T} (h : t.1 = dx_wA) : dx_cb t yRU_hasActiveFinalChild cRU_hasActiveFinalChild 4 (some .boolean) 1 := by
  unfold dx_cb
  rw [h]
  exact ⟨dx_wA_good, dx_in 533 (by decide +kernel) (by decide +kernel), iniRU, ⟨by decide +kernel, by decide +kernel, by decide +kernel⟩, by decide⟩
theorem cbRU_doActions {t : dx_T} (h : t.1 = dx_wA) : dx_cb t yRU_doActions cRU_doActions 3 none 1 := by
  unfold dx_cb
  rw [h]
  exact ⟨dx_wA_good, dx_in 509 (by decide +kernel) (by decide +kernel), iniRU, ⟨by decide +kernel, by decide +kernel, by decide +kernel⟩, by decide⟩
theorem cbRU_doAction {t : dx_T} (h : t.1 = dx_wA) : dx_cb t yRU_doAction cRU_doAction 4 none 3 := by
  unfold dx_cb
  rw [h]
  exact ⟨dx_wA_good, dx_in 513 (by decide +kernel) (by decide +kernel), iniRU, ⟨by decide +kernel, by decide +kernel, by decide +kernel⟩, by decide⟩
theorem cbRU_putRecord {t : dx_T} (h : t.1 = dx_wA) : dx_cb t yRU_putRecord cRU_putRecord 2 none 1 := by
  unfold dx_cb
  rw [h]
  exact ⟨dx_wA_good, dx_in 493 (by decide +kernel) (by decide +kernel), iniRU, ⟨by decide +kernel, by decide +kernel, by decide +kernel⟩, by decide⟩
theorem cbRU_putInternal {t : dx_T} (h : t.1 = dx_wA) : dx_cb t yRU_putInternal cRU_putInternal 2 none 1 := by
  unfold dx_cb
  rw [h]
  exact ⟨dx_wA_good, dx_in 525 (by decide +kernel) (by decide +kernel), iniRU, ⟨by decide +kernel, by decide +kernel, by decide +kernel⟩, by decide⟩
theorem cbRU_failUnless {t : dx_T} (h : t.1 = dx_wA) : dx_cb t yRU_failUnless cRU_failUnless 2 none 1 := by
  unfold dx_cb
  rw [h]
  exact ⟨dx_wA_good, dx_in 505 (by decide +kernel) (by decide +kernel), iniRU, ⟨by decide +kernel, by decide +kernel, by decide +kernel⟩, by decide⟩
theorem cbRU_advanceClock {t : dx_T} (h : t.1 = dx_wA) : dx_cb t yRU_advanceClock cRU_advanceClock 4 none 1 := by
  unfold dx_cb
  rw [h]
  exact ⟨dx_wA_good, dx_in 647 (by decide +kernel) (by decide +kernel), iniRU, ⟨by decide +kernel, by decide +kernel, by decide +kernel⟩, by decide⟩
theorem cbSE_chooseFor {t : dx_T} (h : t.1 = dx_wA) : dx_cb t ySE_chooseFor cSE_chooseFor 3 (some .boolean) 1 := by
  unfold dx_cb
  rw [h]
  exact ⟨dx_wA_good, dx_in 549 (by decide +kernel) (by decide +kernel), iniSE, ⟨by decide +kernel, by decide +kernel, by decide +kernel⟩, by decide⟩
theorem cbSE_select {t : dx_T} (h : t.1 = dx_wA) : dx_cb t ySE_select cSE_select 3 none 1 := by
  unfold dx_cb
  rw [h]
  exact ⟨dx_wA_good, dx_in 568 (by decide +kernel) (by decide +kernel), iniSE, ⟨by decide +kernel, by decide +kernel, by decide +kernel⟩, by decide⟩
theorem cbSE_nearestEnabled {t : dx_T} (h : t.1 = dx_wA) : dx_cb t ySE_nearestEnabled cSE_nearestEnabled 6 (some .int) 2 := by
  unfold dx_cb
  rw [h]
  exact ⟨dx_wA_good, dx_in 555 (by decide +kernel) (by decide +kernel), iniSE, ⟨by decide +kernel, by decide +kernel, by decide +kernel⟩, by decide⟩
theorem cbSE_leastEnabled {t : dx_T} (h : t.1 = dx_wA) : dx_cb t ySE_leastEnabled cSE_leastEnabled 4 (some .int) 2 := by
  unfold dx_cb
  rw [h]
  exact ⟨dx_wA_good, dx_in 559 (by decide +kernel) (by decide +kernel), iniSE, ⟨by decide +kernel, by decide +kernel, by decide +kernel⟩, by decide⟩
theorem cbSE_keepIfAllowed {t : dx_T} (h : t.1 = dx_wA) : dx_cb t ySE_keepIfAllowed cSE_keepIfAllowed 4 none 1 := by
  unfold dx_cb
  rw [h]
  exact ⟨dx_wA_good, dx_in 572 (by decide +kernel) (by decide +kernel), iniSE, ⟨by decide +kernel, by decide +kernel, by decide +kernel⟩, by decide⟩
theorem cbSE_conflict {t : dx_T} (h : t.1 = dx_wA) : dx_cb t ySE_conflict cSE_conflict 3 (some .boolean) 2 := by
  unfold dx_cb
  rw [h]
  exact ⟨dx_wA_good, dx_in 576 (by decide +kernel) (by decide +kernel), iniSE, ⟨by decide +kernel, by decide +kernel, by decide +kernel⟩, by decide⟩
theorem cbSE_outranks {t : dx_T} (h : t.1 = dx_wA) : dx_cb t ySE_outranks cSE_outranks 3 (some .boolean) 2 := by
  unfold dx_cb
  rw [h]
  exact ⟨dx_wA_good, dx_in 584 (by decide +kernel) (by decide +kernel), iniSE, ⟨by decide +kernel, by decide +kernel, by decide +kernel⟩, by decide⟩
theorem cbSE_exitSet {t : dx_T} (h : t.1 = dx_wA) : dx_cb t ySE_exitSet cSE_exitSet 2 (some .int) 1 := by
  unfold dx_cb
  rw [h]
  exact ⟨dx_wA_good, dx_in 580 (by decide +kernel) (by decide +kernel), iniSE, ⟨by decide +kernel, by decide +kernel, by decide +kernel⟩, by decide⟩
theorem cbSE_allExits {t : dx_T} (h : t.1 = dx_wA) : dx_cb t ySE_allExits cSE_allExits 3 (some .int) 0 := by
  unfold dx_cb
  rw [h]
  exact ⟨dx_wA_good, dx_in 596 (by decide +kernel) (by decide +kernel), iniSE, ⟨by decide +kernel, by decide +kernel, by decide +kernel⟩, by decide⟩
theorem cbSV_put {t : dx_T} (h : t.1 = dx_wA) : dx_cb t ySV_put cSV_put 3 (some .boolean) 2 := by
  unfold dx_cb
  rw [h]
  exact ⟨dx_wA_good, dx_in 517 (by decide +kernel) (by decide +kernel), iniSV, ⟨by decide +kernel, by decide +kernel, by decide +kernel⟩, by decide⟩
theorem cbSV_placeOfEarliest {t : dx_T} (h : t.1 = dx_wA) : dx_cb t ySV_placeOfEarliest cSV_placeOfEarliest 4 (some .int) 1 := by
  unfold dx_cb
  rw [h]
  exact ⟨dx_wA_good, dx_in 651 (by decide +kernel) (by decide +kernel), iniSV, ⟨by decide +kernel, by decide +kernel, by decide +kernel⟩, by decide⟩
theorem cbSV_drop {t : dx_T} (h : t.1 = dx_wA) : dx_cb t ySV_drop cSV_drop 3 none 1 := by
  unfold dx_cb
  rw [h]
  exact ⟨dx_wA_good, dx_in 655 (by decide +kernel) (by decide +kernel), iniSV, ⟨by decide +kernel, by decide +kernel, by decide +kernel⟩, by decide⟩
theorem cbSI_clear {t : dx_T} (h : t.1 = dx_wA) : dx_cb t ySI_clear cSI_clear 1 none 0 := by
  unfold dx_cb
  rw [h]
  exact ⟨dx_wA_good, dx_in 472 (by decide +kernel) (by decide +kernel), iniSI, ⟨by decide +kernel, by decide +kernel, by decide +kernel⟩, by decide⟩
theorem cbSI_satisfies {t : dx_T} (h : t.1 = dx_wA) : dx_cb t ySI_satisfies cSI_satisfies 4 (some .boolean) 2 := by
  unfold dx_cb
  rw [h]
  exact ⟨dx_wA_good, dx_in 563 (by decide +kernel) (by decide +kernel), iniSI, ⟨by decide +kernel, by decide +kernel, by decide +kernel⟩, by decide⟩
theorem cbST_isMade {t : dx_T} (h : t.1 = dx_wA) : dx_cb t yST_isMade cST_isMade 2 (some .boolean) 1 := by
  unfold dx_cb
  rw [h]
  exact ⟨dx_wA_good, dx_in 386 (by decide +kernel) (by decide +kernel), iniST, ⟨by decide +kernel, by decide +kernel, by decide +kernel⟩, by decide⟩
theorem cbST_isHistory {t : dx_T} (h : t.1 = dx_wA) : dx_cb t yST_isHistory cST_isHistory 2 (some .boolean) 1 := by
  unfold dx_cb
  rw [h]
  exact ⟨dx_wA_good, dx_in 367 (by decide +kernel) (by decide +kernel), iniST, ⟨by decide +kernel, by decide +kernel, by decide +kernel⟩, by decide⟩
theorem cbST_isMadeState {t : dx_T} (h : t.1 = dx_wA) : dx_cb t yST_isMadeState cST_isMadeState 2 (some .boolean) 1 := by
  unfold dx_cb
  rw [h]
  exact ⟨dx_wA_good, dx_in 382 (by decide +kernel) (by decide +kernel), iniST, ⟨by decide +kernel, by decide +kernel, by decide +kernel⟩, by decide⟩
theorem cbST_isAtomic {t : dx_T} (h : t.1 = dx_wA) : dx_cb t yST_isAtomic cST_isAtomic 2 (some .boolean) 1 := by
  unfold dx_cb
  rw [h]
  exact ⟨dx_wA_good, dx_in 464 (by decide +kernel) (by decide +kernel), iniST, ⟨by decide +kernel, by decide +kernel, by decide +kernel⟩, by decide⟩
theorem cbST_isCompound {t : dx_T} (h : t.1 = dx_wA) : dx_cb t yST_isCompound cST_isCompound 2 (some .boolean) 1 := by
  unfold dx_cb
  rw [h]
  exact ⟨dx_wA_good, dx_in 414 (by decide +kernel) (by decide +kernel), iniST, ⟨by decide +kernel, by decide +kernel, by decide +kernel⟩, by decide⟩
theorem cbST_mayHold {t : dx_T} (h : t.1 = dx_wA) : dx_cb t yST_mayHold cST_mayHold 3 (some .boolean) 2 := by
  unfold dx_cb
  rw [h]
  exact ⟨dx_wA_good, dx_in 359 (by decide +kernel) (by decide +kernel), iniST, ⟨by decide +kernel, by decide +kernel, by decide +kernel⟩, by decide⟩
theorem cbST_add {t : dx_T} (h : t.1 = dx_wA) : dx_cb t yST_add cST_add 3 (some .int) 2 := by
  unfold dx_cb
  rw [h]
  exact ⟨dx_wA_good, dx_in 363 (by decide +kernel) (by decide +kernel), iniST, ⟨by decide +kernel, by decide +kernel, by decide +kernel⟩, by decide⟩
theorem cbST_addChild {t : dx_T} (h : t.1 = dx_wA) : dx_cb t yST_addChild cST_addChild 4 none 2 := by
  unfold dx_cb
  rw [h]
  exact ⟨dx_wA_good, dx_in 371 (by decide +kernel) (by decide +kernel), iniST, ⟨by decide +kernel, by decide +kernel, by decide +kernel⟩, by decide⟩
theorem cbST_nearestCompoundAbove {t : dx_T} (h : t.1 = dx_wA) : dx_cb t yST_nearestCompoundAbove cST_nearestCompoundAbove 5 (some .int) 2 := by
  unfold dx_cb
  rw [h]
  exact ⟨dx_wA_good, dx_in 410 (by decide +kernel) (by decide +kernel), iniST, ⟨by decide +kernel, by decide +kernel, by decide +kernel⟩, by decide⟩
theorem cbST_isWhole {t : dx_T} (h : t.1 = dx_wA) : dx_cb t yST_isWhole cST_isWhole 2 (some .boolean) 0 := by
  unfold dx_cb
  rw [h]
  exact ⟨dx_wA_good, dx_in 460 (by decide +kernel) (by decide +kernel), iniST, ⟨by decide +kernel, by decide +kernel, by decide +kernel⟩, by decide⟩
theorem cbST_atomicAmong {t : dx_T} (h : t.1 = dx_wA) : dx_cb t yST_atomicAmong cST_atomicAmong 4 (some .int) 1 := by
  unfold dx_cb
  rw [h]
  exact ⟨dx_wA_good, dx_in 605 (by decide +kernel) (by decide +kernel), iniST, ⟨by decide +kernel, by decide +kernel, by decide +kernel⟩, by decide⟩
theorem cbST_completed {t : dx_T} (h : t.1 = dx_wA) : dx_cb t yST_completed cST_completed 4 (some .int) 1 := by
  unfold dx_cb
  rw [h]
  exact ⟨dx_wA_good, dx_in 484 (by decide +kernel) (by decide +kernel), iniST, ⟨by decide +kernel, by decide +kernel, by decide +kernel⟩, by decide⟩
theorem cbTT_has {t : dx_T} (h : t.1 = dx_wA) : dx_cb t yTT_has cTT_has 2 (some .boolean) 1 := by
  unfold dx_cb
  rw [h]
  exact ⟨dx_wA_good, dx_in 426 (by decide +kernel) (by decide +kernel), iniTT, ⟨by decide +kernel, by decide +kernel, by decide +kernel⟩, by decide⟩
theorem cbTT_add {t : dx_T} (h : t.1 = dx_wA) : dx_cb t yTT_add cTT_add 6 (some .int) 4 := by
  unfold dx_cb
  rw [h]
  exact ⟨dx_wA_good, dx_in 418 (by decide +kernel) (by decide +kernel), iniTT, ⟨by decide +kernel, by decide +kernel, by decide +kernel⟩, by decide⟩
theorem cbTT_putGuard {t : dx_T} (h : t.1 = dx_wA) : dx_cb t yTT_putGuard cTT_putGuard 5 none 4 := by
  unfold dx_cb
  rw [h]
  exact ⟨dx_wA_good, dx_in 437 (by decide +kernel) (by decide +kernel), iniTT, ⟨by decide +kernel, by decide +kernel, by decide +kernel⟩, by decide⟩
theorem cbAR_fill {t : dx_T} (h : t.1 = dx_wA) : dx_cb t yAR_fill cAR_fill 4 none 2 := by
  unfold dx_cb
  rw [h]
  exact ⟨dx_wA_good, dx_in 475 (by decide +kernel) (by decide +kernel), iniAR, ⟨by decide +kernel, by decide +kernel, by decide +kernel⟩, by decide⟩
theorem cvMC_39 : dx_cv tX RMC 39 yMC_isBuilding cMC_isBuilding 1 (some .boolean) 0 0 := ⟨Or.inl (dx_in 352 (by decide +kernel) (by decide +kernel)), cbMC_isBuilding rfl, dx_in 354 (by decide +kernel) (by decide +kernel), dx_in 0 (by decide +kernel) (by decide +kernel), _, rfl, rfl⟩
theorem flMC_10 : dx_fl tX RMC 10 0 0 := ⟨RMC, TMC, 4, rfl, by decide, dx_in 335 (by decide +kernel) (by decide +kernel), layMC⟩
theorem cvMC_43 : dx_cv tX RMC 43 yST_mayHold cST_mayHold 3 (some .boolean) 2 1 := ⟨Or.inl (dx_in 356 (by decide +kernel) (by decide +kernel)), cbST_mayHold rfl, dx_in 357 (by decide +kernel) (by decide +kernel), dx_in 358 (by decide +kernel) (by decide +kernel), _, rfl, rfl⟩
theorem flMC_47 : dx_fl tX RMC 47 1 6 := ⟨RST, TST, 7, rfl, by decide, dx_in 107 (by decide +kernel) (by decide +kernel), layST⟩
theorem cvMC_51 : dx_cv tX RMC 51 yST_add cST_add 3 (some .int) 2 1 := ⟨Or.inl (dx_in 360 (by decide +kernel) (by decide +kernel)), cbST_add rfl, dx_in 361 (by decide +kernel) (by decide +kernel), dx_in 362 (by decide +kernel) (by decide +kernel), _, rfl, rfl⟩
theorem cvMC_55 : dx_cv tX RMC 55 yST_isMadeState cST_isMadeState 2 (some .boolean) 1 1 := ⟨Or.inl (dx_in 379 (by decide +kernel) (by decide +kernel)), cbST_isMadeState rfl, dx_in 380 (by decide +kernel) (by decide +kernel), dx_in 381 (by decide +kernel) (by decide +kernel), _, rfl, rfl⟩
theorem flMC_59 : dx_fl tX RMC 59 1 0 := ⟨RST, TST, 7, rfl, by decide, dx_in 89 (by decide +kernel) (by decide +kernel), layST⟩
theorem flMC_63 : dx_fl tX RMC 63 1 1 := ⟨RST, TST, 7, rfl, by decide, dx_in 92 (by decide +kernel) (by decide +kernel), layST⟩
theorem flMC_66 : dx_fl tX RMC 66 1 2 := ⟨RST, TST, 7, rfl, by decide, dx_in 95 (by decide +kernel) (by decide +kernel), layST⟩
theorem cvMC_69 : dx_cv tX RMC 69 yMC_maySource cMC_maySource 2 (some .boolean) 1 0 := ⟨Or.inl (dx_in 391 (by decide +kernel) (by decide +kernel)), cbMC_maySource rfl, dx_in 393 (by decide +kernel) (by decide +kernel), dx_in 2 (by decide +kernel) (by decide +kernel), _, rfl, rfl⟩
theorem cvMC_72 : dx_cv tX RMC 72 yMC_mayAwait cMC_mayAwait 2 (some .boolean) 1 0 := ⟨Or.inl (dx_in 395 (by decide +kernel) (by decide +kernel)), cbMC_mayAwait rfl, dx_in 397 (by decide +kernel) (by decide +kernel), dx_in 3 (by decide +kernel) (by decide +kernel), _, rfl, rfl⟩
theorem cvMC_75 : dx_cv tX RMC 75 yMC_mayTarget cMC_mayTarget 2 (some .boolean) 1 0 := ⟨Or.inl (dx_in 402 (by decide +kernel) (by decide +kernel)), cbMC_mayTarget rfl, dx_in 404 (by decide +kernel) (by decide +kernel), dx_in 4 (by decide +kernel) (by decide +kernel), _, rfl, rfl⟩
theorem flMC_19 : dx_fl tX RMC 19 0 1 := ⟨RMC, TMC, 4, rfl, by decide, dx_in 336 (by decide +kernel) (by decide +kernel), layMC⟩
theorem flMC_78 : dx_fl tX RMC 78 2 7 := ⟨RTT, TTT, 8, rfl, by decide, dx_in 148 (by decide +kernel) (by decide +kernel), layTT⟩
theorem cvMC_79 : dx_cv tX RMC 79 yST_nearestCompoundAbove cST_nearestCompoundAbove 5 (some .int) 2 1 := ⟨Or.inl (dx_in 407 (by decide +kernel) (by decide +kernel)), cbST_nearestCompoundAbove rfl, dx_in 408 (by decide +kernel) (by decide +kernel), dx_in 409 (by decide +kernel) (by decide +kernel), _, rfl, rfl⟩
theorem cvMC_82 : dx_cv tX RMC 82 yTT_add cTT_add 6 (some .int) 4 2 := ⟨Or.inl (dx_in 415 (by decide +kernel) (by decide +kernel)), cbTT_add rfl, dx_in 416 (by decide +kernel) (by decide +kernel), dx_in 417 (by decide +kernel) (by decide +kernel), _, rfl, rfl⟩
theorem cvMC_85 : dx_cv tX RMC 85 yTT_has cTT_has 2 (some .boolean) 1 2 := ⟨Or.inl (dx_in 423 (by decide +kernel) (by decide +kernel)), cbTT_has rfl, dx_in 424 (by decide +kernel) (by decide +kernel), dx_in 425 (by decide +kernel) (by decide +kernel), _, rfl, rfl⟩
theorem cvMC_88 : dx_cv tX RMC 88 yMC_mayGuard cMC_mayGuard 4 (some .boolean) 3 0 := ⟨Or.inl (dx_in 427 (by decide +kernel) (by decide +kernel)), cbMC_mayGuard rfl, dx_in 429 (by decide +kernel) (by decide +kernel), dx_in 5 (by decide +kernel) (by decide +kernel), _, rfl, rfl⟩
theorem cvMC_92 : dx_cv tX RMC 92 yTT_putGuard cTT_putGuard 5 none 4 2 := ⟨Or.inl (dx_in 434 (by decide +kernel) (by decide +kernel)), cbTT_putGuard rfl, dx_in 435 (by decide +kernel) (by decide +kernel), dx_in 436 (by decide +kernel) (by decide +kernel), _, rfl, rfl⟩
theorem cvMC_96 : dx_cv tX RMC 96 yMC_mayOwn cMC_mayOwn 2 (some .boolean) 1 0 := ⟨Or.inl (dx_in 442 (by decide +kernel) (by decide +kernel)), cbMC_mayOwn rfl, dx_in 444 (by decide +kernel) (by decide +kernel), dx_in 6 (by decide +kernel) (by decide +kernel), _, rfl, rfl⟩
theorem csMC_99 : dx_cs tX RMC 99 yMC_mayDo cMC_mayDo 3 (some .boolean) 3 := ⟨Or.inl (dx_in 446 (by decide +kernel) (by decide +kernel)), cbMC_mayDo rfl, dx_in 447 (by decide +kernel) (by decide +kernel)⟩
theorem flMC_26 : dx_fl tX RMC 26 0 2 := ⟨RMC, TMC, 4, rfl, by decide, dx_in 337 (by decide +kernel) (by decide +kernel), layMC⟩
theorem flMC_102 : dx_fl tX RMC 102 3 4 := ⟨RAT, TAT, 5, rfl, by decide, dx_in 182 (by decide +kernel) (by decide +kernel), layAT⟩
theorem cvMC_103 : dx_cv tX RMC 103 yAT_add cAT_add 5 none 4 3 := ⟨Or.inl (dx_in 449 (by decide +kernel) (by decide +kernel)), cbAT_add rfl, dx_in 450 (by decide +kernel) (by decide +kernel), dx_in 451 (by decide +kernel) (by decide +kernel), _, rfl, rfl⟩
theorem cvMC_105 : dx_cv tX RMC 105 yST_isWhole cST_isWhole 2 (some .boolean) 0 1 := ⟨Or.inl (dx_in 457 (by decide +kernel) (by decide +kernel)), cbST_isWhole rfl, dx_in 458 (by decide +kernel) (by decide +kernel), dx_in 459 (by decide +kernel) (by decide +kernel), _, rfl, rfl⟩
theorem flMC_35 : dx_fl tX RMC 35 0 3 := ⟨RMC, TMC, 4, rfl, by decide, dx_in 338 (by decide +kernel) (by decide +kernel), layMC⟩
theorem cvMC_108 : dx_cv tX RMC 108 yRU_open cRU_open 1 none 0 4 := ⟨Or.inl (dx_in 465 (by decide +kernel) (by decide +kernel)), cbRU_open rfl, dx_in 466 (by decide +kernel) (by decide +kernel), dx_in 467 (by decide +kernel) (by decide +kernel), _, rfl, rfl⟩
theorem cvMC_111 : dx_cv tX RMC 111 yRU_macrostep cRU_macrostep 2 none 0 4 := ⟨Or.inl (dx_in 538 (by decide +kernel) (by decide +kernel)), cbRU_macrostep rfl, dx_in 539 (by decide +kernel) (by decide +kernel), dx_in 540 (by decide +kernel) (by decide +kernel), _, rfl, rfl⟩
theorem flMC_114 : dx_fl tX RMC 114 4 11 := ⟨RRU, TRU, 14, rfl, by decide, dx_in 302 (by decide +kernel) (by decide +kernel), layRU⟩
theorem cvMC_117 : dx_cv tX RMC 117 yRU_isGoingOn cRU_isGoingOn 1 (some .boolean) 0 4 := ⟨Or.inl (dx_in 630 (by decide +kernel) (by decide +kernel)), cbRU_isGoingOn rfl, dx_in 495 (by decide +kernel) (by decide +kernel), dx_in 496 (by decide +kernel) (by decide +kernel), _, rfl, rfl⟩
theorem csMC_120 : dx_cs tX RMC 120 yMC_isEvent cMC_isEvent 1 (some .boolean) 1 := ⟨Or.inl (dx_in 399 (by decide +kernel) (by decide +kernel)), cbMC_isEvent rfl, dx_in 400 (by decide +kernel) (by decide +kernel)⟩
theorem flMC_123 : dx_fl tX RMC 123 4 6 := ⟨RRU, TRU, 14, rfl, by decide, dx_in 292 (by decide +kernel) (by decide +kernel), layRU⟩
theorem cvMC_127 : dx_cv tX RMC 127 yLN_put cLN_put 2 (some .boolean) 1 7 := ⟨Or.inl (dx_in 631 (by decide +kernel) (by decide +kernel)), cbLN_put rfl, dx_in 499 (by decide +kernel) (by decide +kernel), dx_in 500 (by decide +kernel) (by decide +kernel), _, rfl, rfl⟩
theorem flMC_132 : dx_fl tX RMC 132 7 1 := ⟨RLN, TLN, 2, rfl, by decide, dx_in 228 (by decide +kernel) (by decide +kernel), layLN⟩
theorem cvMC_133 : dx_cv tX RMC 133 yRU_takeExternalEvent cRU_takeExternalEvent 1 none 0 4 := ⟨Or.inl (dx_in 636 (by decide +kernel) (by decide +kernel)), cbRU_takeExternalEvent rfl, dx_in 637 (by decide +kernel) (by decide +kernel), dx_in 638 (by decide +kernel) (by decide +kernel), _, rfl, rfl⟩
theorem cvMC_136 : dx_cv tX RMC 136 yRU_advanceClock cRU_advanceClock 4 none 1 4 := ⟨Or.inl (dx_in 644 (by decide +kernel) (by decide +kernel)), cbRU_advanceClock rfl, dx_in 645 (by decide +kernel) (by decide +kernel), dx_in 646 (by decide +kernel) (by decide +kernel), _, rfl, rfl⟩
theorem flMC_140 : dx_fl tX RMC 140 4 10 := ⟨RRU, TRU, 14, rfl, by decide, dx_in 300 (by decide +kernel) (by decide +kernel), layRU⟩
theorem fpMC_143 : dx_fp tX RMC 143 4 12 false := ⟨RRU, TRU, 14, tyRU, rfl, by decide, dx_in 304 (by decide +kernel) (by decide +kernel), layRU, tyRU_ok, nmRU, rfl, rfl⟩
theorem flMC_143 : dx_fl tX RMC 143 4 12 := ⟨RRU, TRU, 14, rfl, by decide, dx_in 304 (by decide +kernel) (by decide +kernel), layRU⟩
theorem flMC_146 : dx_fl tX RMC 146 4 3 := ⟨RRU, TRU, 14, rfl, by decide, dx_in 287 (by decide +kernel) (by decide +kernel), layRU⟩
theorem flMC_150 : dx_fl tX RMC 150 5 1 := ⟨RSI, TSI, 2, rfl, by decide, dx_in 213 (by decide +kernel) (by decide +kernel), laySI⟩
theorem cvMC_155 : dx_cv tX RMC 155 yST_isMade cST_isMade 2 (some .boolean) 1 1 := ⟨Or.inl (dx_in 406 (by decide +kernel) (by decide +kernel)), cbST_isMade rfl, dx_in 384 (by decide +kernel) (by decide +kernel), dx_in 385 (by decide +kernel) (by decide +kernel), _, rfl, rfl⟩
theorem flMC_158 : dx_fl tX RMC 158 4 9 := ⟨RRU, TRU, 14, rfl, by decide, dx_in 298 (by decide +kernel) (by decide +kernel), layRU⟩
theorem csMC_161 : dx_cs tX RMC 161 yMC_isVariable cMC_isVariable 1 (some .boolean) 1 := ⟨Or.inl (dx_in 431 (by decide +kernel) (by decide +kernel)), cbMC_isVariable rfl, dx_in 432 (by decide +kernel) (by decide +kernel)⟩
theorem flMC_164 : dx_fl tX RMC 164 5 0 := ⟨RSI, TSI, 2, rfl, by decide, dx_in 208 (by decide +kernel) (by decide +kernel), laySI⟩
theorem flMC_167 : dx_fl tX RMC 167 4 7 := ⟨RRU, TRU, 14, rfl, by decide, dx_in 294 (by decide +kernel) (by decide +kernel), layRU⟩
theorem cvMC_170 : dx_cv tX RMC 170 yLN_at cLN_at 2 (some .int) 1 7 := ⟨Or.inl (dx_in 680 (by decide +kernel) (by decide +kernel)), cbLN_at rfl, dx_in 681 (by decide +kernel) (by decide +kernel), dx_in 682 (by decide +kernel) (by decide +kernel), _, rfl, rfl⟩
theorem flMC_174 : dx_fl tX RMC 174 4 8 := ⟨RRU, TRU, 14, rfl, by decide, dx_in 296 (by decide +kernel) (by decide +kernel), layRU⟩
theorem flMC_178 : dx_fl tX RMC 178 8 2 := ⟨RSV, TSV, 3, rfl, by decide, dx_in 245 (by decide +kernel) (by decide +kernel), laySV⟩
theorem flMC_181 : dx_fl tX RMC 181 4 5 := ⟨RRU, TRU, 14, rfl, by decide, dx_in 290 (by decide +kernel) (by decide +kernel), layRU⟩
theorem flMM_89 : dx_fl tM RMM 89 9 0 := ⟨RMM, TMM, 39, rfl, by decide, dx_in 694 (by decide +kernel) (by decide +kernel), layMM⟩
theorem flMM_13 : dx_fl tM RMM 13 9 2 := ⟨RMM, TMM, 39, rfl, by decide, dx_in 696 (by decide +kernel) (by decide +kernel), layMM⟩
theorem flMM_7 : dx_fl tM RMM 7 9 1 := ⟨RMM, TMM, 39, rfl, by decide, dx_in 695 (by decide +kernel) (by decide +kernel), layMM⟩
theorem cvMM_93 : dx_cv tM RMM 93 yMM_hasChild cMM_hasChild 4 (some .boolean) 2 9 := ⟨Or.inl (dx_in 845 (by decide +kernel) (by decide +kernel)), cbMM_hasChild rfl, dx_in 847 (by decide +kernel) (by decide +kernel), dx_in 33 (by decide +kernel) (by decide +kernel), _, rfl, rfl⟩
theorem flMM_16 : dx_fl tM RMM 16 9 3 := ⟨RMM, TMM, 39, rfl, by decide, dx_in 697 (by decide +kernel) (by decide +kernel), layMM⟩
theorem flMM_97 : dx_fl tM RMM 97 9 17 := ⟨RMM, TMM, 39, rfl, by decide, dx_in 711 (by decide +kernel) (by decide +kernel), layMM⟩
theorem fpMM_89 : dx_fp tM RMM 89 9 0 false := ⟨RMM, TMM, 39, tyMM, rfl, by decide, dx_in 694 (by decide +kernel) (by decide +kernel), layMM, tyMM_ok, nmMM, rfl, rfl⟩
theorem cvMM_100 : dx_cv tM RMM 100 yMM_is cMM_is 2 (some .boolean) 1 9 := ⟨Or.inl (dx_in 821 (by decide +kernel) (by decide +kernel)), cbMM_is rfl, dx_in 823 (by decide +kernel) (by decide +kernel), dx_in 31 (by decide +kernel) (by decide +kernel), _, rfl, rfl⟩
theorem flMM_104 : dx_fl tM RMM 104 9 4 := ⟨RMM, TMM, 39, rfl, by decide, dx_in 698 (by decide +kernel) (by decide +kernel), layMM⟩
theorem flMM_19 : dx_fl tM RMM 19 9 5 := ⟨RMM, TMM, 39, rfl, by decide, dx_in 699 (by decide +kernel) (by decide +kernel), layMM⟩
theorem flMM_22 : dx_fl tM RMM 22 9 6 := ⟨RMM, TMM, 39, rfl, by decide, dx_in 700 (by decide +kernel) (by decide +kernel), layMM⟩
theorem flMM_25 : dx_fl tM RMM 25 9 7 := ⟨RMM, TMM, 39, rfl, by decide, dx_in 701 (by decide +kernel) (by decide +kernel), layMM⟩
theorem fpMM_104 : dx_fp tM RMM 104 9 4 false := ⟨RMM, TMM, 39, tyMM, rfl, by decide, dx_in 698 (by decide +kernel) (by decide +kernel), layMM, tyMM_ok, nmMM, rfl, rfl⟩
theorem flMM_28 : dx_fl tM RMM 28 9 8 := ⟨RMM, TMM, 39, rfl, by decide, dx_in 702 (by decide +kernel) (by decide +kernel), layMM⟩
theorem flMM_32 : dx_fl tM RMM 32 9 9 := ⟨RMM, TMM, 39, rfl, by decide, dx_in 703 (by decide +kernel) (by decide +kernel), layMM⟩
theorem flMM_35 : dx_fl tM RMM 35 9 10 := ⟨RMM, TMM, 39, rfl, by decide, dx_in 704 (by decide +kernel) (by decide +kernel), layMM⟩
theorem flMM_38 : dx_fl tM RMM 38 9 11 := ⟨RMM, TMM, 39, rfl, by decide, dx_in 705 (by decide +kernel) (by decide +kernel), layMM⟩
theorem flMM_107 : dx_fl tM RMM 107 9 12 := ⟨RMM, TMM, 39, rfl, by decide, dx_in 706 (by decide +kernel) (by decide +kernel), layMM⟩
theorem flMM_41 : dx_fl tM RMM 41 9 13 := ⟨RMM, TMM, 39, rfl, by decide, dx_in 707 (by decide +kernel) (by decide +kernel), layMM⟩
theorem flMM_44 : dx_fl tM RMM 44 9 14 := ⟨RMM, TMM, 39, rfl, by decide, dx_in 708 (by decide +kernel) (by decide +kernel), layMM⟩
theorem flMM_47 : dx_fl tM RMM 47 9 15 := ⟨RMM, TMM, 39, rfl, by decide, dx_in 709 (by decide +kernel) (by decide +kernel), layMM⟩
theorem flMM_50 : dx_fl tM RMM 50 9 16 := ⟨RMM, TMM, 39, rfl, by decide, dx_in 710 (by decide +kernel) (by decide +kernel), layMM⟩
theorem fpMM_107 : dx_fp tM RMM 107 9 12 false := ⟨RMM, TMM, 39, tyMM, rfl, by decide, dx_in 706 (by decide +kernel) (by decide +kernel), layMM, tyMM_ok, nmMM, rfl, rfl⟩
theorem flMM_110 : dx_fl tM RMM 110 9 31 := ⟨RMM, TMM, 39, rfl, by decide, dx_in 725 (by decide +kernel) (by decide +kernel), layMM⟩
theorem fpMM_97 : dx_fp tM RMM 97 9 17 false := ⟨RMM, TMM, 39, tyMM, rfl, by decide, dx_in 711 (by decide +kernel) (by decide +kernel), layMM, tyMM_ok, nmMM, rfl, rfl⟩
theorem flMM_74 : dx_fl tM RMM 74 9 32 := ⟨RMM, TMM, 39, rfl, by decide, dx_in 726 (by decide +kernel) (by decide +kernel), layMM⟩
theorem fpMM_110 : dx_fp tM RMM 110 9 31 false := ⟨RMM, TMM, 39, tyMM, rfl, by decide, dx_in 725 (by decide +kernel) (by decide +kernel), layMM, tyMM_ok, nmMM, rfl, rfl⟩
theorem flMM_113 : dx_fl tM RMM 113 9 23 := ⟨RMM, TMM, 39, rfl, by decide, dx_in 717 (by decide +kernel) (by decide +kernel), layMM⟩
theorem flMM_62 : dx_fl tM RMM 62 9 24 := ⟨RMM, TMM, 39, rfl, by decide, dx_in 718 (by decide +kernel) (by decide +kernel), layMM⟩
theorem fpMM_113 : dx_fp tM RMM 113 9 23 false := ⟨RMM, TMM, 39, tyMM, rfl, by decide, dx_in 717 (by decide +kernel) (by decide +kernel), layMM, tyMM_ok, nmMM, rfl, rfl⟩
theorem flMM_116 : dx_fl tM RMM 116 9 25 := ⟨RMM, TMM, 39, rfl, by decide, dx_in 719 (by decide +kernel) (by decide +kernel), layMM⟩
theorem flMM_65 : dx_fl tM RMM 65 9 26 := ⟨RMM, TMM, 39, rfl, by decide, dx_in 720 (by decide +kernel) (by decide +kernel), layMM⟩
theorem fpMM_116 : dx_fp tM RMM 116 9 25 false := ⟨RMM, TMM, 39, tyMM, rfl, by decide, dx_in 719 (by decide +kernel) (by decide +kernel), layMM, tyMM_ok, nmMM, rfl, rfl⟩
theorem cvMM_119 : dx_cv tM RMM 119 yMM_queue cMM_queue 2 (some .boolean) 1 9 := ⟨Or.inl (dx_in 893 (by decide +kernel) (by decide +kernel)), cbMM_queue rfl, dx_in 895 (by decide +kernel) (by decide +kernel), dx_in 45 (by decide +kernel) (by decide +kernel), _, rfl, rfl⟩
theorem flMM_122 : dx_fl tM RMM 122 9 27 := ⟨RMM, TMM, 39, rfl, by decide, dx_in 721 (by decide +kernel) (by decide +kernel), layMM⟩
theorem flMM_68 : dx_fl tM RMM 68 9 28 := ⟨RMM, TMM, 39, rfl, by decide, dx_in 722 (by decide +kernel) (by decide +kernel), layMM⟩
theorem flMM_71 : dx_fl tM RMM 71 9 29 := ⟨RMM, TMM, 39, rfl, by decide, dx_in 723 (by decide +kernel) (by decide +kernel), layMM⟩
theorem flMM_125 : dx_fl tM RMM 125 9 30 := ⟨RMM, TMM, 39, rfl, by decide, dx_in 724 (by decide +kernel) (by decide +kernel), layMM⟩
theorem fpMM_122 : dx_fp tM RMM 122 9 27 false := ⟨RMM, TMM, 39, tyMM, rfl, by decide, dx_in 721 (by decide +kernel) (by decide +kernel), layMM, tyMM_ok, nmMM, rfl, rfl⟩
theorem cvMM_128 : dx_cv tM RMM 128 yMM_failed cMM_failed 1 (some .boolean) 0 9 := ⟨Or.inl (dx_in 873 (by decide +kernel) (by decide +kernel)), cbMM_failed rfl, dx_in 875 (by decide +kernel) (by decide +kernel), dx_in 40 (by decide +kernel) (by decide +kernel), _, rfl, rfl⟩
theorem flMM_59 : dx_fl tM RMM 59 9 22 := ⟨RMM, TMM, 39, rfl, by decide, dx_in 716 (by decide +kernel) (by decide +kernel), layMM⟩
theorem cvMM_132 : dx_cv tM RMM 132 yMM_raise cMM_raise 2 none 1 9 := ⟨Or.inl (dx_in 885 (by decide +kernel) (by decide +kernel)), cbMM_raise rfl, dx_in 887 (by decide +kernel) (by decide +kernel), dx_in 43 (by decide +kernel) (by decide +kernel), _, rfl, rfl⟩
theorem cvMM_136 : dx_cv tM RMM 136 yMM_send cMM_send 3 none 2 9 := ⟨Or.inl (dx_in 889 (by decide +kernel) (by decide +kernel)), cbMM_send rfl, dx_in 891 (by decide +kernel) (by decide +kernel), dx_in 44 (by decide +kernel) (by decide +kernel), _, rfl, rfl⟩
theorem flMM_53 : dx_fl tM RMM 53 9 20 := ⟨RMM, TMM, 39, rfl, by decide, dx_in 714 (by decide +kernel) (by decide +kernel), layMM⟩
theorem cvMM_140 : dx_cv tM RMM 140 yMM_holds cMM_holds 3 (some .boolean) 1 9 := ⟨Or.inl (dx_in 917 (by decide +kernel) (by decide +kernel)), cbMM_holds rfl, dx_in 919 (by decide +kernel) (by decide +kernel), dx_in 51 (by decide +kernel) (by decide +kernel), _, rfl, rfl⟩
theorem fpMM_143 : dx_fp tM RMM 143 9 33 false := ⟨RMM, TMM, 39, tyMM, rfl, by decide, dx_in 727 (by decide +kernel) (by decide +kernel), layMM, tyMM_ok, nmMM, rfl, rfl⟩
theorem cvMM_146 : dx_cv tM RMM 146 yMM_waiter cMM_waiter 4 (some .int) 2 9 := ⟨Or.inl (dx_in 913 (by decide +kernel) (by decide +kernel)), cbMM_waiter rfl, dx_in 915 (by decide +kernel) (by decide +kernel), dx_in 50 (by decide +kernel) (by decide +kernel), _, rfl, rfl⟩
theorem flMM_143 : dx_fl tM RMM 143 9 33 := ⟨RMM, TMM, 39, rfl, by decide, dx_in 727 (by decide +kernel) (by decide +kernel), layMM⟩
theorem flMM_77 : dx_fl tM RMM 77 9 34 := ⟨RMM, TMM, 39, rfl, by decide, dx_in 728 (by decide +kernel) (by decide +kernel), layMM⟩
theorem cvMM_150 : dx_cv tM RMM 150 yMM_compound cMM_compound 2 (some .boolean) 1 9 := ⟨Or.inl (dx_in 869 (by decide +kernel) (by decide +kernel)), cbMM_compound rfl, dx_in 871 (by decide +kernel) (by decide +kernel), dx_in 39 (by decide +kernel) (by decide +kernel), _, rfl, rfl⟩
theorem cvMM_153 : dx_cv tM RMM 153 yMM_below cMM_below 4 (some .boolean) 2 9 := ⟨Or.inl (dx_in 945 (by decide +kernel) (by decide +kernel)), cbMM_below rfl, dx_in 947 (by decide +kernel) (by decide +kernel), dx_in 58 (by decide +kernel) (by decide +kernel), _, rfl, rfl⟩
theorem cvMM_157 : dx_cv tM RMM 157 yMM_domain cMM_domain 3 (some .int) 1 9 := ⟨Or.inl (dx_in 941 (by decide +kernel) (by decide +kernel)), cbMM_domain rfl, dx_in 943 (by decide +kernel) (by decide +kernel), dx_in 57 (by decide +kernel) (by decide +kernel), _, rfl, rfl⟩
theorem cvMM_161 : dx_cv tM RMM 161 yMM_leaves cMM_leaves 3 (some .boolean) 2 9 := ⟨Or.inl (dx_in 937 (by decide +kernel) (by decide +kernel)), cbMM_leaves rfl, dx_in 939 (by decide +kernel) (by decide +kernel), dx_in 56 (by decide +kernel) (by decide +kernel), _, rfl, rfl⟩
theorem fpMM_164 : dx_fp tM RMM 164 9 35 false := ⟨RMM, TMM, 39, tyMM, rfl, by decide, dx_in 729 (by decide +kernel) (by decide +kernel), layMM, tyMM_ok, nmMM, rfl, rfl⟩
theorem flMM_164 : dx_fl tM RMM 164 9 35 := ⟨RMM, TMM, 39, rfl, by decide, dx_in 729 (by decide +kernel) (by decide +kernel), layMM⟩
theorem flMM_80 : dx_fl tM RMM 80 9 36 := ⟨RMM, TMM, 39, rfl, by decide, dx_in 730 (by decide +kernel) (by decide +kernel), layMM⟩
theorem cvMM_167 : dx_cv tM RMM 167 yMM_clash cMM_clash 4 (some .boolean) 2 9 := ⟨Or.inl (dx_in 933 (by decide +kernel) (by decide +kernel)), cbMM_clash rfl, dx_in 935 (by decide +kernel) (by decide +kernel), dx_in 55 (by decide +kernel) (by decide +kernel), _, rfl, rfl⟩
theorem flMM_83 : dx_fl tM RMM 83 9 37 := ⟨RMM, TMM, 39, rfl, by decide, dx_in 731 (by decide +kernel) (by decide +kernel), layMM⟩
theorem flMM_56 : dx_fl tM RMM 56 9 21 := ⟨RMM, TMM, 39, rfl, by decide, dx_in 715 (by decide +kernel) (by decide +kernel), layMM⟩
theorem cvMM_170 : dx_cv tM RMM 170 yMM_remember cMM_remember 4 none 0 9 := ⟨Or.inl (dx_in 953 (by decide +kernel) (by decide +kernel)), cbMM_remember rfl, dx_in 955 (by decide +kernel) (by decide +kernel), dx_in 60 (by decide +kernel) (by decide +kernel), _, rfl, rfl⟩
theorem cvMM_173 : dx_cv tM RMM 173 yMM_write cMM_write 2 none 1 9 := ⟨Or.inl (dx_in 877 (by decide +kernel) (by decide +kernel)), cbMM_write rfl, dx_in 879 (by decide +kernel) (by decide +kernel), dx_in 41 (by decide +kernel) (by decide +kernel), _, rfl, rfl⟩
theorem cvMM_176 : dx_cv tM RMM 176 yMM_act cMM_act 3 none 1 9 := ⟨Or.inl (dx_in 881 (by decide +kernel) (by decide +kernel)), cbMM_act rfl, dx_in 883 (by decide +kernel) (by decide +kernel), dx_in 42 (by decide +kernel) (by decide +kernel), _, rfl, rfl⟩
theorem flMM_86 : dx_fl tM RMM 86 9 38 := ⟨RMM, TMM, 39, rfl, by decide, dx_in 732 (by decide +kernel) (by decide +kernel), layMM⟩
theorem cvMM_179 : dx_cv tM RMM 179 yMM_want cMM_want 4 none 2 9 := ⟨Or.inl (dx_in 857 (by decide +kernel) (by decide +kernel)), cbMM_want rfl, dx_in 859 (by decide +kernel) (by decide +kernel), dx_in 36 (by decide +kernel) (by decide +kernel), _, rfl, rfl⟩
theorem cvMM_182 : dx_cv tM RMM 182 yMM_initialOf cMM_initialOf 3 (some .int) 1 9 := ⟨Or.inl (dx_in 853 (by decide +kernel) (by decide +kernel)), cbMM_initialOf rfl, dx_in 855 (by decide +kernel) (by decide +kernel), dx_in 35 (by decide +kernel) (by decide +kernel), _, rfl, rfl⟩
theorem fpMM_185 : dx_fp tM RMM 185 9 18 true := ⟨RMM, TMM, 39, tyMM, rfl, by decide, dx_in 712 (by decide +kernel) (by decide +kernel), layMM, tyMM_ok, nmMM, rfl, rfl⟩
theorem cvMM_189 : dx_cv tM RMM 189 yMM_done cMM_done 3 (some .boolean) 1 9 := ⟨Or.inl (dx_in 901 (by decide +kernel) (by decide +kernel)), cbMM_done rfl, dx_in 903 (by decide +kernel) (by decide +kernel), dx_in 47 (by decide +kernel) (by decide +kernel), _, rfl, rfl⟩
theorem cvMM_192 : dx_cv tM RMM 192 yMM_fill cMM_fill 5 none 0 9 := ⟨Or.inl (dx_in 865 (by decide +kernel) (by decide +kernel)), cbMM_fill rfl, dx_in 867 (by decide +kernel) (by decide +kernel), dx_in 38 (by decide +kernel) (by decide +kernel), _, rfl, rfl⟩
theorem cvMM_195 : dx_cv tM RMM 195 yMM_finish cMM_finish 6 none 1 9 := ⟨Or.inl (dx_in 897 (by decide +kernel) (by decide +kernel)), cbMM_finish rfl, dx_in 899 (by decide +kernel) (by decide +kernel), dx_in 46 (by decide +kernel) (by decide +kernel), _, rfl, rfl⟩
theorem flMM_185 : dx_fl tM RMM 185 9 18 := ⟨RMM, TMM, 39, rfl, by decide, dx_in 712 (by decide +kernel) (by decide +kernel), layMM⟩
theorem flMM_198 : dx_fl tM RMM 198 9 19 := ⟨RMM, TMM, 39, rfl, by decide, dx_in 713 (by decide +kernel) (by decide +kernel), layMM⟩
theorem fpMM_198 : dx_fp tM RMM 198 9 19 false := ⟨RMM, TMM, 39, tyMM, rfl, by decide, dx_in 713 (by decide +kernel) (by decide +kernel), layMM, tyMM_ok, nmMM, rfl, rfl⟩
theorem cvMM_201 : dx_cv tM RMM 201 yMM_settle cMM_settle 6 none 0 9 := ⟨Or.inl (dx_in 929 (by decide +kernel) (by decide +kernel)), cbMM_settle rfl, dx_in 931 (by decide +kernel) (by decide +kernel), dx_in 54 (by decide +kernel) (by decide +kernel), _, rfl, rfl⟩
theorem cvMM_204 : dx_cv tM RMM 204 yMM_leaveAll cMM_leaveAll 3 none 0 9 := ⟨Or.inl (dx_in 949 (by decide +kernel) (by decide +kernel)), cbMM_leaveAll rfl, dx_in 951 (by decide +kernel) (by decide +kernel), dx_in 59 (by decide +kernel) (by decide +kernel), _, rfl, rfl⟩
theorem cvMM_207 : dx_cv tM RMM 207 yMM_none cMM_none 2 none 0 9 := ⟨Or.inl (dx_in 849 (by decide +kernel) (by decide +kernel)), cbMM_none rfl, dx_in 851 (by decide +kernel) (by decide +kernel), dx_in 34 (by decide +kernel) (by decide +kernel), _, rfl, rfl⟩
theorem cvMM_210 : dx_cv tM RMM 210 yMM_aim cMM_aim 5 none 1 9 := ⟨Or.inl (dx_in 957 (by decide +kernel) (by decide +kernel)), cbMM_aim rfl, dx_in 959 (by decide +kernel) (by decide +kernel), dx_in 61 (by decide +kernel) (by decide +kernel), _, rfl, rfl⟩
theorem cvMM_213 : dx_cv tM RMM 213 yMM_enterAll cMM_enterAll 2 none 0 9 := ⟨Or.inl (dx_in 861 (by decide +kernel) (by decide +kernel)), cbMM_enterAll rfl, dx_in 863 (by decide +kernel) (by decide +kernel), dx_in 37 (by decide +kernel) (by decide +kernel), _, rfl, rfl⟩
theorem cvMM_216 : dx_cv tM RMM 216 yMM_select cMM_select 7 none 1 9 := ⟨Or.inl (dx_in 909 (by decide +kernel) (by decide +kernel)), cbMM_select rfl, dx_in 911 (by decide +kernel) (by decide +kernel), dx_in 49 (by decide +kernel) (by decide +kernel), _, rfl, rfl⟩
theorem cvMM_219 : dx_cv tM RMM 219 yMM_take cMM_take 3 (some .int) 0 9 := ⟨Or.inl (dx_in 921 (by decide +kernel) (by decide +kernel)), cbMM_take rfl, dx_in 923 (by decide +kernel) (by decide +kernel), dx_in 52 (by decide +kernel) (by decide +kernel), _, rfl, rfl⟩
theorem cvMM_223 : dx_cv tM RMM 223 yMM_microstep cMM_microstep 2 none 0 9 := ⟨Or.inl (dx_in 925 (by decide +kernel) (by decide +kernel)), cbMM_microstep rfl, dx_in 927 (by decide +kernel) (by decide +kernel), dx_in 53 (by decide +kernel) (by decide +kernel), _, rfl, rfl⟩
theorem cvMM_226 : dx_cv tM RMM 226 yMM_ill cMM_ill 4 (some .boolean) 0 9 := ⟨Or.inl (dx_in 841 (by decide +kernel) (by decide +kernel)), cbMM_ill rfl, dx_in 843 (by decide +kernel) (by decide +kernel), dx_in 32 (by decide +kernel) (by decide +kernel), _, rfl, rfl⟩
theorem fpMM_125 : dx_fp tM RMM 125 9 30 false := ⟨RMM, TMM, 39, tyMM, rfl, by decide, dx_in 724 (by decide +kernel) (by decide +kernel), layMM, tyMM_ok, nmMM, rfl, rfl⟩
theorem cvMM_229 : dx_cv tM RMM 229 yMM_macrostep cMM_macrostep 3 none 0 9 := ⟨Or.inl (dx_in 905 (by decide +kernel) (by decide +kernel)), cbMM_macrostep rfl, dx_in 907 (by decide +kernel) (by decide +kernel), dx_in 48 (by decide +kernel) (by decide +kernel), _, rfl, rfl⟩
theorem flAT_9 : dx_fl tX RAT 9 3 0 := ⟨RAT, TAT, 5, rfl, by decide, dx_in 173 (by decide +kernel) (by decide +kernel), layAT⟩
theorem flAT_24 : dx_fl tX RAT 24 3 4 := ⟨RAT, TAT, 5, rfl, by decide, dx_in 181 (by decide +kernel) (by decide +kernel), layAT⟩
theorem flAT_15 : dx_fl tX RAT 15 3 1 := ⟨RAT, TAT, 5, rfl, by decide, dx_in 175 (by decide +kernel) (by decide +kernel), layAT⟩
theorem flAT_18 : dx_fl tX RAT 18 3 2 := ⟨RAT, TAT, 5, rfl, by decide, dx_in 177 (by decide +kernel) (by decide +kernel), layAT⟩
theorem flAT_21 : dx_fl tX RAT 21 3 3 := ⟨RAT, TAT, 5, rfl, by decide, dx_in 179 (by decide +kernel) (by decide +kernel), layAT⟩
theorem fpAT_24 : dx_fp tX RAT 24 3 4 false := ⟨RAT, TAT, 5, tyAT, rfl, by decide, dx_in 181 (by decide +kernel) (by decide +kernel), layAT, tyAT_ok, nmAT, rfl, rfl⟩
theorem flLN_15 : dx_fl tX RLN 15 7 1 := ⟨RLN, TLN, 2, rfl, by decide, dx_in 226 (by decide +kernel) (by decide +kernel), layLN⟩
theorem flLN_9 : dx_fl tX RLN 9 7 0 := ⟨RLN, TLN, 2, rfl, by decide, dx_in 225 (by decide +kernel) (by decide +kernel), layLN⟩
theorem fpLN_15 : dx_fp tX RLN 15 7 1 false := ⟨RLN, TLN, 2, tyLN, rfl, by decide, dx_in 226 (by decide +kernel) (by decide +kernel), layLN, tyLN_ok, nmLN, rfl, rfl⟩
theorem flRU_44 : dx_fl tX RRU 44 4 12 := ⟨RRU, TRU, 14, rfl, by decide, dx_in 303 (by decide +kernel) (by decide +kernel), layRU⟩
theorem flRU_12 : dx_fl tX RRU 12 4 3 := ⟨RRU, TRU, 14, rfl, by decide, dx_in 286 (by decide +kernel) (by decide +kernel), layRU⟩
theorem cvRU_69 : dx_cv tX RRU 69 ySI_clear cSI_clear 1 none 0 5 := ⟨Or.inl (dx_in 469 (by decide +kernel) (by decide +kernel)), cbSI_clear rfl, dx_in 470 (by decide +kernel) (by decide +kernel), dx_in 471 (by decide +kernel) (by decide +kernel), _, rfl, rfl⟩
theorem flRU_23 : dx_fl tX RRU 23 4 5 := ⟨RRU, TRU, 14, rfl, by decide, dx_in 289 (by decide +kernel) (by decide +kernel), layRU⟩
theorem cvRU_72 : dx_cv tX RRU 72 yLN_clear cLN_clear 1 none 0 7 := ⟨Or.inl (dx_in 476 (by decide +kernel) (by decide +kernel)), cbLN_clear rfl, dx_in 477 (by decide +kernel) (by decide +kernel), dx_in 478 (by decide +kernel) (by decide +kernel), _, rfl, rfl⟩
theorem flRU_27 : dx_fl tX RRU 27 4 6 := ⟨RRU, TRU, 14, rfl, by decide, dx_in 291 (by decide +kernel) (by decide +kernel), layRU⟩
theorem flRU_30 : dx_fl tX RRU 30 4 7 := ⟨RRU, TRU, 14, rfl, by decide, dx_in 293 (by decide +kernel) (by decide +kernel), layRU⟩
theorem flRU_36 : dx_fl tX RRU 36 4 8 := ⟨RRU, TRU, 14, rfl, by decide, dx_in 295 (by decide +kernel) (by decide +kernel), layRU⟩
theorem fpRU_73 : dx_fp tX RRU 73 8 2 false := ⟨RSV, TSV, 3, tySV, rfl, by decide, dx_in 244 (by decide +kernel) (by decide +kernel), laySV, tySV_ok, nmSV, rfl, rfl⟩
theorem flRU_40 : dx_fl tX RRU 40 4 9 := ⟨RRU, TRU, 14, rfl, by decide, dx_in 297 (by decide +kernel) (by decide +kernel), layRU⟩
theorem csRU_76 : dx_cs tX RRU 76 yAR_fill cAR_fill 4 none 2 := ⟨Or.inl (dx_in 480 (by decide +kernel) (by decide +kernel)), cbAR_fill rfl, dx_in 474 (by decide +kernel) (by decide +kernel)⟩
theorem fpRU_82 : dx_fp tX RRU 82 4 10 false := ⟨RRU, TRU, 14, tyRU, rfl, by decide, dx_in 299 (by decide +kernel) (by decide +kernel), layRU, tyRU_ok, nmRU, rfl, rfl⟩
theorem fpRU_85 : dx_fp tX RRU 85 4 11 false := ⟨RRU, TRU, 14, tyRU, rfl, by decide, dx_in 301 (by decide +kernel) (by decide +kernel), layRU, tyRU_ok, nmRU, rfl, rfl⟩
theorem fpRU_88 : dx_fp tX RRU 88 4 13 true := ⟨RRU, TRU, 14, tyRU, rfl, by decide, dx_in 305 (by decide +kernel) (by decide +kernel), layRU, tyRU_ok, nmRU, rfl, rfl⟩
theorem fpRU_44 : dx_fp tX RRU 44 4 12 false := ⟨RRU, TRU, 14, tyRU, rfl, by decide, dx_in 303 (by decide +kernel) (by decide +kernel), layRU, tyRU_ok, nmRU, rfl, rfl⟩
theorem flRU_48 : dx_fl tX RRU 48 4 0 := ⟨RRU, TRU, 14, rfl, by decide, dx_in 283 (by decide +kernel) (by decide +kernel), layRU⟩
theorem flRU_92 : dx_fl tX RRU 92 1 2 := ⟨RST, TST, 7, rfl, by decide, dx_in 96 (by decide +kernel) (by decide +kernel), layST⟩
theorem cvRU_97 : dx_cv tX RRU 97 yST_completed cST_completed 4 (some .int) 1 1 := ⟨Or.inl (dx_in 481 (by decide +kernel) (by decide +kernel)), cbST_completed rfl, dx_in 482 (by decide +kernel) (by decide +kernel), dx_in 483 (by decide +kernel) (by decide +kernel), _, rfl, rfl⟩
theorem cvRU_101 : dx_cv tX RRU 101 yRU_enter cRU_enter 3 none 1 4 := ⟨Or.inl (dx_in 485 (by decide +kernel) (by decide +kernel)), cbRU_enter rfl, dx_in 487 (by decide +kernel) (by decide +kernel), dx_in 7 (by decide +kernel) (by decide +kernel), _, rfl, rfl⟩
theorem cvRU_104 : dx_cv tX RRU 104 yRU_finishIfEnded cRU_finishIfEnded 1 none 0 4 := ⟨Or.inl (dx_in 534 (by decide +kernel) (by decide +kernel)), cbRU_finishIfEnded rfl, dx_in 536 (by decide +kernel) (by decide +kernel), dx_in 16 (by decide +kernel) (by decide +kernel), _, rfl, rfl⟩
theorem flRU_65 : dx_fl tX RRU 65 4 4 := ⟨RRU, TRU, 14, rfl, by decide, dx_in 288 (by decide +kernel) (by decide +kernel), layRU⟩
theorem cvRU_107 : dx_cv tX RRU 107 yLN_takeFirst cLN_takeFirst 3 (some .int) 0 7 := ⟨Or.inl (dx_in 585 (by decide +kernel) (by decide +kernel)), cbLN_takeFirst rfl, dx_in 586 (by decide +kernel) (by decide +kernel), dx_in 587 (by decide +kernel) (by decide +kernel), _, rfl, rfl⟩
theorem cvRU_111 : dx_cv tX RRU 111 ySE_chooseFor cSE_chooseFor 3 (some .boolean) 1 6 := ⟨Or.inl (dx_in 546 (by decide +kernel) (by decide +kernel)), cbSE_chooseFor rfl, dx_in 547 (by decide +kernel) (by decide +kernel), dx_in 548 (by decide +kernel) (by decide +kernel), _, rfl, rfl⟩
theorem cvRU_115 : dx_cv tX RRU 115 yRU_microstep cRU_microstep 2 none 0 4 := ⟨Or.inl (dx_in 589 (by decide +kernel) (by decide +kernel)), cbRU_microstep rfl, dx_in 591 (by decide +kernel) (by decide +kernel), dx_in 24 (by decide +kernel) (by decide +kernel), _, rfl, rfl⟩
theorem cvRU_118 : dx_cv tX RRU 118 yRU_isGoingOn cRU_isGoingOn 1 (some .boolean) 0 4 := ⟨Or.inl (dx_in 494 (by decide +kernel) (by decide +kernel)), cbRU_isGoingOn rfl, dx_in 495 (by decide +kernel) (by decide +kernel), dx_in 496 (by decide +kernel) (by decide +kernel), _, rfl, rfl⟩
theorem cvRU_122 : dx_cv tX RRU 122 yRU_chooseNext cRU_chooseNext 2 (some .boolean) 0 4 := ⟨Or.inl (dx_in 542 (by decide +kernel) (by decide +kernel)), cbRU_chooseNext rfl, dx_in 544 (by decide +kernel) (by decide +kernel), dx_in 17 (by decide +kernel) (by decide +kernel), _, rfl, rfl⟩
theorem flRU_125 : dx_fl tX RRU 125 7 1 := ⟨RLN, TLN, 2, rfl, by decide, dx_in 227 (by decide +kernel) (by decide +kernel), layLN⟩
theorem flRU_85 : dx_fl tX RRU 85 4 11 := ⟨RRU, TRU, 14, rfl, by decide, dx_in 301 (by decide +kernel) (by decide +kernel), layRU⟩
theorem cvRU_126 : dx_cv tX RRU 126 ySE_allExits cSE_allExits 3 (some .int) 0 6 := ⟨Or.inl (dx_in 593 (by decide +kernel) (by decide +kernel)), cbSE_allExits rfl, dx_in 594 (by decide +kernel) (by decide +kernel), dx_in 595 (by decide +kernel) (by decide +kernel), _, rfl, rfl⟩
theorem cvRU_129 : dx_cv tX RRU 129 yRU_rememberBefore cRU_rememberBefore 4 none 1 4 := ⟨Or.inl (dx_in 597 (by decide +kernel) (by decide +kernel)), cbRU_rememberBefore rfl, dx_in 599 (by decide +kernel) (by decide +kernel), dx_in 25 (by decide +kernel) (by decide +kernel), _, rfl, rfl⟩
theorem cvRU_132 : dx_cv tX RRU 132 yRU_leave cRU_leave 3 none 1 4 := ⟨Or.inl (dx_in 606 (by decide +kernel) (by decide +kernel)), cbRU_leave rfl, dx_in 608 (by decide +kernel) (by decide +kernel), dx_in 26 (by decide +kernel) (by decide +kernel), _, rfl, rfl⟩
theorem cvRU_135 : dx_cv tX RRU 135 yRU_takeTransitions cRU_takeTransitions 2 none 0 4 := ⟨Or.inl (dx_in 610 (by decide +kernel) (by decide +kernel)), cbRU_takeTransitions rfl, dx_in 612 (by decide +kernel) (by decide +kernel), dx_in 27 (by decide +kernel) (by decide +kernel), _, rfl, rfl⟩
theorem cvRU_138 : dx_cv tX RRU 138 yRU_entrySet cRU_entrySet 4 (some .int) 0 4 := ⟨Or.inl (dx_in 614 (by decide +kernel) (by decide +kernel)), cbRU_entrySet rfl, dx_in 616 (by decide +kernel) (by decide +kernel), dx_in 28 (by decide +kernel) (by decide +kernel), _, rfl, rfl⟩
theorem flRU_88 : dx_fl tX RRU 88 4 13 := ⟨RRU, TRU, 14, rfl, by decide, dx_in 305 (by decide +kernel) (by decide +kernel), layRU⟩
theorem flRU_141 : dx_fl tX RRU 141 1 6 := ⟨RST, TST, 7, rfl, by decide, dx_in 108 (by decide +kernel) (by decide +kernel), layST⟩
theorem cvRU_142 : dx_cv tX RRU 142 yST_isHistory cST_isHistory 2 (some .boolean) 1 1 := ⟨Or.inl (dx_in 601 (by decide +kernel) (by decide +kernel)), cbST_isHistory rfl, dx_in 365 (by decide +kernel) (by decide +kernel), dx_in 366 (by decide +kernel) (by decide +kernel), _, rfl, rfl⟩
theorem flRU_145 : dx_fl tX RRU 145 1 1 := ⟨RST, TST, 7, rfl, by decide, dx_in 93 (by decide +kernel) (by decide +kernel), layST⟩
theorem csRU_148 : dx_cs tX RRU 148 yMC_isIn cMC_isIn 2 (some .boolean) 2 := ⟨Or.inr ⟨RMC, by simp [tX]⟩, cbMC_isIn rfl, dx_in 373 (by decide +kernel) (by decide +kernel)⟩
theorem flRU_152 : dx_fl tX RRU 152 1 0 := ⟨RST, TST, 7, rfl, by decide, dx_in 90 (by decide +kernel) (by decide +kernel), layST⟩
theorem flRU_155 : dx_fl tX RRU 155 5 1 := ⟨RSI, TSI, 2, rfl, by decide, dx_in 212 (by decide +kernel) (by decide +kernel), laySI⟩
theorem flRU_158 : dx_fl tX RRU 158 1 3 := ⟨RST, TST, 7, rfl, by decide, dx_in 98 (by decide +kernel) (by decide +kernel), layST⟩
theorem flRU_161 : dx_fl tX RRU 161 1 5 := ⟨RST, TST, 7, rfl, by decide, dx_in 104 (by decide +kernel) (by decide +kernel), layST⟩
theorem cvRU_164 : dx_cv tX RRU 164 yST_atomicAmong cST_atomicAmong 4 (some .int) 1 1 := ⟨Or.inl (dx_in 602 (by decide +kernel) (by decide +kernel)), cbST_atomicAmong rfl, dx_in 603 (by decide +kernel) (by decide +kernel), dx_in 604 (by decide +kernel) (by decide +kernel), _, rfl, rfl⟩
theorem cvRU_167 : dx_cv tX RRU 167 yRU_putRecord cRU_putRecord 2 none 1 4 := ⟨Or.inl (dx_in 490 (by decide +kernel) (by decide +kernel)), cbRU_putRecord rfl, dx_in 492 (by decide +kernel) (by decide +kernel), dx_in 8 (by decide +kernel) (by decide +kernel), _, rfl, rfl⟩
theorem cvRU_170 : dx_cv tX RRU 170 yRU_doActions cRU_doActions 3 none 1 4 := ⟨Or.inl (dx_in 506 (by decide +kernel) (by decide +kernel)), cbRU_doActions rfl, dx_in 508 (by decide +kernel) (by decide +kernel), dx_in 10 (by decide +kernel) (by decide +kernel), _, rfl, rfl⟩
theorem fpRU_155 : dx_fp tX RRU 155 5 1 false := ⟨RSI, TSI, 2, tySI, rfl, by decide, dx_in 212 (by decide +kernel) (by decide +kernel), laySI, tySI_ok, nmSI, rfl, rfl⟩
theorem flRU_173 : dx_fl tX RRU 173 6 6 := ⟨RSE, TSE, 7, rfl, by decide, dx_in 267 (by decide +kernel) (by decide +kernel), laySE⟩
theorem flRU_176 : dx_fl tX RRU 176 6 4 := ⟨RSE, TSE, 7, rfl, by decide, dx_in 264 (by decide +kernel) (by decide +kernel), laySE⟩
theorem flRU_52 : dx_fl tX RRU 52 4 1 := ⟨RRU, TRU, 14, rfl, by decide, dx_in 284 (by decide +kernel) (by decide +kernel), layRU⟩
theorem flRU_179 : dx_fl tX RRU 179 2 2 := ⟨RTT, TTT, 8, rfl, by decide, dx_in 137 (by decide +kernel) (by decide +kernel), layTT⟩
theorem cvRU_184 : dx_cv tX RRU 184 yRU_meantBy cRU_meantBy 3 (some .int) 1 4 := ⟨Or.inl (dx_in 618 (by decide +kernel) (by decide +kernel)), cbRU_meantBy rfl, dx_in 620 (by decide +kernel) (by decide +kernel), dx_in 29 (by decide +kernel) (by decide +kernel), _, rfl, rfl⟩
theorem flRU_187 : dx_fl tX RRU 187 2 3 := ⟨RTT, TTT, 8, rfl, by decide, dx_in 140 (by decide +kernel) (by decide +kernel), layTT⟩
theorem cvRU_190 : dx_cv tX RRU 190 yRU_withPath cRU_withPath 5 (some .int) 2 4 := ⟨Or.inl (dx_in 622 (by decide +kernel) (by decide +kernel)), cbRU_withPath rfl, dx_in 624 (by decide +kernel) (by decide +kernel), dx_in 30 (by decide +kernel) (by decide +kernel), _, rfl, rfl⟩
theorem flRU_194 : dx_fl tX RRU 194 1 4 := ⟨RST, TST, 7, rfl, by decide, dx_in 101 (by decide +kernel) (by decide +kernel), layST⟩
theorem cvRU_197 : dx_cv tX RRU 197 yRU_announceFinal cRU_announceFinal 4 none 1 4 := ⟨Or.inl (dx_in 518 (by decide +kernel) (by decide +kernel)), cbRU_announceFinal rfl, dx_in 520 (by decide +kernel) (by decide +kernel), dx_in 12 (by decide +kernel) (by decide +kernel), _, rfl, rfl⟩
theorem cvRU_200 : dx_cv tX RRU 200 yRU_putInternal cRU_putInternal 2 none 1 4 := ⟨Or.inl (dx_in 522 (by decide +kernel) (by decide +kernel)), cbRU_putInternal rfl, dx_in 524 (by decide +kernel) (by decide +kernel), dx_in 13 (by decide +kernel) (by decide +kernel), _, rfl, rfl⟩
theorem cvRU_203 : dx_cv tX RRU 203 yRU_allChildrenDone cRU_allChildrenDone 3 (some .boolean) 1 4 := ⟨Or.inl (dx_in 526 (by decide +kernel) (by decide +kernel)), cbRU_allChildrenDone rfl, dx_in 528 (by decide +kernel) (by decide +kernel), dx_in 14 (by decide +kernel) (by decide +kernel), _, rfl, rfl⟩
theorem cvRU_206 : dx_cv tX RRU 206 yRU_hasActiveFinalChild cRU_hasActiveFinalChild 4 (some .boolean) 1 4 := ⟨Or.inl (dx_in 530 (by decide +kernel) (by decide +kernel)), cbRU_hasActiveFinalChild rfl, dx_in 532 (by decide +kernel) (by decide +kernel), dx_in 15 (by decide +kernel) (by decide +kernel), _, rfl, rfl⟩
theorem flRU_56 : dx_fl tX RRU 56 4 2 := ⟨RRU, TRU, 14, rfl, by decide, dx_in 285 (by decide +kernel) (by decide +kernel), layRU⟩
theorem flRU_209 : dx_fl tX RRU 209 3 4 := ⟨RAT, TAT, 5, rfl, by decide, dx_in 183 (by decide +kernel) (by decide +kernel), layAT⟩
theorem flRU_212 : dx_fl tX RRU 212 3 0 := ⟨RAT, TAT, 5, rfl, by decide, dx_in 174 (by decide +kernel) (by decide +kernel), layAT⟩
theorem flRU_215 : dx_fl tX RRU 215 3 1 := ⟨RAT, TAT, 5, rfl, by decide, dx_in 176 (by decide +kernel) (by decide +kernel), layAT⟩
theorem flRU_218 : dx_fl tX RRU 218 3 2 := ⟨RAT, TAT, 5, rfl, by decide, dx_in 178 (by decide +kernel) (by decide +kernel), layAT⟩
theorem flRU_221 : dx_fl tX RRU 221 3 3 := ⟨RAT, TAT, 5, rfl, by decide, dx_in 180 (by decide +kernel) (by decide +kernel), layAT⟩
theorem cvRU_224 : dx_cv tX RRU 224 yRU_doAction cRU_doAction 4 none 3 4 := ⟨Or.inl (dx_in 510 (by decide +kernel) (by decide +kernel)), cbRU_doAction rfl, dx_in 512 (by decide +kernel) (by decide +kernel), dx_in 11 (by decide +kernel) (by decide +kernel), _, rfl, rfl⟩
theorem flRU_228 : dx_fl tX RRU 228 5 0 := ⟨RSI, TSI, 2, rfl, by decide, dx_in 209 (by decide +kernel) (by decide +kernel), laySI⟩
theorem cvRU_231 : dx_cv tX RRU 231 yLN_put cLN_put 2 (some .boolean) 1 7 := ⟨Or.inl (dx_in 498 (by decide +kernel) (by decide +kernel)), cbLN_put rfl, dx_in 499 (by decide +kernel) (by decide +kernel), dx_in 500 (by decide +kernel) (by decide +kernel), _, rfl, rfl⟩
theorem cvRU_234 : dx_cv tX RRU 234 yRU_failUnless cRU_failUnless 2 none 1 4 := ⟨Or.inl (dx_in 502 (by decide +kernel) (by decide +kernel)), cbRU_failUnless rfl, dx_in 504 (by decide +kernel) (by decide +kernel), dx_in 9 (by decide +kernel) (by decide +kernel), _, rfl, rfl⟩
theorem flRU_82 : dx_fl tX RRU 82 4 10 := ⟨RRU, TRU, 14, rfl, by decide, dx_in 299 (by decide +kernel) (by decide +kernel), layRU⟩
theorem cvRU_238 : dx_cv tX RRU 238 ySV_put cSV_put 3 (some .boolean) 2 8 := ⟨Or.inl (dx_in 514 (by decide +kernel) (by decide +kernel)), cbSV_put rfl, dx_in 515 (by decide +kernel) (by decide +kernel), dx_in 516 (by decide +kernel) (by decide +kernel), _, rfl, rfl⟩
theorem flRU_73 : dx_fl tX RRU 73 8 2 := ⟨RSV, TSV, 3, rfl, by decide, dx_in 244 (by decide +kernel) (by decide +kernel), laySV⟩
theorem cvRU_240 : dx_cv tX RRU 240 ySV_placeOfEarliest cSV_placeOfEarliest 4 (some .int) 1 8 := ⟨Or.inl (dx_in 648 (by decide +kernel) (by decide +kernel)), cbSV_placeOfEarliest rfl, dx_in 649 (by decide +kernel) (by decide +kernel), dx_in 650 (by decide +kernel) (by decide +kernel), _, rfl, rfl⟩
theorem flRU_243 : dx_fl tX RRU 243 8 0 := ⟨RSV, TSV, 3, rfl, by decide, dx_in 241 (by decide +kernel) (by decide +kernel), laySV⟩
theorem cvRU_246 : dx_cv tX RRU 246 ySV_drop cSV_drop 3 none 1 8 := ⟨Or.inl (dx_in 652 (by decide +kernel) (by decide +kernel)), cbSV_drop rfl, dx_in 653 (by decide +kernel) (by decide +kernel), dx_in 654 (by decide +kernel) (by decide +kernel), _, rfl, rfl⟩
theorem fpSE_30 : dx_fp tX RSE 30 6 5 false := ⟨RSE, TSE, 7, tySE, rfl, by decide, dx_in 265 (by decide +kernel) (by decide +kernel), laySE, tySE_ok, nmSE, rfl, rfl⟩
theorem fpSE_34 : dx_fp tX RSE 34 6 6 false := ⟨RSE, TSE, 7, tySE, rfl, by decide, dx_in 266 (by decide +kernel) (by decide +kernel), laySE, tySE_ok, nmSE, rfl, rfl⟩
theorem flSE_18 : dx_fl tX RSE 18 6 0 := ⟨RSE, TSE, 7, rfl, by decide, dx_in 259 (by decide +kernel) (by decide +kernel), laySE⟩
theorem flSE_37 : dx_fl tX RSE 37 1 6 := ⟨RST, TST, 7, rfl, by decide, dx_in 106 (by decide +kernel) (by decide +kernel), layST⟩
theorem flSE_26 : dx_fl tX RSE 26 6 2 := ⟨RSE, TSE, 7, rfl, by decide, dx_in 261 (by decide +kernel) (by decide +kernel), laySE⟩
theorem flSE_42 : dx_fl tX RSE 42 5 1 := ⟨RSI, TSI, 2, rfl, by decide, dx_in 211 (by decide +kernel) (by decide +kernel), laySI⟩
theorem csSE_47 : dx_cs tX RSE 47 yMC_isIn cMC_isIn 2 (some .boolean) 2 := ⟨Or.inr ⟨RMC, by simp [tX]⟩, cbMC_isIn rfl, dx_in 373 (by decide +kernel) (by decide +kernel)⟩
theorem cvSE_51 : dx_cv tX RSE 51 yST_isAtomic cST_isAtomic 2 (some .boolean) 1 1 := ⟨Or.inl (dx_in 551 (by decide +kernel) (by decide +kernel)), cbST_isAtomic rfl, dx_in 462 (by decide +kernel) (by decide +kernel), dx_in 463 (by decide +kernel) (by decide +kernel), _, rfl, rfl⟩
theorem cvSE_55 : dx_cv tX RSE 55 ySE_nearestEnabled cSE_nearestEnabled 6 (some .int) 2 6 := ⟨Or.inl (dx_in 552 (by decide +kernel) (by decide +kernel)), cbSE_nearestEnabled rfl, dx_in 554 (by decide +kernel) (by decide +kernel), dx_in 18 (by decide +kernel) (by decide +kernel), _, rfl, rfl⟩
theorem cvSE_59 : dx_cv tX RSE 59 ySE_select cSE_select 3 none 1 6 := ⟨Or.inl (dx_in 565 (by decide +kernel) (by decide +kernel)), cbSE_select rfl, dx_in 567 (by decide +kernel) (by decide +kernel), dx_in 20 (by decide +kernel) (by decide +kernel), _, rfl, rfl⟩
theorem flSE_30 : dx_fl tX RSE 30 6 5 := ⟨RSE, TSE, 7, rfl, by decide, dx_in 265 (by decide +kernel) (by decide +kernel), laySE⟩
theorem flSE_9 : dx_fl tX RSE 9 6 3 := ⟨RSE, TSE, 7, rfl, by decide, dx_in 262 (by decide +kernel) (by decide +kernel), laySE⟩
theorem cvSE_63 : dx_cv tX RSE 63 ySE_keepIfAllowed cSE_keepIfAllowed 4 none 1 6 := ⟨Or.inl (dx_in 569 (by decide +kernel) (by decide +kernel)), cbSE_keepIfAllowed rfl, dx_in 571 (by decide +kernel) (by decide +kernel), dx_in 21 (by decide +kernel) (by decide +kernel), _, rfl, rfl⟩
theorem flSE_34 : dx_fl tX RSE 34 6 6 := ⟨RSE, TSE, 7, rfl, by decide, dx_in 266 (by decide +kernel) (by decide +kernel), laySE⟩
theorem flSE_66 : dx_fl tX RSE 66 1 4 := ⟨RST, TST, 7, rfl, by decide, dx_in 100 (by decide +kernel) (by decide +kernel), layST⟩
theorem cvSE_69 : dx_cv tX RSE 69 ySE_leastEnabled cSE_leastEnabled 4 (some .int) 2 6 := ⟨Or.inl (dx_in 556 (by decide +kernel) (by decide +kernel)), cbSE_leastEnabled rfl, dx_in 558 (by decide +kernel) (by decide +kernel), dx_in 19 (by decide +kernel) (by decide +kernel), _, rfl, rfl⟩
theorem flSE_22 : dx_fl tX RSE 22 6 1 := ⟨RSE, TSE, 7, rfl, by decide, dx_in 260 (by decide +kernel) (by decide +kernel), laySE⟩
theorem flSE_72 : dx_fl tX RSE 72 2 7 := ⟨RTT, TTT, 8, rfl, by decide, dx_in 149 (by decide +kernel) (by decide +kernel), layTT⟩
theorem flSE_75 : dx_fl tX RSE 75 2 0 := ⟨RTT, TTT, 8, rfl, by decide, dx_in 132 (by decide +kernel) (by decide +kernel), layTT⟩
theorem flSE_78 : dx_fl tX RSE 78 2 1 := ⟨RTT, TTT, 8, rfl, by decide, dx_in 134 (by decide +kernel) (by decide +kernel), layTT⟩
theorem cvSE_81 : dx_cv tX RSE 81 ySI_satisfies cSI_satisfies 4 (some .boolean) 2 5 := ⟨Or.inl (dx_in 560 (by decide +kernel) (by decide +kernel)), cbSI_satisfies rfl, dx_in 561 (by decide +kernel) (by decide +kernel), dx_in 562 (by decide +kernel) (by decide +kernel), _, rfl, rfl⟩
theorem flSE_15 : dx_fl tX RSE 15 6 4 := ⟨RSE, TSE, 7, rfl, by decide, dx_in 263 (by decide +kernel) (by decide +kernel), laySE⟩
theorem cvSE_85 : dx_cv tX RSE 85 ySE_conflict cSE_conflict 3 (some .boolean) 2 6 := ⟨Or.inl (dx_in 573 (by decide +kernel) (by decide +kernel)), cbSE_conflict rfl, dx_in 575 (by decide +kernel) (by decide +kernel), dx_in 22 (by decide +kernel) (by decide +kernel), _, rfl, rfl⟩
theorem cvSE_88 : dx_cv tX RSE 88 ySE_outranks cSE_outranks 3 (some .boolean) 2 6 := ⟨Or.inl (dx_in 581 (by decide +kernel) (by decide +kernel)), cbSE_outranks rfl, dx_in 583 (by decide +kernel) (by decide +kernel), dx_in 23 (by decide +kernel) (by decide +kernel), _, rfl, rfl⟩
theorem cvSE_91 : dx_cv tX RSE 91 ySE_exitSet cSE_exitSet 2 (some .int) 1 6 := ⟨Or.inl (dx_in 577 (by decide +kernel) (by decide +kernel)), cbSE_exitSet rfl, dx_in 578 (by decide +kernel) (by decide +kernel), dx_in 579 (by decide +kernel) (by decide +kernel), _, rfl, rfl⟩
theorem flSE_95 : dx_fl tX RSE 95 2 2 := ⟨RTT, TTT, 8, rfl, by decide, dx_in 136 (by decide +kernel) (by decide +kernel), layTT⟩
theorem flSE_98 : dx_fl tX RSE 98 1 5 := ⟨RST, TST, 7, rfl, by decide, dx_in 103 (by decide +kernel) (by decide +kernel), layST⟩
theorem flSE_101 : dx_fl tX RSE 101 2 3 := ⟨RTT, TTT, 8, rfl, by decide, dx_in 139 (by decide +kernel) (by decide +kernel), layTT⟩
theorem flSV_18 : dx_fl tX RSV 18 8 2 := ⟨RSV, TSV, 3, rfl, by decide, dx_in 243 (by decide +kernel) (by decide +kernel), laySV⟩
theorem flSV_9 : dx_fl tX RSV 9 8 0 := ⟨RSV, TSV, 3, rfl, by decide, dx_in 240 (by decide +kernel) (by decide +kernel), laySV⟩
theorem flSV_15 : dx_fl tX RSV 15 8 1 := ⟨RSV, TSV, 3, rfl, by decide, dx_in 242 (by decide +kernel) (by decide +kernel), laySV⟩
theorem fpSV_18 : dx_fp tX RSV 18 8 2 false := ⟨RSV, TSV, 3, tySV, rfl, by decide, dx_in 243 (by decide +kernel) (by decide +kernel), laySV, tySV_ok, nmSV, rfl, rfl⟩
theorem flSI_9 : dx_fl tX RSI 9 5 0 := ⟨RSI, TSI, 2, rfl, by decide, dx_in 207 (by decide +kernel) (by decide +kernel), laySI⟩
theorem csSI_15 : dx_cs tX RSI 15 yAR_fill cAR_fill 4 none 2 := ⟨Or.inl (dx_in 473 (by decide +kernel) (by decide +kernel)), cbAR_fill rfl, dx_in 474 (by decide +kernel) (by decide +kernel)⟩
theorem fpSI_21 : dx_fp tX RSI 21 5 1 false := ⟨RSI, TSI, 2, tySI, rfl, by decide, dx_in 210 (by decide +kernel) (by decide +kernel), laySI, tySI_ok, nmSI, rfl, rfl⟩
theorem flSI_25 : dx_fl tX RSI 25 2 6 := ⟨RTT, TTT, 8, rfl, by decide, dx_in 146 (by decide +kernel) (by decide +kernel), layTT⟩
theorem flSI_30 : dx_fl tX RSI 30 2 4 := ⟨RTT, TTT, 8, rfl, by decide, dx_in 142 (by decide +kernel) (by decide +kernel), layTT⟩
theorem flSI_33 : dx_fl tX RSI 33 2 5 := ⟨RTT, TTT, 8, rfl, by decide, dx_in 144 (by decide +kernel) (by decide +kernel), layTT⟩
theorem flSI_21 : dx_fl tX RSI 21 5 1 := ⟨RSI, TSI, 2, rfl, by decide, dx_in 210 (by decide +kernel) (by decide +kernel), laySI⟩
theorem csSI_36 : dx_cs tX RSI 36 yMC_isIn cMC_isIn 2 (some .boolean) 2 := ⟨Or.inr ⟨RMC, by simp [tX]⟩, cbMC_isIn rfl, dx_in 373 (by decide +kernel) (by decide +kernel)⟩
theorem flST_30 : dx_fl tX RST 30 1 6 := ⟨RST, TST, 7, rfl, by decide, dx_in 105 (by decide +kernel) (by decide +kernel), layST⟩
theorem flST_9 : dx_fl tX RST 9 1 0 := ⟨RST, TST, 7, rfl, by decide, dx_in 88 (by decide +kernel) (by decide +kernel), layST⟩
theorem cvST_34 : dx_cv tX RST 34 yST_isMade cST_isMade 2 (some .boolean) 1 1 := ⟨Or.inl (dx_in 383 (by decide +kernel) (by decide +kernel)), cbST_isMade rfl, dx_in 384 (by decide +kernel) (by decide +kernel), dx_in 385 (by decide +kernel) (by decide +kernel), _, rfl, rfl⟩
theorem cvST_38 : dx_cv tX RST 38 yST_isHistory cST_isHistory 2 (some .boolean) 1 1 := ⟨Or.inl (dx_in 364 (by decide +kernel) (by decide +kernel)), cbST_isHistory rfl, dx_in 365 (by decide +kernel) (by decide +kernel), dx_in 366 (by decide +kernel) (by decide +kernel), _, rfl, rfl⟩
theorem flST_21 : dx_fl tX RST 21 1 3 := ⟨RST, TST, 7, rfl, by decide, dx_in 97 (by decide +kernel) (by decide +kernel), layST⟩
theorem fpST_30 : dx_fp tX RST 30 1 6 false := ⟨RST, TST, 7, tyST, rfl, by decide, dx_in 105 (by decide +kernel) (by decide +kernel), layST, tyST_ok, nmST, rfl, rfl⟩
theorem flST_15 : dx_fl tX RST 15 1 1 := ⟨RST, TST, 7, rfl, by decide, dx_in 91 (by decide +kernel) (by decide +kernel), layST⟩
theorem flST_24 : dx_fl tX RST 24 1 4 := ⟨RST, TST, 7, rfl, by decide, dx_in 99 (by decide +kernel) (by decide +kernel), layST⟩
theorem cvST_41 : dx_cv tX RST 41 yST_addChild cST_addChild 4 none 2 1 := ⟨Or.inl (dx_in 368 (by decide +kernel) (by decide +kernel)), cbST_addChild rfl, dx_in 370 (by decide +kernel) (by decide +kernel), dx_in 1 (by decide +kernel) (by decide +kernel), _, rfl, rfl⟩
theorem flST_18 : dx_fl tX RST 18 1 2 := ⟨RST, TST, 7, rfl, by decide, dx_in 94 (by decide +kernel) (by decide +kernel), layST⟩
theorem csST_45 : dx_cs tX RST 45 yMC_isIn cMC_isIn 2 (some .boolean) 2 := ⟨Or.inr ⟨RMC, by simp [tX]⟩, cbMC_isIn rfl, dx_in 373 (by decide +kernel) (by decide +kernel)⟩
theorem flST_27 : dx_fl tX RST 27 1 5 := ⟨RST, TST, 7, rfl, by decide, dx_in 102 (by decide +kernel) (by decide +kernel), layST⟩
theorem cvST_49 : dx_cv tX RST 49 yST_isCompound cST_isCompound 2 (some .boolean) 1 1 := ⟨Or.inl (dx_in 411 (by decide +kernel) (by decide +kernel)), cbST_isCompound rfl, dx_in 412 (by decide +kernel) (by decide +kernel), dx_in 413 (by decide +kernel) (by decide +kernel), _, rfl, rfl⟩
theorem cvST_52 : dx_cv tX RST 52 yST_isAtomic cST_isAtomic 2 (some .boolean) 1 1 := ⟨Or.inl (dx_in 461 (by decide +kernel) (by decide +kernel)), cbST_isAtomic rfl, dx_in 462 (by decide +kernel) (by decide +kernel), dx_in 463 (by decide +kernel) (by decide +kernel), _, rfl, rfl⟩
theorem flTT_33 : dx_fl tX RTT 33 2 7 := ⟨RTT, TTT, 8, rfl, by decide, dx_in 147 (by decide +kernel) (by decide +kernel), layTT⟩
theorem flTT_9 : dx_fl tX RTT 9 2 0 := ⟨RTT, TTT, 8, rfl, by decide, dx_in 131 (by decide +kernel) (by decide +kernel), layTT⟩
theorem flTT_15 : dx_fl tX RTT 15 2 1 := ⟨RTT, TTT, 8, rfl, by decide, dx_in 133 (by decide +kernel) (by decide +kernel), layTT⟩
theorem flTT_18 : dx_fl tX RTT 18 2 2 := ⟨RTT, TTT, 8, rfl, by decide, dx_in 135 (by decide +kernel) (by decide +kernel), layTT⟩
theorem flTT_21 : dx_fl tX RTT 21 2 3 := ⟨RTT, TTT, 8, rfl, by decide, dx_in 138 (by decide +kernel) (by decide +kernel), layTT⟩
theorem flTT_24 : dx_fl tX RTT 24 2 4 := ⟨RTT, TTT, 8, rfl, by decide, dx_in 141 (by decide +kernel) (by decide +kernel), layTT⟩
theorem fpTT_33 : dx_fp tX RTT 33 2 7 false := ⟨RTT, TTT, 8, tyTT, rfl, by decide, dx_in 147 (by decide +kernel) (by decide +kernel), layTT, tyTT_ok, nmTT, rfl, rfl⟩
theorem flTT_27 : dx_fl tX RTT 27 2 5 := ⟨RTT, TTT, 8, rfl, by decide, dx_in 143 (by decide +kernel) (by decide +kernel), layTT⟩
theorem flTT_30 : dx_fl tX RTT 30 2 6 := ⟨RTT, TTT, 8, rfl, by decide, dx_in 145 (by decide +kernel) (by decide +kernel), layTT⟩

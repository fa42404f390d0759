/-! The law from its entry. -/
theorem k_inMC : Cond.instantiable RMC 4 ∈ dx_wA := (dx_in 75 (by decide +kernel) (by decide +kernel))
theorem k_inST : Cond.instantiable RST 7 ∈ dx_wA := (dx_in 83 (by decide +kernel) (by decide +kernel))
theorem k_inTT : Cond.instantiable RTT 8 ∈ dx_wA := (dx_in 126 (by decide +kernel) (by decide +kernel))
theorem k_inAT : Cond.instantiable RAT 5 ∈ dx_wA := (dx_in 168 (by decide +kernel) (by decide +kernel))
theorem k_inRU : Cond.instantiable RRU 14 ∈ dx_wA := (dx_in 196 (by decide +kernel) (by decide +kernel))
theorem k_inSI : Cond.instantiable RSI 2 ∈ dx_wA := (dx_in 202 (by decide +kernel) (by decide +kernel))
theorem k_inSE : Cond.instantiable RSE 7 ∈ dx_wA := (dx_in 254 (by decide +kernel) (by decide +kernel))
theorem k_inLN : Cond.instantiable RLN 2 ∈ dx_wA := (dx_in 220 (by decide +kernel) (by decide +kernel))
theorem k_inSV : Cond.instantiable RSV 3 ∈ dx_wA := (dx_in 235 (by decide +kernel) (by decide +kernel))
theorem k_inMM : Cond.instantiable RMM 39 ∈ dx_wA := (dx_in 689 (by decide +kernel) (by decide +kernel))
theorem k_cl7 : Cond.classLink R_law 7 RMC ∈ dx_wA := (dx_in 74 (by decide +kernel) (by decide +kernel))
theorem k_cl10 : Cond.classLink R_law 10 RMM ∈ dx_wA := (dx_in 688 (by decide +kernel) (by decide +kernel))
theorem k_lk9 : Cond.methodLink R_law 9 yMC_init ∈ dx_wA := (dx_in 76 (by decide +kernel) (by decide +kernel))
theorem k_im9 : Cond.instanceMethod yMC_init ∈ dx_wA := (dx_in 77 (by decide +kernel) (by decide +kernel))
theorem k_co9 : Cond.code yMC_init cMC_init 1 none ∈ dx_wA := (dx_in 78 (by decide +kernel) (by decide +kernel))
theorem k_lk12 : Cond.methodLink R_law 12 yMM_init ∈ dx_wA := (dx_in 690 (by decide +kernel) (by decide +kernel))
theorem k_im12 : Cond.instanceMethod yMM_init ∈ dx_wA := (dx_in 691 (by decide +kernel) (by decide +kernel))
theorem k_co12 : Cond.code yMM_init cMM_init 1 none ∈ dx_wA := (dx_in 692 (by decide +kernel) (by decide +kernel))
theorem k_nest {b : Nat} {s : State} (h : ∀ w ∈ lw_tbl, w.before #[Value.ref b] s = true) : kx_N s := by
  intro q hq
  unfold kx_nl at hq
  simp only [List.mem_cons, List.not_mem_nil, or_false] at hq
  rcases hq with rfl | rfl | rfl | rfl
  · exact va_Nw.of rfl (h _ (List.mem_of_getElem? (i := 127) (by decide +kernel : lw_tbl[127]? = some (Cond.methodLinkNest RMC 18 yTT_init RMC))))
  · exact va_Nw.of rfl (h _ (List.mem_of_getElem? (i := 169) (by decide +kernel : lw_tbl[169]? = some (Cond.methodLinkNest RMC 25 yAT_init RMC))))
  · exact va_Nw.of rfl (h _ (List.mem_of_getElem? (i := 203) (by decide +kernel : lw_tbl[203]? = some (Cond.methodLinkNest RRU 11 ySI_init RMC))))
  · exact va_Nw.of rfl (h _ (List.mem_of_getElem? (i := 236) (by decide +kernel : lw_tbl[236]? = some (Cond.methodLinkNest RRU 35 ySV_init RMC))))
theorem k_nestX {b : Nat} {s : State} (h : ∀ w ∈ lw_tbl, w.before #[Value.ref b] s = true) : dx_N tX s := by
  intro q hq
  have hq : q ∈ [(RST, 45, yMC_isIn, RMC), (RRU, 148, yMC_isIn, RMC), (RSE, 47, yMC_isIn, RMC), (RSI, 36, yMC_isIn, RMC)] := hq
  simp only [List.mem_cons, List.not_mem_nil, or_false] at hq
  rcases hq with rfl | rfl | rfl | rfl
  · exact va_Nw.of rfl (h _ (List.mem_of_getElem? (i := 372) (by decide +kernel : lw_tbl[372]? = some (Cond.methodLinkNest RST 45 yMC_isIn RMC))))
  · exact va_Nw.of rfl (h _ (List.mem_of_getElem? (i := 489) (by decide +kernel : lw_tbl[489]? = some (Cond.methodLinkNest RRU 148 yMC_isIn RMC))))
  · exact va_Nw.of rfl (h _ (List.mem_of_getElem? (i := 550) (by decide +kernel : lw_tbl[550]? = some (Cond.methodLinkNest RSE 47 yMC_isIn RMC))))
  · exact va_Nw.of rfl (h _ (List.mem_of_getElem? (i := 564) (by decide +kernel : lw_tbl[564]? = some (Cond.methodLinkNest RSI 36 yMC_isIn RMC))))
theorem k_cls (k : Nat) (q : vw_C) (h : dx_cl[k]? = some q) : (∀ w ∈ u_ws q.1 q.2.1 q.2.2, w ∈ dx_wA) ∧ Cond.instantiable q.1 q.2.2 ∈ dx_wA := by
  have hk : k < 10 := (List.getElem?_eq_some_iff.mp h).1
  rcases (show k = 0 ∨ k = 1 ∨ k = 2 ∨ k = 3 ∨ k = 4 ∨ k = 5 ∨ k = 6 ∨ k = 7 ∨ k = 8 ∨ k = 9 by omega) with rfl | rfl | rfl | rfl | rfl | rfl | rfl | rfl | rfl | rfl
  · cases h; exact ⟨layMC, k_inMC⟩
  · cases h; exact ⟨layST, k_inST⟩
  · cases h; exact ⟨layTT, k_inTT⟩
  · cases h; exact ⟨layAT, k_inAT⟩
  · cases h; exact ⟨layRU, k_inRU⟩
  · cases h; exact ⟨laySI, k_inSI⟩
  · cases h; exact ⟨laySE, k_inSE⟩
  · cases h; exact ⟨layLN, k_inLN⟩
  · cases h; exact ⟨laySV, k_inSV⟩
  · cases h; exact ⟨layMM, k_inMM⟩
theorem lx_D {t : dx_T} {E : dx_E} {σ : dx_V} {A : Nat → Prop} (h : va_D A (dx_w t E σ)) : va_D (dx_A t E) (dx_w t E σ) ∧ ∀ q : Nat, dx_A t E q → A q := by
  refine ⟨⟨h.1, fun k q hq => ?_⟩, fun q hq => ?_⟩
  · unfold dx_w at hq
    rw [List.getElem?_mapIdx] at hq
    cases hc : t.2.2.2[k]? with
    | none => rw [hc] at hq; cases hq
    | some c =>
      rw [hc] at hq
      cases hq
      exact ⟨k, (List.getElem?_eq_some_iff.mp hc).1, rfl⟩
  · obtain ⟨k, hk, rfl⟩ := hq
    exact h.2 k _ (dx_wat (List.getElem?_eq_getElem hk))
theorem lx_make {J : kx_E} {p : Program} {e : Env} {s : State} {m : MethodId} {below : List Frame} {meth : Method} {c : Code} {b L : Nat} {xs : Nat → Int32} {C : String} {T : u_T} {N ci ix ix2 pc cells slots fz mz sz : Nat} {ty : Nat → FieldType} {fs : List Value} {z : MethodName} {ccz : ByteArray} {pz : Nat → va_W → Prop} {H : Heap} {ls : Array Slot} (C0 : lw_At p s m meth c b L xs) (hK : kx_K J s) (hl : ls.size = 4)
    (dn : decode code pc = .ok (.new ix, 3)) (dd : decode code (pc + 3) = .ok (.dup, 1)) (di : decode code (pc + 3 + 1) = .ok (.invokespecial ix2, 3))
    (hlay : ∀ w ∈ u_ws C T N, w ∈ dx_wA) (hty : ∀ k, k < N → parseFieldDescriptor (T k).2.2.1 = some (ty k)) (hcl : Cond.classLink R_law ix C ∈ dx_wA) (hi : Cond.instantiable C N ∈ dx_wA) (hini : Cond.initialized C ∈ dx_wA) (hc : dx_cl[ci]? = some (C, T, N)) (hfs : ∀ j, j < N → defaultValue (ty j) = vp_V fs j)
    (hlk : Cond.methodLink R_law ix2 z ∈ dx_wA) (hin : Cond.instanceMethod z ∈ dx_wA) (hcode : Cond.code z ccz 1 none ∈ dx_wA) (hz : z.name = "<init>") (hzc : z.cls = C) (hd : z.cls ≠ "java/lang/invoke/MethodHandle" ∧ z.cls ≠ "java/lang/invoke/VarHandle" ∧ (parseMethodDescriptor z.desc).map (fun d => d.parameters.length) = some 0)
    (hfz : fz ≤ 8) (h1 : cells + 1 + mz ≤ 600000) (h2 : slots + N + sz ≤ 7302250) (hM : ∀ q : Nat, kx_M J fz mz sz z ccz 1 q [] (.inr (ci, fs)) (pz q))
    (kk : ∀ (q : Nat) (w : va_W) (H1 : Heap) (locs1 : List Loc), pz q w → va_P J.2.1 dx_cl w H1 → va_D (fun x => H.size ≤ x) w → va_S (fun x => H.size ≤ x) H H1 locs1 → W p J.1 e room_1 s m #[Value.ref b] below meth c H1 locs1 (cells + 1 + mz) (slots + N + sz) (lw_Z below #[Value.ref b] s) (F0 m (pc + 7) ls [.ref q])) :
    W p J.1 e room_1 s m #[Value.ref b] below meth c H [] cells slots (lw_Z below #[Value.ref b] s) (F0 m pc ls []) := by
  have hts := lx_ts C0
  have hP0 : va_P J.2.1 dx_cl [] H := fun k q h => by cases h
  have hD0 : va_D (fun x => H.size ≤ x) [] := ⟨fun i j p q h => (by cases h), fun k q h => (by cases h)⟩
  refine va_new (A := fun x => H.size ≤ x) (H0 := H) C0.1 C0.2.1 hts hlay ty hty C0.2.2.2.2.1 (hts _ hcl) (hts _ hi) (hts _ hini) hK.1 hP0 hD0 va_S.rf (fun q h => h) hc hfs (show cells + 1 ≤ 600000 by omega) (show slots + N ≤ 7302250 by omega) dn (fun q H1 hP1 hD1 hS1 => ?_)
  have hP1 : va_P J.2.1 dx_cl [(q, .inr (ci, fs))] H1 := hP1
  have hD1 : va_D (fun x => H.size ≤ x) [(q, .inr (ci, fs))] := hD1
  refine lv_dup C0.1 C0.2.1 dd rfl ?_
  have hFc := va_free (wc := [(q, .inr (ci, fs))]) hD1 hS1 (fun q h => h) [0] rfl
  have hG := kx_good hcode
  have hRm : (kx_R fz mz sz).frames + 1 ≤ room_1.frames ∧ 8 + (1 + 11) + (kx_R fz mz sz).locals ≤ room_1.locals := ⟨by show fz + 1 ≤ 11; omega, by show 8 + (1 + 11) + 28 * fz ≤ 402; omega⟩
  have hpre : PreS s H1 (kx_Pc J q [] (.inr (ci, fs)) H1.size) [.ref q] := ⟨kx_blind, fun U hU hW => ⟨rfl, by rw [hU], by rw [hU]; exact hP1, kx_Kmoved hW hK, hD1.weaken (fun _ _ _ _ => trivial)⟩⟩
  refine va_callv (va_runI (As := []) (rest := [.ref q]) ⟨C0.1, C0.2.1, C0.2.2.2.1, C0.2.2.2.2.1, hts⟩ (hM q H1.size) (cwI 0 hts hG rfl rfl rfl (hts _ (by rw [hzc]; exact hini)) (hts _ hlk) (hts _ hin) hz hd hRm) hpre rfl rfl hl rfl (lv_room (Nat.le_of_ble_eq_true rfl)) di ⟨h1, h2⟩) hS1 (fun x _ hx => hFc x hx) hFc (fun w t H2 locs1 ht hvm hp hB hz1 hk1 hS2 => ?_)
  obtain ⟨hP2, hK2, hD2⟩ := hB
  rw [ht] at hP2
  exact kk q w H2 locs1 hp hP2 (hD2.weaken (fun _ q _ h => hFc q.1 h)) hS2
set_option maxRecDepth 20000 in
theorem whole_start {p : Program} {e : Env} {s : State} {m : MethodId} {below : List Frame} {meth : Method} {c : Code} (l : Launch) {b L : Nat} {xs : Nat → Int32} (hL : L ≤ 2560) (C0 : lw_At p s m meth c b L xs) : W p l e room_1 s m #[Value.ref b] below meth c s.heap [] 0 0 (lw_Z below #[Value.ref b] s) (entryFrame m ([Value.ref b] : List Value).toArray 4) := by
  have hts := lx_ts C0
  have hkn : ∀ k : Nat, ∃ z : ClassId × (Nat → Nat), ∀ q : vw_C, dx_cl[k]? = some q → u_Kn s q.1 q.2.1 q.2.2 z.1 z.2 := by
    intro k
    cases h : dx_cl[k]? with
    | none => exact ⟨(m.cls, fun _ => 0), fun q hq => by cases hq⟩
    | some q0 =>
      obtain ⟨h1, h2⟩ := k_cls k q0 h
      obtain ⟨cC, iS, hk⟩ := u_known hts h1 (hts _ h2)
      exact ⟨(cC, iS), fun q hq => by cases hq; exact hk⟩
  obtain ⟨F, hF⟩ := Classical.axiomOfChoice hkn
  obtain ⟨cI, kI, compI, f1, f2, f3⟩ := Cond.arrayClass_spec (hts _ k_ai)
  obtain ⟨cZ, kZ, compZ, g1, g2, g3⟩ := Cond.arrayClass_spec (hts _ k_az)
  obtain ⟨J, hJ⟩ : ∃ J : kx_E, J = (l, (fun k => (F k).1, fun k => (F k).2), cI, cZ) := ⟨_, rfl⟩
  have hJ1 : J.1 = l := by rw [hJ]
  have hK : kx_K J s := by
    refine ⟨⟨fun k q hq => ?_, fun k q hk => ?_⟩, k_nest C0.2.2.2.2.2.1⟩
    · rw [hJ]; exact hF k q hq
    · rw [hJ] at hk
      have h2 : k < 2 := (List.getElem?_eq_some_iff.mp hk).1
      rcases (show k = 0 ∨ k = 1 by omega) with rfl | rfl
      · cases hk
        exact ⟨fun n z => ⟨fun k h => (by cases h), kI, f2, compI, f3⟩, f1⟩
      · cases hk
        exact ⟨fun n z => ⟨fun k h => (by cases h), kZ, g2, compZ, g3⟩, g1⟩
  clear hJ
  subst hJ1
  have hl := lv_entry ([.ref b]) (n := 4) (Nat.le_of_ble_eq_true rfl)
  rw [lg_entry_eq]
  generalize (lg_sl ([.ref b]) ++ List.replicate (4 - (lg_sl ([.ref b])).length) Slot.unset).toArray = ls at hl ⊢
  have hl : lv_has ls 4 [(0, .ref b)] := hl
  refine lx_make (C := RMC) (T := TMC) (N := 4) (ci := 0) (ty := tyMC) (fs := [.null, .null, .null, .null]) (z := yMC_init) (ccz := cMC_init) (fz := 3) (mz := 36) (sz := 732) C0 hK hl.1 dLW_0 dLW_3 dLW_4 layMC tyMC_ok k_cl7 k_inMC iniMC rfl (fun j hj => by rcases (show j = 0 ∨ j = 1 ∨ j = 2 ∨ j = 3 by omega) with rfl | rfl | rfl | rfl <;> rfl) k_lk9 k_im9 k_co9 rfl rfl ⟨by decide +kernel, by decide +kernel, by decide +kernel⟩ (by decide) (by decide) (by decide) (fun q => k_MC) (fun qX wX H1 locs1 hp1 hP1 hD1 hS1 => ?_)
  obtain ⟨aX, eX, oP, oD⟩ := o_X hp1
  have hPX := oP H1 hP1
  obtain ⟨hDX, hAX⟩ := lx_D (oD _ hD1)
  clear hp1 hP1 hD1 oP oD
  refine lv_astore_n C0.1 C0.2.1 dLW_7 rfl hl (by decide) rfl (fun ls1 hl1 => ?_)
  have hl1 : lv_has ls1 4 [(0, .ref b), (1, .ref qX)] := lv_sub hl1 [1, 0] rfl
  refine va_forget (fun q hq => hS1.2.2 q hq) ?_
  refine lx_make (C := RMM) (T := TMM) (N := 39) (ci := 9) (ty := tyMM) (fs := [.int 0, .null, .null, .null, .int 0, .null, .null, .null, .null, .null, .null, .null, .int 0, .null, .null, .null, .null, .int 0, .int 0, .int 0, .null, .null, .null, .int 0, .null, .int 0, .null, .int 0, .null, .null, .int 0, .int 0, .null, .int 0, .null, .int 0, .null, .null, .null]) (z := yMM_init) (ccz := cMM_init) (fz := 1) (mz := 26) (sz := 680) C0 hK hl1.1 dLW_8 dLW_11 dLW_12 layMM tyMM_ok k_cl10 k_inMM iniMM rfl (fun j hj => by rcases (show j = 0 ∨ j = 1 ∨ j = 2 ∨ j = 3 ∨ j = 4 ∨ j = 5 ∨ j = 6 ∨ j = 7 ∨ j = 8 ∨ j = 9 ∨ j = 10 ∨ j = 11 ∨ j = 12 ∨ j = 13 ∨ j = 14 ∨ j = 15 ∨ j = 16 ∨ j = 17 ∨ j = 18 ∨ j = 19 ∨ j = 20 ∨ j = 21 ∨ j = 22 ∨ j = 23 ∨ j = 24 ∨ j = 25 ∨ j = 26 ∨ j = 27 ∨ j = 28 ∨ j = 29 ∨ j = 30 ∨ j = 31 ∨ j = 32 ∨ j = 33 ∨ j = 34 ∨ j = 35 ∨ j = 36 ∨ j = 37 ∨ j = 38 by omega) with rfl | rfl | rfl | rfl | rfl | rfl | rfl | rfl | rfl | rfl | rfl | rfl | rfl | rfl | rfl | rfl | rfl | rfl | rfl | rfl | rfl | rfl | rfl | rfl | rfl | rfl | rfl | rfl | rfl | rfl | rfl | rfl | rfl | rfl | rfl | rfl | rfl | rfl | rfl <;> rfl) k_lk12 k_im12 k_co12 rfl rfl ⟨by decide +kernel, by decide +kernel, by decide +kernel⟩ (by decide) (by decide) (by decide) (fun q => k_MM) (fun qM wM H2 locs2 hp2 hP2 hD2 hS2 => ?_)
  obtain ⟨aM, eM, oP, oD⟩ := o_M hp2
  have hPM := oP H2 hP2
  obtain ⟨hDM, hAM⟩ := lx_D (oD _ hD2)
  clear hp2 hP2 hD2 oP oD
  refine lv_astore_n C0.1 C0.2.1 dLW_15 rfl hl1 (by decide) rfl (fun ls2 hl2 => ?_)
  have hl2 : lv_has ls2 4 [(0, .ref b), (1, .ref qX), (2, .ref qM)] := lv_sub hl2 [1, 2, 0] rfl
  refine lv_iconst (v := 0) C0.1 C0.2.1 dLW_16 (by decide) ?_
  refine lv_istore_n C0.1 C0.2.1 dLW_17 rfl hl2 (by decide) rfl (fun ls3 hl3 => ?_)
  have hl3 : lv_has ls3 4 [(0, .ref b), (1, .ref (aX 0)), (2, .ref (aM 0)), (3, .int (nI 0))] := by
    rw [eX, eM]
    exact lv_sub hl3 [1, 2, 3, 0] rfl
  have hlt : ∀ q : Nat, dx_A tX (J.1, J.2.1, aX, J.2.2) q → q < H1.size := by
    rintro q ⟨k, hk, rfl⟩
    exact (hPX k _ (dx_wat (List.getElem?_eq_getElem hk))).lt
  have X : lx_X J aX aM p s m meth c b L xs := ⟨C0, hK.1, k_nestX C0.2.2.2.2.2.1, fun q hq => ⟨hAX q hq, fun z => by
    have h1 := hlt q hq
    have h2 : H1.size ≤ q := hAM q z
    omega⟩, fun q hq => by
    have h2 : H1.size ≤ q := hAM q hq
    have h3 := hS1.1
    omega⟩
  have hPX2 : va_P J.2.1 dx_cl (dx_w tX (J.1, J.2.1, aX, J.2.2) sX) H2 := hPX.kept (fun k q hq => hS2.2.1 q.1 (hPX k q hq).lt (fun z => by
    have h1 := (hPX k q hq).lt
    have h2 : H1.size ≤ q.1 := z
    omega))
  have hS3 : va_S (fun q => s.heap.size ≤ q) s.heap H2 locs2 := ⟨Nat.le_trans hS1.1 hS2.1, fun q h1 h2 => by
    have h3 := hS1.1
    rw [hS2.2.1 q (by omega) (by omega)]
    exact hS1.2.1 q h1 h2, fun q hq => by
    have h1 : H1.size ≤ q.base := hS2.2.2 q hq
    have h3 := hS1.1
    show s.heap.size ≤ q.base
    omega⟩
  exact lx_loop X hL (L + 5) 0 c0 r0 sX sM (by omega) (by omega) xx0 mm0 H2 locs2 ls3 hl3 hPX2 hDX hPM hDM hS3
set_option maxHeartbeats 4000000 in
theorem lw_walk (l : Launch) (b : Addr) (xs : List Int32) : MetFree l x (headSpec (Jvm.Cond.code x code maxLocals ret :: tables_1) room_1) (lw_P b xs) (fun _ _ _ _ _ => True) lw_Q := by
  refine MetFree.of_bodyS (code := code) (maxLocals := maxLocals) (ret := ret) (by decide) ?_ ?_
  · intro args s m h hn
    obtain ⟨meth, c, h1, h2, h3, h4, h5, h6, -, -⟩ := Cond.code_spec hn (atoms_spec (ws := Jvm.Cond.code x code maxLocals ret :: tables_1) h _ List.mem_cons_self)
    exact ⟨meth, c, h1, h2, h3, h4, h5, h6⟩
  · intro p e s m args below meth c s₁ B hml0 hP _
    obtain ⟨rfl, hx, hbd, hgv⟩ := hP
    obtain ⟨scr, harrAt, hlist, hof, hsmall⟩ := hx
    obtain ⟨hcb, hkn, -, -⟩ := State.arrayAt?_spec harrAt
    have hown : s.vm.findClass R_law = some m.cls := findClass_of_methodNamed B.named
    have hts0 : ∀ c ∈ (Jvm.Cond.code x code maxLocals ret :: tables_1), c.before #[Value.ref b] s = true := atoms_spec (ws := Jvm.Cond.code x code maxLocals ret :: tables_1) B.pre
    have hts : ∀ w ∈ lw_tbl, w.before #[Value.ref b] s = true := k2_hts_sels lw_privs (fun w hw => hts0 w (List.mem_cons_of_mem _ hw)) lw_privs_ok
    have hml : c.maxLocals = 4 := B.maxLocals_eq (hts0 _ List.mem_cons_self)
    have X₀ : Stand p l e room_1 s m #[Value.ref b] below meth c s₁ [] 0 0 := Stand.of_body B
    have hh0 : s₁.heap = s.heap := by rw [B.state]; rfl
    have hsz : scr.slots.size = xs.length := by rw [← Array.length_toList, hlist, List.length_map]
    have hval : ∀ j : Nat, j < xs.length → scr.slots[j]? = some (.int (xs.getD j 0)) := fun j hj => by
      rw [← Array.getElem?_toList, hlist]
      simp [hj]
    have hbl : b < s.heap.size := (Array.getElem?_eq_some_iff.mp hcb).1
    have hX : va_X b xs.length (fun j => xs.getD j 0) s s.heap := ⟨scr, hcb, hof, hkn, hsz, hval⟩
    have K : W p l e room_1 s m #[Value.ref b] below meth c s₁.heap [] 0 0 (lw_Z below #[Value.ref b] s) (entryFrame m ([Value.ref b] : List Value).toArray 4) := by
      rw [hh0]
      exact whole_start l hbd ⟨B.exec, B.bytes, B.returns, hml, hown, hts, hX, hbl, B.notSynchronized, hgv⟩
    obtain ⟨t, a1, o, b1, b2, b3⟩ := K s₁ rfl X₀
    exact ⟨t, o, a1, b1, b2, b3⟩
theorem lw_pre_spec {args : Array Value} {s : State} (h : (Jvm.Cond.and given_1 narrow_1).before args s = true) (hr : rest_1_c.before args s = true) : ∃ (b : Addr) (xs : List Int32), lw_P b xs args s := by
  have hs := flat_of_before _ h
  have hq := flat_of_before _ hr
  have hc : (Cond.count 1).before args s = true := hs _ (by decide +kernel)
  have harr : (Cond.arrayOf (.arg 0) .int).before args s = true := hs _ (by decide +kernel)
  have hle : (Cond.le (.length (.arg 0)) (.int 2560)).before args s = true := hs _ (by decide +kernel)
  have hlen : (Cond.isInt (.length (.arg 0))).before args s = true := hq _ (by decide +kernel)
  have hall : (Cond.all (.arg 0) (.isInt (.elem (.arg 0) (.index 0)))).before args s = true := hq _ (by decide +kernel)
  obtain ⟨b, xs, hb, hx⟩ := State.ints_of_pre rfl harr hlen hall
  have hsm : xs.length < 2 ^ 31 := hx.choose_spec.2.2.2
  have hev : (Term.length (.arg 0)).eval args s none [] s = some (.int xs.length.toInt32) := hx.length_eval hb
  have hv := Cond.le_ints hev (show (Term.int 2560).eval args s none [] s = some (.int 2560) from rfl)
  have hd : xs.length.toInt32 ≤ 2560 := by
    simpa [Cond.before, Cond.holds, hv] using hle
  have hN : xs.length ≤ 2560 := (Int32.ofNat_le_ofNat hsm (by decide)).mp (show Int32.ofNat xs.length ≤ Int32.ofNat 2560 from hd)
  exact ⟨b, xs, Cond.one_arg hc (show args[0]? = some (.ref b) from hb), hx, hN, h⟩
theorem lw_comes (l : Launch) : Comes l x (Jvm.Cond.code x code maxLocals ret :: tables_1) room_1 (fun tb e args s => Calls_1 tb e args s ∧ rest_1 tb e args s ∧ Pre_1 tb e args s)
    (fun _ _ args s o t => lw_Q args s o t) := by
  intro p e ha hc hk s m args below hf hfit hheap happ hpre
  obtain ⟨b, xs, hP⟩ := lw_pre_spec hpre.2.2 hpre.2.1
  obtain ⟨k, o, h1, h2, h3, hQ⟩ := lw_walk l b xs p e ha hc hk s m args below hf ((Spec.applies_iff_loose hf).mp happ).1 hP trivial
  exact ⟨k, o, h1, h2, h3, hQ⟩
theorem lw_frame {s t : State} {o : Outcome} {args : Array Value} (h : Framed s o t [] 600000 7302250) :
    Framed s o t (fieldLocs frame_1_writes args s ++ arrayLocs frame_1_arrays args s ++ staticLocs frame_1_statics s) 600000 7302250 := h
theorem lw_limb (L : Cond) (hL : ∀ (args : Array Value) (s t : State), L.after args s (.returned (some (.int 1))) t = true) :
    ArmFor flags0 classFile x code maxLocals ret World_1 tables_1 room_1 Calls_1 rest_1 Pre_1
      (fun tb e a s o t => postC L tb e a s o t ∧ Framed s o t (fieldLocs frame_1_writes a s ++ arrayLocs frame_1_arrays a s ++ staticLocs frame_1_statics s) 600000 7302250) := by
  intro l _ _ _ p e ha hc hk s m args below hf hfit hheap happ hpre
  obtain ⟨k, o, h1, h2, h3, rfl, hF⟩ := lw_comes l p e ha hc hk s m args below hf hfit hheap happ hpre
  exact ⟨k, _, h1, h2, h3, hL args s _, lw_frame hF⟩
theorem i_vc : Claimed_1_1 ∧ Claimed_1_2 := ⟨lw_limb limb_1_1 (fun args s t => by simp [limb_1_1, Cond.after, Cond.holds, Cond.value]), lw_limb limb_1_2 (fun args s t => Cond.after_iff.mpr (by
  first | (rw [show limb_1_2 = Cond.eq .result (.int 1) from rfl, Cond.eq_ints (x := 1) (y := 1) rfl rfl]; simp; done) | (simp [limb_1_2, Cond.value, Term.eval]; done)))⟩

noncomputable def sp_9 (zX : XS) (zR : RS) (zRG : GS) (zRS : SS) (zG : GS) (zS : SS) (zP : PS) (zQ : QS) (zN : NS) (zI : IS) (zJ : QS) (zT : TS) (zM : MS) (a1 : Int32) : Option ZZ := (f_X6_year zX zG zS zP zQ a1).bind fun q_7 => nm q_7.1 fun r_1 => nm q_7.2.1 fun zX_2 => nm q_7.2.2.1 fun zS_3 => nm q_7.2.2.2.1 fun zP_4 => nm q_7.2.2.2.2 fun zQ_5 => (f_X7_year zM a1).bind fun q_11 => nm q_11.1 fun r_8 => nm q_11.2 fun zM_9 => if r_1 = r_8 then (some (zX_2, zR, zRG, zRS, zG, zS_3, zP_4, zQ_5, zN, zI, zJ, zT, zM_9)) else (none)
set_option maxHeartbeats 8000000 in
set_option maxRecDepth 200000 in
theorem lc_9 {p : Program} {l : Launch} {e : Env} {s : State} {m : MethodId} {below : List Frame} {meth : Method} {c : Code} {Q : State → Prop} {b L k : Nat} {xs : Nat → Int32} {D : va_G} {ci : Nat → ClassId} (hx : p.tables.exec = Jvm.exec) (hb : c.code = cL_law) (hml : c.maxLocals = 4) (hown : s.vm.findClass RL = some m.cls) (hts : ∀ w ∈ wsL_law, w.before #[Value.ref b] s = true) (hX : va_X b L xs s s.heap) (hbl : b < s.heap.size) (hL320 : L ≤ 320) (hk5 : k + 5 ≤ L) (hK : va_K D vwCl (tyL ci) s) (aX_0 : Nat) (aR_0 : Nat) (aG_0 : Nat) (aS_0 : Nat) (aP_0 : Nat) (aN_0 : Nat) (aI_0 : Nat) (aT_0 : Nat) (aR_1 : Nat) (aRG_0 : Nat) (aRS_0 : Nat) (aRG_1 : Nat) (aRG_2 : Nat) (aRG_3 : Nat) (aRG_4 : Nat) (aRS_1 : Nat) (aG_1 : Nat) (aG_2 : Nat) (aG_3 : Nat) (aG_4 : Nat) (aS_1 : Nat) (aP_1 : Nat) (aQ : Nat → Nat) (aN_1 : Nat) (aN_2 : Nat) (aN_3 : Nat) (aN_4 : Nat) (aI_1 : Nat) (aI_2 : Nat) (aJ : Nat → Nat) (aM : Nat → Nat) (zX : XS) (zR : RS) (zRG : GS) (zRS : SS) (zG : GS) (zS : SS) (zP : PS) (zQ : QS) (zN : NS) (zI : IS) (zJ : QS) (zT : TS) (zM : MS) (a1 : Int32) (ha1 : xs (k + 1) = a1) (res : ZZ) (hF : sp_9 zX zR zRG zRS zG zS zP zQ zN zI zJ zT zM a1 = some res) (H : Heap) (locs : List Loc) (ls : Array Slot) (hP : va_P D vwCl (fl [(wcX aX_0 aR_0 aG_0 aS_0 aP_0 aN_0 aI_0 aT_0 zX), (wcR ci aR_0 aR_1 aRG_0 aRS_0 zR), (wcG ci aRG_0 aRG_1 aRG_2 aRG_3 aRG_4 zRG), (wcS ci aRS_0 aRS_1 zRS), (wcG ci aG_0 aG_1 aG_2 aG_3 aG_4 zG), (wcS ci aS_0 aS_1 zS), (wcP ci aP_0 aP_1 aQ zP), (wcQ ci aQ zQ), (wcN ci aN_0 aN_1 aN_2 aN_3 aN_4 zN), (wcI ci aI_0 aI_1 aI_2 aJ zI), (wcJ ci aJ zJ), (wcT ci aT_0 zT), (wcM ci aM zM)]) H) (hD : va_D (fun q : Nat => s.heap.size ≤ q) (fl [(wcX aX_0 aR_0 aG_0 aS_0 aP_0 aN_0 aI_0 aT_0 zX), (wcR ci aR_0 aR_1 aRG_0 aRS_0 zR), (wcG ci aRG_0 aRG_1 aRG_2 aRG_3 aRG_4 zRG), (wcS ci aRS_0 aRS_1 zRS), (wcG ci aG_0 aG_1 aG_2 aG_3 aG_4 zG), (wcS ci aS_0 aS_1 zS), (wcP ci aP_0 aP_1 aQ zP), (wcQ ci aQ zQ), (wcN ci aN_0 aN_1 aN_2 aN_3 aN_4 zN), (wcI ci aI_0 aI_1 aI_2 aJ zI), (wcJ ci aJ zJ), (wcT ci aT_0 zT), (wcM ci aM zM)])) (hS : va_S (fun q : Nat => s.heap.size ≤ q) s.heap H locs) (hl : lv_has ls 4 [(3, .int (nI k)), (2, .ref (aM 0)), (1, .ref aX_0), (0, .ref b)]) (kont : ∀ (H : Heap) (locs : List Loc) (ls : Array Slot), va_P D vwCl (fl [(wcX aX_0 aR_0 aG_0 aS_0 aP_0 aN_0 aI_0 aT_0 res.1), (wcR ci aR_0 aR_1 aRG_0 aRS_0 res.2.1), (wcG ci aRG_0 aRG_1 aRG_2 aRG_3 aRG_4 res.2.2.1), (wcS ci aRS_0 aRS_1 res.2.2.2.1), (wcG ci aG_0 aG_1 aG_2 aG_3 aG_4 res.2.2.2.2.1), (wcS ci aS_0 aS_1 res.2.2.2.2.2.1), (wcP ci aP_0 aP_1 aQ res.2.2.2.2.2.2.1), (wcQ ci aQ res.2.2.2.2.2.2.2.1), (wcN ci aN_0 aN_1 aN_2 aN_3 aN_4 res.2.2.2.2.2.2.2.2.1), (wcI ci aI_0 aI_1 aI_2 aJ res.2.2.2.2.2.2.2.2.2.1), (wcJ ci aJ res.2.2.2.2.2.2.2.2.2.2.1), (wcT ci aT_0 res.2.2.2.2.2.2.2.2.2.2.2.1), (wcM ci aM res.2.2.2.2.2.2.2.2.2.2.2.2)]) H → va_D (fun q : Nat => s.heap.size ≤ q) (fl [(wcX aX_0 aR_0 aG_0 aS_0 aP_0 aN_0 aI_0 aT_0 res.1), (wcR ci aR_0 aR_1 aRG_0 aRS_0 res.2.1), (wcG ci aRG_0 aRG_1 aRG_2 aRG_3 aRG_4 res.2.2.1), (wcS ci aRS_0 aRS_1 res.2.2.2.1), (wcG ci aG_0 aG_1 aG_2 aG_3 aG_4 res.2.2.2.2.1), (wcS ci aS_0 aS_1 res.2.2.2.2.2.1), (wcP ci aP_0 aP_1 aQ res.2.2.2.2.2.2.1), (wcQ ci aQ res.2.2.2.2.2.2.2.1), (wcN ci aN_0 aN_1 aN_2 aN_3 aN_4 res.2.2.2.2.2.2.2.2.1), (wcI ci aI_0 aI_1 aI_2 aJ res.2.2.2.2.2.2.2.2.2.1), (wcJ ci aJ res.2.2.2.2.2.2.2.2.2.2.1), (wcT ci aT_0 res.2.2.2.2.2.2.2.2.2.2.2.1), (wcM ci aM res.2.2.2.2.2.2.2.2.2.2.2.2)]) → va_S (fun q : Nat => s.heap.size ≤ q) s.heap H locs → lv_has ls 4 [(3, .int (nI k)), (2, .ref (aM 0)), (1, .ref aX_0), (0, .ref b)] → W p l e room_1 s m #[Value.ref b] below meth c H locs 96 5513 Q (F0 m 853 ls [])) : W p l e room_1 s m #[Value.ref b] below meth c H locs 96 5513 Q (F0 m 399 ls []) := by
  obtain ⟨A, hAe⟩ : ∃ A : Nat → Prop, A = (fun q : Nat => s.heap.size ≤ q) := ⟨_, rfl⟩
  rw [← hAe] at hD hS kont
  have hA : ∀ q : Nat, s.heap.size ≤ q → A q := fun q h => by rw [hAe]; exact h
  have hbA : ¬ A b := by rw [hAe]; exact Nat.not_le.mpr hbl
  clear hAe
  unfold sp_9 at hF
  refine lv_aload_n hx hb dL_law_399 rfl (lv_at hl 2 rfl) ?_
  refine lv_aload_n hx hb dL_law_400 rfl (lv_at hl 3 rfl) ?_
  refine lv_iload_n hx hb dL_law_401 rfl (lv_at hl 0 rfl) ?_
  refine lv_iconst (v := 1) hx hb dL_law_402 (by decide) ?_
  refine lv_iadd hx hb dL_law_403 ?_
  refine va_sld hx hb hX hbl hbA hS (sc_in 1 k L hk5 hL320 (by omega)) dL_law_404 ?_
  refine W.eq (g2 := F0 m 405 ls [.int a1, .ref aX_0]) (by rw [sc_at1 k L xs hk5 hL320, ha1]) ?_
  replace hF := bnd hF
  obtain ⟨q_7, hc_6, hF⟩ := hF
  obtain ⟨r_1, er_1⟩ : ∃ y : Int32, y = q_7.1 := ⟨_, rfl⟩
  replace hF := nm_i hF er_1
  obtain ⟨zX_2, ezX_2⟩ : ∃ y : XS, y = q_7.2.1 := ⟨_, rfl⟩
  replace hF := nm_i hF ezX_2
  obtain ⟨zS_3, ezS_3⟩ : ∃ y : SS, y = q_7.2.2.1 := ⟨_, rfl⟩
  replace hF := nm_i hF ezS_3
  obtain ⟨zP_4, ezP_4⟩ : ∃ y : PS, y = q_7.2.2.2.1 := ⟨_, rfl⟩
  replace hF := nm_i hF ezP_4
  obtain ⟨zQ_5, ezQ_5⟩ : ∃ y : QS, y = q_7.2.2.2.2 := ⟨_, rfl⟩
  replace hF := nm_i hF ezQ_5
  obtain rfl : q_7 = (r_1, zX_2, zS_3, zP_4, zQ_5) := by rw [er_1, ezX_2, ezS_3, ezP_4, ezQ_5]
  clear er_1
  clear ezX_2
  clear ezS_3
  clear ezP_4
  clear ezQ_5
  refine cl_Ci (As := [.int a1]) (rest := []) (csC := [(wcX aX_0 aR_0 aG_0 aS_0 aP_0 aN_0 aI_0 aT_0 zX), (wcG ci aG_0 aG_1 aG_2 aG_3 aG_4 zG), (wcS ci aS_0 aS_1 zS), (wcP ci aP_0 aP_1 aQ zP), (wcQ ci aQ zQ)]) (csR := [(wcR ci aR_0 aR_1 aRG_0 aRS_0 zR), (wcG ci aRG_0 aRG_1 aRG_2 aRG_3 aRG_4 zRG), (wcS ci aRS_0 aRS_1 zRS), (wcN ci aN_0 aN_1 aN_2 aN_3 aN_4 zN), (wcI ci aI_0 aI_1 aI_2 aJ zI), (wcJ ci aJ zJ), (wcT ci aT_0 zT), (wcM ci aM zM)]) (csC1 := [(wcX aX_0 aR_0 aG_0 aS_0 aP_0 aN_0 aI_0 aT_0 zX_2), (wcG ci aG_0 aG_1 aG_2 aG_3 aG_4 zG), (wcS ci aS_0 aS_1 zS_3), (wcP ci aP_0 aP_1 aQ zP_4), (wcQ ci aQ zQ_5)]) (csN := [(wcX aX_0 aR_0 aG_0 aS_0 aP_0 aN_0 aI_0 aT_0 zX_2), (wcR ci aR_0 aR_1 aRG_0 aRS_0 zR), (wcG ci aRG_0 aRG_1 aRG_2 aRG_3 aRG_4 zRG), (wcS ci aRS_0 aRS_1 zRS), (wcG ci aG_0 aG_1 aG_2 aG_3 aG_4 zG), (wcS ci aS_0 aS_1 zS_3), (wcP ci aP_0 aP_1 aQ zP_4), (wcQ ci aQ zQ_5), (wcN ci aN_0 aN_1 aN_2 aN_3 aN_4 zN), (wcI ci aI_0 aI_1 aI_2 aJ zI), (wcJ ci aJ zJ), (wcT ci aT_0 zT), (wcM ci aM zM)]) ⟨hx, hb, hml, hown, hts⟩ (cwV 1 hts gL_law_X6_year rfl rfl rfl (by decide +kernel) ⟨Nat.le_of_ble_eq_true rfl, Nat.le_of_ble_eq_true rfl⟩) (c_X6_year l D ci aX_0 aR_0 aG_0 aS_0 aP_0 aN_0 aI_0 aT_0 aG_1 aG_2 aG_3 aG_4 aS_1 aP_1 aQ H.size zX zG zS zP zQ a1 _ hc_6) hK hP hD hS hA [1, 2, 3, 8, 9, 10, 11, 12, 0, 4, 5, 6, 7] [8, 0, 1, 2, 9, 10, 11, 12, 3, 4, 5, 6, 7] rfl rfl (by decide) (by decide) (by simp only [fl, List.append_nil]) (by simp only [fl, List.append_nil]) 0 rfl rfl rfl rfl hl.1 (Nat.le_of_ble_eq_true rfl) dL_law_405 (Nat.le_of_ble_eq_true rfl) (Nat.le_of_ble_eq_true rfl) (fun H locs hP hD hS => ?_)
  have hP : va_P D vwCl (fl [(wcX aX_0 aR_0 aG_0 aS_0 aP_0 aN_0 aI_0 aT_0 zX_2), (wcR ci aR_0 aR_1 aRG_0 aRS_0 zR), (wcG ci aRG_0 aRG_1 aRG_2 aRG_3 aRG_4 zRG), (wcS ci aRS_0 aRS_1 zRS), (wcG ci aG_0 aG_1 aG_2 aG_3 aG_4 zG), (wcS ci aS_0 aS_1 zS_3), (wcP ci aP_0 aP_1 aQ zP_4), (wcQ ci aQ zQ_5), (wcN ci aN_0 aN_1 aN_2 aN_3 aN_4 zN), (wcI ci aI_0 aI_1 aI_2 aJ zI), (wcJ ci aJ zJ), (wcT ci aT_0 zT), (wcM ci aM zM)]) H := hP
  have hD : va_D A (fl [(wcX aX_0 aR_0 aG_0 aS_0 aP_0 aN_0 aI_0 aT_0 zX_2), (wcR ci aR_0 aR_1 aRG_0 aRS_0 zR), (wcG ci aRG_0 aRG_1 aRG_2 aRG_3 aRG_4 zRG), (wcS ci aRS_0 aRS_1 zRS), (wcG ci aG_0 aG_1 aG_2 aG_3 aG_4 zG), (wcS ci aS_0 aS_1 zS_3), (wcP ci aP_0 aP_1 aQ zP_4), (wcQ ci aQ zQ_5), (wcN ci aN_0 aN_1 aN_2 aN_3 aN_4 zN), (wcI ci aI_0 aI_1 aI_2 aJ zI), (wcJ ci aJ zJ), (wcT ci aT_0 zT), (wcM ci aM zM)]) := hD
  refine lv_aload_n hx hb dL_law_408 rfl (lv_at hl 1 rfl) ?_
  refine lv_aload_n hx hb dL_law_409 rfl (lv_at hl 3 rfl) ?_
  refine lv_iload_n hx hb dL_law_410 rfl (lv_at hl 0 rfl) ?_
  refine lv_iconst (v := 1) hx hb dL_law_411 (by decide) ?_
  refine lv_iadd hx hb dL_law_412 ?_
  refine va_sld hx hb hX hbl hbA hS (sc_in 1 k L hk5 hL320 (by omega)) dL_law_413 ?_
  refine W.eq (g2 := F0 m 414 ls [.int a1, .ref (aM 0), .int r_1]) (by rw [sc_at1 k L xs hk5 hL320, ha1]) ?_
  replace hF := bnd hF
  obtain ⟨q_11, hc_10, hF⟩ := hF
  obtain ⟨r_8, er_8⟩ : ∃ y : Int32, y = q_11.1 := ⟨_, rfl⟩
  replace hF := nm_i hF er_8
  obtain ⟨zM_9, ezM_9⟩ : ∃ y : MS, y = q_11.2 := ⟨_, rfl⟩
  replace hF := nm_i hF ezM_9
  obtain rfl : q_11 = (r_8, zM_9) := by rw [er_8, ezM_9]
  clear er_8
  clear ezM_9
  refine cl_Ci (As := [.int a1]) (rest := [.int r_1]) (csC := [(wcM ci aM zM)]) (csR := [(wcX aX_0 aR_0 aG_0 aS_0 aP_0 aN_0 aI_0 aT_0 zX_2), (wcR ci aR_0 aR_1 aRG_0 aRS_0 zR), (wcG ci aRG_0 aRG_1 aRG_2 aRG_3 aRG_4 zRG), (wcS ci aRS_0 aRS_1 zRS), (wcG ci aG_0 aG_1 aG_2 aG_3 aG_4 zG), (wcS ci aS_0 aS_1 zS_3), (wcP ci aP_0 aP_1 aQ zP_4), (wcQ ci aQ zQ_5), (wcN ci aN_0 aN_1 aN_2 aN_3 aN_4 zN), (wcI ci aI_0 aI_1 aI_2 aJ zI), (wcJ ci aJ zJ), (wcT ci aT_0 zT)]) (csC1 := [(wcM ci aM zM_9)]) (csN := [(wcX aX_0 aR_0 aG_0 aS_0 aP_0 aN_0 aI_0 aT_0 zX_2), (wcR ci aR_0 aR_1 aRG_0 aRS_0 zR), (wcG ci aRG_0 aRG_1 aRG_2 aRG_3 aRG_4 zRG), (wcS ci aRS_0 aRS_1 zRS), (wcG ci aG_0 aG_1 aG_2 aG_3 aG_4 zG), (wcS ci aS_0 aS_1 zS_3), (wcP ci aP_0 aP_1 aQ zP_4), (wcQ ci aQ zQ_5), (wcN ci aN_0 aN_1 aN_2 aN_3 aN_4 zN), (wcI ci aI_0 aI_1 aI_2 aJ zI), (wcJ ci aJ zJ), (wcT ci aT_0 zT), (wcM ci aM zM_9)]) ⟨hx, hb, hml, hown, hts⟩ (cwV 1 hts gL_law_X7_year rfl rfl rfl (by decide +kernel) ⟨Nat.le_of_ble_eq_true rfl, Nat.le_of_ble_eq_true rfl⟩) (c_X7_year l D ci aM H.size zM a1 _ hc_10) hK hP hD hS hA [0, 1, 2, 3, 4, 5, 6, 7, 8, 9, 10, 11, 12] [0, 1, 2, 3, 4, 5, 6, 7, 8, 9, 10, 11, 12] rfl rfl (by decide) (by decide) (by simp only [fl, List.append_nil]) (by simp only [fl, List.append_nil]) 0 rfl rfl rfl rfl hl.1 (Nat.le_of_ble_eq_true rfl) dL_law_414 (Nat.le_of_ble_eq_true rfl) (Nat.le_of_ble_eq_true rfl) (fun H locs hP hD hS => ?_)
  have hP : va_P D vwCl (fl [(wcX aX_0 aR_0 aG_0 aS_0 aP_0 aN_0 aI_0 aT_0 zX_2), (wcR ci aR_0 aR_1 aRG_0 aRS_0 zR), (wcG ci aRG_0 aRG_1 aRG_2 aRG_3 aRG_4 zRG), (wcS ci aRS_0 aRS_1 zRS), (wcG ci aG_0 aG_1 aG_2 aG_3 aG_4 zG), (wcS ci aS_0 aS_1 zS_3), (wcP ci aP_0 aP_1 aQ zP_4), (wcQ ci aQ zQ_5), (wcN ci aN_0 aN_1 aN_2 aN_3 aN_4 zN), (wcI ci aI_0 aI_1 aI_2 aJ zI), (wcJ ci aJ zJ), (wcT ci aT_0 zT), (wcM ci aM zM_9)]) H := hP
  have hD : va_D A (fl [(wcX aX_0 aR_0 aG_0 aS_0 aP_0 aN_0 aI_0 aT_0 zX_2), (wcR ci aR_0 aR_1 aRG_0 aRS_0 zR), (wcG ci aRG_0 aRG_1 aRG_2 aRG_3 aRG_4 zRG), (wcS ci aRS_0 aRS_1 zRS), (wcG ci aG_0 aG_1 aG_2 aG_3 aG_4 zG), (wcS ci aS_0 aS_1 zS_3), (wcP ci aP_0 aP_1 aQ zP_4), (wcQ ci aQ zQ_5), (wcN ci aN_0 aN_1 aN_2 aN_3 aN_4 zN), (wcI ci aI_0 aI_1 aI_2 aJ zI), (wcJ ci aJ zJ), (wcT ci aT_0 zT), (wcM ci aM zM_9)]) := hD
  refine lv_icmp_eq (tgt := 853) hx hb dL_law_417 (by decide) (fun c_12 => ?_) (fun c_12 => ?_)
  · replace hF := if_i c_12 hF
    obtain rfl := Option.some.inj hF
    exact kont H locs ls hP hD hS (lv_sub hl [0, 1, 2, 3] rfl)
  · replace hF := if_o c_12 hF
    refine lv_iconst (v := 0) hx hb dL_law_420 (by decide) ?_
    exact absurd hF (fun h => no_none h)
noncomputable def sp_10 (zX : XS) (zR : RS) (zRG : GS) (zRS : SS) (zG : GS) (zS : SS) (zP : PS) (zQ : QS) (zN : NS) (zI : IS) (zJ : QS) (zT : TS) (zM : MS) (a1 : Int32) : Option ZZ := (f_X6_drift zX zG zS zP zQ a1).bind fun q_7 => nm q_7.1 fun r_1 => nm q_7.2.1 fun zX_2 => nm q_7.2.2.1 fun zS_3 => nm q_7.2.2.2.1 fun zP_4 => nm q_7.2.2.2.2 fun zQ_5 => (f_X7_drift zM a1).bind fun q_11 => nm q_11.1 fun r_8 => nm q_11.2 fun zM_9 => if r_1 = r_8 then (some (zX_2, zR, zRG, zRS, zG, zS_3, zP_4, zQ_5, zN, zI, zJ, zT, zM_9)) else (none)
set_option maxHeartbeats 8000000 in
set_option maxRecDepth 200000 in
theorem lc_10 {p : Program} {l : Launch} {e : Env} {s : State} {m : MethodId} {below : List Frame} {meth : Method} {c : Code} {Q : State → Prop} {b L k : Nat} {xs : Nat → Int32} {D : va_G} {ci : Nat → ClassId} (hx : p.tables.exec = Jvm.exec) (hb : c.code = cL_law) (hml : c.maxLocals = 4) (hown : s.vm.findClass RL = some m.cls) (hts : ∀ w ∈ wsL_law, w.before #[Value.ref b] s = true) (hX : va_X b L xs s s.heap) (hbl : b < s.heap.size) (hL320 : L ≤ 320) (hk5 : k + 5 ≤ L) (hK : va_K D vwCl (tyL ci) s) (aX_0 : Nat) (aR_0 : Nat) (aG_0 : Nat) (aS_0 : Nat) (aP_0 : Nat) (aN_0 : Nat) (aI_0 : Nat) (aT_0 : Nat) (aR_1 : Nat) (aRG_0 : Nat) (aRS_0 : Nat) (aRG_1 : Nat) (aRG_2 : Nat) (aRG_3 : Nat) (aRG_4 : Nat) (aRS_1 : Nat) (aG_1 : Nat) (aG_2 : Nat) (aG_3 : Nat) (aG_4 : Nat) (aS_1 : Nat) (aP_1 : Nat) (aQ : Nat → Nat) (aN_1 : Nat) (aN_2 : Nat) (aN_3 : Nat) (aN_4 : Nat) (aI_1 : Nat) (aI_2 : Nat) (aJ : Nat → Nat) (aM : Nat → Nat) (zX : XS) (zR : RS) (zRG : GS) (zRS : SS) (zG : GS) (zS : SS) (zP : PS) (zQ : QS) (zN : NS) (zI : IS) (zJ : QS) (zT : TS) (zM : MS) (a1 : Int32) (ha1 : xs (k + 1) = a1) (res : ZZ) (hF : sp_10 zX zR zRG zRS zG zS zP zQ zN zI zJ zT zM a1 = some res) (H : Heap) (locs : List Loc) (ls : Array Slot) (hP : va_P D vwCl (fl [(wcX aX_0 aR_0 aG_0 aS_0 aP_0 aN_0 aI_0 aT_0 zX), (wcR ci aR_0 aR_1 aRG_0 aRS_0 zR), (wcG ci aRG_0 aRG_1 aRG_2 aRG_3 aRG_4 zRG), (wcS ci aRS_0 aRS_1 zRS), (wcG ci aG_0 aG_1 aG_2 aG_3 aG_4 zG), (wcS ci aS_0 aS_1 zS), (wcP ci aP_0 aP_1 aQ zP), (wcQ ci aQ zQ), (wcN ci aN_0 aN_1 aN_2 aN_3 aN_4 zN), (wcI ci aI_0 aI_1 aI_2 aJ zI), (wcJ ci aJ zJ), (wcT ci aT_0 zT), (wcM ci aM zM)]) H) (hD : va_D (fun q : Nat => s.heap.size ≤ q) (fl [(wcX aX_0 aR_0 aG_0 aS_0 aP_0 aN_0 aI_0 aT_0 zX), (wcR ci aR_0 aR_1 aRG_0 aRS_0 zR), (wcG ci aRG_0 aRG_1 aRG_2 aRG_3 aRG_4 zRG), (wcS ci aRS_0 aRS_1 zRS), (wcG ci aG_0 aG_1 aG_2 aG_3 aG_4 zG), (wcS ci aS_0 aS_1 zS), (wcP ci aP_0 aP_1 aQ zP), (wcQ ci aQ zQ), (wcN ci aN_0 aN_1 aN_2 aN_3 aN_4 zN), (wcI ci aI_0 aI_1 aI_2 aJ zI), (wcJ ci aJ zJ), (wcT ci aT_0 zT), (wcM ci aM zM)])) (hS : va_S (fun q : Nat => s.heap.size ≤ q) s.heap H locs) (hl : lv_has ls 4 [(3, .int (nI k)), (2, .ref (aM 0)), (1, .ref aX_0), (0, .ref b)]) (kont : ∀ (H : Heap) (locs : List Loc) (ls : Array Slot), va_P D vwCl (fl [(wcX aX_0 aR_0 aG_0 aS_0 aP_0 aN_0 aI_0 aT_0 res.1), (wcR ci aR_0 aR_1 aRG_0 aRS_0 res.2.1), (wcG ci aRG_0 aRG_1 aRG_2 aRG_3 aRG_4 res.2.2.1), (wcS ci aRS_0 aRS_1 res.2.2.2.1), (wcG ci aG_0 aG_1 aG_2 aG_3 aG_4 res.2.2.2.2.1), (wcS ci aS_0 aS_1 res.2.2.2.2.2.1), (wcP ci aP_0 aP_1 aQ res.2.2.2.2.2.2.1), (wcQ ci aQ res.2.2.2.2.2.2.2.1), (wcN ci aN_0 aN_1 aN_2 aN_3 aN_4 res.2.2.2.2.2.2.2.2.1), (wcI ci aI_0 aI_1 aI_2 aJ res.2.2.2.2.2.2.2.2.2.1), (wcJ ci aJ res.2.2.2.2.2.2.2.2.2.2.1), (wcT ci aT_0 res.2.2.2.2.2.2.2.2.2.2.2.1), (wcM ci aM res.2.2.2.2.2.2.2.2.2.2.2.2)]) H → va_D (fun q : Nat => s.heap.size ≤ q) (fl [(wcX aX_0 aR_0 aG_0 aS_0 aP_0 aN_0 aI_0 aT_0 res.1), (wcR ci aR_0 aR_1 aRG_0 aRS_0 res.2.1), (wcG ci aRG_0 aRG_1 aRG_2 aRG_3 aRG_4 res.2.2.1), (wcS ci aRS_0 aRS_1 res.2.2.2.1), (wcG ci aG_0 aG_1 aG_2 aG_3 aG_4 res.2.2.2.2.1), (wcS ci aS_0 aS_1 res.2.2.2.2.2.1), (wcP ci aP_0 aP_1 aQ res.2.2.2.2.2.2.1), (wcQ ci aQ res.2.2.2.2.2.2.2.1), (wcN ci aN_0 aN_1 aN_2 aN_3 aN_4 res.2.2.2.2.2.2.2.2.1), (wcI ci aI_0 aI_1 aI_2 aJ res.2.2.2.2.2.2.2.2.2.1), (wcJ ci aJ res.2.2.2.2.2.2.2.2.2.2.1), (wcT ci aT_0 res.2.2.2.2.2.2.2.2.2.2.2.1), (wcM ci aM res.2.2.2.2.2.2.2.2.2.2.2.2)]) → va_S (fun q : Nat => s.heap.size ≤ q) s.heap H locs → lv_has ls 4 [(3, .int (nI k)), (2, .ref (aM 0)), (1, .ref aX_0), (0, .ref b)] → W p l e room_1 s m #[Value.ref b] below meth c H locs 96 5513 Q (F0 m 853 ls [])) : W p l e room_1 s m #[Value.ref b] below meth c H locs 96 5513 Q (F0 m 422 ls []) := by
  obtain ⟨A, hAe⟩ : ∃ A : Nat → Prop, A = (fun q : Nat => s.heap.size ≤ q) := ⟨_, rfl⟩
  rw [← hAe] at hD hS kont
  have hA : ∀ q : Nat, s.heap.size ≤ q → A q := fun q h => by rw [hAe]; exact h
  have hbA : ¬ A b := by rw [hAe]; exact Nat.not_le.mpr hbl
  clear hAe
  unfold sp_10 at hF
  refine lv_aload_n hx hb dL_law_422 rfl (lv_at hl 2 rfl) ?_
  refine lv_aload_n hx hb dL_law_423 rfl (lv_at hl 3 rfl) ?_
  refine lv_iload_n hx hb dL_law_424 rfl (lv_at hl 0 rfl) ?_
  refine lv_iconst (v := 1) hx hb dL_law_425 (by decide) ?_
  refine lv_iadd hx hb dL_law_426 ?_
  refine va_sld hx hb hX hbl hbA hS (sc_in 1 k L hk5 hL320 (by omega)) dL_law_427 ?_
  refine W.eq (g2 := F0 m 428 ls [.int a1, .ref aX_0]) (by rw [sc_at1 k L xs hk5 hL320, ha1]) ?_
  replace hF := bnd hF
  obtain ⟨q_7, hc_6, hF⟩ := hF
  obtain ⟨r_1, er_1⟩ : ∃ y : Int32, y = q_7.1 := ⟨_, rfl⟩
  replace hF := nm_i hF er_1
  obtain ⟨zX_2, ezX_2⟩ : ∃ y : XS, y = q_7.2.1 := ⟨_, rfl⟩
  replace hF := nm_i hF ezX_2
  obtain ⟨zS_3, ezS_3⟩ : ∃ y : SS, y = q_7.2.2.1 := ⟨_, rfl⟩
  replace hF := nm_i hF ezS_3
  obtain ⟨zP_4, ezP_4⟩ : ∃ y : PS, y = q_7.2.2.2.1 := ⟨_, rfl⟩
  replace hF := nm_i hF ezP_4
  obtain ⟨zQ_5, ezQ_5⟩ : ∃ y : QS, y = q_7.2.2.2.2 := ⟨_, rfl⟩
  replace hF := nm_i hF ezQ_5
  obtain rfl : q_7 = (r_1, zX_2, zS_3, zP_4, zQ_5) := by rw [er_1, ezX_2, ezS_3, ezP_4, ezQ_5]
  clear er_1
  clear ezX_2
  clear ezS_3
  clear ezP_4
  clear ezQ_5
  refine cl_Ci (As := [.int a1]) (rest := []) (csC := [(wcX aX_0 aR_0 aG_0 aS_0 aP_0 aN_0 aI_0 aT_0 zX), (wcG ci aG_0 aG_1 aG_2 aG_3 aG_4 zG), (wcS ci aS_0 aS_1 zS), (wcP ci aP_0 aP_1 aQ zP), (wcQ ci aQ zQ)]) (csR := [(wcR ci aR_0 aR_1 aRG_0 aRS_0 zR), (wcG ci aRG_0 aRG_1 aRG_2 aRG_3 aRG_4 zRG), (wcS ci aRS_0 aRS_1 zRS), (wcN ci aN_0 aN_1 aN_2 aN_3 aN_4 zN), (wcI ci aI_0 aI_1 aI_2 aJ zI), (wcJ ci aJ zJ), (wcT ci aT_0 zT), (wcM ci aM zM)]) (csC1 := [(wcX aX_0 aR_0 aG_0 aS_0 aP_0 aN_0 aI_0 aT_0 zX_2), (wcG ci aG_0 aG_1 aG_2 aG_3 aG_4 zG), (wcS ci aS_0 aS_1 zS_3), (wcP ci aP_0 aP_1 aQ zP_4), (wcQ ci aQ zQ_5)]) (csN := [(wcX aX_0 aR_0 aG_0 aS_0 aP_0 aN_0 aI_0 aT_0 zX_2), (wcR ci aR_0 aR_1 aRG_0 aRS_0 zR), (wcG ci aRG_0 aRG_1 aRG_2 aRG_3 aRG_4 zRG), (wcS ci aRS_0 aRS_1 zRS), (wcG ci aG_0 aG_1 aG_2 aG_3 aG_4 zG), (wcS ci aS_0 aS_1 zS_3), (wcP ci aP_0 aP_1 aQ zP_4), (wcQ ci aQ zQ_5), (wcN ci aN_0 aN_1 aN_2 aN_3 aN_4 zN), (wcI ci aI_0 aI_1 aI_2 aJ zI), (wcJ ci aJ zJ), (wcT ci aT_0 zT), (wcM ci aM zM)]) ⟨hx, hb, hml, hown, hts⟩ (cwV 1 hts gL_law_X6_drift rfl rfl rfl (by decide +kernel) ⟨Nat.le_of_ble_eq_true rfl, Nat.le_of_ble_eq_true rfl⟩) (c_X6_drift l D ci aX_0 aR_0 aG_0 aS_0 aP_0 aN_0 aI_0 aT_0 aG_1 aG_2 aG_3 aG_4 aS_1 aP_1 aQ H.size zX zG zS zP zQ a1 _ hc_6) hK hP hD hS hA [1, 2, 3, 8, 9, 10, 11, 12, 0, 4, 5, 6, 7] [8, 0, 1, 2, 9, 10, 11, 12, 3, 4, 5, 6, 7] rfl rfl (by decide) (by decide) (by simp only [fl, List.append_nil]) (by simp only [fl, List.append_nil]) 0 rfl rfl rfl rfl hl.1 (Nat.le_of_ble_eq_true rfl) dL_law_428 (Nat.le_of_ble_eq_true rfl) (Nat.le_of_ble_eq_true rfl) (fun H locs hP hD hS => ?_)
  have hP : va_P D vwCl (fl [(wcX aX_0 aR_0 aG_0 aS_0 aP_0 aN_0 aI_0 aT_0 zX_2), (wcR ci aR_0 aR_1 aRG_0 aRS_0 zR), (wcG ci aRG_0 aRG_1 aRG_2 aRG_3 aRG_4 zRG), (wcS ci aRS_0 aRS_1 zRS), (wcG ci aG_0 aG_1 aG_2 aG_3 aG_4 zG), (wcS ci aS_0 aS_1 zS_3), (wcP ci aP_0 aP_1 aQ zP_4), (wcQ ci aQ zQ_5), (wcN ci aN_0 aN_1 aN_2 aN_3 aN_4 zN), (wcI ci aI_0 aI_1 aI_2 aJ zI), (wcJ ci aJ zJ), (wcT ci aT_0 zT), (wcM ci aM zM)]) H := hP
  have hD : va_D A (fl [(wcX aX_0 aR_0 aG_0 aS_0 aP_0 aN_0 aI_0 aT_0 zX_2), (wcR ci aR_0 aR_1 aRG_0 aRS_0 zR), (wcG ci aRG_0 aRG_1 aRG_2 aRG_3 aRG_4 zRG), (wcS ci aRS_0 aRS_1 zRS), (wcG ci aG_0 aG_1 aG_2 aG_3 aG_4 zG), (wcS ci aS_0 aS_1 zS_3), (wcP ci aP_0 aP_1 aQ zP_4), (wcQ ci aQ zQ_5), (wcN ci aN_0 aN_1 aN_2 aN_3 aN_4 zN), (wcI ci aI_0 aI_1 aI_2 aJ zI), (wcJ ci aJ zJ), (wcT ci aT_0 zT), (wcM ci aM zM)]) := hD
  refine lv_aload_n hx hb dL_law_431 rfl (lv_at hl 1 rfl) ?_
  refine lv_aload_n hx hb dL_law_432 rfl (lv_at hl 3 rfl) ?_
  refine lv_iload_n hx hb dL_law_433 rfl (lv_at hl 0 rfl) ?_
  refine lv_iconst (v := 1) hx hb dL_law_434 (by decide) ?_
  refine lv_iadd hx hb dL_law_435 ?_
  refine va_sld hx hb hX hbl hbA hS (sc_in 1 k L hk5 hL320 (by omega)) dL_law_436 ?_
  refine W.eq (g2 := F0 m 437 ls [.int a1, .ref (aM 0), .int r_1]) (by rw [sc_at1 k L xs hk5 hL320, ha1]) ?_
  replace hF := bnd hF
  obtain ⟨q_11, hc_10, hF⟩ := hF
  obtain ⟨r_8, er_8⟩ : ∃ y : Int32, y = q_11.1 := ⟨_, rfl⟩
  replace hF := nm_i hF er_8
  obtain ⟨zM_9, ezM_9⟩ : ∃ y : MS, y = q_11.2 := ⟨_, rfl⟩
  replace hF := nm_i hF ezM_9
  obtain rfl : q_11 = (r_8, zM_9) := by rw [er_8, ezM_9]
  clear er_8
  clear ezM_9
  refine cl_Ci (As := [.int a1]) (rest := [.int r_1]) (csC := [(wcM ci aM zM)]) (csR := [(wcX aX_0 aR_0 aG_0 aS_0 aP_0 aN_0 aI_0 aT_0 zX_2), (wcR ci aR_0 aR_1 aRG_0 aRS_0 zR), (wcG ci aRG_0 aRG_1 aRG_2 aRG_3 aRG_4 zRG), (wcS ci aRS_0 aRS_1 zRS), (wcG ci aG_0 aG_1 aG_2 aG_3 aG_4 zG), (wcS ci aS_0 aS_1 zS_3), (wcP ci aP_0 aP_1 aQ zP_4), (wcQ ci aQ zQ_5), (wcN ci aN_0 aN_1 aN_2 aN_3 aN_4 zN), (wcI ci aI_0 aI_1 aI_2 aJ zI), (wcJ ci aJ zJ), (wcT ci aT_0 zT)]) (csC1 := [(wcM ci aM zM_9)]) (csN := [(wcX aX_0 aR_0 aG_0 aS_0 aP_0 aN_0 aI_0 aT_0 zX_2), (wcR ci aR_0 aR_1 aRG_0 aRS_0 zR), (wcG ci aRG_0 aRG_1 aRG_2 aRG_3 aRG_4 zRG), (wcS ci aRS_0 aRS_1 zRS), (wcG ci aG_0 aG_1 aG_2 aG_3 aG_4 zG), (wcS ci aS_0 aS_1 zS_3), (wcP ci aP_0 aP_1 aQ zP_4), (wcQ ci aQ zQ_5), (wcN ci aN_0 aN_1 aN_2 aN_3 aN_4 zN), (wcI ci aI_0 aI_1 aI_2 aJ zI), (wcJ ci aJ zJ), (wcT ci aT_0 zT), (wcM ci aM zM_9)]) ⟨hx, hb, hml, hown, hts⟩ (cwV 1 hts gL_law_X7_drift rfl rfl rfl (by decide +kernel) ⟨Nat.le_of_ble_eq_true rfl, Nat.le_of_ble_eq_true rfl⟩) (c_X7_drift l D ci aM H.size zM a1 _ hc_10) hK hP hD hS hA [0, 1, 2, 3, 4, 5, 6, 7, 8, 9, 10, 11, 12] [0, 1, 2, 3, 4, 5, 6, 7, 8, 9, 10, 11, 12] rfl rfl (by decide) (by decide) (by simp only [fl, List.append_nil]) (by simp only [fl, List.append_nil]) 0 rfl rfl rfl rfl hl.1 (Nat.le_of_ble_eq_true rfl) dL_law_437 (Nat.le_of_ble_eq_true rfl) (Nat.le_of_ble_eq_true rfl) (fun H locs hP hD hS => ?_)
  have hP : va_P D vwCl (fl [(wcX aX_0 aR_0 aG_0 aS_0 aP_0 aN_0 aI_0 aT_0 zX_2), (wcR ci aR_0 aR_1 aRG_0 aRS_0 zR), (wcG ci aRG_0 aRG_1 aRG_2 aRG_3 aRG_4 zRG), (wcS ci aRS_0 aRS_1 zRS), (wcG ci aG_0 aG_1 aG_2 aG_3 aG_4 zG), (wcS ci aS_0 aS_1 zS_3), (wcP ci aP_0 aP_1 aQ zP_4), (wcQ ci aQ zQ_5), (wcN ci aN_0 aN_1 aN_2 aN_3 aN_4 zN), (wcI ci aI_0 aI_1 aI_2 aJ zI), (wcJ ci aJ zJ), (wcT ci aT_0 zT), (wcM ci aM zM_9)]) H := hP
  have hD : va_D A (fl [(wcX aX_0 aR_0 aG_0 aS_0 aP_0 aN_0 aI_0 aT_0 zX_2), (wcR ci aR_0 aR_1 aRG_0 aRS_0 zR), (wcG ci aRG_0 aRG_1 aRG_2 aRG_3 aRG_4 zRG), (wcS ci aRS_0 aRS_1 zRS), (wcG ci aG_0 aG_1 aG_2 aG_3 aG_4 zG), (wcS ci aS_0 aS_1 zS_3), (wcP ci aP_0 aP_1 aQ zP_4), (wcQ ci aQ zQ_5), (wcN ci aN_0 aN_1 aN_2 aN_3 aN_4 zN), (wcI ci aI_0 aI_1 aI_2 aJ zI), (wcJ ci aJ zJ), (wcT ci aT_0 zT), (wcM ci aM zM_9)]) := hD
  refine lv_icmp_eq (tgt := 853) hx hb dL_law_440 (by decide) (fun c_12 => ?_) (fun c_12 => ?_)
  · replace hF := if_i c_12 hF
    obtain rfl := Option.some.inj hF
    exact kont H locs ls hP hD hS (lv_sub hl [0, 1, 2, 3] rfl)
  · replace hF := if_o c_12 hF
    refine lv_iconst (v := 0) hx hb dL_law_443 (by decide) ?_
    exact absurd hF (fun h => no_none h)
noncomputable def sp_11 (zX : XS) (zR : RS) (zRG : GS) (zRS : SS) (zG : GS) (zS : SS) (zP : PS) (zQ : QS) (zN : NS) (zI : IS) (zJ : QS) (zT : TS) (zM : MS) : Option ZZ := (f_X6_undo zX zS zP zQ).bind fun q_5 => nm q_5.1 fun r_1 => nm q_5.2.1 fun zS_2 => nm q_5.2.2 fun zP_3 => (f_X7_undo zM).bind fun q_9 => nm q_9.1 fun r_6 => nm q_9.2 fun zM_7 => if r_1 = r_6 then (some (zX, zR, zRG, zRS, zG, zS_2, zP_3, zQ, zN, zI, zJ, zT, zM_7)) else (none)
set_option maxHeartbeats 8000000 in
set_option maxRecDepth 200000 in
theorem lc_11 {p : Program} {l : Launch} {e : Env} {s : State} {m : MethodId} {below : List Frame} {meth : Method} {c : Code} {Q : State → Prop} {b L k : Nat} {xs : Nat → Int32} {D : va_G} {ci : Nat → ClassId} (hx : p.tables.exec = Jvm.exec) (hb : c.code = cL_law) (hml : c.maxLocals = 4) (hown : s.vm.findClass RL = some m.cls) (hts : ∀ w ∈ wsL_law, w.before #[Value.ref b] s = true) (hX : va_X b L xs s s.heap) (hbl : b < s.heap.size) (hL320 : L ≤ 320) (hk5 : k + 5 ≤ L) (hK : va_K D vwCl (tyL ci) s) (aX_0 : Nat) (aR_0 : Nat) (aG_0 : Nat) (aS_0 : Nat) (aP_0 : Nat) (aN_0 : Nat) (aI_0 : Nat) (aT_0 : Nat) (aR_1 : Nat) (aRG_0 : Nat) (aRS_0 : Nat) (aRG_1 : Nat) (aRG_2 : Nat) (aRG_3 : Nat) (aRG_4 : Nat) (aRS_1 : Nat) (aG_1 : Nat) (aG_2 : Nat) (aG_3 : Nat) (aG_4 : Nat) (aS_1 : Nat) (aP_1 : Nat) (aQ : Nat → Nat) (aN_1 : Nat) (aN_2 : Nat) (aN_3 : Nat) (aN_4 : Nat) (aI_1 : Nat) (aI_2 : Nat) (aJ : Nat → Nat) (aM : Nat → Nat) (zX : XS) (zR : RS) (zRG : GS) (zRS : SS) (zG : GS) (zS : SS) (zP : PS) (zQ : QS) (zN : NS) (zI : IS) (zJ : QS) (zT : TS) (zM : MS) (res : ZZ) (hF : sp_11 zX zR zRG zRS zG zS zP zQ zN zI zJ zT zM = some res) (H : Heap) (locs : List Loc) (ls : Array Slot) (hP : va_P D vwCl (fl [(wcX aX_0 aR_0 aG_0 aS_0 aP_0 aN_0 aI_0 aT_0 zX), (wcR ci aR_0 aR_1 aRG_0 aRS_0 zR), (wcG ci aRG_0 aRG_1 aRG_2 aRG_3 aRG_4 zRG), (wcS ci aRS_0 aRS_1 zRS), (wcG ci aG_0 aG_1 aG_2 aG_3 aG_4 zG), (wcS ci aS_0 aS_1 zS), (wcP ci aP_0 aP_1 aQ zP), (wcQ ci aQ zQ), (wcN ci aN_0 aN_1 aN_2 aN_3 aN_4 zN), (wcI ci aI_0 aI_1 aI_2 aJ zI), (wcJ ci aJ zJ), (wcT ci aT_0 zT), (wcM ci aM zM)]) H) (hD : va_D (fun q : Nat => s.heap.size ≤ q) (fl [(wcX aX_0 aR_0 aG_0 aS_0 aP_0 aN_0 aI_0 aT_0 zX), (wcR ci aR_0 aR_1 aRG_0 aRS_0 zR), (wcG ci aRG_0 aRG_1 aRG_2 aRG_3 aRG_4 zRG), (wcS ci aRS_0 aRS_1 zRS), (wcG ci aG_0 aG_1 aG_2 aG_3 aG_4 zG), (wcS ci aS_0 aS_1 zS), (wcP ci aP_0 aP_1 aQ zP), (wcQ ci aQ zQ), (wcN ci aN_0 aN_1 aN_2 aN_3 aN_4 zN), (wcI ci aI_0 aI_1 aI_2 aJ zI), (wcJ ci aJ zJ), (wcT ci aT_0 zT), (wcM ci aM zM)])) (hS : va_S (fun q : Nat => s.heap.size ≤ q) s.heap H locs) (hl : lv_has ls 4 [(3, .int (nI k)), (2, .ref (aM 0)), (1, .ref aX_0), (0, .ref b)]) (kont : ∀ (H : Heap) (locs : List Loc) (ls : Array Slot), va_P D vwCl (fl [(wcX aX_0 aR_0 aG_0 aS_0 aP_0 aN_0 aI_0 aT_0 res.1), (wcR ci aR_0 aR_1 aRG_0 aRS_0 res.2.1), (wcG ci aRG_0 aRG_1 aRG_2 aRG_3 aRG_4 res.2.2.1), (wcS ci aRS_0 aRS_1 res.2.2.2.1), (wcG ci aG_0 aG_1 aG_2 aG_3 aG_4 res.2.2.2.2.1), (wcS ci aS_0 aS_1 res.2.2.2.2.2.1), (wcP ci aP_0 aP_1 aQ res.2.2.2.2.2.2.1), (wcQ ci aQ res.2.2.2.2.2.2.2.1), (wcN ci aN_0 aN_1 aN_2 aN_3 aN_4 res.2.2.2.2.2.2.2.2.1), (wcI ci aI_0 aI_1 aI_2 aJ res.2.2.2.2.2.2.2.2.2.1), (wcJ ci aJ res.2.2.2.2.2.2.2.2.2.2.1), (wcT ci aT_0 res.2.2.2.2.2.2.2.2.2.2.2.1), (wcM ci aM res.2.2.2.2.2.2.2.2.2.2.2.2)]) H → va_D (fun q : Nat => s.heap.size ≤ q) (fl [(wcX aX_0 aR_0 aG_0 aS_0 aP_0 aN_0 aI_0 aT_0 res.1), (wcR ci aR_0 aR_1 aRG_0 aRS_0 res.2.1), (wcG ci aRG_0 aRG_1 aRG_2 aRG_3 aRG_4 res.2.2.1), (wcS ci aRS_0 aRS_1 res.2.2.2.1), (wcG ci aG_0 aG_1 aG_2 aG_3 aG_4 res.2.2.2.2.1), (wcS ci aS_0 aS_1 res.2.2.2.2.2.1), (wcP ci aP_0 aP_1 aQ res.2.2.2.2.2.2.1), (wcQ ci aQ res.2.2.2.2.2.2.2.1), (wcN ci aN_0 aN_1 aN_2 aN_3 aN_4 res.2.2.2.2.2.2.2.2.1), (wcI ci aI_0 aI_1 aI_2 aJ res.2.2.2.2.2.2.2.2.2.1), (wcJ ci aJ res.2.2.2.2.2.2.2.2.2.2.1), (wcT ci aT_0 res.2.2.2.2.2.2.2.2.2.2.2.1), (wcM ci aM res.2.2.2.2.2.2.2.2.2.2.2.2)]) → va_S (fun q : Nat => s.heap.size ≤ q) s.heap H locs → lv_has ls 4 [(3, .int (nI k)), (2, .ref (aM 0)), (1, .ref aX_0), (0, .ref b)] → W p l e room_1 s m #[Value.ref b] below meth c H locs 96 5513 Q (F0 m 853 ls [])) : W p l e room_1 s m #[Value.ref b] below meth c H locs 96 5513 Q (F0 m 445 ls []) := by
  obtain ⟨A, hAe⟩ : ∃ A : Nat → Prop, A = (fun q : Nat => s.heap.size ≤ q) := ⟨_, rfl⟩
  rw [← hAe] at hD hS kont
  have hA : ∀ q : Nat, s.heap.size ≤ q → A q := fun q h => by rw [hAe]; exact h
  have hbA : ¬ A b := by rw [hAe]; exact Nat.not_le.mpr hbl
  clear hAe
  unfold sp_11 at hF
  refine lv_aload_n hx hb dL_law_445 rfl (lv_at hl 2 rfl) ?_
  replace hF := bnd hF
  obtain ⟨q_5, hc_4, hF⟩ := hF
  obtain ⟨r_1, er_1⟩ : ∃ y : Int32, y = q_5.1 := ⟨_, rfl⟩
  replace hF := nm_i hF er_1
  obtain ⟨zS_2, ezS_2⟩ : ∃ y : SS, y = q_5.2.1 := ⟨_, rfl⟩
  replace hF := nm_i hF ezS_2
  obtain ⟨zP_3, ezP_3⟩ : ∃ y : PS, y = q_5.2.2 := ⟨_, rfl⟩
  replace hF := nm_i hF ezP_3
  obtain rfl : q_5 = (r_1, zS_2, zP_3) := by rw [er_1, ezS_2, ezP_3]
  clear er_1
  clear ezS_2
  clear ezP_3
  refine cl_Ci (As := []) (rest := []) (csC := [(wcX aX_0 aR_0 aG_0 aS_0 aP_0 aN_0 aI_0 aT_0 zX), (wcS ci aS_0 aS_1 zS), (wcP ci aP_0 aP_1 aQ zP), (wcQ ci aQ zQ)]) (csR := [(wcR ci aR_0 aR_1 aRG_0 aRS_0 zR), (wcG ci aRG_0 aRG_1 aRG_2 aRG_3 aRG_4 zRG), (wcS ci aRS_0 aRS_1 zRS), (wcG ci aG_0 aG_1 aG_2 aG_3 aG_4 zG), (wcN ci aN_0 aN_1 aN_2 aN_3 aN_4 zN), (wcI ci aI_0 aI_1 aI_2 aJ zI), (wcJ ci aJ zJ), (wcT ci aT_0 zT), (wcM ci aM zM)]) (csC1 := [(wcX aX_0 aR_0 aG_0 aS_0 aP_0 aN_0 aI_0 aT_0 zX), (wcS ci aS_0 aS_1 zS_2), (wcP ci aP_0 aP_1 aQ zP_3), (wcQ ci aQ zQ)]) (csN := [(wcX aX_0 aR_0 aG_0 aS_0 aP_0 aN_0 aI_0 aT_0 zX), (wcR ci aR_0 aR_1 aRG_0 aRS_0 zR), (wcG ci aRG_0 aRG_1 aRG_2 aRG_3 aRG_4 zRG), (wcS ci aRS_0 aRS_1 zRS), (wcG ci aG_0 aG_1 aG_2 aG_3 aG_4 zG), (wcS ci aS_0 aS_1 zS_2), (wcP ci aP_0 aP_1 aQ zP_3), (wcQ ci aQ zQ), (wcN ci aN_0 aN_1 aN_2 aN_3 aN_4 zN), (wcI ci aI_0 aI_1 aI_2 aJ zI), (wcJ ci aJ zJ), (wcT ci aT_0 zT), (wcM ci aM zM)]) ⟨hx, hb, hml, hown, hts⟩ (cwV 0 hts gL_law_X6_undo rfl rfl rfl (by decide +kernel) ⟨Nat.le_of_ble_eq_true rfl, Nat.le_of_ble_eq_true rfl⟩) (c_X6_undo l D ci aX_0 aR_0 aG_0 aS_0 aP_0 aN_0 aI_0 aT_0 aS_1 aP_1 aQ H.size zX zS zP zQ _ hc_4) hK hP hD hS hA [1, 2, 3, 4, 8, 9, 10, 11, 12, 0, 5, 6, 7] [9, 0, 1, 2, 3, 10, 11, 12, 4, 5, 6, 7, 8] rfl rfl (by decide) (by decide) (by simp only [fl, List.append_nil]) (by simp only [fl, List.append_nil]) 0 rfl rfl rfl rfl hl.1 (Nat.le_of_ble_eq_true rfl) dL_law_446 (Nat.le_of_ble_eq_true rfl) (Nat.le_of_ble_eq_true rfl) (fun H locs hP hD hS => ?_)
  have hP : va_P D vwCl (fl [(wcX aX_0 aR_0 aG_0 aS_0 aP_0 aN_0 aI_0 aT_0 zX), (wcR ci aR_0 aR_1 aRG_0 aRS_0 zR), (wcG ci aRG_0 aRG_1 aRG_2 aRG_3 aRG_4 zRG), (wcS ci aRS_0 aRS_1 zRS), (wcG ci aG_0 aG_1 aG_2 aG_3 aG_4 zG), (wcS ci aS_0 aS_1 zS_2), (wcP ci aP_0 aP_1 aQ zP_3), (wcQ ci aQ zQ), (wcN ci aN_0 aN_1 aN_2 aN_3 aN_4 zN), (wcI ci aI_0 aI_1 aI_2 aJ zI), (wcJ ci aJ zJ), (wcT ci aT_0 zT), (wcM ci aM zM)]) H := hP
  have hD : va_D A (fl [(wcX aX_0 aR_0 aG_0 aS_0 aP_0 aN_0 aI_0 aT_0 zX), (wcR ci aR_0 aR_1 aRG_0 aRS_0 zR), (wcG ci aRG_0 aRG_1 aRG_2 aRG_3 aRG_4 zRG), (wcS ci aRS_0 aRS_1 zRS), (wcG ci aG_0 aG_1 aG_2 aG_3 aG_4 zG), (wcS ci aS_0 aS_1 zS_2), (wcP ci aP_0 aP_1 aQ zP_3), (wcQ ci aQ zQ), (wcN ci aN_0 aN_1 aN_2 aN_3 aN_4 zN), (wcI ci aI_0 aI_1 aI_2 aJ zI), (wcJ ci aJ zJ), (wcT ci aT_0 zT), (wcM ci aM zM)]) := hD
  refine lv_aload_n hx hb dL_law_449 rfl (lv_at hl 1 rfl) ?_
  replace hF := bnd hF
  obtain ⟨q_9, hc_8, hF⟩ := hF
  obtain ⟨r_6, er_6⟩ : ∃ y : Int32, y = q_9.1 := ⟨_, rfl⟩
  replace hF := nm_i hF er_6
  obtain ⟨zM_7, ezM_7⟩ : ∃ y : MS, y = q_9.2 := ⟨_, rfl⟩
  replace hF := nm_i hF ezM_7
  obtain rfl : q_9 = (r_6, zM_7) := by rw [er_6, ezM_7]
  clear er_6
  clear ezM_7
  refine cl_Ci (As := []) (rest := [.int r_1]) (csC := [(wcM ci aM zM)]) (csR := [(wcX aX_0 aR_0 aG_0 aS_0 aP_0 aN_0 aI_0 aT_0 zX), (wcR ci aR_0 aR_1 aRG_0 aRS_0 zR), (wcG ci aRG_0 aRG_1 aRG_2 aRG_3 aRG_4 zRG), (wcS ci aRS_0 aRS_1 zRS), (wcG ci aG_0 aG_1 aG_2 aG_3 aG_4 zG), (wcS ci aS_0 aS_1 zS_2), (wcP ci aP_0 aP_1 aQ zP_3), (wcQ ci aQ zQ), (wcN ci aN_0 aN_1 aN_2 aN_3 aN_4 zN), (wcI ci aI_0 aI_1 aI_2 aJ zI), (wcJ ci aJ zJ), (wcT ci aT_0 zT)]) (csC1 := [(wcM ci aM zM_7)]) (csN := [(wcX aX_0 aR_0 aG_0 aS_0 aP_0 aN_0 aI_0 aT_0 zX), (wcR ci aR_0 aR_1 aRG_0 aRS_0 zR), (wcG ci aRG_0 aRG_1 aRG_2 aRG_3 aRG_4 zRG), (wcS ci aRS_0 aRS_1 zRS), (wcG ci aG_0 aG_1 aG_2 aG_3 aG_4 zG), (wcS ci aS_0 aS_1 zS_2), (wcP ci aP_0 aP_1 aQ zP_3), (wcQ ci aQ zQ), (wcN ci aN_0 aN_1 aN_2 aN_3 aN_4 zN), (wcI ci aI_0 aI_1 aI_2 aJ zI), (wcJ ci aJ zJ), (wcT ci aT_0 zT), (wcM ci aM zM_7)]) ⟨hx, hb, hml, hown, hts⟩ (cwV 0 hts gL_law_X7_undo rfl rfl rfl (by decide +kernel) ⟨Nat.le_of_ble_eq_true rfl, Nat.le_of_ble_eq_true rfl⟩) (c_X7_undo l D ci aM H.size zM _ hc_8) hK hP hD hS hA [0, 1, 2, 3, 4, 5, 6, 7, 8, 9, 10, 11, 12] [0, 1, 2, 3, 4, 5, 6, 7, 8, 9, 10, 11, 12] rfl rfl (by decide) (by decide) (by simp only [fl, List.append_nil]) (by simp only [fl, List.append_nil]) 0 rfl rfl rfl rfl hl.1 (Nat.le_of_ble_eq_true rfl) dL_law_450 (Nat.le_of_ble_eq_true rfl) (Nat.le_of_ble_eq_true rfl) (fun H locs hP hD hS => ?_)
  have hP : va_P D vwCl (fl [(wcX aX_0 aR_0 aG_0 aS_0 aP_0 aN_0 aI_0 aT_0 zX), (wcR ci aR_0 aR_1 aRG_0 aRS_0 zR), (wcG ci aRG_0 aRG_1 aRG_2 aRG_3 aRG_4 zRG), (wcS ci aRS_0 aRS_1 zRS), (wcG ci aG_0 aG_1 aG_2 aG_3 aG_4 zG), (wcS ci aS_0 aS_1 zS_2), (wcP ci aP_0 aP_1 aQ zP_3), (wcQ ci aQ zQ), (wcN ci aN_0 aN_1 aN_2 aN_3 aN_4 zN), (wcI ci aI_0 aI_1 aI_2 aJ zI), (wcJ ci aJ zJ), (wcT ci aT_0 zT), (wcM ci aM zM_7)]) H := hP
  have hD : va_D A (fl [(wcX aX_0 aR_0 aG_0 aS_0 aP_0 aN_0 aI_0 aT_0 zX), (wcR ci aR_0 aR_1 aRG_0 aRS_0 zR), (wcG ci aRG_0 aRG_1 aRG_2 aRG_3 aRG_4 zRG), (wcS ci aRS_0 aRS_1 zRS), (wcG ci aG_0 aG_1 aG_2 aG_3 aG_4 zG), (wcS ci aS_0 aS_1 zS_2), (wcP ci aP_0 aP_1 aQ zP_3), (wcQ ci aQ zQ), (wcN ci aN_0 aN_1 aN_2 aN_3 aN_4 zN), (wcI ci aI_0 aI_1 aI_2 aJ zI), (wcJ ci aJ zJ), (wcT ci aT_0 zT), (wcM ci aM zM_7)]) := hD
  refine lv_icmp_eq (tgt := 853) hx hb dL_law_453 (by decide) (fun c_10 => ?_) (fun c_10 => ?_)
  · replace hF := if_i c_10 hF
    obtain rfl := Option.some.inj hF
    exact kont H locs ls hP hD hS (lv_sub hl [0, 1, 2, 3] rfl)
  · replace hF := if_o c_10 hF
    refine lv_iconst (v := 0) hx hb dL_law_456 (by decide) ?_
    exact absurd hF (fun h => no_none h)
noncomputable def sp_12 (zX : XS) (zR : RS) (zRG : GS) (zRS : SS) (zG : GS) (zS : SS) (zP : PS) (zQ : QS) (zN : NS) (zI : IS) (zJ : QS) (zT : TS) (zM : MS) (a1 : Int32) (a2 : Int32) (a3 : Int32) (a4 : Int32) : Option ZZ := (f_X6_slips zX zG zS a1 a2 a3 a4).bind fun r_1 => (f_X7_slips zM a1 a2 a3 a4).bind fun q_6 => nm q_6.1 fun r_3 => nm q_6.2 fun zM_4 => if r_1 = r_3 then (some (zX, zR, zRG, zRS, zG, zS, zP, zQ, zN, zI, zJ, zT, zM_4)) else (none)
set_option maxHeartbeats 8000000 in
set_option maxRecDepth 200000 in
theorem lc_12 {p : Program} {l : Launch} {e : Env} {s : State} {m : MethodId} {below : List Frame} {meth : Method} {c : Code} {Q : State → Prop} {b L k : Nat} {xs : Nat → Int32} {D : va_G} {ci : Nat → ClassId} (hx : p.tables.exec = Jvm.exec) (hb : c.code = cL_law) (hml : c.maxLocals = 4) (hown : s.vm.findClass RL = some m.cls) (hts : ∀ w ∈ wsL_law, w.before #[Value.ref b] s = true) (hX : va_X b L xs s s.heap) (hbl : b < s.heap.size) (hL320 : L ≤ 320) (hk5 : k + 5 ≤ L) (hK : va_K D vwCl (tyL ci) s) (aX_0 : Nat) (aR_0 : Nat) (aG_0 : Nat) (aS_0 : Nat) (aP_0 : Nat) (aN_0 : Nat) (aI_0 : Nat) (aT_0 : Nat) (aR_1 : Nat) (aRG_0 : Nat) (aRS_0 : Nat) (aRG_1 : Nat) (aRG_2 : Nat) (aRG_3 : Nat) (aRG_4 : Nat) (aRS_1 : Nat) (aG_1 : Nat) (aG_2 : Nat) (aG_3 : Nat) (aG_4 : Nat) (aS_1 : Nat) (aP_1 : Nat) (aQ : Nat → Nat) (aN_1 : Nat) (aN_2 : Nat) (aN_3 : Nat) (aN_4 : Nat) (aI_1 : Nat) (aI_2 : Nat) (aJ : Nat → Nat) (aM : Nat → Nat) (zX : XS) (zR : RS) (zRG : GS) (zRS : SS) (zG : GS) (zS : SS) (zP : PS) (zQ : QS) (zN : NS) (zI : IS) (zJ : QS) (zT : TS) (zM : MS) (a1 : Int32) (a2 : Int32) (a3 : Int32) (a4 : Int32) (ha1 : xs (k + 1) = a1) (ha2 : xs (k + 2) = a2) (ha3 : xs (k + 3) = a3) (ha4 : xs (k + 4) = a4) (res : ZZ) (hF : sp_12 zX zR zRG zRS zG zS zP zQ zN zI zJ zT zM a1 a2 a3 a4 = some res) (H : Heap) (locs : List Loc) (ls : Array Slot) (hP : va_P D vwCl (fl [(wcX aX_0 aR_0 aG_0 aS_0 aP_0 aN_0 aI_0 aT_0 zX), (wcR ci aR_0 aR_1 aRG_0 aRS_0 zR), (wcG ci aRG_0 aRG_1 aRG_2 aRG_3 aRG_4 zRG), (wcS ci aRS_0 aRS_1 zRS), (wcG ci aG_0 aG_1 aG_2 aG_3 aG_4 zG), (wcS ci aS_0 aS_1 zS), (wcP ci aP_0 aP_1 aQ zP), (wcQ ci aQ zQ), (wcN ci aN_0 aN_1 aN_2 aN_3 aN_4 zN), (wcI ci aI_0 aI_1 aI_2 aJ zI), (wcJ ci aJ zJ), (wcT ci aT_0 zT), (wcM ci aM zM)]) H) (hD : va_D (fun q : Nat => s.heap.size ≤ q) (fl [(wcX aX_0 aR_0 aG_0 aS_0 aP_0 aN_0 aI_0 aT_0 zX), (wcR ci aR_0 aR_1 aRG_0 aRS_0 zR), (wcG ci aRG_0 aRG_1 aRG_2 aRG_3 aRG_4 zRG), (wcS ci aRS_0 aRS_1 zRS), (wcG ci aG_0 aG_1 aG_2 aG_3 aG_4 zG), (wcS ci aS_0 aS_1 zS), (wcP ci aP_0 aP_1 aQ zP), (wcQ ci aQ zQ), (wcN ci aN_0 aN_1 aN_2 aN_3 aN_4 zN), (wcI ci aI_0 aI_1 aI_2 aJ zI), (wcJ ci aJ zJ), (wcT ci aT_0 zT), (wcM ci aM zM)])) (hS : va_S (fun q : Nat => s.heap.size ≤ q) s.heap H locs) (hl : lv_has ls 4 [(3, .int (nI k)), (2, .ref (aM 0)), (1, .ref aX_0), (0, .ref b)]) (kont : ∀ (H : Heap) (locs : List Loc) (ls : Array Slot), va_P D vwCl (fl [(wcX aX_0 aR_0 aG_0 aS_0 aP_0 aN_0 aI_0 aT_0 res.1), (wcR ci aR_0 aR_1 aRG_0 aRS_0 res.2.1), (wcG ci aRG_0 aRG_1 aRG_2 aRG_3 aRG_4 res.2.2.1), (wcS ci aRS_0 aRS_1 res.2.2.2.1), (wcG ci aG_0 aG_1 aG_2 aG_3 aG_4 res.2.2.2.2.1), (wcS ci aS_0 aS_1 res.2.2.2.2.2.1), (wcP ci aP_0 aP_1 aQ res.2.2.2.2.2.2.1), (wcQ ci aQ res.2.2.2.2.2.2.2.1), (wcN ci aN_0 aN_1 aN_2 aN_3 aN_4 res.2.2.2.2.2.2.2.2.1), (wcI ci aI_0 aI_1 aI_2 aJ res.2.2.2.2.2.2.2.2.2.1), (wcJ ci aJ res.2.2.2.2.2.2.2.2.2.2.1), (wcT ci aT_0 res.2.2.2.2.2.2.2.2.2.2.2.1), (wcM ci aM res.2.2.2.2.2.2.2.2.2.2.2.2)]) H → va_D (fun q : Nat => s.heap.size ≤ q) (fl [(wcX aX_0 aR_0 aG_0 aS_0 aP_0 aN_0 aI_0 aT_0 res.1), (wcR ci aR_0 aR_1 aRG_0 aRS_0 res.2.1), (wcG ci aRG_0 aRG_1 aRG_2 aRG_3 aRG_4 res.2.2.1), (wcS ci aRS_0 aRS_1 res.2.2.2.1), (wcG ci aG_0 aG_1 aG_2 aG_3 aG_4 res.2.2.2.2.1), (wcS ci aS_0 aS_1 res.2.2.2.2.2.1), (wcP ci aP_0 aP_1 aQ res.2.2.2.2.2.2.1), (wcQ ci aQ res.2.2.2.2.2.2.2.1), (wcN ci aN_0 aN_1 aN_2 aN_3 aN_4 res.2.2.2.2.2.2.2.2.1), (wcI ci aI_0 aI_1 aI_2 aJ res.2.2.2.2.2.2.2.2.2.1), (wcJ ci aJ res.2.2.2.2.2.2.2.2.2.2.1), (wcT ci aT_0 res.2.2.2.2.2.2.2.2.2.2.2.1), (wcM ci aM res.2.2.2.2.2.2.2.2.2.2.2.2)]) → va_S (fun q : Nat => s.heap.size ≤ q) s.heap H locs → lv_has ls 4 [(3, .int (nI k)), (2, .ref (aM 0)), (1, .ref aX_0), (0, .ref b)] → W p l e room_1 s m #[Value.ref b] below meth c H locs 96 5513 Q (F0 m 853 ls [])) : W p l e room_1 s m #[Value.ref b] below meth c H locs 96 5513 Q (F0 m 458 ls []) := by
  obtain ⟨A, hAe⟩ : ∃ A : Nat → Prop, A = (fun q : Nat => s.heap.size ≤ q) := ⟨_, rfl⟩
  rw [← hAe] at hD hS kont
  have hA : ∀ q : Nat, s.heap.size ≤ q → A q := fun q h => by rw [hAe]; exact h
  have hbA : ¬ A b := by rw [hAe]; exact Nat.not_le.mpr hbl
  clear hAe
  unfold sp_12 at hF
  refine lv_aload_n hx hb dL_law_458 rfl (lv_at hl 2 rfl) ?_
  refine lv_aload_n hx hb dL_law_459 rfl (lv_at hl 3 rfl) ?_
  refine lv_iload_n hx hb dL_law_460 rfl (lv_at hl 0 rfl) ?_
  refine lv_iconst (v := 1) hx hb dL_law_461 (by decide) ?_
  refine lv_iadd hx hb dL_law_462 ?_
  refine va_sld hx hb hX hbl hbA hS (sc_in 1 k L hk5 hL320 (by omega)) dL_law_463 ?_
  refine W.eq (g2 := F0 m 464 ls [.int a1, .ref aX_0]) (by rw [sc_at1 k L xs hk5 hL320, ha1]) ?_
  refine lv_aload_n hx hb dL_law_464 rfl (lv_at hl 3 rfl) ?_
  refine lv_iload_n hx hb dL_law_465 rfl (lv_at hl 0 rfl) ?_
  refine lv_iconst (v := 2) hx hb dL_law_466 (by decide) ?_
  refine lv_iadd hx hb dL_law_467 ?_
  refine va_sld hx hb hX hbl hbA hS (sc_in 2 k L hk5 hL320 (by omega)) dL_law_468 ?_
  refine W.eq (g2 := F0 m 469 ls [.int a2, .int a1, .ref aX_0]) (by rw [sc_at2 k L xs hk5 hL320, ha2]) ?_
  refine lv_aload_n hx hb dL_law_469 rfl (lv_at hl 3 rfl) ?_
  refine lv_iload_n hx hb dL_law_470 rfl (lv_at hl 0 rfl) ?_
  refine lv_iconst (v := 3) hx hb dL_law_471 (by decide) ?_
  refine lv_iadd hx hb dL_law_472 ?_
  refine va_sld hx hb hX hbl hbA hS (sc_in 3 k L hk5 hL320 (by omega)) dL_law_473 ?_
  refine W.eq (g2 := F0 m 474 ls [.int a3, .int a2, .int a1, .ref aX_0]) (by rw [sc_at3 k L xs hk5 hL320, ha3]) ?_
  refine lv_aload_n hx hb dL_law_474 rfl (lv_at hl 3 rfl) ?_
  refine lv_iload_n hx hb dL_law_475 rfl (lv_at hl 0 rfl) ?_
  refine lv_iconst (v := 4) hx hb dL_law_476 (by decide) ?_
  refine lv_iadd hx hb dL_law_477 ?_
  refine va_sld hx hb hX hbl hbA hS (sc_in 4 k L hk5 hL320 (by omega)) dL_law_478 ?_
  refine W.eq (g2 := F0 m 479 ls [.int a4, .int a3, .int a2, .int a1, .ref aX_0]) (by rw [sc_at4 k L xs hk5 hL320, ha4]) ?_
  replace hF := bnd hF
  obtain ⟨r_1, hc_2, hF⟩ := hF
  refine cl_Ci (As := [.int a1, .int a2, .int a3, .int a4]) (rest := []) (csC := [(wcX aX_0 aR_0 aG_0 aS_0 aP_0 aN_0 aI_0 aT_0 zX), (wcG ci aG_0 aG_1 aG_2 aG_3 aG_4 zG), (wcS ci aS_0 aS_1 zS)]) (csR := [(wcR ci aR_0 aR_1 aRG_0 aRS_0 zR), (wcG ci aRG_0 aRG_1 aRG_2 aRG_3 aRG_4 zRG), (wcS ci aRS_0 aRS_1 zRS), (wcP ci aP_0 aP_1 aQ zP), (wcQ ci aQ zQ), (wcN ci aN_0 aN_1 aN_2 aN_3 aN_4 zN), (wcI ci aI_0 aI_1 aI_2 aJ zI), (wcJ ci aJ zJ), (wcT ci aT_0 zT), (wcM ci aM zM)]) (csC1 := [(wcX aX_0 aR_0 aG_0 aS_0 aP_0 aN_0 aI_0 aT_0 zX), (wcG ci aG_0 aG_1 aG_2 aG_3 aG_4 zG), (wcS ci aS_0 aS_1 zS)]) (csN := [(wcX aX_0 aR_0 aG_0 aS_0 aP_0 aN_0 aI_0 aT_0 zX), (wcR ci aR_0 aR_1 aRG_0 aRS_0 zR), (wcG ci aRG_0 aRG_1 aRG_2 aRG_3 aRG_4 zRG), (wcS ci aRS_0 aRS_1 zRS), (wcG ci aG_0 aG_1 aG_2 aG_3 aG_4 zG), (wcS ci aS_0 aS_1 zS), (wcP ci aP_0 aP_1 aQ zP), (wcQ ci aQ zQ), (wcN ci aN_0 aN_1 aN_2 aN_3 aN_4 zN), (wcI ci aI_0 aI_1 aI_2 aJ zI), (wcJ ci aJ zJ), (wcT ci aT_0 zT), (wcM ci aM zM)]) ⟨hx, hb, hml, hown, hts⟩ (cwV 4 hts gL_law_X6_slips rfl rfl rfl (by decide +kernel) ⟨Nat.le_of_ble_eq_true rfl, Nat.le_of_ble_eq_true rfl⟩) (c_X6_slips l D ci aX_0 aR_0 aG_0 aS_0 aP_0 aN_0 aI_0 aT_0 aG_1 aG_2 aG_3 aG_4 aS_1 H.size zX zG zS a1 a2 a3 a4 _ hc_2) hK hP hD hS hA [1, 2, 3, 6, 7, 8, 9, 10, 11, 12, 0, 4, 5] [10, 0, 1, 2, 11, 12, 3, 4, 5, 6, 7, 8, 9] rfl rfl (by decide) (by decide) (by simp only [fl, List.append_nil]) (by simp only [fl, List.append_nil]) 0 rfl rfl rfl rfl hl.1 (Nat.le_of_ble_eq_true rfl) dL_law_479 (Nat.le_of_ble_eq_true rfl) (Nat.le_of_ble_eq_true rfl) (fun H locs hP hD hS => ?_)
  have hP : va_P D vwCl (fl [(wcX aX_0 aR_0 aG_0 aS_0 aP_0 aN_0 aI_0 aT_0 zX), (wcR ci aR_0 aR_1 aRG_0 aRS_0 zR), (wcG ci aRG_0 aRG_1 aRG_2 aRG_3 aRG_4 zRG), (wcS ci aRS_0 aRS_1 zRS), (wcG ci aG_0 aG_1 aG_2 aG_3 aG_4 zG), (wcS ci aS_0 aS_1 zS), (wcP ci aP_0 aP_1 aQ zP), (wcQ ci aQ zQ), (wcN ci aN_0 aN_1 aN_2 aN_3 aN_4 zN), (wcI ci aI_0 aI_1 aI_2 aJ zI), (wcJ ci aJ zJ), (wcT ci aT_0 zT), (wcM ci aM zM)]) H := hP
  have hD : va_D A (fl [(wcX aX_0 aR_0 aG_0 aS_0 aP_0 aN_0 aI_0 aT_0 zX), (wcR ci aR_0 aR_1 aRG_0 aRS_0 zR), (wcG ci aRG_0 aRG_1 aRG_2 aRG_3 aRG_4 zRG), (wcS ci aRS_0 aRS_1 zRS), (wcG ci aG_0 aG_1 aG_2 aG_3 aG_4 zG), (wcS ci aS_0 aS_1 zS), (wcP ci aP_0 aP_1 aQ zP), (wcQ ci aQ zQ), (wcN ci aN_0 aN_1 aN_2 aN_3 aN_4 zN), (wcI ci aI_0 aI_1 aI_2 aJ zI), (wcJ ci aJ zJ), (wcT ci aT_0 zT), (wcM ci aM zM)]) := hD
  refine lv_aload_n hx hb dL_law_482 rfl (lv_at hl 1 rfl) ?_
  refine lv_aload_n hx hb dL_law_483 rfl (lv_at hl 3 rfl) ?_
  refine lv_iload_n hx hb dL_law_484 rfl (lv_at hl 0 rfl) ?_
  refine lv_iconst (v := 1) hx hb dL_law_485 (by decide) ?_
  refine lv_iadd hx hb dL_law_486 ?_
  refine va_sld hx hb hX hbl hbA hS (sc_in 1 k L hk5 hL320 (by omega)) dL_law_487 ?_
  refine W.eq (g2 := F0 m 488 ls [.int a1, .ref (aM 0), .int r_1]) (by rw [sc_at1 k L xs hk5 hL320, ha1]) ?_
  refine lv_aload_n hx hb dL_law_488 rfl (lv_at hl 3 rfl) ?_
  refine lv_iload_n hx hb dL_law_489 rfl (lv_at hl 0 rfl) ?_
  refine lv_iconst (v := 2) hx hb dL_law_490 (by decide) ?_
  refine lv_iadd hx hb dL_law_491 ?_
  refine va_sld hx hb hX hbl hbA hS (sc_in 2 k L hk5 hL320 (by omega)) dL_law_492 ?_
  refine W.eq (g2 := F0 m 493 ls [.int a2, .int a1, .ref (aM 0), .int r_1]) (by rw [sc_at2 k L xs hk5 hL320, ha2]) ?_
  refine lv_aload_n hx hb dL_law_493 rfl (lv_at hl 3 rfl) ?_
  refine lv_iload_n hx hb dL_law_494 rfl (lv_at hl 0 rfl) ?_
  refine lv_iconst (v := 3) hx hb dL_law_495 (by decide) ?_
  refine lv_iadd hx hb dL_law_496 ?_
  refine va_sld hx hb hX hbl hbA hS (sc_in 3 k L hk5 hL320 (by omega)) dL_law_497 ?_
  refine W.eq (g2 := F0 m 498 ls [.int a3, .int a2, .int a1, .ref (aM 0), .int r_1]) (by rw [sc_at3 k L xs hk5 hL320, ha3]) ?_
  refine lv_aload_n hx hb dL_law_498 rfl (lv_at hl 3 rfl) ?_
  refine lv_iload_n hx hb dL_law_499 rfl (lv_at hl 0 rfl) ?_
  refine lv_iconst (v := 4) hx hb dL_law_500 (by decide) ?_
  refine lv_iadd hx hb dL_law_501 ?_
  refine va_sld hx hb hX hbl hbA hS (sc_in 4 k L hk5 hL320 (by omega)) dL_law_502 ?_
  refine W.eq (g2 := F0 m 503 ls [.int a4, .int a3, .int a2, .int a1, .ref (aM 0), .int r_1]) (by rw [sc_at4 k L xs hk5 hL320, ha4]) ?_
  replace hF := bnd hF
  obtain ⟨q_6, hc_5, hF⟩ := hF
  obtain ⟨r_3, er_3⟩ : ∃ y : Int32, y = q_6.1 := ⟨_, rfl⟩
  replace hF := nm_i hF er_3
  obtain ⟨zM_4, ezM_4⟩ : ∃ y : MS, y = q_6.2 := ⟨_, rfl⟩
  replace hF := nm_i hF ezM_4
  obtain rfl : q_6 = (r_3, zM_4) := by rw [er_3, ezM_4]
  clear er_3
  clear ezM_4
  refine cl_Ci (As := [.int a1, .int a2, .int a3, .int a4]) (rest := [.int r_1]) (csC := [(wcM ci aM zM)]) (csR := [(wcX aX_0 aR_0 aG_0 aS_0 aP_0 aN_0 aI_0 aT_0 zX), (wcR ci aR_0 aR_1 aRG_0 aRS_0 zR), (wcG ci aRG_0 aRG_1 aRG_2 aRG_3 aRG_4 zRG), (wcS ci aRS_0 aRS_1 zRS), (wcG ci aG_0 aG_1 aG_2 aG_3 aG_4 zG), (wcS ci aS_0 aS_1 zS), (wcP ci aP_0 aP_1 aQ zP), (wcQ ci aQ zQ), (wcN ci aN_0 aN_1 aN_2 aN_3 aN_4 zN), (wcI ci aI_0 aI_1 aI_2 aJ zI), (wcJ ci aJ zJ), (wcT ci aT_0 zT)]) (csC1 := [(wcM ci aM zM_4)]) (csN := [(wcX aX_0 aR_0 aG_0 aS_0 aP_0 aN_0 aI_0 aT_0 zX), (wcR ci aR_0 aR_1 aRG_0 aRS_0 zR), (wcG ci aRG_0 aRG_1 aRG_2 aRG_3 aRG_4 zRG), (wcS ci aRS_0 aRS_1 zRS), (wcG ci aG_0 aG_1 aG_2 aG_3 aG_4 zG), (wcS ci aS_0 aS_1 zS), (wcP ci aP_0 aP_1 aQ zP), (wcQ ci aQ zQ), (wcN ci aN_0 aN_1 aN_2 aN_3 aN_4 zN), (wcI ci aI_0 aI_1 aI_2 aJ zI), (wcJ ci aJ zJ), (wcT ci aT_0 zT), (wcM ci aM zM_4)]) ⟨hx, hb, hml, hown, hts⟩ (cwV 4 hts gL_law_X7_slips rfl rfl rfl (by decide +kernel) ⟨Nat.le_of_ble_eq_true rfl, Nat.le_of_ble_eq_true rfl⟩) (c_X7_slips l D ci aM H.size zM a1 a2 a3 a4 _ hc_5) hK hP hD hS hA [0, 1, 2, 3, 4, 5, 6, 7, 8, 9, 10, 11, 12] [0, 1, 2, 3, 4, 5, 6, 7, 8, 9, 10, 11, 12] rfl rfl (by decide) (by decide) (by simp only [fl, List.append_nil]) (by simp only [fl, List.append_nil]) 0 rfl rfl rfl rfl hl.1 (Nat.le_of_ble_eq_true rfl) dL_law_503 (Nat.le_of_ble_eq_true rfl) (Nat.le_of_ble_eq_true rfl) (fun H locs hP hD hS => ?_)
  have hP : va_P D vwCl (fl [(wcX aX_0 aR_0 aG_0 aS_0 aP_0 aN_0 aI_0 aT_0 zX), (wcR ci aR_0 aR_1 aRG_0 aRS_0 zR), (wcG ci aRG_0 aRG_1 aRG_2 aRG_3 aRG_4 zRG), (wcS ci aRS_0 aRS_1 zRS), (wcG ci aG_0 aG_1 aG_2 aG_3 aG_4 zG), (wcS ci aS_0 aS_1 zS), (wcP ci aP_0 aP_1 aQ zP), (wcQ ci aQ zQ), (wcN ci aN_0 aN_1 aN_2 aN_3 aN_4 zN), (wcI ci aI_0 aI_1 aI_2 aJ zI), (wcJ ci aJ zJ), (wcT ci aT_0 zT), (wcM ci aM zM_4)]) H := hP
  have hD : va_D A (fl [(wcX aX_0 aR_0 aG_0 aS_0 aP_0 aN_0 aI_0 aT_0 zX), (wcR ci aR_0 aR_1 aRG_0 aRS_0 zR), (wcG ci aRG_0 aRG_1 aRG_2 aRG_3 aRG_4 zRG), (wcS ci aRS_0 aRS_1 zRS), (wcG ci aG_0 aG_1 aG_2 aG_3 aG_4 zG), (wcS ci aS_0 aS_1 zS), (wcP ci aP_0 aP_1 aQ zP), (wcQ ci aQ zQ), (wcN ci aN_0 aN_1 aN_2 aN_3 aN_4 zN), (wcI ci aI_0 aI_1 aI_2 aJ zI), (wcJ ci aJ zJ), (wcT ci aT_0 zT), (wcM ci aM zM_4)]) := hD
  refine lv_icmp_eq (tgt := 853) hx hb dL_law_506 (by decide) (fun c_7 => ?_) (fun c_7 => ?_)
  · replace hF := if_i c_7 hF
    obtain rfl := Option.some.inj hF
    exact kont H locs ls hP hD hS (lv_sub hl [0, 1, 2, 3] rfl)
  · replace hF := if_o c_7 hF
    refine lv_iconst (v := 0) hx hb dL_law_509 (by decide) ?_
    exact absurd hF (fun h => no_none h)
noncomputable def sp_13 (zX : XS) (zR : RS) (zRG : GS) (zRS : SS) (zG : GS) (zS : SS) (zP : PS) (zQ : QS) (zN : NS) (zI : IS) (zJ : QS) (zT : TS) (zM : MS) (a1 : Int32) (a2 : Int32) : Option ZZ := (f_X6_decides zX zG zS a1 a2).bind fun r_1 => (f_X7_decides zM a1 a2).bind fun q_6 => nm q_6.1 fun r_3 => nm q_6.2 fun zM_4 => if r_1 = r_3 then (some (zX, zR, zRG, zRS, zG, zS, zP, zQ, zN, zI, zJ, zT, zM_4)) else (none)
set_option maxHeartbeats 8000000 in
set_option maxRecDepth 200000 in
theorem lc_13 {p : Program} {l : Launch} {e : Env} {s : State} {m : MethodId} {below : List Frame} {meth : Method} {c : Code} {Q : State → Prop} {b L k : Nat} {xs : Nat → Int32} {D : va_G} {ci : Nat → ClassId} (hx : p.tables.exec = Jvm.exec) (hb : c.code = cL_law) (hml : c.maxLocals = 4) (hown : s.vm.findClass RL = some m.cls) (hts : ∀ w ∈ wsL_law, w.before #[Value.ref b] s = true) (hX : va_X b L xs s s.heap) (hbl : b < s.heap.size) (hL320 : L ≤ 320) (hk5 : k + 5 ≤ L) (hK : va_K D vwCl (tyL ci) s) (aX_0 : Nat) (aR_0 : Nat) (aG_0 : Nat) (aS_0 : Nat) (aP_0 : Nat) (aN_0 : Nat) (aI_0 : Nat) (aT_0 : Nat) (aR_1 : Nat) (aRG_0 : Nat) (aRS_0 : Nat) (aRG_1 : Nat) (aRG_2 : Nat) (aRG_3 : Nat) (aRG_4 : Nat) (aRS_1 : Nat) (aG_1 : Nat) (aG_2 : Nat) (aG_3 : Nat) (aG_4 : Nat) (aS_1 : Nat) (aP_1 : Nat) (aQ : Nat → Nat) (aN_1 : Nat) (aN_2 : Nat) (aN_3 : Nat) (aN_4 : Nat) (aI_1 : Nat) (aI_2 : Nat) (aJ : Nat → Nat) (aM : Nat → Nat) (zX : XS) (zR : RS) (zRG : GS) (zRS : SS) (zG : GS) (zS : SS) (zP : PS) (zQ : QS) (zN : NS) (zI : IS) (zJ : QS) (zT : TS) (zM : MS) (a1 : Int32) (a2 : Int32) (ha1 : xs (k + 1) = a1) (ha2 : xs (k + 2) = a2) (res : ZZ) (hF : sp_13 zX zR zRG zRS zG zS zP zQ zN zI zJ zT zM a1 a2 = some res) (H : Heap) (locs : List Loc) (ls : Array Slot) (hP : va_P D vwCl (fl [(wcX aX_0 aR_0 aG_0 aS_0 aP_0 aN_0 aI_0 aT_0 zX), (wcR ci aR_0 aR_1 aRG_0 aRS_0 zR), (wcG ci aRG_0 aRG_1 aRG_2 aRG_3 aRG_4 zRG), (wcS ci aRS_0 aRS_1 zRS), (wcG ci aG_0 aG_1 aG_2 aG_3 aG_4 zG), (wcS ci aS_0 aS_1 zS), (wcP ci aP_0 aP_1 aQ zP), (wcQ ci aQ zQ), (wcN ci aN_0 aN_1 aN_2 aN_3 aN_4 zN), (wcI ci aI_0 aI_1 aI_2 aJ zI), (wcJ ci aJ zJ), (wcT ci aT_0 zT), (wcM ci aM zM)]) H) (hD : va_D (fun q : Nat => s.heap.size ≤ q) (fl [(wcX aX_0 aR_0 aG_0 aS_0 aP_0 aN_0 aI_0 aT_0 zX), (wcR ci aR_0 aR_1 aRG_0 aRS_0 zR), (wcG ci aRG_0 aRG_1 aRG_2 aRG_3 aRG_4 zRG), (wcS ci aRS_0 aRS_1 zRS), (wcG ci aG_0 aG_1 aG_2 aG_3 aG_4 zG), (wcS ci aS_0 aS_1 zS), (wcP ci aP_0 aP_1 aQ zP), (wcQ ci aQ zQ), (wcN ci aN_0 aN_1 aN_2 aN_3 aN_4 zN), (wcI ci aI_0 aI_1 aI_2 aJ zI), (wcJ ci aJ zJ), (wcT ci aT_0 zT), (wcM ci aM zM)])) (hS : va_S (fun q : Nat => s.heap.size ≤ q) s.heap H locs) (hl : lv_has ls 4 [(3, .int (nI k)), (2, .ref (aM 0)), (1, .ref aX_0), (0, .ref b)]) (kont : ∀ (H : Heap) (locs : List Loc) (ls : Array Slot), va_P D vwCl (fl [(wcX aX_0 aR_0 aG_0 aS_0 aP_0 aN_0 aI_0 aT_0 res.1), (wcR ci aR_0 aR_1 aRG_0 aRS_0 res.2.1), (wcG ci aRG_0 aRG_1 aRG_2 aRG_3 aRG_4 res.2.2.1), (wcS ci aRS_0 aRS_1 res.2.2.2.1), (wcG ci aG_0 aG_1 aG_2 aG_3 aG_4 res.2.2.2.2.1), (wcS ci aS_0 aS_1 res.2.2.2.2.2.1), (wcP ci aP_0 aP_1 aQ res.2.2.2.2.2.2.1), (wcQ ci aQ res.2.2.2.2.2.2.2.1), (wcN ci aN_0 aN_1 aN_2 aN_3 aN_4 res.2.2.2.2.2.2.2.2.1), (wcI ci aI_0 aI_1 aI_2 aJ res.2.2.2.2.2.2.2.2.2.1), (wcJ ci aJ res.2.2.2.2.2.2.2.2.2.2.1), (wcT ci aT_0 res.2.2.2.2.2.2.2.2.2.2.2.1), (wcM ci aM res.2.2.2.2.2.2.2.2.2.2.2.2)]) H → va_D (fun q : Nat => s.heap.size ≤ q) (fl [(wcX aX_0 aR_0 aG_0 aS_0 aP_0 aN_0 aI_0 aT_0 res.1), (wcR ci aR_0 aR_1 aRG_0 aRS_0 res.2.1), (wcG ci aRG_0 aRG_1 aRG_2 aRG_3 aRG_4 res.2.2.1), (wcS ci aRS_0 aRS_1 res.2.2.2.1), (wcG ci aG_0 aG_1 aG_2 aG_3 aG_4 res.2.2.2.2.1), (wcS ci aS_0 aS_1 res.2.2.2.2.2.1), (wcP ci aP_0 aP_1 aQ res.2.2.2.2.2.2.1), (wcQ ci aQ res.2.2.2.2.2.2.2.1), (wcN ci aN_0 aN_1 aN_2 aN_3 aN_4 res.2.2.2.2.2.2.2.2.1), (wcI ci aI_0 aI_1 aI_2 aJ res.2.2.2.2.2.2.2.2.2.1), (wcJ ci aJ res.2.2.2.2.2.2.2.2.2.2.1), (wcT ci aT_0 res.2.2.2.2.2.2.2.2.2.2.2.1), (wcM ci aM res.2.2.2.2.2.2.2.2.2.2.2.2)]) → va_S (fun q : Nat => s.heap.size ≤ q) s.heap H locs → lv_has ls 4 [(3, .int (nI k)), (2, .ref (aM 0)), (1, .ref aX_0), (0, .ref b)] → W p l e room_1 s m #[Value.ref b] below meth c H locs 96 5513 Q (F0 m 853 ls [])) : W p l e room_1 s m #[Value.ref b] below meth c H locs 96 5513 Q (F0 m 511 ls []) := by
  obtain ⟨A, hAe⟩ : ∃ A : Nat → Prop, A = (fun q : Nat => s.heap.size ≤ q) := ⟨_, rfl⟩
  rw [← hAe] at hD hS kont
  have hA : ∀ q : Nat, s.heap.size ≤ q → A q := fun q h => by rw [hAe]; exact h
  have hbA : ¬ A b := by rw [hAe]; exact Nat.not_le.mpr hbl
  clear hAe
  unfold sp_13 at hF
  refine lv_aload_n hx hb dL_law_511 rfl (lv_at hl 2 rfl) ?_
  refine lv_aload_n hx hb dL_law_512 rfl (lv_at hl 3 rfl) ?_
  refine lv_iload_n hx hb dL_law_513 rfl (lv_at hl 0 rfl) ?_
  refine lv_iconst (v := 1) hx hb dL_law_514 (by decide) ?_
  refine lv_iadd hx hb dL_law_515 ?_
  refine va_sld hx hb hX hbl hbA hS (sc_in 1 k L hk5 hL320 (by omega)) dL_law_516 ?_
  refine W.eq (g2 := F0 m 517 ls [.int a1, .ref aX_0]) (by rw [sc_at1 k L xs hk5 hL320, ha1]) ?_
  refine lv_aload_n hx hb dL_law_517 rfl (lv_at hl 3 rfl) ?_
  refine lv_iload_n hx hb dL_law_518 rfl (lv_at hl 0 rfl) ?_
  refine lv_iconst (v := 2) hx hb dL_law_519 (by decide) ?_
  refine lv_iadd hx hb dL_law_520 ?_
  refine va_sld hx hb hX hbl hbA hS (sc_in 2 k L hk5 hL320 (by omega)) dL_law_521 ?_
  refine W.eq (g2 := F0 m 522 ls [.int a2, .int a1, .ref aX_0]) (by rw [sc_at2 k L xs hk5 hL320, ha2]) ?_
  replace hF := bnd hF
  obtain ⟨r_1, hc_2, hF⟩ := hF
  refine cl_Ci (As := [.int a1, .int a2]) (rest := []) (csC := [(wcX aX_0 aR_0 aG_0 aS_0 aP_0 aN_0 aI_0 aT_0 zX), (wcG ci aG_0 aG_1 aG_2 aG_3 aG_4 zG), (wcS ci aS_0 aS_1 zS)]) (csR := [(wcR ci aR_0 aR_1 aRG_0 aRS_0 zR), (wcG ci aRG_0 aRG_1 aRG_2 aRG_3 aRG_4 zRG), (wcS ci aRS_0 aRS_1 zRS), (wcP ci aP_0 aP_1 aQ zP), (wcQ ci aQ zQ), (wcN ci aN_0 aN_1 aN_2 aN_3 aN_4 zN), (wcI ci aI_0 aI_1 aI_2 aJ zI), (wcJ ci aJ zJ), (wcT ci aT_0 zT), (wcM ci aM zM)]) (csC1 := [(wcX aX_0 aR_0 aG_0 aS_0 aP_0 aN_0 aI_0 aT_0 zX), (wcG ci aG_0 aG_1 aG_2 aG_3 aG_4 zG), (wcS ci aS_0 aS_1 zS)]) (csN := [(wcX aX_0 aR_0 aG_0 aS_0 aP_0 aN_0 aI_0 aT_0 zX), (wcR ci aR_0 aR_1 aRG_0 aRS_0 zR), (wcG ci aRG_0 aRG_1 aRG_2 aRG_3 aRG_4 zRG), (wcS ci aRS_0 aRS_1 zRS), (wcG ci aG_0 aG_1 aG_2 aG_3 aG_4 zG), (wcS ci aS_0 aS_1 zS), (wcP ci aP_0 aP_1 aQ zP), (wcQ ci aQ zQ), (wcN ci aN_0 aN_1 aN_2 aN_3 aN_4 zN), (wcI ci aI_0 aI_1 aI_2 aJ zI), (wcJ ci aJ zJ), (wcT ci aT_0 zT), (wcM ci aM zM)]) ⟨hx, hb, hml, hown, hts⟩ (cwV 2 hts gL_law_X6_decides rfl rfl rfl (by decide +kernel) ⟨Nat.le_of_ble_eq_true rfl, Nat.le_of_ble_eq_true rfl⟩) (c_X6_decides l D ci aX_0 aR_0 aG_0 aS_0 aP_0 aN_0 aI_0 aT_0 aG_1 aG_2 aG_3 aG_4 aS_1 H.size zX zG zS a1 a2 _ hc_2) hK hP hD hS hA [1, 2, 3, 6, 7, 8, 9, 10, 11, 12, 0, 4, 5] [10, 0, 1, 2, 11, 12, 3, 4, 5, 6, 7, 8, 9] rfl rfl (by decide) (by decide) (by simp only [fl, List.append_nil]) (by simp only [fl, List.append_nil]) 0 rfl rfl rfl rfl hl.1 (Nat.le_of_ble_eq_true rfl) dL_law_522 (Nat.le_of_ble_eq_true rfl) (Nat.le_of_ble_eq_true rfl) (fun H locs hP hD hS => ?_)
  have hP : va_P D vwCl (fl [(wcX aX_0 aR_0 aG_0 aS_0 aP_0 aN_0 aI_0 aT_0 zX), (wcR ci aR_0 aR_1 aRG_0 aRS_0 zR), (wcG ci aRG_0 aRG_1 aRG_2 aRG_3 aRG_4 zRG), (wcS ci aRS_0 aRS_1 zRS), (wcG ci aG_0 aG_1 aG_2 aG_3 aG_4 zG), (wcS ci aS_0 aS_1 zS), (wcP ci aP_0 aP_1 aQ zP), (wcQ ci aQ zQ), (wcN ci aN_0 aN_1 aN_2 aN_3 aN_4 zN), (wcI ci aI_0 aI_1 aI_2 aJ zI), (wcJ ci aJ zJ), (wcT ci aT_0 zT), (wcM ci aM zM)]) H := hP
  have hD : va_D A (fl [(wcX aX_0 aR_0 aG_0 aS_0 aP_0 aN_0 aI_0 aT_0 zX), (wcR ci aR_0 aR_1 aRG_0 aRS_0 zR), (wcG ci aRG_0 aRG_1 aRG_2 aRG_3 aRG_4 zRG), (wcS ci aRS_0 aRS_1 zRS), (wcG ci aG_0 aG_1 aG_2 aG_3 aG_4 zG), (wcS ci aS_0 aS_1 zS), (wcP ci aP_0 aP_1 aQ zP), (wcQ ci aQ zQ), (wcN ci aN_0 aN_1 aN_2 aN_3 aN_4 zN), (wcI ci aI_0 aI_1 aI_2 aJ zI), (wcJ ci aJ zJ), (wcT ci aT_0 zT), (wcM ci aM zM)]) := hD
  refine lv_aload_n hx hb dL_law_525 rfl (lv_at hl 1 rfl) ?_
  refine lv_aload_n hx hb dL_law_526 rfl (lv_at hl 3 rfl) ?_
  refine lv_iload_n hx hb dL_law_527 rfl (lv_at hl 0 rfl) ?_
  refine lv_iconst (v := 1) hx hb dL_law_528 (by decide) ?_
  refine lv_iadd hx hb dL_law_529 ?_
  refine va_sld hx hb hX hbl hbA hS (sc_in 1 k L hk5 hL320 (by omega)) dL_law_530 ?_
  refine W.eq (g2 := F0 m 531 ls [.int a1, .ref (aM 0), .int r_1]) (by rw [sc_at1 k L xs hk5 hL320, ha1]) ?_
  refine lv_aload_n hx hb dL_law_531 rfl (lv_at hl 3 rfl) ?_
  refine lv_iload_n hx hb dL_law_532 rfl (lv_at hl 0 rfl) ?_
  refine lv_iconst (v := 2) hx hb dL_law_533 (by decide) ?_
  refine lv_iadd hx hb dL_law_534 ?_
  refine va_sld hx hb hX hbl hbA hS (sc_in 2 k L hk5 hL320 (by omega)) dL_law_535 ?_
  refine W.eq (g2 := F0 m 536 ls [.int a2, .int a1, .ref (aM 0), .int r_1]) (by rw [sc_at2 k L xs hk5 hL320, ha2]) ?_
  replace hF := bnd hF
  obtain ⟨q_6, hc_5, hF⟩ := hF
  obtain ⟨r_3, er_3⟩ : ∃ y : Int32, y = q_6.1 := ⟨_, rfl⟩
  replace hF := nm_i hF er_3
  obtain ⟨zM_4, ezM_4⟩ : ∃ y : MS, y = q_6.2 := ⟨_, rfl⟩
  replace hF := nm_i hF ezM_4
  obtain rfl : q_6 = (r_3, zM_4) := by rw [er_3, ezM_4]
  clear er_3
  clear ezM_4
  refine cl_Ci (As := [.int a1, .int a2]) (rest := [.int r_1]) (csC := [(wcM ci aM zM)]) (csR := [(wcX aX_0 aR_0 aG_0 aS_0 aP_0 aN_0 aI_0 aT_0 zX), (wcR ci aR_0 aR_1 aRG_0 aRS_0 zR), (wcG ci aRG_0 aRG_1 aRG_2 aRG_3 aRG_4 zRG), (wcS ci aRS_0 aRS_1 zRS), (wcG ci aG_0 aG_1 aG_2 aG_3 aG_4 zG), (wcS ci aS_0 aS_1 zS), (wcP ci aP_0 aP_1 aQ zP), (wcQ ci aQ zQ), (wcN ci aN_0 aN_1 aN_2 aN_3 aN_4 zN), (wcI ci aI_0 aI_1 aI_2 aJ zI), (wcJ ci aJ zJ), (wcT ci aT_0 zT)]) (csC1 := [(wcM ci aM zM_4)]) (csN := [(wcX aX_0 aR_0 aG_0 aS_0 aP_0 aN_0 aI_0 aT_0 zX), (wcR ci aR_0 aR_1 aRG_0 aRS_0 zR), (wcG ci aRG_0 aRG_1 aRG_2 aRG_3 aRG_4 zRG), (wcS ci aRS_0 aRS_1 zRS), (wcG ci aG_0 aG_1 aG_2 aG_3 aG_4 zG), (wcS ci aS_0 aS_1 zS), (wcP ci aP_0 aP_1 aQ zP), (wcQ ci aQ zQ), (wcN ci aN_0 aN_1 aN_2 aN_3 aN_4 zN), (wcI ci aI_0 aI_1 aI_2 aJ zI), (wcJ ci aJ zJ), (wcT ci aT_0 zT), (wcM ci aM zM_4)]) ⟨hx, hb, hml, hown, hts⟩ (cwV 2 hts gL_law_X7_decides rfl rfl rfl (by decide +kernel) ⟨Nat.le_of_ble_eq_true rfl, Nat.le_of_ble_eq_true rfl⟩) (c_X7_decides l D ci aM H.size zM a1 a2 _ hc_5) hK hP hD hS hA [0, 1, 2, 3, 4, 5, 6, 7, 8, 9, 10, 11, 12] [0, 1, 2, 3, 4, 5, 6, 7, 8, 9, 10, 11, 12] rfl rfl (by decide) (by decide) (by simp only [fl, List.append_nil]) (by simp only [fl, List.append_nil]) 0 rfl rfl rfl rfl hl.1 (Nat.le_of_ble_eq_true rfl) dL_law_536 (Nat.le_of_ble_eq_true rfl) (Nat.le_of_ble_eq_true rfl) (fun H locs hP hD hS => ?_)
  have hP : va_P D vwCl (fl [(wcX aX_0 aR_0 aG_0 aS_0 aP_0 aN_0 aI_0 aT_0 zX), (wcR ci aR_0 aR_1 aRG_0 aRS_0 zR), (wcG ci aRG_0 aRG_1 aRG_2 aRG_3 aRG_4 zRG), (wcS ci aRS_0 aRS_1 zRS), (wcG ci aG_0 aG_1 aG_2 aG_3 aG_4 zG), (wcS ci aS_0 aS_1 zS), (wcP ci aP_0 aP_1 aQ zP), (wcQ ci aQ zQ), (wcN ci aN_0 aN_1 aN_2 aN_3 aN_4 zN), (wcI ci aI_0 aI_1 aI_2 aJ zI), (wcJ ci aJ zJ), (wcT ci aT_0 zT), (wcM ci aM zM_4)]) H := hP
  have hD : va_D A (fl [(wcX aX_0 aR_0 aG_0 aS_0 aP_0 aN_0 aI_0 aT_0 zX), (wcR ci aR_0 aR_1 aRG_0 aRS_0 zR), (wcG ci aRG_0 aRG_1 aRG_2 aRG_3 aRG_4 zRG), (wcS ci aRS_0 aRS_1 zRS), (wcG ci aG_0 aG_1 aG_2 aG_3 aG_4 zG), (wcS ci aS_0 aS_1 zS), (wcP ci aP_0 aP_1 aQ zP), (wcQ ci aQ zQ), (wcN ci aN_0 aN_1 aN_2 aN_3 aN_4 zN), (wcI ci aI_0 aI_1 aI_2 aJ zI), (wcJ ci aJ zJ), (wcT ci aT_0 zT), (wcM ci aM zM_4)]) := hD
  refine lv_icmp_eq (tgt := 853) hx hb dL_law_539 (by decide) (fun c_7 => ?_) (fun c_7 => ?_)
  · replace hF := if_i c_7 hF
    obtain rfl := Option.some.inj hF
    exact kont H locs ls hP hD hS (lv_sub hl [0, 1, 2, 3] rfl)
  · replace hF := if_o c_7 hF
    refine lv_iconst (v := 0) hx hb dL_law_542 (by decide) ?_
    exact absurd hF (fun h => no_none h)
noncomputable def sp_14 (zX : XS) (zR : RS) (zRG : GS) (zRS : SS) (zG : GS) (zS : SS) (zP : PS) (zQ : QS) (zN : NS) (zI : IS) (zJ : QS) (zT : TS) (zM : MS) (a1 : Int32) : Option ZZ := (f_X6_tallIn zX zG zS a1).bind fun r_1 => (f_X7_tallIn zM a1).bind fun r_3 => if r_1 = r_3 then (some (zX, zR, zRG, zRS, zG, zS, zP, zQ, zN, zI, zJ, zT, zM)) else (none)
set_option maxHeartbeats 8000000 in
set_option maxRecDepth 200000 in
theorem lc_14 {p : Program} {l : Launch} {e : Env} {s : State} {m : MethodId} {below : List Frame} {meth : Method} {c : Code} {Q : State → Prop} {b L k : Nat} {xs : Nat → Int32} {D : va_G} {ci : Nat → ClassId} (hx : p.tables.exec = Jvm.exec) (hb : c.code = cL_law) (hml : c.maxLocals = 4) (hown : s.vm.findClass RL = some m.cls) (hts : ∀ w ∈ wsL_law, w.before #[Value.ref b] s = true) (hX : va_X b L xs s s.heap) (hbl : b < s.heap.size) (hL320 : L ≤ 320) (hk5 : k + 5 ≤ L) (hK : va_K D vwCl (tyL ci) s) (aX_0 : Nat) (aR_0 : Nat) (aG_0 : Nat) (aS_0 : Nat) (aP_0 : Nat) (aN_0 : Nat) (aI_0 : Nat) (aT_0 : Nat) (aR_1 : Nat) (aRG_0 : Nat) (aRS_0 : Nat) (aRG_1 : Nat) (aRG_2 : Nat) (aRG_3 : Nat) (aRG_4 : Nat) (aRS_1 : Nat) (aG_1 : Nat) (aG_2 : Nat) (aG_3 : Nat) (aG_4 : Nat) (aS_1 : Nat) (aP_1 : Nat) (aQ : Nat → Nat) (aN_1 : Nat) (aN_2 : Nat) (aN_3 : Nat) (aN_4 : Nat) (aI_1 : Nat) (aI_2 : Nat) (aJ : Nat → Nat) (aM : Nat → Nat) (zX : XS) (zR : RS) (zRG : GS) (zRS : SS) (zG : GS) (zS : SS) (zP : PS) (zQ : QS) (zN : NS) (zI : IS) (zJ : QS) (zT : TS) (zM : MS) (a1 : Int32) (ha1 : xs (k + 1) = a1) (res : ZZ) (hF : sp_14 zX zR zRG zRS zG zS zP zQ zN zI zJ zT zM a1 = some res) (H : Heap) (locs : List Loc) (ls : Array Slot) (hP : va_P D vwCl (fl [(wcX aX_0 aR_0 aG_0 aS_0 aP_0 aN_0 aI_0 aT_0 zX), (wcR ci aR_0 aR_1 aRG_0 aRS_0 zR), (wcG ci aRG_0 aRG_1 aRG_2 aRG_3 aRG_4 zRG), (wcS ci aRS_0 aRS_1 zRS), (wcG ci aG_0 aG_1 aG_2 aG_3 aG_4 zG), (wcS ci aS_0 aS_1 zS), (wcP ci aP_0 aP_1 aQ zP), (wcQ ci aQ zQ), (wcN ci aN_0 aN_1 aN_2 aN_3 aN_4 zN), (wcI ci aI_0 aI_1 aI_2 aJ zI), (wcJ ci aJ zJ), (wcT ci aT_0 zT), (wcM ci aM zM)]) H) (hD : va_D (fun q : Nat => s.heap.size ≤ q) (fl [(wcX aX_0 aR_0 aG_0 aS_0 aP_0 aN_0 aI_0 aT_0 zX), (wcR ci aR_0 aR_1 aRG_0 aRS_0 zR), (wcG ci aRG_0 aRG_1 aRG_2 aRG_3 aRG_4 zRG), (wcS ci aRS_0 aRS_1 zRS), (wcG ci aG_0 aG_1 aG_2 aG_3 aG_4 zG), (wcS ci aS_0 aS_1 zS), (wcP ci aP_0 aP_1 aQ zP), (wcQ ci aQ zQ), (wcN ci aN_0 aN_1 aN_2 aN_3 aN_4 zN), (wcI ci aI_0 aI_1 aI_2 aJ zI), (wcJ ci aJ zJ), (wcT ci aT_0 zT), (wcM ci aM zM)])) (hS : va_S (fun q : Nat => s.heap.size ≤ q) s.heap H locs) (hl : lv_has ls 4 [(3, .int (nI k)), (2, .ref (aM 0)), (1, .ref aX_0), (0, .ref b)]) (kont : ∀ (H : Heap) (locs : List Loc) (ls : Array Slot), va_P D vwCl (fl [(wcX aX_0 aR_0 aG_0 aS_0 aP_0 aN_0 aI_0 aT_0 res.1), (wcR ci aR_0 aR_1 aRG_0 aRS_0 res.2.1), (wcG ci aRG_0 aRG_1 aRG_2 aRG_3 aRG_4 res.2.2.1), (wcS ci aRS_0 aRS_1 res.2.2.2.1), (wcG ci aG_0 aG_1 aG_2 aG_3 aG_4 res.2.2.2.2.1), (wcS ci aS_0 aS_1 res.2.2.2.2.2.1), (wcP ci aP_0 aP_1 aQ res.2.2.2.2.2.2.1), (wcQ ci aQ res.2.2.2.2.2.2.2.1), (wcN ci aN_0 aN_1 aN_2 aN_3 aN_4 res.2.2.2.2.2.2.2.2.1), (wcI ci aI_0 aI_1 aI_2 aJ res.2.2.2.2.2.2.2.2.2.1), (wcJ ci aJ res.2.2.2.2.2.2.2.2.2.2.1), (wcT ci aT_0 res.2.2.2.2.2.2.2.2.2.2.2.1), (wcM ci aM res.2.2.2.2.2.2.2.2.2.2.2.2)]) H → va_D (fun q : Nat => s.heap.size ≤ q) (fl [(wcX aX_0 aR_0 aG_0 aS_0 aP_0 aN_0 aI_0 aT_0 res.1), (wcR ci aR_0 aR_1 aRG_0 aRS_0 res.2.1), (wcG ci aRG_0 aRG_1 aRG_2 aRG_3 aRG_4 res.2.2.1), (wcS ci aRS_0 aRS_1 res.2.2.2.1), (wcG ci aG_0 aG_1 aG_2 aG_3 aG_4 res.2.2.2.2.1), (wcS ci aS_0 aS_1 res.2.2.2.2.2.1), (wcP ci aP_0 aP_1 aQ res.2.2.2.2.2.2.1), (wcQ ci aQ res.2.2.2.2.2.2.2.1), (wcN ci aN_0 aN_1 aN_2 aN_3 aN_4 res.2.2.2.2.2.2.2.2.1), (wcI ci aI_0 aI_1 aI_2 aJ res.2.2.2.2.2.2.2.2.2.1), (wcJ ci aJ res.2.2.2.2.2.2.2.2.2.2.1), (wcT ci aT_0 res.2.2.2.2.2.2.2.2.2.2.2.1), (wcM ci aM res.2.2.2.2.2.2.2.2.2.2.2.2)]) → va_S (fun q : Nat => s.heap.size ≤ q) s.heap H locs → lv_has ls 4 [(3, .int (nI k)), (2, .ref (aM 0)), (1, .ref aX_0), (0, .ref b)] → W p l e room_1 s m #[Value.ref b] below meth c H locs 96 5513 Q (F0 m 853 ls [])) : W p l e room_1 s m #[Value.ref b] below meth c H locs 96 5513 Q (F0 m 544 ls []) := by
  obtain ⟨A, hAe⟩ : ∃ A : Nat → Prop, A = (fun q : Nat => s.heap.size ≤ q) := ⟨_, rfl⟩
  rw [← hAe] at hD hS kont
  have hA : ∀ q : Nat, s.heap.size ≤ q → A q := fun q h => by rw [hAe]; exact h
  have hbA : ¬ A b := by rw [hAe]; exact Nat.not_le.mpr hbl
  clear hAe
  unfold sp_14 at hF
  refine lv_aload_n hx hb dL_law_544 rfl (lv_at hl 2 rfl) ?_
  refine lv_aload_n hx hb dL_law_545 rfl (lv_at hl 3 rfl) ?_
  refine lv_iload_n hx hb dL_law_546 rfl (lv_at hl 0 rfl) ?_
  refine lv_iconst (v := 1) hx hb dL_law_547 (by decide) ?_
  refine lv_iadd hx hb dL_law_548 ?_
  refine va_sld hx hb hX hbl hbA hS (sc_in 1 k L hk5 hL320 (by omega)) dL_law_549 ?_
  refine W.eq (g2 := F0 m 550 ls [.int a1, .ref aX_0]) (by rw [sc_at1 k L xs hk5 hL320, ha1]) ?_
  replace hF := bnd hF
  obtain ⟨r_1, hc_2, hF⟩ := hF
  refine cl_Ci (As := [.int a1]) (rest := []) (csC := [(wcX aX_0 aR_0 aG_0 aS_0 aP_0 aN_0 aI_0 aT_0 zX), (wcG ci aG_0 aG_1 aG_2 aG_3 aG_4 zG), (wcS ci aS_0 aS_1 zS)]) (csR := [(wcR ci aR_0 aR_1 aRG_0 aRS_0 zR), (wcG ci aRG_0 aRG_1 aRG_2 aRG_3 aRG_4 zRG), (wcS ci aRS_0 aRS_1 zRS), (wcP ci aP_0 aP_1 aQ zP), (wcQ ci aQ zQ), (wcN ci aN_0 aN_1 aN_2 aN_3 aN_4 zN), (wcI ci aI_0 aI_1 aI_2 aJ zI), (wcJ ci aJ zJ), (wcT ci aT_0 zT), (wcM ci aM zM)]) (csC1 := [(wcX aX_0 aR_0 aG_0 aS_0 aP_0 aN_0 aI_0 aT_0 zX), (wcG ci aG_0 aG_1 aG_2 aG_3 aG_4 zG), (wcS ci aS_0 aS_1 zS)]) (csN := [(wcX aX_0 aR_0 aG_0 aS_0 aP_0 aN_0 aI_0 aT_0 zX), (wcR ci aR_0 aR_1 aRG_0 aRS_0 zR), (wcG ci aRG_0 aRG_1 aRG_2 aRG_3 aRG_4 zRG), (wcS ci aRS_0 aRS_1 zRS), (wcG ci aG_0 aG_1 aG_2 aG_3 aG_4 zG), (wcS ci aS_0 aS_1 zS), (wcP ci aP_0 aP_1 aQ zP), (wcQ ci aQ zQ), (wcN ci aN_0 aN_1 aN_2 aN_3 aN_4 zN), (wcI ci aI_0 aI_1 aI_2 aJ zI), (wcJ ci aJ zJ), (wcT ci aT_0 zT), (wcM ci aM zM)]) ⟨hx, hb, hml, hown, hts⟩ (cwV 1 hts gL_law_X6_tallIn rfl rfl rfl (by decide +kernel) ⟨Nat.le_of_ble_eq_true rfl, Nat.le_of_ble_eq_true rfl⟩) (c_X6_tallIn l D ci aX_0 aR_0 aG_0 aS_0 aP_0 aN_0 aI_0 aT_0 aG_1 aG_2 aG_3 aG_4 aS_1 H.size zX zG zS a1 _ hc_2) hK hP hD hS hA [1, 2, 3, 6, 7, 8, 9, 10, 11, 12, 0, 4, 5] [10, 0, 1, 2, 11, 12, 3, 4, 5, 6, 7, 8, 9] rfl rfl (by decide) (by decide) (by simp only [fl, List.append_nil]) (by simp only [fl, List.append_nil]) 0 rfl rfl rfl rfl hl.1 (Nat.le_of_ble_eq_true rfl) dL_law_550 (Nat.le_of_ble_eq_true rfl) (Nat.le_of_ble_eq_true rfl) (fun H locs hP hD hS => ?_)
  have hP : va_P D vwCl (fl [(wcX aX_0 aR_0 aG_0 aS_0 aP_0 aN_0 aI_0 aT_0 zX), (wcR ci aR_0 aR_1 aRG_0 aRS_0 zR), (wcG ci aRG_0 aRG_1 aRG_2 aRG_3 aRG_4 zRG), (wcS ci aRS_0 aRS_1 zRS), (wcG ci aG_0 aG_1 aG_2 aG_3 aG_4 zG), (wcS ci aS_0 aS_1 zS), (wcP ci aP_0 aP_1 aQ zP), (wcQ ci aQ zQ), (wcN ci aN_0 aN_1 aN_2 aN_3 aN_4 zN), (wcI ci aI_0 aI_1 aI_2 aJ zI), (wcJ ci aJ zJ), (wcT ci aT_0 zT), (wcM ci aM zM)]) H := hP
  have hD : va_D A (fl [(wcX aX_0 aR_0 aG_0 aS_0 aP_0 aN_0 aI_0 aT_0 zX), (wcR ci aR_0 aR_1 aRG_0 aRS_0 zR), (wcG ci aRG_0 aRG_1 aRG_2 aRG_3 aRG_4 zRG), (wcS ci aRS_0 aRS_1 zRS), (wcG ci aG_0 aG_1 aG_2 aG_3 aG_4 zG), (wcS ci aS_0 aS_1 zS), (wcP ci aP_0 aP_1 aQ zP), (wcQ ci aQ zQ), (wcN ci aN_0 aN_1 aN_2 aN_3 aN_4 zN), (wcI ci aI_0 aI_1 aI_2 aJ zI), (wcJ ci aJ zJ), (wcT ci aT_0 zT), (wcM ci aM zM)]) := hD
  refine lv_aload_n hx hb dL_law_553 rfl (lv_at hl 1 rfl) ?_
  refine lv_aload_n hx hb dL_law_554 rfl (lv_at hl 3 rfl) ?_
  refine lv_iload_n hx hb dL_law_555 rfl (lv_at hl 0 rfl) ?_
  refine lv_iconst (v := 1) hx hb dL_law_556 (by decide) ?_
  refine lv_iadd hx hb dL_law_557 ?_
  refine va_sld hx hb hX hbl hbA hS (sc_in 1 k L hk5 hL320 (by omega)) dL_law_558 ?_
  refine W.eq (g2 := F0 m 559 ls [.int a1, .ref (aM 0), .int r_1]) (by rw [sc_at1 k L xs hk5 hL320, ha1]) ?_
  replace hF := bnd hF
  obtain ⟨r_3, hc_4, hF⟩ := hF
  refine cl_Ci (As := [.int a1]) (rest := [.int r_1]) (csC := [(wcM ci aM zM)]) (csR := [(wcX aX_0 aR_0 aG_0 aS_0 aP_0 aN_0 aI_0 aT_0 zX), (wcR ci aR_0 aR_1 aRG_0 aRS_0 zR), (wcG ci aRG_0 aRG_1 aRG_2 aRG_3 aRG_4 zRG), (wcS ci aRS_0 aRS_1 zRS), (wcG ci aG_0 aG_1 aG_2 aG_3 aG_4 zG), (wcS ci aS_0 aS_1 zS), (wcP ci aP_0 aP_1 aQ zP), (wcQ ci aQ zQ), (wcN ci aN_0 aN_1 aN_2 aN_3 aN_4 zN), (wcI ci aI_0 aI_1 aI_2 aJ zI), (wcJ ci aJ zJ), (wcT ci aT_0 zT)]) (csC1 := [(wcM ci aM zM)]) (csN := [(wcX aX_0 aR_0 aG_0 aS_0 aP_0 aN_0 aI_0 aT_0 zX), (wcR ci aR_0 aR_1 aRG_0 aRS_0 zR), (wcG ci aRG_0 aRG_1 aRG_2 aRG_3 aRG_4 zRG), (wcS ci aRS_0 aRS_1 zRS), (wcG ci aG_0 aG_1 aG_2 aG_3 aG_4 zG), (wcS ci aS_0 aS_1 zS), (wcP ci aP_0 aP_1 aQ zP), (wcQ ci aQ zQ), (wcN ci aN_0 aN_1 aN_2 aN_3 aN_4 zN), (wcI ci aI_0 aI_1 aI_2 aJ zI), (wcJ ci aJ zJ), (wcT ci aT_0 zT), (wcM ci aM zM)]) ⟨hx, hb, hml, hown, hts⟩ (cwV 1 hts gL_law_X7_tallIn rfl rfl rfl (by decide +kernel) ⟨Nat.le_of_ble_eq_true rfl, Nat.le_of_ble_eq_true rfl⟩) (c_X7_tallIn l D ci aM H.size zM a1 _ hc_4) hK hP hD hS hA [0, 1, 2, 3, 4, 5, 6, 7, 8, 9, 10, 11, 12] [0, 1, 2, 3, 4, 5, 6, 7, 8, 9, 10, 11, 12] rfl rfl (by decide) (by decide) (by simp only [fl, List.append_nil]) (by simp only [fl, List.append_nil]) 0 rfl rfl rfl rfl hl.1 (Nat.le_of_ble_eq_true rfl) dL_law_559 (Nat.le_of_ble_eq_true rfl) (Nat.le_of_ble_eq_true rfl) (fun H locs hP hD hS => ?_)
  have hP : va_P D vwCl (fl [(wcX aX_0 aR_0 aG_0 aS_0 aP_0 aN_0 aI_0 aT_0 zX), (wcR ci aR_0 aR_1 aRG_0 aRS_0 zR), (wcG ci aRG_0 aRG_1 aRG_2 aRG_3 aRG_4 zRG), (wcS ci aRS_0 aRS_1 zRS), (wcG ci aG_0 aG_1 aG_2 aG_3 aG_4 zG), (wcS ci aS_0 aS_1 zS), (wcP ci aP_0 aP_1 aQ zP), (wcQ ci aQ zQ), (wcN ci aN_0 aN_1 aN_2 aN_3 aN_4 zN), (wcI ci aI_0 aI_1 aI_2 aJ zI), (wcJ ci aJ zJ), (wcT ci aT_0 zT), (wcM ci aM zM)]) H := hP
  have hD : va_D A (fl [(wcX aX_0 aR_0 aG_0 aS_0 aP_0 aN_0 aI_0 aT_0 zX), (wcR ci aR_0 aR_1 aRG_0 aRS_0 zR), (wcG ci aRG_0 aRG_1 aRG_2 aRG_3 aRG_4 zRG), (wcS ci aRS_0 aRS_1 zRS), (wcG ci aG_0 aG_1 aG_2 aG_3 aG_4 zG), (wcS ci aS_0 aS_1 zS), (wcP ci aP_0 aP_1 aQ zP), (wcQ ci aQ zQ), (wcN ci aN_0 aN_1 aN_2 aN_3 aN_4 zN), (wcI ci aI_0 aI_1 aI_2 aJ zI), (wcJ ci aJ zJ), (wcT ci aT_0 zT), (wcM ci aM zM)]) := hD
  refine lv_icmp_eq (tgt := 853) hx hb dL_law_562 (by decide) (fun c_5 => ?_) (fun c_5 => ?_)
  · replace hF := if_i c_5 hF
    obtain rfl := Option.some.inj hF
    exact kont H locs ls hP hD hS (lv_sub hl [0, 1, 2, 3] rfl)
  · replace hF := if_o c_5 hF
    refine lv_iconst (v := 0) hx hb dL_law_565 (by decide) ?_
    exact absurd hF (fun h => no_none h)
noncomputable def sp_15 (zX : XS) (zR : RS) (zRG : GS) (zRS : SS) (zG : GS) (zS : SS) (zP : PS) (zQ : QS) (zN : NS) (zI : IS) (zJ : QS) (zT : TS) (zM : MS) (a1 : Int32) (a2 : Int32) : Option ZZ := (f_X6_walk zX zG zS a1 a2).bind fun r_1 => (f_X7_walk zM a1 a2).bind fun r_3 => if r_1 = r_3 then (some (zX, zR, zRG, zRS, zG, zS, zP, zQ, zN, zI, zJ, zT, zM)) else (none)
set_option maxHeartbeats 8000000 in
set_option maxRecDepth 200000 in
theorem lc_15 {p : Program} {l : Launch} {e : Env} {s : State} {m : MethodId} {below : List Frame} {meth : Method} {c : Code} {Q : State → Prop} {b L k : Nat} {xs : Nat → Int32} {D : va_G} {ci : Nat → ClassId} (hx : p.tables.exec = Jvm.exec) (hb : c.code = cL_law) (hml : c.maxLocals = 4) (hown : s.vm.findClass RL = some m.cls) (hts : ∀ w ∈ wsL_law, w.before #[Value.ref b] s = true) (hX : va_X b L xs s s.heap) (hbl : b < s.heap.size) (hL320 : L ≤ 320) (hk5 : k + 5 ≤ L) (hK : va_K D vwCl (tyL ci) s) (aX_0 : Nat) (aR_0 : Nat) (aG_0 : Nat) (aS_0 : Nat) (aP_0 : Nat) (aN_0 : Nat) (aI_0 : Nat) (aT_0 : Nat) (aR_1 : Nat) (aRG_0 : Nat) (aRS_0 : Nat) (aRG_1 : Nat) (aRG_2 : Nat) (aRG_3 : Nat) (aRG_4 : Nat) (aRS_1 : Nat) (aG_1 : Nat) (aG_2 : Nat) (aG_3 : Nat) (aG_4 : Nat) (aS_1 : Nat) (aP_1 : Nat) (aQ : Nat → Nat) (aN_1 : Nat) (aN_2 : Nat) (aN_3 : Nat) (aN_4 : Nat) (aI_1 : Nat) (aI_2 : Nat) (aJ : Nat → Nat) (aM : Nat → Nat) (zX : XS) (zR : RS) (zRG : GS) (zRS : SS) (zG : GS) (zS : SS) (zP : PS) (zQ : QS) (zN : NS) (zI : IS) (zJ : QS) (zT : TS) (zM : MS) (a1 : Int32) (a2 : Int32) (ha1 : xs (k + 1) = a1) (ha2 : xs (k + 2) = a2) (res : ZZ) (hF : sp_15 zX zR zRG zRS zG zS zP zQ zN zI zJ zT zM a1 a2 = some res) (H : Heap) (locs : List Loc) (ls : Array Slot) (hP : va_P D vwCl (fl [(wcX aX_0 aR_0 aG_0 aS_0 aP_0 aN_0 aI_0 aT_0 zX), (wcR ci aR_0 aR_1 aRG_0 aRS_0 zR), (wcG ci aRG_0 aRG_1 aRG_2 aRG_3 aRG_4 zRG), (wcS ci aRS_0 aRS_1 zRS), (wcG ci aG_0 aG_1 aG_2 aG_3 aG_4 zG), (wcS ci aS_0 aS_1 zS), (wcP ci aP_0 aP_1 aQ zP), (wcQ ci aQ zQ), (wcN ci aN_0 aN_1 aN_2 aN_3 aN_4 zN), (wcI ci aI_0 aI_1 aI_2 aJ zI), (wcJ ci aJ zJ), (wcT ci aT_0 zT), (wcM ci aM zM)]) H) (hD : va_D (fun q : Nat => s.heap.size ≤ q) (fl [(wcX aX_0 aR_0 aG_0 aS_0 aP_0 aN_0 aI_0 aT_0 zX), (wcR ci aR_0 aR_1 aRG_0 aRS_0 zR), (wcG ci aRG_0 aRG_1 aRG_2 aRG_3 aRG_4 zRG), (wcS ci aRS_0 aRS_1 zRS), (wcG ci aG_0 aG_1 aG_2 aG_3 aG_4 zG), (wcS ci aS_0 aS_1 zS), (wcP ci aP_0 aP_1 aQ zP), (wcQ ci aQ zQ), (wcN ci aN_0 aN_1 aN_2 aN_3 aN_4 zN), (wcI ci aI_0 aI_1 aI_2 aJ zI), (wcJ ci aJ zJ), (wcT ci aT_0 zT), (wcM ci aM zM)])) (hS : va_S (fun q : Nat => s.heap.size ≤ q) s.heap H locs) (hl : lv_has ls 4 [(3, .int (nI k)), (2, .ref (aM 0)), (1, .ref aX_0), (0, .ref b)]) (kont : ∀ (H : Heap) (locs : List Loc) (ls : Array Slot), va_P D vwCl (fl [(wcX aX_0 aR_0 aG_0 aS_0 aP_0 aN_0 aI_0 aT_0 res.1), (wcR ci aR_0 aR_1 aRG_0 aRS_0 res.2.1), (wcG ci aRG_0 aRG_1 aRG_2 aRG_3 aRG_4 res.2.2.1), (wcS ci aRS_0 aRS_1 res.2.2.2.1), (wcG ci aG_0 aG_1 aG_2 aG_3 aG_4 res.2.2.2.2.1), (wcS ci aS_0 aS_1 res.2.2.2.2.2.1), (wcP ci aP_0 aP_1 aQ res.2.2.2.2.2.2.1), (wcQ ci aQ res.2.2.2.2.2.2.2.1), (wcN ci aN_0 aN_1 aN_2 aN_3 aN_4 res.2.2.2.2.2.2.2.2.1), (wcI ci aI_0 aI_1 aI_2 aJ res.2.2.2.2.2.2.2.2.2.1), (wcJ ci aJ res.2.2.2.2.2.2.2.2.2.2.1), (wcT ci aT_0 res.2.2.2.2.2.2.2.2.2.2.2.1), (wcM ci aM res.2.2.2.2.2.2.2.2.2.2.2.2)]) H → va_D (fun q : Nat => s.heap.size ≤ q) (fl [(wcX aX_0 aR_0 aG_0 aS_0 aP_0 aN_0 aI_0 aT_0 res.1), (wcR ci aR_0 aR_1 aRG_0 aRS_0 res.2.1), (wcG ci aRG_0 aRG_1 aRG_2 aRG_3 aRG_4 res.2.2.1), (wcS ci aRS_0 aRS_1 res.2.2.2.1), (wcG ci aG_0 aG_1 aG_2 aG_3 aG_4 res.2.2.2.2.1), (wcS ci aS_0 aS_1 res.2.2.2.2.2.1), (wcP ci aP_0 aP_1 aQ res.2.2.2.2.2.2.1), (wcQ ci aQ res.2.2.2.2.2.2.2.1), (wcN ci aN_0 aN_1 aN_2 aN_3 aN_4 res.2.2.2.2.2.2.2.2.1), (wcI ci aI_0 aI_1 aI_2 aJ res.2.2.2.2.2.2.2.2.2.1), (wcJ ci aJ res.2.2.2.2.2.2.2.2.2.2.1), (wcT ci aT_0 res.2.2.2.2.2.2.2.2.2.2.2.1), (wcM ci aM res.2.2.2.2.2.2.2.2.2.2.2.2)]) → va_S (fun q : Nat => s.heap.size ≤ q) s.heap H locs → lv_has ls 4 [(3, .int (nI k)), (2, .ref (aM 0)), (1, .ref aX_0), (0, .ref b)] → W p l e room_1 s m #[Value.ref b] below meth c H locs 96 5513 Q (F0 m 853 ls [])) : W p l e room_1 s m #[Value.ref b] below meth c H locs 96 5513 Q (F0 m 567 ls []) := by
  obtain ⟨A, hAe⟩ : ∃ A : Nat → Prop, A = (fun q : Nat => s.heap.size ≤ q) := ⟨_, rfl⟩
  rw [← hAe] at hD hS kont
  have hA : ∀ q : Nat, s.heap.size ≤ q → A q := fun q h => by rw [hAe]; exact h
  have hbA : ¬ A b := by rw [hAe]; exact Nat.not_le.mpr hbl
  clear hAe
  unfold sp_15 at hF
  refine lv_aload_n hx hb dL_law_567 rfl (lv_at hl 2 rfl) ?_
  refine lv_aload_n hx hb dL_law_568 rfl (lv_at hl 3 rfl) ?_
  refine lv_iload_n hx hb dL_law_569 rfl (lv_at hl 0 rfl) ?_
  refine lv_iconst (v := 1) hx hb dL_law_570 (by decide) ?_
  refine lv_iadd hx hb dL_law_571 ?_
  refine va_sld hx hb hX hbl hbA hS (sc_in 1 k L hk5 hL320 (by omega)) dL_law_572 ?_
  refine W.eq (g2 := F0 m 573 ls [.int a1, .ref aX_0]) (by rw [sc_at1 k L xs hk5 hL320, ha1]) ?_
  refine lv_aload_n hx hb dL_law_573 rfl (lv_at hl 3 rfl) ?_
  refine lv_iload_n hx hb dL_law_574 rfl (lv_at hl 0 rfl) ?_
  refine lv_iconst (v := 2) hx hb dL_law_575 (by decide) ?_
  refine lv_iadd hx hb dL_law_576 ?_
  refine va_sld hx hb hX hbl hbA hS (sc_in 2 k L hk5 hL320 (by omega)) dL_law_577 ?_
  refine W.eq (g2 := F0 m 578 ls [.int a2, .int a1, .ref aX_0]) (by rw [sc_at2 k L xs hk5 hL320, ha2]) ?_
  replace hF := bnd hF
  obtain ⟨r_1, hc_2, hF⟩ := hF
  refine cl_Ci (As := [.int a1, .int a2]) (rest := []) (csC := [(wcX aX_0 aR_0 aG_0 aS_0 aP_0 aN_0 aI_0 aT_0 zX), (wcG ci aG_0 aG_1 aG_2 aG_3 aG_4 zG), (wcS ci aS_0 aS_1 zS)]) (csR := [(wcR ci aR_0 aR_1 aRG_0 aRS_0 zR), (wcG ci aRG_0 aRG_1 aRG_2 aRG_3 aRG_4 zRG), (wcS ci aRS_0 aRS_1 zRS), (wcP ci aP_0 aP_1 aQ zP), (wcQ ci aQ zQ), (wcN ci aN_0 aN_1 aN_2 aN_3 aN_4 zN), (wcI ci aI_0 aI_1 aI_2 aJ zI), (wcJ ci aJ zJ), (wcT ci aT_0 zT), (wcM ci aM zM)]) (csC1 := [(wcX aX_0 aR_0 aG_0 aS_0 aP_0 aN_0 aI_0 aT_0 zX), (wcG ci aG_0 aG_1 aG_2 aG_3 aG_4 zG), (wcS ci aS_0 aS_1 zS)]) (csN := [(wcX aX_0 aR_0 aG_0 aS_0 aP_0 aN_0 aI_0 aT_0 zX), (wcR ci aR_0 aR_1 aRG_0 aRS_0 zR), (wcG ci aRG_0 aRG_1 aRG_2 aRG_3 aRG_4 zRG), (wcS ci aRS_0 aRS_1 zRS), (wcG ci aG_0 aG_1 aG_2 aG_3 aG_4 zG), (wcS ci aS_0 aS_1 zS), (wcP ci aP_0 aP_1 aQ zP), (wcQ ci aQ zQ), (wcN ci aN_0 aN_1 aN_2 aN_3 aN_4 zN), (wcI ci aI_0 aI_1 aI_2 aJ zI), (wcJ ci aJ zJ), (wcT ci aT_0 zT), (wcM ci aM zM)]) ⟨hx, hb, hml, hown, hts⟩ (cwV 2 hts gL_law_X6_walk rfl rfl rfl (by decide +kernel) ⟨Nat.le_of_ble_eq_true rfl, Nat.le_of_ble_eq_true rfl⟩) (c_X6_walk l D ci aX_0 aR_0 aG_0 aS_0 aP_0 aN_0 aI_0 aT_0 aG_1 aG_2 aG_3 aG_4 aS_1 H.size zX zG zS a1 a2 _ hc_2) hK hP hD hS hA [1, 2, 3, 6, 7, 8, 9, 10, 11, 12, 0, 4, 5] [10, 0, 1, 2, 11, 12, 3, 4, 5, 6, 7, 8, 9] rfl rfl (by decide) (by decide) (by simp only [fl, List.append_nil]) (by simp only [fl, List.append_nil]) 0 rfl rfl rfl rfl hl.1 (Nat.le_of_ble_eq_true rfl) dL_law_578 (Nat.le_of_ble_eq_true rfl) (Nat.le_of_ble_eq_true rfl) (fun H locs hP hD hS => ?_)
  have hP : va_P D vwCl (fl [(wcX aX_0 aR_0 aG_0 aS_0 aP_0 aN_0 aI_0 aT_0 zX), (wcR ci aR_0 aR_1 aRG_0 aRS_0 zR), (wcG ci aRG_0 aRG_1 aRG_2 aRG_3 aRG_4 zRG), (wcS ci aRS_0 aRS_1 zRS), (wcG ci aG_0 aG_1 aG_2 aG_3 aG_4 zG), (wcS ci aS_0 aS_1 zS), (wcP ci aP_0 aP_1 aQ zP), (wcQ ci aQ zQ), (wcN ci aN_0 aN_1 aN_2 aN_3 aN_4 zN), (wcI ci aI_0 aI_1 aI_2 aJ zI), (wcJ ci aJ zJ), (wcT ci aT_0 zT), (wcM ci aM zM)]) H := hP
  have hD : va_D A (fl [(wcX aX_0 aR_0 aG_0 aS_0 aP_0 aN_0 aI_0 aT_0 zX), (wcR ci aR_0 aR_1 aRG_0 aRS_0 zR), (wcG ci aRG_0 aRG_1 aRG_2 aRG_3 aRG_4 zRG), (wcS ci aRS_0 aRS_1 zRS), (wcG ci aG_0 aG_1 aG_2 aG_3 aG_4 zG), (wcS ci aS_0 aS_1 zS), (wcP ci aP_0 aP_1 aQ zP), (wcQ ci aQ zQ), (wcN ci aN_0 aN_1 aN_2 aN_3 aN_4 zN), (wcI ci aI_0 aI_1 aI_2 aJ zI), (wcJ ci aJ zJ), (wcT ci aT_0 zT), (wcM ci aM zM)]) := hD
  refine lv_aload_n hx hb dL_law_581 rfl (lv_at hl 1 rfl) ?_
  refine lv_aload_n hx hb dL_law_582 rfl (lv_at hl 3 rfl) ?_
  refine lv_iload_n hx hb dL_law_583 rfl (lv_at hl 0 rfl) ?_
  refine lv_iconst (v := 1) hx hb dL_law_584 (by decide) ?_
  refine lv_iadd hx hb dL_law_585 ?_
  refine va_sld hx hb hX hbl hbA hS (sc_in 1 k L hk5 hL320 (by omega)) dL_law_586 ?_
  refine W.eq (g2 := F0 m 587 ls [.int a1, .ref (aM 0), .int r_1]) (by rw [sc_at1 k L xs hk5 hL320, ha1]) ?_
  refine lv_aload_n hx hb dL_law_587 rfl (lv_at hl 3 rfl) ?_
  refine lv_iload_n hx hb dL_law_588 rfl (lv_at hl 0 rfl) ?_
  refine lv_iconst (v := 2) hx hb dL_law_589 (by decide) ?_
  refine lv_iadd hx hb dL_law_590 ?_
  refine va_sld hx hb hX hbl hbA hS (sc_in 2 k L hk5 hL320 (by omega)) dL_law_591 ?_
  refine W.eq (g2 := F0 m 592 ls [.int a2, .int a1, .ref (aM 0), .int r_1]) (by rw [sc_at2 k L xs hk5 hL320, ha2]) ?_
  replace hF := bnd hF
  obtain ⟨r_3, hc_4, hF⟩ := hF
  refine cl_Ci (As := [.int a1, .int a2]) (rest := [.int r_1]) (csC := [(wcM ci aM zM)]) (csR := [(wcX aX_0 aR_0 aG_0 aS_0 aP_0 aN_0 aI_0 aT_0 zX), (wcR ci aR_0 aR_1 aRG_0 aRS_0 zR), (wcG ci aRG_0 aRG_1 aRG_2 aRG_3 aRG_4 zRG), (wcS ci aRS_0 aRS_1 zRS), (wcG ci aG_0 aG_1 aG_2 aG_3 aG_4 zG), (wcS ci aS_0 aS_1 zS), (wcP ci aP_0 aP_1 aQ zP), (wcQ ci aQ zQ), (wcN ci aN_0 aN_1 aN_2 aN_3 aN_4 zN), (wcI ci aI_0 aI_1 aI_2 aJ zI), (wcJ ci aJ zJ), (wcT ci aT_0 zT)]) (csC1 := [(wcM ci aM zM)]) (csN := [(wcX aX_0 aR_0 aG_0 aS_0 aP_0 aN_0 aI_0 aT_0 zX), (wcR ci aR_0 aR_1 aRG_0 aRS_0 zR), (wcG ci aRG_0 aRG_1 aRG_2 aRG_3 aRG_4 zRG), (wcS ci aRS_0 aRS_1 zRS), (wcG ci aG_0 aG_1 aG_2 aG_3 aG_4 zG), (wcS ci aS_0 aS_1 zS), (wcP ci aP_0 aP_1 aQ zP), (wcQ ci aQ zQ), (wcN ci aN_0 aN_1 aN_2 aN_3 aN_4 zN), (wcI ci aI_0 aI_1 aI_2 aJ zI), (wcJ ci aJ zJ), (wcT ci aT_0 zT), (wcM ci aM zM)]) ⟨hx, hb, hml, hown, hts⟩ (cwV 2 hts gL_law_X7_walk rfl rfl rfl (by decide +kernel) ⟨Nat.le_of_ble_eq_true rfl, Nat.le_of_ble_eq_true rfl⟩) (c_X7_walk l D ci aM H.size zM a1 a2 _ hc_4) hK hP hD hS hA [0, 1, 2, 3, 4, 5, 6, 7, 8, 9, 10, 11, 12] [0, 1, 2, 3, 4, 5, 6, 7, 8, 9, 10, 11, 12] rfl rfl (by decide) (by decide) (by simp only [fl, List.append_nil]) (by simp only [fl, List.append_nil]) 0 rfl rfl rfl rfl hl.1 (Nat.le_of_ble_eq_true rfl) dL_law_592 (Nat.le_of_ble_eq_true rfl) (Nat.le_of_ble_eq_true rfl) (fun H locs hP hD hS => ?_)
  have hP : va_P D vwCl (fl [(wcX aX_0 aR_0 aG_0 aS_0 aP_0 aN_0 aI_0 aT_0 zX), (wcR ci aR_0 aR_1 aRG_0 aRS_0 zR), (wcG ci aRG_0 aRG_1 aRG_2 aRG_3 aRG_4 zRG), (wcS ci aRS_0 aRS_1 zRS), (wcG ci aG_0 aG_1 aG_2 aG_3 aG_4 zG), (wcS ci aS_0 aS_1 zS), (wcP ci aP_0 aP_1 aQ zP), (wcQ ci aQ zQ), (wcN ci aN_0 aN_1 aN_2 aN_3 aN_4 zN), (wcI ci aI_0 aI_1 aI_2 aJ zI), (wcJ ci aJ zJ), (wcT ci aT_0 zT), (wcM ci aM zM)]) H := hP
  have hD : va_D A (fl [(wcX aX_0 aR_0 aG_0 aS_0 aP_0 aN_0 aI_0 aT_0 zX), (wcR ci aR_0 aR_1 aRG_0 aRS_0 zR), (wcG ci aRG_0 aRG_1 aRG_2 aRG_3 aRG_4 zRG), (wcS ci aRS_0 aRS_1 zRS), (wcG ci aG_0 aG_1 aG_2 aG_3 aG_4 zG), (wcS ci aS_0 aS_1 zS), (wcP ci aP_0 aP_1 aQ zP), (wcQ ci aQ zQ), (wcN ci aN_0 aN_1 aN_2 aN_3 aN_4 zN), (wcI ci aI_0 aI_1 aI_2 aJ zI), (wcJ ci aJ zJ), (wcT ci aT_0 zT), (wcM ci aM zM)]) := hD
  refine lv_icmp_eq (tgt := 853) hx hb dL_law_595 (by decide) (fun c_5 => ?_) (fun c_5 => ?_)
  · replace hF := if_i c_5 hF
    obtain rfl := Option.some.inj hF
    exact kont H locs ls hP hD hS (lv_sub hl [0, 1, 2, 3] rfl)
  · replace hF := if_o c_5 hF
    refine lv_iconst (v := 0) hx hb dL_law_598 (by decide) ?_
    exact absurd hF (fun h => no_none h)
noncomputable def sp_16 (zX : XS) (zR : RS) (zRG : GS) (zRS : SS) (zG : GS) (zS : SS) (zP : PS) (zQ : QS) (zN : NS) (zI : IS) (zJ : QS) (zT : TS) (zM : MS) (a1 : Int32) (a2 : Int32) : Option ZZ := (f_X6_turns zX zG zS zT a1 a2).bind fun q_4 => nm q_4.1 fun r_1 => nm q_4.2 fun zT_2 => (f_X7_turns zM a1 a2).bind fun q_8 => nm q_8.1 fun r_5 => nm q_8.2 fun zM_6 => if r_1 = r_5 then (some (zX, zR, zRG, zRS, zG, zS, zP, zQ, zN, zI, zJ, zT_2, zM_6)) else (none)
set_option maxHeartbeats 8000000 in
set_option maxRecDepth 200000 in
theorem lc_16 {p : Program} {l : Launch} {e : Env} {s : State} {m : MethodId} {below : List Frame} {meth : Method} {c : Code} {Q : State → Prop} {b L k : Nat} {xs : Nat → Int32} {D : va_G} {ci : Nat → ClassId} (hx : p.tables.exec = Jvm.exec) (hb : c.code = cL_law) (hml : c.maxLocals = 4) (hown : s.vm.findClass RL = some m.cls) (hts : ∀ w ∈ wsL_law, w.before #[Value.ref b] s = true) (hX : va_X b L xs s s.heap) (hbl : b < s.heap.size) (hL320 : L ≤ 320) (hk5 : k + 5 ≤ L) (hK : va_K D vwCl (tyL ci) s) (aX_0 : Nat) (aR_0 : Nat) (aG_0 : Nat) (aS_0 : Nat) (aP_0 : Nat) (aN_0 : Nat) (aI_0 : Nat) (aT_0 : Nat) (aR_1 : Nat) (aRG_0 : Nat) (aRS_0 : Nat) (aRG_1 : Nat) (aRG_2 : Nat) (aRG_3 : Nat) (aRG_4 : Nat) (aRS_1 : Nat) (aG_1 : Nat) (aG_2 : Nat) (aG_3 : Nat) (aG_4 : Nat) (aS_1 : Nat) (aP_1 : Nat) (aQ : Nat → Nat) (aN_1 : Nat) (aN_2 : Nat) (aN_3 : Nat) (aN_4 : Nat) (aI_1 : Nat) (aI_2 : Nat) (aJ : Nat → Nat) (aM : Nat → Nat) (zX : XS) (zR : RS) (zRG : GS) (zRS : SS) (zG : GS) (zS : SS) (zP : PS) (zQ : QS) (zN : NS) (zI : IS) (zJ : QS) (zT : TS) (zM : MS) (a1 : Int32) (a2 : Int32) (ha1 : xs (k + 1) = a1) (ha2 : xs (k + 2) = a2) (res : ZZ) (hF : sp_16 zX zR zRG zRS zG zS zP zQ zN zI zJ zT zM a1 a2 = some res) (H : Heap) (locs : List Loc) (ls : Array Slot) (hP : va_P D vwCl (fl [(wcX aX_0 aR_0 aG_0 aS_0 aP_0 aN_0 aI_0 aT_0 zX), (wcR ci aR_0 aR_1 aRG_0 aRS_0 zR), (wcG ci aRG_0 aRG_1 aRG_2 aRG_3 aRG_4 zRG), (wcS ci aRS_0 aRS_1 zRS), (wcG ci aG_0 aG_1 aG_2 aG_3 aG_4 zG), (wcS ci aS_0 aS_1 zS), (wcP ci aP_0 aP_1 aQ zP), (wcQ ci aQ zQ), (wcN ci aN_0 aN_1 aN_2 aN_3 aN_4 zN), (wcI ci aI_0 aI_1 aI_2 aJ zI), (wcJ ci aJ zJ), (wcT ci aT_0 zT), (wcM ci aM zM)]) H) (hD : va_D (fun q : Nat => s.heap.size ≤ q) (fl [(wcX aX_0 aR_0 aG_0 aS_0 aP_0 aN_0 aI_0 aT_0 zX), (wcR ci aR_0 aR_1 aRG_0 aRS_0 zR), (wcG ci aRG_0 aRG_1 aRG_2 aRG_3 aRG_4 zRG), (wcS ci aRS_0 aRS_1 zRS), (wcG ci aG_0 aG_1 aG_2 aG_3 aG_4 zG), (wcS ci aS_0 aS_1 zS), (wcP ci aP_0 aP_1 aQ zP), (wcQ ci aQ zQ), (wcN ci aN_0 aN_1 aN_2 aN_3 aN_4 zN), (wcI ci aI_0 aI_1 aI_2 aJ zI), (wcJ ci aJ zJ), (wcT ci aT_0 zT), (wcM ci aM zM)])) (hS : va_S (fun q : Nat => s.heap.size ≤ q) s.heap H locs) (hl : lv_has ls 4 [(3, .int (nI k)), (2, .ref (aM 0)), (1, .ref aX_0), (0, .ref b)]) (kont : ∀ (H : Heap) (locs : List Loc) (ls : Array Slot), va_P D vwCl (fl [(wcX aX_0 aR_0 aG_0 aS_0 aP_0 aN_0 aI_0 aT_0 res.1), (wcR ci aR_0 aR_1 aRG_0 aRS_0 res.2.1), (wcG ci aRG_0 aRG_1 aRG_2 aRG_3 aRG_4 res.2.2.1), (wcS ci aRS_0 aRS_1 res.2.2.2.1), (wcG ci aG_0 aG_1 aG_2 aG_3 aG_4 res.2.2.2.2.1), (wcS ci aS_0 aS_1 res.2.2.2.2.2.1), (wcP ci aP_0 aP_1 aQ res.2.2.2.2.2.2.1), (wcQ ci aQ res.2.2.2.2.2.2.2.1), (wcN ci aN_0 aN_1 aN_2 aN_3 aN_4 res.2.2.2.2.2.2.2.2.1), (wcI ci aI_0 aI_1 aI_2 aJ res.2.2.2.2.2.2.2.2.2.1), (wcJ ci aJ res.2.2.2.2.2.2.2.2.2.2.1), (wcT ci aT_0 res.2.2.2.2.2.2.2.2.2.2.2.1), (wcM ci aM res.2.2.2.2.2.2.2.2.2.2.2.2)]) H → va_D (fun q : Nat => s.heap.size ≤ q) (fl [(wcX aX_0 aR_0 aG_0 aS_0 aP_0 aN_0 aI_0 aT_0 res.1), (wcR ci aR_0 aR_1 aRG_0 aRS_0 res.2.1), (wcG ci aRG_0 aRG_1 aRG_2 aRG_3 aRG_4 res.2.2.1), (wcS ci aRS_0 aRS_1 res.2.2.2.1), (wcG ci aG_0 aG_1 aG_2 aG_3 aG_4 res.2.2.2.2.1), (wcS ci aS_0 aS_1 res.2.2.2.2.2.1), (wcP ci aP_0 aP_1 aQ res.2.2.2.2.2.2.1), (wcQ ci aQ res.2.2.2.2.2.2.2.1), (wcN ci aN_0 aN_1 aN_2 aN_3 aN_4 res.2.2.2.2.2.2.2.2.1), (wcI ci aI_0 aI_1 aI_2 aJ res.2.2.2.2.2.2.2.2.2.1), (wcJ ci aJ res.2.2.2.2.2.2.2.2.2.2.1), (wcT ci aT_0 res.2.2.2.2.2.2.2.2.2.2.2.1), (wcM ci aM res.2.2.2.2.2.2.2.2.2.2.2.2)]) → va_S (fun q : Nat => s.heap.size ≤ q) s.heap H locs → lv_has ls 4 [(3, .int (nI k)), (2, .ref (aM 0)), (1, .ref aX_0), (0, .ref b)] → W p l e room_1 s m #[Value.ref b] below meth c H locs 96 5513 Q (F0 m 853 ls [])) : W p l e room_1 s m #[Value.ref b] below meth c H locs 96 5513 Q (F0 m 600 ls []) := by
  obtain ⟨A, hAe⟩ : ∃ A : Nat → Prop, A = (fun q : Nat => s.heap.size ≤ q) := ⟨_, rfl⟩
  rw [← hAe] at hD hS kont
  have hA : ∀ q : Nat, s.heap.size ≤ q → A q := fun q h => by rw [hAe]; exact h
  have hbA : ¬ A b := by rw [hAe]; exact Nat.not_le.mpr hbl
  clear hAe
  unfold sp_16 at hF
  refine lv_aload_n hx hb dL_law_600 rfl (lv_at hl 2 rfl) ?_
  refine lv_aload_n hx hb dL_law_601 rfl (lv_at hl 3 rfl) ?_
  refine lv_iload_n hx hb dL_law_602 rfl (lv_at hl 0 rfl) ?_
  refine lv_iconst (v := 1) hx hb dL_law_603 (by decide) ?_
  refine lv_iadd hx hb dL_law_604 ?_
  refine va_sld hx hb hX hbl hbA hS (sc_in 1 k L hk5 hL320 (by omega)) dL_law_605 ?_
  refine W.eq (g2 := F0 m 606 ls [.int a1, .ref aX_0]) (by rw [sc_at1 k L xs hk5 hL320, ha1]) ?_
  refine lv_aload_n hx hb dL_law_606 rfl (lv_at hl 3 rfl) ?_
  refine lv_iload_n hx hb dL_law_607 rfl (lv_at hl 0 rfl) ?_
  refine lv_iconst (v := 2) hx hb dL_law_608 (by decide) ?_
  refine lv_iadd hx hb dL_law_609 ?_
  refine va_sld hx hb hX hbl hbA hS (sc_in 2 k L hk5 hL320 (by omega)) dL_law_610 ?_
  refine W.eq (g2 := F0 m 611 ls [.int a2, .int a1, .ref aX_0]) (by rw [sc_at2 k L xs hk5 hL320, ha2]) ?_
  replace hF := bnd hF
  obtain ⟨q_4, hc_3, hF⟩ := hF
  obtain ⟨r_1, er_1⟩ : ∃ y : Int32, y = q_4.1 := ⟨_, rfl⟩
  replace hF := nm_i hF er_1
  obtain ⟨zT_2, ezT_2⟩ : ∃ y : TS, y = q_4.2 := ⟨_, rfl⟩
  replace hF := nm_i hF ezT_2
  obtain rfl : q_4 = (r_1, zT_2) := by rw [er_1, ezT_2]
  clear er_1
  clear ezT_2
  refine cl_Ci (As := [.int a1, .int a2]) (rest := []) (csC := [(wcX aX_0 aR_0 aG_0 aS_0 aP_0 aN_0 aI_0 aT_0 zX), (wcG ci aG_0 aG_1 aG_2 aG_3 aG_4 zG), (wcS ci aS_0 aS_1 zS), (wcT ci aT_0 zT)]) (csR := [(wcR ci aR_0 aR_1 aRG_0 aRS_0 zR), (wcG ci aRG_0 aRG_1 aRG_2 aRG_3 aRG_4 zRG), (wcS ci aRS_0 aRS_1 zRS), (wcP ci aP_0 aP_1 aQ zP), (wcQ ci aQ zQ), (wcN ci aN_0 aN_1 aN_2 aN_3 aN_4 zN), (wcI ci aI_0 aI_1 aI_2 aJ zI), (wcJ ci aJ zJ), (wcM ci aM zM)]) (csC1 := [(wcX aX_0 aR_0 aG_0 aS_0 aP_0 aN_0 aI_0 aT_0 zX), (wcG ci aG_0 aG_1 aG_2 aG_3 aG_4 zG), (wcS ci aS_0 aS_1 zS), (wcT ci aT_0 zT_2)]) (csN := [(wcX aX_0 aR_0 aG_0 aS_0 aP_0 aN_0 aI_0 aT_0 zX), (wcR ci aR_0 aR_1 aRG_0 aRS_0 zR), (wcG ci aRG_0 aRG_1 aRG_2 aRG_3 aRG_4 zRG), (wcS ci aRS_0 aRS_1 zRS), (wcG ci aG_0 aG_1 aG_2 aG_3 aG_4 zG), (wcS ci aS_0 aS_1 zS), (wcP ci aP_0 aP_1 aQ zP), (wcQ ci aQ zQ), (wcN ci aN_0 aN_1 aN_2 aN_3 aN_4 zN), (wcI ci aI_0 aI_1 aI_2 aJ zI), (wcJ ci aJ zJ), (wcT ci aT_0 zT_2), (wcM ci aM zM)]) ⟨hx, hb, hml, hown, hts⟩ (cwV 2 hts gL_law_X6_turns rfl rfl rfl (by decide +kernel) ⟨Nat.le_of_ble_eq_true rfl, Nat.le_of_ble_eq_true rfl⟩) (c_X6_turns l D ci aX_0 aR_0 aG_0 aS_0 aP_0 aN_0 aI_0 aT_0 aG_1 aG_2 aG_3 aG_4 aS_1 H.size zX zG zS zT a1 a2 _ hc_3) hK hP hD hS hA [1, 2, 3, 6, 7, 8, 9, 10, 12, 0, 4, 5, 11] [9, 0, 1, 2, 10, 11, 3, 4, 5, 6, 7, 12, 8] rfl rfl (by decide) (by decide) (by simp only [fl, List.append_nil]) (by simp only [fl, List.append_nil]) 0 rfl rfl rfl rfl hl.1 (Nat.le_of_ble_eq_true rfl) dL_law_611 (Nat.le_of_ble_eq_true rfl) (Nat.le_of_ble_eq_true rfl) (fun H locs hP hD hS => ?_)
  have hP : va_P D vwCl (fl [(wcX aX_0 aR_0 aG_0 aS_0 aP_0 aN_0 aI_0 aT_0 zX), (wcR ci aR_0 aR_1 aRG_0 aRS_0 zR), (wcG ci aRG_0 aRG_1 aRG_2 aRG_3 aRG_4 zRG), (wcS ci aRS_0 aRS_1 zRS), (wcG ci aG_0 aG_1 aG_2 aG_3 aG_4 zG), (wcS ci aS_0 aS_1 zS), (wcP ci aP_0 aP_1 aQ zP), (wcQ ci aQ zQ), (wcN ci aN_0 aN_1 aN_2 aN_3 aN_4 zN), (wcI ci aI_0 aI_1 aI_2 aJ zI), (wcJ ci aJ zJ), (wcT ci aT_0 zT_2), (wcM ci aM zM)]) H := hP
  have hD : va_D A (fl [(wcX aX_0 aR_0 aG_0 aS_0 aP_0 aN_0 aI_0 aT_0 zX), (wcR ci aR_0 aR_1 aRG_0 aRS_0 zR), (wcG ci aRG_0 aRG_1 aRG_2 aRG_3 aRG_4 zRG), (wcS ci aRS_0 aRS_1 zRS), (wcG ci aG_0 aG_1 aG_2 aG_3 aG_4 zG), (wcS ci aS_0 aS_1 zS), (wcP ci aP_0 aP_1 aQ zP), (wcQ ci aQ zQ), (wcN ci aN_0 aN_1 aN_2 aN_3 aN_4 zN), (wcI ci aI_0 aI_1 aI_2 aJ zI), (wcJ ci aJ zJ), (wcT ci aT_0 zT_2), (wcM ci aM zM)]) := hD
  refine lv_aload_n hx hb dL_law_614 rfl (lv_at hl 1 rfl) ?_
  refine lv_aload_n hx hb dL_law_615 rfl (lv_at hl 3 rfl) ?_
  refine lv_iload_n hx hb dL_law_616 rfl (lv_at hl 0 rfl) ?_
  refine lv_iconst (v := 1) hx hb dL_law_617 (by decide) ?_
  refine lv_iadd hx hb dL_law_618 ?_
  refine va_sld hx hb hX hbl hbA hS (sc_in 1 k L hk5 hL320 (by omega)) dL_law_619 ?_
  refine W.eq (g2 := F0 m 620 ls [.int a1, .ref (aM 0), .int r_1]) (by rw [sc_at1 k L xs hk5 hL320, ha1]) ?_
  refine lv_aload_n hx hb dL_law_620 rfl (lv_at hl 3 rfl) ?_
  refine lv_iload_n hx hb dL_law_621 rfl (lv_at hl 0 rfl) ?_
  refine lv_iconst (v := 2) hx hb dL_law_622 (by decide) ?_
  refine lv_iadd hx hb dL_law_623 ?_
  refine va_sld hx hb hX hbl hbA hS (sc_in 2 k L hk5 hL320 (by omega)) dL_law_624 ?_
  refine W.eq (g2 := F0 m 625 ls [.int a2, .int a1, .ref (aM 0), .int r_1]) (by rw [sc_at2 k L xs hk5 hL320, ha2]) ?_
  replace hF := bnd hF
  obtain ⟨q_8, hc_7, hF⟩ := hF
  obtain ⟨r_5, er_5⟩ : ∃ y : Int32, y = q_8.1 := ⟨_, rfl⟩
  replace hF := nm_i hF er_5
  obtain ⟨zM_6, ezM_6⟩ : ∃ y : MS, y = q_8.2 := ⟨_, rfl⟩
  replace hF := nm_i hF ezM_6
  obtain rfl : q_8 = (r_5, zM_6) := by rw [er_5, ezM_6]
  clear er_5
  clear ezM_6
  refine cl_Ci (As := [.int a1, .int a2]) (rest := [.int r_1]) (csC := [(wcM ci aM zM)]) (csR := [(wcX aX_0 aR_0 aG_0 aS_0 aP_0 aN_0 aI_0 aT_0 zX), (wcR ci aR_0 aR_1 aRG_0 aRS_0 zR), (wcG ci aRG_0 aRG_1 aRG_2 aRG_3 aRG_4 zRG), (wcS ci aRS_0 aRS_1 zRS), (wcG ci aG_0 aG_1 aG_2 aG_3 aG_4 zG), (wcS ci aS_0 aS_1 zS), (wcP ci aP_0 aP_1 aQ zP), (wcQ ci aQ zQ), (wcN ci aN_0 aN_1 aN_2 aN_3 aN_4 zN), (wcI ci aI_0 aI_1 aI_2 aJ zI), (wcJ ci aJ zJ), (wcT ci aT_0 zT_2)]) (csC1 := [(wcM ci aM zM_6)]) (csN := [(wcX aX_0 aR_0 aG_0 aS_0 aP_0 aN_0 aI_0 aT_0 zX), (wcR ci aR_0 aR_1 aRG_0 aRS_0 zR), (wcG ci aRG_0 aRG_1 aRG_2 aRG_3 aRG_4 zRG), (wcS ci aRS_0 aRS_1 zRS), (wcG ci aG_0 aG_1 aG_2 aG_3 aG_4 zG), (wcS ci aS_0 aS_1 zS), (wcP ci aP_0 aP_1 aQ zP), (wcQ ci aQ zQ), (wcN ci aN_0 aN_1 aN_2 aN_3 aN_4 zN), (wcI ci aI_0 aI_1 aI_2 aJ zI), (wcJ ci aJ zJ), (wcT ci aT_0 zT_2), (wcM ci aM zM_6)]) ⟨hx, hb, hml, hown, hts⟩ (cwV 2 hts gL_law_X7_turns rfl rfl rfl (by decide +kernel) ⟨Nat.le_of_ble_eq_true rfl, Nat.le_of_ble_eq_true rfl⟩) (c_X7_turns l D ci aM H.size zM a1 a2 _ hc_7) hK hP hD hS hA [0, 1, 2, 3, 4, 5, 6, 7, 8, 9, 10, 11, 12] [0, 1, 2, 3, 4, 5, 6, 7, 8, 9, 10, 11, 12] rfl rfl (by decide) (by decide) (by simp only [fl, List.append_nil]) (by simp only [fl, List.append_nil]) 0 rfl rfl rfl rfl hl.1 (Nat.le_of_ble_eq_true rfl) dL_law_625 (Nat.le_of_ble_eq_true rfl) (Nat.le_of_ble_eq_true rfl) (fun H locs hP hD hS => ?_)
  have hP : va_P D vwCl (fl [(wcX aX_0 aR_0 aG_0 aS_0 aP_0 aN_0 aI_0 aT_0 zX), (wcR ci aR_0 aR_1 aRG_0 aRS_0 zR), (wcG ci aRG_0 aRG_1 aRG_2 aRG_3 aRG_4 zRG), (wcS ci aRS_0 aRS_1 zRS), (wcG ci aG_0 aG_1 aG_2 aG_3 aG_4 zG), (wcS ci aS_0 aS_1 zS), (wcP ci aP_0 aP_1 aQ zP), (wcQ ci aQ zQ), (wcN ci aN_0 aN_1 aN_2 aN_3 aN_4 zN), (wcI ci aI_0 aI_1 aI_2 aJ zI), (wcJ ci aJ zJ), (wcT ci aT_0 zT_2), (wcM ci aM zM_6)]) H := hP
  have hD : va_D A (fl [(wcX aX_0 aR_0 aG_0 aS_0 aP_0 aN_0 aI_0 aT_0 zX), (wcR ci aR_0 aR_1 aRG_0 aRS_0 zR), (wcG ci aRG_0 aRG_1 aRG_2 aRG_3 aRG_4 zRG), (wcS ci aRS_0 aRS_1 zRS), (wcG ci aG_0 aG_1 aG_2 aG_3 aG_4 zG), (wcS ci aS_0 aS_1 zS), (wcP ci aP_0 aP_1 aQ zP), (wcQ ci aQ zQ), (wcN ci aN_0 aN_1 aN_2 aN_3 aN_4 zN), (wcI ci aI_0 aI_1 aI_2 aJ zI), (wcJ ci aJ zJ), (wcT ci aT_0 zT_2), (wcM ci aM zM_6)]) := hD
  refine lv_icmp_eq (tgt := 853) hx hb dL_law_628 (by decide) (fun c_9 => ?_) (fun c_9 => ?_)
  · replace hF := if_i c_9 hF
    obtain rfl := Option.some.inj hF
    exact kont H locs ls hP hD hS (lv_sub hl [0, 1, 2, 3] rfl)
  · replace hF := if_o c_9 hF
    refine lv_iconst (v := 0) hx hb dL_law_631 (by decide) ?_
    exact absurd hF (fun h => no_none h)
noncomputable def sp_17 (zX : XS) (zR : RS) (zRG : GS) (zRS : SS) (zG : GS) (zS : SS) (zP : PS) (zQ : QS) (zN : NS) (zI : IS) (zJ : QS) (zT : TS) (zM : MS) (a1 : Int32) (a2 : Int32) : Option ZZ := (f_X6_birds zX a1 a2).bind fun r_1 => (f_X7_birds zM a1 a2).bind fun r_3 => if r_1 = r_3 then (some (zX, zR, zRG, zRS, zG, zS, zP, zQ, zN, zI, zJ, zT, zM)) else (none)
set_option maxHeartbeats 8000000 in
set_option maxRecDepth 200000 in
theorem lc_17 {p : Program} {l : Launch} {e : Env} {s : State} {m : MethodId} {below : List Frame} {meth : Method} {c : Code} {Q : State → Prop} {b L k : Nat} {xs : Nat → Int32} {D : va_G} {ci : Nat → ClassId} (hx : p.tables.exec = Jvm.exec) (hb : c.code = cL_law) (hml : c.maxLocals = 4) (hown : s.vm.findClass RL = some m.cls) (hts : ∀ w ∈ wsL_law, w.before #[Value.ref b] s = true) (hX : va_X b L xs s s.heap) (hbl : b < s.heap.size) (hL320 : L ≤ 320) (hk5 : k + 5 ≤ L) (hK : va_K D vwCl (tyL ci) s) (aX_0 : Nat) (aR_0 : Nat) (aG_0 : Nat) (aS_0 : Nat) (aP_0 : Nat) (aN_0 : Nat) (aI_0 : Nat) (aT_0 : Nat) (aR_1 : Nat) (aRG_0 : Nat) (aRS_0 : Nat) (aRG_1 : Nat) (aRG_2 : Nat) (aRG_3 : Nat) (aRG_4 : Nat) (aRS_1 : Nat) (aG_1 : Nat) (aG_2 : Nat) (aG_3 : Nat) (aG_4 : Nat) (aS_1 : Nat) (aP_1 : Nat) (aQ : Nat → Nat) (aN_1 : Nat) (aN_2 : Nat) (aN_3 : Nat) (aN_4 : Nat) (aI_1 : Nat) (aI_2 : Nat) (aJ : Nat → Nat) (aM : Nat → Nat) (zX : XS) (zR : RS) (zRG : GS) (zRS : SS) (zG : GS) (zS : SS) (zP : PS) (zQ : QS) (zN : NS) (zI : IS) (zJ : QS) (zT : TS) (zM : MS) (a1 : Int32) (a2 : Int32) (ha1 : xs (k + 1) = a1) (ha2 : xs (k + 2) = a2) (res : ZZ) (hF : sp_17 zX zR zRG zRS zG zS zP zQ zN zI zJ zT zM a1 a2 = some res) (H : Heap) (locs : List Loc) (ls : Array Slot) (hP : va_P D vwCl (fl [(wcX aX_0 aR_0 aG_0 aS_0 aP_0 aN_0 aI_0 aT_0 zX), (wcR ci aR_0 aR_1 aRG_0 aRS_0 zR), (wcG ci aRG_0 aRG_1 aRG_2 aRG_3 aRG_4 zRG), (wcS ci aRS_0 aRS_1 zRS), (wcG ci aG_0 aG_1 aG_2 aG_3 aG_4 zG), (wcS ci aS_0 aS_1 zS), (wcP ci aP_0 aP_1 aQ zP), (wcQ ci aQ zQ), (wcN ci aN_0 aN_1 aN_2 aN_3 aN_4 zN), (wcI ci aI_0 aI_1 aI_2 aJ zI), (wcJ ci aJ zJ), (wcT ci aT_0 zT), (wcM ci aM zM)]) H) (hD : va_D (fun q : Nat => s.heap.size ≤ q) (fl [(wcX aX_0 aR_0 aG_0 aS_0 aP_0 aN_0 aI_0 aT_0 zX), (wcR ci aR_0 aR_1 aRG_0 aRS_0 zR), (wcG ci aRG_0 aRG_1 aRG_2 aRG_3 aRG_4 zRG), (wcS ci aRS_0 aRS_1 zRS), (wcG ci aG_0 aG_1 aG_2 aG_3 aG_4 zG), (wcS ci aS_0 aS_1 zS), (wcP ci aP_0 aP_1 aQ zP), (wcQ ci aQ zQ), (wcN ci aN_0 aN_1 aN_2 aN_3 aN_4 zN), (wcI ci aI_0 aI_1 aI_2 aJ zI), (wcJ ci aJ zJ), (wcT ci aT_0 zT), (wcM ci aM zM)])) (hS : va_S (fun q : Nat => s.heap.size ≤ q) s.heap H locs) (hl : lv_has ls 4 [(3, .int (nI k)), (2, .ref (aM 0)), (1, .ref aX_0), (0, .ref b)]) (kont : ∀ (H : Heap) (locs : List Loc) (ls : Array Slot), va_P D vwCl (fl [(wcX aX_0 aR_0 aG_0 aS_0 aP_0 aN_0 aI_0 aT_0 res.1), (wcR ci aR_0 aR_1 aRG_0 aRS_0 res.2.1), (wcG ci aRG_0 aRG_1 aRG_2 aRG_3 aRG_4 res.2.2.1), (wcS ci aRS_0 aRS_1 res.2.2.2.1), (wcG ci aG_0 aG_1 aG_2 aG_3 aG_4 res.2.2.2.2.1), (wcS ci aS_0 aS_1 res.2.2.2.2.2.1), (wcP ci aP_0 aP_1 aQ res.2.2.2.2.2.2.1), (wcQ ci aQ res.2.2.2.2.2.2.2.1), (wcN ci aN_0 aN_1 aN_2 aN_3 aN_4 res.2.2.2.2.2.2.2.2.1), (wcI ci aI_0 aI_1 aI_2 aJ res.2.2.2.2.2.2.2.2.2.1), (wcJ ci aJ res.2.2.2.2.2.2.2.2.2.2.1), (wcT ci aT_0 res.2.2.2.2.2.2.2.2.2.2.2.1), (wcM ci aM res.2.2.2.2.2.2.2.2.2.2.2.2)]) H → va_D (fun q : Nat => s.heap.size ≤ q) (fl [(wcX aX_0 aR_0 aG_0 aS_0 aP_0 aN_0 aI_0 aT_0 res.1), (wcR ci aR_0 aR_1 aRG_0 aRS_0 res.2.1), (wcG ci aRG_0 aRG_1 aRG_2 aRG_3 aRG_4 res.2.2.1), (wcS ci aRS_0 aRS_1 res.2.2.2.1), (wcG ci aG_0 aG_1 aG_2 aG_3 aG_4 res.2.2.2.2.1), (wcS ci aS_0 aS_1 res.2.2.2.2.2.1), (wcP ci aP_0 aP_1 aQ res.2.2.2.2.2.2.1), (wcQ ci aQ res.2.2.2.2.2.2.2.1), (wcN ci aN_0 aN_1 aN_2 aN_3 aN_4 res.2.2.2.2.2.2.2.2.1), (wcI ci aI_0 aI_1 aI_2 aJ res.2.2.2.2.2.2.2.2.2.1), (wcJ ci aJ res.2.2.2.2.2.2.2.2.2.2.1), (wcT ci aT_0 res.2.2.2.2.2.2.2.2.2.2.2.1), (wcM ci aM res.2.2.2.2.2.2.2.2.2.2.2.2)]) → va_S (fun q : Nat => s.heap.size ≤ q) s.heap H locs → lv_has ls 4 [(3, .int (nI k)), (2, .ref (aM 0)), (1, .ref aX_0), (0, .ref b)] → W p l e room_1 s m #[Value.ref b] below meth c H locs 96 5513 Q (F0 m 853 ls [])) : W p l e room_1 s m #[Value.ref b] below meth c H locs 96 5513 Q (F0 m 633 ls []) := by
  obtain ⟨A, hAe⟩ : ∃ A : Nat → Prop, A = (fun q : Nat => s.heap.size ≤ q) := ⟨_, rfl⟩
  rw [← hAe] at hD hS kont
  have hA : ∀ q : Nat, s.heap.size ≤ q → A q := fun q h => by rw [hAe]; exact h
  have hbA : ¬ A b := by rw [hAe]; exact Nat.not_le.mpr hbl
  clear hAe
  unfold sp_17 at hF
  refine lv_aload_n hx hb dL_law_633 rfl (lv_at hl 2 rfl) ?_
  refine lv_aload_n hx hb dL_law_634 rfl (lv_at hl 3 rfl) ?_
  refine lv_iload_n hx hb dL_law_635 rfl (lv_at hl 0 rfl) ?_
  refine lv_iconst (v := 1) hx hb dL_law_636 (by decide) ?_
  refine lv_iadd hx hb dL_law_637 ?_
  refine va_sld hx hb hX hbl hbA hS (sc_in 1 k L hk5 hL320 (by omega)) dL_law_638 ?_
  refine W.eq (g2 := F0 m 639 ls [.int a1, .ref aX_0]) (by rw [sc_at1 k L xs hk5 hL320, ha1]) ?_
  refine lv_aload_n hx hb dL_law_639 rfl (lv_at hl 3 rfl) ?_
  refine lv_iload_n hx hb dL_law_640 rfl (lv_at hl 0 rfl) ?_
  refine lv_iconst (v := 2) hx hb dL_law_641 (by decide) ?_
  refine lv_iadd hx hb dL_law_642 ?_
  refine va_sld hx hb hX hbl hbA hS (sc_in 2 k L hk5 hL320 (by omega)) dL_law_643 ?_
  refine W.eq (g2 := F0 m 644 ls [.int a2, .int a1, .ref aX_0]) (by rw [sc_at2 k L xs hk5 hL320, ha2]) ?_
  replace hF := bnd hF
  obtain ⟨r_1, hc_2, hF⟩ := hF
  refine cl_Ci (As := [.int a1, .int a2]) (rest := []) (csC := [(wcX aX_0 aR_0 aG_0 aS_0 aP_0 aN_0 aI_0 aT_0 zX)]) (csR := [(wcR ci aR_0 aR_1 aRG_0 aRS_0 zR), (wcG ci aRG_0 aRG_1 aRG_2 aRG_3 aRG_4 zRG), (wcS ci aRS_0 aRS_1 zRS), (wcG ci aG_0 aG_1 aG_2 aG_3 aG_4 zG), (wcS ci aS_0 aS_1 zS), (wcP ci aP_0 aP_1 aQ zP), (wcQ ci aQ zQ), (wcN ci aN_0 aN_1 aN_2 aN_3 aN_4 zN), (wcI ci aI_0 aI_1 aI_2 aJ zI), (wcJ ci aJ zJ), (wcT ci aT_0 zT), (wcM ci aM zM)]) (csC1 := [(wcX aX_0 aR_0 aG_0 aS_0 aP_0 aN_0 aI_0 aT_0 zX)]) (csN := [(wcX aX_0 aR_0 aG_0 aS_0 aP_0 aN_0 aI_0 aT_0 zX), (wcR ci aR_0 aR_1 aRG_0 aRS_0 zR), (wcG ci aRG_0 aRG_1 aRG_2 aRG_3 aRG_4 zRG), (wcS ci aRS_0 aRS_1 zRS), (wcG ci aG_0 aG_1 aG_2 aG_3 aG_4 zG), (wcS ci aS_0 aS_1 zS), (wcP ci aP_0 aP_1 aQ zP), (wcQ ci aQ zQ), (wcN ci aN_0 aN_1 aN_2 aN_3 aN_4 zN), (wcI ci aI_0 aI_1 aI_2 aJ zI), (wcJ ci aJ zJ), (wcT ci aT_0 zT), (wcM ci aM zM)]) ⟨hx, hb, hml, hown, hts⟩ (cwV 2 hts gL_law_X6_birds rfl rfl rfl (by decide +kernel) ⟨Nat.le_of_ble_eq_true rfl, Nat.le_of_ble_eq_true rfl⟩) (c_X6_birds l D ci aX_0 aR_0 aG_0 aS_0 aP_0 aN_0 aI_0 aT_0 H.size zX a1 a2 _ hc_2) hK hP hD hS hA [1, 2, 3, 4, 5, 6, 7, 8, 9, 10, 11, 12, 0] [12, 0, 1, 2, 3, 4, 5, 6, 7, 8, 9, 10, 11] rfl rfl (by decide) (by decide) (by simp only [fl, List.append_nil]) (by simp only [fl, List.append_nil]) 0 rfl rfl rfl rfl hl.1 (Nat.le_of_ble_eq_true rfl) dL_law_644 (Nat.le_of_ble_eq_true rfl) (Nat.le_of_ble_eq_true rfl) (fun H locs hP hD hS => ?_)
  have hP : va_P D vwCl (fl [(wcX aX_0 aR_0 aG_0 aS_0 aP_0 aN_0 aI_0 aT_0 zX), (wcR ci aR_0 aR_1 aRG_0 aRS_0 zR), (wcG ci aRG_0 aRG_1 aRG_2 aRG_3 aRG_4 zRG), (wcS ci aRS_0 aRS_1 zRS), (wcG ci aG_0 aG_1 aG_2 aG_3 aG_4 zG), (wcS ci aS_0 aS_1 zS), (wcP ci aP_0 aP_1 aQ zP), (wcQ ci aQ zQ), (wcN ci aN_0 aN_1 aN_2 aN_3 aN_4 zN), (wcI ci aI_0 aI_1 aI_2 aJ zI), (wcJ ci aJ zJ), (wcT ci aT_0 zT), (wcM ci aM zM)]) H := hP
  have hD : va_D A (fl [(wcX aX_0 aR_0 aG_0 aS_0 aP_0 aN_0 aI_0 aT_0 zX), (wcR ci aR_0 aR_1 aRG_0 aRS_0 zR), (wcG ci aRG_0 aRG_1 aRG_2 aRG_3 aRG_4 zRG), (wcS ci aRS_0 aRS_1 zRS), (wcG ci aG_0 aG_1 aG_2 aG_3 aG_4 zG), (wcS ci aS_0 aS_1 zS), (wcP ci aP_0 aP_1 aQ zP), (wcQ ci aQ zQ), (wcN ci aN_0 aN_1 aN_2 aN_3 aN_4 zN), (wcI ci aI_0 aI_1 aI_2 aJ zI), (wcJ ci aJ zJ), (wcT ci aT_0 zT), (wcM ci aM zM)]) := hD
  refine lv_aload_n hx hb dL_law_647 rfl (lv_at hl 1 rfl) ?_
  refine lv_aload_n hx hb dL_law_648 rfl (lv_at hl 3 rfl) ?_
  refine lv_iload_n hx hb dL_law_649 rfl (lv_at hl 0 rfl) ?_
  refine lv_iconst (v := 1) hx hb dL_law_650 (by decide) ?_
  refine lv_iadd hx hb dL_law_651 ?_
  refine va_sld hx hb hX hbl hbA hS (sc_in 1 k L hk5 hL320 (by omega)) dL_law_652 ?_
  refine W.eq (g2 := F0 m 653 ls [.int a1, .ref (aM 0), .int r_1]) (by rw [sc_at1 k L xs hk5 hL320, ha1]) ?_
  refine lv_aload_n hx hb dL_law_653 rfl (lv_at hl 3 rfl) ?_
  refine lv_iload_n hx hb dL_law_654 rfl (lv_at hl 0 rfl) ?_
  refine lv_iconst (v := 2) hx hb dL_law_655 (by decide) ?_
  refine lv_iadd hx hb dL_law_656 ?_
  refine va_sld hx hb hX hbl hbA hS (sc_in 2 k L hk5 hL320 (by omega)) dL_law_657 ?_
  refine W.eq (g2 := F0 m 658 ls [.int a2, .int a1, .ref (aM 0), .int r_1]) (by rw [sc_at2 k L xs hk5 hL320, ha2]) ?_
  replace hF := bnd hF
  obtain ⟨r_3, hc_4, hF⟩ := hF
  refine cl_Ci (As := [.int a1, .int a2]) (rest := [.int r_1]) (csC := [(wcM ci aM zM)]) (csR := [(wcX aX_0 aR_0 aG_0 aS_0 aP_0 aN_0 aI_0 aT_0 zX), (wcR ci aR_0 aR_1 aRG_0 aRS_0 zR), (wcG ci aRG_0 aRG_1 aRG_2 aRG_3 aRG_4 zRG), (wcS ci aRS_0 aRS_1 zRS), (wcG ci aG_0 aG_1 aG_2 aG_3 aG_4 zG), (wcS ci aS_0 aS_1 zS), (wcP ci aP_0 aP_1 aQ zP), (wcQ ci aQ zQ), (wcN ci aN_0 aN_1 aN_2 aN_3 aN_4 zN), (wcI ci aI_0 aI_1 aI_2 aJ zI), (wcJ ci aJ zJ), (wcT ci aT_0 zT)]) (csC1 := [(wcM ci aM zM)]) (csN := [(wcX aX_0 aR_0 aG_0 aS_0 aP_0 aN_0 aI_0 aT_0 zX), (wcR ci aR_0 aR_1 aRG_0 aRS_0 zR), (wcG ci aRG_0 aRG_1 aRG_2 aRG_3 aRG_4 zRG), (wcS ci aRS_0 aRS_1 zRS), (wcG ci aG_0 aG_1 aG_2 aG_3 aG_4 zG), (wcS ci aS_0 aS_1 zS), (wcP ci aP_0 aP_1 aQ zP), (wcQ ci aQ zQ), (wcN ci aN_0 aN_1 aN_2 aN_3 aN_4 zN), (wcI ci aI_0 aI_1 aI_2 aJ zI), (wcJ ci aJ zJ), (wcT ci aT_0 zT), (wcM ci aM zM)]) ⟨hx, hb, hml, hown, hts⟩ (cwV 2 hts gL_law_X7_birds rfl rfl rfl (by decide +kernel) ⟨Nat.le_of_ble_eq_true rfl, Nat.le_of_ble_eq_true rfl⟩) (c_X7_birds l D ci aM H.size zM a1 a2 _ hc_4) hK hP hD hS hA [0, 1, 2, 3, 4, 5, 6, 7, 8, 9, 10, 11, 12] [0, 1, 2, 3, 4, 5, 6, 7, 8, 9, 10, 11, 12] rfl rfl (by decide) (by decide) (by simp only [fl, List.append_nil]) (by simp only [fl, List.append_nil]) 0 rfl rfl rfl rfl hl.1 (Nat.le_of_ble_eq_true rfl) dL_law_658 (Nat.le_of_ble_eq_true rfl) (Nat.le_of_ble_eq_true rfl) (fun H locs hP hD hS => ?_)
  have hP : va_P D vwCl (fl [(wcX aX_0 aR_0 aG_0 aS_0 aP_0 aN_0 aI_0 aT_0 zX), (wcR ci aR_0 aR_1 aRG_0 aRS_0 zR), (wcG ci aRG_0 aRG_1 aRG_2 aRG_3 aRG_4 zRG), (wcS ci aRS_0 aRS_1 zRS), (wcG ci aG_0 aG_1 aG_2 aG_3 aG_4 zG), (wcS ci aS_0 aS_1 zS), (wcP ci aP_0 aP_1 aQ zP), (wcQ ci aQ zQ), (wcN ci aN_0 aN_1 aN_2 aN_3 aN_4 zN), (wcI ci aI_0 aI_1 aI_2 aJ zI), (wcJ ci aJ zJ), (wcT ci aT_0 zT), (wcM ci aM zM)]) H := hP
  have hD : va_D A (fl [(wcX aX_0 aR_0 aG_0 aS_0 aP_0 aN_0 aI_0 aT_0 zX), (wcR ci aR_0 aR_1 aRG_0 aRS_0 zR), (wcG ci aRG_0 aRG_1 aRG_2 aRG_3 aRG_4 zRG), (wcS ci aRS_0 aRS_1 zRS), (wcG ci aG_0 aG_1 aG_2 aG_3 aG_4 zG), (wcS ci aS_0 aS_1 zS), (wcP ci aP_0 aP_1 aQ zP), (wcQ ci aQ zQ), (wcN ci aN_0 aN_1 aN_2 aN_3 aN_4 zN), (wcI ci aI_0 aI_1 aI_2 aJ zI), (wcJ ci aJ zJ), (wcT ci aT_0 zT), (wcM ci aM zM)]) := hD
  refine lv_icmp_eq (tgt := 853) hx hb dL_law_661 (by decide) (fun c_5 => ?_) (fun c_5 => ?_)
  · replace hF := if_i c_5 hF
    obtain rfl := Option.some.inj hF
    exact kont H locs ls hP hD hS (lv_sub hl [0, 1, 2, 3] rfl)
  · replace hF := if_o c_5 hF
    refine lv_iconst (v := 0) hx hb dL_law_664 (by decide) ?_
    exact absurd hF (fun h => no_none h)

/-! ===== the law's cases: each call of the class and of the reference, the answers held against each other ===== -/
abbrev ZZ : Type := XS × RS × GS × SS × GS × SS × PS × QS × NS × IS × QS × TS × MS
theorem sc_in (j k L : Nat) (h : k + 5 ≤ L) (hL : L ≤ 320) (hj : j < 5) : vp_in (nI k + nI j) L := by rw [nI_add]; exact vp_in_nI (by omega) (by omega)
theorem sc_at (j k L : Nat) (xs : Nat → Int32) (h : k + 5 ≤ L) (hL : L ≤ 320) (hj : j < 5) : xs (nI k + nI j).toNatClampNeg = xs (k + j) := by rw [nI_add, nI_clamp (by omega)]
theorem sc_at1 (k L : Nat) (xs : Nat → Int32) (h : k + 5 ≤ L) (hL : L ≤ 320) : xs (nI k + 1).toNatClampNeg = xs (k + 1) := sc_at 1 k L xs h hL (by omega)
theorem sc_at2 (k L : Nat) (xs : Nat → Int32) (h : k + 5 ≤ L) (hL : L ≤ 320) : xs (nI k + 2).toNatClampNeg = xs (k + 2) := sc_at 2 k L xs h hL (by omega)
theorem sc_at3 (k L : Nat) (xs : Nat → Int32) (h : k + 5 ≤ L) (hL : L ≤ 320) : xs (nI k + 3).toNatClampNeg = xs (k + 3) := sc_at 3 k L xs h hL (by omega)
theorem sc_at4 (k L : Nat) (xs : Nat → Int32) (h : k + 5 ≤ L) (hL : L ≤ 320) : xs (nI k + 4).toNatClampNeg = xs (k + 4) := sc_at 4 k L xs h hL (by omega)
noncomputable def sp_0 (zX : XS) (zR : RS) (zRG : GS) (zRS : SS) (zG : GS) (zS : SS) (zP : PS) (zQ : QS) (zN : NS) (zI : IS) (zJ : QS) (zT : TS) (zM : MS) (a1 : Int32) : Option ZZ := (f_X6_feed zX zR a1).bind fun q_4 => nm q_4.1 fun r_1 => nm q_4.2 fun zR_2 => (f_X7_feed zM a1).bind fun q_8 => nm q_8.1 fun r_5 => nm q_8.2 fun zM_6 => if r_1 = r_5 then (some (zX, zR_2, zRG, zRS, zG, zS, zP, zQ, zN, zI, zJ, zT, zM_6)) else (none)
set_option maxHeartbeats 8000000 in
set_option maxRecDepth 200000 in
theorem lc_0 {p : Program} {l : Launch} {e : Env} {s : State} {m : MethodId} {below : List Frame} {meth : Method} {c : Code} {Q : State → Prop} {b L k : Nat} {xs : Nat → Int32} {D : va_G} {ci : Nat → ClassId} (hx : p.tables.exec = Jvm.exec) (hb : c.code = cL_law) (hml : c.maxLocals = 4) (hown : s.vm.findClass RL = some m.cls) (hts : ∀ w ∈ wsL_law, w.before #[Value.ref b] s = true) (hX : va_X b L xs s s.heap) (hbl : b < s.heap.size) (hL320 : L ≤ 320) (hk5 : k + 5 ≤ L) (hK : va_K D vwCl (tyL ci) s) (aX_0 : Nat) (aR_0 : Nat) (aG_0 : Nat) (aS_0 : Nat) (aP_0 : Nat) (aN_0 : Nat) (aI_0 : Nat) (aT_0 : Nat) (aR_1 : Nat) (aRG_0 : Nat) (aRS_0 : Nat) (aRG_1 : Nat) (aRG_2 : Nat) (aRG_3 : Nat) (aRG_4 : Nat) (aRS_1 : Nat) (aG_1 : Nat) (aG_2 : Nat) (aG_3 : Nat) (aG_4 : Nat) (aS_1 : Nat) (aP_1 : Nat) (aQ : Nat → Nat) (aN_1 : Nat) (aN_2 : Nat) (aN_3 : Nat) (aN_4 : Nat) (aI_1 : Nat) (aI_2 : Nat) (aJ : Nat → Nat) (aM : Nat → Nat) (zX : XS) (zR : RS) (zRG : GS) (zRS : SS) (zG : GS) (zS : SS) (zP : PS) (zQ : QS) (zN : NS) (zI : IS) (zJ : QS) (zT : TS) (zM : MS) (a1 : Int32) (ha1 : xs (k + 1) = a1) (res : ZZ) (hF : sp_0 zX zR zRG zRS zG zS zP zQ zN zI zJ zT zM a1 = some res) (H : Heap) (locs : List Loc) (ls : Array Slot) (hP : va_P D vwCl (fl [(wcX aX_0 aR_0 aG_0 aS_0 aP_0 aN_0 aI_0 aT_0 zX), (wcR ci aR_0 aR_1 aRG_0 aRS_0 zR), (wcG ci aRG_0 aRG_1 aRG_2 aRG_3 aRG_4 zRG), (wcS ci aRS_0 aRS_1 zRS), (wcG ci aG_0 aG_1 aG_2 aG_3 aG_4 zG), (wcS ci aS_0 aS_1 zS), (wcP ci aP_0 aP_1 aQ zP), (wcQ ci aQ zQ), (wcN ci aN_0 aN_1 aN_2 aN_3 aN_4 zN), (wcI ci aI_0 aI_1 aI_2 aJ zI), (wcJ ci aJ zJ), (wcT ci aT_0 zT), (wcM ci aM zM)]) H) (hD : va_D (fun q : Nat => s.heap.size ≤ q) (fl [(wcX aX_0 aR_0 aG_0 aS_0 aP_0 aN_0 aI_0 aT_0 zX), (wcR ci aR_0 aR_1 aRG_0 aRS_0 zR), (wcG ci aRG_0 aRG_1 aRG_2 aRG_3 aRG_4 zRG), (wcS ci aRS_0 aRS_1 zRS), (wcG ci aG_0 aG_1 aG_2 aG_3 aG_4 zG), (wcS ci aS_0 aS_1 zS), (wcP ci aP_0 aP_1 aQ zP), (wcQ ci aQ zQ), (wcN ci aN_0 aN_1 aN_2 aN_3 aN_4 zN), (wcI ci aI_0 aI_1 aI_2 aJ zI), (wcJ ci aJ zJ), (wcT ci aT_0 zT), (wcM ci aM zM)])) (hS : va_S (fun q : Nat => s.heap.size ≤ q) s.heap H locs) (hl : lv_has ls 4 [(3, .int (nI k)), (2, .ref (aM 0)), (1, .ref aX_0), (0, .ref b)]) (kont : ∀ (H : Heap) (locs : List Loc) (ls : Array Slot), va_P D vwCl (fl [(wcX aX_0 aR_0 aG_0 aS_0 aP_0 aN_0 aI_0 aT_0 res.1), (wcR ci aR_0 aR_1 aRG_0 aRS_0 res.2.1), (wcG ci aRG_0 aRG_1 aRG_2 aRG_3 aRG_4 res.2.2.1), (wcS ci aRS_0 aRS_1 res.2.2.2.1), (wcG ci aG_0 aG_1 aG_2 aG_3 aG_4 res.2.2.2.2.1), (wcS ci aS_0 aS_1 res.2.2.2.2.2.1), (wcP ci aP_0 aP_1 aQ res.2.2.2.2.2.2.1), (wcQ ci aQ res.2.2.2.2.2.2.2.1), (wcN ci aN_0 aN_1 aN_2 aN_3 aN_4 res.2.2.2.2.2.2.2.2.1), (wcI ci aI_0 aI_1 aI_2 aJ res.2.2.2.2.2.2.2.2.2.1), (wcJ ci aJ res.2.2.2.2.2.2.2.2.2.2.1), (wcT ci aT_0 res.2.2.2.2.2.2.2.2.2.2.2.1), (wcM ci aM res.2.2.2.2.2.2.2.2.2.2.2.2)]) H → va_D (fun q : Nat => s.heap.size ≤ q) (fl [(wcX aX_0 aR_0 aG_0 aS_0 aP_0 aN_0 aI_0 aT_0 res.1), (wcR ci aR_0 aR_1 aRG_0 aRS_0 res.2.1), (wcG ci aRG_0 aRG_1 aRG_2 aRG_3 aRG_4 res.2.2.1), (wcS ci aRS_0 aRS_1 res.2.2.2.1), (wcG ci aG_0 aG_1 aG_2 aG_3 aG_4 res.2.2.2.2.1), (wcS ci aS_0 aS_1 res.2.2.2.2.2.1), (wcP ci aP_0 aP_1 aQ res.2.2.2.2.2.2.1), (wcQ ci aQ res.2.2.2.2.2.2.2.1), (wcN ci aN_0 aN_1 aN_2 aN_3 aN_4 res.2.2.2.2.2.2.2.2.1), (wcI ci aI_0 aI_1 aI_2 aJ res.2.2.2.2.2.2.2.2.2.1), (wcJ ci aJ res.2.2.2.2.2.2.2.2.2.2.1), (wcT ci aT_0 res.2.2.2.2.2.2.2.2.2.2.2.1), (wcM ci aM res.2.2.2.2.2.2.2.2.2.2.2.2)]) → va_S (fun q : Nat => s.heap.size ≤ q) s.heap H locs → lv_has ls 4 [(3, .int (nI k)), (2, .ref (aM 0)), (1, .ref aX_0), (0, .ref b)] → W p l e room_1 s m #[Value.ref b] below meth c H locs 96 5513 Q (F0 m 853 ls [])) : W p l e room_1 s m #[Value.ref b] below meth c H locs 96 5513 Q (F0 m 156 ls []) := by
  obtain ⟨A, hAe⟩ : ∃ A : Nat → Prop, A = (fun q : Nat => s.heap.size ≤ q) := ⟨_, rfl⟩
  rw [← hAe] at hD hS kont
  have hA : ∀ q : Nat, s.heap.size ≤ q → A q := fun q h => by rw [hAe]; exact h
  have hbA : ¬ A b := by rw [hAe]; exact Nat.not_le.mpr hbl
  clear hAe
  unfold sp_0 at hF
  refine lv_aload_n hx hb dL_law_156 rfl (lv_at hl 2 rfl) ?_
  refine lv_aload_n hx hb dL_law_157 rfl (lv_at hl 3 rfl) ?_
  refine lv_iload_n hx hb dL_law_158 rfl (lv_at hl 0 rfl) ?_
  refine lv_iconst (v := 1) hx hb dL_law_159 (by decide) ?_
  refine lv_iadd hx hb dL_law_160 ?_
  refine va_sld hx hb hX hbl hbA hS (sc_in 1 k L hk5 hL320 (by omega)) dL_law_161 ?_
  refine W.eq (g2 := F0 m 162 ls [.int a1, .ref aX_0]) (by rw [sc_at1 k L xs hk5 hL320, ha1]) ?_
  replace hF := bnd hF
  obtain ⟨q_4, hc_3, hF⟩ := hF
  obtain ⟨r_1, er_1⟩ : ∃ y : Int32, y = q_4.1 := ⟨_, rfl⟩
  replace hF := nm_i hF er_1
  obtain ⟨zR_2, ezR_2⟩ : ∃ y : RS, y = q_4.2 := ⟨_, rfl⟩
  replace hF := nm_i hF ezR_2
  obtain rfl : q_4 = (r_1, zR_2) := by rw [er_1, ezR_2]
  clear er_1
  clear ezR_2
  refine cl_Ci (As := [.int a1]) (rest := []) (csC := [(wcX aX_0 aR_0 aG_0 aS_0 aP_0 aN_0 aI_0 aT_0 zX), (wcR ci aR_0 aR_1 aRG_0 aRS_0 zR)]) (csR := [(wcG ci aRG_0 aRG_1 aRG_2 aRG_3 aRG_4 zRG), (wcS ci aRS_0 aRS_1 zRS), (wcG ci aG_0 aG_1 aG_2 aG_3 aG_4 zG), (wcS ci aS_0 aS_1 zS), (wcP ci aP_0 aP_1 aQ zP), (wcQ ci aQ zQ), (wcN ci aN_0 aN_1 aN_2 aN_3 aN_4 zN), (wcI ci aI_0 aI_1 aI_2 aJ zI), (wcJ ci aJ zJ), (wcT ci aT_0 zT), (wcM ci aM zM)]) (csC1 := [(wcX aX_0 aR_0 aG_0 aS_0 aP_0 aN_0 aI_0 aT_0 zX), (wcR ci aR_0 aR_1 aRG_0 aRS_0 zR_2)]) (csN := [(wcX aX_0 aR_0 aG_0 aS_0 aP_0 aN_0 aI_0 aT_0 zX), (wcR ci aR_0 aR_1 aRG_0 aRS_0 zR_2), (wcG ci aRG_0 aRG_1 aRG_2 aRG_3 aRG_4 zRG), (wcS ci aRS_0 aRS_1 zRS), (wcG ci aG_0 aG_1 aG_2 aG_3 aG_4 zG), (wcS ci aS_0 aS_1 zS), (wcP ci aP_0 aP_1 aQ zP), (wcQ ci aQ zQ), (wcN ci aN_0 aN_1 aN_2 aN_3 aN_4 zN), (wcI ci aI_0 aI_1 aI_2 aJ zI), (wcJ ci aJ zJ), (wcT ci aT_0 zT), (wcM ci aM zM)]) ⟨hx, hb, hml, hown, hts⟩ (cwV 1 hts gL_law_X6_feed rfl rfl rfl (by decide +kernel) ⟨Nat.le_of_ble_eq_true rfl, Nat.le_of_ble_eq_true rfl⟩) (c_X6_feed l D ci aX_0 aR_0 aG_0 aS_0 aP_0 aN_0 aI_0 aT_0 aR_1 aRG_0 aRS_0 H.size zX zR a1 _ hc_3) hK hP hD hS hA [2, 3, 4, 5, 6, 7, 8, 9, 10, 11, 12, 0, 1] [11, 12, 0, 1, 2, 3, 4, 5, 6, 7, 8, 9, 10] rfl rfl (by decide) (by decide) (by simp only [fl, List.append_nil]) (by simp only [fl, List.append_nil]) 0 rfl rfl rfl rfl hl.1 (Nat.le_of_ble_eq_true rfl) dL_law_162 (Nat.le_of_ble_eq_true rfl) (Nat.le_of_ble_eq_true rfl) (fun H locs hP hD hS => ?_)
  have hP : va_P D vwCl (fl [(wcX aX_0 aR_0 aG_0 aS_0 aP_0 aN_0 aI_0 aT_0 zX), (wcR ci aR_0 aR_1 aRG_0 aRS_0 zR_2), (wcG ci aRG_0 aRG_1 aRG_2 aRG_3 aRG_4 zRG), (wcS ci aRS_0 aRS_1 zRS), (wcG ci aG_0 aG_1 aG_2 aG_3 aG_4 zG), (wcS ci aS_0 aS_1 zS), (wcP ci aP_0 aP_1 aQ zP), (wcQ ci aQ zQ), (wcN ci aN_0 aN_1 aN_2 aN_3 aN_4 zN), (wcI ci aI_0 aI_1 aI_2 aJ zI), (wcJ ci aJ zJ), (wcT ci aT_0 zT), (wcM ci aM zM)]) H := hP
  have hD : va_D A (fl [(wcX aX_0 aR_0 aG_0 aS_0 aP_0 aN_0 aI_0 aT_0 zX), (wcR ci aR_0 aR_1 aRG_0 aRS_0 zR_2), (wcG ci aRG_0 aRG_1 aRG_2 aRG_3 aRG_4 zRG), (wcS ci aRS_0 aRS_1 zRS), (wcG ci aG_0 aG_1 aG_2 aG_3 aG_4 zG), (wcS ci aS_0 aS_1 zS), (wcP ci aP_0 aP_1 aQ zP), (wcQ ci aQ zQ), (wcN ci aN_0 aN_1 aN_2 aN_3 aN_4 zN), (wcI ci aI_0 aI_1 aI_2 aJ zI), (wcJ ci aJ zJ), (wcT ci aT_0 zT), (wcM ci aM zM)]) := hD
  refine lv_aload_n hx hb dL_law_165 rfl (lv_at hl 1 rfl) ?_
  refine lv_aload_n hx hb dL_law_166 rfl (lv_at hl 3 rfl) ?_
  refine lv_iload_n hx hb dL_law_167 rfl (lv_at hl 0 rfl) ?_
  refine lv_iconst (v := 1) hx hb dL_law_168 (by decide) ?_
  refine lv_iadd hx hb dL_law_169 ?_
  refine va_sld hx hb hX hbl hbA hS (sc_in 1 k L hk5 hL320 (by omega)) dL_law_170 ?_
  refine W.eq (g2 := F0 m 171 ls [.int a1, .ref (aM 0), .int r_1]) (by rw [sc_at1 k L xs hk5 hL320, ha1]) ?_
  replace hF := bnd hF
  obtain ⟨q_8, hc_7, hF⟩ := hF
  obtain ⟨r_5, er_5⟩ : ∃ y : Int32, y = q_8.1 := ⟨_, rfl⟩
  replace hF := nm_i hF er_5
  obtain ⟨zM_6, ezM_6⟩ : ∃ y : MS, y = q_8.2 := ⟨_, rfl⟩
  replace hF := nm_i hF ezM_6
  obtain rfl : q_8 = (r_5, zM_6) := by rw [er_5, ezM_6]
  clear er_5
  clear ezM_6
  refine cl_Ci (As := [.int a1]) (rest := [.int r_1]) (csC := [(wcM ci aM zM)]) (csR := [(wcX aX_0 aR_0 aG_0 aS_0 aP_0 aN_0 aI_0 aT_0 zX), (wcR ci aR_0 aR_1 aRG_0 aRS_0 zR_2), (wcG ci aRG_0 aRG_1 aRG_2 aRG_3 aRG_4 zRG), (wcS ci aRS_0 aRS_1 zRS), (wcG ci aG_0 aG_1 aG_2 aG_3 aG_4 zG), (wcS ci aS_0 aS_1 zS), (wcP ci aP_0 aP_1 aQ zP), (wcQ ci aQ zQ), (wcN ci aN_0 aN_1 aN_2 aN_3 aN_4 zN), (wcI ci aI_0 aI_1 aI_2 aJ zI), (wcJ ci aJ zJ), (wcT ci aT_0 zT)]) (csC1 := [(wcM ci aM zM_6)]) (csN := [(wcX aX_0 aR_0 aG_0 aS_0 aP_0 aN_0 aI_0 aT_0 zX), (wcR ci aR_0 aR_1 aRG_0 aRS_0 zR_2), (wcG ci aRG_0 aRG_1 aRG_2 aRG_3 aRG_4 zRG), (wcS ci aRS_0 aRS_1 zRS), (wcG ci aG_0 aG_1 aG_2 aG_3 aG_4 zG), (wcS ci aS_0 aS_1 zS), (wcP ci aP_0 aP_1 aQ zP), (wcQ ci aQ zQ), (wcN ci aN_0 aN_1 aN_2 aN_3 aN_4 zN), (wcI ci aI_0 aI_1 aI_2 aJ zI), (wcJ ci aJ zJ), (wcT ci aT_0 zT), (wcM ci aM zM_6)]) ⟨hx, hb, hml, hown, hts⟩ (cwV 1 hts gL_law_X7_feed rfl rfl rfl (by decide +kernel) ⟨Nat.le_of_ble_eq_true rfl, Nat.le_of_ble_eq_true rfl⟩) (c_X7_feed l D ci aM H.size zM a1 _ hc_7) hK hP hD hS hA [0, 1, 2, 3, 4, 5, 6, 7, 8, 9, 10, 11, 12] [0, 1, 2, 3, 4, 5, 6, 7, 8, 9, 10, 11, 12] rfl rfl (by decide) (by decide) (by simp only [fl, List.append_nil]) (by simp only [fl, List.append_nil]) 0 rfl rfl rfl rfl hl.1 (Nat.le_of_ble_eq_true rfl) dL_law_171 (Nat.le_of_ble_eq_true rfl) (Nat.le_of_ble_eq_true rfl) (fun H locs hP hD hS => ?_)
  have hP : va_P D vwCl (fl [(wcX aX_0 aR_0 aG_0 aS_0 aP_0 aN_0 aI_0 aT_0 zX), (wcR ci aR_0 aR_1 aRG_0 aRS_0 zR_2), (wcG ci aRG_0 aRG_1 aRG_2 aRG_3 aRG_4 zRG), (wcS ci aRS_0 aRS_1 zRS), (wcG ci aG_0 aG_1 aG_2 aG_3 aG_4 zG), (wcS ci aS_0 aS_1 zS), (wcP ci aP_0 aP_1 aQ zP), (wcQ ci aQ zQ), (wcN ci aN_0 aN_1 aN_2 aN_3 aN_4 zN), (wcI ci aI_0 aI_1 aI_2 aJ zI), (wcJ ci aJ zJ), (wcT ci aT_0 zT), (wcM ci aM zM_6)]) H := hP
  have hD : va_D A (fl [(wcX aX_0 aR_0 aG_0 aS_0 aP_0 aN_0 aI_0 aT_0 zX), (wcR ci aR_0 aR_1 aRG_0 aRS_0 zR_2), (wcG ci aRG_0 aRG_1 aRG_2 aRG_3 aRG_4 zRG), (wcS ci aRS_0 aRS_1 zRS), (wcG ci aG_0 aG_1 aG_2 aG_3 aG_4 zG), (wcS ci aS_0 aS_1 zS), (wcP ci aP_0 aP_1 aQ zP), (wcQ ci aQ zQ), (wcN ci aN_0 aN_1 aN_2 aN_3 aN_4 zN), (wcI ci aI_0 aI_1 aI_2 aJ zI), (wcJ ci aJ zJ), (wcT ci aT_0 zT), (wcM ci aM zM_6)]) := hD
  refine lv_icmp_eq (tgt := 853) hx hb dL_law_174 (by decide) (fun c_9 => ?_) (fun c_9 => ?_)
  · replace hF := if_i c_9 hF
    obtain rfl := Option.some.inj hF
    exact kont H locs ls hP hD hS (lv_sub hl [0, 1, 2, 3] rfl)
  · replace hF := if_o c_9 hF
    refine lv_iconst (v := 0) hx hb dL_law_177 (by decide) ?_
    exact absurd hF (fun h => no_none h)
noncomputable def sp_1 (zX : XS) (zR : RS) (zRG : GS) (zRS : SS) (zG : GS) (zS : SS) (zP : PS) (zQ : QS) (zN : NS) (zI : IS) (zJ : QS) (zT : TS) (zM : MS) : Option ZZ := (f_X6_parish zX zR zRG zRS zG zS zP zN zI).bind fun q_12 => nm q_12.1 fun r_1 => nm q_12.2.1 fun zX_2 => nm q_12.2.2.1 fun zR_3 => nm q_12.2.2.2.1 fun zRG_4 => nm q_12.2.2.2.2.1 fun zRS_5 => nm q_12.2.2.2.2.2.1 fun zG_6 => nm q_12.2.2.2.2.2.2.1 fun zS_7 => nm q_12.2.2.2.2.2.2.2.1 fun zP_8 => nm q_12.2.2.2.2.2.2.2.2.1 fun zN_9 => nm q_12.2.2.2.2.2.2.2.2.2 fun zI_10 => (f_X7_parish zM).bind fun q_16 => nm q_16.1 fun r_13 => nm q_16.2 fun zM_14 => if r_1 = r_13 then (some (zX_2, zR_3, zRG_4, zRS_5, zG_6, zS_7, zP_8, zQ, zN_9, zI_10, zJ, zT, zM_14)) else (none)
set_option maxHeartbeats 8000000 in
set_option maxRecDepth 200000 in
theorem lc_1 {p : Program} {l : Launch} {e : Env} {s : State} {m : MethodId} {below : List Frame} {meth : Method} {c : Code} {Q : State → Prop} {b L k : Nat} {xs : Nat → Int32} {D : va_G} {ci : Nat → ClassId} (hx : p.tables.exec = Jvm.exec) (hb : c.code = cL_law) (hml : c.maxLocals = 4) (hown : s.vm.findClass RL = some m.cls) (hts : ∀ w ∈ wsL_law, w.before #[Value.ref b] s = true) (hX : va_X b L xs s s.heap) (hbl : b < s.heap.size) (hL320 : L ≤ 320) (hk5 : k + 5 ≤ L) (hK : va_K D vwCl (tyL ci) s) (aX_0 : Nat) (aR_0 : Nat) (aG_0 : Nat) (aS_0 : Nat) (aP_0 : Nat) (aN_0 : Nat) (aI_0 : Nat) (aT_0 : Nat) (aR_1 : Nat) (aRG_0 : Nat) (aRS_0 : Nat) (aRG_1 : Nat) (aRG_2 : Nat) (aRG_3 : Nat) (aRG_4 : Nat) (aRS_1 : Nat) (aG_1 : Nat) (aG_2 : Nat) (aG_3 : Nat) (aG_4 : Nat) (aS_1 : Nat) (aP_1 : Nat) (aQ : Nat → Nat) (aN_1 : Nat) (aN_2 : Nat) (aN_3 : Nat) (aN_4 : Nat) (aI_1 : Nat) (aI_2 : Nat) (aJ : Nat → Nat) (aM : Nat → Nat) (zX : XS) (zR : RS) (zRG : GS) (zRS : SS) (zG : GS) (zS : SS) (zP : PS) (zQ : QS) (zN : NS) (zI : IS) (zJ : QS) (zT : TS) (zM : MS) (res : ZZ) (hF : sp_1 zX zR zRG zRS zG zS zP zQ zN zI zJ zT zM = some res) (H : Heap) (locs : List Loc) (ls : Array Slot) (hP : va_P D vwCl (fl [(wcX aX_0 aR_0 aG_0 aS_0 aP_0 aN_0 aI_0 aT_0 zX), (wcR ci aR_0 aR_1 aRG_0 aRS_0 zR), (wcG ci aRG_0 aRG_1 aRG_2 aRG_3 aRG_4 zRG), (wcS ci aRS_0 aRS_1 zRS), (wcG ci aG_0 aG_1 aG_2 aG_3 aG_4 zG), (wcS ci aS_0 aS_1 zS), (wcP ci aP_0 aP_1 aQ zP), (wcQ ci aQ zQ), (wcN ci aN_0 aN_1 aN_2 aN_3 aN_4 zN), (wcI ci aI_0 aI_1 aI_2 aJ zI), (wcJ ci aJ zJ), (wcT ci aT_0 zT), (wcM ci aM zM)]) H) (hD : va_D (fun q : Nat => s.heap.size ≤ q) (fl [(wcX aX_0 aR_0 aG_0 aS_0 aP_0 aN_0 aI_0 aT_0 zX), (wcR ci aR_0 aR_1 aRG_0 aRS_0 zR), (wcG ci aRG_0 aRG_1 aRG_2 aRG_3 aRG_4 zRG), (wcS ci aRS_0 aRS_1 zRS), (wcG ci aG_0 aG_1 aG_2 aG_3 aG_4 zG), (wcS ci aS_0 aS_1 zS), (wcP ci aP_0 aP_1 aQ zP), (wcQ ci aQ zQ), (wcN ci aN_0 aN_1 aN_2 aN_3 aN_4 zN), (wcI ci aI_0 aI_1 aI_2 aJ zI), (wcJ ci aJ zJ), (wcT ci aT_0 zT), (wcM ci aM zM)])) (hS : va_S (fun q : Nat => s.heap.size ≤ q) s.heap H locs) (hl : lv_has ls 4 [(3, .int (nI k)), (2, .ref (aM 0)), (1, .ref aX_0), (0, .ref b)]) (kont : ∀ (H : Heap) (locs : List Loc) (ls : Array Slot), va_P D vwCl (fl [(wcX aX_0 aR_0 aG_0 aS_0 aP_0 aN_0 aI_0 aT_0 res.1), (wcR ci aR_0 aR_1 aRG_0 aRS_0 res.2.1), (wcG ci aRG_0 aRG_1 aRG_2 aRG_3 aRG_4 res.2.2.1), (wcS ci aRS_0 aRS_1 res.2.2.2.1), (wcG ci aG_0 aG_1 aG_2 aG_3 aG_4 res.2.2.2.2.1), (wcS ci aS_0 aS_1 res.2.2.2.2.2.1), (wcP ci aP_0 aP_1 aQ res.2.2.2.2.2.2.1), (wcQ ci aQ res.2.2.2.2.2.2.2.1), (wcN ci aN_0 aN_1 aN_2 aN_3 aN_4 res.2.2.2.2.2.2.2.2.1), (wcI ci aI_0 aI_1 aI_2 aJ res.2.2.2.2.2.2.2.2.2.1), (wcJ ci aJ res.2.2.2.2.2.2.2.2.2.2.1), (wcT ci aT_0 res.2.2.2.2.2.2.2.2.2.2.2.1), (wcM ci aM res.2.2.2.2.2.2.2.2.2.2.2.2)]) H → va_D (fun q : Nat => s.heap.size ≤ q) (fl [(wcX aX_0 aR_0 aG_0 aS_0 aP_0 aN_0 aI_0 aT_0 res.1), (wcR ci aR_0 aR_1 aRG_0 aRS_0 res.2.1), (wcG ci aRG_0 aRG_1 aRG_2 aRG_3 aRG_4 res.2.2.1), (wcS ci aRS_0 aRS_1 res.2.2.2.1), (wcG ci aG_0 aG_1 aG_2 aG_3 aG_4 res.2.2.2.2.1), (wcS ci aS_0 aS_1 res.2.2.2.2.2.1), (wcP ci aP_0 aP_1 aQ res.2.2.2.2.2.2.1), (wcQ ci aQ res.2.2.2.2.2.2.2.1), (wcN ci aN_0 aN_1 aN_2 aN_3 aN_4 res.2.2.2.2.2.2.2.2.1), (wcI ci aI_0 aI_1 aI_2 aJ res.2.2.2.2.2.2.2.2.2.1), (wcJ ci aJ res.2.2.2.2.2.2.2.2.2.2.1), (wcT ci aT_0 res.2.2.2.2.2.2.2.2.2.2.2.1), (wcM ci aM res.2.2.2.2.2.2.2.2.2.2.2.2)]) → va_S (fun q : Nat => s.heap.size ≤ q) s.heap H locs → lv_has ls 4 [(3, .int (nI k)), (2, .ref (aM 0)), (1, .ref aX_0), (0, .ref b)] → W p l e room_1 s m #[Value.ref b] below meth c H locs 96 5513 Q (F0 m 853 ls [])) : W p l e room_1 s m #[Value.ref b] below meth c H locs 96 5513 Q (F0 m 179 ls []) := by
  obtain ⟨A, hAe⟩ : ∃ A : Nat → Prop, A = (fun q : Nat => s.heap.size ≤ q) := ⟨_, rfl⟩
  rw [← hAe] at hD hS kont
  have hA : ∀ q : Nat, s.heap.size ≤ q → A q := fun q h => by rw [hAe]; exact h
  have hbA : ¬ A b := by rw [hAe]; exact Nat.not_le.mpr hbl
  clear hAe
  unfold sp_1 at hF
  refine lv_aload_n hx hb dL_law_179 rfl (lv_at hl 2 rfl) ?_
  replace hF := bnd hF
  obtain ⟨q_12, hc_11, hF⟩ := hF
  obtain ⟨r_1, er_1⟩ : ∃ y : Int32, y = q_12.1 := ⟨_, rfl⟩
  replace hF := nm_i hF er_1
  obtain ⟨zX_2, ezX_2⟩ : ∃ y : XS, y = q_12.2.1 := ⟨_, rfl⟩
  replace hF := nm_i hF ezX_2
  obtain ⟨zR_3, ezR_3⟩ : ∃ y : RS, y = q_12.2.2.1 := ⟨_, rfl⟩
  replace hF := nm_i hF ezR_3
  obtain ⟨zRG_4, ezRG_4⟩ : ∃ y : GS, y = q_12.2.2.2.1 := ⟨_, rfl⟩
  replace hF := nm_i hF ezRG_4
  obtain ⟨zRS_5, ezRS_5⟩ : ∃ y : SS, y = q_12.2.2.2.2.1 := ⟨_, rfl⟩
  replace hF := nm_i hF ezRS_5
  obtain ⟨zG_6, ezG_6⟩ : ∃ y : GS, y = q_12.2.2.2.2.2.1 := ⟨_, rfl⟩
  replace hF := nm_i hF ezG_6
  obtain ⟨zS_7, ezS_7⟩ : ∃ y : SS, y = q_12.2.2.2.2.2.2.1 := ⟨_, rfl⟩
  replace hF := nm_i hF ezS_7
  obtain ⟨zP_8, ezP_8⟩ : ∃ y : PS, y = q_12.2.2.2.2.2.2.2.1 := ⟨_, rfl⟩
  replace hF := nm_i hF ezP_8
  obtain ⟨zN_9, ezN_9⟩ : ∃ y : NS, y = q_12.2.2.2.2.2.2.2.2.1 := ⟨_, rfl⟩
  replace hF := nm_i hF ezN_9
  obtain ⟨zI_10, ezI_10⟩ : ∃ y : IS, y = q_12.2.2.2.2.2.2.2.2.2 := ⟨_, rfl⟩
  replace hF := nm_i hF ezI_10
  obtain rfl : q_12 = (r_1, zX_2, zR_3, zRG_4, zRS_5, zG_6, zS_7, zP_8, zN_9, zI_10) := by rw [er_1, ezX_2, ezR_3, ezRG_4, ezRS_5, ezG_6, ezS_7, ezP_8, ezN_9, ezI_10]
  clear er_1
  clear ezX_2
  clear ezR_3
  clear ezRG_4
  clear ezRS_5
  clear ezG_6
  clear ezS_7
  clear ezP_8
  clear ezN_9
  clear ezI_10
  refine cl_Ci (As := []) (rest := []) (csC := [(wcX aX_0 aR_0 aG_0 aS_0 aP_0 aN_0 aI_0 aT_0 zX), (wcR ci aR_0 aR_1 aRG_0 aRS_0 zR), (wcG ci aRG_0 aRG_1 aRG_2 aRG_3 aRG_4 zRG), (wcS ci aRS_0 aRS_1 zRS), (wcG ci aG_0 aG_1 aG_2 aG_3 aG_4 zG), (wcS ci aS_0 aS_1 zS), (wcP ci aP_0 aP_1 aQ zP), (wcN ci aN_0 aN_1 aN_2 aN_3 aN_4 zN), (wcI ci aI_0 aI_1 aI_2 aJ zI)]) (csR := [(wcQ ci aQ zQ), (wcJ ci aJ zJ), (wcT ci aT_0 zT), (wcM ci aM zM)]) (csC1 := [(wcX aX_0 aR_0 aG_0 aS_0 aP_0 aN_0 aI_0 aT_0 zX_2), (wcR ci aR_0 aR_1 aRG_0 aRS_0 zR_3), (wcG ci aRG_0 aRG_1 aRG_2 aRG_3 aRG_4 zRG_4), (wcS ci aRS_0 aRS_1 zRS_5), (wcG ci aG_0 aG_1 aG_2 aG_3 aG_4 zG_6), (wcS ci aS_0 aS_1 zS_7), (wcP ci aP_0 aP_1 aQ zP_8), (wcN ci aN_0 aN_1 aN_2 aN_3 aN_4 zN_9), (wcI ci aI_0 aI_1 aI_2 aJ zI_10)]) (csN := [(wcX aX_0 aR_0 aG_0 aS_0 aP_0 aN_0 aI_0 aT_0 zX_2), (wcR ci aR_0 aR_1 aRG_0 aRS_0 zR_3), (wcG ci aRG_0 aRG_1 aRG_2 aRG_3 aRG_4 zRG_4), (wcS ci aRS_0 aRS_1 zRS_5), (wcG ci aG_0 aG_1 aG_2 aG_3 aG_4 zG_6), (wcS ci aS_0 aS_1 zS_7), (wcP ci aP_0 aP_1 aQ zP_8), (wcQ ci aQ zQ), (wcN ci aN_0 aN_1 aN_2 aN_3 aN_4 zN_9), (wcI ci aI_0 aI_1 aI_2 aJ zI_10), (wcJ ci aJ zJ), (wcT ci aT_0 zT), (wcM ci aM zM)]) ⟨hx, hb, hml, hown, hts⟩ (cwV 0 hts gL_law_X6_parish rfl rfl rfl (by decide +kernel) ⟨Nat.le_of_ble_eq_true rfl, Nat.le_of_ble_eq_true rfl⟩) (c_X6_parish l D ci aX_0 aR_0 aG_0 aS_0 aP_0 aN_0 aI_0 aT_0 aR_1 aRG_0 aRS_0 aRG_1 aRG_2 aRG_3 aRG_4 aRS_1 aG_1 aG_2 aG_3 aG_4 aS_1 aP_1 aQ aN_1 aN_2 aN_3 aN_4 aI_1 aI_2 aJ H.size zX zR zRG zRS zG zS zP zN zI _ hc_11) hK hP hD hS hA [7, 10, 11, 12, 0, 1, 2, 3, 4, 5, 6, 8, 9] [4, 5, 6, 7, 8, 9, 10, 0, 11, 12, 1, 2, 3] rfl rfl (by decide) (by decide) (by simp only [fl, List.append_nil]) (by simp only [fl, List.append_nil]) 0 rfl rfl rfl rfl hl.1 (Nat.le_of_ble_eq_true rfl) dL_law_180 (Nat.le_of_ble_eq_true rfl) (Nat.le_of_ble_eq_true rfl) (fun H locs hP hD hS => ?_)
  have hP : va_P D vwCl (fl [(wcX aX_0 aR_0 aG_0 aS_0 aP_0 aN_0 aI_0 aT_0 zX_2), (wcR ci aR_0 aR_1 aRG_0 aRS_0 zR_3), (wcG ci aRG_0 aRG_1 aRG_2 aRG_3 aRG_4 zRG_4), (wcS ci aRS_0 aRS_1 zRS_5), (wcG ci aG_0 aG_1 aG_2 aG_3 aG_4 zG_6), (wcS ci aS_0 aS_1 zS_7), (wcP ci aP_0 aP_1 aQ zP_8), (wcQ ci aQ zQ), (wcN ci aN_0 aN_1 aN_2 aN_3 aN_4 zN_9), (wcI ci aI_0 aI_1 aI_2 aJ zI_10), (wcJ ci aJ zJ), (wcT ci aT_0 zT), (wcM ci aM zM)]) H := hP
  have hD : va_D A (fl [(wcX aX_0 aR_0 aG_0 aS_0 aP_0 aN_0 aI_0 aT_0 zX_2), (wcR ci aR_0 aR_1 aRG_0 aRS_0 zR_3), (wcG ci aRG_0 aRG_1 aRG_2 aRG_3 aRG_4 zRG_4), (wcS ci aRS_0 aRS_1 zRS_5), (wcG ci aG_0 aG_1 aG_2 aG_3 aG_4 zG_6), (wcS ci aS_0 aS_1 zS_7), (wcP ci aP_0 aP_1 aQ zP_8), (wcQ ci aQ zQ), (wcN ci aN_0 aN_1 aN_2 aN_3 aN_4 zN_9), (wcI ci aI_0 aI_1 aI_2 aJ zI_10), (wcJ ci aJ zJ), (wcT ci aT_0 zT), (wcM ci aM zM)]) := hD
  refine lv_aload_n hx hb dL_law_183 rfl (lv_at hl 1 rfl) ?_
  replace hF := bnd hF
  obtain ⟨q_16, hc_15, hF⟩ := hF
  obtain ⟨r_13, er_13⟩ : ∃ y : Int32, y = q_16.1 := ⟨_, rfl⟩
  replace hF := nm_i hF er_13
  obtain ⟨zM_14, ezM_14⟩ : ∃ y : MS, y = q_16.2 := ⟨_, rfl⟩
  replace hF := nm_i hF ezM_14
  obtain rfl : q_16 = (r_13, zM_14) := by rw [er_13, ezM_14]
  clear er_13
  clear ezM_14
  refine cl_Ci (As := []) (rest := [.int r_1]) (csC := [(wcM ci aM zM)]) (csR := [(wcX aX_0 aR_0 aG_0 aS_0 aP_0 aN_0 aI_0 aT_0 zX_2), (wcR ci aR_0 aR_1 aRG_0 aRS_0 zR_3), (wcG ci aRG_0 aRG_1 aRG_2 aRG_3 aRG_4 zRG_4), (wcS ci aRS_0 aRS_1 zRS_5), (wcG ci aG_0 aG_1 aG_2 aG_3 aG_4 zG_6), (wcS ci aS_0 aS_1 zS_7), (wcP ci aP_0 aP_1 aQ zP_8), (wcQ ci aQ zQ), (wcN ci aN_0 aN_1 aN_2 aN_3 aN_4 zN_9), (wcI ci aI_0 aI_1 aI_2 aJ zI_10), (wcJ ci aJ zJ), (wcT ci aT_0 zT)]) (csC1 := [(wcM ci aM zM_14)]) (csN := [(wcX aX_0 aR_0 aG_0 aS_0 aP_0 aN_0 aI_0 aT_0 zX_2), (wcR ci aR_0 aR_1 aRG_0 aRS_0 zR_3), (wcG ci aRG_0 aRG_1 aRG_2 aRG_3 aRG_4 zRG_4), (wcS ci aRS_0 aRS_1 zRS_5), (wcG ci aG_0 aG_1 aG_2 aG_3 aG_4 zG_6), (wcS ci aS_0 aS_1 zS_7), (wcP ci aP_0 aP_1 aQ zP_8), (wcQ ci aQ zQ), (wcN ci aN_0 aN_1 aN_2 aN_3 aN_4 zN_9), (wcI ci aI_0 aI_1 aI_2 aJ zI_10), (wcJ ci aJ zJ), (wcT ci aT_0 zT), (wcM ci aM zM_14)]) ⟨hx, hb, hml, hown, hts⟩ (cwV 0 hts gL_law_X7_parish rfl rfl rfl (by decide +kernel) ⟨Nat.le_of_ble_eq_true rfl, Nat.le_of_ble_eq_true rfl⟩) (c_X7_parish l D ci aM H.size zM _ hc_15) hK hP hD hS hA [0, 1, 2, 3, 4, 5, 6, 7, 8, 9, 10, 11, 12] [0, 1, 2, 3, 4, 5, 6, 7, 8, 9, 10, 11, 12] rfl rfl (by decide) (by decide) (by simp only [fl, List.append_nil]) (by simp only [fl, List.append_nil]) 0 rfl rfl rfl rfl hl.1 (Nat.le_of_ble_eq_true rfl) dL_law_184 (Nat.le_of_ble_eq_true rfl) (Nat.le_of_ble_eq_true rfl) (fun H locs hP hD hS => ?_)
  have hP : va_P D vwCl (fl [(wcX aX_0 aR_0 aG_0 aS_0 aP_0 aN_0 aI_0 aT_0 zX_2), (wcR ci aR_0 aR_1 aRG_0 aRS_0 zR_3), (wcG ci aRG_0 aRG_1 aRG_2 aRG_3 aRG_4 zRG_4), (wcS ci aRS_0 aRS_1 zRS_5), (wcG ci aG_0 aG_1 aG_2 aG_3 aG_4 zG_6), (wcS ci aS_0 aS_1 zS_7), (wcP ci aP_0 aP_1 aQ zP_8), (wcQ ci aQ zQ), (wcN ci aN_0 aN_1 aN_2 aN_3 aN_4 zN_9), (wcI ci aI_0 aI_1 aI_2 aJ zI_10), (wcJ ci aJ zJ), (wcT ci aT_0 zT), (wcM ci aM zM_14)]) H := hP
  have hD : va_D A (fl [(wcX aX_0 aR_0 aG_0 aS_0 aP_0 aN_0 aI_0 aT_0 zX_2), (wcR ci aR_0 aR_1 aRG_0 aRS_0 zR_3), (wcG ci aRG_0 aRG_1 aRG_2 aRG_3 aRG_4 zRG_4), (wcS ci aRS_0 aRS_1 zRS_5), (wcG ci aG_0 aG_1 aG_2 aG_3 aG_4 zG_6), (wcS ci aS_0 aS_1 zS_7), (wcP ci aP_0 aP_1 aQ zP_8), (wcQ ci aQ zQ), (wcN ci aN_0 aN_1 aN_2 aN_3 aN_4 zN_9), (wcI ci aI_0 aI_1 aI_2 aJ zI_10), (wcJ ci aJ zJ), (wcT ci aT_0 zT), (wcM ci aM zM_14)]) := hD
  refine lv_icmp_eq (tgt := 853) hx hb dL_law_187 (by decide) (fun c_17 => ?_) (fun c_17 => ?_)
  · replace hF := if_i c_17 hF
    obtain rfl := Option.some.inj hF
    exact kont H locs ls hP hD hS (lv_sub hl [0, 1, 2, 3] rfl)
  · replace hF := if_o c_17 hF
    refine lv_iconst (v := 0) hx hb dL_law_190 (by decide) ?_
    exact absurd hF (fun h => no_none h)
noncomputable def sp_2 (zX : XS) (zR : RS) (zRG : GS) (zRS : SS) (zG : GS) (zS : SS) (zP : PS) (zQ : QS) (zN : NS) (zI : IS) (zJ : QS) (zT : TS) (zM : MS) : Option ZZ := (f_X6_fault zX).bind fun r_1 => (f_X7_fault zM).bind fun r_3 => if r_1 = r_3 then (some (zX, zR, zRG, zRS, zG, zS, zP, zQ, zN, zI, zJ, zT, zM)) else (none)
set_option maxHeartbeats 8000000 in
set_option maxRecDepth 200000 in
theorem lc_2 {p : Program} {l : Launch} {e : Env} {s : State} {m : MethodId} {below : List Frame} {meth : Method} {c : Code} {Q : State → Prop} {b L k : Nat} {xs : Nat → Int32} {D : va_G} {ci : Nat → ClassId} (hx : p.tables.exec = Jvm.exec) (hb : c.code = cL_law) (hml : c.maxLocals = 4) (hown : s.vm.findClass RL = some m.cls) (hts : ∀ w ∈ wsL_law, w.before #[Value.ref b] s = true) (hX : va_X b L xs s s.heap) (hbl : b < s.heap.size) (hL320 : L ≤ 320) (hk5 : k + 5 ≤ L) (hK : va_K D vwCl (tyL ci) s) (aX_0 : Nat) (aR_0 : Nat) (aG_0 : Nat) (aS_0 : Nat) (aP_0 : Nat) (aN_0 : Nat) (aI_0 : Nat) (aT_0 : Nat) (aR_1 : Nat) (aRG_0 : Nat) (aRS_0 : Nat) (aRG_1 : Nat) (aRG_2 : Nat) (aRG_3 : Nat) (aRG_4 : Nat) (aRS_1 : Nat) (aG_1 : Nat) (aG_2 : Nat) (aG_3 : Nat) (aG_4 : Nat) (aS_1 : Nat) (aP_1 : Nat) (aQ : Nat → Nat) (aN_1 : Nat) (aN_2 : Nat) (aN_3 : Nat) (aN_4 : Nat) (aI_1 : Nat) (aI_2 : Nat) (aJ : Nat → Nat) (aM : Nat → Nat) (zX : XS) (zR : RS) (zRG : GS) (zRS : SS) (zG : GS) (zS : SS) (zP : PS) (zQ : QS) (zN : NS) (zI : IS) (zJ : QS) (zT : TS) (zM : MS) (res : ZZ) (hF : sp_2 zX zR zRG zRS zG zS zP zQ zN zI zJ zT zM = some res) (H : Heap) (locs : List Loc) (ls : Array Slot) (hP : va_P D vwCl (fl [(wcX aX_0 aR_0 aG_0 aS_0 aP_0 aN_0 aI_0 aT_0 zX), (wcR ci aR_0 aR_1 aRG_0 aRS_0 zR), (wcG ci aRG_0 aRG_1 aRG_2 aRG_3 aRG_4 zRG), (wcS ci aRS_0 aRS_1 zRS), (wcG ci aG_0 aG_1 aG_2 aG_3 aG_4 zG), (wcS ci aS_0 aS_1 zS), (wcP ci aP_0 aP_1 aQ zP), (wcQ ci aQ zQ), (wcN ci aN_0 aN_1 aN_2 aN_3 aN_4 zN), (wcI ci aI_0 aI_1 aI_2 aJ zI), (wcJ ci aJ zJ), (wcT ci aT_0 zT), (wcM ci aM zM)]) H) (hD : va_D (fun q : Nat => s.heap.size ≤ q) (fl [(wcX aX_0 aR_0 aG_0 aS_0 aP_0 aN_0 aI_0 aT_0 zX), (wcR ci aR_0 aR_1 aRG_0 aRS_0 zR), (wcG ci aRG_0 aRG_1 aRG_2 aRG_3 aRG_4 zRG), (wcS ci aRS_0 aRS_1 zRS), (wcG ci aG_0 aG_1 aG_2 aG_3 aG_4 zG), (wcS ci aS_0 aS_1 zS), (wcP ci aP_0 aP_1 aQ zP), (wcQ ci aQ zQ), (wcN ci aN_0 aN_1 aN_2 aN_3 aN_4 zN), (wcI ci aI_0 aI_1 aI_2 aJ zI), (wcJ ci aJ zJ), (wcT ci aT_0 zT), (wcM ci aM zM)])) (hS : va_S (fun q : Nat => s.heap.size ≤ q) s.heap H locs) (hl : lv_has ls 4 [(3, .int (nI k)), (2, .ref (aM 0)), (1, .ref aX_0), (0, .ref b)]) (kont : ∀ (H : Heap) (locs : List Loc) (ls : Array Slot), va_P D vwCl (fl [(wcX aX_0 aR_0 aG_0 aS_0 aP_0 aN_0 aI_0 aT_0 res.1), (wcR ci aR_0 aR_1 aRG_0 aRS_0 res.2.1), (wcG ci aRG_0 aRG_1 aRG_2 aRG_3 aRG_4 res.2.2.1), (wcS ci aRS_0 aRS_1 res.2.2.2.1), (wcG ci aG_0 aG_1 aG_2 aG_3 aG_4 res.2.2.2.2.1), (wcS ci aS_0 aS_1 res.2.2.2.2.2.1), (wcP ci aP_0 aP_1 aQ res.2.2.2.2.2.2.1), (wcQ ci aQ res.2.2.2.2.2.2.2.1), (wcN ci aN_0 aN_1 aN_2 aN_3 aN_4 res.2.2.2.2.2.2.2.2.1), (wcI ci aI_0 aI_1 aI_2 aJ res.2.2.2.2.2.2.2.2.2.1), (wcJ ci aJ res.2.2.2.2.2.2.2.2.2.2.1), (wcT ci aT_0 res.2.2.2.2.2.2.2.2.2.2.2.1), (wcM ci aM res.2.2.2.2.2.2.2.2.2.2.2.2)]) H → va_D (fun q : Nat => s.heap.size ≤ q) (fl [(wcX aX_0 aR_0 aG_0 aS_0 aP_0 aN_0 aI_0 aT_0 res.1), (wcR ci aR_0 aR_1 aRG_0 aRS_0 res.2.1), (wcG ci aRG_0 aRG_1 aRG_2 aRG_3 aRG_4 res.2.2.1), (wcS ci aRS_0 aRS_1 res.2.2.2.1), (wcG ci aG_0 aG_1 aG_2 aG_3 aG_4 res.2.2.2.2.1), (wcS ci aS_0 aS_1 res.2.2.2.2.2.1), (wcP ci aP_0 aP_1 aQ res.2.2.2.2.2.2.1), (wcQ ci aQ res.2.2.2.2.2.2.2.1), (wcN ci aN_0 aN_1 aN_2 aN_3 aN_4 res.2.2.2.2.2.2.2.2.1), (wcI ci aI_0 aI_1 aI_2 aJ res.2.2.2.2.2.2.2.2.2.1), (wcJ ci aJ res.2.2.2.2.2.2.2.2.2.2.1), (wcT ci aT_0 res.2.2.2.2.2.2.2.2.2.2.2.1), (wcM ci aM res.2.2.2.2.2.2.2.2.2.2.2.2)]) → va_S (fun q : Nat => s.heap.size ≤ q) s.heap H locs → lv_has ls 4 [(3, .int (nI k)), (2, .ref (aM 0)), (1, .ref aX_0), (0, .ref b)] → W p l e room_1 s m #[Value.ref b] below meth c H locs 96 5513 Q (F0 m 853 ls [])) : W p l e room_1 s m #[Value.ref b] below meth c H locs 96 5513 Q (F0 m 192 ls []) := by
  obtain ⟨A, hAe⟩ : ∃ A : Nat → Prop, A = (fun q : Nat => s.heap.size ≤ q) := ⟨_, rfl⟩
  rw [← hAe] at hD hS kont
  have hA : ∀ q : Nat, s.heap.size ≤ q → A q := fun q h => by rw [hAe]; exact h
  have hbA : ¬ A b := by rw [hAe]; exact Nat.not_le.mpr hbl
  clear hAe
  unfold sp_2 at hF
  refine lv_aload_n hx hb dL_law_192 rfl (lv_at hl 2 rfl) ?_
  replace hF := bnd hF
  obtain ⟨r_1, hc_2, hF⟩ := hF
  refine cl_Ci (As := []) (rest := []) (csC := [(wcX aX_0 aR_0 aG_0 aS_0 aP_0 aN_0 aI_0 aT_0 zX)]) (csR := [(wcR ci aR_0 aR_1 aRG_0 aRS_0 zR), (wcG ci aRG_0 aRG_1 aRG_2 aRG_3 aRG_4 zRG), (wcS ci aRS_0 aRS_1 zRS), (wcG ci aG_0 aG_1 aG_2 aG_3 aG_4 zG), (wcS ci aS_0 aS_1 zS), (wcP ci aP_0 aP_1 aQ zP), (wcQ ci aQ zQ), (wcN ci aN_0 aN_1 aN_2 aN_3 aN_4 zN), (wcI ci aI_0 aI_1 aI_2 aJ zI), (wcJ ci aJ zJ), (wcT ci aT_0 zT), (wcM ci aM zM)]) (csC1 := [(wcX aX_0 aR_0 aG_0 aS_0 aP_0 aN_0 aI_0 aT_0 zX)]) (csN := [(wcX aX_0 aR_0 aG_0 aS_0 aP_0 aN_0 aI_0 aT_0 zX), (wcR ci aR_0 aR_1 aRG_0 aRS_0 zR), (wcG ci aRG_0 aRG_1 aRG_2 aRG_3 aRG_4 zRG), (wcS ci aRS_0 aRS_1 zRS), (wcG ci aG_0 aG_1 aG_2 aG_3 aG_4 zG), (wcS ci aS_0 aS_1 zS), (wcP ci aP_0 aP_1 aQ zP), (wcQ ci aQ zQ), (wcN ci aN_0 aN_1 aN_2 aN_3 aN_4 zN), (wcI ci aI_0 aI_1 aI_2 aJ zI), (wcJ ci aJ zJ), (wcT ci aT_0 zT), (wcM ci aM zM)]) ⟨hx, hb, hml, hown, hts⟩ (cwV 0 hts gL_law_X6_fault rfl rfl rfl (by decide +kernel) ⟨Nat.le_of_ble_eq_true rfl, Nat.le_of_ble_eq_true rfl⟩) (c_X6_fault l D ci aX_0 aR_0 aG_0 aS_0 aP_0 aN_0 aI_0 aT_0 H.size zX _ hc_2) hK hP hD hS hA [1, 2, 3, 4, 5, 6, 7, 8, 9, 10, 11, 12, 0] [12, 0, 1, 2, 3, 4, 5, 6, 7, 8, 9, 10, 11] rfl rfl (by decide) (by decide) (by simp only [fl, List.append_nil]) (by simp only [fl, List.append_nil]) 0 rfl rfl rfl rfl hl.1 (Nat.le_of_ble_eq_true rfl) dL_law_193 (Nat.le_of_ble_eq_true rfl) (Nat.le_of_ble_eq_true rfl) (fun H locs hP hD hS => ?_)
  have hP : va_P D vwCl (fl [(wcX aX_0 aR_0 aG_0 aS_0 aP_0 aN_0 aI_0 aT_0 zX), (wcR ci aR_0 aR_1 aRG_0 aRS_0 zR), (wcG ci aRG_0 aRG_1 aRG_2 aRG_3 aRG_4 zRG), (wcS ci aRS_0 aRS_1 zRS), (wcG ci aG_0 aG_1 aG_2 aG_3 aG_4 zG), (wcS ci aS_0 aS_1 zS), (wcP ci aP_0 aP_1 aQ zP), (wcQ ci aQ zQ), (wcN ci aN_0 aN_1 aN_2 aN_3 aN_4 zN), (wcI ci aI_0 aI_1 aI_2 aJ zI), (wcJ ci aJ zJ), (wcT ci aT_0 zT), (wcM ci aM zM)]) H := hP
  have hD : va_D A (fl [(wcX aX_0 aR_0 aG_0 aS_0 aP_0 aN_0 aI_0 aT_0 zX), (wcR ci aR_0 aR_1 aRG_0 aRS_0 zR), (wcG ci aRG_0 aRG_1 aRG_2 aRG_3 aRG_4 zRG), (wcS ci aRS_0 aRS_1 zRS), (wcG ci aG_0 aG_1 aG_2 aG_3 aG_4 zG), (wcS ci aS_0 aS_1 zS), (wcP ci aP_0 aP_1 aQ zP), (wcQ ci aQ zQ), (wcN ci aN_0 aN_1 aN_2 aN_3 aN_4 zN), (wcI ci aI_0 aI_1 aI_2 aJ zI), (wcJ ci aJ zJ), (wcT ci aT_0 zT), (wcM ci aM zM)]) := hD
  refine lv_aload_n hx hb dL_law_196 rfl (lv_at hl 1 rfl) ?_
  replace hF := bnd hF
  obtain ⟨r_3, hc_4, hF⟩ := hF
  refine cl_Ci (As := []) (rest := [.int r_1]) (csC := [(wcM ci aM zM)]) (csR := [(wcX aX_0 aR_0 aG_0 aS_0 aP_0 aN_0 aI_0 aT_0 zX), (wcR ci aR_0 aR_1 aRG_0 aRS_0 zR), (wcG ci aRG_0 aRG_1 aRG_2 aRG_3 aRG_4 zRG), (wcS ci aRS_0 aRS_1 zRS), (wcG ci aG_0 aG_1 aG_2 aG_3 aG_4 zG), (wcS ci aS_0 aS_1 zS), (wcP ci aP_0 aP_1 aQ zP), (wcQ ci aQ zQ), (wcN ci aN_0 aN_1 aN_2 aN_3 aN_4 zN), (wcI ci aI_0 aI_1 aI_2 aJ zI), (wcJ ci aJ zJ), (wcT ci aT_0 zT)]) (csC1 := [(wcM ci aM zM)]) (csN := [(wcX aX_0 aR_0 aG_0 aS_0 aP_0 aN_0 aI_0 aT_0 zX), (wcR ci aR_0 aR_1 aRG_0 aRS_0 zR), (wcG ci aRG_0 aRG_1 aRG_2 aRG_3 aRG_4 zRG), (wcS ci aRS_0 aRS_1 zRS), (wcG ci aG_0 aG_1 aG_2 aG_3 aG_4 zG), (wcS ci aS_0 aS_1 zS), (wcP ci aP_0 aP_1 aQ zP), (wcQ ci aQ zQ), (wcN ci aN_0 aN_1 aN_2 aN_3 aN_4 zN), (wcI ci aI_0 aI_1 aI_2 aJ zI), (wcJ ci aJ zJ), (wcT ci aT_0 zT), (wcM ci aM zM)]) ⟨hx, hb, hml, hown, hts⟩ (cwV 0 hts gL_law_X7_fault rfl rfl rfl (by decide +kernel) ⟨Nat.le_of_ble_eq_true rfl, Nat.le_of_ble_eq_true rfl⟩) (c_X7_fault l D ci aM H.size zM _ hc_4) hK hP hD hS hA [0, 1, 2, 3, 4, 5, 6, 7, 8, 9, 10, 11, 12] [0, 1, 2, 3, 4, 5, 6, 7, 8, 9, 10, 11, 12] rfl rfl (by decide) (by decide) (by simp only [fl, List.append_nil]) (by simp only [fl, List.append_nil]) 0 rfl rfl rfl rfl hl.1 (Nat.le_of_ble_eq_true rfl) dL_law_197 (Nat.le_of_ble_eq_true rfl) (Nat.le_of_ble_eq_true rfl) (fun H locs hP hD hS => ?_)
  have hP : va_P D vwCl (fl [(wcX aX_0 aR_0 aG_0 aS_0 aP_0 aN_0 aI_0 aT_0 zX), (wcR ci aR_0 aR_1 aRG_0 aRS_0 zR), (wcG ci aRG_0 aRG_1 aRG_2 aRG_3 aRG_4 zRG), (wcS ci aRS_0 aRS_1 zRS), (wcG ci aG_0 aG_1 aG_2 aG_3 aG_4 zG), (wcS ci aS_0 aS_1 zS), (wcP ci aP_0 aP_1 aQ zP), (wcQ ci aQ zQ), (wcN ci aN_0 aN_1 aN_2 aN_3 aN_4 zN), (wcI ci aI_0 aI_1 aI_2 aJ zI), (wcJ ci aJ zJ), (wcT ci aT_0 zT), (wcM ci aM zM)]) H := hP
  have hD : va_D A (fl [(wcX aX_0 aR_0 aG_0 aS_0 aP_0 aN_0 aI_0 aT_0 zX), (wcR ci aR_0 aR_1 aRG_0 aRS_0 zR), (wcG ci aRG_0 aRG_1 aRG_2 aRG_3 aRG_4 zRG), (wcS ci aRS_0 aRS_1 zRS), (wcG ci aG_0 aG_1 aG_2 aG_3 aG_4 zG), (wcS ci aS_0 aS_1 zS), (wcP ci aP_0 aP_1 aQ zP), (wcQ ci aQ zQ), (wcN ci aN_0 aN_1 aN_2 aN_3 aN_4 zN), (wcI ci aI_0 aI_1 aI_2 aJ zI), (wcJ ci aJ zJ), (wcT ci aT_0 zT), (wcM ci aM zM)]) := hD
  refine lv_icmp_eq (tgt := 853) hx hb dL_law_200 (by decide) (fun c_5 => ?_) (fun c_5 => ?_)
  · replace hF := if_i c_5 hF
    obtain rfl := Option.some.inj hF
    exact kont H locs ls hP hD hS (lv_sub hl [0, 1, 2, 3] rfl)
  · replace hF := if_o c_5 hF
    refine lv_iconst (v := 0) hx hb dL_law_203 (by decide) ?_
    exact absurd hF (fun h => no_none h)
noncomputable def sp_3 (zX : XS) (zR : RS) (zRG : GS) (zRS : SS) (zG : GS) (zS : SS) (zP : PS) (zQ : QS) (zN : NS) (zI : IS) (zJ : QS) (zT : TS) (zM : MS) (a1 : Int32) : Option ZZ := (f_X6_told zX zR zG zS zP zN a1).bind fun r_1 => (f_X7_told zM a1).bind fun r_3 => if r_1 = r_3 then (some (zX, zR, zRG, zRS, zG, zS, zP, zQ, zN, zI, zJ, zT, zM)) else (none)
set_option maxHeartbeats 8000000 in
set_option maxRecDepth 200000 in
theorem lc_3 {p : Program} {l : Launch} {e : Env} {s : State} {m : MethodId} {below : List Frame} {meth : Method} {c : Code} {Q : State → Prop} {b L k : Nat} {xs : Nat → Int32} {D : va_G} {ci : Nat → ClassId} (hx : p.tables.exec = Jvm.exec) (hb : c.code = cL_law) (hml : c.maxLocals = 4) (hown : s.vm.findClass RL = some m.cls) (hts : ∀ w ∈ wsL_law, w.before #[Value.ref b] s = true) (hX : va_X b L xs s s.heap) (hbl : b < s.heap.size) (hL320 : L ≤ 320) (hk5 : k + 5 ≤ L) (hK : va_K D vwCl (tyL ci) s) (aX_0 : Nat) (aR_0 : Nat) (aG_0 : Nat) (aS_0 : Nat) (aP_0 : Nat) (aN_0 : Nat) (aI_0 : Nat) (aT_0 : Nat) (aR_1 : Nat) (aRG_0 : Nat) (aRS_0 : Nat) (aRG_1 : Nat) (aRG_2 : Nat) (aRG_3 : Nat) (aRG_4 : Nat) (aRS_1 : Nat) (aG_1 : Nat) (aG_2 : Nat) (aG_3 : Nat) (aG_4 : Nat) (aS_1 : Nat) (aP_1 : Nat) (aQ : Nat → Nat) (aN_1 : Nat) (aN_2 : Nat) (aN_3 : Nat) (aN_4 : Nat) (aI_1 : Nat) (aI_2 : Nat) (aJ : Nat → Nat) (aM : Nat → Nat) (zX : XS) (zR : RS) (zRG : GS) (zRS : SS) (zG : GS) (zS : SS) (zP : PS) (zQ : QS) (zN : NS) (zI : IS) (zJ : QS) (zT : TS) (zM : MS) (a1 : Int32) (ha1 : xs (k + 1) = a1) (res : ZZ) (hF : sp_3 zX zR zRG zRS zG zS zP zQ zN zI zJ zT zM a1 = some res) (H : Heap) (locs : List Loc) (ls : Array Slot) (hP : va_P D vwCl (fl [(wcX aX_0 aR_0 aG_0 aS_0 aP_0 aN_0 aI_0 aT_0 zX), (wcR ci aR_0 aR_1 aRG_0 aRS_0 zR), (wcG ci aRG_0 aRG_1 aRG_2 aRG_3 aRG_4 zRG), (wcS ci aRS_0 aRS_1 zRS), (wcG ci aG_0 aG_1 aG_2 aG_3 aG_4 zG), (wcS ci aS_0 aS_1 zS), (wcP ci aP_0 aP_1 aQ zP), (wcQ ci aQ zQ), (wcN ci aN_0 aN_1 aN_2 aN_3 aN_4 zN), (wcI ci aI_0 aI_1 aI_2 aJ zI), (wcJ ci aJ zJ), (wcT ci aT_0 zT), (wcM ci aM zM)]) H) (hD : va_D (fun q : Nat => s.heap.size ≤ q) (fl [(wcX aX_0 aR_0 aG_0 aS_0 aP_0 aN_0 aI_0 aT_0 zX), (wcR ci aR_0 aR_1 aRG_0 aRS_0 zR), (wcG ci aRG_0 aRG_1 aRG_2 aRG_3 aRG_4 zRG), (wcS ci aRS_0 aRS_1 zRS), (wcG ci aG_0 aG_1 aG_2 aG_3 aG_4 zG), (wcS ci aS_0 aS_1 zS), (wcP ci aP_0 aP_1 aQ zP), (wcQ ci aQ zQ), (wcN ci aN_0 aN_1 aN_2 aN_3 aN_4 zN), (wcI ci aI_0 aI_1 aI_2 aJ zI), (wcJ ci aJ zJ), (wcT ci aT_0 zT), (wcM ci aM zM)])) (hS : va_S (fun q : Nat => s.heap.size ≤ q) s.heap H locs) (hl : lv_has ls 4 [(3, .int (nI k)), (2, .ref (aM 0)), (1, .ref aX_0), (0, .ref b)]) (kont : ∀ (H : Heap) (locs : List Loc) (ls : Array Slot), va_P D vwCl (fl [(wcX aX_0 aR_0 aG_0 aS_0 aP_0 aN_0 aI_0 aT_0 res.1), (wcR ci aR_0 aR_1 aRG_0 aRS_0 res.2.1), (wcG ci aRG_0 aRG_1 aRG_2 aRG_3 aRG_4 res.2.2.1), (wcS ci aRS_0 aRS_1 res.2.2.2.1), (wcG ci aG_0 aG_1 aG_2 aG_3 aG_4 res.2.2.2.2.1), (wcS ci aS_0 aS_1 res.2.2.2.2.2.1), (wcP ci aP_0 aP_1 aQ res.2.2.2.2.2.2.1), (wcQ ci aQ res.2.2.2.2.2.2.2.1), (wcN ci aN_0 aN_1 aN_2 aN_3 aN_4 res.2.2.2.2.2.2.2.2.1), (wcI ci aI_0 aI_1 aI_2 aJ res.2.2.2.2.2.2.2.2.2.1), (wcJ ci aJ res.2.2.2.2.2.2.2.2.2.2.1), (wcT ci aT_0 res.2.2.2.2.2.2.2.2.2.2.2.1), (wcM ci aM res.2.2.2.2.2.2.2.2.2.2.2.2)]) H → va_D (fun q : Nat => s.heap.size ≤ q) (fl [(wcX aX_0 aR_0 aG_0 aS_0 aP_0 aN_0 aI_0 aT_0 res.1), (wcR ci aR_0 aR_1 aRG_0 aRS_0 res.2.1), (wcG ci aRG_0 aRG_1 aRG_2 aRG_3 aRG_4 res.2.2.1), (wcS ci aRS_0 aRS_1 res.2.2.2.1), (wcG ci aG_0 aG_1 aG_2 aG_3 aG_4 res.2.2.2.2.1), (wcS ci aS_0 aS_1 res.2.2.2.2.2.1), (wcP ci aP_0 aP_1 aQ res.2.2.2.2.2.2.1), (wcQ ci aQ res.2.2.2.2.2.2.2.1), (wcN ci aN_0 aN_1 aN_2 aN_3 aN_4 res.2.2.2.2.2.2.2.2.1), (wcI ci aI_0 aI_1 aI_2 aJ res.2.2.2.2.2.2.2.2.2.1), (wcJ ci aJ res.2.2.2.2.2.2.2.2.2.2.1), (wcT ci aT_0 res.2.2.2.2.2.2.2.2.2.2.2.1), (wcM ci aM res.2.2.2.2.2.2.2.2.2.2.2.2)]) → va_S (fun q : Nat => s.heap.size ≤ q) s.heap H locs → lv_has ls 4 [(3, .int (nI k)), (2, .ref (aM 0)), (1, .ref aX_0), (0, .ref b)] → W p l e room_1 s m #[Value.ref b] below meth c H locs 96 5513 Q (F0 m 853 ls [])) : W p l e room_1 s m #[Value.ref b] below meth c H locs 96 5513 Q (F0 m 205 ls []) := by
  obtain ⟨A, hAe⟩ : ∃ A : Nat → Prop, A = (fun q : Nat => s.heap.size ≤ q) := ⟨_, rfl⟩
  rw [← hAe] at hD hS kont
  have hA : ∀ q : Nat, s.heap.size ≤ q → A q := fun q h => by rw [hAe]; exact h
  have hbA : ¬ A b := by rw [hAe]; exact Nat.not_le.mpr hbl
  clear hAe
  unfold sp_3 at hF
  refine lv_aload_n hx hb dL_law_205 rfl (lv_at hl 2 rfl) ?_
  refine lv_aload_n hx hb dL_law_206 rfl (lv_at hl 3 rfl) ?_
  refine lv_iload_n hx hb dL_law_207 rfl (lv_at hl 0 rfl) ?_
  refine lv_iconst (v := 1) hx hb dL_law_208 (by decide) ?_
  refine lv_iadd hx hb dL_law_209 ?_
  refine va_sld hx hb hX hbl hbA hS (sc_in 1 k L hk5 hL320 (by omega)) dL_law_210 ?_
  refine W.eq (g2 := F0 m 211 ls [.int a1, .ref aX_0]) (by rw [sc_at1 k L xs hk5 hL320, ha1]) ?_
  replace hF := bnd hF
  obtain ⟨r_1, hc_2, hF⟩ := hF
  refine cl_Ci (As := [.int a1]) (rest := []) (csC := [(wcX aX_0 aR_0 aG_0 aS_0 aP_0 aN_0 aI_0 aT_0 zX), (wcR ci aR_0 aR_1 aRG_0 aRS_0 zR), (wcG ci aG_0 aG_1 aG_2 aG_3 aG_4 zG), (wcS ci aS_0 aS_1 zS), (wcP ci aP_0 aP_1 aQ zP), (wcN ci aN_0 aN_1 aN_2 aN_3 aN_4 zN)]) (csR := [(wcG ci aRG_0 aRG_1 aRG_2 aRG_3 aRG_4 zRG), (wcS ci aRS_0 aRS_1 zRS), (wcQ ci aQ zQ), (wcI ci aI_0 aI_1 aI_2 aJ zI), (wcJ ci aJ zJ), (wcT ci aT_0 zT), (wcM ci aM zM)]) (csC1 := [(wcX aX_0 aR_0 aG_0 aS_0 aP_0 aN_0 aI_0 aT_0 zX), (wcR ci aR_0 aR_1 aRG_0 aRS_0 zR), (wcG ci aG_0 aG_1 aG_2 aG_3 aG_4 zG), (wcS ci aS_0 aS_1 zS), (wcP ci aP_0 aP_1 aQ zP), (wcN ci aN_0 aN_1 aN_2 aN_3 aN_4 zN)]) (csN := [(wcX aX_0 aR_0 aG_0 aS_0 aP_0 aN_0 aI_0 aT_0 zX), (wcR ci aR_0 aR_1 aRG_0 aRS_0 zR), (wcG ci aRG_0 aRG_1 aRG_2 aRG_3 aRG_4 zRG), (wcS ci aRS_0 aRS_1 zRS), (wcG ci aG_0 aG_1 aG_2 aG_3 aG_4 zG), (wcS ci aS_0 aS_1 zS), (wcP ci aP_0 aP_1 aQ zP), (wcQ ci aQ zQ), (wcN ci aN_0 aN_1 aN_2 aN_3 aN_4 zN), (wcI ci aI_0 aI_1 aI_2 aJ zI), (wcJ ci aJ zJ), (wcT ci aT_0 zT), (wcM ci aM zM)]) ⟨hx, hb, hml, hown, hts⟩ (cwV 1 hts gL_law_X6_told rfl rfl rfl (by decide +kernel) ⟨Nat.le_of_ble_eq_true rfl, Nat.le_of_ble_eq_true rfl⟩) (c_X6_told l D ci aX_0 aR_0 aG_0 aS_0 aP_0 aN_0 aI_0 aT_0 aR_1 aRG_0 aRS_0 aG_1 aG_2 aG_3 aG_4 aS_1 aP_1 aQ aN_1 aN_2 aN_3 aN_4 H.size zX zR zG zS zP zN a1 _ hc_2) hK hP hD hS hA [2, 3, 7, 9, 10, 11, 12, 0, 1, 4, 5, 6, 8] [7, 8, 0, 1, 9, 10, 11, 2, 12, 3, 4, 5, 6] rfl rfl (by decide) (by decide) (by simp only [fl, List.append_nil]) (by simp only [fl, List.append_nil]) 0 rfl rfl rfl rfl hl.1 (Nat.le_of_ble_eq_true rfl) dL_law_211 (Nat.le_of_ble_eq_true rfl) (Nat.le_of_ble_eq_true rfl) (fun H locs hP hD hS => ?_)
  have hP : va_P D vwCl (fl [(wcX aX_0 aR_0 aG_0 aS_0 aP_0 aN_0 aI_0 aT_0 zX), (wcR ci aR_0 aR_1 aRG_0 aRS_0 zR), (wcG ci aRG_0 aRG_1 aRG_2 aRG_3 aRG_4 zRG), (wcS ci aRS_0 aRS_1 zRS), (wcG ci aG_0 aG_1 aG_2 aG_3 aG_4 zG), (wcS ci aS_0 aS_1 zS), (wcP ci aP_0 aP_1 aQ zP), (wcQ ci aQ zQ), (wcN ci aN_0 aN_1 aN_2 aN_3 aN_4 zN), (wcI ci aI_0 aI_1 aI_2 aJ zI), (wcJ ci aJ zJ), (wcT ci aT_0 zT), (wcM ci aM zM)]) H := hP
  have hD : va_D A (fl [(wcX aX_0 aR_0 aG_0 aS_0 aP_0 aN_0 aI_0 aT_0 zX), (wcR ci aR_0 aR_1 aRG_0 aRS_0 zR), (wcG ci aRG_0 aRG_1 aRG_2 aRG_3 aRG_4 zRG), (wcS ci aRS_0 aRS_1 zRS), (wcG ci aG_0 aG_1 aG_2 aG_3 aG_4 zG), (wcS ci aS_0 aS_1 zS), (wcP ci aP_0 aP_1 aQ zP), (wcQ ci aQ zQ), (wcN ci aN_0 aN_1 aN_2 aN_3 aN_4 zN), (wcI ci aI_0 aI_1 aI_2 aJ zI), (wcJ ci aJ zJ), (wcT ci aT_0 zT), (wcM ci aM zM)]) := hD
  refine lv_aload_n hx hb dL_law_214 rfl (lv_at hl 1 rfl) ?_
  refine lv_aload_n hx hb dL_law_215 rfl (lv_at hl 3 rfl) ?_
  refine lv_iload_n hx hb dL_law_216 rfl (lv_at hl 0 rfl) ?_
  refine lv_iconst (v := 1) hx hb dL_law_217 (by decide) ?_
  refine lv_iadd hx hb dL_law_218 ?_
  refine va_sld hx hb hX hbl hbA hS (sc_in 1 k L hk5 hL320 (by omega)) dL_law_219 ?_
  refine W.eq (g2 := F0 m 220 ls [.int a1, .ref (aM 0), .int r_1]) (by rw [sc_at1 k L xs hk5 hL320, ha1]) ?_
  replace hF := bnd hF
  obtain ⟨r_3, hc_4, hF⟩ := hF
  refine cl_Ci (As := [.int a1]) (rest := [.int r_1]) (csC := [(wcM ci aM zM)]) (csR := [(wcX aX_0 aR_0 aG_0 aS_0 aP_0 aN_0 aI_0 aT_0 zX), (wcR ci aR_0 aR_1 aRG_0 aRS_0 zR), (wcG ci aRG_0 aRG_1 aRG_2 aRG_3 aRG_4 zRG), (wcS ci aRS_0 aRS_1 zRS), (wcG ci aG_0 aG_1 aG_2 aG_3 aG_4 zG), (wcS ci aS_0 aS_1 zS), (wcP ci aP_0 aP_1 aQ zP), (wcQ ci aQ zQ), (wcN ci aN_0 aN_1 aN_2 aN_3 aN_4 zN), (wcI ci aI_0 aI_1 aI_2 aJ zI), (wcJ ci aJ zJ), (wcT ci aT_0 zT)]) (csC1 := [(wcM ci aM zM)]) (csN := [(wcX aX_0 aR_0 aG_0 aS_0 aP_0 aN_0 aI_0 aT_0 zX), (wcR ci aR_0 aR_1 aRG_0 aRS_0 zR), (wcG ci aRG_0 aRG_1 aRG_2 aRG_3 aRG_4 zRG), (wcS ci aRS_0 aRS_1 zRS), (wcG ci aG_0 aG_1 aG_2 aG_3 aG_4 zG), (wcS ci aS_0 aS_1 zS), (wcP ci aP_0 aP_1 aQ zP), (wcQ ci aQ zQ), (wcN ci aN_0 aN_1 aN_2 aN_3 aN_4 zN), (wcI ci aI_0 aI_1 aI_2 aJ zI), (wcJ ci aJ zJ), (wcT ci aT_0 zT), (wcM ci aM zM)]) ⟨hx, hb, hml, hown, hts⟩ (cwV 1 hts gL_law_X7_told rfl rfl rfl (by decide +kernel) ⟨Nat.le_of_ble_eq_true rfl, Nat.le_of_ble_eq_true rfl⟩) (c_X7_told l D ci aM H.size zM a1 _ hc_4) hK hP hD hS hA [0, 1, 2, 3, 4, 5, 6, 7, 8, 9, 10, 11, 12] [0, 1, 2, 3, 4, 5, 6, 7, 8, 9, 10, 11, 12] rfl rfl (by decide) (by decide) (by simp only [fl, List.append_nil]) (by simp only [fl, List.append_nil]) 0 rfl rfl rfl rfl hl.1 (Nat.le_of_ble_eq_true rfl) dL_law_220 (Nat.le_of_ble_eq_true rfl) (Nat.le_of_ble_eq_true rfl) (fun H locs hP hD hS => ?_)
  have hP : va_P D vwCl (fl [(wcX aX_0 aR_0 aG_0 aS_0 aP_0 aN_0 aI_0 aT_0 zX), (wcR ci aR_0 aR_1 aRG_0 aRS_0 zR), (wcG ci aRG_0 aRG_1 aRG_2 aRG_3 aRG_4 zRG), (wcS ci aRS_0 aRS_1 zRS), (wcG ci aG_0 aG_1 aG_2 aG_3 aG_4 zG), (wcS ci aS_0 aS_1 zS), (wcP ci aP_0 aP_1 aQ zP), (wcQ ci aQ zQ), (wcN ci aN_0 aN_1 aN_2 aN_3 aN_4 zN), (wcI ci aI_0 aI_1 aI_2 aJ zI), (wcJ ci aJ zJ), (wcT ci aT_0 zT), (wcM ci aM zM)]) H := hP
  have hD : va_D A (fl [(wcX aX_0 aR_0 aG_0 aS_0 aP_0 aN_0 aI_0 aT_0 zX), (wcR ci aR_0 aR_1 aRG_0 aRS_0 zR), (wcG ci aRG_0 aRG_1 aRG_2 aRG_3 aRG_4 zRG), (wcS ci aRS_0 aRS_1 zRS), (wcG ci aG_0 aG_1 aG_2 aG_3 aG_4 zG), (wcS ci aS_0 aS_1 zS), (wcP ci aP_0 aP_1 aQ zP), (wcQ ci aQ zQ), (wcN ci aN_0 aN_1 aN_2 aN_3 aN_4 zN), (wcI ci aI_0 aI_1 aI_2 aJ zI), (wcJ ci aJ zJ), (wcT ci aT_0 zT), (wcM ci aM zM)]) := hD
  refine lv_icmp_eq (tgt := 853) hx hb dL_law_223 (by decide) (fun c_5 => ?_) (fun c_5 => ?_)
  · replace hF := if_i c_5 hF
    obtain rfl := Option.some.inj hF
    exact kont H locs ls hP hD hS (lv_sub hl [0, 1, 2, 3] rfl)
  · replace hF := if_o c_5 hF
    refine lv_iconst (v := 0) hx hb dL_law_226 (by decide) ?_
    exact absurd hF (fun h => no_none h)
noncomputable def sp_4 (zX : XS) (zR : RS) (zRG : GS) (zRS : SS) (zG : GS) (zS : SS) (zP : PS) (zQ : QS) (zN : NS) (zI : IS) (zJ : QS) (zT : TS) (zM : MS) (a1 : Int32) (a2 : Int32) : Option ZZ := (f_X6_field zX zG zS a1 a2).bind fun r_1 => (f_X7_field zM a1 a2).bind fun r_3 => if r_1 = r_3 then (some (zX, zR, zRG, zRS, zG, zS, zP, zQ, zN, zI, zJ, zT, zM)) else (none)
set_option maxHeartbeats 8000000 in
set_option maxRecDepth 200000 in
theorem lc_4 {p : Program} {l : Launch} {e : Env} {s : State} {m : MethodId} {below : List Frame} {meth : Method} {c : Code} {Q : State → Prop} {b L k : Nat} {xs : Nat → Int32} {D : va_G} {ci : Nat → ClassId} (hx : p.tables.exec = Jvm.exec) (hb : c.code = cL_law) (hml : c.maxLocals = 4) (hown : s.vm.findClass RL = some m.cls) (hts : ∀ w ∈ wsL_law, w.before #[Value.ref b] s = true) (hX : va_X b L xs s s.heap) (hbl : b < s.heap.size) (hL320 : L ≤ 320) (hk5 : k + 5 ≤ L) (hK : va_K D vwCl (tyL ci) s) (aX_0 : Nat) (aR_0 : Nat) (aG_0 : Nat) (aS_0 : Nat) (aP_0 : Nat) (aN_0 : Nat) (aI_0 : Nat) (aT_0 : Nat) (aR_1 : Nat) (aRG_0 : Nat) (aRS_0 : Nat) (aRG_1 : Nat) (aRG_2 : Nat) (aRG_3 : Nat) (aRG_4 : Nat) (aRS_1 : Nat) (aG_1 : Nat) (aG_2 : Nat) (aG_3 : Nat) (aG_4 : Nat) (aS_1 : Nat) (aP_1 : Nat) (aQ : Nat → Nat) (aN_1 : Nat) (aN_2 : Nat) (aN_3 : Nat) (aN_4 : Nat) (aI_1 : Nat) (aI_2 : Nat) (aJ : Nat → Nat) (aM : Nat → Nat) (zX : XS) (zR : RS) (zRG : GS) (zRS : SS) (zG : GS) (zS : SS) (zP : PS) (zQ : QS) (zN : NS) (zI : IS) (zJ : QS) (zT : TS) (zM : MS) (a1 : Int32) (a2 : Int32) (ha1 : xs (k + 1) = a1) (ha2 : xs (k + 2) = a2) (res : ZZ) (hF : sp_4 zX zR zRG zRS zG zS zP zQ zN zI zJ zT zM a1 a2 = some res) (H : Heap) (locs : List Loc) (ls : Array Slot) (hP : va_P D vwCl (fl [(wcX aX_0 aR_0 aG_0 aS_0 aP_0 aN_0 aI_0 aT_0 zX), (wcR ci aR_0 aR_1 aRG_0 aRS_0 zR), (wcG ci aRG_0 aRG_1 aRG_2 aRG_3 aRG_4 zRG), (wcS ci aRS_0 aRS_1 zRS), (wcG ci aG_0 aG_1 aG_2 aG_3 aG_4 zG), (wcS ci aS_0 aS_1 zS), (wcP ci aP_0 aP_1 aQ zP), (wcQ ci aQ zQ), (wcN ci aN_0 aN_1 aN_2 aN_3 aN_4 zN), (wcI ci aI_0 aI_1 aI_2 aJ zI), (wcJ ci aJ zJ), (wcT ci aT_0 zT), (wcM ci aM zM)]) H) (hD : va_D (fun q : Nat => s.heap.size ≤ q) (fl [(wcX aX_0 aR_0 aG_0 aS_0 aP_0 aN_0 aI_0 aT_0 zX), (wcR ci aR_0 aR_1 aRG_0 aRS_0 zR), (wcG ci aRG_0 aRG_1 aRG_2 aRG_3 aRG_4 zRG), (wcS ci aRS_0 aRS_1 zRS), (wcG ci aG_0 aG_1 aG_2 aG_3 aG_4 zG), (wcS ci aS_0 aS_1 zS), (wcP ci aP_0 aP_1 aQ zP), (wcQ ci aQ zQ), (wcN ci aN_0 aN_1 aN_2 aN_3 aN_4 zN), (wcI ci aI_0 aI_1 aI_2 aJ zI), (wcJ ci aJ zJ), (wcT ci aT_0 zT), (wcM ci aM zM)])) (hS : va_S (fun q : Nat => s.heap.size ≤ q) s.heap H locs) (hl : lv_has ls 4 [(3, .int (nI k)), (2, .ref (aM 0)), (1, .ref aX_0), (0, .ref b)]) (kont : ∀ (H : Heap) (locs : List Loc) (ls : Array Slot), va_P D vwCl (fl [(wcX aX_0 aR_0 aG_0 aS_0 aP_0 aN_0 aI_0 aT_0 res.1), (wcR ci aR_0 aR_1 aRG_0 aRS_0 res.2.1), (wcG ci aRG_0 aRG_1 aRG_2 aRG_3 aRG_4 res.2.2.1), (wcS ci aRS_0 aRS_1 res.2.2.2.1), (wcG ci aG_0 aG_1 aG_2 aG_3 aG_4 res.2.2.2.2.1), (wcS ci aS_0 aS_1 res.2.2.2.2.2.1), (wcP ci aP_0 aP_1 aQ res.2.2.2.2.2.2.1), (wcQ ci aQ res.2.2.2.2.2.2.2.1), (wcN ci aN_0 aN_1 aN_2 aN_3 aN_4 res.2.2.2.2.2.2.2.2.1), (wcI ci aI_0 aI_1 aI_2 aJ res.2.2.2.2.2.2.2.2.2.1), (wcJ ci aJ res.2.2.2.2.2.2.2.2.2.2.1), (wcT ci aT_0 res.2.2.2.2.2.2.2.2.2.2.2.1), (wcM ci aM res.2.2.2.2.2.2.2.2.2.2.2.2)]) H → va_D (fun q : Nat => s.heap.size ≤ q) (fl [(wcX aX_0 aR_0 aG_0 aS_0 aP_0 aN_0 aI_0 aT_0 res.1), (wcR ci aR_0 aR_1 aRG_0 aRS_0 res.2.1), (wcG ci aRG_0 aRG_1 aRG_2 aRG_3 aRG_4 res.2.2.1), (wcS ci aRS_0 aRS_1 res.2.2.2.1), (wcG ci aG_0 aG_1 aG_2 aG_3 aG_4 res.2.2.2.2.1), (wcS ci aS_0 aS_1 res.2.2.2.2.2.1), (wcP ci aP_0 aP_1 aQ res.2.2.2.2.2.2.1), (wcQ ci aQ res.2.2.2.2.2.2.2.1), (wcN ci aN_0 aN_1 aN_2 aN_3 aN_4 res.2.2.2.2.2.2.2.2.1), (wcI ci aI_0 aI_1 aI_2 aJ res.2.2.2.2.2.2.2.2.2.1), (wcJ ci aJ res.2.2.2.2.2.2.2.2.2.2.1), (wcT ci aT_0 res.2.2.2.2.2.2.2.2.2.2.2.1), (wcM ci aM res.2.2.2.2.2.2.2.2.2.2.2.2)]) → va_S (fun q : Nat => s.heap.size ≤ q) s.heap H locs → lv_has ls 4 [(3, .int (nI k)), (2, .ref (aM 0)), (1, .ref aX_0), (0, .ref b)] → W p l e room_1 s m #[Value.ref b] below meth c H locs 96 5513 Q (F0 m 853 ls [])) : W p l e room_1 s m #[Value.ref b] below meth c H locs 96 5513 Q (F0 m 228 ls []) := by
  obtain ⟨A, hAe⟩ : ∃ A : Nat → Prop, A = (fun q : Nat => s.heap.size ≤ q) := ⟨_, rfl⟩
  rw [← hAe] at hD hS kont
  have hA : ∀ q : Nat, s.heap.size ≤ q → A q := fun q h => by rw [hAe]; exact h
  have hbA : ¬ A b := by rw [hAe]; exact Nat.not_le.mpr hbl
  clear hAe
  unfold sp_4 at hF
  refine lv_aload_n hx hb dL_law_228 rfl (lv_at hl 2 rfl) ?_
  refine lv_aload_n hx hb dL_law_229 rfl (lv_at hl 3 rfl) ?_
  refine lv_iload_n hx hb dL_law_230 rfl (lv_at hl 0 rfl) ?_
  refine lv_iconst (v := 1) hx hb dL_law_231 (by decide) ?_
  refine lv_iadd hx hb dL_law_232 ?_
  refine va_sld hx hb hX hbl hbA hS (sc_in 1 k L hk5 hL320 (by omega)) dL_law_233 ?_
  refine W.eq (g2 := F0 m 234 ls [.int a1, .ref aX_0]) (by rw [sc_at1 k L xs hk5 hL320, ha1]) ?_
  refine lv_aload_n hx hb dL_law_234 rfl (lv_at hl 3 rfl) ?_
  refine lv_iload_n hx hb dL_law_235 rfl (lv_at hl 0 rfl) ?_
  refine lv_iconst (v := 2) hx hb dL_law_236 (by decide) ?_
  refine lv_iadd hx hb dL_law_237 ?_
  refine va_sld hx hb hX hbl hbA hS (sc_in 2 k L hk5 hL320 (by omega)) dL_law_238 ?_
  refine W.eq (g2 := F0 m 239 ls [.int a2, .int a1, .ref aX_0]) (by rw [sc_at2 k L xs hk5 hL320, ha2]) ?_
  replace hF := bnd hF
  obtain ⟨r_1, hc_2, hF⟩ := hF
  refine cl_Ci (As := [.int a1, .int a2]) (rest := []) (csC := [(wcX aX_0 aR_0 aG_0 aS_0 aP_0 aN_0 aI_0 aT_0 zX), (wcG ci aG_0 aG_1 aG_2 aG_3 aG_4 zG), (wcS ci aS_0 aS_1 zS)]) (csR := [(wcR ci aR_0 aR_1 aRG_0 aRS_0 zR), (wcG ci aRG_0 aRG_1 aRG_2 aRG_3 aRG_4 zRG), (wcS ci aRS_0 aRS_1 zRS), (wcP ci aP_0 aP_1 aQ zP), (wcQ ci aQ zQ), (wcN ci aN_0 aN_1 aN_2 aN_3 aN_4 zN), (wcI ci aI_0 aI_1 aI_2 aJ zI), (wcJ ci aJ zJ), (wcT ci aT_0 zT), (wcM ci aM zM)]) (csC1 := [(wcX aX_0 aR_0 aG_0 aS_0 aP_0 aN_0 aI_0 aT_0 zX), (wcG ci aG_0 aG_1 aG_2 aG_3 aG_4 zG), (wcS ci aS_0 aS_1 zS)]) (csN := [(wcX aX_0 aR_0 aG_0 aS_0 aP_0 aN_0 aI_0 aT_0 zX), (wcR ci aR_0 aR_1 aRG_0 aRS_0 zR), (wcG ci aRG_0 aRG_1 aRG_2 aRG_3 aRG_4 zRG), (wcS ci aRS_0 aRS_1 zRS), (wcG ci aG_0 aG_1 aG_2 aG_3 aG_4 zG), (wcS ci aS_0 aS_1 zS), (wcP ci aP_0 aP_1 aQ zP), (wcQ ci aQ zQ), (wcN ci aN_0 aN_1 aN_2 aN_3 aN_4 zN), (wcI ci aI_0 aI_1 aI_2 aJ zI), (wcJ ci aJ zJ), (wcT ci aT_0 zT), (wcM ci aM zM)]) ⟨hx, hb, hml, hown, hts⟩ (cwV 2 hts gL_law_X6_field rfl rfl rfl (by decide +kernel) ⟨Nat.le_of_ble_eq_true rfl, Nat.le_of_ble_eq_true rfl⟩) (c_X6_field l D ci aX_0 aR_0 aG_0 aS_0 aP_0 aN_0 aI_0 aT_0 aG_1 aG_2 aG_3 aG_4 aS_1 H.size zX zG zS a1 a2 _ hc_2) hK hP hD hS hA [1, 2, 3, 6, 7, 8, 9, 10, 11, 12, 0, 4, 5] [10, 0, 1, 2, 11, 12, 3, 4, 5, 6, 7, 8, 9] rfl rfl (by decide) (by decide) (by simp only [fl, List.append_nil]) (by simp only [fl, List.append_nil]) 0 rfl rfl rfl rfl hl.1 (Nat.le_of_ble_eq_true rfl) dL_law_239 (Nat.le_of_ble_eq_true rfl) (Nat.le_of_ble_eq_true rfl) (fun H locs hP hD hS => ?_)
  have hP : va_P D vwCl (fl [(wcX aX_0 aR_0 aG_0 aS_0 aP_0 aN_0 aI_0 aT_0 zX), (wcR ci aR_0 aR_1 aRG_0 aRS_0 zR), (wcG ci aRG_0 aRG_1 aRG_2 aRG_3 aRG_4 zRG), (wcS ci aRS_0 aRS_1 zRS), (wcG ci aG_0 aG_1 aG_2 aG_3 aG_4 zG), (wcS ci aS_0 aS_1 zS), (wcP ci aP_0 aP_1 aQ zP), (wcQ ci aQ zQ), (wcN ci aN_0 aN_1 aN_2 aN_3 aN_4 zN), (wcI ci aI_0 aI_1 aI_2 aJ zI), (wcJ ci aJ zJ), (wcT ci aT_0 zT), (wcM ci aM zM)]) H := hP
  have hD : va_D A (fl [(wcX aX_0 aR_0 aG_0 aS_0 aP_0 aN_0 aI_0 aT_0 zX), (wcR ci aR_0 aR_1 aRG_0 aRS_0 zR), (wcG ci aRG_0 aRG_1 aRG_2 aRG_3 aRG_4 zRG), (wcS ci aRS_0 aRS_1 zRS), (wcG ci aG_0 aG_1 aG_2 aG_3 aG_4 zG), (wcS ci aS_0 aS_1 zS), (wcP ci aP_0 aP_1 aQ zP), (wcQ ci aQ zQ), (wcN ci aN_0 aN_1 aN_2 aN_3 aN_4 zN), (wcI ci aI_0 aI_1 aI_2 aJ zI), (wcJ ci aJ zJ), (wcT ci aT_0 zT), (wcM ci aM zM)]) := hD
  refine lv_aload_n hx hb dL_law_242 rfl (lv_at hl 1 rfl) ?_
  refine lv_aload_n hx hb dL_law_243 rfl (lv_at hl 3 rfl) ?_
  refine lv_iload_n hx hb dL_law_244 rfl (lv_at hl 0 rfl) ?_
  refine lv_iconst (v := 1) hx hb dL_law_245 (by decide) ?_
  refine lv_iadd hx hb dL_law_246 ?_
  refine va_sld hx hb hX hbl hbA hS (sc_in 1 k L hk5 hL320 (by omega)) dL_law_247 ?_
  refine W.eq (g2 := F0 m 248 ls [.int a1, .ref (aM 0), .int r_1]) (by rw [sc_at1 k L xs hk5 hL320, ha1]) ?_
  refine lv_aload_n hx hb dL_law_248 rfl (lv_at hl 3 rfl) ?_
  refine lv_iload_n hx hb dL_law_249 rfl (lv_at hl 0 rfl) ?_
  refine lv_iconst (v := 2) hx hb dL_law_250 (by decide) ?_
  refine lv_iadd hx hb dL_law_251 ?_
  refine va_sld hx hb hX hbl hbA hS (sc_in 2 k L hk5 hL320 (by omega)) dL_law_252 ?_
  refine W.eq (g2 := F0 m 253 ls [.int a2, .int a1, .ref (aM 0), .int r_1]) (by rw [sc_at2 k L xs hk5 hL320, ha2]) ?_
  replace hF := bnd hF
  obtain ⟨r_3, hc_4, hF⟩ := hF
  refine cl_Ci (As := [.int a1, .int a2]) (rest := [.int r_1]) (csC := [(wcM ci aM zM)]) (csR := [(wcX aX_0 aR_0 aG_0 aS_0 aP_0 aN_0 aI_0 aT_0 zX), (wcR ci aR_0 aR_1 aRG_0 aRS_0 zR), (wcG ci aRG_0 aRG_1 aRG_2 aRG_3 aRG_4 zRG), (wcS ci aRS_0 aRS_1 zRS), (wcG ci aG_0 aG_1 aG_2 aG_3 aG_4 zG), (wcS ci aS_0 aS_1 zS), (wcP ci aP_0 aP_1 aQ zP), (wcQ ci aQ zQ), (wcN ci aN_0 aN_1 aN_2 aN_3 aN_4 zN), (wcI ci aI_0 aI_1 aI_2 aJ zI), (wcJ ci aJ zJ), (wcT ci aT_0 zT)]) (csC1 := [(wcM ci aM zM)]) (csN := [(wcX aX_0 aR_0 aG_0 aS_0 aP_0 aN_0 aI_0 aT_0 zX), (wcR ci aR_0 aR_1 aRG_0 aRS_0 zR), (wcG ci aRG_0 aRG_1 aRG_2 aRG_3 aRG_4 zRG), (wcS ci aRS_0 aRS_1 zRS), (wcG ci aG_0 aG_1 aG_2 aG_3 aG_4 zG), (wcS ci aS_0 aS_1 zS), (wcP ci aP_0 aP_1 aQ zP), (wcQ ci aQ zQ), (wcN ci aN_0 aN_1 aN_2 aN_3 aN_4 zN), (wcI ci aI_0 aI_1 aI_2 aJ zI), (wcJ ci aJ zJ), (wcT ci aT_0 zT), (wcM ci aM zM)]) ⟨hx, hb, hml, hown, hts⟩ (cwV 2 hts gL_law_X7_field rfl rfl rfl (by decide +kernel) ⟨Nat.le_of_ble_eq_true rfl, Nat.le_of_ble_eq_true rfl⟩) (c_X7_field l D ci aM H.size zM a1 a2 _ hc_4) hK hP hD hS hA [0, 1, 2, 3, 4, 5, 6, 7, 8, 9, 10, 11, 12] [0, 1, 2, 3, 4, 5, 6, 7, 8, 9, 10, 11, 12] rfl rfl (by decide) (by decide) (by simp only [fl, List.append_nil]) (by simp only [fl, List.append_nil]) 0 rfl rfl rfl rfl hl.1 (Nat.le_of_ble_eq_true rfl) dL_law_253 (Nat.le_of_ble_eq_true rfl) (Nat.le_of_ble_eq_true rfl) (fun H locs hP hD hS => ?_)
  have hP : va_P D vwCl (fl [(wcX aX_0 aR_0 aG_0 aS_0 aP_0 aN_0 aI_0 aT_0 zX), (wcR ci aR_0 aR_1 aRG_0 aRS_0 zR), (wcG ci aRG_0 aRG_1 aRG_2 aRG_3 aRG_4 zRG), (wcS ci aRS_0 aRS_1 zRS), (wcG ci aG_0 aG_1 aG_2 aG_3 aG_4 zG), (wcS ci aS_0 aS_1 zS), (wcP ci aP_0 aP_1 aQ zP), (wcQ ci aQ zQ), (wcN ci aN_0 aN_1 aN_2 aN_3 aN_4 zN), (wcI ci aI_0 aI_1 aI_2 aJ zI), (wcJ ci aJ zJ), (wcT ci aT_0 zT), (wcM ci aM zM)]) H := hP
  have hD : va_D A (fl [(wcX aX_0 aR_0 aG_0 aS_0 aP_0 aN_0 aI_0 aT_0 zX), (wcR ci aR_0 aR_1 aRG_0 aRS_0 zR), (wcG ci aRG_0 aRG_1 aRG_2 aRG_3 aRG_4 zRG), (wcS ci aRS_0 aRS_1 zRS), (wcG ci aG_0 aG_1 aG_2 aG_3 aG_4 zG), (wcS ci aS_0 aS_1 zS), (wcP ci aP_0 aP_1 aQ zP), (wcQ ci aQ zQ), (wcN ci aN_0 aN_1 aN_2 aN_3 aN_4 zN), (wcI ci aI_0 aI_1 aI_2 aJ zI), (wcJ ci aJ zJ), (wcT ci aT_0 zT), (wcM ci aM zM)]) := hD
  refine lv_icmp_eq (tgt := 853) hx hb dL_law_256 (by decide) (fun c_5 => ?_) (fun c_5 => ?_)
  · replace hF := if_i c_5 hF
    obtain rfl := Option.some.inj hF
    exact kont H locs ls hP hD hS (lv_sub hl [0, 1, 2, 3] rfl)
  · replace hF := if_o c_5 hF
    refine lv_iconst (v := 0) hx hb dL_law_259 (by decide) ?_
    exact absurd hF (fun h => no_none h)
noncomputable def sp_5 (zX : XS) (zR : RS) (zRG : GS) (zRS : SS) (zG : GS) (zS : SS) (zP : PS) (zQ : QS) (zN : NS) (zI : IS) (zJ : QS) (zT : TS) (zM : MS) (a1 : Int32) (a2 : Int32) : Option ZZ := (f_X6_edge zX zG zS a1 a2).bind fun r_1 => (f_X7_edge zM a1 a2).bind fun r_3 => if r_1 = r_3 then (some (zX, zR, zRG, zRS, zG, zS, zP, zQ, zN, zI, zJ, zT, zM)) else (none)
set_option maxHeartbeats 8000000 in
set_option maxRecDepth 200000 in
theorem lc_5 {p : Program} {l : Launch} {e : Env} {s : State} {m : MethodId} {below : List Frame} {meth : Method} {c : Code} {Q : State → Prop} {b L k : Nat} {xs : Nat → Int32} {D : va_G} {ci : Nat → ClassId} (hx : p.tables.exec = Jvm.exec) (hb : c.code = cL_law) (hml : c.maxLocals = 4) (hown : s.vm.findClass RL = some m.cls) (hts : ∀ w ∈ wsL_law, w.before #[Value.ref b] s = true) (hX : va_X b L xs s s.heap) (hbl : b < s.heap.size) (hL320 : L ≤ 320) (hk5 : k + 5 ≤ L) (hK : va_K D vwCl (tyL ci) s) (aX_0 : Nat) (aR_0 : Nat) (aG_0 : Nat) (aS_0 : Nat) (aP_0 : Nat) (aN_0 : Nat) (aI_0 : Nat) (aT_0 : Nat) (aR_1 : Nat) (aRG_0 : Nat) (aRS_0 : Nat) (aRG_1 : Nat) (aRG_2 : Nat) (aRG_3 : Nat) (aRG_4 : Nat) (aRS_1 : Nat) (aG_1 : Nat) (aG_2 : Nat) (aG_3 : Nat) (aG_4 : Nat) (aS_1 : Nat) (aP_1 : Nat) (aQ : Nat → Nat) (aN_1 : Nat) (aN_2 : Nat) (aN_3 : Nat) (aN_4 : Nat) (aI_1 : Nat) (aI_2 : Nat) (aJ : Nat → Nat) (aM : Nat → Nat) (zX : XS) (zR : RS) (zRG : GS) (zRS : SS) (zG : GS) (zS : SS) (zP : PS) (zQ : QS) (zN : NS) (zI : IS) (zJ : QS) (zT : TS) (zM : MS) (a1 : Int32) (a2 : Int32) (ha1 : xs (k + 1) = a1) (ha2 : xs (k + 2) = a2) (res : ZZ) (hF : sp_5 zX zR zRG zRS zG zS zP zQ zN zI zJ zT zM a1 a2 = some res) (H : Heap) (locs : List Loc) (ls : Array Slot) (hP : va_P D vwCl (fl [(wcX aX_0 aR_0 aG_0 aS_0 aP_0 aN_0 aI_0 aT_0 zX), (wcR ci aR_0 aR_1 aRG_0 aRS_0 zR), (wcG ci aRG_0 aRG_1 aRG_2 aRG_3 aRG_4 zRG), (wcS ci aRS_0 aRS_1 zRS), (wcG ci aG_0 aG_1 aG_2 aG_3 aG_4 zG), (wcS ci aS_0 aS_1 zS), (wcP ci aP_0 aP_1 aQ zP), (wcQ ci aQ zQ), (wcN ci aN_0 aN_1 aN_2 aN_3 aN_4 zN), (wcI ci aI_0 aI_1 aI_2 aJ zI), (wcJ ci aJ zJ), (wcT ci aT_0 zT), (wcM ci aM zM)]) H) (hD : va_D (fun q : Nat => s.heap.size ≤ q) (fl [(wcX aX_0 aR_0 aG_0 aS_0 aP_0 aN_0 aI_0 aT_0 zX), (wcR ci aR_0 aR_1 aRG_0 aRS_0 zR), (wcG ci aRG_0 aRG_1 aRG_2 aRG_3 aRG_4 zRG), (wcS ci aRS_0 aRS_1 zRS), (wcG ci aG_0 aG_1 aG_2 aG_3 aG_4 zG), (wcS ci aS_0 aS_1 zS), (wcP ci aP_0 aP_1 aQ zP), (wcQ ci aQ zQ), (wcN ci aN_0 aN_1 aN_2 aN_3 aN_4 zN), (wcI ci aI_0 aI_1 aI_2 aJ zI), (wcJ ci aJ zJ), (wcT ci aT_0 zT), (wcM ci aM zM)])) (hS : va_S (fun q : Nat => s.heap.size ≤ q) s.heap H locs) (hl : lv_has ls 4 [(3, .int (nI k)), (2, .ref (aM 0)), (1, .ref aX_0), (0, .ref b)]) (kont : ∀ (H : Heap) (locs : List Loc) (ls : Array Slot), va_P D vwCl (fl [(wcX aX_0 aR_0 aG_0 aS_0 aP_0 aN_0 aI_0 aT_0 res.1), (wcR ci aR_0 aR_1 aRG_0 aRS_0 res.2.1), (wcG ci aRG_0 aRG_1 aRG_2 aRG_3 aRG_4 res.2.2.1), (wcS ci aRS_0 aRS_1 res.2.2.2.1), (wcG ci aG_0 aG_1 aG_2 aG_3 aG_4 res.2.2.2.2.1), (wcS ci aS_0 aS_1 res.2.2.2.2.2.1), (wcP ci aP_0 aP_1 aQ res.2.2.2.2.2.2.1), (wcQ ci aQ res.2.2.2.2.2.2.2.1), (wcN ci aN_0 aN_1 aN_2 aN_3 aN_4 res.2.2.2.2.2.2.2.2.1), (wcI ci aI_0 aI_1 aI_2 aJ res.2.2.2.2.2.2.2.2.2.1), (wcJ ci aJ res.2.2.2.2.2.2.2.2.2.2.1), (wcT ci aT_0 res.2.2.2.2.2.2.2.2.2.2.2.1), (wcM ci aM res.2.2.2.2.2.2.2.2.2.2.2.2)]) H → va_D (fun q : Nat => s.heap.size ≤ q) (fl [(wcX aX_0 aR_0 aG_0 aS_0 aP_0 aN_0 aI_0 aT_0 res.1), (wcR ci aR_0 aR_1 aRG_0 aRS_0 res.2.1), (wcG ci aRG_0 aRG_1 aRG_2 aRG_3 aRG_4 res.2.2.1), (wcS ci aRS_0 aRS_1 res.2.2.2.1), (wcG ci aG_0 aG_1 aG_2 aG_3 aG_4 res.2.2.2.2.1), (wcS ci aS_0 aS_1 res.2.2.2.2.2.1), (wcP ci aP_0 aP_1 aQ res.2.2.2.2.2.2.1), (wcQ ci aQ res.2.2.2.2.2.2.2.1), (wcN ci aN_0 aN_1 aN_2 aN_3 aN_4 res.2.2.2.2.2.2.2.2.1), (wcI ci aI_0 aI_1 aI_2 aJ res.2.2.2.2.2.2.2.2.2.1), (wcJ ci aJ res.2.2.2.2.2.2.2.2.2.2.1), (wcT ci aT_0 res.2.2.2.2.2.2.2.2.2.2.2.1), (wcM ci aM res.2.2.2.2.2.2.2.2.2.2.2.2)]) → va_S (fun q : Nat => s.heap.size ≤ q) s.heap H locs → lv_has ls 4 [(3, .int (nI k)), (2, .ref (aM 0)), (1, .ref aX_0), (0, .ref b)] → W p l e room_1 s m #[Value.ref b] below meth c H locs 96 5513 Q (F0 m 853 ls [])) : W p l e room_1 s m #[Value.ref b] below meth c H locs 96 5513 Q (F0 m 261 ls []) := by
  obtain ⟨A, hAe⟩ : ∃ A : Nat → Prop, A = (fun q : Nat => s.heap.size ≤ q) := ⟨_, rfl⟩
  rw [← hAe] at hD hS kont
  have hA : ∀ q : Nat, s.heap.size ≤ q → A q := fun q h => by rw [hAe]; exact h
  have hbA : ¬ A b := by rw [hAe]; exact Nat.not_le.mpr hbl
  clear hAe
  unfold sp_5 at hF
  refine lv_aload_n hx hb dL_law_261 rfl (lv_at hl 2 rfl) ?_
  refine lv_aload_n hx hb dL_law_262 rfl (lv_at hl 3 rfl) ?_
  refine lv_iload_n hx hb dL_law_263 rfl (lv_at hl 0 rfl) ?_
  refine lv_iconst (v := 1) hx hb dL_law_264 (by decide) ?_
  refine lv_iadd hx hb dL_law_265 ?_
  refine va_sld hx hb hX hbl hbA hS (sc_in 1 k L hk5 hL320 (by omega)) dL_law_266 ?_
  refine W.eq (g2 := F0 m 267 ls [.int a1, .ref aX_0]) (by rw [sc_at1 k L xs hk5 hL320, ha1]) ?_
  refine lv_aload_n hx hb dL_law_267 rfl (lv_at hl 3 rfl) ?_
  refine lv_iload_n hx hb dL_law_268 rfl (lv_at hl 0 rfl) ?_
  refine lv_iconst (v := 2) hx hb dL_law_269 (by decide) ?_
  refine lv_iadd hx hb dL_law_270 ?_
  refine va_sld hx hb hX hbl hbA hS (sc_in 2 k L hk5 hL320 (by omega)) dL_law_271 ?_
  refine W.eq (g2 := F0 m 272 ls [.int a2, .int a1, .ref aX_0]) (by rw [sc_at2 k L xs hk5 hL320, ha2]) ?_
  replace hF := bnd hF
  obtain ⟨r_1, hc_2, hF⟩ := hF
  refine cl_Ci (As := [.int a1, .int a2]) (rest := []) (csC := [(wcX aX_0 aR_0 aG_0 aS_0 aP_0 aN_0 aI_0 aT_0 zX), (wcG ci aG_0 aG_1 aG_2 aG_3 aG_4 zG), (wcS ci aS_0 aS_1 zS)]) (csR := [(wcR ci aR_0 aR_1 aRG_0 aRS_0 zR), (wcG ci aRG_0 aRG_1 aRG_2 aRG_3 aRG_4 zRG), (wcS ci aRS_0 aRS_1 zRS), (wcP ci aP_0 aP_1 aQ zP), (wcQ ci aQ zQ), (wcN ci aN_0 aN_1 aN_2 aN_3 aN_4 zN), (wcI ci aI_0 aI_1 aI_2 aJ zI), (wcJ ci aJ zJ), (wcT ci aT_0 zT), (wcM ci aM zM)]) (csC1 := [(wcX aX_0 aR_0 aG_0 aS_0 aP_0 aN_0 aI_0 aT_0 zX), (wcG ci aG_0 aG_1 aG_2 aG_3 aG_4 zG), (wcS ci aS_0 aS_1 zS)]) (csN := [(wcX aX_0 aR_0 aG_0 aS_0 aP_0 aN_0 aI_0 aT_0 zX), (wcR ci aR_0 aR_1 aRG_0 aRS_0 zR), (wcG ci aRG_0 aRG_1 aRG_2 aRG_3 aRG_4 zRG), (wcS ci aRS_0 aRS_1 zRS), (wcG ci aG_0 aG_1 aG_2 aG_3 aG_4 zG), (wcS ci aS_0 aS_1 zS), (wcP ci aP_0 aP_1 aQ zP), (wcQ ci aQ zQ), (wcN ci aN_0 aN_1 aN_2 aN_3 aN_4 zN), (wcI ci aI_0 aI_1 aI_2 aJ zI), (wcJ ci aJ zJ), (wcT ci aT_0 zT), (wcM ci aM zM)]) ⟨hx, hb, hml, hown, hts⟩ (cwV 2 hts gL_law_X6_edge rfl rfl rfl (by decide +kernel) ⟨Nat.le_of_ble_eq_true rfl, Nat.le_of_ble_eq_true rfl⟩) (c_X6_edge l D ci aX_0 aR_0 aG_0 aS_0 aP_0 aN_0 aI_0 aT_0 aG_1 aG_2 aG_3 aG_4 aS_1 H.size zX zG zS a1 a2 _ hc_2) hK hP hD hS hA [1, 2, 3, 6, 7, 8, 9, 10, 11, 12, 0, 4, 5] [10, 0, 1, 2, 11, 12, 3, 4, 5, 6, 7, 8, 9] rfl rfl (by decide) (by decide) (by simp only [fl, List.append_nil]) (by simp only [fl, List.append_nil]) 0 rfl rfl rfl rfl hl.1 (Nat.le_of_ble_eq_true rfl) dL_law_272 (Nat.le_of_ble_eq_true rfl) (Nat.le_of_ble_eq_true rfl) (fun H locs hP hD hS => ?_)
  have hP : va_P D vwCl (fl [(wcX aX_0 aR_0 aG_0 aS_0 aP_0 aN_0 aI_0 aT_0 zX), (wcR ci aR_0 aR_1 aRG_0 aRS_0 zR), (wcG ci aRG_0 aRG_1 aRG_2 aRG_3 aRG_4 zRG), (wcS ci aRS_0 aRS_1 zRS), (wcG ci aG_0 aG_1 aG_2 aG_3 aG_4 zG), (wcS ci aS_0 aS_1 zS), (wcP ci aP_0 aP_1 aQ zP), (wcQ ci aQ zQ), (wcN ci aN_0 aN_1 aN_2 aN_3 aN_4 zN), (wcI ci aI_0 aI_1 aI_2 aJ zI), (wcJ ci aJ zJ), (wcT ci aT_0 zT), (wcM ci aM zM)]) H := hP
  have hD : va_D A (fl [(wcX aX_0 aR_0 aG_0 aS_0 aP_0 aN_0 aI_0 aT_0 zX), (wcR ci aR_0 aR_1 aRG_0 aRS_0 zR), (wcG ci aRG_0 aRG_1 aRG_2 aRG_3 aRG_4 zRG), (wcS ci aRS_0 aRS_1 zRS), (wcG ci aG_0 aG_1 aG_2 aG_3 aG_4 zG), (wcS ci aS_0 aS_1 zS), (wcP ci aP_0 aP_1 aQ zP), (wcQ ci aQ zQ), (wcN ci aN_0 aN_1 aN_2 aN_3 aN_4 zN), (wcI ci aI_0 aI_1 aI_2 aJ zI), (wcJ ci aJ zJ), (wcT ci aT_0 zT), (wcM ci aM zM)]) := hD
  refine lv_aload_n hx hb dL_law_275 rfl (lv_at hl 1 rfl) ?_
  refine lv_aload_n hx hb dL_law_276 rfl (lv_at hl 3 rfl) ?_
  refine lv_iload_n hx hb dL_law_277 rfl (lv_at hl 0 rfl) ?_
  refine lv_iconst (v := 1) hx hb dL_law_278 (by decide) ?_
  refine lv_iadd hx hb dL_law_279 ?_
  refine va_sld hx hb hX hbl hbA hS (sc_in 1 k L hk5 hL320 (by omega)) dL_law_280 ?_
  refine W.eq (g2 := F0 m 281 ls [.int a1, .ref (aM 0), .int r_1]) (by rw [sc_at1 k L xs hk5 hL320, ha1]) ?_
  refine lv_aload_n hx hb dL_law_281 rfl (lv_at hl 3 rfl) ?_
  refine lv_iload_n hx hb dL_law_282 rfl (lv_at hl 0 rfl) ?_
  refine lv_iconst (v := 2) hx hb dL_law_283 (by decide) ?_
  refine lv_iadd hx hb dL_law_284 ?_
  refine va_sld hx hb hX hbl hbA hS (sc_in 2 k L hk5 hL320 (by omega)) dL_law_285 ?_
  refine W.eq (g2 := F0 m 286 ls [.int a2, .int a1, .ref (aM 0), .int r_1]) (by rw [sc_at2 k L xs hk5 hL320, ha2]) ?_
  replace hF := bnd hF
  obtain ⟨r_3, hc_4, hF⟩ := hF
  refine cl_Ci (As := [.int a1, .int a2]) (rest := [.int r_1]) (csC := [(wcM ci aM zM)]) (csR := [(wcX aX_0 aR_0 aG_0 aS_0 aP_0 aN_0 aI_0 aT_0 zX), (wcR ci aR_0 aR_1 aRG_0 aRS_0 zR), (wcG ci aRG_0 aRG_1 aRG_2 aRG_3 aRG_4 zRG), (wcS ci aRS_0 aRS_1 zRS), (wcG ci aG_0 aG_1 aG_2 aG_3 aG_4 zG), (wcS ci aS_0 aS_1 zS), (wcP ci aP_0 aP_1 aQ zP), (wcQ ci aQ zQ), (wcN ci aN_0 aN_1 aN_2 aN_3 aN_4 zN), (wcI ci aI_0 aI_1 aI_2 aJ zI), (wcJ ci aJ zJ), (wcT ci aT_0 zT)]) (csC1 := [(wcM ci aM zM)]) (csN := [(wcX aX_0 aR_0 aG_0 aS_0 aP_0 aN_0 aI_0 aT_0 zX), (wcR ci aR_0 aR_1 aRG_0 aRS_0 zR), (wcG ci aRG_0 aRG_1 aRG_2 aRG_3 aRG_4 zRG), (wcS ci aRS_0 aRS_1 zRS), (wcG ci aG_0 aG_1 aG_2 aG_3 aG_4 zG), (wcS ci aS_0 aS_1 zS), (wcP ci aP_0 aP_1 aQ zP), (wcQ ci aQ zQ), (wcN ci aN_0 aN_1 aN_2 aN_3 aN_4 zN), (wcI ci aI_0 aI_1 aI_2 aJ zI), (wcJ ci aJ zJ), (wcT ci aT_0 zT), (wcM ci aM zM)]) ⟨hx, hb, hml, hown, hts⟩ (cwV 2 hts gL_law_X7_edge rfl rfl rfl (by decide +kernel) ⟨Nat.le_of_ble_eq_true rfl, Nat.le_of_ble_eq_true rfl⟩) (c_X7_edge l D ci aM H.size zM a1 a2 _ hc_4) hK hP hD hS hA [0, 1, 2, 3, 4, 5, 6, 7, 8, 9, 10, 11, 12] [0, 1, 2, 3, 4, 5, 6, 7, 8, 9, 10, 11, 12] rfl rfl (by decide) (by decide) (by simp only [fl, List.append_nil]) (by simp only [fl, List.append_nil]) 0 rfl rfl rfl rfl hl.1 (Nat.le_of_ble_eq_true rfl) dL_law_286 (Nat.le_of_ble_eq_true rfl) (Nat.le_of_ble_eq_true rfl) (fun H locs hP hD hS => ?_)
  have hP : va_P D vwCl (fl [(wcX aX_0 aR_0 aG_0 aS_0 aP_0 aN_0 aI_0 aT_0 zX), (wcR ci aR_0 aR_1 aRG_0 aRS_0 zR), (wcG ci aRG_0 aRG_1 aRG_2 aRG_3 aRG_4 zRG), (wcS ci aRS_0 aRS_1 zRS), (wcG ci aG_0 aG_1 aG_2 aG_3 aG_4 zG), (wcS ci aS_0 aS_1 zS), (wcP ci aP_0 aP_1 aQ zP), (wcQ ci aQ zQ), (wcN ci aN_0 aN_1 aN_2 aN_3 aN_4 zN), (wcI ci aI_0 aI_1 aI_2 aJ zI), (wcJ ci aJ zJ), (wcT ci aT_0 zT), (wcM ci aM zM)]) H := hP
  have hD : va_D A (fl [(wcX aX_0 aR_0 aG_0 aS_0 aP_0 aN_0 aI_0 aT_0 zX), (wcR ci aR_0 aR_1 aRG_0 aRS_0 zR), (wcG ci aRG_0 aRG_1 aRG_2 aRG_3 aRG_4 zRG), (wcS ci aRS_0 aRS_1 zRS), (wcG ci aG_0 aG_1 aG_2 aG_3 aG_4 zG), (wcS ci aS_0 aS_1 zS), (wcP ci aP_0 aP_1 aQ zP), (wcQ ci aQ zQ), (wcN ci aN_0 aN_1 aN_2 aN_3 aN_4 zN), (wcI ci aI_0 aI_1 aI_2 aJ zI), (wcJ ci aJ zJ), (wcT ci aT_0 zT), (wcM ci aM zM)]) := hD
  refine lv_icmp_eq (tgt := 853) hx hb dL_law_289 (by decide) (fun c_5 => ?_) (fun c_5 => ?_)
  · replace hF := if_i c_5 hF
    obtain rfl := Option.some.inj hF
    exact kont H locs ls hP hD hS (lv_sub hl [0, 1, 2, 3] rfl)
  · replace hF := if_o c_5 hF
    refine lv_iconst (v := 0) hx hb dL_law_292 (by decide) ?_
    exact absurd hF (fun h => no_none h)
noncomputable def sp_6 (zX : XS) (zR : RS) (zRG : GS) (zRS : SS) (zG : GS) (zS : SS) (zP : PS) (zQ : QS) (zN : NS) (zI : IS) (zJ : QS) (zT : TS) (zM : MS) (a1 : Int32) (a2 : Int32) : Option ZZ := (f_X6_plant zX zG zS zP zQ a1 a2).bind fun q_6 => nm q_6.1 fun r_1 => nm q_6.2.1 fun zS_2 => nm q_6.2.2.1 fun zP_3 => nm q_6.2.2.2 fun zQ_4 => (f_X7_plant zM a1 a2).bind fun q_10 => nm q_10.1 fun r_7 => nm q_10.2 fun zM_8 => if r_1 = r_7 then (some (zX, zR, zRG, zRS, zG, zS_2, zP_3, zQ_4, zN, zI, zJ, zT, zM_8)) else (none)
set_option maxHeartbeats 8000000 in
set_option maxRecDepth 200000 in
theorem lc_6 {p : Program} {l : Launch} {e : Env} {s : State} {m : MethodId} {below : List Frame} {meth : Method} {c : Code} {Q : State → Prop} {b L k : Nat} {xs : Nat → Int32} {D : va_G} {ci : Nat → ClassId} (hx : p.tables.exec = Jvm.exec) (hb : c.code = cL_law) (hml : c.maxLocals = 4) (hown : s.vm.findClass RL = some m.cls) (hts : ∀ w ∈ wsL_law, w.before #[Value.ref b] s = true) (hX : va_X b L xs s s.heap) (hbl : b < s.heap.size) (hL320 : L ≤ 320) (hk5 : k + 5 ≤ L) (hK : va_K D vwCl (tyL ci) s) (aX_0 : Nat) (aR_0 : Nat) (aG_0 : Nat) (aS_0 : Nat) (aP_0 : Nat) (aN_0 : Nat) (aI_0 : Nat) (aT_0 : Nat) (aR_1 : Nat) (aRG_0 : Nat) (aRS_0 : Nat) (aRG_1 : Nat) (aRG_2 : Nat) (aRG_3 : Nat) (aRG_4 : Nat) (aRS_1 : Nat) (aG_1 : Nat) (aG_2 : Nat) (aG_3 : Nat) (aG_4 : Nat) (aS_1 : Nat) (aP_1 : Nat) (aQ : Nat → Nat) (aN_1 : Nat) (aN_2 : Nat) (aN_3 : Nat) (aN_4 : Nat) (aI_1 : Nat) (aI_2 : Nat) (aJ : Nat → Nat) (aM : Nat → Nat) (zX : XS) (zR : RS) (zRG : GS) (zRS : SS) (zG : GS) (zS : SS) (zP : PS) (zQ : QS) (zN : NS) (zI : IS) (zJ : QS) (zT : TS) (zM : MS) (a1 : Int32) (a2 : Int32) (ha1 : xs (k + 1) = a1) (ha2 : xs (k + 2) = a2) (res : ZZ) (hF : sp_6 zX zR zRG zRS zG zS zP zQ zN zI zJ zT zM a1 a2 = some res) (H : Heap) (locs : List Loc) (ls : Array Slot) (hP : va_P D vwCl (fl [(wcX aX_0 aR_0 aG_0 aS_0 aP_0 aN_0 aI_0 aT_0 zX), (wcR ci aR_0 aR_1 aRG_0 aRS_0 zR), (wcG ci aRG_0 aRG_1 aRG_2 aRG_3 aRG_4 zRG), (wcS ci aRS_0 aRS_1 zRS), (wcG ci aG_0 aG_1 aG_2 aG_3 aG_4 zG), (wcS ci aS_0 aS_1 zS), (wcP ci aP_0 aP_1 aQ zP), (wcQ ci aQ zQ), (wcN ci aN_0 aN_1 aN_2 aN_3 aN_4 zN), (wcI ci aI_0 aI_1 aI_2 aJ zI), (wcJ ci aJ zJ), (wcT ci aT_0 zT), (wcM ci aM zM)]) H) (hD : va_D (fun q : Nat => s.heap.size ≤ q) (fl [(wcX aX_0 aR_0 aG_0 aS_0 aP_0 aN_0 aI_0 aT_0 zX), (wcR ci aR_0 aR_1 aRG_0 aRS_0 zR), (wcG ci aRG_0 aRG_1 aRG_2 aRG_3 aRG_4 zRG), (wcS ci aRS_0 aRS_1 zRS), (wcG ci aG_0 aG_1 aG_2 aG_3 aG_4 zG), (wcS ci aS_0 aS_1 zS), (wcP ci aP_0 aP_1 aQ zP), (wcQ ci aQ zQ), (wcN ci aN_0 aN_1 aN_2 aN_3 aN_4 zN), (wcI ci aI_0 aI_1 aI_2 aJ zI), (wcJ ci aJ zJ), (wcT ci aT_0 zT), (wcM ci aM zM)])) (hS : va_S (fun q : Nat => s.heap.size ≤ q) s.heap H locs) (hl : lv_has ls 4 [(3, .int (nI k)), (2, .ref (aM 0)), (1, .ref aX_0), (0, .ref b)]) (kont : ∀ (H : Heap) (locs : List Loc) (ls : Array Slot), va_P D vwCl (fl [(wcX aX_0 aR_0 aG_0 aS_0 aP_0 aN_0 aI_0 aT_0 res.1), (wcR ci aR_0 aR_1 aRG_0 aRS_0 res.2.1), (wcG ci aRG_0 aRG_1 aRG_2 aRG_3 aRG_4 res.2.2.1), (wcS ci aRS_0 aRS_1 res.2.2.2.1), (wcG ci aG_0 aG_1 aG_2 aG_3 aG_4 res.2.2.2.2.1), (wcS ci aS_0 aS_1 res.2.2.2.2.2.1), (wcP ci aP_0 aP_1 aQ res.2.2.2.2.2.2.1), (wcQ ci aQ res.2.2.2.2.2.2.2.1), (wcN ci aN_0 aN_1 aN_2 aN_3 aN_4 res.2.2.2.2.2.2.2.2.1), (wcI ci aI_0 aI_1 aI_2 aJ res.2.2.2.2.2.2.2.2.2.1), (wcJ ci aJ res.2.2.2.2.2.2.2.2.2.2.1), (wcT ci aT_0 res.2.2.2.2.2.2.2.2.2.2.2.1), (wcM ci aM res.2.2.2.2.2.2.2.2.2.2.2.2)]) H → va_D (fun q : Nat => s.heap.size ≤ q) (fl [(wcX aX_0 aR_0 aG_0 aS_0 aP_0 aN_0 aI_0 aT_0 res.1), (wcR ci aR_0 aR_1 aRG_0 aRS_0 res.2.1), (wcG ci aRG_0 aRG_1 aRG_2 aRG_3 aRG_4 res.2.2.1), (wcS ci aRS_0 aRS_1 res.2.2.2.1), (wcG ci aG_0 aG_1 aG_2 aG_3 aG_4 res.2.2.2.2.1), (wcS ci aS_0 aS_1 res.2.2.2.2.2.1), (wcP ci aP_0 aP_1 aQ res.2.2.2.2.2.2.1), (wcQ ci aQ res.2.2.2.2.2.2.2.1), (wcN ci aN_0 aN_1 aN_2 aN_3 aN_4 res.2.2.2.2.2.2.2.2.1), (wcI ci aI_0 aI_1 aI_2 aJ res.2.2.2.2.2.2.2.2.2.1), (wcJ ci aJ res.2.2.2.2.2.2.2.2.2.2.1), (wcT ci aT_0 res.2.2.2.2.2.2.2.2.2.2.2.1), (wcM ci aM res.2.2.2.2.2.2.2.2.2.2.2.2)]) → va_S (fun q : Nat => s.heap.size ≤ q) s.heap H locs → lv_has ls 4 [(3, .int (nI k)), (2, .ref (aM 0)), (1, .ref aX_0), (0, .ref b)] → W p l e room_1 s m #[Value.ref b] below meth c H locs 96 5513 Q (F0 m 853 ls [])) : W p l e room_1 s m #[Value.ref b] below meth c H locs 96 5513 Q (F0 m 294 ls []) := by
  obtain ⟨A, hAe⟩ : ∃ A : Nat → Prop, A = (fun q : Nat => s.heap.size ≤ q) := ⟨_, rfl⟩
  rw [← hAe] at hD hS kont
  have hA : ∀ q : Nat, s.heap.size ≤ q → A q := fun q h => by rw [hAe]; exact h
  have hbA : ¬ A b := by rw [hAe]; exact Nat.not_le.mpr hbl
  clear hAe
  unfold sp_6 at hF
  refine lv_aload_n hx hb dL_law_294 rfl (lv_at hl 2 rfl) ?_
  refine lv_aload_n hx hb dL_law_295 rfl (lv_at hl 3 rfl) ?_
  refine lv_iload_n hx hb dL_law_296 rfl (lv_at hl 0 rfl) ?_
  refine lv_iconst (v := 1) hx hb dL_law_297 (by decide) ?_
  refine lv_iadd hx hb dL_law_298 ?_
  refine va_sld hx hb hX hbl hbA hS (sc_in 1 k L hk5 hL320 (by omega)) dL_law_299 ?_
  refine W.eq (g2 := F0 m 300 ls [.int a1, .ref aX_0]) (by rw [sc_at1 k L xs hk5 hL320, ha1]) ?_
  refine lv_aload_n hx hb dL_law_300 rfl (lv_at hl 3 rfl) ?_
  refine lv_iload_n hx hb dL_law_301 rfl (lv_at hl 0 rfl) ?_
  refine lv_iconst (v := 2) hx hb dL_law_302 (by decide) ?_
  refine lv_iadd hx hb dL_law_303 ?_
  refine va_sld hx hb hX hbl hbA hS (sc_in 2 k L hk5 hL320 (by omega)) dL_law_304 ?_
  refine W.eq (g2 := F0 m 305 ls [.int a2, .int a1, .ref aX_0]) (by rw [sc_at2 k L xs hk5 hL320, ha2]) ?_
  replace hF := bnd hF
  obtain ⟨q_6, hc_5, hF⟩ := hF
  obtain ⟨r_1, er_1⟩ : ∃ y : Int32, y = q_6.1 := ⟨_, rfl⟩
  replace hF := nm_i hF er_1
  obtain ⟨zS_2, ezS_2⟩ : ∃ y : SS, y = q_6.2.1 := ⟨_, rfl⟩
  replace hF := nm_i hF ezS_2
  obtain ⟨zP_3, ezP_3⟩ : ∃ y : PS, y = q_6.2.2.1 := ⟨_, rfl⟩
  replace hF := nm_i hF ezP_3
  obtain ⟨zQ_4, ezQ_4⟩ : ∃ y : QS, y = q_6.2.2.2 := ⟨_, rfl⟩
  replace hF := nm_i hF ezQ_4
  obtain rfl : q_6 = (r_1, zS_2, zP_3, zQ_4) := by rw [er_1, ezS_2, ezP_3, ezQ_4]
  clear er_1
  clear ezS_2
  clear ezP_3
  clear ezQ_4
  refine cl_Ci (As := [.int a1, .int a2]) (rest := []) (csC := [(wcX aX_0 aR_0 aG_0 aS_0 aP_0 aN_0 aI_0 aT_0 zX), (wcG ci aG_0 aG_1 aG_2 aG_3 aG_4 zG), (wcS ci aS_0 aS_1 zS), (wcP ci aP_0 aP_1 aQ zP), (wcQ ci aQ zQ)]) (csR := [(wcR ci aR_0 aR_1 aRG_0 aRS_0 zR), (wcG ci aRG_0 aRG_1 aRG_2 aRG_3 aRG_4 zRG), (wcS ci aRS_0 aRS_1 zRS), (wcN ci aN_0 aN_1 aN_2 aN_3 aN_4 zN), (wcI ci aI_0 aI_1 aI_2 aJ zI), (wcJ ci aJ zJ), (wcT ci aT_0 zT), (wcM ci aM zM)]) (csC1 := [(wcX aX_0 aR_0 aG_0 aS_0 aP_0 aN_0 aI_0 aT_0 zX), (wcG ci aG_0 aG_1 aG_2 aG_3 aG_4 zG), (wcS ci aS_0 aS_1 zS_2), (wcP ci aP_0 aP_1 aQ zP_3), (wcQ ci aQ zQ_4)]) (csN := [(wcX aX_0 aR_0 aG_0 aS_0 aP_0 aN_0 aI_0 aT_0 zX), (wcR ci aR_0 aR_1 aRG_0 aRS_0 zR), (wcG ci aRG_0 aRG_1 aRG_2 aRG_3 aRG_4 zRG), (wcS ci aRS_0 aRS_1 zRS), (wcG ci aG_0 aG_1 aG_2 aG_3 aG_4 zG), (wcS ci aS_0 aS_1 zS_2), (wcP ci aP_0 aP_1 aQ zP_3), (wcQ ci aQ zQ_4), (wcN ci aN_0 aN_1 aN_2 aN_3 aN_4 zN), (wcI ci aI_0 aI_1 aI_2 aJ zI), (wcJ ci aJ zJ), (wcT ci aT_0 zT), (wcM ci aM zM)]) ⟨hx, hb, hml, hown, hts⟩ (cwV 2 hts gL_law_X6_plant rfl rfl rfl (by decide +kernel) ⟨Nat.le_of_ble_eq_true rfl, Nat.le_of_ble_eq_true rfl⟩) (c_X6_plant l D ci aX_0 aR_0 aG_0 aS_0 aP_0 aN_0 aI_0 aT_0 aG_1 aG_2 aG_3 aG_4 aS_1 aP_1 aQ H.size zX zG zS zP zQ a1 a2 _ hc_5) hK hP hD hS hA [1, 2, 3, 8, 9, 10, 11, 12, 0, 4, 5, 6, 7] [8, 0, 1, 2, 9, 10, 11, 12, 3, 4, 5, 6, 7] rfl rfl (by decide) (by decide) (by simp only [fl, List.append_nil]) (by simp only [fl, List.append_nil]) 0 rfl rfl rfl rfl hl.1 (Nat.le_of_ble_eq_true rfl) dL_law_305 (Nat.le_of_ble_eq_true rfl) (Nat.le_of_ble_eq_true rfl) (fun H locs hP hD hS => ?_)
  have hP : va_P D vwCl (fl [(wcX aX_0 aR_0 aG_0 aS_0 aP_0 aN_0 aI_0 aT_0 zX), (wcR ci aR_0 aR_1 aRG_0 aRS_0 zR), (wcG ci aRG_0 aRG_1 aRG_2 aRG_3 aRG_4 zRG), (wcS ci aRS_0 aRS_1 zRS), (wcG ci aG_0 aG_1 aG_2 aG_3 aG_4 zG), (wcS ci aS_0 aS_1 zS_2), (wcP ci aP_0 aP_1 aQ zP_3), (wcQ ci aQ zQ_4), (wcN ci aN_0 aN_1 aN_2 aN_3 aN_4 zN), (wcI ci aI_0 aI_1 aI_2 aJ zI), (wcJ ci aJ zJ), (wcT ci aT_0 zT), (wcM ci aM zM)]) H := hP
  have hD : va_D A (fl [(wcX aX_0 aR_0 aG_0 aS_0 aP_0 aN_0 aI_0 aT_0 zX), (wcR ci aR_0 aR_1 aRG_0 aRS_0 zR), (wcG ci aRG_0 aRG_1 aRG_2 aRG_3 aRG_4 zRG), (wcS ci aRS_0 aRS_1 zRS), (wcG ci aG_0 aG_1 aG_2 aG_3 aG_4 zG), (wcS ci aS_0 aS_1 zS_2), (wcP ci aP_0 aP_1 aQ zP_3), (wcQ ci aQ zQ_4), (wcN ci aN_0 aN_1 aN_2 aN_3 aN_4 zN), (wcI ci aI_0 aI_1 aI_2 aJ zI), (wcJ ci aJ zJ), (wcT ci aT_0 zT), (wcM ci aM zM)]) := hD
  refine lv_aload_n hx hb dL_law_308 rfl (lv_at hl 1 rfl) ?_
  refine lv_aload_n hx hb dL_law_309 rfl (lv_at hl 3 rfl) ?_
  refine lv_iload_n hx hb dL_law_310 rfl (lv_at hl 0 rfl) ?_
  refine lv_iconst (v := 1) hx hb dL_law_311 (by decide) ?_
  refine lv_iadd hx hb dL_law_312 ?_
  refine va_sld hx hb hX hbl hbA hS (sc_in 1 k L hk5 hL320 (by omega)) dL_law_313 ?_
  refine W.eq (g2 := F0 m 314 ls [.int a1, .ref (aM 0), .int r_1]) (by rw [sc_at1 k L xs hk5 hL320, ha1]) ?_
  refine lv_aload_n hx hb dL_law_314 rfl (lv_at hl 3 rfl) ?_
  refine lv_iload_n hx hb dL_law_315 rfl (lv_at hl 0 rfl) ?_
  refine lv_iconst (v := 2) hx hb dL_law_316 (by decide) ?_
  refine lv_iadd hx hb dL_law_317 ?_
  refine va_sld hx hb hX hbl hbA hS (sc_in 2 k L hk5 hL320 (by omega)) dL_law_318 ?_
  refine W.eq (g2 := F0 m 319 ls [.int a2, .int a1, .ref (aM 0), .int r_1]) (by rw [sc_at2 k L xs hk5 hL320, ha2]) ?_
  replace hF := bnd hF
  obtain ⟨q_10, hc_9, hF⟩ := hF
  obtain ⟨r_7, er_7⟩ : ∃ y : Int32, y = q_10.1 := ⟨_, rfl⟩
  replace hF := nm_i hF er_7
  obtain ⟨zM_8, ezM_8⟩ : ∃ y : MS, y = q_10.2 := ⟨_, rfl⟩
  replace hF := nm_i hF ezM_8
  obtain rfl : q_10 = (r_7, zM_8) := by rw [er_7, ezM_8]
  clear er_7
  clear ezM_8
  refine cl_Ci (As := [.int a1, .int a2]) (rest := [.int r_1]) (csC := [(wcM ci aM zM)]) (csR := [(wcX aX_0 aR_0 aG_0 aS_0 aP_0 aN_0 aI_0 aT_0 zX), (wcR ci aR_0 aR_1 aRG_0 aRS_0 zR), (wcG ci aRG_0 aRG_1 aRG_2 aRG_3 aRG_4 zRG), (wcS ci aRS_0 aRS_1 zRS), (wcG ci aG_0 aG_1 aG_2 aG_3 aG_4 zG), (wcS ci aS_0 aS_1 zS_2), (wcP ci aP_0 aP_1 aQ zP_3), (wcQ ci aQ zQ_4), (wcN ci aN_0 aN_1 aN_2 aN_3 aN_4 zN), (wcI ci aI_0 aI_1 aI_2 aJ zI), (wcJ ci aJ zJ), (wcT ci aT_0 zT)]) (csC1 := [(wcM ci aM zM_8)]) (csN := [(wcX aX_0 aR_0 aG_0 aS_0 aP_0 aN_0 aI_0 aT_0 zX), (wcR ci aR_0 aR_1 aRG_0 aRS_0 zR), (wcG ci aRG_0 aRG_1 aRG_2 aRG_3 aRG_4 zRG), (wcS ci aRS_0 aRS_1 zRS), (wcG ci aG_0 aG_1 aG_2 aG_3 aG_4 zG), (wcS ci aS_0 aS_1 zS_2), (wcP ci aP_0 aP_1 aQ zP_3), (wcQ ci aQ zQ_4), (wcN ci aN_0 aN_1 aN_2 aN_3 aN_4 zN), (wcI ci aI_0 aI_1 aI_2 aJ zI), (wcJ ci aJ zJ), (wcT ci aT_0 zT), (wcM ci aM zM_8)]) ⟨hx, hb, hml, hown, hts⟩ (cwV 2 hts gL_law_X7_plant rfl rfl rfl (by decide +kernel) ⟨Nat.le_of_ble_eq_true rfl, Nat.le_of_ble_eq_true rfl⟩) (c_X7_plant l D ci aM H.size zM a1 a2 _ hc_9) hK hP hD hS hA [0, 1, 2, 3, 4, 5, 6, 7, 8, 9, 10, 11, 12] [0, 1, 2, 3, 4, 5, 6, 7, 8, 9, 10, 11, 12] rfl rfl (by decide) (by decide) (by simp only [fl, List.append_nil]) (by simp only [fl, List.append_nil]) 0 rfl rfl rfl rfl hl.1 (Nat.le_of_ble_eq_true rfl) dL_law_319 (Nat.le_of_ble_eq_true rfl) (Nat.le_of_ble_eq_true rfl) (fun H locs hP hD hS => ?_)
  have hP : va_P D vwCl (fl [(wcX aX_0 aR_0 aG_0 aS_0 aP_0 aN_0 aI_0 aT_0 zX), (wcR ci aR_0 aR_1 aRG_0 aRS_0 zR), (wcG ci aRG_0 aRG_1 aRG_2 aRG_3 aRG_4 zRG), (wcS ci aRS_0 aRS_1 zRS), (wcG ci aG_0 aG_1 aG_2 aG_3 aG_4 zG), (wcS ci aS_0 aS_1 zS_2), (wcP ci aP_0 aP_1 aQ zP_3), (wcQ ci aQ zQ_4), (wcN ci aN_0 aN_1 aN_2 aN_3 aN_4 zN), (wcI ci aI_0 aI_1 aI_2 aJ zI), (wcJ ci aJ zJ), (wcT ci aT_0 zT), (wcM ci aM zM_8)]) H := hP
  have hD : va_D A (fl [(wcX aX_0 aR_0 aG_0 aS_0 aP_0 aN_0 aI_0 aT_0 zX), (wcR ci aR_0 aR_1 aRG_0 aRS_0 zR), (wcG ci aRG_0 aRG_1 aRG_2 aRG_3 aRG_4 zRG), (wcS ci aRS_0 aRS_1 zRS), (wcG ci aG_0 aG_1 aG_2 aG_3 aG_4 zG), (wcS ci aS_0 aS_1 zS_2), (wcP ci aP_0 aP_1 aQ zP_3), (wcQ ci aQ zQ_4), (wcN ci aN_0 aN_1 aN_2 aN_3 aN_4 zN), (wcI ci aI_0 aI_1 aI_2 aJ zI), (wcJ ci aJ zJ), (wcT ci aT_0 zT), (wcM ci aM zM_8)]) := hD
  refine lv_icmp_eq (tgt := 853) hx hb dL_law_322 (by decide) (fun c_11 => ?_) (fun c_11 => ?_)
  · replace hF := if_i c_11 hF
    obtain rfl := Option.some.inj hF
    exact kont H locs ls hP hD hS (lv_sub hl [0, 1, 2, 3] rfl)
  · replace hF := if_o c_11 hF
    refine lv_iconst (v := 0) hx hb dL_law_325 (by decide) ?_
    exact absurd hF (fun h => no_none h)
noncomputable def sp_7 (zX : XS) (zR : RS) (zRG : GS) (zRS : SS) (zG : GS) (zS : SS) (zP : PS) (zQ : QS) (zN : NS) (zI : IS) (zJ : QS) (zT : TS) (zM : MS) (a1 : Int32) : Option ZZ := (f_X6_graze zX zG zS zP zQ a1).bind fun q_6 => nm q_6.1 fun r_1 => nm q_6.2.1 fun zS_2 => nm q_6.2.2.1 fun zP_3 => nm q_6.2.2.2 fun zQ_4 => (f_X7_graze zM a1).bind fun q_10 => nm q_10.1 fun r_7 => nm q_10.2 fun zM_8 => if r_1 = r_7 then (some (zX, zR, zRG, zRS, zG, zS_2, zP_3, zQ_4, zN, zI, zJ, zT, zM_8)) else (none)
set_option maxHeartbeats 8000000 in
set_option maxRecDepth 200000 in
theorem lc_7 {p : Program} {l : Launch} {e : Env} {s : State} {m : MethodId} {below : List Frame} {meth : Method} {c : Code} {Q : State → Prop} {b L k : Nat} {xs : Nat → Int32} {D : va_G} {ci : Nat → ClassId} (hx : p.tables.exec = Jvm.exec) (hb : c.code = cL_law) (hml : c.maxLocals = 4) (hown : s.vm.findClass RL = some m.cls) (hts : ∀ w ∈ wsL_law, w.before #[Value.ref b] s = true) (hX : va_X b L xs s s.heap) (hbl : b < s.heap.size) (hL320 : L ≤ 320) (hk5 : k + 5 ≤ L) (hK : va_K D vwCl (tyL ci) s) (aX_0 : Nat) (aR_0 : Nat) (aG_0 : Nat) (aS_0 : Nat) (aP_0 : Nat) (aN_0 : Nat) (aI_0 : Nat) (aT_0 : Nat) (aR_1 : Nat) (aRG_0 : Nat) (aRS_0 : Nat) (aRG_1 : Nat) (aRG_2 : Nat) (aRG_3 : Nat) (aRG_4 : Nat) (aRS_1 : Nat) (aG_1 : Nat) (aG_2 : Nat) (aG_3 : Nat) (aG_4 : Nat) (aS_1 : Nat) (aP_1 : Nat) (aQ : Nat → Nat) (aN_1 : Nat) (aN_2 : Nat) (aN_3 : Nat) (aN_4 : Nat) (aI_1 : Nat) (aI_2 : Nat) (aJ : Nat → Nat) (aM : Nat → Nat) (zX : XS) (zR : RS) (zRG : GS) (zRS : SS) (zG : GS) (zS : SS) (zP : PS) (zQ : QS) (zN : NS) (zI : IS) (zJ : QS) (zT : TS) (zM : MS) (a1 : Int32) (ha1 : xs (k + 1) = a1) (res : ZZ) (hF : sp_7 zX zR zRG zRS zG zS zP zQ zN zI zJ zT zM a1 = some res) (H : Heap) (locs : List Loc) (ls : Array Slot) (hP : va_P D vwCl (fl [(wcX aX_0 aR_0 aG_0 aS_0 aP_0 aN_0 aI_0 aT_0 zX), (wcR ci aR_0 aR_1 aRG_0 aRS_0 zR), (wcG ci aRG_0 aRG_1 aRG_2 aRG_3 aRG_4 zRG), (wcS ci aRS_0 aRS_1 zRS), (wcG ci aG_0 aG_1 aG_2 aG_3 aG_4 zG), (wcS ci aS_0 aS_1 zS), (wcP ci aP_0 aP_1 aQ zP), (wcQ ci aQ zQ), (wcN ci aN_0 aN_1 aN_2 aN_3 aN_4 zN), (wcI ci aI_0 aI_1 aI_2 aJ zI), (wcJ ci aJ zJ), (wcT ci aT_0 zT), (wcM ci aM zM)]) H) (hD : va_D (fun q : Nat => s.heap.size ≤ q) (fl [(wcX aX_0 aR_0 aG_0 aS_0 aP_0 aN_0 aI_0 aT_0 zX), (wcR ci aR_0 aR_1 aRG_0 aRS_0 zR), (wcG ci aRG_0 aRG_1 aRG_2 aRG_3 aRG_4 zRG), (wcS ci aRS_0 aRS_1 zRS), (wcG ci aG_0 aG_1 aG_2 aG_3 aG_4 zG), (wcS ci aS_0 aS_1 zS), (wcP ci aP_0 aP_1 aQ zP), (wcQ ci aQ zQ), (wcN ci aN_0 aN_1 aN_2 aN_3 aN_4 zN), (wcI ci aI_0 aI_1 aI_2 aJ zI), (wcJ ci aJ zJ), (wcT ci aT_0 zT), (wcM ci aM zM)])) (hS : va_S (fun q : Nat => s.heap.size ≤ q) s.heap H locs) (hl : lv_has ls 4 [(3, .int (nI k)), (2, .ref (aM 0)), (1, .ref aX_0), (0, .ref b)]) (kont : ∀ (H : Heap) (locs : List Loc) (ls : Array Slot), va_P D vwCl (fl [(wcX aX_0 aR_0 aG_0 aS_0 aP_0 aN_0 aI_0 aT_0 res.1), (wcR ci aR_0 aR_1 aRG_0 aRS_0 res.2.1), (wcG ci aRG_0 aRG_1 aRG_2 aRG_3 aRG_4 res.2.2.1), (wcS ci aRS_0 aRS_1 res.2.2.2.1), (wcG ci aG_0 aG_1 aG_2 aG_3 aG_4 res.2.2.2.2.1), (wcS ci aS_0 aS_1 res.2.2.2.2.2.1), (wcP ci aP_0 aP_1 aQ res.2.2.2.2.2.2.1), (wcQ ci aQ res.2.2.2.2.2.2.2.1), (wcN ci aN_0 aN_1 aN_2 aN_3 aN_4 res.2.2.2.2.2.2.2.2.1), (wcI ci aI_0 aI_1 aI_2 aJ res.2.2.2.2.2.2.2.2.2.1), (wcJ ci aJ res.2.2.2.2.2.2.2.2.2.2.1), (wcT ci aT_0 res.2.2.2.2.2.2.2.2.2.2.2.1), (wcM ci aM res.2.2.2.2.2.2.2.2.2.2.2.2)]) H → va_D (fun q : Nat => s.heap.size ≤ q) (fl [(wcX aX_0 aR_0 aG_0 aS_0 aP_0 aN_0 aI_0 aT_0 res.1), (wcR ci aR_0 aR_1 aRG_0 aRS_0 res.2.1), (wcG ci aRG_0 aRG_1 aRG_2 aRG_3 aRG_4 res.2.2.1), (wcS ci aRS_0 aRS_1 res.2.2.2.1), (wcG ci aG_0 aG_1 aG_2 aG_3 aG_4 res.2.2.2.2.1), (wcS ci aS_0 aS_1 res.2.2.2.2.2.1), (wcP ci aP_0 aP_1 aQ res.2.2.2.2.2.2.1), (wcQ ci aQ res.2.2.2.2.2.2.2.1), (wcN ci aN_0 aN_1 aN_2 aN_3 aN_4 res.2.2.2.2.2.2.2.2.1), (wcI ci aI_0 aI_1 aI_2 aJ res.2.2.2.2.2.2.2.2.2.1), (wcJ ci aJ res.2.2.2.2.2.2.2.2.2.2.1), (wcT ci aT_0 res.2.2.2.2.2.2.2.2.2.2.2.1), (wcM ci aM res.2.2.2.2.2.2.2.2.2.2.2.2)]) → va_S (fun q : Nat => s.heap.size ≤ q) s.heap H locs → lv_has ls 4 [(3, .int (nI k)), (2, .ref (aM 0)), (1, .ref aX_0), (0, .ref b)] → W p l e room_1 s m #[Value.ref b] below meth c H locs 96 5513 Q (F0 m 853 ls [])) : W p l e room_1 s m #[Value.ref b] below meth c H locs 96 5513 Q (F0 m 327 ls []) := by
  obtain ⟨A, hAe⟩ : ∃ A : Nat → Prop, A = (fun q : Nat => s.heap.size ≤ q) := ⟨_, rfl⟩
  rw [← hAe] at hD hS kont
  have hA : ∀ q : Nat, s.heap.size ≤ q → A q := fun q h => by rw [hAe]; exact h
  have hbA : ¬ A b := by rw [hAe]; exact Nat.not_le.mpr hbl
  clear hAe
  unfold sp_7 at hF
  refine lv_aload_n hx hb dL_law_327 rfl (lv_at hl 2 rfl) ?_
  refine lv_aload_n hx hb dL_law_328 rfl (lv_at hl 3 rfl) ?_
  refine lv_iload_n hx hb dL_law_329 rfl (lv_at hl 0 rfl) ?_
  refine lv_iconst (v := 1) hx hb dL_law_330 (by decide) ?_
  refine lv_iadd hx hb dL_law_331 ?_
  refine va_sld hx hb hX hbl hbA hS (sc_in 1 k L hk5 hL320 (by omega)) dL_law_332 ?_
  refine W.eq (g2 := F0 m 333 ls [.int a1, .ref aX_0]) (by rw [sc_at1 k L xs hk5 hL320, ha1]) ?_
  replace hF := bnd hF
  obtain ⟨q_6, hc_5, hF⟩ := hF
  obtain ⟨r_1, er_1⟩ : ∃ y : Int32, y = q_6.1 := ⟨_, rfl⟩
  replace hF := nm_i hF er_1
  obtain ⟨zS_2, ezS_2⟩ : ∃ y : SS, y = q_6.2.1 := ⟨_, rfl⟩
  replace hF := nm_i hF ezS_2
  obtain ⟨zP_3, ezP_3⟩ : ∃ y : PS, y = q_6.2.2.1 := ⟨_, rfl⟩
  replace hF := nm_i hF ezP_3
  obtain ⟨zQ_4, ezQ_4⟩ : ∃ y : QS, y = q_6.2.2.2 := ⟨_, rfl⟩
  replace hF := nm_i hF ezQ_4
  obtain rfl : q_6 = (r_1, zS_2, zP_3, zQ_4) := by rw [er_1, ezS_2, ezP_3, ezQ_4]
  clear er_1
  clear ezS_2
  clear ezP_3
  clear ezQ_4
  refine cl_Ci (As := [.int a1]) (rest := []) (csC := [(wcX aX_0 aR_0 aG_0 aS_0 aP_0 aN_0 aI_0 aT_0 zX), (wcG ci aG_0 aG_1 aG_2 aG_3 aG_4 zG), (wcS ci aS_0 aS_1 zS), (wcP ci aP_0 aP_1 aQ zP), (wcQ ci aQ zQ)]) (csR := [(wcR ci aR_0 aR_1 aRG_0 aRS_0 zR), (wcG ci aRG_0 aRG_1 aRG_2 aRG_3 aRG_4 zRG), (wcS ci aRS_0 aRS_1 zRS), (wcN ci aN_0 aN_1 aN_2 aN_3 aN_4 zN), (wcI ci aI_0 aI_1 aI_2 aJ zI), (wcJ ci aJ zJ), (wcT ci aT_0 zT), (wcM ci aM zM)]) (csC1 := [(wcX aX_0 aR_0 aG_0 aS_0 aP_0 aN_0 aI_0 aT_0 zX), (wcG ci aG_0 aG_1 aG_2 aG_3 aG_4 zG), (wcS ci aS_0 aS_1 zS_2), (wcP ci aP_0 aP_1 aQ zP_3), (wcQ ci aQ zQ_4)]) (csN := [(wcX aX_0 aR_0 aG_0 aS_0 aP_0 aN_0 aI_0 aT_0 zX), (wcR ci aR_0 aR_1 aRG_0 aRS_0 zR), (wcG ci aRG_0 aRG_1 aRG_2 aRG_3 aRG_4 zRG), (wcS ci aRS_0 aRS_1 zRS), (wcG ci aG_0 aG_1 aG_2 aG_3 aG_4 zG), (wcS ci aS_0 aS_1 zS_2), (wcP ci aP_0 aP_1 aQ zP_3), (wcQ ci aQ zQ_4), (wcN ci aN_0 aN_1 aN_2 aN_3 aN_4 zN), (wcI ci aI_0 aI_1 aI_2 aJ zI), (wcJ ci aJ zJ), (wcT ci aT_0 zT), (wcM ci aM zM)]) ⟨hx, hb, hml, hown, hts⟩ (cwV 1 hts gL_law_X6_graze rfl rfl rfl (by decide +kernel) ⟨Nat.le_of_ble_eq_true rfl, Nat.le_of_ble_eq_true rfl⟩) (c_X6_graze l D ci aX_0 aR_0 aG_0 aS_0 aP_0 aN_0 aI_0 aT_0 aG_1 aG_2 aG_3 aG_4 aS_1 aP_1 aQ H.size zX zG zS zP zQ a1 _ hc_5) hK hP hD hS hA [1, 2, 3, 8, 9, 10, 11, 12, 0, 4, 5, 6, 7] [8, 0, 1, 2, 9, 10, 11, 12, 3, 4, 5, 6, 7] rfl rfl (by decide) (by decide) (by simp only [fl, List.append_nil]) (by simp only [fl, List.append_nil]) 0 rfl rfl rfl rfl hl.1 (Nat.le_of_ble_eq_true rfl) dL_law_333 (Nat.le_of_ble_eq_true rfl) (Nat.le_of_ble_eq_true rfl) (fun H locs hP hD hS => ?_)
  have hP : va_P D vwCl (fl [(wcX aX_0 aR_0 aG_0 aS_0 aP_0 aN_0 aI_0 aT_0 zX), (wcR ci aR_0 aR_1 aRG_0 aRS_0 zR), (wcG ci aRG_0 aRG_1 aRG_2 aRG_3 aRG_4 zRG), (wcS ci aRS_0 aRS_1 zRS), (wcG ci aG_0 aG_1 aG_2 aG_3 aG_4 zG), (wcS ci aS_0 aS_1 zS_2), (wcP ci aP_0 aP_1 aQ zP_3), (wcQ ci aQ zQ_4), (wcN ci aN_0 aN_1 aN_2 aN_3 aN_4 zN), (wcI ci aI_0 aI_1 aI_2 aJ zI), (wcJ ci aJ zJ), (wcT ci aT_0 zT), (wcM ci aM zM)]) H := hP
  have hD : va_D A (fl [(wcX aX_0 aR_0 aG_0 aS_0 aP_0 aN_0 aI_0 aT_0 zX), (wcR ci aR_0 aR_1 aRG_0 aRS_0 zR), (wcG ci aRG_0 aRG_1 aRG_2 aRG_3 aRG_4 zRG), (wcS ci aRS_0 aRS_1 zRS), (wcG ci aG_0 aG_1 aG_2 aG_3 aG_4 zG), (wcS ci aS_0 aS_1 zS_2), (wcP ci aP_0 aP_1 aQ zP_3), (wcQ ci aQ zQ_4), (wcN ci aN_0 aN_1 aN_2 aN_3 aN_4 zN), (wcI ci aI_0 aI_1 aI_2 aJ zI), (wcJ ci aJ zJ), (wcT ci aT_0 zT), (wcM ci aM zM)]) := hD
  refine lv_aload_n hx hb dL_law_336 rfl (lv_at hl 1 rfl) ?_
  refine lv_aload_n hx hb dL_law_337 rfl (lv_at hl 3 rfl) ?_
  refine lv_iload_n hx hb dL_law_338 rfl (lv_at hl 0 rfl) ?_
  refine lv_iconst (v := 1) hx hb dL_law_339 (by decide) ?_
  refine lv_iadd hx hb dL_law_340 ?_
  refine va_sld hx hb hX hbl hbA hS (sc_in 1 k L hk5 hL320 (by omega)) dL_law_341 ?_
  refine W.eq (g2 := F0 m 342 ls [.int a1, .ref (aM 0), .int r_1]) (by rw [sc_at1 k L xs hk5 hL320, ha1]) ?_
  replace hF := bnd hF
  obtain ⟨q_10, hc_9, hF⟩ := hF
  obtain ⟨r_7, er_7⟩ : ∃ y : Int32, y = q_10.1 := ⟨_, rfl⟩
  replace hF := nm_i hF er_7
  obtain ⟨zM_8, ezM_8⟩ : ∃ y : MS, y = q_10.2 := ⟨_, rfl⟩
  replace hF := nm_i hF ezM_8
  obtain rfl : q_10 = (r_7, zM_8) := by rw [er_7, ezM_8]
  clear er_7
  clear ezM_8
  refine cl_Ci (As := [.int a1]) (rest := [.int r_1]) (csC := [(wcM ci aM zM)]) (csR := [(wcX aX_0 aR_0 aG_0 aS_0 aP_0 aN_0 aI_0 aT_0 zX), (wcR ci aR_0 aR_1 aRG_0 aRS_0 zR), (wcG ci aRG_0 aRG_1 aRG_2 aRG_3 aRG_4 zRG), (wcS ci aRS_0 aRS_1 zRS), (wcG ci aG_0 aG_1 aG_2 aG_3 aG_4 zG), (wcS ci aS_0 aS_1 zS_2), (wcP ci aP_0 aP_1 aQ zP_3), (wcQ ci aQ zQ_4), (wcN ci aN_0 aN_1 aN_2 aN_3 aN_4 zN), (wcI ci aI_0 aI_1 aI_2 aJ zI), (wcJ ci aJ zJ), (wcT ci aT_0 zT)]) (csC1 := [(wcM ci aM zM_8)]) (csN := [(wcX aX_0 aR_0 aG_0 aS_0 aP_0 aN_0 aI_0 aT_0 zX), (wcR ci aR_0 aR_1 aRG_0 aRS_0 zR), (wcG ci aRG_0 aRG_1 aRG_2 aRG_3 aRG_4 zRG), (wcS ci aRS_0 aRS_1 zRS), (wcG ci aG_0 aG_1 aG_2 aG_3 aG_4 zG), (wcS ci aS_0 aS_1 zS_2), (wcP ci aP_0 aP_1 aQ zP_3), (wcQ ci aQ zQ_4), (wcN ci aN_0 aN_1 aN_2 aN_3 aN_4 zN), (wcI ci aI_0 aI_1 aI_2 aJ zI), (wcJ ci aJ zJ), (wcT ci aT_0 zT), (wcM ci aM zM_8)]) ⟨hx, hb, hml, hown, hts⟩ (cwV 1 hts gL_law_X7_graze rfl rfl rfl (by decide +kernel) ⟨Nat.le_of_ble_eq_true rfl, Nat.le_of_ble_eq_true rfl⟩) (c_X7_graze l D ci aM H.size zM a1 _ hc_9) hK hP hD hS hA [0, 1, 2, 3, 4, 5, 6, 7, 8, 9, 10, 11, 12] [0, 1, 2, 3, 4, 5, 6, 7, 8, 9, 10, 11, 12] rfl rfl (by decide) (by decide) (by simp only [fl, List.append_nil]) (by simp only [fl, List.append_nil]) 0 rfl rfl rfl rfl hl.1 (Nat.le_of_ble_eq_true rfl) dL_law_342 (Nat.le_of_ble_eq_true rfl) (Nat.le_of_ble_eq_true rfl) (fun H locs hP hD hS => ?_)
  have hP : va_P D vwCl (fl [(wcX aX_0 aR_0 aG_0 aS_0 aP_0 aN_0 aI_0 aT_0 zX), (wcR ci aR_0 aR_1 aRG_0 aRS_0 zR), (wcG ci aRG_0 aRG_1 aRG_2 aRG_3 aRG_4 zRG), (wcS ci aRS_0 aRS_1 zRS), (wcG ci aG_0 aG_1 aG_2 aG_3 aG_4 zG), (wcS ci aS_0 aS_1 zS_2), (wcP ci aP_0 aP_1 aQ zP_3), (wcQ ci aQ zQ_4), (wcN ci aN_0 aN_1 aN_2 aN_3 aN_4 zN), (wcI ci aI_0 aI_1 aI_2 aJ zI), (wcJ ci aJ zJ), (wcT ci aT_0 zT), (wcM ci aM zM_8)]) H := hP
  have hD : va_D A (fl [(wcX aX_0 aR_0 aG_0 aS_0 aP_0 aN_0 aI_0 aT_0 zX), (wcR ci aR_0 aR_1 aRG_0 aRS_0 zR), (wcG ci aRG_0 aRG_1 aRG_2 aRG_3 aRG_4 zRG), (wcS ci aRS_0 aRS_1 zRS), (wcG ci aG_0 aG_1 aG_2 aG_3 aG_4 zG), (wcS ci aS_0 aS_1 zS_2), (wcP ci aP_0 aP_1 aQ zP_3), (wcQ ci aQ zQ_4), (wcN ci aN_0 aN_1 aN_2 aN_3 aN_4 zN), (wcI ci aI_0 aI_1 aI_2 aJ zI), (wcJ ci aJ zJ), (wcT ci aT_0 zT), (wcM ci aM zM_8)]) := hD
  refine lv_icmp_eq (tgt := 853) hx hb dL_law_345 (by decide) (fun c_11 => ?_) (fun c_11 => ?_)
  · replace hF := if_i c_11 hF
    obtain rfl := Option.some.inj hF
    exact kont H locs ls hP hD hS (lv_sub hl [0, 1, 2, 3] rfl)
  · replace hF := if_o c_11 hF
    refine lv_iconst (v := 0) hx hb dL_law_348 (by decide) ?_
    exact absurd hF (fun h => no_none h)
noncomputable def sp_8 (zX : XS) (zR : RS) (zRG : GS) (zRS : SS) (zG : GS) (zS : SS) (zP : PS) (zQ : QS) (zN : NS) (zI : IS) (zJ : QS) (zT : TS) (zM : MS) (a1 : Int32) (a2 : Int32) : Option ZZ := (if a2 = 0 then (some (0 : Int32)) else (some (1 : Int32))).bind fun t_1 => (f_X6_gate zX zG zS zP zQ a1 t_1).bind fun q_10 => nm q_10.1 fun r_5 => nm q_10.2.1 fun zS_6 => nm q_10.2.2.1 fun zP_7 => nm q_10.2.2.2 fun zQ_8 => (if a2 = 0 then (some (0 : Int32)) else (some (1 : Int32))).bind fun t_11 => (f_X7_gate zM a1 t_11).bind fun q_18 => nm q_18.1 fun r_15 => nm q_18.2 fun zM_16 => if r_5 = r_15 then (some (zX, zR, zRG, zRS, zG, zS_6, zP_7, zQ_8, zN, zI, zJ, zT, zM_16)) else (none)
set_option maxHeartbeats 8000000 in
set_option maxRecDepth 200000 in
theorem lc_8 {p : Program} {l : Launch} {e : Env} {s : State} {m : MethodId} {below : List Frame} {meth : Method} {c : Code} {Q : State → Prop} {b L k : Nat} {xs : Nat → Int32} {D : va_G} {ci : Nat → ClassId} (hx : p.tables.exec = Jvm.exec) (hb : c.code = cL_law) (hml : c.maxLocals = 4) (hown : s.vm.findClass RL = some m.cls) (hts : ∀ w ∈ wsL_law, w.before #[Value.ref b] s = true) (hX : va_X b L xs s s.heap) (hbl : b < s.heap.size) (hL320 : L ≤ 320) (hk5 : k + 5 ≤ L) (hK : va_K D vwCl (tyL ci) s) (aX_0 : Nat) (aR_0 : Nat) (aG_0 : Nat) (aS_0 : Nat) (aP_0 : Nat) (aN_0 : Nat) (aI_0 : Nat) (aT_0 : Nat) (aR_1 : Nat) (aRG_0 : Nat) (aRS_0 : Nat) (aRG_1 : Nat) (aRG_2 : Nat) (aRG_3 : Nat) (aRG_4 : Nat) (aRS_1 : Nat) (aG_1 : Nat) (aG_2 : Nat) (aG_3 : Nat) (aG_4 : Nat) (aS_1 : Nat) (aP_1 : Nat) (aQ : Nat → Nat) (aN_1 : Nat) (aN_2 : Nat) (aN_3 : Nat) (aN_4 : Nat) (aI_1 : Nat) (aI_2 : Nat) (aJ : Nat → Nat) (aM : Nat → Nat) (zX : XS) (zR : RS) (zRG : GS) (zRS : SS) (zG : GS) (zS : SS) (zP : PS) (zQ : QS) (zN : NS) (zI : IS) (zJ : QS) (zT : TS) (zM : MS) (a1 : Int32) (a2 : Int32) (ha1 : xs (k + 1) = a1) (ha2 : xs (k + 2) = a2) (res : ZZ) (hF : sp_8 zX zR zRG zRS zG zS zP zQ zN zI zJ zT zM a1 a2 = some res) (H : Heap) (locs : List Loc) (ls : Array Slot) (hP : va_P D vwCl (fl [(wcX aX_0 aR_0 aG_0 aS_0 aP_0 aN_0 aI_0 aT_0 zX), (wcR ci aR_0 aR_1 aRG_0 aRS_0 zR), (wcG ci aRG_0 aRG_1 aRG_2 aRG_3 aRG_4 zRG), (wcS ci aRS_0 aRS_1 zRS), (wcG ci aG_0 aG_1 aG_2 aG_3 aG_4 zG), (wcS ci aS_0 aS_1 zS), (wcP ci aP_0 aP_1 aQ zP), (wcQ ci aQ zQ), (wcN ci aN_0 aN_1 aN_2 aN_3 aN_4 zN), (wcI ci aI_0 aI_1 aI_2 aJ zI), (wcJ ci aJ zJ), (wcT ci aT_0 zT), (wcM ci aM zM)]) H) (hD : va_D (fun q : Nat => s.heap.size ≤ q) (fl [(wcX aX_0 aR_0 aG_0 aS_0 aP_0 aN_0 aI_0 aT_0 zX), (wcR ci aR_0 aR_1 aRG_0 aRS_0 zR), (wcG ci aRG_0 aRG_1 aRG_2 aRG_3 aRG_4 zRG), (wcS ci aRS_0 aRS_1 zRS), (wcG ci aG_0 aG_1 aG_2 aG_3 aG_4 zG), (wcS ci aS_0 aS_1 zS), (wcP ci aP_0 aP_1 aQ zP), (wcQ ci aQ zQ), (wcN ci aN_0 aN_1 aN_2 aN_3 aN_4 zN), (wcI ci aI_0 aI_1 aI_2 aJ zI), (wcJ ci aJ zJ), (wcT ci aT_0 zT), (wcM ci aM zM)])) (hS : va_S (fun q : Nat => s.heap.size ≤ q) s.heap H locs) (hl : lv_has ls 4 [(3, .int (nI k)), (2, .ref (aM 0)), (1, .ref aX_0), (0, .ref b)]) (kont : ∀ (H : Heap) (locs : List Loc) (ls : Array Slot), va_P D vwCl (fl [(wcX aX_0 aR_0 aG_0 aS_0 aP_0 aN_0 aI_0 aT_0 res.1), (wcR ci aR_0 aR_1 aRG_0 aRS_0 res.2.1), (wcG ci aRG_0 aRG_1 aRG_2 aRG_3 aRG_4 res.2.2.1), (wcS ci aRS_0 aRS_1 res.2.2.2.1), (wcG ci aG_0 aG_1 aG_2 aG_3 aG_4 res.2.2.2.2.1), (wcS ci aS_0 aS_1 res.2.2.2.2.2.1), (wcP ci aP_0 aP_1 aQ res.2.2.2.2.2.2.1), (wcQ ci aQ res.2.2.2.2.2.2.2.1), (wcN ci aN_0 aN_1 aN_2 aN_3 aN_4 res.2.2.2.2.2.2.2.2.1), (wcI ci aI_0 aI_1 aI_2 aJ res.2.2.2.2.2.2.2.2.2.1), (wcJ ci aJ res.2.2.2.2.2.2.2.2.2.2.1), (wcT ci aT_0 res.2.2.2.2.2.2.2.2.2.2.2.1), (wcM ci aM res.2.2.2.2.2.2.2.2.2.2.2.2)]) H → va_D (fun q : Nat => s.heap.size ≤ q) (fl [(wcX aX_0 aR_0 aG_0 aS_0 aP_0 aN_0 aI_0 aT_0 res.1), (wcR ci aR_0 aR_1 aRG_0 aRS_0 res.2.1), (wcG ci aRG_0 aRG_1 aRG_2 aRG_3 aRG_4 res.2.2.1), (wcS ci aRS_0 aRS_1 res.2.2.2.1), (wcG ci aG_0 aG_1 aG_2 aG_3 aG_4 res.2.2.2.2.1), (wcS ci aS_0 aS_1 res.2.2.2.2.2.1), (wcP ci aP_0 aP_1 aQ res.2.2.2.2.2.2.1), (wcQ ci aQ res.2.2.2.2.2.2.2.1), (wcN ci aN_0 aN_1 aN_2 aN_3 aN_4 res.2.2.2.2.2.2.2.2.1), (wcI ci aI_0 aI_1 aI_2 aJ res.2.2.2.2.2.2.2.2.2.1), (wcJ ci aJ res.2.2.2.2.2.2.2.2.2.2.1), (wcT ci aT_0 res.2.2.2.2.2.2.2.2.2.2.2.1), (wcM ci aM res.2.2.2.2.2.2.2.2.2.2.2.2)]) → va_S (fun q : Nat => s.heap.size ≤ q) s.heap H locs → lv_has ls 4 [(3, .int (nI k)), (2, .ref (aM 0)), (1, .ref aX_0), (0, .ref b)] → W p l e room_1 s m #[Value.ref b] below meth c H locs 96 5513 Q (F0 m 853 ls [])) : W p l e room_1 s m #[Value.ref b] below meth c H locs 96 5513 Q (F0 m 350 ls []) := by
  obtain ⟨A, hAe⟩ : ∃ A : Nat → Prop, A = (fun q : Nat => s.heap.size ≤ q) := ⟨_, rfl⟩
  rw [← hAe] at hD hS kont
  have hA : ∀ q : Nat, s.heap.size ≤ q → A q := fun q h => by rw [hAe]; exact h
  have hbA : ¬ A b := by rw [hAe]; exact Nat.not_le.mpr hbl
  clear hAe
  unfold sp_8 at hF
  refine lv_aload_n hx hb dL_law_350 rfl (lv_at hl 2 rfl) ?_
  refine lv_aload_n hx hb dL_law_351 rfl (lv_at hl 3 rfl) ?_
  refine lv_iload_n hx hb dL_law_352 rfl (lv_at hl 0 rfl) ?_
  refine lv_iconst (v := 1) hx hb dL_law_353 (by decide) ?_
  refine lv_iadd hx hb dL_law_354 ?_
  refine va_sld hx hb hX hbl hbA hS (sc_in 1 k L hk5 hL320 (by omega)) dL_law_355 ?_
  refine W.eq (g2 := F0 m 356 ls [.int a1, .ref aX_0]) (by rw [sc_at1 k L xs hk5 hL320, ha1]) ?_
  refine lv_aload_n hx hb dL_law_356 rfl (lv_at hl 3 rfl) ?_
  refine lv_iload_n hx hb dL_law_357 rfl (lv_at hl 0 rfl) ?_
  refine lv_iconst (v := 2) hx hb dL_law_358 (by decide) ?_
  refine lv_iadd hx hb dL_law_359 ?_
  refine va_sld hx hb hX hbl hbA hS (sc_in 2 k L hk5 hL320 (by omega)) dL_law_360 ?_
  refine W.eq (g2 := F0 m 361 ls [.int a2, .int a1, .ref aX_0]) (by rw [sc_at2 k L xs hk5 hL320, ha2]) ?_
  replace hF := bnd hF
  obtain ⟨t_1, hv_4, hF⟩ := hF
  refine jn (P := fun H locs ls => va_P D vwCl (fl [(wcX aX_0 aR_0 aG_0 aS_0 aP_0 aN_0 aI_0 aT_0 zX), (wcR ci aR_0 aR_1 aRG_0 aRS_0 zR), (wcG ci aRG_0 aRG_1 aRG_2 aRG_3 aRG_4 zRG), (wcS ci aRS_0 aRS_1 zRS), (wcG ci aG_0 aG_1 aG_2 aG_3 aG_4 zG), (wcS ci aS_0 aS_1 zS), (wcP ci aP_0 aP_1 aQ zP), (wcQ ci aQ zQ), (wcN ci aN_0 aN_1 aN_2 aN_3 aN_4 zN), (wcI ci aI_0 aI_1 aI_2 aJ zI), (wcJ ci aJ zJ), (wcT ci aT_0 zT), (wcM ci aM zM)]) H ∧ va_D A (fl [(wcX aX_0 aR_0 aG_0 aS_0 aP_0 aN_0 aI_0 aT_0 zX), (wcR ci aR_0 aR_1 aRG_0 aRS_0 zR), (wcG ci aRG_0 aRG_1 aRG_2 aRG_3 aRG_4 zRG), (wcS ci aRS_0 aRS_1 zRS), (wcG ci aG_0 aG_1 aG_2 aG_3 aG_4 zG), (wcS ci aS_0 aS_1 zS), (wcP ci aP_0 aP_1 aQ zP), (wcQ ci aQ zQ), (wcN ci aN_0 aN_1 aN_2 aN_3 aN_4 zN), (wcI ci aI_0 aI_1 aI_2 aJ zI), (wcJ ci aJ zJ), (wcT ci aT_0 zT), (wcM ci aM zM)]) ∧ va_S A s.heap H locs ∧ lv_has ls 4 [(0, .ref b), (1, .ref aX_0), (2, .ref (aM 0)), (3, .int (nI k))]) (pcJ := 369) (st := [.int t_1, .int a1, .ref aX_0]) ?_ ?_
  · intro H locs ls hJ
    obtain ⟨hP, hD, hS, hl⟩ := hJ
    replace hF := bnd hF
    obtain ⟨q_10, hc_9, hF⟩ := hF
    obtain ⟨r_5, er_5⟩ : ∃ y : Int32, y = q_10.1 := ⟨_, rfl⟩
    replace hF := nm_i hF er_5
    obtain ⟨zS_6, ezS_6⟩ : ∃ y : SS, y = q_10.2.1 := ⟨_, rfl⟩
    replace hF := nm_i hF ezS_6
    obtain ⟨zP_7, ezP_7⟩ : ∃ y : PS, y = q_10.2.2.1 := ⟨_, rfl⟩
    replace hF := nm_i hF ezP_7
    obtain ⟨zQ_8, ezQ_8⟩ : ∃ y : QS, y = q_10.2.2.2 := ⟨_, rfl⟩
    replace hF := nm_i hF ezQ_8
    obtain rfl : q_10 = (r_5, zS_6, zP_7, zQ_8) := by rw [er_5, ezS_6, ezP_7, ezQ_8]
    clear er_5
    clear ezS_6
    clear ezP_7
    clear ezQ_8
    refine cl_Ci (As := [.int a1, .int t_1]) (rest := []) (csC := [(wcX aX_0 aR_0 aG_0 aS_0 aP_0 aN_0 aI_0 aT_0 zX), (wcG ci aG_0 aG_1 aG_2 aG_3 aG_4 zG), (wcS ci aS_0 aS_1 zS), (wcP ci aP_0 aP_1 aQ zP), (wcQ ci aQ zQ)]) (csR := [(wcR ci aR_0 aR_1 aRG_0 aRS_0 zR), (wcG ci aRG_0 aRG_1 aRG_2 aRG_3 aRG_4 zRG), (wcS ci aRS_0 aRS_1 zRS), (wcN ci aN_0 aN_1 aN_2 aN_3 aN_4 zN), (wcI ci aI_0 aI_1 aI_2 aJ zI), (wcJ ci aJ zJ), (wcT ci aT_0 zT), (wcM ci aM zM)]) (csC1 := [(wcX aX_0 aR_0 aG_0 aS_0 aP_0 aN_0 aI_0 aT_0 zX), (wcG ci aG_0 aG_1 aG_2 aG_3 aG_4 zG), (wcS ci aS_0 aS_1 zS_6), (wcP ci aP_0 aP_1 aQ zP_7), (wcQ ci aQ zQ_8)]) (csN := [(wcX aX_0 aR_0 aG_0 aS_0 aP_0 aN_0 aI_0 aT_0 zX), (wcR ci aR_0 aR_1 aRG_0 aRS_0 zR), (wcG ci aRG_0 aRG_1 aRG_2 aRG_3 aRG_4 zRG), (wcS ci aRS_0 aRS_1 zRS), (wcG ci aG_0 aG_1 aG_2 aG_3 aG_4 zG), (wcS ci aS_0 aS_1 zS_6), (wcP ci aP_0 aP_1 aQ zP_7), (wcQ ci aQ zQ_8), (wcN ci aN_0 aN_1 aN_2 aN_3 aN_4 zN), (wcI ci aI_0 aI_1 aI_2 aJ zI), (wcJ ci aJ zJ), (wcT ci aT_0 zT), (wcM ci aM zM)]) ⟨hx, hb, hml, hown, hts⟩ (cwV 2 hts gL_law_X6_gate rfl rfl rfl (by decide +kernel) ⟨Nat.le_of_ble_eq_true rfl, Nat.le_of_ble_eq_true rfl⟩) (c_X6_gate l D ci aX_0 aR_0 aG_0 aS_0 aP_0 aN_0 aI_0 aT_0 aG_1 aG_2 aG_3 aG_4 aS_1 aP_1 aQ H.size zX zG zS zP zQ a1 t_1 _ hc_9) hK hP hD hS hA [1, 2, 3, 8, 9, 10, 11, 12, 0, 4, 5, 6, 7] [8, 0, 1, 2, 9, 10, 11, 12, 3, 4, 5, 6, 7] rfl rfl (by decide) (by decide) (by simp only [fl, List.append_nil]) (by simp only [fl, List.append_nil]) 0 rfl rfl rfl rfl hl.1 (Nat.le_of_ble_eq_true rfl) dL_law_369 (Nat.le_of_ble_eq_true rfl) (Nat.le_of_ble_eq_true rfl) (fun H locs hP hD hS => ?_)
    have hP : va_P D vwCl (fl [(wcX aX_0 aR_0 aG_0 aS_0 aP_0 aN_0 aI_0 aT_0 zX), (wcR ci aR_0 aR_1 aRG_0 aRS_0 zR), (wcG ci aRG_0 aRG_1 aRG_2 aRG_3 aRG_4 zRG), (wcS ci aRS_0 aRS_1 zRS), (wcG ci aG_0 aG_1 aG_2 aG_3 aG_4 zG), (wcS ci aS_0 aS_1 zS_6), (wcP ci aP_0 aP_1 aQ zP_7), (wcQ ci aQ zQ_8), (wcN ci aN_0 aN_1 aN_2 aN_3 aN_4 zN), (wcI ci aI_0 aI_1 aI_2 aJ zI), (wcJ ci aJ zJ), (wcT ci aT_0 zT), (wcM ci aM zM)]) H := hP
    have hD : va_D A (fl [(wcX aX_0 aR_0 aG_0 aS_0 aP_0 aN_0 aI_0 aT_0 zX), (wcR ci aR_0 aR_1 aRG_0 aRS_0 zR), (wcG ci aRG_0 aRG_1 aRG_2 aRG_3 aRG_4 zRG), (wcS ci aRS_0 aRS_1 zRS), (wcG ci aG_0 aG_1 aG_2 aG_3 aG_4 zG), (wcS ci aS_0 aS_1 zS_6), (wcP ci aP_0 aP_1 aQ zP_7), (wcQ ci aQ zQ_8), (wcN ci aN_0 aN_1 aN_2 aN_3 aN_4 zN), (wcI ci aI_0 aI_1 aI_2 aJ zI), (wcJ ci aJ zJ), (wcT ci aT_0 zT), (wcM ci aM zM)]) := hD
    refine lv_aload_n hx hb dL_law_372 rfl (lv_at hl 2 rfl) ?_
    refine lv_aload_n hx hb dL_law_373 rfl (lv_at hl 0 rfl) ?_
    refine lv_iload_n hx hb dL_law_374 rfl (lv_at hl 3 rfl) ?_
    refine lv_iconst (v := 1) hx hb dL_law_375 (by decide) ?_
    refine lv_iadd hx hb dL_law_376 ?_
    refine va_sld hx hb hX hbl hbA hS (sc_in 1 k L hk5 hL320 (by omega)) dL_law_377 ?_
    refine W.eq (g2 := F0 m 378 ls [.int a1, .ref (aM 0), .int r_5]) (by rw [sc_at1 k L xs hk5 hL320, ha1]) ?_
    refine lv_aload_n hx hb dL_law_378 rfl (lv_at hl 0 rfl) ?_
    refine lv_iload_n hx hb dL_law_379 rfl (lv_at hl 3 rfl) ?_
    refine lv_iconst (v := 2) hx hb dL_law_380 (by decide) ?_
    refine lv_iadd hx hb dL_law_381 ?_
    refine va_sld hx hb hX hbl hbA hS (sc_in 2 k L hk5 hL320 (by omega)) dL_law_382 ?_
    refine W.eq (g2 := F0 m 383 ls [.int a2, .int a1, .ref (aM 0), .int r_5]) (by rw [sc_at2 k L xs hk5 hL320, ha2]) ?_
    replace hF := bnd hF
    obtain ⟨t_11, hv_14, hF⟩ := hF
    refine jn (P := fun H locs ls => va_P D vwCl (fl [(wcX aX_0 aR_0 aG_0 aS_0 aP_0 aN_0 aI_0 aT_0 zX), (wcR ci aR_0 aR_1 aRG_0 aRS_0 zR), (wcG ci aRG_0 aRG_1 aRG_2 aRG_3 aRG_4 zRG), (wcS ci aRS_0 aRS_1 zRS), (wcG ci aG_0 aG_1 aG_2 aG_3 aG_4 zG), (wcS ci aS_0 aS_1 zS_6), (wcP ci aP_0 aP_1 aQ zP_7), (wcQ ci aQ zQ_8), (wcN ci aN_0 aN_1 aN_2 aN_3 aN_4 zN), (wcI ci aI_0 aI_1 aI_2 aJ zI), (wcJ ci aJ zJ), (wcT ci aT_0 zT), (wcM ci aM zM)]) H ∧ va_D A (fl [(wcX aX_0 aR_0 aG_0 aS_0 aP_0 aN_0 aI_0 aT_0 zX), (wcR ci aR_0 aR_1 aRG_0 aRS_0 zR), (wcG ci aRG_0 aRG_1 aRG_2 aRG_3 aRG_4 zRG), (wcS ci aRS_0 aRS_1 zRS), (wcG ci aG_0 aG_1 aG_2 aG_3 aG_4 zG), (wcS ci aS_0 aS_1 zS_6), (wcP ci aP_0 aP_1 aQ zP_7), (wcQ ci aQ zQ_8), (wcN ci aN_0 aN_1 aN_2 aN_3 aN_4 zN), (wcI ci aI_0 aI_1 aI_2 aJ zI), (wcJ ci aJ zJ), (wcT ci aT_0 zT), (wcM ci aM zM)]) ∧ va_S A s.heap H locs ∧ lv_has ls 4 [(0, .ref b), (1, .ref aX_0), (2, .ref (aM 0)), (3, .int (nI k))]) (pcJ := 391) (st := [.int t_11, .int a1, .ref (aM 0), .int r_5]) ?_ ?_
    · intro H locs ls hJ
      obtain ⟨hP, hD, hS, hl⟩ := hJ
      replace hF := bnd hF
      obtain ⟨q_18, hc_17, hF⟩ := hF
      obtain ⟨r_15, er_15⟩ : ∃ y : Int32, y = q_18.1 := ⟨_, rfl⟩
      replace hF := nm_i hF er_15
      obtain ⟨zM_16, ezM_16⟩ : ∃ y : MS, y = q_18.2 := ⟨_, rfl⟩
      replace hF := nm_i hF ezM_16
      obtain rfl : q_18 = (r_15, zM_16) := by rw [er_15, ezM_16]
      clear er_15
      clear ezM_16
      refine cl_Ci (As := [.int a1, .int t_11]) (rest := [.int r_5]) (csC := [(wcM ci aM zM)]) (csR := [(wcX aX_0 aR_0 aG_0 aS_0 aP_0 aN_0 aI_0 aT_0 zX), (wcR ci aR_0 aR_1 aRG_0 aRS_0 zR), (wcG ci aRG_0 aRG_1 aRG_2 aRG_3 aRG_4 zRG), (wcS ci aRS_0 aRS_1 zRS), (wcG ci aG_0 aG_1 aG_2 aG_3 aG_4 zG), (wcS ci aS_0 aS_1 zS_6), (wcP ci aP_0 aP_1 aQ zP_7), (wcQ ci aQ zQ_8), (wcN ci aN_0 aN_1 aN_2 aN_3 aN_4 zN), (wcI ci aI_0 aI_1 aI_2 aJ zI), (wcJ ci aJ zJ), (wcT ci aT_0 zT)]) (csC1 := [(wcM ci aM zM_16)]) (csN := [(wcX aX_0 aR_0 aG_0 aS_0 aP_0 aN_0 aI_0 aT_0 zX), (wcR ci aR_0 aR_1 aRG_0 aRS_0 zR), (wcG ci aRG_0 aRG_1 aRG_2 aRG_3 aRG_4 zRG), (wcS ci aRS_0 aRS_1 zRS), (wcG ci aG_0 aG_1 aG_2 aG_3 aG_4 zG), (wcS ci aS_0 aS_1 zS_6), (wcP ci aP_0 aP_1 aQ zP_7), (wcQ ci aQ zQ_8), (wcN ci aN_0 aN_1 aN_2 aN_3 aN_4 zN), (wcI ci aI_0 aI_1 aI_2 aJ zI), (wcJ ci aJ zJ), (wcT ci aT_0 zT), (wcM ci aM zM_16)]) ⟨hx, hb, hml, hown, hts⟩ (cwV 2 hts gL_law_X7_gate rfl rfl rfl (by decide +kernel) ⟨Nat.le_of_ble_eq_true rfl, Nat.le_of_ble_eq_true rfl⟩) (c_X7_gate l D ci aM H.size zM a1 t_11 _ hc_17) hK hP hD hS hA [0, 1, 2, 3, 4, 5, 6, 7, 8, 9, 10, 11, 12] [0, 1, 2, 3, 4, 5, 6, 7, 8, 9, 10, 11, 12] rfl rfl (by decide) (by decide) (by simp only [fl, List.append_nil]) (by simp only [fl, List.append_nil]) 0 rfl rfl rfl rfl hl.1 (Nat.le_of_ble_eq_true rfl) dL_law_391 (Nat.le_of_ble_eq_true rfl) (Nat.le_of_ble_eq_true rfl) (fun H locs hP hD hS => ?_)
      have hP : va_P D vwCl (fl [(wcX aX_0 aR_0 aG_0 aS_0 aP_0 aN_0 aI_0 aT_0 zX), (wcR ci aR_0 aR_1 aRG_0 aRS_0 zR), (wcG ci aRG_0 aRG_1 aRG_2 aRG_3 aRG_4 zRG), (wcS ci aRS_0 aRS_1 zRS), (wcG ci aG_0 aG_1 aG_2 aG_3 aG_4 zG), (wcS ci aS_0 aS_1 zS_6), (wcP ci aP_0 aP_1 aQ zP_7), (wcQ ci aQ zQ_8), (wcN ci aN_0 aN_1 aN_2 aN_3 aN_4 zN), (wcI ci aI_0 aI_1 aI_2 aJ zI), (wcJ ci aJ zJ), (wcT ci aT_0 zT), (wcM ci aM zM_16)]) H := hP
      have hD : va_D A (fl [(wcX aX_0 aR_0 aG_0 aS_0 aP_0 aN_0 aI_0 aT_0 zX), (wcR ci aR_0 aR_1 aRG_0 aRS_0 zR), (wcG ci aRG_0 aRG_1 aRG_2 aRG_3 aRG_4 zRG), (wcS ci aRS_0 aRS_1 zRS), (wcG ci aG_0 aG_1 aG_2 aG_3 aG_4 zG), (wcS ci aS_0 aS_1 zS_6), (wcP ci aP_0 aP_1 aQ zP_7), (wcQ ci aQ zQ_8), (wcN ci aN_0 aN_1 aN_2 aN_3 aN_4 zN), (wcI ci aI_0 aI_1 aI_2 aJ zI), (wcJ ci aJ zJ), (wcT ci aT_0 zT), (wcM ci aM zM_16)]) := hD
      refine lv_icmp_eq (tgt := 853) hx hb dL_law_394 (by decide) (fun c_19 => ?_) (fun c_19 => ?_)
      · replace hF := if_i c_19 hF
        obtain rfl := Option.some.inj hF
        exact kont H locs ls hP hD hS (lv_sub hl [3, 2, 1, 0] rfl)
      · replace hF := if_o c_19 hF
        refine lv_iconst (v := 0) hx hb dL_law_397 (by decide) ?_
        exact absurd hF (fun h => no_none h)
    · intro J_12
      clear hF
      have hF := hv_14
      refine lv_if_eq (tgt := 390) hx hb dL_law_383 (by decide) (fun c_13 => ?_) (fun c_13 => ?_)
      · replace hF := if_i c_13 hF
        refine lv_iconst (v := 0) hx hb dL_law_390 (by decide) ?_
        obtain rfl := Option.some.inj hF
        exact J_12 H locs ls ⟨hP, hD, hS, lv_sub hl [0, 1, 2, 3] rfl⟩
      · replace hF := if_o c_13 hF
        refine lv_iconst (v := 1) hx hb dL_law_386 (by decide) ?_
        refine lv_goto (tgt := 391) hx hb dL_law_387 (by decide) ?_
        obtain rfl := Option.some.inj hF
        exact J_12 H locs ls ⟨hP, hD, hS, lv_sub hl [0, 1, 2, 3] rfl⟩
  · intro J_2
    clear hF
    have hF := hv_4
    refine lv_if_eq (tgt := 368) hx hb dL_law_361 (by decide) (fun c_3 => ?_) (fun c_3 => ?_)
    · replace hF := if_i c_3 hF
      refine lv_iconst (v := 0) hx hb dL_law_368 (by decide) ?_
      obtain rfl := Option.some.inj hF
      exact J_2 H locs ls ⟨hP, hD, hS, lv_sub hl [3, 2, 1, 0] rfl⟩
    · replace hF := if_o c_3 hF
      refine lv_iconst (v := 1) hx hb dL_law_364 (by decide) ?_
      refine lv_goto (tgt := 369) hx hb dL_law_365 (by decide) ?_
      obtain rfl := Option.some.inj hF
      exact J_2 H locs ls ⟨hP, hD, hS, lv_sub hl [3, 2, 1, 0] rfl⟩

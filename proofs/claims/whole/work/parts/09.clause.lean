noncomputable def f_X4_readClause (zR : RS) (zRG : GS) (zRS : SS) : Option (RS × GS × SS) := nm (zR.1 4) fun v1_1 => ald 240 zR.2 (zR.1 4) fun x_3 => nm ((zR.1 4) + 1) fun f4_4 => nm ((upd zR.1 4 f4_4, zR.2) : RS) fun zR_5 => if (zRG.1 2) = 0 then (if x_3 = 103 then (nm x_3 fun k_98 => if k_98 = 101 then ((f_X4_readOwned zR_5 zRG zRS).bind fun q_103 => nm q_103.1 fun zR_100 => nm q_103.2 fun zRS_101 => (f_X4_readEnd zR_100).bind fun zR_104 => some (zR_104, zRG, zRS_101)) else if k_98 = 102 then ((f_X4_fail zR_5 (1 : Int32) v1_1).bind fun zR_107 => (f_X4_readEnd zR_107).bind fun zR_109 => some (zR_109, zRG, zRS)) else if k_98 = 103 then ((f_X4_readGround zR_5 zRG v1_1).bind fun q_115 => nm q_115.1 fun zR_112 => nm q_115.2 fun zRG_113 => (f_X4_readEnd zR_112).bind fun zR_116 => some (zR_116, zRG_113, zRS)) else if k_98 = 104 then ((f_X4_readHedge zR_5 zRG zRS).bind fun q_122 => nm q_122.1 fun zR_119 => nm q_122.2 fun zRS_120 => (f_X4_readEnd zR_119).bind fun zR_123 => some (zR_123, zRG, zRS_120)) else if k_98 = 105 then ((f_X4_fail zR_5 (1 : Int32) v1_1).bind fun zR_126 => (f_X4_readEnd zR_126).bind fun zR_128 => some (zR_128, zRG, zRS)) else if k_98 = 106 then ((f_X4_fail zR_5 (1 : Int32) v1_1).bind fun zR_131 => (f_X4_readEnd zR_131).bind fun zR_133 => some (zR_133, zRG, zRS)) else if k_98 = 107 then ((f_X4_fail zR_5 (1 : Int32) v1_1).bind fun zR_136 => (f_X4_readEnd zR_136).bind fun zR_138 => some (zR_138, zRG, zRS)) else if k_98 = 108 then ((f_X4_fail zR_5 (1 : Int32) v1_1).bind fun zR_141 => (f_X4_readEnd zR_141).bind fun zR_143 => some (zR_143, zRG, zRS)) else if k_98 = 109 then ((f_X4_fail zR_5 (1 : Int32) v1_1).bind fun zR_146 => (f_X4_readEnd zR_146).bind fun zR_148 => some (zR_148, zRG, zRS)) else if k_98 = 110 then ((f_X4_fail zR_5 (1 : Int32) v1_1).bind fun zR_151 => (f_X4_readEnd zR_151).bind fun zR_153 => some (zR_153, zRG, zRS)) else if k_98 = 111 then ((f_X4_fail zR_5 (1 : Int32) v1_1).bind fun zR_156 => (f_X4_readEnd zR_156).bind fun zR_158 => some (zR_158, zRG, zRS)) else if k_98 = 112 then ((f_X4_readPath zR_5 zRG zRS).bind fun q_164 => nm q_164.1 fun zR_161 => nm q_164.2 fun zRG_162 => (f_X4_readEnd zR_161).bind fun zR_165 => some (zR_165, zRG_162, zRS)) else if k_98 = 113 then ((f_X4_fail zR_5 (1 : Int32) v1_1).bind fun zR_168 => (f_X4_readEnd zR_168).bind fun zR_170 => some (zR_170, zRG, zRS)) else if k_98 = 114 then ((f_X4_fail zR_5 (1 : Int32) v1_1).bind fun zR_173 => (f_X4_readEnd zR_173).bind fun zR_175 => some (zR_175, zRG, zRS)) else if k_98 = 115 then ((f_X4_readSoil zR_5 zRG).bind fun q_181 => nm q_181.1 fun zR_178 => nm q_181.2 fun zRG_179 => (f_X4_readEnd zR_178).bind fun zR_182 => some (zR_182, zRG_179, zRS)) else ((f_X4_fail zR_5 (1 : Int32) v1_1).bind fun zR_184 => (f_X4_readEnd zR_184).bind fun zR_186 => some (zR_186, zRG, zRS))) else ((f_X4_fail zR_5 (1 : Int32) v1_1).bind fun zR_188 => some (zR_188, zRG, zRS))) else (nm x_3 fun k_7 => if k_7 = 101 then ((f_X4_readOwned zR_5 zRG zRS).bind fun q_12 => nm q_12.1 fun zR_9 => nm q_12.2 fun zRS_10 => (f_X4_readEnd zR_9).bind fun zR_13 => some (zR_13, zRG, zRS_10)) else if k_7 = 102 then ((f_X4_fail zR_5 (1 : Int32) v1_1).bind fun zR_16 => (f_X4_readEnd zR_16).bind fun zR_18 => some (zR_18, zRG, zRS)) else if k_7 = 103 then ((f_X4_readGround zR_5 zRG v1_1).bind fun q_24 => nm q_24.1 fun zR_21 => nm q_24.2 fun zRG_22 => (f_X4_readEnd zR_21).bind fun zR_25 => some (zR_25, zRG_22, zRS)) else if k_7 = 104 then ((f_X4_readHedge zR_5 zRG zRS).bind fun q_31 => nm q_31.1 fun zR_28 => nm q_31.2 fun zRS_29 => (f_X4_readEnd zR_28).bind fun zR_32 => some (zR_32, zRG, zRS_29)) else if k_7 = 105 then ((f_X4_fail zR_5 (1 : Int32) v1_1).bind fun zR_35 => (f_X4_readEnd zR_35).bind fun zR_37 => some (zR_37, zRG, zRS)) else if k_7 = 106 then ((f_X4_fail zR_5 (1 : Int32) v1_1).bind fun zR_40 => (f_X4_readEnd zR_40).bind fun zR_42 => some (zR_42, zRG, zRS)) else if k_7 = 107 then ((f_X4_fail zR_5 (1 : Int32) v1_1).bind fun zR_45 => (f_X4_readEnd zR_45).bind fun zR_47 => some (zR_47, zRG, zRS)) else if k_7 = 108 then ((f_X4_fail zR_5 (1 : Int32) v1_1).bind fun zR_50 => (f_X4_readEnd zR_50).bind fun zR_52 => some (zR_52, zRG, zRS)) else if k_7 = 109 then ((f_X4_fail zR_5 (1 : Int32) v1_1).bind fun zR_55 => (f_X4_readEnd zR_55).bind fun zR_57 => some (zR_57, zRG, zRS)) else if k_7 = 110 then ((f_X4_fail zR_5 (1 : Int32) v1_1).bind fun zR_60 => (f_X4_readEnd zR_60).bind fun zR_62 => some (zR_62, zRG, zRS)) else if k_7 = 111 then ((f_X4_fail zR_5 (1 : Int32) v1_1).bind fun zR_65 => (f_X4_readEnd zR_65).bind fun zR_67 => some (zR_67, zRG, zRS)) else if k_7 = 112 then ((f_X4_readPath zR_5 zRG zRS).bind fun q_73 => nm q_73.1 fun zR_70 => nm q_73.2 fun zRG_71 => (f_X4_readEnd zR_70).bind fun zR_74 => some (zR_74, zRG_71, zRS)) else if k_7 = 113 then ((f_X4_fail zR_5 (1 : Int32) v1_1).bind fun zR_77 => (f_X4_readEnd zR_77).bind fun zR_79 => some (zR_79, zRG, zRS)) else if k_7 = 114 then ((f_X4_fail zR_5 (1 : Int32) v1_1).bind fun zR_82 => (f_X4_readEnd zR_82).bind fun zR_84 => some (zR_84, zRG, zRS)) else if k_7 = 115 then ((f_X4_readSoil zR_5 zRG).bind fun q_90 => nm q_90.1 fun zR_87 => nm q_90.2 fun zRG_88 => (f_X4_readEnd zR_87).bind fun zR_91 => some (zR_91, zRG_88, zRS)) else ((f_X4_fail zR_5 (1 : Int32) v1_1).bind fun zR_93 => (f_X4_readEnd zR_93).bind fun zR_95 => some (zR_95, zRG, zRS)))
set_option maxHeartbeats 4000000 in
set_option maxRecDepth 100000 in
theorem c_X4_readClause (l : Launch) (D : va_G) (ci : Nat → ClassId) (aR_0 : Nat) (aR_1 : Nat) (aRG_0 : Nat) (aRS_0 : Nat) (aRG_1 : Nat) (aRG_2 : Nat) (aRG_3 : Nat) (aRG_4 : Nat) (aRS_1 : Nat) (sz : Nat) (zR : RS) (zRG : GS) (zRS : SS) (res : RS × GS × SS) (hF : f_X4_readClause zR zRG zRS = some res) : CtV l yX4_readClause wsX4_readClause { frames := 4, cells := 0, slots := 0, locals := 89 } [.ref aR_0] D ci ((wcR ci aR_0 aR_1 aRG_0 aRS_0 zR) ++ ((wcG ci aRG_0 aRG_1 aRG_2 aRG_3 aRG_4 zRG) ++ (wcS ci aRS_0 aRS_1 zRS))) sz ((wcR ci aR_0 aR_1 aRG_0 aRS_0 res.1) ++ ((wcG ci aRG_0 aRG_1 aRG_2 aRG_3 aRG_4 res.2.1) ++ (wcS ci aRS_0 aRS_1 res.2.2))) := by
  refine Met.ofW (cc := cX4_readClause) (maxL := 3) (ret := none) (by decide) rfl ?_
  intro p e s m args below meth c s₁ B hml hv
  obtain ⟨rfl, hsz, hP, hK, hD0⟩ := hv
  have hx := B.exec
  have hb := B.bytes
  have hr := B.returns
  have hts := atoms_spec (ws := wsX4_readClause) B.pre
  have hown : s.vm.findClass RX4 = some m.cls := findClass_of_methodNamed B.named
  have hlocks := B.notSynchronized
  subst hsz
  have hD := hD0.self (sz := s.heap.size)
  generalize hAe : va_A ((wcR ci aR_0 aR_1 aRG_0 aRS_0 zR) ++ ((wcG ci aRG_0 aRG_1 aRG_2 aRG_3 aRG_4 zRG) ++ (wcS ci aRS_0 aRS_1 zRS))) s.heap.size = A at hD ⊢
  have hA : ∀ q : Nat, s.heap.size ≤ q → A q := fun q h => by rw [← hAe]; exact Or.inr h
  clear hD0 hAe
  have hl := lv_entry ([.ref aR_0]) (n := 3) (Nat.le_of_ble_eq_true rfl)
  rw [lg_entry_eq]
  generalize (lg_sl ([.ref aR_0]) ++ List.replicate (3 - (lg_sl ([.ref aR_0])).length) Slot.unset).toArray = ls at hl ⊢
  have hl : lv_has ls 3 [(0, .ref aR_0)] := hl
  have hP : va_P D vwCl ((wcR ci aR_0 aR_1 aRG_0 aRS_0 zR) ++ ((wcG ci aRG_0 aRG_1 aRG_2 aRG_3 aRG_4 zRG) ++ (wcS ci aRS_0 aRS_1 zRS))) s.heap := hP
  generalize hH0 : s.heap = H at hP ⊢
  have hS : va_S A s.heap H [] := by rw [← hH0]; exact va_S.rf
  clear hH0
  generalize ([] : List Loc) = locs at hS ⊢
  have hk_0 := hts (.fieldLink RX4 33 "HedgeWar$Reader" "at" "I") (by decide +kernel)
  have hin_RX4 : ∀ w ∈ wsX40, w ∈ wsX4_readClause := by decide +kernel
  have hk_2 := hts (.fieldLink RX4 9 "HedgeWar$Reader" "text" "[I") (by decide +kernel)
  have hk_3 := hts (.fieldLink RX4 18 "HedgeWar$Reader" "ground" "LHedgeWar$Ground;") (by decide +kernel)
  have hk_4 := hts (.fieldLink RX4 52 "HedgeWar$Ground" "fields" "I") (by decide +kernel)
  have hin_RX0 : ∀ w ∈ wsX00, w ∈ wsX4_readClause := by decide +kernel
  unfold f_X4_readClause at hF
  refine lv_aload_n hx hb dX4_readClause_0 rfl (lv_at hl 0 rfl) ?_
  refine va_get (D := D) (ci := 4) (v := .int (zR.1 4)) (C := RX4) (T := TX4) (N := 8) hx hb hts hin_RX4 hown hK hP 0 rfl rfl 4 (by decide) hk_0 (fun _ h9 => h9) rfl dX4_readClause_1 ?_
  refine lv_topi (fun v1_1 ev1_1 => ?_)
  replace hF := nm_i hF ev1_1
  refine lv_istore_n (lv' := [(1, .int v1_1), (0, .ref aR_0)]) hx hb dX4_readClause_4 rfl hl (by decide) rfl (fun ls hl => ?_)
  refine lv_aload_n hx hb dX4_readClause_5 rfl (lv_at hl 1 rfl) ?_
  refine va_get (D := D) (ci := 4) (v := .ref aR_1) (C := RX4) (T := TX4) (N := 8) hx hb hts hin_RX4 hown hK hP 0 rfl rfl 0 (by decide) hk_2 (fun _ h9 => h9) rfl dX4_readClause_6 ?_
  refine lv_aload_n hx hb dX4_readClause_9 rfl (lv_at hl 1 rfl) ?_
  refine va_get (D := D) (ci := 4) (v := .int (zR.1 4)) (C := RX4) (T := TX4) (N := 8) hx hb hts hin_RX4 hown hK hP 0 rfl rfl 4 (by decide) hk_0 (fun _ h9 => h9) rfl dX4_readClause_10 ?_
  replace hF := ald_i hF
  obtain ⟨hin_2, hF⟩ := hF
  refine va_iald hx hb hK hP 1 0 rfl rfl hin_2 dX4_readClause_13 ?_
  refine lv_topi (fun x_3 ex_3 => ?_)
  replace hF := nm_i hF ex_3
  refine lv_istore_n (lv' := [(2, .int x_3), (1, .int v1_1), (0, .ref aR_0)]) hx hb dX4_readClause_14 rfl hl (by decide) rfl (fun ls hl => ?_)
  refine lv_aload_n hx hb dX4_readClause_15 rfl (lv_at hl 2 rfl) ?_
  refine lv_dup hx hb dX4_readClause_16 rfl ?_
  refine va_get (D := D) (ci := 4) (v := .int (zR.1 4)) (C := RX4) (T := TX4) (N := 8) hx hb hts hin_RX4 hown hK hP 0 rfl rfl 4 (by decide) hk_0 (fun _ h9 => h9) rfl dX4_readClause_17 ?_
  refine lv_iconst (v := 1) hx hb dX4_readClause_20 (by decide) ?_
  refine lv_iadd hx hb dX4_readClause_21 ?_
  refine lv_topi (fun f4_4 ef4_4 => ?_)
  replace hF := nm_i hF ef4_4
  refine va_put (D := D) (ci := 4) (v := .int f4_4) (ty := .int) (C := RX4) (T := TX4) (N := 8) hx hb hts hin_RX4 tyX4 tyX4_ok nmX4 hown hK hP hD hS 0 rfl rfl 4 (by decide) hk_0 (fun _ h9 => h9) rfl (by decide +kernel) rfl rfl (Nat.le_of_ble_eq_true rfl) dX4_readClause_22 (fun H locs hP hD hS => ?_)
  obtain ⟨zR_5, ezR_5⟩ : ∃ y : RS, y = (upd zR.1 4 f4_4, zR.2) := ⟨_, rfl⟩
  replace hF := nm_i hF ezR_5
  have hP : va_P D vwCl ((wcR ci aR_0 aR_1 aRG_0 aRS_0 zR_5) ++ ((wcG ci aRG_0 aRG_1 aRG_2 aRG_3 aRG_4 zRG) ++ (wcS ci aRS_0 aRS_1 zRS))) H := by rw [ezR_5]; exact hP
  have hD : va_D A ((wcR ci aR_0 aR_1 aRG_0 aRS_0 zR_5) ++ ((wcG ci aRG_0 aRG_1 aRG_2 aRG_3 aRG_4 zRG) ++ (wcS ci aRS_0 aRS_1 zRS))) := by rw [ezR_5]; exact hD
  refine lv_aload_n hx hb dX4_readClause_25 rfl (lv_at hl 2 rfl) ?_
  refine va_get (D := D) (ci := 4) (v := .ref aRG_0) (C := RX4) (T := TX4) (N := 8) hx hb hts hin_RX4 hown hK hP 0 rfl rfl 1 (by decide) hk_3 (fun _ h9 => h9) rfl dX4_readClause_26 ?_
  refine va_get (D := D) (ci := 0) (v := .int (zRG.1 2)) (C := RX0) (T := TX0) (N := 13) hx hb hts hin_RX0 hown hK hP 2 rfl rfl 2 (by decide) hk_4 (fun _ h9 => h9) rfl dX4_readClause_29 ?_
  refine lv_if_ne (tgt := 48) hx hb dX4_readClause_32 (by decide) (fun c_6 => ?_) (fun c_6 => ?_)
  · replace hF := if_o c_6 hF
    refine lv_iload_n hx hb dX4_readClause_48 rfl (lv_at hl 0 rfl) ?_
    refine lv_topi (fun k_7 ek_7 => ?_)
    replace hF := nm_i hF ek_7
    by_cases c_8 : k_7 = 101
    · replace hF := if_i c_8 hF
      subst c_8
      refine lv_tableIn (tgt := 139) hx hb dX4_readClause_49 (by decide) (by decide) rfl (by decide) ?_
      refine lv_aload_n hx hb dX4_readClause_139 rfl (lv_at hl 2 rfl) ?_
      replace hF := bnd hF
      obtain ⟨q_12, hc_11, hF⟩ := hF
      obtain ⟨zR_9, ezR_9⟩ : ∃ y : RS, y = q_12.1 := ⟨_, rfl⟩
      replace hF := nm_i hF ezR_9
      obtain ⟨zRS_10, ezRS_10⟩ : ∃ y : SS, y = q_12.2 := ⟨_, rfl⟩
      replace hF := nm_i hF ezRS_10
      obtain rfl : q_12 = (zR_9, zRS_10) := by rw [ezR_9, ezRS_10]
      clear ezR_9
      clear ezRS_10
      refine cl_Vv0 (As := []) (rest := []) ⟨hx, hb, hml, hown, hts⟩ (cwV 0 hts gX4_readClause_X4_readOwned rfl rfl rfl (by decide +kernel) ⟨Nat.le_of_ble_eq_true rfl, Nat.le_of_ble_eq_true rfl⟩) (c_X4_readOwned l D ci aR_0 aR_1 aRG_0 aRS_0 aRG_1 aRG_2 aRG_3 aRG_4 aRS_1 H.size zR_5 zRG zRS _ hc_11) hK hP hD hS hA 0 rfl rfl rfl rfl hl.1 (Nat.le_of_ble_eq_true rfl) dX4_readClause_140 (Nat.zero_le _) (Nat.zero_le _) (fun H locs hP hD hS => ?_)
      have hP : va_P D vwCl ((wcR ci aR_0 aR_1 aRG_0 aRS_0 zR_9) ++ ((wcG ci aRG_0 aRG_1 aRG_2 aRG_3 aRG_4 zRG) ++ (wcS ci aRS_0 aRS_1 zRS_10))) H := hP
      have hD : va_D A ((wcR ci aR_0 aR_1 aRG_0 aRS_0 zR_9) ++ ((wcG ci aRG_0 aRG_1 aRG_2 aRG_3 aRG_4 zRG) ++ (wcS ci aRS_0 aRS_1 zRS_10))) := hD
      refine lv_goto (tgt := 166) hx hb dX4_readClause_143 (by decide) ?_
      refine lv_aload_n hx hb dX4_readClause_166 rfl (lv_at hl 2 rfl) ?_
      replace hF := bnd hF
      obtain ⟨zR_13, hc_14, hF⟩ := hF
      refine cl_Vv (As := []) (rest := []) (wc := (wcR ci aR_0 aR_1 aRG_0 aRS_0 zR_9)) (wr := ([2, 3, 4, 5, 6, 7, 8].filterMap (fun i => ((wcR ci aR_0 aR_1 aRG_0 aRS_0 zR_9) ++ ((wcG ci aRG_0 aRG_1 aRG_2 aRG_3 aRG_4 zRG) ++ (wcS ci aRS_0 aRS_1 zRS_10)))[i]?))) (w1 := (wcR ci aR_0 aR_1 aRG_0 aRS_0 zR_13)) (wn := ((wcR ci aR_0 aR_1 aRG_0 aRS_0 zR_13) ++ ((wcG ci aRG_0 aRG_1 aRG_2 aRG_3 aRG_4 zRG) ++ (wcS ci aRS_0 aRS_1 zRS_10)))) ⟨hx, hb, hml, hown, hts⟩ (cwV 0 hts gX4_readClause_X4_readEnd rfl rfl rfl (by decide +kernel) ⟨Nat.le_of_ble_eq_true rfl, Nat.le_of_ble_eq_true rfl⟩) (c_X4_readEnd l D ci aR_0 aR_1 aRG_0 aRS_0 H.size zR_9 _ hc_14) hK hP hD hS hA [0, 1] [2, 3, 4, 5, 6, 7, 8] [7, 8, 0, 1, 2, 3, 4, 5, 6] rfl rfl rfl (by decide) 0 rfl rfl rfl rfl hl.1 (Nat.le_of_ble_eq_true rfl) dX4_readClause_167 (Nat.zero_le _) (Nat.zero_le _) (fun H locs hP hD hS => ?_)
      have hP : va_P D vwCl ((wcR ci aR_0 aR_1 aRG_0 aRS_0 zR_13) ++ ((wcG ci aRG_0 aRG_1 aRG_2 aRG_3 aRG_4 zRG) ++ (wcS ci aRS_0 aRS_1 zRS_10))) H := hP
      have hD : va_D A ((wcR ci aR_0 aR_1 aRG_0 aRS_0 zR_13) ++ ((wcG ci aRG_0 aRG_1 aRG_2 aRG_3 aRG_4 zRG) ++ (wcS ci aRS_0 aRS_1 zRS_10))) := hD
      obtain rfl := Option.some.inj hF
      exact W.vret hx hb hr (fun t ht hW => ⟨⟨(), rfl, trivial, by rw [ht]; exact hP, va_K.moved hW.alike hK, hD⟩, hS.F ht⟩) hS.2.2 dX4_readClause_170
    replace hF := if_o c_8 hF
    by_cases c_15 : k_7 = 102
    · replace hF := if_i c_15 hF
      subst c_15
      refine lv_tableIn (tgt := 160) hx hb dX4_readClause_49 (by decide) (by decide) rfl (by decide) ?_
      refine lv_aload_n hx hb dX4_readClause_160 rfl (lv_at hl 2 rfl) ?_
      refine lv_iconst (v := 1) hx hb dX4_readClause_161 (by decide) ?_
      refine lv_iload_n hx hb dX4_readClause_162 rfl (lv_at hl 1 rfl) ?_
      replace hF := bnd hF
      obtain ⟨zR_16, hc_17, hF⟩ := hF
      refine cl_Vv (As := [.int 1, .int v1_1]) (rest := []) (wc := (wcR ci aR_0 aR_1 aRG_0 aRS_0 zR_5)) (wr := ([2, 3, 4, 5, 6, 7, 8].filterMap (fun i => ((wcR ci aR_0 aR_1 aRG_0 aRS_0 zR_5) ++ ((wcG ci aRG_0 aRG_1 aRG_2 aRG_3 aRG_4 zRG) ++ (wcS ci aRS_0 aRS_1 zRS)))[i]?))) (w1 := (wcR ci aR_0 aR_1 aRG_0 aRS_0 zR_16)) (wn := ((wcR ci aR_0 aR_1 aRG_0 aRS_0 zR_16) ++ ((wcG ci aRG_0 aRG_1 aRG_2 aRG_3 aRG_4 zRG) ++ (wcS ci aRS_0 aRS_1 zRS)))) ⟨hx, hb, hml, hown, hts⟩ (cwV 2 hts gX4_readClause_X4_fail rfl rfl rfl (by decide +kernel) ⟨Nat.le_of_ble_eq_true rfl, Nat.le_of_ble_eq_true rfl⟩) (c_X4_fail l D ci aR_0 aR_1 aRG_0 aRS_0 H.size zR_5 (1 : Int32) v1_1 _ hc_17) hK hP hD hS hA [0, 1] [2, 3, 4, 5, 6, 7, 8] [7, 8, 0, 1, 2, 3, 4, 5, 6] rfl rfl rfl (by decide) 0 rfl rfl rfl rfl hl.1 (Nat.le_of_ble_eq_true rfl) dX4_readClause_163 (Nat.zero_le _) (Nat.zero_le _) (fun H locs hP hD hS => ?_)
      have hP : va_P D vwCl ((wcR ci aR_0 aR_1 aRG_0 aRS_0 zR_16) ++ ((wcG ci aRG_0 aRG_1 aRG_2 aRG_3 aRG_4 zRG) ++ (wcS ci aRS_0 aRS_1 zRS))) H := hP
      have hD : va_D A ((wcR ci aR_0 aR_1 aRG_0 aRS_0 zR_16) ++ ((wcG ci aRG_0 aRG_1 aRG_2 aRG_3 aRG_4 zRG) ++ (wcS ci aRS_0 aRS_1 zRS))) := hD
      refine lv_aload_n hx hb dX4_readClause_166 rfl (lv_at hl 2 rfl) ?_
      replace hF := bnd hF
      obtain ⟨zR_18, hc_19, hF⟩ := hF
      refine cl_Vv (As := []) (rest := []) (wc := (wcR ci aR_0 aR_1 aRG_0 aRS_0 zR_16)) (wr := ([2, 3, 4, 5, 6, 7, 8].filterMap (fun i => ((wcR ci aR_0 aR_1 aRG_0 aRS_0 zR_16) ++ ((wcG ci aRG_0 aRG_1 aRG_2 aRG_3 aRG_4 zRG) ++ (wcS ci aRS_0 aRS_1 zRS)))[i]?))) (w1 := (wcR ci aR_0 aR_1 aRG_0 aRS_0 zR_18)) (wn := ((wcR ci aR_0 aR_1 aRG_0 aRS_0 zR_18) ++ ((wcG ci aRG_0 aRG_1 aRG_2 aRG_3 aRG_4 zRG) ++ (wcS ci aRS_0 aRS_1 zRS)))) ⟨hx, hb, hml, hown, hts⟩ (cwV 0 hts gX4_readClause_X4_readEnd rfl rfl rfl (by decide +kernel) ⟨Nat.le_of_ble_eq_true rfl, Nat.le_of_ble_eq_true rfl⟩) (c_X4_readEnd l D ci aR_0 aR_1 aRG_0 aRS_0 H.size zR_16 _ hc_19) hK hP hD hS hA [0, 1] [2, 3, 4, 5, 6, 7, 8] [7, 8, 0, 1, 2, 3, 4, 5, 6] rfl rfl rfl (by decide) 0 rfl rfl rfl rfl hl.1 (Nat.le_of_ble_eq_true rfl) dX4_readClause_167 (Nat.zero_le _) (Nat.zero_le _) (fun H locs hP hD hS => ?_)
      have hP : va_P D vwCl ((wcR ci aR_0 aR_1 aRG_0 aRS_0 zR_18) ++ ((wcG ci aRG_0 aRG_1 aRG_2 aRG_3 aRG_4 zRG) ++ (wcS ci aRS_0 aRS_1 zRS))) H := hP
      have hD : va_D A ((wcR ci aR_0 aR_1 aRG_0 aRS_0 zR_18) ++ ((wcG ci aRG_0 aRG_1 aRG_2 aRG_3 aRG_4 zRG) ++ (wcS ci aRS_0 aRS_1 zRS))) := hD
      obtain rfl := Option.some.inj hF
      exact W.vret hx hb hr (fun t ht hW => ⟨⟨(), rfl, trivial, by rw [ht]; exact hP, va_K.moved hW.alike hK, hD⟩, hS.F ht⟩) hS.2.2 dX4_readClause_170
    replace hF := if_o c_15 hF
    by_cases c_20 : k_7 = 103
    · replace hF := if_i c_20 hF
      subst c_20
      refine lv_tableIn (tgt := 124) hx hb dX4_readClause_49 (by decide) (by decide) rfl (by decide) ?_
      refine lv_aload_n hx hb dX4_readClause_124 rfl (lv_at hl 2 rfl) ?_
      refine lv_iload_n hx hb dX4_readClause_125 rfl (lv_at hl 1 rfl) ?_
      replace hF := bnd hF
      obtain ⟨q_24, hc_23, hF⟩ := hF
      obtain ⟨zR_21, ezR_21⟩ : ∃ y : RS, y = q_24.1 := ⟨_, rfl⟩
      replace hF := nm_i hF ezR_21
      obtain ⟨zRG_22, ezRG_22⟩ : ∃ y : GS, y = q_24.2 := ⟨_, rfl⟩
      replace hF := nm_i hF ezRG_22
      obtain rfl : q_24 = (zR_21, zRG_22) := by rw [ezR_21, ezRG_22]
      clear ezR_21
      clear ezRG_22
      refine cl_Vv (As := [.int v1_1]) (rest := []) (wc := ((wcR ci aR_0 aR_1 aRG_0 aRS_0 zR_5) ++ (wcG ci aRG_0 aRG_1 aRG_2 aRG_3 aRG_4 zRG))) (wr := ([7, 8].filterMap (fun i => ((wcR ci aR_0 aR_1 aRG_0 aRS_0 zR_5) ++ ((wcG ci aRG_0 aRG_1 aRG_2 aRG_3 aRG_4 zRG) ++ (wcS ci aRS_0 aRS_1 zRS)))[i]?))) (w1 := ((wcR ci aR_0 aR_1 aRG_0 aRS_0 zR_21) ++ (wcG ci aRG_0 aRG_1 aRG_2 aRG_3 aRG_4 zRG_22))) (wn := ((wcR ci aR_0 aR_1 aRG_0 aRS_0 zR_21) ++ ((wcG ci aRG_0 aRG_1 aRG_2 aRG_3 aRG_4 zRG_22) ++ (wcS ci aRS_0 aRS_1 zRS)))) ⟨hx, hb, hml, hown, hts⟩ (cwV 1 hts gX4_readClause_X4_readGround rfl rfl rfl (by decide +kernel) ⟨Nat.le_of_ble_eq_true rfl, Nat.le_of_ble_eq_true rfl⟩) (c_X4_readGround l D ci aR_0 aR_1 aRG_0 aRS_0 aRG_1 aRG_2 aRG_3 aRG_4 H.size zR_5 zRG v1_1 _ hc_23) hK hP hD hS hA [0, 1, 2, 3, 4, 5, 6] [7, 8] [2, 3, 4, 5, 6, 7, 8, 0, 1] rfl rfl rfl (by decide) 0 rfl rfl rfl rfl hl.1 (Nat.le_of_ble_eq_true rfl) dX4_readClause_126 (Nat.zero_le _) (Nat.zero_le _) (fun H locs hP hD hS => ?_)
      have hP : va_P D vwCl ((wcR ci aR_0 aR_1 aRG_0 aRS_0 zR_21) ++ ((wcG ci aRG_0 aRG_1 aRG_2 aRG_3 aRG_4 zRG_22) ++ (wcS ci aRS_0 aRS_1 zRS))) H := hP
      have hD : va_D A ((wcR ci aR_0 aR_1 aRG_0 aRS_0 zR_21) ++ ((wcG ci aRG_0 aRG_1 aRG_2 aRG_3 aRG_4 zRG_22) ++ (wcS ci aRS_0 aRS_1 zRS))) := hD
      refine lv_goto (tgt := 166) hx hb dX4_readClause_129 (by decide) ?_
      refine lv_aload_n hx hb dX4_readClause_166 rfl (lv_at hl 2 rfl) ?_
      replace hF := bnd hF
      obtain ⟨zR_25, hc_26, hF⟩ := hF
      refine cl_Vv (As := []) (rest := []) (wc := (wcR ci aR_0 aR_1 aRG_0 aRS_0 zR_21)) (wr := ([2, 3, 4, 5, 6, 7, 8].filterMap (fun i => ((wcR ci aR_0 aR_1 aRG_0 aRS_0 zR_21) ++ ((wcG ci aRG_0 aRG_1 aRG_2 aRG_3 aRG_4 zRG_22) ++ (wcS ci aRS_0 aRS_1 zRS)))[i]?))) (w1 := (wcR ci aR_0 aR_1 aRG_0 aRS_0 zR_25)) (wn := ((wcR ci aR_0 aR_1 aRG_0 aRS_0 zR_25) ++ ((wcG ci aRG_0 aRG_1 aRG_2 aRG_3 aRG_4 zRG_22) ++ (wcS ci aRS_0 aRS_1 zRS)))) ⟨hx, hb, hml, hown, hts⟩ (cwV 0 hts gX4_readClause_X4_readEnd rfl rfl rfl (by decide +kernel) ⟨Nat.le_of_ble_eq_true rfl, Nat.le_of_ble_eq_true rfl⟩) (c_X4_readEnd l D ci aR_0 aR_1 aRG_0 aRS_0 H.size zR_21 _ hc_26) hK hP hD hS hA [0, 1] [2, 3, 4, 5, 6, 7, 8] [7, 8, 0, 1, 2, 3, 4, 5, 6] rfl rfl rfl (by decide) 0 rfl rfl rfl rfl hl.1 (Nat.le_of_ble_eq_true rfl) dX4_readClause_167 (Nat.zero_le _) (Nat.zero_le _) (fun H locs hP hD hS => ?_)
      have hP : va_P D vwCl ((wcR ci aR_0 aR_1 aRG_0 aRS_0 zR_25) ++ ((wcG ci aRG_0 aRG_1 aRG_2 aRG_3 aRG_4 zRG_22) ++ (wcS ci aRS_0 aRS_1 zRS))) H := hP
      have hD : va_D A ((wcR ci aR_0 aR_1 aRG_0 aRS_0 zR_25) ++ ((wcG ci aRG_0 aRG_1 aRG_2 aRG_3 aRG_4 zRG_22) ++ (wcS ci aRS_0 aRS_1 zRS))) := hD
      obtain rfl := Option.some.inj hF
      exact W.vret hx hb hr (fun t ht hW => ⟨⟨(), rfl, trivial, by rw [ht]; exact hP, va_K.moved hW.alike hK, hD⟩, hS.F ht⟩) hS.2.2 dX4_readClause_170
    replace hF := if_o c_20 hF
    by_cases c_27 : k_7 = 104
    · replace hF := if_i c_27 hF
      subst c_27
      refine lv_tableIn (tgt := 153) hx hb dX4_readClause_49 (by decide) (by decide) rfl (by decide) ?_
      refine lv_aload_n hx hb dX4_readClause_153 rfl (lv_at hl 2 rfl) ?_
      replace hF := bnd hF
      obtain ⟨q_31, hc_30, hF⟩ := hF
      obtain ⟨zR_28, ezR_28⟩ : ∃ y : RS, y = q_31.1 := ⟨_, rfl⟩
      replace hF := nm_i hF ezR_28
      obtain ⟨zRS_29, ezRS_29⟩ : ∃ y : SS, y = q_31.2 := ⟨_, rfl⟩
      replace hF := nm_i hF ezRS_29
      obtain rfl : q_31 = (zR_28, zRS_29) := by rw [ezR_28, ezRS_29]
      clear ezR_28
      clear ezRS_29
      refine cl_Vv0 (As := []) (rest := []) ⟨hx, hb, hml, hown, hts⟩ (cwV 0 hts gX4_readClause_X4_readHedge rfl rfl rfl (by decide +kernel) ⟨Nat.le_of_ble_eq_true rfl, Nat.le_of_ble_eq_true rfl⟩) (c_X4_readHedge l D ci aR_0 aR_1 aRG_0 aRS_0 aRG_1 aRG_2 aRG_3 aRG_4 aRS_1 H.size zR_5 zRG zRS _ hc_30) hK hP hD hS hA 0 rfl rfl rfl rfl hl.1 (Nat.le_of_ble_eq_true rfl) dX4_readClause_154 (Nat.zero_le _) (Nat.zero_le _) (fun H locs hP hD hS => ?_)
      have hP : va_P D vwCl ((wcR ci aR_0 aR_1 aRG_0 aRS_0 zR_28) ++ ((wcG ci aRG_0 aRG_1 aRG_2 aRG_3 aRG_4 zRG) ++ (wcS ci aRS_0 aRS_1 zRS_29))) H := hP
      have hD : va_D A ((wcR ci aR_0 aR_1 aRG_0 aRS_0 zR_28) ++ ((wcG ci aRG_0 aRG_1 aRG_2 aRG_3 aRG_4 zRG) ++ (wcS ci aRS_0 aRS_1 zRS_29))) := hD
      refine lv_goto (tgt := 166) hx hb dX4_readClause_157 (by decide) ?_
      refine lv_aload_n hx hb dX4_readClause_166 rfl (lv_at hl 2 rfl) ?_
      replace hF := bnd hF
      obtain ⟨zR_32, hc_33, hF⟩ := hF
      refine cl_Vv (As := []) (rest := []) (wc := (wcR ci aR_0 aR_1 aRG_0 aRS_0 zR_28)) (wr := ([2, 3, 4, 5, 6, 7, 8].filterMap (fun i => ((wcR ci aR_0 aR_1 aRG_0 aRS_0 zR_28) ++ ((wcG ci aRG_0 aRG_1 aRG_2 aRG_3 aRG_4 zRG) ++ (wcS ci aRS_0 aRS_1 zRS_29)))[i]?))) (w1 := (wcR ci aR_0 aR_1 aRG_0 aRS_0 zR_32)) (wn := ((wcR ci aR_0 aR_1 aRG_0 aRS_0 zR_32) ++ ((wcG ci aRG_0 aRG_1 aRG_2 aRG_3 aRG_4 zRG) ++ (wcS ci aRS_0 aRS_1 zRS_29)))) ⟨hx, hb, hml, hown, hts⟩ (cwV 0 hts gX4_readClause_X4_readEnd rfl rfl rfl (by decide +kernel) ⟨Nat.le_of_ble_eq_true rfl, Nat.le_of_ble_eq_true rfl⟩) (c_X4_readEnd l D ci aR_0 aR_1 aRG_0 aRS_0 H.size zR_28 _ hc_33) hK hP hD hS hA [0, 1] [2, 3, 4, 5, 6, 7, 8] [7, 8, 0, 1, 2, 3, 4, 5, 6] rfl rfl rfl (by decide) 0 rfl rfl rfl rfl hl.1 (Nat.le_of_ble_eq_true rfl) dX4_readClause_167 (Nat.zero_le _) (Nat.zero_le _) (fun H locs hP hD hS => ?_)
      have hP : va_P D vwCl ((wcR ci aR_0 aR_1 aRG_0 aRS_0 zR_32) ++ ((wcG ci aRG_0 aRG_1 aRG_2 aRG_3 aRG_4 zRG) ++ (wcS ci aRS_0 aRS_1 zRS_29))) H := hP
      have hD : va_D A ((wcR ci aR_0 aR_1 aRG_0 aRS_0 zR_32) ++ ((wcG ci aRG_0 aRG_1 aRG_2 aRG_3 aRG_4 zRG) ++ (wcS ci aRS_0 aRS_1 zRS_29))) := hD
      obtain rfl := Option.some.inj hF
      exact W.vret hx hb hr (fun t ht hW => ⟨⟨(), rfl, trivial, by rw [ht]; exact hP, va_K.moved hW.alike hK, hD⟩, hS.F ht⟩) hS.2.2 dX4_readClause_170
    replace hF := if_o c_27 hF
    by_cases c_34 : k_7 = 105
    · replace hF := if_i c_34 hF
      subst c_34
      refine lv_tableIn (tgt := 160) hx hb dX4_readClause_49 (by decide) (by decide) rfl (by decide) ?_
      refine lv_aload_n hx hb dX4_readClause_160 rfl (lv_at hl 2 rfl) ?_
      refine lv_iconst (v := 1) hx hb dX4_readClause_161 (by decide) ?_
      refine lv_iload_n hx hb dX4_readClause_162 rfl (lv_at hl 1 rfl) ?_
      replace hF := bnd hF
      obtain ⟨zR_35, hc_36, hF⟩ := hF
      refine cl_Vv (As := [.int 1, .int v1_1]) (rest := []) (wc := (wcR ci aR_0 aR_1 aRG_0 aRS_0 zR_5)) (wr := ([2, 3, 4, 5, 6, 7, 8].filterMap (fun i => ((wcR ci aR_0 aR_1 aRG_0 aRS_0 zR_5) ++ ((wcG ci aRG_0 aRG_1 aRG_2 aRG_3 aRG_4 zRG) ++ (wcS ci aRS_0 aRS_1 zRS)))[i]?))) (w1 := (wcR ci aR_0 aR_1 aRG_0 aRS_0 zR_35)) (wn := ((wcR ci aR_0 aR_1 aRG_0 aRS_0 zR_35) ++ ((wcG ci aRG_0 aRG_1 aRG_2 aRG_3 aRG_4 zRG) ++ (wcS ci aRS_0 aRS_1 zRS)))) ⟨hx, hb, hml, hown, hts⟩ (cwV 2 hts gX4_readClause_X4_fail rfl rfl rfl (by decide +kernel) ⟨Nat.le_of_ble_eq_true rfl, Nat.le_of_ble_eq_true rfl⟩) (c_X4_fail l D ci aR_0 aR_1 aRG_0 aRS_0 H.size zR_5 (1 : Int32) v1_1 _ hc_36) hK hP hD hS hA [0, 1] [2, 3, 4, 5, 6, 7, 8] [7, 8, 0, 1, 2, 3, 4, 5, 6] rfl rfl rfl (by decide) 0 rfl rfl rfl rfl hl.1 (Nat.le_of_ble_eq_true rfl) dX4_readClause_163 (Nat.zero_le _) (Nat.zero_le _) (fun H locs hP hD hS => ?_)
      have hP : va_P D vwCl ((wcR ci aR_0 aR_1 aRG_0 aRS_0 zR_35) ++ ((wcG ci aRG_0 aRG_1 aRG_2 aRG_3 aRG_4 zRG) ++ (wcS ci aRS_0 aRS_1 zRS))) H := hP
      have hD : va_D A ((wcR ci aR_0 aR_1 aRG_0 aRS_0 zR_35) ++ ((wcG ci aRG_0 aRG_1 aRG_2 aRG_3 aRG_4 zRG) ++ (wcS ci aRS_0 aRS_1 zRS))) := hD
      refine lv_aload_n hx hb dX4_readClause_166 rfl (lv_at hl 2 rfl) ?_
      replace hF := bnd hF
      obtain ⟨zR_37, hc_38, hF⟩ := hF
      refine cl_Vv (As := []) (rest := []) (wc := (wcR ci aR_0 aR_1 aRG_0 aRS_0 zR_35)) (wr := ([2, 3, 4, 5, 6, 7, 8].filterMap (fun i => ((wcR ci aR_0 aR_1 aRG_0 aRS_0 zR_35) ++ ((wcG ci aRG_0 aRG_1 aRG_2 aRG_3 aRG_4 zRG) ++ (wcS ci aRS_0 aRS_1 zRS)))[i]?))) (w1 := (wcR ci aR_0 aR_1 aRG_0 aRS_0 zR_37)) (wn := ((wcR ci aR_0 aR_1 aRG_0 aRS_0 zR_37) ++ ((wcG ci aRG_0 aRG_1 aRG_2 aRG_3 aRG_4 zRG) ++ (wcS ci aRS_0 aRS_1 zRS)))) ⟨hx, hb, hml, hown, hts⟩ (cwV 0 hts gX4_readClause_X4_readEnd rfl rfl rfl (by decide +kernel) ⟨Nat.le_of_ble_eq_true rfl, Nat.le_of_ble_eq_true rfl⟩) (c_X4_readEnd l D ci aR_0 aR_1 aRG_0 aRS_0 H.size zR_35 _ hc_38) hK hP hD hS hA [0, 1] [2, 3, 4, 5, 6, 7, 8] [7, 8, 0, 1, 2, 3, 4, 5, 6] rfl rfl rfl (by decide) 0 rfl rfl rfl rfl hl.1 (Nat.le_of_ble_eq_true rfl) dX4_readClause_167 (Nat.zero_le _) (Nat.zero_le _) (fun H locs hP hD hS => ?_)
      have hP : va_P D vwCl ((wcR ci aR_0 aR_1 aRG_0 aRS_0 zR_37) ++ ((wcG ci aRG_0 aRG_1 aRG_2 aRG_3 aRG_4 zRG) ++ (wcS ci aRS_0 aRS_1 zRS))) H := hP
      have hD : va_D A ((wcR ci aR_0 aR_1 aRG_0 aRS_0 zR_37) ++ ((wcG ci aRG_0 aRG_1 aRG_2 aRG_3 aRG_4 zRG) ++ (wcS ci aRS_0 aRS_1 zRS))) := hD
      obtain rfl := Option.some.inj hF
      exact W.vret hx hb hr (fun t ht hW => ⟨⟨(), rfl, trivial, by rw [ht]; exact hP, va_K.moved hW.alike hK, hD⟩, hS.F ht⟩) hS.2.2 dX4_readClause_170
    replace hF := if_o c_34 hF
    by_cases c_39 : k_7 = 106
    · replace hF := if_i c_39 hF
      subst c_39
      refine lv_tableIn (tgt := 160) hx hb dX4_readClause_49 (by decide) (by decide) rfl (by decide) ?_
      refine lv_aload_n hx hb dX4_readClause_160 rfl (lv_at hl 2 rfl) ?_
      refine lv_iconst (v := 1) hx hb dX4_readClause_161 (by decide) ?_
      refine lv_iload_n hx hb dX4_readClause_162 rfl (lv_at hl 1 rfl) ?_
      replace hF := bnd hF
      obtain ⟨zR_40, hc_41, hF⟩ := hF
      refine cl_Vv (As := [.int 1, .int v1_1]) (rest := []) (wc := (wcR ci aR_0 aR_1 aRG_0 aRS_0 zR_5)) (wr := ([2, 3, 4, 5, 6, 7, 8].filterMap (fun i => ((wcR ci aR_0 aR_1 aRG_0 aRS_0 zR_5) ++ ((wcG ci aRG_0 aRG_1 aRG_2 aRG_3 aRG_4 zRG) ++ (wcS ci aRS_0 aRS_1 zRS)))[i]?))) (w1 := (wcR ci aR_0 aR_1 aRG_0 aRS_0 zR_40)) (wn := ((wcR ci aR_0 aR_1 aRG_0 aRS_0 zR_40) ++ ((wcG ci aRG_0 aRG_1 aRG_2 aRG_3 aRG_4 zRG) ++ (wcS ci aRS_0 aRS_1 zRS)))) ⟨hx, hb, hml, hown, hts⟩ (cwV 2 hts gX4_readClause_X4_fail rfl rfl rfl (by decide +kernel) ⟨Nat.le_of_ble_eq_true rfl, Nat.le_of_ble_eq_true rfl⟩) (c_X4_fail l D ci aR_0 aR_1 aRG_0 aRS_0 H.size zR_5 (1 : Int32) v1_1 _ hc_41) hK hP hD hS hA [0, 1] [2, 3, 4, 5, 6, 7, 8] [7, 8, 0, 1, 2, 3, 4, 5, 6] rfl rfl rfl (by decide) 0 rfl rfl rfl rfl hl.1 (Nat.le_of_ble_eq_true rfl) dX4_readClause_163 (Nat.zero_le _) (Nat.zero_le _) (fun H locs hP hD hS => ?_)
      have hP : va_P D vwCl ((wcR ci aR_0 aR_1 aRG_0 aRS_0 zR_40) ++ ((wcG ci aRG_0 aRG_1 aRG_2 aRG_3 aRG_4 zRG) ++ (wcS ci aRS_0 aRS_1 zRS))) H := hP
      have hD : va_D A ((wcR ci aR_0 aR_1 aRG_0 aRS_0 zR_40) ++ ((wcG ci aRG_0 aRG_1 aRG_2 aRG_3 aRG_4 zRG) ++ (wcS ci aRS_0 aRS_1 zRS))) := hD
      refine lv_aload_n hx hb dX4_readClause_166 rfl (lv_at hl 2 rfl) ?_
      replace hF := bnd hF
      obtain ⟨zR_42, hc_43, hF⟩ := hF
      refine cl_Vv (As := []) (rest := []) (wc := (wcR ci aR_0 aR_1 aRG_0 aRS_0 zR_40)) (wr := ([2, 3, 4, 5, 6, 7, 8].filterMap (fun i => ((wcR ci aR_0 aR_1 aRG_0 aRS_0 zR_40) ++ ((wcG ci aRG_0 aRG_1 aRG_2 aRG_3 aRG_4 zRG) ++ (wcS ci aRS_0 aRS_1 zRS)))[i]?))) (w1 := (wcR ci aR_0 aR_1 aRG_0 aRS_0 zR_42)) (wn := ((wcR ci aR_0 aR_1 aRG_0 aRS_0 zR_42) ++ ((wcG ci aRG_0 aRG_1 aRG_2 aRG_3 aRG_4 zRG) ++ (wcS ci aRS_0 aRS_1 zRS)))) ⟨hx, hb, hml, hown, hts⟩ (cwV 0 hts gX4_readClause_X4_readEnd rfl rfl rfl (by decide +kernel) ⟨Nat.le_of_ble_eq_true rfl, Nat.le_of_ble_eq_true rfl⟩) (c_X4_readEnd l D ci aR_0 aR_1 aRG_0 aRS_0 H.size zR_40 _ hc_43) hK hP hD hS hA [0, 1] [2, 3, 4, 5, 6, 7, 8] [7, 8, 0, 1, 2, 3, 4, 5, 6] rfl rfl rfl (by decide) 0 rfl rfl rfl rfl hl.1 (Nat.le_of_ble_eq_true rfl) dX4_readClause_167 (Nat.zero_le _) (Nat.zero_le _) (fun H locs hP hD hS => ?_)
      have hP : va_P D vwCl ((wcR ci aR_0 aR_1 aRG_0 aRS_0 zR_42) ++ ((wcG ci aRG_0 aRG_1 aRG_2 aRG_3 aRG_4 zRG) ++ (wcS ci aRS_0 aRS_1 zRS))) H := hP
      have hD : va_D A ((wcR ci aR_0 aR_1 aRG_0 aRS_0 zR_42) ++ ((wcG ci aRG_0 aRG_1 aRG_2 aRG_3 aRG_4 zRG) ++ (wcS ci aRS_0 aRS_1 zRS))) := hD
      obtain rfl := Option.some.inj hF
      exact W.vret hx hb hr (fun t ht hW => ⟨⟨(), rfl, trivial, by rw [ht]; exact hP, va_K.moved hW.alike hK, hD⟩, hS.F ht⟩) hS.2.2 dX4_readClause_170
    replace hF := if_o c_39 hF
    by_cases c_44 : k_7 = 107
    · replace hF := if_i c_44 hF
      subst c_44
      refine lv_tableIn (tgt := 160) hx hb dX4_readClause_49 (by decide) (by decide) rfl (by decide) ?_
      refine lv_aload_n hx hb dX4_readClause_160 rfl (lv_at hl 2 rfl) ?_
      refine lv_iconst (v := 1) hx hb dX4_readClause_161 (by decide) ?_
      refine lv_iload_n hx hb dX4_readClause_162 rfl (lv_at hl 1 rfl) ?_
      replace hF := bnd hF
      obtain ⟨zR_45, hc_46, hF⟩ := hF
      refine cl_Vv (As := [.int 1, .int v1_1]) (rest := []) (wc := (wcR ci aR_0 aR_1 aRG_0 aRS_0 zR_5)) (wr := ([2, 3, 4, 5, 6, 7, 8].filterMap (fun i => ((wcR ci aR_0 aR_1 aRG_0 aRS_0 zR_5) ++ ((wcG ci aRG_0 aRG_1 aRG_2 aRG_3 aRG_4 zRG) ++ (wcS ci aRS_0 aRS_1 zRS)))[i]?))) (w1 := (wcR ci aR_0 aR_1 aRG_0 aRS_0 zR_45)) (wn := ((wcR ci aR_0 aR_1 aRG_0 aRS_0 zR_45) ++ ((wcG ci aRG_0 aRG_1 aRG_2 aRG_3 aRG_4 zRG) ++ (wcS ci aRS_0 aRS_1 zRS)))) ⟨hx, hb, hml, hown, hts⟩ (cwV 2 hts gX4_readClause_X4_fail rfl rfl rfl (by decide +kernel) ⟨Nat.le_of_ble_eq_true rfl, Nat.le_of_ble_eq_true rfl⟩) (c_X4_fail l D ci aR_0 aR_1 aRG_0 aRS_0 H.size zR_5 (1 : Int32) v1_1 _ hc_46) hK hP hD hS hA [0, 1] [2, 3, 4, 5, 6, 7, 8] [7, 8, 0, 1, 2, 3, 4, 5, 6] rfl rfl rfl (by decide) 0 rfl rfl rfl rfl hl.1 (Nat.le_of_ble_eq_true rfl) dX4_readClause_163 (Nat.zero_le _) (Nat.zero_le _) (fun H locs hP hD hS => ?_)
      have hP : va_P D vwCl ((wcR ci aR_0 aR_1 aRG_0 aRS_0 zR_45) ++ ((wcG ci aRG_0 aRG_1 aRG_2 aRG_3 aRG_4 zRG) ++ (wcS ci aRS_0 aRS_1 zRS))) H := hP
      have hD : va_D A ((wcR ci aR_0 aR_1 aRG_0 aRS_0 zR_45) ++ ((wcG ci aRG_0 aRG_1 aRG_2 aRG_3 aRG_4 zRG) ++ (wcS ci aRS_0 aRS_1 zRS))) := hD
      refine lv_aload_n hx hb dX4_readClause_166 rfl (lv_at hl 2 rfl) ?_
      replace hF := bnd hF
      obtain ⟨zR_47, hc_48, hF⟩ := hF
      refine cl_Vv (As := []) (rest := []) (wc := (wcR ci aR_0 aR_1 aRG_0 aRS_0 zR_45)) (wr := ([2, 3, 4, 5, 6, 7, 8].filterMap (fun i => ((wcR ci aR_0 aR_1 aRG_0 aRS_0 zR_45) ++ ((wcG ci aRG_0 aRG_1 aRG_2 aRG_3 aRG_4 zRG) ++ (wcS ci aRS_0 aRS_1 zRS)))[i]?))) (w1 := (wcR ci aR_0 aR_1 aRG_0 aRS_0 zR_47)) (wn := ((wcR ci aR_0 aR_1 aRG_0 aRS_0 zR_47) ++ ((wcG ci aRG_0 aRG_1 aRG_2 aRG_3 aRG_4 zRG) ++ (wcS ci aRS_0 aRS_1 zRS)))) ⟨hx, hb, hml, hown, hts⟩ (cwV 0 hts gX4_readClause_X4_readEnd rfl rfl rfl (by decide +kernel) ⟨Nat.le_of_ble_eq_true rfl, Nat.le_of_ble_eq_true rfl⟩) (c_X4_readEnd l D ci aR_0 aR_1 aRG_0 aRS_0 H.size zR_45 _ hc_48) hK hP hD hS hA [0, 1] [2, 3, 4, 5, 6, 7, 8] [7, 8, 0, 1, 2, 3, 4, 5, 6] rfl rfl rfl (by decide) 0 rfl rfl rfl rfl hl.1 (Nat.le_of_ble_eq_true rfl) dX4_readClause_167 (Nat.zero_le _) (Nat.zero_le _) (fun H locs hP hD hS => ?_)
      have hP : va_P D vwCl ((wcR ci aR_0 aR_1 aRG_0 aRS_0 zR_47) ++ ((wcG ci aRG_0 aRG_1 aRG_2 aRG_3 aRG_4 zRG) ++ (wcS ci aRS_0 aRS_1 zRS))) H := hP
      have hD : va_D A ((wcR ci aR_0 aR_1 aRG_0 aRS_0 zR_47) ++ ((wcG ci aRG_0 aRG_1 aRG_2 aRG_3 aRG_4 zRG) ++ (wcS ci aRS_0 aRS_1 zRS))) := hD
      obtain rfl := Option.some.inj hF
      exact W.vret hx hb hr (fun t ht hW => ⟨⟨(), rfl, trivial, by rw [ht]; exact hP, va_K.moved hW.alike hK, hD⟩, hS.F ht⟩) hS.2.2 dX4_readClause_170
    replace hF := if_o c_44 hF
    by_cases c_49 : k_7 = 108
    · replace hF := if_i c_49 hF
      subst c_49
      refine lv_tableIn (tgt := 160) hx hb dX4_readClause_49 (by decide) (by decide) rfl (by decide) ?_
      refine lv_aload_n hx hb dX4_readClause_160 rfl (lv_at hl 2 rfl) ?_
      refine lv_iconst (v := 1) hx hb dX4_readClause_161 (by decide) ?_
      refine lv_iload_n hx hb dX4_readClause_162 rfl (lv_at hl 1 rfl) ?_
      replace hF := bnd hF
      obtain ⟨zR_50, hc_51, hF⟩ := hF
      refine cl_Vv (As := [.int 1, .int v1_1]) (rest := []) (wc := (wcR ci aR_0 aR_1 aRG_0 aRS_0 zR_5)) (wr := ([2, 3, 4, 5, 6, 7, 8].filterMap (fun i => ((wcR ci aR_0 aR_1 aRG_0 aRS_0 zR_5) ++ ((wcG ci aRG_0 aRG_1 aRG_2 aRG_3 aRG_4 zRG) ++ (wcS ci aRS_0 aRS_1 zRS)))[i]?))) (w1 := (wcR ci aR_0 aR_1 aRG_0 aRS_0 zR_50)) (wn := ((wcR ci aR_0 aR_1 aRG_0 aRS_0 zR_50) ++ ((wcG ci aRG_0 aRG_1 aRG_2 aRG_3 aRG_4 zRG) ++ (wcS ci aRS_0 aRS_1 zRS)))) ⟨hx, hb, hml, hown, hts⟩ (cwV 2 hts gX4_readClause_X4_fail rfl rfl rfl (by decide +kernel) ⟨Nat.le_of_ble_eq_true rfl, Nat.le_of_ble_eq_true rfl⟩) (c_X4_fail l D ci aR_0 aR_1 aRG_0 aRS_0 H.size zR_5 (1 : Int32) v1_1 _ hc_51) hK hP hD hS hA [0, 1] [2, 3, 4, 5, 6, 7, 8] [7, 8, 0, 1, 2, 3, 4, 5, 6] rfl rfl rfl (by decide) 0 rfl rfl rfl rfl hl.1 (Nat.le_of_ble_eq_true rfl) dX4_readClause_163 (Nat.zero_le _) (Nat.zero_le _) (fun H locs hP hD hS => ?_)
      have hP : va_P D vwCl ((wcR ci aR_0 aR_1 aRG_0 aRS_0 zR_50) ++ ((wcG ci aRG_0 aRG_1 aRG_2 aRG_3 aRG_4 zRG) ++ (wcS ci aRS_0 aRS_1 zRS))) H := hP
      have hD : va_D A ((wcR ci aR_0 aR_1 aRG_0 aRS_0 zR_50) ++ ((wcG ci aRG_0 aRG_1 aRG_2 aRG_3 aRG_4 zRG) ++ (wcS ci aRS_0 aRS_1 zRS))) := hD
      refine lv_aload_n hx hb dX4_readClause_166 rfl (lv_at hl 2 rfl) ?_
      replace hF := bnd hF
      obtain ⟨zR_52, hc_53, hF⟩ := hF
      refine cl_Vv (As := []) (rest := []) (wc := (wcR ci aR_0 aR_1 aRG_0 aRS_0 zR_50)) (wr := ([2, 3, 4, 5, 6, 7, 8].filterMap (fun i => ((wcR ci aR_0 aR_1 aRG_0 aRS_0 zR_50) ++ ((wcG ci aRG_0 aRG_1 aRG_2 aRG_3 aRG_4 zRG) ++ (wcS ci aRS_0 aRS_1 zRS)))[i]?))) (w1 := (wcR ci aR_0 aR_1 aRG_0 aRS_0 zR_52)) (wn := ((wcR ci aR_0 aR_1 aRG_0 aRS_0 zR_52) ++ ((wcG ci aRG_0 aRG_1 aRG_2 aRG_3 aRG_4 zRG) ++ (wcS ci aRS_0 aRS_1 zRS)))) ⟨hx, hb, hml, hown, hts⟩ (cwV 0 hts gX4_readClause_X4_readEnd rfl rfl rfl (by decide +kernel) ⟨Nat.le_of_ble_eq_true rfl, Nat.le_of_ble_eq_true rfl⟩) (c_X4_readEnd l D ci aR_0 aR_1 aRG_0 aRS_0 H.size zR_50 _ hc_53) hK hP hD hS hA [0, 1] [2, 3, 4, 5, 6, 7, 8] [7, 8, 0, 1, 2, 3, 4, 5, 6] rfl rfl rfl (by decide) 0 rfl rfl rfl rfl hl.1 (Nat.le_of_ble_eq_true rfl) dX4_readClause_167 (Nat.zero_le _) (Nat.zero_le _) (fun H locs hP hD hS => ?_)
      have hP : va_P D vwCl ((wcR ci aR_0 aR_1 aRG_0 aRS_0 zR_52) ++ ((wcG ci aRG_0 aRG_1 aRG_2 aRG_3 aRG_4 zRG) ++ (wcS ci aRS_0 aRS_1 zRS))) H := hP
      have hD : va_D A ((wcR ci aR_0 aR_1 aRG_0 aRS_0 zR_52) ++ ((wcG ci aRG_0 aRG_1 aRG_2 aRG_3 aRG_4 zRG) ++ (wcS ci aRS_0 aRS_1 zRS))) := hD
      obtain rfl := Option.some.inj hF
      exact W.vret hx hb hr (fun t ht hW => ⟨⟨(), rfl, trivial, by rw [ht]; exact hP, va_K.moved hW.alike hK, hD⟩, hS.F ht⟩) hS.2.2 dX4_readClause_170
    replace hF := if_o c_49 hF
    by_cases c_54 : k_7 = 109
    · replace hF := if_i c_54 hF
      subst c_54
      refine lv_tableIn (tgt := 160) hx hb dX4_readClause_49 (by decide) (by decide) rfl (by decide) ?_
      refine lv_aload_n hx hb dX4_readClause_160 rfl (lv_at hl 2 rfl) ?_
      refine lv_iconst (v := 1) hx hb dX4_readClause_161 (by decide) ?_
      refine lv_iload_n hx hb dX4_readClause_162 rfl (lv_at hl 1 rfl) ?_
      replace hF := bnd hF
      obtain ⟨zR_55, hc_56, hF⟩ := hF
      refine cl_Vv (As := [.int 1, .int v1_1]) (rest := []) (wc := (wcR ci aR_0 aR_1 aRG_0 aRS_0 zR_5)) (wr := ([2, 3, 4, 5, 6, 7, 8].filterMap (fun i => ((wcR ci aR_0 aR_1 aRG_0 aRS_0 zR_5) ++ ((wcG ci aRG_0 aRG_1 aRG_2 aRG_3 aRG_4 zRG) ++ (wcS ci aRS_0 aRS_1 zRS)))[i]?))) (w1 := (wcR ci aR_0 aR_1 aRG_0 aRS_0 zR_55)) (wn := ((wcR ci aR_0 aR_1 aRG_0 aRS_0 zR_55) ++ ((wcG ci aRG_0 aRG_1 aRG_2 aRG_3 aRG_4 zRG) ++ (wcS ci aRS_0 aRS_1 zRS)))) ⟨hx, hb, hml, hown, hts⟩ (cwV 2 hts gX4_readClause_X4_fail rfl rfl rfl (by decide +kernel) ⟨Nat.le_of_ble_eq_true rfl, Nat.le_of_ble_eq_true rfl⟩) (c_X4_fail l D ci aR_0 aR_1 aRG_0 aRS_0 H.size zR_5 (1 : Int32) v1_1 _ hc_56) hK hP hD hS hA [0, 1] [2, 3, 4, 5, 6, 7, 8] [7, 8, 0, 1, 2, 3, 4, 5, 6] rfl rfl rfl (by decide) 0 rfl rfl rfl rfl hl.1 (Nat.le_of_ble_eq_true rfl) dX4_readClause_163 (Nat.zero_le _) (Nat.zero_le _) (fun H locs hP hD hS => ?_)
      have hP : va_P D vwCl ((wcR ci aR_0 aR_1 aRG_0 aRS_0 zR_55) ++ ((wcG ci aRG_0 aRG_1 aRG_2 aRG_3 aRG_4 zRG) ++ (wcS ci aRS_0 aRS_1 zRS))) H := hP
      have hD : va_D A ((wcR ci aR_0 aR_1 aRG_0 aRS_0 zR_55) ++ ((wcG ci aRG_0 aRG_1 aRG_2 aRG_3 aRG_4 zRG) ++ (wcS ci aRS_0 aRS_1 zRS))) := hD
      refine lv_aload_n hx hb dX4_readClause_166 rfl (lv_at hl 2 rfl) ?_
      replace hF := bnd hF
      obtain ⟨zR_57, hc_58, hF⟩ := hF
      refine cl_Vv (As := []) (rest := []) (wc := (wcR ci aR_0 aR_1 aRG_0 aRS_0 zR_55)) (wr := ([2, 3, 4, 5, 6, 7, 8].filterMap (fun i => ((wcR ci aR_0 aR_1 aRG_0 aRS_0 zR_55) ++ ((wcG ci aRG_0 aRG_1 aRG_2 aRG_3 aRG_4 zRG) ++ (wcS ci aRS_0 aRS_1 zRS)))[i]?))) (w1 := (wcR ci aR_0 aR_1 aRG_0 aRS_0 zR_57)) (wn := ((wcR ci aR_0 aR_1 aRG_0 aRS_0 zR_57) ++ ((wcG ci aRG_0 aRG_1 aRG_2 aRG_3 aRG_4 zRG) ++ (wcS ci aRS_0 aRS_1 zRS)))) ⟨hx, hb, hml, hown, hts⟩ (cwV 0 hts gX4_readClause_X4_readEnd rfl rfl rfl (by decide +kernel) ⟨Nat.le_of_ble_eq_true rfl, Nat.le_of_ble_eq_true rfl⟩) (c_X4_readEnd l D ci aR_0 aR_1 aRG_0 aRS_0 H.size zR_55 _ hc_58) hK hP hD hS hA [0, 1] [2, 3, 4, 5, 6, 7, 8] [7, 8, 0, 1, 2, 3, 4, 5, 6] rfl rfl rfl (by decide) 0 rfl rfl rfl rfl hl.1 (Nat.le_of_ble_eq_true rfl) dX4_readClause_167 (Nat.zero_le _) (Nat.zero_le _) (fun H locs hP hD hS => ?_)
      have hP : va_P D vwCl ((wcR ci aR_0 aR_1 aRG_0 aRS_0 zR_57) ++ ((wcG ci aRG_0 aRG_1 aRG_2 aRG_3 aRG_4 zRG) ++ (wcS ci aRS_0 aRS_1 zRS))) H := hP
      have hD : va_D A ((wcR ci aR_0 aR_1 aRG_0 aRS_0 zR_57) ++ ((wcG ci aRG_0 aRG_1 aRG_2 aRG_3 aRG_4 zRG) ++ (wcS ci aRS_0 aRS_1 zRS))) := hD
      obtain rfl := Option.some.inj hF
      exact W.vret hx hb hr (fun t ht hW => ⟨⟨(), rfl, trivial, by rw [ht]; exact hP, va_K.moved hW.alike hK, hD⟩, hS.F ht⟩) hS.2.2 dX4_readClause_170
    replace hF := if_o c_54 hF
    by_cases c_59 : k_7 = 110
    · replace hF := if_i c_59 hF
      subst c_59
      refine lv_tableIn (tgt := 160) hx hb dX4_readClause_49 (by decide) (by decide) rfl (by decide) ?_
      refine lv_aload_n hx hb dX4_readClause_160 rfl (lv_at hl 2 rfl) ?_
      refine lv_iconst (v := 1) hx hb dX4_readClause_161 (by decide) ?_
      refine lv_iload_n hx hb dX4_readClause_162 rfl (lv_at hl 1 rfl) ?_
      replace hF := bnd hF
      obtain ⟨zR_60, hc_61, hF⟩ := hF
      refine cl_Vv (As := [.int 1, .int v1_1]) (rest := []) (wc := (wcR ci aR_0 aR_1 aRG_0 aRS_0 zR_5)) (wr := ([2, 3, 4, 5, 6, 7, 8].filterMap (fun i => ((wcR ci aR_0 aR_1 aRG_0 aRS_0 zR_5) ++ ((wcG ci aRG_0 aRG_1 aRG_2 aRG_3 aRG_4 zRG) ++ (wcS ci aRS_0 aRS_1 zRS)))[i]?))) (w1 := (wcR ci aR_0 aR_1 aRG_0 aRS_0 zR_60)) (wn := ((wcR ci aR_0 aR_1 aRG_0 aRS_0 zR_60) ++ ((wcG ci aRG_0 aRG_1 aRG_2 aRG_3 aRG_4 zRG) ++ (wcS ci aRS_0 aRS_1 zRS)))) ⟨hx, hb, hml, hown, hts⟩ (cwV 2 hts gX4_readClause_X4_fail rfl rfl rfl (by decide +kernel) ⟨Nat.le_of_ble_eq_true rfl, Nat.le_of_ble_eq_true rfl⟩) (c_X4_fail l D ci aR_0 aR_1 aRG_0 aRS_0 H.size zR_5 (1 : Int32) v1_1 _ hc_61) hK hP hD hS hA [0, 1] [2, 3, 4, 5, 6, 7, 8] [7, 8, 0, 1, 2, 3, 4, 5, 6] rfl rfl rfl (by decide) 0 rfl rfl rfl rfl hl.1 (Nat.le_of_ble_eq_true rfl) dX4_readClause_163 (Nat.zero_le _) (Nat.zero_le _) (fun H locs hP hD hS => ?_)
      have hP : va_P D vwCl ((wcR ci aR_0 aR_1 aRG_0 aRS_0 zR_60) ++ ((wcG ci aRG_0 aRG_1 aRG_2 aRG_3 aRG_4 zRG) ++ (wcS ci aRS_0 aRS_1 zRS))) H := hP
      have hD : va_D A ((wcR ci aR_0 aR_1 aRG_0 aRS_0 zR_60) ++ ((wcG ci aRG_0 aRG_1 aRG_2 aRG_3 aRG_4 zRG) ++ (wcS ci aRS_0 aRS_1 zRS))) := hD
      refine lv_aload_n hx hb dX4_readClause_166 rfl (lv_at hl 2 rfl) ?_
      replace hF := bnd hF
      obtain ⟨zR_62, hc_63, hF⟩ := hF
      refine cl_Vv (As := []) (rest := []) (wc := (wcR ci aR_0 aR_1 aRG_0 aRS_0 zR_60)) (wr := ([2, 3, 4, 5, 6, 7, 8].filterMap (fun i => ((wcR ci aR_0 aR_1 aRG_0 aRS_0 zR_60) ++ ((wcG ci aRG_0 aRG_1 aRG_2 aRG_3 aRG_4 zRG) ++ (wcS ci aRS_0 aRS_1 zRS)))[i]?))) (w1 := (wcR ci aR_0 aR_1 aRG_0 aRS_0 zR_62)) (wn := ((wcR ci aR_0 aR_1 aRG_0 aRS_0 zR_62) ++ ((wcG ci aRG_0 aRG_1 aRG_2 aRG_3 aRG_4 zRG) ++ (wcS ci aRS_0 aRS_1 zRS)))) ⟨hx, hb, hml, hown, hts⟩ (cwV 0 hts gX4_readClause_X4_readEnd rfl rfl rfl (by decide +kernel) ⟨Nat.le_of_ble_eq_true rfl, Nat.le_of_ble_eq_true rfl⟩) (c_X4_readEnd l D ci aR_0 aR_1 aRG_0 aRS_0 H.size zR_60 _ hc_63) hK hP hD hS hA [0, 1] [2, 3, 4, 5, 6, 7, 8] [7, 8, 0, 1, 2, 3, 4, 5, 6] rfl rfl rfl (by decide) 0 rfl rfl rfl rfl hl.1 (Nat.le_of_ble_eq_true rfl) dX4_readClause_167 (Nat.zero_le _) (Nat.zero_le _) (fun H locs hP hD hS => ?_)
      have hP : va_P D vwCl ((wcR ci aR_0 aR_1 aRG_0 aRS_0 zR_62) ++ ((wcG ci aRG_0 aRG_1 aRG_2 aRG_3 aRG_4 zRG) ++ (wcS ci aRS_0 aRS_1 zRS))) H := hP
      have hD : va_D A ((wcR ci aR_0 aR_1 aRG_0 aRS_0 zR_62) ++ ((wcG ci aRG_0 aRG_1 aRG_2 aRG_3 aRG_4 zRG) ++ (wcS ci aRS_0 aRS_1 zRS))) := hD
      obtain rfl := Option.some.inj hF
      exact W.vret hx hb hr (fun t ht hW => ⟨⟨(), rfl, trivial, by rw [ht]; exact hP, va_K.moved hW.alike hK, hD⟩, hS.F ht⟩) hS.2.2 dX4_readClause_170
    replace hF := if_o c_59 hF
    by_cases c_64 : k_7 = 111
    · replace hF := if_i c_64 hF
      subst c_64
      refine lv_tableIn (tgt := 160) hx hb dX4_readClause_49 (by decide) (by decide) rfl (by decide) ?_
      refine lv_aload_n hx hb dX4_readClause_160 rfl (lv_at hl 2 rfl) ?_
      refine lv_iconst (v := 1) hx hb dX4_readClause_161 (by decide) ?_
      refine lv_iload_n hx hb dX4_readClause_162 rfl (lv_at hl 1 rfl) ?_
      replace hF := bnd hF
      obtain ⟨zR_65, hc_66, hF⟩ := hF
      refine cl_Vv (As := [.int 1, .int v1_1]) (rest := []) (wc := (wcR ci aR_0 aR_1 aRG_0 aRS_0 zR_5)) (wr := ([2, 3, 4, 5, 6, 7, 8].filterMap (fun i => ((wcR ci aR_0 aR_1 aRG_0 aRS_0 zR_5) ++ ((wcG ci aRG_0 aRG_1 aRG_2 aRG_3 aRG_4 zRG) ++ (wcS ci aRS_0 aRS_1 zRS)))[i]?))) (w1 := (wcR ci aR_0 aR_1 aRG_0 aRS_0 zR_65)) (wn := ((wcR ci aR_0 aR_1 aRG_0 aRS_0 zR_65) ++ ((wcG ci aRG_0 aRG_1 aRG_2 aRG_3 aRG_4 zRG) ++ (wcS ci aRS_0 aRS_1 zRS)))) ⟨hx, hb, hml, hown, hts⟩ (cwV 2 hts gX4_readClause_X4_fail rfl rfl rfl (by decide +kernel) ⟨Nat.le_of_ble_eq_true rfl, Nat.le_of_ble_eq_true rfl⟩) (c_X4_fail l D ci aR_0 aR_1 aRG_0 aRS_0 H.size zR_5 (1 : Int32) v1_1 _ hc_66) hK hP hD hS hA [0, 1] [2, 3, 4, 5, 6, 7, 8] [7, 8, 0, 1, 2, 3, 4, 5, 6] rfl rfl rfl (by decide) 0 rfl rfl rfl rfl hl.1 (Nat.le_of_ble_eq_true rfl) dX4_readClause_163 (Nat.zero_le _) (Nat.zero_le _) (fun H locs hP hD hS => ?_)
      have hP : va_P D vwCl ((wcR ci aR_0 aR_1 aRG_0 aRS_0 zR_65) ++ ((wcG ci aRG_0 aRG_1 aRG_2 aRG_3 aRG_4 zRG) ++ (wcS ci aRS_0 aRS_1 zRS))) H := hP
      have hD : va_D A ((wcR ci aR_0 aR_1 aRG_0 aRS_0 zR_65) ++ ((wcG ci aRG_0 aRG_1 aRG_2 aRG_3 aRG_4 zRG) ++ (wcS ci aRS_0 aRS_1 zRS))) := hD
      refine lv_aload_n hx hb dX4_readClause_166 rfl (lv_at hl 2 rfl) ?_
      replace hF := bnd hF
      obtain ⟨zR_67, hc_68, hF⟩ := hF
      refine cl_Vv (As := []) (rest := []) (wc := (wcR ci aR_0 aR_1 aRG_0 aRS_0 zR_65)) (wr := ([2, 3, 4, 5, 6, 7, 8].filterMap (fun i => ((wcR ci aR_0 aR_1 aRG_0 aRS_0 zR_65) ++ ((wcG ci aRG_0 aRG_1 aRG_2 aRG_3 aRG_4 zRG) ++ (wcS ci aRS_0 aRS_1 zRS)))[i]?))) (w1 := (wcR ci aR_0 aR_1 aRG_0 aRS_0 zR_67)) (wn := ((wcR ci aR_0 aR_1 aRG_0 aRS_0 zR_67) ++ ((wcG ci aRG_0 aRG_1 aRG_2 aRG_3 aRG_4 zRG) ++ (wcS ci aRS_0 aRS_1 zRS)))) ⟨hx, hb, hml, hown, hts⟩ (cwV 0 hts gX4_readClause_X4_readEnd rfl rfl rfl (by decide +kernel) ⟨Nat.le_of_ble_eq_true rfl, Nat.le_of_ble_eq_true rfl⟩) (c_X4_readEnd l D ci aR_0 aR_1 aRG_0 aRS_0 H.size zR_65 _ hc_68) hK hP hD hS hA [0, 1] [2, 3, 4, 5, 6, 7, 8] [7, 8, 0, 1, 2, 3, 4, 5, 6] rfl rfl rfl (by decide) 0 rfl rfl rfl rfl hl.1 (Nat.le_of_ble_eq_true rfl) dX4_readClause_167 (Nat.zero_le _) (Nat.zero_le _) (fun H locs hP hD hS => ?_)
      have hP : va_P D vwCl ((wcR ci aR_0 aR_1 aRG_0 aRS_0 zR_67) ++ ((wcG ci aRG_0 aRG_1 aRG_2 aRG_3 aRG_4 zRG) ++ (wcS ci aRS_0 aRS_1 zRS))) H := hP
      have hD : va_D A ((wcR ci aR_0 aR_1 aRG_0 aRS_0 zR_67) ++ ((wcG ci aRG_0 aRG_1 aRG_2 aRG_3 aRG_4 zRG) ++ (wcS ci aRS_0 aRS_1 zRS))) := hD
      obtain rfl := Option.some.inj hF
      exact W.vret hx hb hr (fun t ht hW => ⟨⟨(), rfl, trivial, by rw [ht]; exact hP, va_K.moved hW.alike hK, hD⟩, hS.F ht⟩) hS.2.2 dX4_readClause_170
    replace hF := if_o c_64 hF
    by_cases c_69 : k_7 = 112
    · replace hF := if_i c_69 hF
      subst c_69
      refine lv_tableIn (tgt := 146) hx hb dX4_readClause_49 (by decide) (by decide) rfl (by decide) ?_
      refine lv_aload_n hx hb dX4_readClause_146 rfl (lv_at hl 2 rfl) ?_
      replace hF := bnd hF
      obtain ⟨q_73, hc_72, hF⟩ := hF
      obtain ⟨zR_70, ezR_70⟩ : ∃ y : RS, y = q_73.1 := ⟨_, rfl⟩
      replace hF := nm_i hF ezR_70
      obtain ⟨zRG_71, ezRG_71⟩ : ∃ y : GS, y = q_73.2 := ⟨_, rfl⟩
      replace hF := nm_i hF ezRG_71
      obtain rfl : q_73 = (zR_70, zRG_71) := by rw [ezR_70, ezRG_71]
      clear ezR_70
      clear ezRG_71
      refine cl_Vv0 (As := []) (rest := []) ⟨hx, hb, hml, hown, hts⟩ (cwV 0 hts gX4_readClause_X4_readPath rfl rfl rfl (by decide +kernel) ⟨Nat.le_of_ble_eq_true rfl, Nat.le_of_ble_eq_true rfl⟩) (c_X4_readPath l D ci aR_0 aR_1 aRG_0 aRS_0 aRG_1 aRG_2 aRG_3 aRG_4 aRS_1 H.size zR_5 zRG zRS _ hc_72) hK hP hD hS hA 0 rfl rfl rfl rfl hl.1 (Nat.le_of_ble_eq_true rfl) dX4_readClause_147 (Nat.zero_le _) (Nat.zero_le _) (fun H locs hP hD hS => ?_)
      have hP : va_P D vwCl ((wcR ci aR_0 aR_1 aRG_0 aRS_0 zR_70) ++ ((wcG ci aRG_0 aRG_1 aRG_2 aRG_3 aRG_4 zRG_71) ++ (wcS ci aRS_0 aRS_1 zRS))) H := hP
      have hD : va_D A ((wcR ci aR_0 aR_1 aRG_0 aRS_0 zR_70) ++ ((wcG ci aRG_0 aRG_1 aRG_2 aRG_3 aRG_4 zRG_71) ++ (wcS ci aRS_0 aRS_1 zRS))) := hD
      refine lv_goto (tgt := 166) hx hb dX4_readClause_150 (by decide) ?_
      refine lv_aload_n hx hb dX4_readClause_166 rfl (lv_at hl 2 rfl) ?_
      replace hF := bnd hF
      obtain ⟨zR_74, hc_75, hF⟩ := hF
      refine cl_Vv (As := []) (rest := []) (wc := (wcR ci aR_0 aR_1 aRG_0 aRS_0 zR_70)) (wr := ([2, 3, 4, 5, 6, 7, 8].filterMap (fun i => ((wcR ci aR_0 aR_1 aRG_0 aRS_0 zR_70) ++ ((wcG ci aRG_0 aRG_1 aRG_2 aRG_3 aRG_4 zRG_71) ++ (wcS ci aRS_0 aRS_1 zRS)))[i]?))) (w1 := (wcR ci aR_0 aR_1 aRG_0 aRS_0 zR_74)) (wn := ((wcR ci aR_0 aR_1 aRG_0 aRS_0 zR_74) ++ ((wcG ci aRG_0 aRG_1 aRG_2 aRG_3 aRG_4 zRG_71) ++ (wcS ci aRS_0 aRS_1 zRS)))) ⟨hx, hb, hml, hown, hts⟩ (cwV 0 hts gX4_readClause_X4_readEnd rfl rfl rfl (by decide +kernel) ⟨Nat.le_of_ble_eq_true rfl, Nat.le_of_ble_eq_true rfl⟩) (c_X4_readEnd l D ci aR_0 aR_1 aRG_0 aRS_0 H.size zR_70 _ hc_75) hK hP hD hS hA [0, 1] [2, 3, 4, 5, 6, 7, 8] [7, 8, 0, 1, 2, 3, 4, 5, 6] rfl rfl rfl (by decide) 0 rfl rfl rfl rfl hl.1 (Nat.le_of_ble_eq_true rfl) dX4_readClause_167 (Nat.zero_le _) (Nat.zero_le _) (fun H locs hP hD hS => ?_)
      have hP : va_P D vwCl ((wcR ci aR_0 aR_1 aRG_0 aRS_0 zR_74) ++ ((wcG ci aRG_0 aRG_1 aRG_2 aRG_3 aRG_4 zRG_71) ++ (wcS ci aRS_0 aRS_1 zRS))) H := hP
      have hD : va_D A ((wcR ci aR_0 aR_1 aRG_0 aRS_0 zR_74) ++ ((wcG ci aRG_0 aRG_1 aRG_2 aRG_3 aRG_4 zRG_71) ++ (wcS ci aRS_0 aRS_1 zRS))) := hD
      obtain rfl := Option.some.inj hF
      exact W.vret hx hb hr (fun t ht hW => ⟨⟨(), rfl, trivial, by rw [ht]; exact hP, va_K.moved hW.alike hK, hD⟩, hS.F ht⟩) hS.2.2 dX4_readClause_170
    replace hF := if_o c_69 hF
    by_cases c_76 : k_7 = 113
    · replace hF := if_i c_76 hF
      subst c_76
      refine lv_tableIn (tgt := 160) hx hb dX4_readClause_49 (by decide) (by decide) rfl (by decide) ?_
      refine lv_aload_n hx hb dX4_readClause_160 rfl (lv_at hl 2 rfl) ?_
      refine lv_iconst (v := 1) hx hb dX4_readClause_161 (by decide) ?_
      refine lv_iload_n hx hb dX4_readClause_162 rfl (lv_at hl 1 rfl) ?_
      replace hF := bnd hF
      obtain ⟨zR_77, hc_78, hF⟩ := hF
      refine cl_Vv (As := [.int 1, .int v1_1]) (rest := []) (wc := (wcR ci aR_0 aR_1 aRG_0 aRS_0 zR_5)) (wr := ([2, 3, 4, 5, 6, 7, 8].filterMap (fun i => ((wcR ci aR_0 aR_1 aRG_0 aRS_0 zR_5) ++ ((wcG ci aRG_0 aRG_1 aRG_2 aRG_3 aRG_4 zRG) ++ (wcS ci aRS_0 aRS_1 zRS)))[i]?))) (w1 := (wcR ci aR_0 aR_1 aRG_0 aRS_0 zR_77)) (wn := ((wcR ci aR_0 aR_1 aRG_0 aRS_0 zR_77) ++ ((wcG ci aRG_0 aRG_1 aRG_2 aRG_3 aRG_4 zRG) ++ (wcS ci aRS_0 aRS_1 zRS)))) ⟨hx, hb, hml, hown, hts⟩ (cwV 2 hts gX4_readClause_X4_fail rfl rfl rfl (by decide +kernel) ⟨Nat.le_of_ble_eq_true rfl, Nat.le_of_ble_eq_true rfl⟩) (c_X4_fail l D ci aR_0 aR_1 aRG_0 aRS_0 H.size zR_5 (1 : Int32) v1_1 _ hc_78) hK hP hD hS hA [0, 1] [2, 3, 4, 5, 6, 7, 8] [7, 8, 0, 1, 2, 3, 4, 5, 6] rfl rfl rfl (by decide) 0 rfl rfl rfl rfl hl.1 (Nat.le_of_ble_eq_true rfl) dX4_readClause_163 (Nat.zero_le _) (Nat.zero_le _) (fun H locs hP hD hS => ?_)
      have hP : va_P D vwCl ((wcR ci aR_0 aR_1 aRG_0 aRS_0 zR_77) ++ ((wcG ci aRG_0 aRG_1 aRG_2 aRG_3 aRG_4 zRG) ++ (wcS ci aRS_0 aRS_1 zRS))) H := hP
      have hD : va_D A ((wcR ci aR_0 aR_1 aRG_0 aRS_0 zR_77) ++ ((wcG ci aRG_0 aRG_1 aRG_2 aRG_3 aRG_4 zRG) ++ (wcS ci aRS_0 aRS_1 zRS))) := hD
      refine lv_aload_n hx hb dX4_readClause_166 rfl (lv_at hl 2 rfl) ?_
      replace hF := bnd hF
      obtain ⟨zR_79, hc_80, hF⟩ := hF
      refine cl_Vv (As := []) (rest := []) (wc := (wcR ci aR_0 aR_1 aRG_0 aRS_0 zR_77)) (wr := ([2, 3, 4, 5, 6, 7, 8].filterMap (fun i => ((wcR ci aR_0 aR_1 aRG_0 aRS_0 zR_77) ++ ((wcG ci aRG_0 aRG_1 aRG_2 aRG_3 aRG_4 zRG) ++ (wcS ci aRS_0 aRS_1 zRS)))[i]?))) (w1 := (wcR ci aR_0 aR_1 aRG_0 aRS_0 zR_79)) (wn := ((wcR ci aR_0 aR_1 aRG_0 aRS_0 zR_79) ++ ((wcG ci aRG_0 aRG_1 aRG_2 aRG_3 aRG_4 zRG) ++ (wcS ci aRS_0 aRS_1 zRS)))) ⟨hx, hb, hml, hown, hts⟩ (cwV 0 hts gX4_readClause_X4_readEnd rfl rfl rfl (by decide +kernel) ⟨Nat.le_of_ble_eq_true rfl, Nat.le_of_ble_eq_true rfl⟩) (c_X4_readEnd l D ci aR_0 aR_1 aRG_0 aRS_0 H.size zR_77 _ hc_80) hK hP hD hS hA [0, 1] [2, 3, 4, 5, 6, 7, 8] [7, 8, 0, 1, 2, 3, 4, 5, 6] rfl rfl rfl (by decide) 0 rfl rfl rfl rfl hl.1 (Nat.le_of_ble_eq_true rfl) dX4_readClause_167 (Nat.zero_le _) (Nat.zero_le _) (fun H locs hP hD hS => ?_)
      have hP : va_P D vwCl ((wcR ci aR_0 aR_1 aRG_0 aRS_0 zR_79) ++ ((wcG ci aRG_0 aRG_1 aRG_2 aRG_3 aRG_4 zRG) ++ (wcS ci aRS_0 aRS_1 zRS))) H := hP
      have hD : va_D A ((wcR ci aR_0 aR_1 aRG_0 aRS_0 zR_79) ++ ((wcG ci aRG_0 aRG_1 aRG_2 aRG_3 aRG_4 zRG) ++ (wcS ci aRS_0 aRS_1 zRS))) := hD
      obtain rfl := Option.some.inj hF
      exact W.vret hx hb hr (fun t ht hW => ⟨⟨(), rfl, trivial, by rw [ht]; exact hP, va_K.moved hW.alike hK, hD⟩, hS.F ht⟩) hS.2.2 dX4_readClause_170
    replace hF := if_o c_76 hF
    by_cases c_81 : k_7 = 114
    · replace hF := if_i c_81 hF
      subst c_81
      refine lv_tableIn (tgt := 160) hx hb dX4_readClause_49 (by decide) (by decide) rfl (by decide) ?_
      refine lv_aload_n hx hb dX4_readClause_160 rfl (lv_at hl 2 rfl) ?_
      refine lv_iconst (v := 1) hx hb dX4_readClause_161 (by decide) ?_
      refine lv_iload_n hx hb dX4_readClause_162 rfl (lv_at hl 1 rfl) ?_
      replace hF := bnd hF
      obtain ⟨zR_82, hc_83, hF⟩ := hF
      refine cl_Vv (As := [.int 1, .int v1_1]) (rest := []) (wc := (wcR ci aR_0 aR_1 aRG_0 aRS_0 zR_5)) (wr := ([2, 3, 4, 5, 6, 7, 8].filterMap (fun i => ((wcR ci aR_0 aR_1 aRG_0 aRS_0 zR_5) ++ ((wcG ci aRG_0 aRG_1 aRG_2 aRG_3 aRG_4 zRG) ++ (wcS ci aRS_0 aRS_1 zRS)))[i]?))) (w1 := (wcR ci aR_0 aR_1 aRG_0 aRS_0 zR_82)) (wn := ((wcR ci aR_0 aR_1 aRG_0 aRS_0 zR_82) ++ ((wcG ci aRG_0 aRG_1 aRG_2 aRG_3 aRG_4 zRG) ++ (wcS ci aRS_0 aRS_1 zRS)))) ⟨hx, hb, hml, hown, hts⟩ (cwV 2 hts gX4_readClause_X4_fail rfl rfl rfl (by decide +kernel) ⟨Nat.le_of_ble_eq_true rfl, Nat.le_of_ble_eq_true rfl⟩) (c_X4_fail l D ci aR_0 aR_1 aRG_0 aRS_0 H.size zR_5 (1 : Int32) v1_1 _ hc_83) hK hP hD hS hA [0, 1] [2, 3, 4, 5, 6, 7, 8] [7, 8, 0, 1, 2, 3, 4, 5, 6] rfl rfl rfl (by decide) 0 rfl rfl rfl rfl hl.1 (Nat.le_of_ble_eq_true rfl) dX4_readClause_163 (Nat.zero_le _) (Nat.zero_le _) (fun H locs hP hD hS => ?_)
      have hP : va_P D vwCl ((wcR ci aR_0 aR_1 aRG_0 aRS_0 zR_82) ++ ((wcG ci aRG_0 aRG_1 aRG_2 aRG_3 aRG_4 zRG) ++ (wcS ci aRS_0 aRS_1 zRS))) H := hP
      have hD : va_D A ((wcR ci aR_0 aR_1 aRG_0 aRS_0 zR_82) ++ ((wcG ci aRG_0 aRG_1 aRG_2 aRG_3 aRG_4 zRG) ++ (wcS ci aRS_0 aRS_1 zRS))) := hD
      refine lv_aload_n hx hb dX4_readClause_166 rfl (lv_at hl 2 rfl) ?_
      replace hF := bnd hF
      obtain ⟨zR_84, hc_85, hF⟩ := hF
      refine cl_Vv (As := []) (rest := []) (wc := (wcR ci aR_0 aR_1 aRG_0 aRS_0 zR_82)) (wr := ([2, 3, 4, 5, 6, 7, 8].filterMap (fun i => ((wcR ci aR_0 aR_1 aRG_0 aRS_0 zR_82) ++ ((wcG ci aRG_0 aRG_1 aRG_2 aRG_3 aRG_4 zRG) ++ (wcS ci aRS_0 aRS_1 zRS)))[i]?))) (w1 := (wcR ci aR_0 aR_1 aRG_0 aRS_0 zR_84)) (wn := ((wcR ci aR_0 aR_1 aRG_0 aRS_0 zR_84) ++ ((wcG ci aRG_0 aRG_1 aRG_2 aRG_3 aRG_4 zRG) ++ (wcS ci aRS_0 aRS_1 zRS)))) ⟨hx, hb, hml, hown, hts⟩ (cwV 0 hts gX4_readClause_X4_readEnd rfl rfl rfl (by decide +kernel) ⟨Nat.le_of_ble_eq_true rfl, Nat.le_of_ble_eq_true rfl⟩) (c_X4_readEnd l D ci aR_0 aR_1 aRG_0 aRS_0 H.size zR_82 _ hc_85) hK hP hD hS hA [0, 1] [2, 3, 4, 5, 6, 7, 8] [7, 8, 0, 1, 2, 3, 4, 5, 6] rfl rfl rfl (by decide) 0 rfl rfl rfl rfl hl.1 (Nat.le_of_ble_eq_true rfl) dX4_readClause_167 (Nat.zero_le _) (Nat.zero_le _) (fun H locs hP hD hS => ?_)
      have hP : va_P D vwCl ((wcR ci aR_0 aR_1 aRG_0 aRS_0 zR_84) ++ ((wcG ci aRG_0 aRG_1 aRG_2 aRG_3 aRG_4 zRG) ++ (wcS ci aRS_0 aRS_1 zRS))) H := hP
      have hD : va_D A ((wcR ci aR_0 aR_1 aRG_0 aRS_0 zR_84) ++ ((wcG ci aRG_0 aRG_1 aRG_2 aRG_3 aRG_4 zRG) ++ (wcS ci aRS_0 aRS_1 zRS))) := hD
      obtain rfl := Option.some.inj hF
      exact W.vret hx hb hr (fun t ht hW => ⟨⟨(), rfl, trivial, by rw [ht]; exact hP, va_K.moved hW.alike hK, hD⟩, hS.F ht⟩) hS.2.2 dX4_readClause_170
    replace hF := if_o c_81 hF
    by_cases c_86 : k_7 = 115
    · replace hF := if_i c_86 hF
      subst c_86
      refine lv_tableIn (tgt := 132) hx hb dX4_readClause_49 (by decide) (by decide) rfl (by decide) ?_
      refine lv_aload_n hx hb dX4_readClause_132 rfl (lv_at hl 2 rfl) ?_
      replace hF := bnd hF
      obtain ⟨q_90, hc_89, hF⟩ := hF
      obtain ⟨zR_87, ezR_87⟩ : ∃ y : RS, y = q_90.1 := ⟨_, rfl⟩
      replace hF := nm_i hF ezR_87
      obtain ⟨zRG_88, ezRG_88⟩ : ∃ y : GS, y = q_90.2 := ⟨_, rfl⟩
      replace hF := nm_i hF ezRG_88
      obtain rfl : q_90 = (zR_87, zRG_88) := by rw [ezR_87, ezRG_88]
      clear ezR_87
      clear ezRG_88
      refine cl_Vv (As := []) (rest := []) (wc := ((wcR ci aR_0 aR_1 aRG_0 aRS_0 zR_5) ++ (wcG ci aRG_0 aRG_1 aRG_2 aRG_3 aRG_4 zRG))) (wr := ([7, 8].filterMap (fun i => ((wcR ci aR_0 aR_1 aRG_0 aRS_0 zR_5) ++ ((wcG ci aRG_0 aRG_1 aRG_2 aRG_3 aRG_4 zRG) ++ (wcS ci aRS_0 aRS_1 zRS)))[i]?))) (w1 := ((wcR ci aR_0 aR_1 aRG_0 aRS_0 zR_87) ++ (wcG ci aRG_0 aRG_1 aRG_2 aRG_3 aRG_4 zRG_88))) (wn := ((wcR ci aR_0 aR_1 aRG_0 aRS_0 zR_87) ++ ((wcG ci aRG_0 aRG_1 aRG_2 aRG_3 aRG_4 zRG_88) ++ (wcS ci aRS_0 aRS_1 zRS)))) ⟨hx, hb, hml, hown, hts⟩ (cwV 0 hts gX4_readClause_X4_readSoil rfl rfl rfl (by decide +kernel) ⟨Nat.le_of_ble_eq_true rfl, Nat.le_of_ble_eq_true rfl⟩) (c_X4_readSoil l D ci aR_0 aR_1 aRG_0 aRS_0 aRG_1 aRG_2 aRG_3 aRG_4 H.size zR_5 zRG _ hc_89) hK hP hD hS hA [0, 1, 2, 3, 4, 5, 6] [7, 8] [2, 3, 4, 5, 6, 7, 8, 0, 1] rfl rfl rfl (by decide) 0 rfl rfl rfl rfl hl.1 (Nat.le_of_ble_eq_true rfl) dX4_readClause_133 (Nat.zero_le _) (Nat.zero_le _) (fun H locs hP hD hS => ?_)
      have hP : va_P D vwCl ((wcR ci aR_0 aR_1 aRG_0 aRS_0 zR_87) ++ ((wcG ci aRG_0 aRG_1 aRG_2 aRG_3 aRG_4 zRG_88) ++ (wcS ci aRS_0 aRS_1 zRS))) H := hP
      have hD : va_D A ((wcR ci aR_0 aR_1 aRG_0 aRS_0 zR_87) ++ ((wcG ci aRG_0 aRG_1 aRG_2 aRG_3 aRG_4 zRG_88) ++ (wcS ci aRS_0 aRS_1 zRS))) := hD
      refine lv_goto (tgt := 166) hx hb dX4_readClause_136 (by decide) ?_
      refine lv_aload_n hx hb dX4_readClause_166 rfl (lv_at hl 2 rfl) ?_
      replace hF := bnd hF
      obtain ⟨zR_91, hc_92, hF⟩ := hF
      refine cl_Vv (As := []) (rest := []) (wc := (wcR ci aR_0 aR_1 aRG_0 aRS_0 zR_87)) (wr := ([2, 3, 4, 5, 6, 7, 8].filterMap (fun i => ((wcR ci aR_0 aR_1 aRG_0 aRS_0 zR_87) ++ ((wcG ci aRG_0 aRG_1 aRG_2 aRG_3 aRG_4 zRG_88) ++ (wcS ci aRS_0 aRS_1 zRS)))[i]?))) (w1 := (wcR ci aR_0 aR_1 aRG_0 aRS_0 zR_91)) (wn := ((wcR ci aR_0 aR_1 aRG_0 aRS_0 zR_91) ++ ((wcG ci aRG_0 aRG_1 aRG_2 aRG_3 aRG_4 zRG_88) ++ (wcS ci aRS_0 aRS_1 zRS)))) ⟨hx, hb, hml, hown, hts⟩ (cwV 0 hts gX4_readClause_X4_readEnd rfl rfl rfl (by decide +kernel) ⟨Nat.le_of_ble_eq_true rfl, Nat.le_of_ble_eq_true rfl⟩) (c_X4_readEnd l D ci aR_0 aR_1 aRG_0 aRS_0 H.size zR_87 _ hc_92) hK hP hD hS hA [0, 1] [2, 3, 4, 5, 6, 7, 8] [7, 8, 0, 1, 2, 3, 4, 5, 6] rfl rfl rfl (by decide) 0 rfl rfl rfl rfl hl.1 (Nat.le_of_ble_eq_true rfl) dX4_readClause_167 (Nat.zero_le _) (Nat.zero_le _) (fun H locs hP hD hS => ?_)
      have hP : va_P D vwCl ((wcR ci aR_0 aR_1 aRG_0 aRS_0 zR_91) ++ ((wcG ci aRG_0 aRG_1 aRG_2 aRG_3 aRG_4 zRG_88) ++ (wcS ci aRS_0 aRS_1 zRS))) H := hP
      have hD : va_D A ((wcR ci aR_0 aR_1 aRG_0 aRS_0 zR_91) ++ ((wcG ci aRG_0 aRG_1 aRG_2 aRG_3 aRG_4 zRG_88) ++ (wcS ci aRS_0 aRS_1 zRS))) := hD
      obtain rfl := Option.some.inj hF
      exact W.vret hx hb hr (fun t ht hW => ⟨⟨(), rfl, trivial, by rw [ht]; exact hP, va_K.moved hW.alike hK, hD⟩, hS.F ht⟩) hS.2.2 dX4_readClause_170
    replace hF := if_o c_86 hF
    have tc_8 := lv_neT c_8 (a := 101) (by decide)
    have tc_15 := lv_neT c_15 (a := 102) (by decide)
    have tc_20 := lv_neT c_20 (a := 103) (by decide)
    have tc_27 := lv_neT c_27 (a := 104) (by decide)
    have tc_34 := lv_neT c_34 (a := 105) (by decide)
    have tc_39 := lv_neT c_39 (a := 106) (by decide)
    have tc_44 := lv_neT c_44 (a := 107) (by decide)
    have tc_49 := lv_neT c_49 (a := 108) (by decide)
    have tc_54 := lv_neT c_54 (a := 109) (by decide)
    have tc_59 := lv_neT c_59 (a := 110) (by decide)
    have tc_64 := lv_neT c_64 (a := 111) (by decide)
    have tc_69 := lv_neT c_69 (a := 112) (by decide)
    have tc_76 := lv_neT c_76 (a := 113) (by decide)
    have tc_81 := lv_neT c_81 (a := 114) (by decide)
    have tc_86 := lv_neT c_86 (a := 115) (by decide)
    refine lv_tableOut (tgt := 160) hx hb dX4_readClause_49 (by omega) (by decide) ?_
    refine lv_aload_n hx hb dX4_readClause_160 rfl (lv_at hl 2 rfl) ?_
    refine lv_iconst (v := 1) hx hb dX4_readClause_161 (by decide) ?_
    refine lv_iload_n hx hb dX4_readClause_162 rfl (lv_at hl 1 rfl) ?_
    replace hF := bnd hF
    obtain ⟨zR_93, hc_94, hF⟩ := hF
    refine cl_Vv (As := [.int 1, .int v1_1]) (rest := []) (wc := (wcR ci aR_0 aR_1 aRG_0 aRS_0 zR_5)) (wr := ([2, 3, 4, 5, 6, 7, 8].filterMap (fun i => ((wcR ci aR_0 aR_1 aRG_0 aRS_0 zR_5) ++ ((wcG ci aRG_0 aRG_1 aRG_2 aRG_3 aRG_4 zRG) ++ (wcS ci aRS_0 aRS_1 zRS)))[i]?))) (w1 := (wcR ci aR_0 aR_1 aRG_0 aRS_0 zR_93)) (wn := ((wcR ci aR_0 aR_1 aRG_0 aRS_0 zR_93) ++ ((wcG ci aRG_0 aRG_1 aRG_2 aRG_3 aRG_4 zRG) ++ (wcS ci aRS_0 aRS_1 zRS)))) ⟨hx, hb, hml, hown, hts⟩ (cwV 2 hts gX4_readClause_X4_fail rfl rfl rfl (by decide +kernel) ⟨Nat.le_of_ble_eq_true rfl, Nat.le_of_ble_eq_true rfl⟩) (c_X4_fail l D ci aR_0 aR_1 aRG_0 aRS_0 H.size zR_5 (1 : Int32) v1_1 _ hc_94) hK hP hD hS hA [0, 1] [2, 3, 4, 5, 6, 7, 8] [7, 8, 0, 1, 2, 3, 4, 5, 6] rfl rfl rfl (by decide) 0 rfl rfl rfl rfl hl.1 (Nat.le_of_ble_eq_true rfl) dX4_readClause_163 (Nat.zero_le _) (Nat.zero_le _) (fun H locs hP hD hS => ?_)
    have hP : va_P D vwCl ((wcR ci aR_0 aR_1 aRG_0 aRS_0 zR_93) ++ ((wcG ci aRG_0 aRG_1 aRG_2 aRG_3 aRG_4 zRG) ++ (wcS ci aRS_0 aRS_1 zRS))) H := hP
    have hD : va_D A ((wcR ci aR_0 aR_1 aRG_0 aRS_0 zR_93) ++ ((wcG ci aRG_0 aRG_1 aRG_2 aRG_3 aRG_4 zRG) ++ (wcS ci aRS_0 aRS_1 zRS))) := hD
    refine lv_aload_n hx hb dX4_readClause_166 rfl (lv_at hl 2 rfl) ?_
    replace hF := bnd hF
    obtain ⟨zR_95, hc_96, hF⟩ := hF
    refine cl_Vv (As := []) (rest := []) (wc := (wcR ci aR_0 aR_1 aRG_0 aRS_0 zR_93)) (wr := ([2, 3, 4, 5, 6, 7, 8].filterMap (fun i => ((wcR ci aR_0 aR_1 aRG_0 aRS_0 zR_93) ++ ((wcG ci aRG_0 aRG_1 aRG_2 aRG_3 aRG_4 zRG) ++ (wcS ci aRS_0 aRS_1 zRS)))[i]?))) (w1 := (wcR ci aR_0 aR_1 aRG_0 aRS_0 zR_95)) (wn := ((wcR ci aR_0 aR_1 aRG_0 aRS_0 zR_95) ++ ((wcG ci aRG_0 aRG_1 aRG_2 aRG_3 aRG_4 zRG) ++ (wcS ci aRS_0 aRS_1 zRS)))) ⟨hx, hb, hml, hown, hts⟩ (cwV 0 hts gX4_readClause_X4_readEnd rfl rfl rfl (by decide +kernel) ⟨Nat.le_of_ble_eq_true rfl, Nat.le_of_ble_eq_true rfl⟩) (c_X4_readEnd l D ci aR_0 aR_1 aRG_0 aRS_0 H.size zR_93 _ hc_96) hK hP hD hS hA [0, 1] [2, 3, 4, 5, 6, 7, 8] [7, 8, 0, 1, 2, 3, 4, 5, 6] rfl rfl rfl (by decide) 0 rfl rfl rfl rfl hl.1 (Nat.le_of_ble_eq_true rfl) dX4_readClause_167 (Nat.zero_le _) (Nat.zero_le _) (fun H locs hP hD hS => ?_)
    have hP : va_P D vwCl ((wcR ci aR_0 aR_1 aRG_0 aRS_0 zR_95) ++ ((wcG ci aRG_0 aRG_1 aRG_2 aRG_3 aRG_4 zRG) ++ (wcS ci aRS_0 aRS_1 zRS))) H := hP
    have hD : va_D A ((wcR ci aR_0 aR_1 aRG_0 aRS_0 zR_95) ++ ((wcG ci aRG_0 aRG_1 aRG_2 aRG_3 aRG_4 zRG) ++ (wcS ci aRS_0 aRS_1 zRS))) := hD
    obtain rfl := Option.some.inj hF
    exact W.vret hx hb hr (fun t ht hW => ⟨⟨(), rfl, trivial, by rw [ht]; exact hP, va_K.moved hW.alike hK, hD⟩, hS.F ht⟩) hS.2.2 dX4_readClause_170
  · replace hF := if_i c_6 hF
    refine lv_iload_n hx hb dX4_readClause_35 rfl (lv_at hl 0 rfl) ?_
    refine lv_bipush (v := 103) hx hb dX4_readClause_36 (by decide) ?_
    refine lv_icmp_eq (tgt := 48) hx hb dX4_readClause_38 (by decide) (fun c_97 => ?_) (fun c_97 => ?_)
    · replace hF := if_i c_97 hF
      refine lv_iload_n hx hb dX4_readClause_48 rfl (lv_at hl 0 rfl) ?_
      refine lv_topi (fun k_98 ek_98 => ?_)
      replace hF := nm_i hF ek_98
      by_cases c_99 : k_98 = 101
      · replace hF := if_i c_99 hF
        subst c_99
        refine lv_tableIn (tgt := 139) hx hb dX4_readClause_49 (by decide) (by decide) rfl (by decide) ?_
        refine lv_aload_n hx hb dX4_readClause_139 rfl (lv_at hl 2 rfl) ?_
        replace hF := bnd hF
        obtain ⟨q_103, hc_102, hF⟩ := hF
        obtain ⟨zR_100, ezR_100⟩ : ∃ y : RS, y = q_103.1 := ⟨_, rfl⟩
        replace hF := nm_i hF ezR_100
        obtain ⟨zRS_101, ezRS_101⟩ : ∃ y : SS, y = q_103.2 := ⟨_, rfl⟩
        replace hF := nm_i hF ezRS_101
        obtain rfl : q_103 = (zR_100, zRS_101) := by rw [ezR_100, ezRS_101]
        clear ezR_100
        clear ezRS_101
        refine cl_Vv0 (As := []) (rest := []) ⟨hx, hb, hml, hown, hts⟩ (cwV 0 hts gX4_readClause_X4_readOwned rfl rfl rfl (by decide +kernel) ⟨Nat.le_of_ble_eq_true rfl, Nat.le_of_ble_eq_true rfl⟩) (c_X4_readOwned l D ci aR_0 aR_1 aRG_0 aRS_0 aRG_1 aRG_2 aRG_3 aRG_4 aRS_1 H.size zR_5 zRG zRS _ hc_102) hK hP hD hS hA 0 rfl rfl rfl rfl hl.1 (Nat.le_of_ble_eq_true rfl) dX4_readClause_140 (Nat.zero_le _) (Nat.zero_le _) (fun H locs hP hD hS => ?_)
        have hP : va_P D vwCl ((wcR ci aR_0 aR_1 aRG_0 aRS_0 zR_100) ++ ((wcG ci aRG_0 aRG_1 aRG_2 aRG_3 aRG_4 zRG) ++ (wcS ci aRS_0 aRS_1 zRS_101))) H := hP
        have hD : va_D A ((wcR ci aR_0 aR_1 aRG_0 aRS_0 zR_100) ++ ((wcG ci aRG_0 aRG_1 aRG_2 aRG_3 aRG_4 zRG) ++ (wcS ci aRS_0 aRS_1 zRS_101))) := hD
        refine lv_goto (tgt := 166) hx hb dX4_readClause_143 (by decide) ?_
        refine lv_aload_n hx hb dX4_readClause_166 rfl (lv_at hl 2 rfl) ?_
        replace hF := bnd hF
        obtain ⟨zR_104, hc_105, hF⟩ := hF
        refine cl_Vv (As := []) (rest := []) (wc := (wcR ci aR_0 aR_1 aRG_0 aRS_0 zR_100)) (wr := ([2, 3, 4, 5, 6, 7, 8].filterMap (fun i => ((wcR ci aR_0 aR_1 aRG_0 aRS_0 zR_100) ++ ((wcG ci aRG_0 aRG_1 aRG_2 aRG_3 aRG_4 zRG) ++ (wcS ci aRS_0 aRS_1 zRS_101)))[i]?))) (w1 := (wcR ci aR_0 aR_1 aRG_0 aRS_0 zR_104)) (wn := ((wcR ci aR_0 aR_1 aRG_0 aRS_0 zR_104) ++ ((wcG ci aRG_0 aRG_1 aRG_2 aRG_3 aRG_4 zRG) ++ (wcS ci aRS_0 aRS_1 zRS_101)))) ⟨hx, hb, hml, hown, hts⟩ (cwV 0 hts gX4_readClause_X4_readEnd rfl rfl rfl (by decide +kernel) ⟨Nat.le_of_ble_eq_true rfl, Nat.le_of_ble_eq_true rfl⟩) (c_X4_readEnd l D ci aR_0 aR_1 aRG_0 aRS_0 H.size zR_100 _ hc_105) hK hP hD hS hA [0, 1] [2, 3, 4, 5, 6, 7, 8] [7, 8, 0, 1, 2, 3, 4, 5, 6] rfl rfl rfl (by decide) 0 rfl rfl rfl rfl hl.1 (Nat.le_of_ble_eq_true rfl) dX4_readClause_167 (Nat.zero_le _) (Nat.zero_le _) (fun H locs hP hD hS => ?_)
        have hP : va_P D vwCl ((wcR ci aR_0 aR_1 aRG_0 aRS_0 zR_104) ++ ((wcG ci aRG_0 aRG_1 aRG_2 aRG_3 aRG_4 zRG) ++ (wcS ci aRS_0 aRS_1 zRS_101))) H := hP
        have hD : va_D A ((wcR ci aR_0 aR_1 aRG_0 aRS_0 zR_104) ++ ((wcG ci aRG_0 aRG_1 aRG_2 aRG_3 aRG_4 zRG) ++ (wcS ci aRS_0 aRS_1 zRS_101))) := hD
        obtain rfl := Option.some.inj hF
        exact W.vret hx hb hr (fun t ht hW => ⟨⟨(), rfl, trivial, by rw [ht]; exact hP, va_K.moved hW.alike hK, hD⟩, hS.F ht⟩) hS.2.2 dX4_readClause_170
      replace hF := if_o c_99 hF
      by_cases c_106 : k_98 = 102
      · replace hF := if_i c_106 hF
        subst c_106
        refine lv_tableIn (tgt := 160) hx hb dX4_readClause_49 (by decide) (by decide) rfl (by decide) ?_
        refine lv_aload_n hx hb dX4_readClause_160 rfl (lv_at hl 2 rfl) ?_
        refine lv_iconst (v := 1) hx hb dX4_readClause_161 (by decide) ?_
        refine lv_iload_n hx hb dX4_readClause_162 rfl (lv_at hl 1 rfl) ?_
        replace hF := bnd hF
        obtain ⟨zR_107, hc_108, hF⟩ := hF
        refine cl_Vv (As := [.int 1, .int v1_1]) (rest := []) (wc := (wcR ci aR_0 aR_1 aRG_0 aRS_0 zR_5)) (wr := ([2, 3, 4, 5, 6, 7, 8].filterMap (fun i => ((wcR ci aR_0 aR_1 aRG_0 aRS_0 zR_5) ++ ((wcG ci aRG_0 aRG_1 aRG_2 aRG_3 aRG_4 zRG) ++ (wcS ci aRS_0 aRS_1 zRS)))[i]?))) (w1 := (wcR ci aR_0 aR_1 aRG_0 aRS_0 zR_107)) (wn := ((wcR ci aR_0 aR_1 aRG_0 aRS_0 zR_107) ++ ((wcG ci aRG_0 aRG_1 aRG_2 aRG_3 aRG_4 zRG) ++ (wcS ci aRS_0 aRS_1 zRS)))) ⟨hx, hb, hml, hown, hts⟩ (cwV 2 hts gX4_readClause_X4_fail rfl rfl rfl (by decide +kernel) ⟨Nat.le_of_ble_eq_true rfl, Nat.le_of_ble_eq_true rfl⟩) (c_X4_fail l D ci aR_0 aR_1 aRG_0 aRS_0 H.size zR_5 (1 : Int32) v1_1 _ hc_108) hK hP hD hS hA [0, 1] [2, 3, 4, 5, 6, 7, 8] [7, 8, 0, 1, 2, 3, 4, 5, 6] rfl rfl rfl (by decide) 0 rfl rfl rfl rfl hl.1 (Nat.le_of_ble_eq_true rfl) dX4_readClause_163 (Nat.zero_le _) (Nat.zero_le _) (fun H locs hP hD hS => ?_)
        have hP : va_P D vwCl ((wcR ci aR_0 aR_1 aRG_0 aRS_0 zR_107) ++ ((wcG ci aRG_0 aRG_1 aRG_2 aRG_3 aRG_4 zRG) ++ (wcS ci aRS_0 aRS_1 zRS))) H := hP
        have hD : va_D A ((wcR ci aR_0 aR_1 aRG_0 aRS_0 zR_107) ++ ((wcG ci aRG_0 aRG_1 aRG_2 aRG_3 aRG_4 zRG) ++ (wcS ci aRS_0 aRS_1 zRS))) := hD
        refine lv_aload_n hx hb dX4_readClause_166 rfl (lv_at hl 2 rfl) ?_
        replace hF := bnd hF
        obtain ⟨zR_109, hc_110, hF⟩ := hF
        refine cl_Vv (As := []) (rest := []) (wc := (wcR ci aR_0 aR_1 aRG_0 aRS_0 zR_107)) (wr := ([2, 3, 4, 5, 6, 7, 8].filterMap (fun i => ((wcR ci aR_0 aR_1 aRG_0 aRS_0 zR_107) ++ ((wcG ci aRG_0 aRG_1 aRG_2 aRG_3 aRG_4 zRG) ++ (wcS ci aRS_0 aRS_1 zRS)))[i]?))) (w1 := (wcR ci aR_0 aR_1 aRG_0 aRS_0 zR_109)) (wn := ((wcR ci aR_0 aR_1 aRG_0 aRS_0 zR_109) ++ ((wcG ci aRG_0 aRG_1 aRG_2 aRG_3 aRG_4 zRG) ++ (wcS ci aRS_0 aRS_1 zRS)))) ⟨hx, hb, hml, hown, hts⟩ (cwV 0 hts gX4_readClause_X4_readEnd rfl rfl rfl (by decide +kernel) ⟨Nat.le_of_ble_eq_true rfl, Nat.le_of_ble_eq_true rfl⟩) (c_X4_readEnd l D ci aR_0 aR_1 aRG_0 aRS_0 H.size zR_107 _ hc_110) hK hP hD hS hA [0, 1] [2, 3, 4, 5, 6, 7, 8] [7, 8, 0, 1, 2, 3, 4, 5, 6] rfl rfl rfl (by decide) 0 rfl rfl rfl rfl hl.1 (Nat.le_of_ble_eq_true rfl) dX4_readClause_167 (Nat.zero_le _) (Nat.zero_le _) (fun H locs hP hD hS => ?_)
        have hP : va_P D vwCl ((wcR ci aR_0 aR_1 aRG_0 aRS_0 zR_109) ++ ((wcG ci aRG_0 aRG_1 aRG_2 aRG_3 aRG_4 zRG) ++ (wcS ci aRS_0 aRS_1 zRS))) H := hP
        have hD : va_D A ((wcR ci aR_0 aR_1 aRG_0 aRS_0 zR_109) ++ ((wcG ci aRG_0 aRG_1 aRG_2 aRG_3 aRG_4 zRG) ++ (wcS ci aRS_0 aRS_1 zRS))) := hD
        obtain rfl := Option.some.inj hF
        exact W.vret hx hb hr (fun t ht hW => ⟨⟨(), rfl, trivial, by rw [ht]; exact hP, va_K.moved hW.alike hK, hD⟩, hS.F ht⟩) hS.2.2 dX4_readClause_170
      replace hF := if_o c_106 hF
      by_cases c_111 : k_98 = 103
      · replace hF := if_i c_111 hF
        subst c_111
        refine lv_tableIn (tgt := 124) hx hb dX4_readClause_49 (by decide) (by decide) rfl (by decide) ?_
        refine lv_aload_n hx hb dX4_readClause_124 rfl (lv_at hl 2 rfl) ?_
        refine lv_iload_n hx hb dX4_readClause_125 rfl (lv_at hl 1 rfl) ?_
        replace hF := bnd hF
        obtain ⟨q_115, hc_114, hF⟩ := hF
        obtain ⟨zR_112, ezR_112⟩ : ∃ y : RS, y = q_115.1 := ⟨_, rfl⟩
        replace hF := nm_i hF ezR_112
        obtain ⟨zRG_113, ezRG_113⟩ : ∃ y : GS, y = q_115.2 := ⟨_, rfl⟩
        replace hF := nm_i hF ezRG_113
        obtain rfl : q_115 = (zR_112, zRG_113) := by rw [ezR_112, ezRG_113]
        clear ezR_112
        clear ezRG_113
        refine cl_Vv (As := [.int v1_1]) (rest := []) (wc := ((wcR ci aR_0 aR_1 aRG_0 aRS_0 zR_5) ++ (wcG ci aRG_0 aRG_1 aRG_2 aRG_3 aRG_4 zRG))) (wr := ([7, 8].filterMap (fun i => ((wcR ci aR_0 aR_1 aRG_0 aRS_0 zR_5) ++ ((wcG ci aRG_0 aRG_1 aRG_2 aRG_3 aRG_4 zRG) ++ (wcS ci aRS_0 aRS_1 zRS)))[i]?))) (w1 := ((wcR ci aR_0 aR_1 aRG_0 aRS_0 zR_112) ++ (wcG ci aRG_0 aRG_1 aRG_2 aRG_3 aRG_4 zRG_113))) (wn := ((wcR ci aR_0 aR_1 aRG_0 aRS_0 zR_112) ++ ((wcG ci aRG_0 aRG_1 aRG_2 aRG_3 aRG_4 zRG_113) ++ (wcS ci aRS_0 aRS_1 zRS)))) ⟨hx, hb, hml, hown, hts⟩ (cwV 1 hts gX4_readClause_X4_readGround rfl rfl rfl (by decide +kernel) ⟨Nat.le_of_ble_eq_true rfl, Nat.le_of_ble_eq_true rfl⟩) (c_X4_readGround l D ci aR_0 aR_1 aRG_0 aRS_0 aRG_1 aRG_2 aRG_3 aRG_4 H.size zR_5 zRG v1_1 _ hc_114) hK hP hD hS hA [0, 1, 2, 3, 4, 5, 6] [7, 8] [2, 3, 4, 5, 6, 7, 8, 0, 1] rfl rfl rfl (by decide) 0 rfl rfl rfl rfl hl.1 (Nat.le_of_ble_eq_true rfl) dX4_readClause_126 (Nat.zero_le _) (Nat.zero_le _) (fun H locs hP hD hS => ?_)
        have hP : va_P D vwCl ((wcR ci aR_0 aR_1 aRG_0 aRS_0 zR_112) ++ ((wcG ci aRG_0 aRG_1 aRG_2 aRG_3 aRG_4 zRG_113) ++ (wcS ci aRS_0 aRS_1 zRS))) H := hP
        have hD : va_D A ((wcR ci aR_0 aR_1 aRG_0 aRS_0 zR_112) ++ ((wcG ci aRG_0 aRG_1 aRG_2 aRG_3 aRG_4 zRG_113) ++ (wcS ci aRS_0 aRS_1 zRS))) := hD
        refine lv_goto (tgt := 166) hx hb dX4_readClause_129 (by decide) ?_
        refine lv_aload_n hx hb dX4_readClause_166 rfl (lv_at hl 2 rfl) ?_
        replace hF := bnd hF
        obtain ⟨zR_116, hc_117, hF⟩ := hF
        refine cl_Vv (As := []) (rest := []) (wc := (wcR ci aR_0 aR_1 aRG_0 aRS_0 zR_112)) (wr := ([2, 3, 4, 5, 6, 7, 8].filterMap (fun i => ((wcR ci aR_0 aR_1 aRG_0 aRS_0 zR_112) ++ ((wcG ci aRG_0 aRG_1 aRG_2 aRG_3 aRG_4 zRG_113) ++ (wcS ci aRS_0 aRS_1 zRS)))[i]?))) (w1 := (wcR ci aR_0 aR_1 aRG_0 aRS_0 zR_116)) (wn := ((wcR ci aR_0 aR_1 aRG_0 aRS_0 zR_116) ++ ((wcG ci aRG_0 aRG_1 aRG_2 aRG_3 aRG_4 zRG_113) ++ (wcS ci aRS_0 aRS_1 zRS)))) ⟨hx, hb, hml, hown, hts⟩ (cwV 0 hts gX4_readClause_X4_readEnd rfl rfl rfl (by decide +kernel) ⟨Nat.le_of_ble_eq_true rfl, Nat.le_of_ble_eq_true rfl⟩) (c_X4_readEnd l D ci aR_0 aR_1 aRG_0 aRS_0 H.size zR_112 _ hc_117) hK hP hD hS hA [0, 1] [2, 3, 4, 5, 6, 7, 8] [7, 8, 0, 1, 2, 3, 4, 5, 6] rfl rfl rfl (by decide) 0 rfl rfl rfl rfl hl.1 (Nat.le_of_ble_eq_true rfl) dX4_readClause_167 (Nat.zero_le _) (Nat.zero_le _) (fun H locs hP hD hS => ?_)
        have hP : va_P D vwCl ((wcR ci aR_0 aR_1 aRG_0 aRS_0 zR_116) ++ ((wcG ci aRG_0 aRG_1 aRG_2 aRG_3 aRG_4 zRG_113) ++ (wcS ci aRS_0 aRS_1 zRS))) H := hP
        have hD : va_D A ((wcR ci aR_0 aR_1 aRG_0 aRS_0 zR_116) ++ ((wcG ci aRG_0 aRG_1 aRG_2 aRG_3 aRG_4 zRG_113) ++ (wcS ci aRS_0 aRS_1 zRS))) := hD
        obtain rfl := Option.some.inj hF
        exact W.vret hx hb hr (fun t ht hW => ⟨⟨(), rfl, trivial, by rw [ht]; exact hP, va_K.moved hW.alike hK, hD⟩, hS.F ht⟩) hS.2.2 dX4_readClause_170
      replace hF := if_o c_111 hF
      by_cases c_118 : k_98 = 104
      · replace hF := if_i c_118 hF
        subst c_118
        refine lv_tableIn (tgt := 153) hx hb dX4_readClause_49 (by decide) (by decide) rfl (by decide) ?_
        refine lv_aload_n hx hb dX4_readClause_153 rfl (lv_at hl 2 rfl) ?_
        replace hF := bnd hF
        obtain ⟨q_122, hc_121, hF⟩ := hF
        obtain ⟨zR_119, ezR_119⟩ : ∃ y : RS, y = q_122.1 := ⟨_, rfl⟩
        replace hF := nm_i hF ezR_119
        obtain ⟨zRS_120, ezRS_120⟩ : ∃ y : SS, y = q_122.2 := ⟨_, rfl⟩
        replace hF := nm_i hF ezRS_120
        obtain rfl : q_122 = (zR_119, zRS_120) := by rw [ezR_119, ezRS_120]
        clear ezR_119
        clear ezRS_120
        refine cl_Vv0 (As := []) (rest := []) ⟨hx, hb, hml, hown, hts⟩ (cwV 0 hts gX4_readClause_X4_readHedge rfl rfl rfl (by decide +kernel) ⟨Nat.le_of_ble_eq_true rfl, Nat.le_of_ble_eq_true rfl⟩) (c_X4_readHedge l D ci aR_0 aR_1 aRG_0 aRS_0 aRG_1 aRG_2 aRG_3 aRG_4 aRS_1 H.size zR_5 zRG zRS _ hc_121) hK hP hD hS hA 0 rfl rfl rfl rfl hl.1 (Nat.le_of_ble_eq_true rfl) dX4_readClause_154 (Nat.zero_le _) (Nat.zero_le _) (fun H locs hP hD hS => ?_)
        have hP : va_P D vwCl ((wcR ci aR_0 aR_1 aRG_0 aRS_0 zR_119) ++ ((wcG ci aRG_0 aRG_1 aRG_2 aRG_3 aRG_4 zRG) ++ (wcS ci aRS_0 aRS_1 zRS_120))) H := hP
        have hD : va_D A ((wcR ci aR_0 aR_1 aRG_0 aRS_0 zR_119) ++ ((wcG ci aRG_0 aRG_1 aRG_2 aRG_3 aRG_4 zRG) ++ (wcS ci aRS_0 aRS_1 zRS_120))) := hD
        refine lv_goto (tgt := 166) hx hb dX4_readClause_157 (by decide) ?_
        refine lv_aload_n hx hb dX4_readClause_166 rfl (lv_at hl 2 rfl) ?_
        replace hF := bnd hF
        obtain ⟨zR_123, hc_124, hF⟩ := hF
        refine cl_Vv (As := []) (rest := []) (wc := (wcR ci aR_0 aR_1 aRG_0 aRS_0 zR_119)) (wr := ([2, 3, 4, 5, 6, 7, 8].filterMap (fun i => ((wcR ci aR_0 aR_1 aRG_0 aRS_0 zR_119) ++ ((wcG ci aRG_0 aRG_1 aRG_2 aRG_3 aRG_4 zRG) ++ (wcS ci aRS_0 aRS_1 zRS_120)))[i]?))) (w1 := (wcR ci aR_0 aR_1 aRG_0 aRS_0 zR_123)) (wn := ((wcR ci aR_0 aR_1 aRG_0 aRS_0 zR_123) ++ ((wcG ci aRG_0 aRG_1 aRG_2 aRG_3 aRG_4 zRG) ++ (wcS ci aRS_0 aRS_1 zRS_120)))) ⟨hx, hb, hml, hown, hts⟩ (cwV 0 hts gX4_readClause_X4_readEnd rfl rfl rfl (by decide +kernel) ⟨Nat.le_of_ble_eq_true rfl, Nat.le_of_ble_eq_true rfl⟩) (c_X4_readEnd l D ci aR_0 aR_1 aRG_0 aRS_0 H.size zR_119 _ hc_124) hK hP hD hS hA [0, 1] [2, 3, 4, 5, 6, 7, 8] [7, 8, 0, 1, 2, 3, 4, 5, 6] rfl rfl rfl (by decide) 0 rfl rfl rfl rfl hl.1 (Nat.le_of_ble_eq_true rfl) dX4_readClause_167 (Nat.zero_le _) (Nat.zero_le _) (fun H locs hP hD hS => ?_)
        have hP : va_P D vwCl ((wcR ci aR_0 aR_1 aRG_0 aRS_0 zR_123) ++ ((wcG ci aRG_0 aRG_1 aRG_2 aRG_3 aRG_4 zRG) ++ (wcS ci aRS_0 aRS_1 zRS_120))) H := hP
        have hD : va_D A ((wcR ci aR_0 aR_1 aRG_0 aRS_0 zR_123) ++ ((wcG ci aRG_0 aRG_1 aRG_2 aRG_3 aRG_4 zRG) ++ (wcS ci aRS_0 aRS_1 zRS_120))) := hD
        obtain rfl := Option.some.inj hF
        exact W.vret hx hb hr (fun t ht hW => ⟨⟨(), rfl, trivial, by rw [ht]; exact hP, va_K.moved hW.alike hK, hD⟩, hS.F ht⟩) hS.2.2 dX4_readClause_170
      replace hF := if_o c_118 hF
      by_cases c_125 : k_98 = 105
      · replace hF := if_i c_125 hF
        subst c_125
        refine lv_tableIn (tgt := 160) hx hb dX4_readClause_49 (by decide) (by decide) rfl (by decide) ?_
        refine lv_aload_n hx hb dX4_readClause_160 rfl (lv_at hl 2 rfl) ?_
        refine lv_iconst (v := 1) hx hb dX4_readClause_161 (by decide) ?_
        refine lv_iload_n hx hb dX4_readClause_162 rfl (lv_at hl 1 rfl) ?_
        replace hF := bnd hF
        obtain ⟨zR_126, hc_127, hF⟩ := hF
        refine cl_Vv (As := [.int 1, .int v1_1]) (rest := []) (wc := (wcR ci aR_0 aR_1 aRG_0 aRS_0 zR_5)) (wr := ([2, 3, 4, 5, 6, 7, 8].filterMap (fun i => ((wcR ci aR_0 aR_1 aRG_0 aRS_0 zR_5) ++ ((wcG ci aRG_0 aRG_1 aRG_2 aRG_3 aRG_4 zRG) ++ (wcS ci aRS_0 aRS_1 zRS)))[i]?))) (w1 := (wcR ci aR_0 aR_1 aRG_0 aRS_0 zR_126)) (wn := ((wcR ci aR_0 aR_1 aRG_0 aRS_0 zR_126) ++ ((wcG ci aRG_0 aRG_1 aRG_2 aRG_3 aRG_4 zRG) ++ (wcS ci aRS_0 aRS_1 zRS)))) ⟨hx, hb, hml, hown, hts⟩ (cwV 2 hts gX4_readClause_X4_fail rfl rfl rfl (by decide +kernel) ⟨Nat.le_of_ble_eq_true rfl, Nat.le_of_ble_eq_true rfl⟩) (c_X4_fail l D ci aR_0 aR_1 aRG_0 aRS_0 H.size zR_5 (1 : Int32) v1_1 _ hc_127) hK hP hD hS hA [0, 1] [2, 3, 4, 5, 6, 7, 8] [7, 8, 0, 1, 2, 3, 4, 5, 6] rfl rfl rfl (by decide) 0 rfl rfl rfl rfl hl.1 (Nat.le_of_ble_eq_true rfl) dX4_readClause_163 (Nat.zero_le _) (Nat.zero_le _) (fun H locs hP hD hS => ?_)
        have hP : va_P D vwCl ((wcR ci aR_0 aR_1 aRG_0 aRS_0 zR_126) ++ ((wcG ci aRG_0 aRG_1 aRG_2 aRG_3 aRG_4 zRG) ++ (wcS ci aRS_0 aRS_1 zRS))) H := hP
        have hD : va_D A ((wcR ci aR_0 aR_1 aRG_0 aRS_0 zR_126) ++ ((wcG ci aRG_0 aRG_1 aRG_2 aRG_3 aRG_4 zRG) ++ (wcS ci aRS_0 aRS_1 zRS))) := hD
        refine lv_aload_n hx hb dX4_readClause_166 rfl (lv_at hl 2 rfl) ?_
        replace hF := bnd hF
        obtain ⟨zR_128, hc_129, hF⟩ := hF
        refine cl_Vv (As := []) (rest := []) (wc := (wcR ci aR_0 aR_1 aRG_0 aRS_0 zR_126)) (wr := ([2, 3, 4, 5, 6, 7, 8].filterMap (fun i => ((wcR ci aR_0 aR_1 aRG_0 aRS_0 zR_126) ++ ((wcG ci aRG_0 aRG_1 aRG_2 aRG_3 aRG_4 zRG) ++ (wcS ci aRS_0 aRS_1 zRS)))[i]?))) (w1 := (wcR ci aR_0 aR_1 aRG_0 aRS_0 zR_128)) (wn := ((wcR ci aR_0 aR_1 aRG_0 aRS_0 zR_128) ++ ((wcG ci aRG_0 aRG_1 aRG_2 aRG_3 aRG_4 zRG) ++ (wcS ci aRS_0 aRS_1 zRS)))) ⟨hx, hb, hml, hown, hts⟩ (cwV 0 hts gX4_readClause_X4_readEnd rfl rfl rfl (by decide +kernel) ⟨Nat.le_of_ble_eq_true rfl, Nat.le_of_ble_eq_true rfl⟩) (c_X4_readEnd l D ci aR_0 aR_1 aRG_0 aRS_0 H.size zR_126 _ hc_129) hK hP hD hS hA [0, 1] [2, 3, 4, 5, 6, 7, 8] [7, 8, 0, 1, 2, 3, 4, 5, 6] rfl rfl rfl (by decide) 0 rfl rfl rfl rfl hl.1 (Nat.le_of_ble_eq_true rfl) dX4_readClause_167 (Nat.zero_le _) (Nat.zero_le _) (fun H locs hP hD hS => ?_)
        have hP : va_P D vwCl ((wcR ci aR_0 aR_1 aRG_0 aRS_0 zR_128) ++ ((wcG ci aRG_0 aRG_1 aRG_2 aRG_3 aRG_4 zRG) ++ (wcS ci aRS_0 aRS_1 zRS))) H := hP
        have hD : va_D A ((wcR ci aR_0 aR_1 aRG_0 aRS_0 zR_128) ++ ((wcG ci aRG_0 aRG_1 aRG_2 aRG_3 aRG_4 zRG) ++ (wcS ci aRS_0 aRS_1 zRS))) := hD
        obtain rfl := Option.some.inj hF
        exact W.vret hx hb hr (fun t ht hW => ⟨⟨(), rfl, trivial, by rw [ht]; exact hP, va_K.moved hW.alike hK, hD⟩, hS.F ht⟩) hS.2.2 dX4_readClause_170
      replace hF := if_o c_125 hF
      by_cases c_130 : k_98 = 106
      · replace hF := if_i c_130 hF
        subst c_130
        refine lv_tableIn (tgt := 160) hx hb dX4_readClause_49 (by decide) (by decide) rfl (by decide) ?_
        refine lv_aload_n hx hb dX4_readClause_160 rfl (lv_at hl 2 rfl) ?_
        refine lv_iconst (v := 1) hx hb dX4_readClause_161 (by decide) ?_
        refine lv_iload_n hx hb dX4_readClause_162 rfl (lv_at hl 1 rfl) ?_
        replace hF := bnd hF
        obtain ⟨zR_131, hc_132, hF⟩ := hF
        refine cl_Vv (As := [.int 1, .int v1_1]) (rest := []) (wc := (wcR ci aR_0 aR_1 aRG_0 aRS_0 zR_5)) (wr := ([2, 3, 4, 5, 6, 7, 8].filterMap (fun i => ((wcR ci aR_0 aR_1 aRG_0 aRS_0 zR_5) ++ ((wcG ci aRG_0 aRG_1 aRG_2 aRG_3 aRG_4 zRG) ++ (wcS ci aRS_0 aRS_1 zRS)))[i]?))) (w1 := (wcR ci aR_0 aR_1 aRG_0 aRS_0 zR_131)) (wn := ((wcR ci aR_0 aR_1 aRG_0 aRS_0 zR_131) ++ ((wcG ci aRG_0 aRG_1 aRG_2 aRG_3 aRG_4 zRG) ++ (wcS ci aRS_0 aRS_1 zRS)))) ⟨hx, hb, hml, hown, hts⟩ (cwV 2 hts gX4_readClause_X4_fail rfl rfl rfl (by decide +kernel) ⟨Nat.le_of_ble_eq_true rfl, Nat.le_of_ble_eq_true rfl⟩) (c_X4_fail l D ci aR_0 aR_1 aRG_0 aRS_0 H.size zR_5 (1 : Int32) v1_1 _ hc_132) hK hP hD hS hA [0, 1] [2, 3, 4, 5, 6, 7, 8] [7, 8, 0, 1, 2, 3, 4, 5, 6] rfl rfl rfl (by decide) 0 rfl rfl rfl rfl hl.1 (Nat.le_of_ble_eq_true rfl) dX4_readClause_163 (Nat.zero_le _) (Nat.zero_le _) (fun H locs hP hD hS => ?_)
        have hP : va_P D vwCl ((wcR ci aR_0 aR_1 aRG_0 aRS_0 zR_131) ++ ((wcG ci aRG_0 aRG_1 aRG_2 aRG_3 aRG_4 zRG) ++ (wcS ci aRS_0 aRS_1 zRS))) H := hP
        have hD : va_D A ((wcR ci aR_0 aR_1 aRG_0 aRS_0 zR_131) ++ ((wcG ci aRG_0 aRG_1 aRG_2 aRG_3 aRG_4 zRG) ++ (wcS ci aRS_0 aRS_1 zRS))) := hD
        refine lv_aload_n hx hb dX4_readClause_166 rfl (lv_at hl 2 rfl) ?_
        replace hF := bnd hF
        obtain ⟨zR_133, hc_134, hF⟩ := hF
        refine cl_Vv (As := []) (rest := []) (wc := (wcR ci aR_0 aR_1 aRG_0 aRS_0 zR_131)) (wr := ([2, 3, 4, 5, 6, 7, 8].filterMap (fun i => ((wcR ci aR_0 aR_1 aRG_0 aRS_0 zR_131) ++ ((wcG ci aRG_0 aRG_1 aRG_2 aRG_3 aRG_4 zRG) ++ (wcS ci aRS_0 aRS_1 zRS)))[i]?))) (w1 := (wcR ci aR_0 aR_1 aRG_0 aRS_0 zR_133)) (wn := ((wcR ci aR_0 aR_1 aRG_0 aRS_0 zR_133) ++ ((wcG ci aRG_0 aRG_1 aRG_2 aRG_3 aRG_4 zRG) ++ (wcS ci aRS_0 aRS_1 zRS)))) ⟨hx, hb, hml, hown, hts⟩ (cwV 0 hts gX4_readClause_X4_readEnd rfl rfl rfl (by decide +kernel) ⟨Nat.le_of_ble_eq_true rfl, Nat.le_of_ble_eq_true rfl⟩) (c_X4_readEnd l D ci aR_0 aR_1 aRG_0 aRS_0 H.size zR_131 _ hc_134) hK hP hD hS hA [0, 1] [2, 3, 4, 5, 6, 7, 8] [7, 8, 0, 1, 2, 3, 4, 5, 6] rfl rfl rfl (by decide) 0 rfl rfl rfl rfl hl.1 (Nat.le_of_ble_eq_true rfl) dX4_readClause_167 (Nat.zero_le _) (Nat.zero_le _) (fun H locs hP hD hS => ?_)
        have hP : va_P D vwCl ((wcR ci aR_0 aR_1 aRG_0 aRS_0 zR_133) ++ ((wcG ci aRG_0 aRG_1 aRG_2 aRG_3 aRG_4 zRG) ++ (wcS ci aRS_0 aRS_1 zRS))) H := hP
        have hD : va_D A ((wcR ci aR_0 aR_1 aRG_0 aRS_0 zR_133) ++ ((wcG ci aRG_0 aRG_1 aRG_2 aRG_3 aRG_4 zRG) ++ (wcS ci aRS_0 aRS_1 zRS))) := hD
        obtain rfl := Option.some.inj hF
        exact W.vret hx hb hr (fun t ht hW => ⟨⟨(), rfl, trivial, by rw [ht]; exact hP, va_K.moved hW.alike hK, hD⟩, hS.F ht⟩) hS.2.2 dX4_readClause_170
      replace hF := if_o c_130 hF
      by_cases c_135 : k_98 = 107
      · replace hF := if_i c_135 hF
        subst c_135
        refine lv_tableIn (tgt := 160) hx hb dX4_readClause_49 (by decide) (by decide) rfl (by decide) ?_
        refine lv_aload_n hx hb dX4_readClause_160 rfl (lv_at hl 2 rfl) ?_
        refine lv_iconst (v := 1) hx hb dX4_readClause_161 (by decide) ?_
        refine lv_iload_n hx hb dX4_readClause_162 rfl (lv_at hl 1 rfl) ?_
        replace hF := bnd hF
        obtain ⟨zR_136, hc_137, hF⟩ := hF
        refine cl_Vv (As := [.int 1, .int v1_1]) (rest := []) (wc := (wcR ci aR_0 aR_1 aRG_0 aRS_0 zR_5)) (wr := ([2, 3, 4, 5, 6, 7, 8].filterMap (fun i => ((wcR ci aR_0 aR_1 aRG_0 aRS_0 zR_5) ++ ((wcG ci aRG_0 aRG_1 aRG_2 aRG_3 aRG_4 zRG) ++ (wcS ci aRS_0 aRS_1 zRS)))[i]?))) (w1 := (wcR ci aR_0 aR_1 aRG_0 aRS_0 zR_136)) (wn := ((wcR ci aR_0 aR_1 aRG_0 aRS_0 zR_136) ++ ((wcG ci aRG_0 aRG_1 aRG_2 aRG_3 aRG_4 zRG) ++ (wcS ci aRS_0 aRS_1 zRS)))) ⟨hx, hb, hml, hown, hts⟩ (cwV 2 hts gX4_readClause_X4_fail rfl rfl rfl (by decide +kernel) ⟨Nat.le_of_ble_eq_true rfl, Nat.le_of_ble_eq_true rfl⟩) (c_X4_fail l D ci aR_0 aR_1 aRG_0 aRS_0 H.size zR_5 (1 : Int32) v1_1 _ hc_137) hK hP hD hS hA [0, 1] [2, 3, 4, 5, 6, 7, 8] [7, 8, 0, 1, 2, 3, 4, 5, 6] rfl rfl rfl (by decide) 0 rfl rfl rfl rfl hl.1 (Nat.le_of_ble_eq_true rfl) dX4_readClause_163 (Nat.zero_le _) (Nat.zero_le _) (fun H locs hP hD hS => ?_)
        have hP : va_P D vwCl ((wcR ci aR_0 aR_1 aRG_0 aRS_0 zR_136) ++ ((wcG ci aRG_0 aRG_1 aRG_2 aRG_3 aRG_4 zRG) ++ (wcS ci aRS_0 aRS_1 zRS))) H := hP
        have hD : va_D A ((wcR ci aR_0 aR_1 aRG_0 aRS_0 zR_136) ++ ((wcG ci aRG_0 aRG_1 aRG_2 aRG_3 aRG_4 zRG) ++ (wcS ci aRS_0 aRS_1 zRS))) := hD
        refine lv_aload_n hx hb dX4_readClause_166 rfl (lv_at hl 2 rfl) ?_
        replace hF := bnd hF
        obtain ⟨zR_138, hc_139, hF⟩ := hF
        refine cl_Vv (As := []) (rest := []) (wc := (wcR ci aR_0 aR_1 aRG_0 aRS_0 zR_136)) (wr := ([2, 3, 4, 5, 6, 7, 8].filterMap (fun i => ((wcR ci aR_0 aR_1 aRG_0 aRS_0 zR_136) ++ ((wcG ci aRG_0 aRG_1 aRG_2 aRG_3 aRG_4 zRG) ++ (wcS ci aRS_0 aRS_1 zRS)))[i]?))) (w1 := (wcR ci aR_0 aR_1 aRG_0 aRS_0 zR_138)) (wn := ((wcR ci aR_0 aR_1 aRG_0 aRS_0 zR_138) ++ ((wcG ci aRG_0 aRG_1 aRG_2 aRG_3 aRG_4 zRG) ++ (wcS ci aRS_0 aRS_1 zRS)))) ⟨hx, hb, hml, hown, hts⟩ (cwV 0 hts gX4_readClause_X4_readEnd rfl rfl rfl (by decide +kernel) ⟨Nat.le_of_ble_eq_true rfl, Nat.le_of_ble_eq_true rfl⟩) (c_X4_readEnd l D ci aR_0 aR_1 aRG_0 aRS_0 H.size zR_136 _ hc_139) hK hP hD hS hA [0, 1] [2, 3, 4, 5, 6, 7, 8] [7, 8, 0, 1, 2, 3, 4, 5, 6] rfl rfl rfl (by decide) 0 rfl rfl rfl rfl hl.1 (Nat.le_of_ble_eq_true rfl) dX4_readClause_167 (Nat.zero_le _) (Nat.zero_le _) (fun H locs hP hD hS => ?_)
        have hP : va_P D vwCl ((wcR ci aR_0 aR_1 aRG_0 aRS_0 zR_138) ++ ((wcG ci aRG_0 aRG_1 aRG_2 aRG_3 aRG_4 zRG) ++ (wcS ci aRS_0 aRS_1 zRS))) H := hP
        have hD : va_D A ((wcR ci aR_0 aR_1 aRG_0 aRS_0 zR_138) ++ ((wcG ci aRG_0 aRG_1 aRG_2 aRG_3 aRG_4 zRG) ++ (wcS ci aRS_0 aRS_1 zRS))) := hD
        obtain rfl := Option.some.inj hF
        exact W.vret hx hb hr (fun t ht hW => ⟨⟨(), rfl, trivial, by rw [ht]; exact hP, va_K.moved hW.alike hK, hD⟩, hS.F ht⟩) hS.2.2 dX4_readClause_170
      replace hF := if_o c_135 hF
      by_cases c_140 : k_98 = 108
      · replace hF := if_i c_140 hF
        subst c_140
        refine lv_tableIn (tgt := 160) hx hb dX4_readClause_49 (by decide) (by decide) rfl (by decide) ?_
        refine lv_aload_n hx hb dX4_readClause_160 rfl (lv_at hl 2 rfl) ?_
        refine lv_iconst (v := 1) hx hb dX4_readClause_161 (by decide) ?_
        refine lv_iload_n hx hb dX4_readClause_162 rfl (lv_at hl 1 rfl) ?_
        replace hF := bnd hF
        obtain ⟨zR_141, hc_142, hF⟩ := hF
        refine cl_Vv (As := [.int 1, .int v1_1]) (rest := []) (wc := (wcR ci aR_0 aR_1 aRG_0 aRS_0 zR_5)) (wr := ([2, 3, 4, 5, 6, 7, 8].filterMap (fun i => ((wcR ci aR_0 aR_1 aRG_0 aRS_0 zR_5) ++ ((wcG ci aRG_0 aRG_1 aRG_2 aRG_3 aRG_4 zRG) ++ (wcS ci aRS_0 aRS_1 zRS)))[i]?))) (w1 := (wcR ci aR_0 aR_1 aRG_0 aRS_0 zR_141)) (wn := ((wcR ci aR_0 aR_1 aRG_0 aRS_0 zR_141) ++ ((wcG ci aRG_0 aRG_1 aRG_2 aRG_3 aRG_4 zRG) ++ (wcS ci aRS_0 aRS_1 zRS)))) ⟨hx, hb, hml, hown, hts⟩ (cwV 2 hts gX4_readClause_X4_fail rfl rfl rfl (by decide +kernel) ⟨Nat.le_of_ble_eq_true rfl, Nat.le_of_ble_eq_true rfl⟩) (c_X4_fail l D ci aR_0 aR_1 aRG_0 aRS_0 H.size zR_5 (1 : Int32) v1_1 _ hc_142) hK hP hD hS hA [0, 1] [2, 3, 4, 5, 6, 7, 8] [7, 8, 0, 1, 2, 3, 4, 5, 6] rfl rfl rfl (by decide) 0 rfl rfl rfl rfl hl.1 (Nat.le_of_ble_eq_true rfl) dX4_readClause_163 (Nat.zero_le _) (Nat.zero_le _) (fun H locs hP hD hS => ?_)
        have hP : va_P D vwCl ((wcR ci aR_0 aR_1 aRG_0 aRS_0 zR_141) ++ ((wcG ci aRG_0 aRG_1 aRG_2 aRG_3 aRG_4 zRG) ++ (wcS ci aRS_0 aRS_1 zRS))) H := hP
        have hD : va_D A ((wcR ci aR_0 aR_1 aRG_0 aRS_0 zR_141) ++ ((wcG ci aRG_0 aRG_1 aRG_2 aRG_3 aRG_4 zRG) ++ (wcS ci aRS_0 aRS_1 zRS))) := hD
        refine lv_aload_n hx hb dX4_readClause_166 rfl (lv_at hl 2 rfl) ?_
        replace hF := bnd hF
        obtain ⟨zR_143, hc_144, hF⟩ := hF
        refine cl_Vv (As := []) (rest := []) (wc := (wcR ci aR_0 aR_1 aRG_0 aRS_0 zR_141)) (wr := ([2, 3, 4, 5, 6, 7, 8].filterMap (fun i => ((wcR ci aR_0 aR_1 aRG_0 aRS_0 zR_141) ++ ((wcG ci aRG_0 aRG_1 aRG_2 aRG_3 aRG_4 zRG) ++ (wcS ci aRS_0 aRS_1 zRS)))[i]?))) (w1 := (wcR ci aR_0 aR_1 aRG_0 aRS_0 zR_143)) (wn := ((wcR ci aR_0 aR_1 aRG_0 aRS_0 zR_143) ++ ((wcG ci aRG_0 aRG_1 aRG_2 aRG_3 aRG_4 zRG) ++ (wcS ci aRS_0 aRS_1 zRS)))) ⟨hx, hb, hml, hown, hts⟩ (cwV 0 hts gX4_readClause_X4_readEnd rfl rfl rfl (by decide +kernel) ⟨Nat.le_of_ble_eq_true rfl, Nat.le_of_ble_eq_true rfl⟩) (c_X4_readEnd l D ci aR_0 aR_1 aRG_0 aRS_0 H.size zR_141 _ hc_144) hK hP hD hS hA [0, 1] [2, 3, 4, 5, 6, 7, 8] [7, 8, 0, 1, 2, 3, 4, 5, 6] rfl rfl rfl (by decide) 0 rfl rfl rfl rfl hl.1 (Nat.le_of_ble_eq_true rfl) dX4_readClause_167 (Nat.zero_le _) (Nat.zero_le _) (fun H locs hP hD hS => ?_)
        have hP : va_P D vwCl ((wcR ci aR_0 aR_1 aRG_0 aRS_0 zR_143) ++ ((wcG ci aRG_0 aRG_1 aRG_2 aRG_3 aRG_4 zRG) ++ (wcS ci aRS_0 aRS_1 zRS))) H := hP
        have hD : va_D A ((wcR ci aR_0 aR_1 aRG_0 aRS_0 zR_143) ++ ((wcG ci aRG_0 aRG_1 aRG_2 aRG_3 aRG_4 zRG) ++ (wcS ci aRS_0 aRS_1 zRS))) := hD
        obtain rfl := Option.some.inj hF
        exact W.vret hx hb hr (fun t ht hW => ⟨⟨(), rfl, trivial, by rw [ht]; exact hP, va_K.moved hW.alike hK, hD⟩, hS.F ht⟩) hS.2.2 dX4_readClause_170
      replace hF := if_o c_140 hF
      by_cases c_145 : k_98 = 109
      · replace hF := if_i c_145 hF
        subst c_145
        refine lv_tableIn (tgt := 160) hx hb dX4_readClause_49 (by decide) (by decide) rfl (by decide) ?_
        refine lv_aload_n hx hb dX4_readClause_160 rfl (lv_at hl 2 rfl) ?_
        refine lv_iconst (v := 1) hx hb dX4_readClause_161 (by decide) ?_
        refine lv_iload_n hx hb dX4_readClause_162 rfl (lv_at hl 1 rfl) ?_
        replace hF := bnd hF
        obtain ⟨zR_146, hc_147, hF⟩ := hF
        refine cl_Vv (As := [.int 1, .int v1_1]) (rest := []) (wc := (wcR ci aR_0 aR_1 aRG_0 aRS_0 zR_5)) (wr := ([2, 3, 4, 5, 6, 7, 8].filterMap (fun i => ((wcR ci aR_0 aR_1 aRG_0 aRS_0 zR_5) ++ ((wcG ci aRG_0 aRG_1 aRG_2 aRG_3 aRG_4 zRG) ++ (wcS ci aRS_0 aRS_1 zRS)))[i]?))) (w1 := (wcR ci aR_0 aR_1 aRG_0 aRS_0 zR_146)) (wn := ((wcR ci aR_0 aR_1 aRG_0 aRS_0 zR_146) ++ ((wcG ci aRG_0 aRG_1 aRG_2 aRG_3 aRG_4 zRG) ++ (wcS ci aRS_0 aRS_1 zRS)))) ⟨hx, hb, hml, hown, hts⟩ (cwV 2 hts gX4_readClause_X4_fail rfl rfl rfl (by decide +kernel) ⟨Nat.le_of_ble_eq_true rfl, Nat.le_of_ble_eq_true rfl⟩) (c_X4_fail l D ci aR_0 aR_1 aRG_0 aRS_0 H.size zR_5 (1 : Int32) v1_1 _ hc_147) hK hP hD hS hA [0, 1] [2, 3, 4, 5, 6, 7, 8] [7, 8, 0, 1, 2, 3, 4, 5, 6] rfl rfl rfl (by decide) 0 rfl rfl rfl rfl hl.1 (Nat.le_of_ble_eq_true rfl) dX4_readClause_163 (Nat.zero_le _) (Nat.zero_le _) (fun H locs hP hD hS => ?_)
        have hP : va_P D vwCl ((wcR ci aR_0 aR_1 aRG_0 aRS_0 zR_146) ++ ((wcG ci aRG_0 aRG_1 aRG_2 aRG_3 aRG_4 zRG) ++ (wcS ci aRS_0 aRS_1 zRS))) H := hP
        have hD : va_D A ((wcR ci aR_0 aR_1 aRG_0 aRS_0 zR_146) ++ ((wcG ci aRG_0 aRG_1 aRG_2 aRG_3 aRG_4 zRG) ++ (wcS ci aRS_0 aRS_1 zRS))) := hD
        refine lv_aload_n hx hb dX4_readClause_166 rfl (lv_at hl 2 rfl) ?_
        replace hF := bnd hF
        obtain ⟨zR_148, hc_149, hF⟩ := hF
        refine cl_Vv (As := []) (rest := []) (wc := (wcR ci aR_0 aR_1 aRG_0 aRS_0 zR_146)) (wr := ([2, 3, 4, 5, 6, 7, 8].filterMap (fun i => ((wcR ci aR_0 aR_1 aRG_0 aRS_0 zR_146) ++ ((wcG ci aRG_0 aRG_1 aRG_2 aRG_3 aRG_4 zRG) ++ (wcS ci aRS_0 aRS_1 zRS)))[i]?))) (w1 := (wcR ci aR_0 aR_1 aRG_0 aRS_0 zR_148)) (wn := ((wcR ci aR_0 aR_1 aRG_0 aRS_0 zR_148) ++ ((wcG ci aRG_0 aRG_1 aRG_2 aRG_3 aRG_4 zRG) ++ (wcS ci aRS_0 aRS_1 zRS)))) ⟨hx, hb, hml, hown, hts⟩ (cwV 0 hts gX4_readClause_X4_readEnd rfl rfl rfl (by decide +kernel) ⟨Nat.le_of_ble_eq_true rfl, Nat.le_of_ble_eq_true rfl⟩) (c_X4_readEnd l D ci aR_0 aR_1 aRG_0 aRS_0 H.size zR_146 _ hc_149) hK hP hD hS hA [0, 1] [2, 3, 4, 5, 6, 7, 8] [7, 8, 0, 1, 2, 3, 4, 5, 6] rfl rfl rfl (by decide) 0 rfl rfl rfl rfl hl.1 (Nat.le_of_ble_eq_true rfl) dX4_readClause_167 (Nat.zero_le _) (Nat.zero_le _) (fun H locs hP hD hS => ?_)
        have hP : va_P D vwCl ((wcR ci aR_0 aR_1 aRG_0 aRS_0 zR_148) ++ ((wcG ci aRG_0 aRG_1 aRG_2 aRG_3 aRG_4 zRG) ++ (wcS ci aRS_0 aRS_1 zRS))) H := hP
        have hD : va_D A ((wcR ci aR_0 aR_1 aRG_0 aRS_0 zR_148) ++ ((wcG ci aRG_0 aRG_1 aRG_2 aRG_3 aRG_4 zRG) ++ (wcS ci aRS_0 aRS_1 zRS))) := hD
        obtain rfl := Option.some.inj hF
        exact W.vret hx hb hr (fun t ht hW => ⟨⟨(), rfl, trivial, by rw [ht]; exact hP, va_K.moved hW.alike hK, hD⟩, hS.F ht⟩) hS.2.2 dX4_readClause_170
      replace hF := if_o c_145 hF
      by_cases c_150 : k_98 = 110
      · replace hF := if_i c_150 hF
        subst c_150
        refine lv_tableIn (tgt := 160) hx hb dX4_readClause_49 (by decide) (by decide) rfl (by decide) ?_
        refine lv_aload_n hx hb dX4_readClause_160 rfl (lv_at hl 2 rfl) ?_
        refine lv_iconst (v := 1) hx hb dX4_readClause_161 (by decide) ?_
        refine lv_iload_n hx hb dX4_readClause_162 rfl (lv_at hl 1 rfl) ?_
        replace hF := bnd hF
        obtain ⟨zR_151, hc_152, hF⟩ := hF
        refine cl_Vv (As := [.int 1, .int v1_1]) (rest := []) (wc := (wcR ci aR_0 aR_1 aRG_0 aRS_0 zR_5)) (wr := ([2, 3, 4, 5, 6, 7, 8].filterMap (fun i => ((wcR ci aR_0 aR_1 aRG_0 aRS_0 zR_5) ++ ((wcG ci aRG_0 aRG_1 aRG_2 aRG_3 aRG_4 zRG) ++ (wcS ci aRS_0 aRS_1 zRS)))[i]?))) (w1 := (wcR ci aR_0 aR_1 aRG_0 aRS_0 zR_151)) (wn := ((wcR ci aR_0 aR_1 aRG_0 aRS_0 zR_151) ++ ((wcG ci aRG_0 aRG_1 aRG_2 aRG_3 aRG_4 zRG) ++ (wcS ci aRS_0 aRS_1 zRS)))) ⟨hx, hb, hml, hown, hts⟩ (cwV 2 hts gX4_readClause_X4_fail rfl rfl rfl (by decide +kernel) ⟨Nat.le_of_ble_eq_true rfl, Nat.le_of_ble_eq_true rfl⟩) (c_X4_fail l D ci aR_0 aR_1 aRG_0 aRS_0 H.size zR_5 (1 : Int32) v1_1 _ hc_152) hK hP hD hS hA [0, 1] [2, 3, 4, 5, 6, 7, 8] [7, 8, 0, 1, 2, 3, 4, 5, 6] rfl rfl rfl (by decide) 0 rfl rfl rfl rfl hl.1 (Nat.le_of_ble_eq_true rfl) dX4_readClause_163 (Nat.zero_le _) (Nat.zero_le _) (fun H locs hP hD hS => ?_)
        have hP : va_P D vwCl ((wcR ci aR_0 aR_1 aRG_0 aRS_0 zR_151) ++ ((wcG ci aRG_0 aRG_1 aRG_2 aRG_3 aRG_4 zRG) ++ (wcS ci aRS_0 aRS_1 zRS))) H := hP
        have hD : va_D A ((wcR ci aR_0 aR_1 aRG_0 aRS_0 zR_151) ++ ((wcG ci aRG_0 aRG_1 aRG_2 aRG_3 aRG_4 zRG) ++ (wcS ci aRS_0 aRS_1 zRS))) := hD
        refine lv_aload_n hx hb dX4_readClause_166 rfl (lv_at hl 2 rfl) ?_
        replace hF := bnd hF
        obtain ⟨zR_153, hc_154, hF⟩ := hF
        refine cl_Vv (As := []) (rest := []) (wc := (wcR ci aR_0 aR_1 aRG_0 aRS_0 zR_151)) (wr := ([2, 3, 4, 5, 6, 7, 8].filterMap (fun i => ((wcR ci aR_0 aR_1 aRG_0 aRS_0 zR_151) ++ ((wcG ci aRG_0 aRG_1 aRG_2 aRG_3 aRG_4 zRG) ++ (wcS ci aRS_0 aRS_1 zRS)))[i]?))) (w1 := (wcR ci aR_0 aR_1 aRG_0 aRS_0 zR_153)) (wn := ((wcR ci aR_0 aR_1 aRG_0 aRS_0 zR_153) ++ ((wcG ci aRG_0 aRG_1 aRG_2 aRG_3 aRG_4 zRG) ++ (wcS ci aRS_0 aRS_1 zRS)))) ⟨hx, hb, hml, hown, hts⟩ (cwV 0 hts gX4_readClause_X4_readEnd rfl rfl rfl (by decide +kernel) ⟨Nat.le_of_ble_eq_true rfl, Nat.le_of_ble_eq_true rfl⟩) (c_X4_readEnd l D ci aR_0 aR_1 aRG_0 aRS_0 H.size zR_151 _ hc_154) hK hP hD hS hA [0, 1] [2, 3, 4, 5, 6, 7, 8] [7, 8, 0, 1, 2, 3, 4, 5, 6] rfl rfl rfl (by decide) 0 rfl rfl rfl rfl hl.1 (Nat.le_of_ble_eq_true rfl) dX4_readClause_167 (Nat.zero_le _) (Nat.zero_le _) (fun H locs hP hD hS => ?_)
        have hP : va_P D vwCl ((wcR ci aR_0 aR_1 aRG_0 aRS_0 zR_153) ++ ((wcG ci aRG_0 aRG_1 aRG_2 aRG_3 aRG_4 zRG) ++ (wcS ci aRS_0 aRS_1 zRS))) H := hP
        have hD : va_D A ((wcR ci aR_0 aR_1 aRG_0 aRS_0 zR_153) ++ ((wcG ci aRG_0 aRG_1 aRG_2 aRG_3 aRG_4 zRG) ++ (wcS ci aRS_0 aRS_1 zRS))) := hD
        obtain rfl := Option.some.inj hF
        exact W.vret hx hb hr (fun t ht hW => ⟨⟨(), rfl, trivial, by rw [ht]; exact hP, va_K.moved hW.alike hK, hD⟩, hS.F ht⟩) hS.2.2 dX4_readClause_170
      replace hF := if_o c_150 hF
      by_cases c_155 : k_98 = 111
      · replace hF := if_i c_155 hF
        subst c_155
        refine lv_tableIn (tgt := 160) hx hb dX4_readClause_49 (by decide) (by decide) rfl (by decide) ?_
        refine lv_aload_n hx hb dX4_readClause_160 rfl (lv_at hl 2 rfl) ?_
        refine lv_iconst (v := 1) hx hb dX4_readClause_161 (by decide) ?_
        refine lv_iload_n hx hb dX4_readClause_162 rfl (lv_at hl 1 rfl) ?_
        replace hF := bnd hF
        obtain ⟨zR_156, hc_157, hF⟩ := hF
        refine cl_Vv (As := [.int 1, .int v1_1]) (rest := []) (wc := (wcR ci aR_0 aR_1 aRG_0 aRS_0 zR_5)) (wr := ([2, 3, 4, 5, 6, 7, 8].filterMap (fun i => ((wcR ci aR_0 aR_1 aRG_0 aRS_0 zR_5) ++ ((wcG ci aRG_0 aRG_1 aRG_2 aRG_3 aRG_4 zRG) ++ (wcS ci aRS_0 aRS_1 zRS)))[i]?))) (w1 := (wcR ci aR_0 aR_1 aRG_0 aRS_0 zR_156)) (wn := ((wcR ci aR_0 aR_1 aRG_0 aRS_0 zR_156) ++ ((wcG ci aRG_0 aRG_1 aRG_2 aRG_3 aRG_4 zRG) ++ (wcS ci aRS_0 aRS_1 zRS)))) ⟨hx, hb, hml, hown, hts⟩ (cwV 2 hts gX4_readClause_X4_fail rfl rfl rfl (by decide +kernel) ⟨Nat.le_of_ble_eq_true rfl, Nat.le_of_ble_eq_true rfl⟩) (c_X4_fail l D ci aR_0 aR_1 aRG_0 aRS_0 H.size zR_5 (1 : Int32) v1_1 _ hc_157) hK hP hD hS hA [0, 1] [2, 3, 4, 5, 6, 7, 8] [7, 8, 0, 1, 2, 3, 4, 5, 6] rfl rfl rfl (by decide) 0 rfl rfl rfl rfl hl.1 (Nat.le_of_ble_eq_true rfl) dX4_readClause_163 (Nat.zero_le _) (Nat.zero_le _) (fun H locs hP hD hS => ?_)
        have hP : va_P D vwCl ((wcR ci aR_0 aR_1 aRG_0 aRS_0 zR_156) ++ ((wcG ci aRG_0 aRG_1 aRG_2 aRG_3 aRG_4 zRG) ++ (wcS ci aRS_0 aRS_1 zRS))) H := hP
        have hD : va_D A ((wcR ci aR_0 aR_1 aRG_0 aRS_0 zR_156) ++ ((wcG ci aRG_0 aRG_1 aRG_2 aRG_3 aRG_4 zRG) ++ (wcS ci aRS_0 aRS_1 zRS))) := hD
        refine lv_aload_n hx hb dX4_readClause_166 rfl (lv_at hl 2 rfl) ?_
        replace hF := bnd hF
        obtain ⟨zR_158, hc_159, hF⟩ := hF
        refine cl_Vv (As := []) (rest := []) (wc := (wcR ci aR_0 aR_1 aRG_0 aRS_0 zR_156)) (wr := ([2, 3, 4, 5, 6, 7, 8].filterMap (fun i => ((wcR ci aR_0 aR_1 aRG_0 aRS_0 zR_156) ++ ((wcG ci aRG_0 aRG_1 aRG_2 aRG_3 aRG_4 zRG) ++ (wcS ci aRS_0 aRS_1 zRS)))[i]?))) (w1 := (wcR ci aR_0 aR_1 aRG_0 aRS_0 zR_158)) (wn := ((wcR ci aR_0 aR_1 aRG_0 aRS_0 zR_158) ++ ((wcG ci aRG_0 aRG_1 aRG_2 aRG_3 aRG_4 zRG) ++ (wcS ci aRS_0 aRS_1 zRS)))) ⟨hx, hb, hml, hown, hts⟩ (cwV 0 hts gX4_readClause_X4_readEnd rfl rfl rfl (by decide +kernel) ⟨Nat.le_of_ble_eq_true rfl, Nat.le_of_ble_eq_true rfl⟩) (c_X4_readEnd l D ci aR_0 aR_1 aRG_0 aRS_0 H.size zR_156 _ hc_159) hK hP hD hS hA [0, 1] [2, 3, 4, 5, 6, 7, 8] [7, 8, 0, 1, 2, 3, 4, 5, 6] rfl rfl rfl (by decide) 0 rfl rfl rfl rfl hl.1 (Nat.le_of_ble_eq_true rfl) dX4_readClause_167 (Nat.zero_le _) (Nat.zero_le _) (fun H locs hP hD hS => ?_)
        have hP : va_P D vwCl ((wcR ci aR_0 aR_1 aRG_0 aRS_0 zR_158) ++ ((wcG ci aRG_0 aRG_1 aRG_2 aRG_3 aRG_4 zRG) ++ (wcS ci aRS_0 aRS_1 zRS))) H := hP
        have hD : va_D A ((wcR ci aR_0 aR_1 aRG_0 aRS_0 zR_158) ++ ((wcG ci aRG_0 aRG_1 aRG_2 aRG_3 aRG_4 zRG) ++ (wcS ci aRS_0 aRS_1 zRS))) := hD
        obtain rfl := Option.some.inj hF
        exact W.vret hx hb hr (fun t ht hW => ⟨⟨(), rfl, trivial, by rw [ht]; exact hP, va_K.moved hW.alike hK, hD⟩, hS.F ht⟩) hS.2.2 dX4_readClause_170
      replace hF := if_o c_155 hF
      by_cases c_160 : k_98 = 112
      · replace hF := if_i c_160 hF
        subst c_160
        refine lv_tableIn (tgt := 146) hx hb dX4_readClause_49 (by decide) (by decide) rfl (by decide) ?_
        refine lv_aload_n hx hb dX4_readClause_146 rfl (lv_at hl 2 rfl) ?_
        replace hF := bnd hF
        obtain ⟨q_164, hc_163, hF⟩ := hF
        obtain ⟨zR_161, ezR_161⟩ : ∃ y : RS, y = q_164.1 := ⟨_, rfl⟩
        replace hF := nm_i hF ezR_161
        obtain ⟨zRG_162, ezRG_162⟩ : ∃ y : GS, y = q_164.2 := ⟨_, rfl⟩
        replace hF := nm_i hF ezRG_162
        obtain rfl : q_164 = (zR_161, zRG_162) := by rw [ezR_161, ezRG_162]
        clear ezR_161
        clear ezRG_162
        refine cl_Vv0 (As := []) (rest := []) ⟨hx, hb, hml, hown, hts⟩ (cwV 0 hts gX4_readClause_X4_readPath rfl rfl rfl (by decide +kernel) ⟨Nat.le_of_ble_eq_true rfl, Nat.le_of_ble_eq_true rfl⟩) (c_X4_readPath l D ci aR_0 aR_1 aRG_0 aRS_0 aRG_1 aRG_2 aRG_3 aRG_4 aRS_1 H.size zR_5 zRG zRS _ hc_163) hK hP hD hS hA 0 rfl rfl rfl rfl hl.1 (Nat.le_of_ble_eq_true rfl) dX4_readClause_147 (Nat.zero_le _) (Nat.zero_le _) (fun H locs hP hD hS => ?_)
        have hP : va_P D vwCl ((wcR ci aR_0 aR_1 aRG_0 aRS_0 zR_161) ++ ((wcG ci aRG_0 aRG_1 aRG_2 aRG_3 aRG_4 zRG_162) ++ (wcS ci aRS_0 aRS_1 zRS))) H := hP
        have hD : va_D A ((wcR ci aR_0 aR_1 aRG_0 aRS_0 zR_161) ++ ((wcG ci aRG_0 aRG_1 aRG_2 aRG_3 aRG_4 zRG_162) ++ (wcS ci aRS_0 aRS_1 zRS))) := hD
        refine lv_goto (tgt := 166) hx hb dX4_readClause_150 (by decide) ?_
        refine lv_aload_n hx hb dX4_readClause_166 rfl (lv_at hl 2 rfl) ?_
        replace hF := bnd hF
        obtain ⟨zR_165, hc_166, hF⟩ := hF
        refine cl_Vv (As := []) (rest := []) (wc := (wcR ci aR_0 aR_1 aRG_0 aRS_0 zR_161)) (wr := ([2, 3, 4, 5, 6, 7, 8].filterMap (fun i => ((wcR ci aR_0 aR_1 aRG_0 aRS_0 zR_161) ++ ((wcG ci aRG_0 aRG_1 aRG_2 aRG_3 aRG_4 zRG_162) ++ (wcS ci aRS_0 aRS_1 zRS)))[i]?))) (w1 := (wcR ci aR_0 aR_1 aRG_0 aRS_0 zR_165)) (wn := ((wcR ci aR_0 aR_1 aRG_0 aRS_0 zR_165) ++ ((wcG ci aRG_0 aRG_1 aRG_2 aRG_3 aRG_4 zRG_162) ++ (wcS ci aRS_0 aRS_1 zRS)))) ⟨hx, hb, hml, hown, hts⟩ (cwV 0 hts gX4_readClause_X4_readEnd rfl rfl rfl (by decide +kernel) ⟨Nat.le_of_ble_eq_true rfl, Nat.le_of_ble_eq_true rfl⟩) (c_X4_readEnd l D ci aR_0 aR_1 aRG_0 aRS_0 H.size zR_161 _ hc_166) hK hP hD hS hA [0, 1] [2, 3, 4, 5, 6, 7, 8] [7, 8, 0, 1, 2, 3, 4, 5, 6] rfl rfl rfl (by decide) 0 rfl rfl rfl rfl hl.1 (Nat.le_of_ble_eq_true rfl) dX4_readClause_167 (Nat.zero_le _) (Nat.zero_le _) (fun H locs hP hD hS => ?_)
        have hP : va_P D vwCl ((wcR ci aR_0 aR_1 aRG_0 aRS_0 zR_165) ++ ((wcG ci aRG_0 aRG_1 aRG_2 aRG_3 aRG_4 zRG_162) ++ (wcS ci aRS_0 aRS_1 zRS))) H := hP
        have hD : va_D A ((wcR ci aR_0 aR_1 aRG_0 aRS_0 zR_165) ++ ((wcG ci aRG_0 aRG_1 aRG_2 aRG_3 aRG_4 zRG_162) ++ (wcS ci aRS_0 aRS_1 zRS))) := hD
        obtain rfl := Option.some.inj hF
        exact W.vret hx hb hr (fun t ht hW => ⟨⟨(), rfl, trivial, by rw [ht]; exact hP, va_K.moved hW.alike hK, hD⟩, hS.F ht⟩) hS.2.2 dX4_readClause_170
      replace hF := if_o c_160 hF
      by_cases c_167 : k_98 = 113
      · replace hF := if_i c_167 hF
        subst c_167
        refine lv_tableIn (tgt := 160) hx hb dX4_readClause_49 (by decide) (by decide) rfl (by decide) ?_
        refine lv_aload_n hx hb dX4_readClause_160 rfl (lv_at hl 2 rfl) ?_
        refine lv_iconst (v := 1) hx hb dX4_readClause_161 (by decide) ?_
        refine lv_iload_n hx hb dX4_readClause_162 rfl (lv_at hl 1 rfl) ?_
        replace hF := bnd hF
        obtain ⟨zR_168, hc_169, hF⟩ := hF
        refine cl_Vv (As := [.int 1, .int v1_1]) (rest := []) (wc := (wcR ci aR_0 aR_1 aRG_0 aRS_0 zR_5)) (wr := ([2, 3, 4, 5, 6, 7, 8].filterMap (fun i => ((wcR ci aR_0 aR_1 aRG_0 aRS_0 zR_5) ++ ((wcG ci aRG_0 aRG_1 aRG_2 aRG_3 aRG_4 zRG) ++ (wcS ci aRS_0 aRS_1 zRS)))[i]?))) (w1 := (wcR ci aR_0 aR_1 aRG_0 aRS_0 zR_168)) (wn := ((wcR ci aR_0 aR_1 aRG_0 aRS_0 zR_168) ++ ((wcG ci aRG_0 aRG_1 aRG_2 aRG_3 aRG_4 zRG) ++ (wcS ci aRS_0 aRS_1 zRS)))) ⟨hx, hb, hml, hown, hts⟩ (cwV 2 hts gX4_readClause_X4_fail rfl rfl rfl (by decide +kernel) ⟨Nat.le_of_ble_eq_true rfl, Nat.le_of_ble_eq_true rfl⟩) (c_X4_fail l D ci aR_0 aR_1 aRG_0 aRS_0 H.size zR_5 (1 : Int32) v1_1 _ hc_169) hK hP hD hS hA [0, 1] [2, 3, 4, 5, 6, 7, 8] [7, 8, 0, 1, 2, 3, 4, 5, 6] rfl rfl rfl (by decide) 0 rfl rfl rfl rfl hl.1 (Nat.le_of_ble_eq_true rfl) dX4_readClause_163 (Nat.zero_le _) (Nat.zero_le _) (fun H locs hP hD hS => ?_)
        have hP : va_P D vwCl ((wcR ci aR_0 aR_1 aRG_0 aRS_0 zR_168) ++ ((wcG ci aRG_0 aRG_1 aRG_2 aRG_3 aRG_4 zRG) ++ (wcS ci aRS_0 aRS_1 zRS))) H := hP
        have hD : va_D A ((wcR ci aR_0 aR_1 aRG_0 aRS_0 zR_168) ++ ((wcG ci aRG_0 aRG_1 aRG_2 aRG_3 aRG_4 zRG) ++ (wcS ci aRS_0 aRS_1 zRS))) := hD
        refine lv_aload_n hx hb dX4_readClause_166 rfl (lv_at hl 2 rfl) ?_
        replace hF := bnd hF
        obtain ⟨zR_170, hc_171, hF⟩ := hF
        refine cl_Vv (As := []) (rest := []) (wc := (wcR ci aR_0 aR_1 aRG_0 aRS_0 zR_168)) (wr := ([2, 3, 4, 5, 6, 7, 8].filterMap (fun i => ((wcR ci aR_0 aR_1 aRG_0 aRS_0 zR_168) ++ ((wcG ci aRG_0 aRG_1 aRG_2 aRG_3 aRG_4 zRG) ++ (wcS ci aRS_0 aRS_1 zRS)))[i]?))) (w1 := (wcR ci aR_0 aR_1 aRG_0 aRS_0 zR_170)) (wn := ((wcR ci aR_0 aR_1 aRG_0 aRS_0 zR_170) ++ ((wcG ci aRG_0 aRG_1 aRG_2 aRG_3 aRG_4 zRG) ++ (wcS ci aRS_0 aRS_1 zRS)))) ⟨hx, hb, hml, hown, hts⟩ (cwV 0 hts gX4_readClause_X4_readEnd rfl rfl rfl (by decide +kernel) ⟨Nat.le_of_ble_eq_true rfl, Nat.le_of_ble_eq_true rfl⟩) (c_X4_readEnd l D ci aR_0 aR_1 aRG_0 aRS_0 H.size zR_168 _ hc_171) hK hP hD hS hA [0, 1] [2, 3, 4, 5, 6, 7, 8] [7, 8, 0, 1, 2, 3, 4, 5, 6] rfl rfl rfl (by decide) 0 rfl rfl rfl rfl hl.1 (Nat.le_of_ble_eq_true rfl) dX4_readClause_167 (Nat.zero_le _) (Nat.zero_le _) (fun H locs hP hD hS => ?_)
        have hP : va_P D vwCl ((wcR ci aR_0 aR_1 aRG_0 aRS_0 zR_170) ++ ((wcG ci aRG_0 aRG_1 aRG_2 aRG_3 aRG_4 zRG) ++ (wcS ci aRS_0 aRS_1 zRS))) H := hP
        have hD : va_D A ((wcR ci aR_0 aR_1 aRG_0 aRS_0 zR_170) ++ ((wcG ci aRG_0 aRG_1 aRG_2 aRG_3 aRG_4 zRG) ++ (wcS ci aRS_0 aRS_1 zRS))) := hD
        obtain rfl := Option.some.inj hF
        exact W.vret hx hb hr (fun t ht hW => ⟨⟨(), rfl, trivial, by rw [ht]; exact hP, va_K.moved hW.alike hK, hD⟩, hS.F ht⟩) hS.2.2 dX4_readClause_170
      replace hF := if_o c_167 hF
      by_cases c_172 : k_98 = 114
      · replace hF := if_i c_172 hF
        subst c_172
        refine lv_tableIn (tgt := 160) hx hb dX4_readClause_49 (by decide) (by decide) rfl (by decide) ?_
        refine lv_aload_n hx hb dX4_readClause_160 rfl (lv_at hl 2 rfl) ?_
        refine lv_iconst (v := 1) hx hb dX4_readClause_161 (by decide) ?_
        refine lv_iload_n hx hb dX4_readClause_162 rfl (lv_at hl 1 rfl) ?_
        replace hF := bnd hF
        obtain ⟨zR_173, hc_174, hF⟩ := hF
        refine cl_Vv (As := [.int 1, .int v1_1]) (rest := []) (wc := (wcR ci aR_0 aR_1 aRG_0 aRS_0 zR_5)) (wr := ([2, 3, 4, 5, 6, 7, 8].filterMap (fun i => ((wcR ci aR_0 aR_1 aRG_0 aRS_0 zR_5) ++ ((wcG ci aRG_0 aRG_1 aRG_2 aRG_3 aRG_4 zRG) ++ (wcS ci aRS_0 aRS_1 zRS)))[i]?))) (w1 := (wcR ci aR_0 aR_1 aRG_0 aRS_0 zR_173)) (wn := ((wcR ci aR_0 aR_1 aRG_0 aRS_0 zR_173) ++ ((wcG ci aRG_0 aRG_1 aRG_2 aRG_3 aRG_4 zRG) ++ (wcS ci aRS_0 aRS_1 zRS)))) ⟨hx, hb, hml, hown, hts⟩ (cwV 2 hts gX4_readClause_X4_fail rfl rfl rfl (by decide +kernel) ⟨Nat.le_of_ble_eq_true rfl, Nat.le_of_ble_eq_true rfl⟩) (c_X4_fail l D ci aR_0 aR_1 aRG_0 aRS_0 H.size zR_5 (1 : Int32) v1_1 _ hc_174) hK hP hD hS hA [0, 1] [2, 3, 4, 5, 6, 7, 8] [7, 8, 0, 1, 2, 3, 4, 5, 6] rfl rfl rfl (by decide) 0 rfl rfl rfl rfl hl.1 (Nat.le_of_ble_eq_true rfl) dX4_readClause_163 (Nat.zero_le _) (Nat.zero_le _) (fun H locs hP hD hS => ?_)
        have hP : va_P D vwCl ((wcR ci aR_0 aR_1 aRG_0 aRS_0 zR_173) ++ ((wcG ci aRG_0 aRG_1 aRG_2 aRG_3 aRG_4 zRG) ++ (wcS ci aRS_0 aRS_1 zRS))) H := hP
        have hD : va_D A ((wcR ci aR_0 aR_1 aRG_0 aRS_0 zR_173) ++ ((wcG ci aRG_0 aRG_1 aRG_2 aRG_3 aRG_4 zRG) ++ (wcS ci aRS_0 aRS_1 zRS))) := hD
        refine lv_aload_n hx hb dX4_readClause_166 rfl (lv_at hl 2 rfl) ?_
        replace hF := bnd hF
        obtain ⟨zR_175, hc_176, hF⟩ := hF
        refine cl_Vv (As := []) (rest := []) (wc := (wcR ci aR_0 aR_1 aRG_0 aRS_0 zR_173)) (wr := ([2, 3, 4, 5, 6, 7, 8].filterMap (fun i => ((wcR ci aR_0 aR_1 aRG_0 aRS_0 zR_173) ++ ((wcG ci aRG_0 aRG_1 aRG_2 aRG_3 aRG_4 zRG) ++ (wcS ci aRS_0 aRS_1 zRS)))[i]?))) (w1 := (wcR ci aR_0 aR_1 aRG_0 aRS_0 zR_175)) (wn := ((wcR ci aR_0 aR_1 aRG_0 aRS_0 zR_175) ++ ((wcG ci aRG_0 aRG_1 aRG_2 aRG_3 aRG_4 zRG) ++ (wcS ci aRS_0 aRS_1 zRS)))) ⟨hx, hb, hml, hown, hts⟩ (cwV 0 hts gX4_readClause_X4_readEnd rfl rfl rfl (by decide +kernel) ⟨Nat.le_of_ble_eq_true rfl, Nat.le_of_ble_eq_true rfl⟩) (c_X4_readEnd l D ci aR_0 aR_1 aRG_0 aRS_0 H.size zR_173 _ hc_176) hK hP hD hS hA [0, 1] [2, 3, 4, 5, 6, 7, 8] [7, 8, 0, 1, 2, 3, 4, 5, 6] rfl rfl rfl (by decide) 0 rfl rfl rfl rfl hl.1 (Nat.le_of_ble_eq_true rfl) dX4_readClause_167 (Nat.zero_le _) (Nat.zero_le _) (fun H locs hP hD hS => ?_)
        have hP : va_P D vwCl ((wcR ci aR_0 aR_1 aRG_0 aRS_0 zR_175) ++ ((wcG ci aRG_0 aRG_1 aRG_2 aRG_3 aRG_4 zRG) ++ (wcS ci aRS_0 aRS_1 zRS))) H := hP
        have hD : va_D A ((wcR ci aR_0 aR_1 aRG_0 aRS_0 zR_175) ++ ((wcG ci aRG_0 aRG_1 aRG_2 aRG_3 aRG_4 zRG) ++ (wcS ci aRS_0 aRS_1 zRS))) := hD
        obtain rfl := Option.some.inj hF
        exact W.vret hx hb hr (fun t ht hW => ⟨⟨(), rfl, trivial, by rw [ht]; exact hP, va_K.moved hW.alike hK, hD⟩, hS.F ht⟩) hS.2.2 dX4_readClause_170
      replace hF := if_o c_172 hF
      by_cases c_177 : k_98 = 115
      · replace hF := if_i c_177 hF
        subst c_177
        refine lv_tableIn (tgt := 132) hx hb dX4_readClause_49 (by decide) (by decide) rfl (by decide) ?_
        refine lv_aload_n hx hb dX4_readClause_132 rfl (lv_at hl 2 rfl) ?_
        replace hF := bnd hF
        obtain ⟨q_181, hc_180, hF⟩ := hF
        obtain ⟨zR_178, ezR_178⟩ : ∃ y : RS, y = q_181.1 := ⟨_, rfl⟩
        replace hF := nm_i hF ezR_178
        obtain ⟨zRG_179, ezRG_179⟩ : ∃ y : GS, y = q_181.2 := ⟨_, rfl⟩
        replace hF := nm_i hF ezRG_179
        obtain rfl : q_181 = (zR_178, zRG_179) := by rw [ezR_178, ezRG_179]
        clear ezR_178
        clear ezRG_179
        refine cl_Vv (As := []) (rest := []) (wc := ((wcR ci aR_0 aR_1 aRG_0 aRS_0 zR_5) ++ (wcG ci aRG_0 aRG_1 aRG_2 aRG_3 aRG_4 zRG))) (wr := ([7, 8].filterMap (fun i => ((wcR ci aR_0 aR_1 aRG_0 aRS_0 zR_5) ++ ((wcG ci aRG_0 aRG_1 aRG_2 aRG_3 aRG_4 zRG) ++ (wcS ci aRS_0 aRS_1 zRS)))[i]?))) (w1 := ((wcR ci aR_0 aR_1 aRG_0 aRS_0 zR_178) ++ (wcG ci aRG_0 aRG_1 aRG_2 aRG_3 aRG_4 zRG_179))) (wn := ((wcR ci aR_0 aR_1 aRG_0 aRS_0 zR_178) ++ ((wcG ci aRG_0 aRG_1 aRG_2 aRG_3 aRG_4 zRG_179) ++ (wcS ci aRS_0 aRS_1 zRS)))) ⟨hx, hb, hml, hown, hts⟩ (cwV 0 hts gX4_readClause_X4_readSoil rfl rfl rfl (by decide +kernel) ⟨Nat.le_of_ble_eq_true rfl, Nat.le_of_ble_eq_true rfl⟩) (c_X4_readSoil l D ci aR_0 aR_1 aRG_0 aRS_0 aRG_1 aRG_2 aRG_3 aRG_4 H.size zR_5 zRG _ hc_180) hK hP hD hS hA [0, 1, 2, 3, 4, 5, 6] [7, 8] [2, 3, 4, 5, 6, 7, 8, 0, 1] rfl rfl rfl (by decide) 0 rfl rfl rfl rfl hl.1 (Nat.le_of_ble_eq_true rfl) dX4_readClause_133 (Nat.zero_le _) (Nat.zero_le _) (fun H locs hP hD hS => ?_)
        have hP : va_P D vwCl ((wcR ci aR_0 aR_1 aRG_0 aRS_0 zR_178) ++ ((wcG ci aRG_0 aRG_1 aRG_2 aRG_3 aRG_4 zRG_179) ++ (wcS ci aRS_0 aRS_1 zRS))) H := hP
        have hD : va_D A ((wcR ci aR_0 aR_1 aRG_0 aRS_0 zR_178) ++ ((wcG ci aRG_0 aRG_1 aRG_2 aRG_3 aRG_4 zRG_179) ++ (wcS ci aRS_0 aRS_1 zRS))) := hD
        refine lv_goto (tgt := 166) hx hb dX4_readClause_136 (by decide) ?_
        refine lv_aload_n hx hb dX4_readClause_166 rfl (lv_at hl 2 rfl) ?_
        replace hF := bnd hF
        obtain ⟨zR_182, hc_183, hF⟩ := hF
        refine cl_Vv (As := []) (rest := []) (wc := (wcR ci aR_0 aR_1 aRG_0 aRS_0 zR_178)) (wr := ([2, 3, 4, 5, 6, 7, 8].filterMap (fun i => ((wcR ci aR_0 aR_1 aRG_0 aRS_0 zR_178) ++ ((wcG ci aRG_0 aRG_1 aRG_2 aRG_3 aRG_4 zRG_179) ++ (wcS ci aRS_0 aRS_1 zRS)))[i]?))) (w1 := (wcR ci aR_0 aR_1 aRG_0 aRS_0 zR_182)) (wn := ((wcR ci aR_0 aR_1 aRG_0 aRS_0 zR_182) ++ ((wcG ci aRG_0 aRG_1 aRG_2 aRG_3 aRG_4 zRG_179) ++ (wcS ci aRS_0 aRS_1 zRS)))) ⟨hx, hb, hml, hown, hts⟩ (cwV 0 hts gX4_readClause_X4_readEnd rfl rfl rfl (by decide +kernel) ⟨Nat.le_of_ble_eq_true rfl, Nat.le_of_ble_eq_true rfl⟩) (c_X4_readEnd l D ci aR_0 aR_1 aRG_0 aRS_0 H.size zR_178 _ hc_183) hK hP hD hS hA [0, 1] [2, 3, 4, 5, 6, 7, 8] [7, 8, 0, 1, 2, 3, 4, 5, 6] rfl rfl rfl (by decide) 0 rfl rfl rfl rfl hl.1 (Nat.le_of_ble_eq_true rfl) dX4_readClause_167 (Nat.zero_le _) (Nat.zero_le _) (fun H locs hP hD hS => ?_)
        have hP : va_P D vwCl ((wcR ci aR_0 aR_1 aRG_0 aRS_0 zR_182) ++ ((wcG ci aRG_0 aRG_1 aRG_2 aRG_3 aRG_4 zRG_179) ++ (wcS ci aRS_0 aRS_1 zRS))) H := hP
        have hD : va_D A ((wcR ci aR_0 aR_1 aRG_0 aRS_0 zR_182) ++ ((wcG ci aRG_0 aRG_1 aRG_2 aRG_3 aRG_4 zRG_179) ++ (wcS ci aRS_0 aRS_1 zRS))) := hD
        obtain rfl := Option.some.inj hF
        exact W.vret hx hb hr (fun t ht hW => ⟨⟨(), rfl, trivial, by rw [ht]; exact hP, va_K.moved hW.alike hK, hD⟩, hS.F ht⟩) hS.2.2 dX4_readClause_170
      replace hF := if_o c_177 hF
      have tc_99 := lv_neT c_99 (a := 101) (by decide)
      have tc_106 := lv_neT c_106 (a := 102) (by decide)
      have tc_111 := lv_neT c_111 (a := 103) (by decide)
      have tc_118 := lv_neT c_118 (a := 104) (by decide)
      have tc_125 := lv_neT c_125 (a := 105) (by decide)
      have tc_130 := lv_neT c_130 (a := 106) (by decide)
      have tc_135 := lv_neT c_135 (a := 107) (by decide)
      have tc_140 := lv_neT c_140 (a := 108) (by decide)
      have tc_145 := lv_neT c_145 (a := 109) (by decide)
      have tc_150 := lv_neT c_150 (a := 110) (by decide)
      have tc_155 := lv_neT c_155 (a := 111) (by decide)
      have tc_160 := lv_neT c_160 (a := 112) (by decide)
      have tc_167 := lv_neT c_167 (a := 113) (by decide)
      have tc_172 := lv_neT c_172 (a := 114) (by decide)
      have tc_177 := lv_neT c_177 (a := 115) (by decide)
      refine lv_tableOut (tgt := 160) hx hb dX4_readClause_49 (by omega) (by decide) ?_
      refine lv_aload_n hx hb dX4_readClause_160 rfl (lv_at hl 2 rfl) ?_
      refine lv_iconst (v := 1) hx hb dX4_readClause_161 (by decide) ?_
      refine lv_iload_n hx hb dX4_readClause_162 rfl (lv_at hl 1 rfl) ?_
      replace hF := bnd hF
      obtain ⟨zR_184, hc_185, hF⟩ := hF
      refine cl_Vv (As := [.int 1, .int v1_1]) (rest := []) (wc := (wcR ci aR_0 aR_1 aRG_0 aRS_0 zR_5)) (wr := ([2, 3, 4, 5, 6, 7, 8].filterMap (fun i => ((wcR ci aR_0 aR_1 aRG_0 aRS_0 zR_5) ++ ((wcG ci aRG_0 aRG_1 aRG_2 aRG_3 aRG_4 zRG) ++ (wcS ci aRS_0 aRS_1 zRS)))[i]?))) (w1 := (wcR ci aR_0 aR_1 aRG_0 aRS_0 zR_184)) (wn := ((wcR ci aR_0 aR_1 aRG_0 aRS_0 zR_184) ++ ((wcG ci aRG_0 aRG_1 aRG_2 aRG_3 aRG_4 zRG) ++ (wcS ci aRS_0 aRS_1 zRS)))) ⟨hx, hb, hml, hown, hts⟩ (cwV 2 hts gX4_readClause_X4_fail rfl rfl rfl (by decide +kernel) ⟨Nat.le_of_ble_eq_true rfl, Nat.le_of_ble_eq_true rfl⟩) (c_X4_fail l D ci aR_0 aR_1 aRG_0 aRS_0 H.size zR_5 (1 : Int32) v1_1 _ hc_185) hK hP hD hS hA [0, 1] [2, 3, 4, 5, 6, 7, 8] [7, 8, 0, 1, 2, 3, 4, 5, 6] rfl rfl rfl (by decide) 0 rfl rfl rfl rfl hl.1 (Nat.le_of_ble_eq_true rfl) dX4_readClause_163 (Nat.zero_le _) (Nat.zero_le _) (fun H locs hP hD hS => ?_)
      have hP : va_P D vwCl ((wcR ci aR_0 aR_1 aRG_0 aRS_0 zR_184) ++ ((wcG ci aRG_0 aRG_1 aRG_2 aRG_3 aRG_4 zRG) ++ (wcS ci aRS_0 aRS_1 zRS))) H := hP
      have hD : va_D A ((wcR ci aR_0 aR_1 aRG_0 aRS_0 zR_184) ++ ((wcG ci aRG_0 aRG_1 aRG_2 aRG_3 aRG_4 zRG) ++ (wcS ci aRS_0 aRS_1 zRS))) := hD
      refine lv_aload_n hx hb dX4_readClause_166 rfl (lv_at hl 2 rfl) ?_
      replace hF := bnd hF
      obtain ⟨zR_186, hc_187, hF⟩ := hF
      refine cl_Vv (As := []) (rest := []) (wc := (wcR ci aR_0 aR_1 aRG_0 aRS_0 zR_184)) (wr := ([2, 3, 4, 5, 6, 7, 8].filterMap (fun i => ((wcR ci aR_0 aR_1 aRG_0 aRS_0 zR_184) ++ ((wcG ci aRG_0 aRG_1 aRG_2 aRG_3 aRG_4 zRG) ++ (wcS ci aRS_0 aRS_1 zRS)))[i]?))) (w1 := (wcR ci aR_0 aR_1 aRG_0 aRS_0 zR_186)) (wn := ((wcR ci aR_0 aR_1 aRG_0 aRS_0 zR_186) ++ ((wcG ci aRG_0 aRG_1 aRG_2 aRG_3 aRG_4 zRG) ++ (wcS ci aRS_0 aRS_1 zRS)))) ⟨hx, hb, hml, hown, hts⟩ (cwV 0 hts gX4_readClause_X4_readEnd rfl rfl rfl (by decide +kernel) ⟨Nat.le_of_ble_eq_true rfl, Nat.le_of_ble_eq_true rfl⟩) (c_X4_readEnd l D ci aR_0 aR_1 aRG_0 aRS_0 H.size zR_184 _ hc_187) hK hP hD hS hA [0, 1] [2, 3, 4, 5, 6, 7, 8] [7, 8, 0, 1, 2, 3, 4, 5, 6] rfl rfl rfl (by decide) 0 rfl rfl rfl rfl hl.1 (Nat.le_of_ble_eq_true rfl) dX4_readClause_167 (Nat.zero_le _) (Nat.zero_le _) (fun H locs hP hD hS => ?_)
      have hP : va_P D vwCl ((wcR ci aR_0 aR_1 aRG_0 aRS_0 zR_186) ++ ((wcG ci aRG_0 aRG_1 aRG_2 aRG_3 aRG_4 zRG) ++ (wcS ci aRS_0 aRS_1 zRS))) H := hP
      have hD : va_D A ((wcR ci aR_0 aR_1 aRG_0 aRS_0 zR_186) ++ ((wcG ci aRG_0 aRG_1 aRG_2 aRG_3 aRG_4 zRG) ++ (wcS ci aRS_0 aRS_1 zRS))) := hD
      obtain rfl := Option.some.inj hF
      exact W.vret hx hb hr (fun t ht hW => ⟨⟨(), rfl, trivial, by rw [ht]; exact hP, va_K.moved hW.alike hK, hD⟩, hS.F ht⟩) hS.2.2 dX4_readClause_170
    · replace hF := if_o c_97 hF
      refine lv_aload_n hx hb dX4_readClause_41 rfl (lv_at hl 2 rfl) ?_
      refine lv_iconst (v := 1) hx hb dX4_readClause_42 (by decide) ?_
      refine lv_iload_n hx hb dX4_readClause_43 rfl (lv_at hl 1 rfl) ?_
      replace hF := bnd hF
      obtain ⟨zR_188, hc_189, hF⟩ := hF
      refine cl_Vv (As := [.int 1, .int v1_1]) (rest := []) (wc := (wcR ci aR_0 aR_1 aRG_0 aRS_0 zR_5)) (wr := ([2, 3, 4, 5, 6, 7, 8].filterMap (fun i => ((wcR ci aR_0 aR_1 aRG_0 aRS_0 zR_5) ++ ((wcG ci aRG_0 aRG_1 aRG_2 aRG_3 aRG_4 zRG) ++ (wcS ci aRS_0 aRS_1 zRS)))[i]?))) (w1 := (wcR ci aR_0 aR_1 aRG_0 aRS_0 zR_188)) (wn := ((wcR ci aR_0 aR_1 aRG_0 aRS_0 zR_188) ++ ((wcG ci aRG_0 aRG_1 aRG_2 aRG_3 aRG_4 zRG) ++ (wcS ci aRS_0 aRS_1 zRS)))) ⟨hx, hb, hml, hown, hts⟩ (cwV 2 hts gX4_readClause_X4_fail rfl rfl rfl (by decide +kernel) ⟨Nat.le_of_ble_eq_true rfl, Nat.le_of_ble_eq_true rfl⟩) (c_X4_fail l D ci aR_0 aR_1 aRG_0 aRS_0 H.size zR_5 (1 : Int32) v1_1 _ hc_189) hK hP hD hS hA [0, 1] [2, 3, 4, 5, 6, 7, 8] [7, 8, 0, 1, 2, 3, 4, 5, 6] rfl rfl rfl (by decide) 0 rfl rfl rfl rfl hl.1 (Nat.le_of_ble_eq_true rfl) dX4_readClause_44 (Nat.zero_le _) (Nat.zero_le _) (fun H locs hP hD hS => ?_)
      have hP : va_P D vwCl ((wcR ci aR_0 aR_1 aRG_0 aRS_0 zR_188) ++ ((wcG ci aRG_0 aRG_1 aRG_2 aRG_3 aRG_4 zRG) ++ (wcS ci aRS_0 aRS_1 zRS))) H := hP
      have hD : va_D A ((wcR ci aR_0 aR_1 aRG_0 aRS_0 zR_188) ++ ((wcG ci aRG_0 aRG_1 aRG_2 aRG_3 aRG_4 zRG) ++ (wcS ci aRS_0 aRS_1 zRS))) := hD
      obtain rfl := Option.some.inj hF
      exact W.vret hx hb hr (fun t ht hW => ⟨⟨(), rfl, trivial, by rw [ht]; exact hP, va_K.moved hW.alike hK, hD⟩, hS.F ht⟩) hS.2.2 dX4_readClause_47
noncomputable def L_X4_readText_35 : Nat → Int32 → RS → GS → SS → Option (Int32 × RS × GS × SS)
  | 0, _, _, _, _ => none
  | n + 1, v1_11, zR_12, zRG_13, zRS_14 => if (240 : Int32) ≤ v1_11 then (some (v1_11, zR_12, zRG_13, zRS_14)) else (if (zR_12.1 3) ≤ (zR_12.1 4) then (some (v1_11, zR_12, zRG_13, zRS_14)) else (if (zR_12.1 6) = 0 then ((f_X4_readClause zR_12 zRG_13 zRS_14).bind fun q_40 => nm q_40.1 fun zR_36 => nm q_40.2.1 fun zRG_37 => nm q_40.2.2 fun zRS_38 => (f_X4_skipBlanks zR_36).bind fun zR_41 => nm (v1_11 + 1) fun v1_43 => L_X4_readText_35 n v1_43 zR_41 zRG_37 zRS_38) else (some (v1_11, zR_12, zRG_13, zRS_14))))
noncomputable def f_X4_readText (zR : RS) (zRG : GS) (zRS : SS) : Option (RS × GS × SS) := (f_X0_clear zRG).bind fun zRG_1 => (f_X5_clear zRS).bind fun zRS_3 => nm ((upd zR.1 4 0, zR.2) : RS) fun zR_5 => nm ((upd zR_5.1 6 0, zR_5.2) : RS) fun zR_6 => nm ((upd zR_6.1 7 (-1), zR_6.2) : RS) fun zR_7 => (f_X4_skipBlanks zR_7).bind fun zR_8 => nm (0 : Int32) fun v1_10 => (L_X4_readText_35 3000 v1_10 zR_8 zRG_1 zRS_3).bind fun q_45 => nm q_45.1 fun v1_17 => nm q_45.2.1 fun zR_18 => nm q_45.2.2.1 fun zRG_19 => nm q_45.2.2.2 fun zRS_20 => some (zR_18, zRG_19, zRS_20)
set_option maxHeartbeats 4000000 in
set_option maxRecDepth 100000 in
theorem c_X4_readText (l : Launch) (D : va_G) (ci : Nat → ClassId) (aR_0 : Nat) (aR_1 : Nat) (aRG_0 : Nat) (aRS_0 : Nat) (aRG_1 : Nat) (aRG_2 : Nat) (aRG_3 : Nat) (aRG_4 : Nat) (aRS_1 : Nat) (sz : Nat) (zR : RS) (zRG : GS) (zRS : SS) (res : RS × GS × SS) (hF : f_X4_readText zR zRG zRS = some res) : CtV l yX4_readText wsX4_readText { frames := 5, cells := 0, slots := 0, locals := 111 } [.ref aR_0] D ci ((wcR ci aR_0 aR_1 aRG_0 aRS_0 zR) ++ ((wcG ci aRG_0 aRG_1 aRG_2 aRG_3 aRG_4 zRG) ++ (wcS ci aRS_0 aRS_1 zRS))) sz ((wcR ci aR_0 aR_1 aRG_0 aRS_0 res.1) ++ ((wcG ci aRG_0 aRG_1 aRG_2 aRG_3 aRG_4 res.2.1) ++ (wcS ci aRS_0 aRS_1 res.2.2))) := by
  refine Met.ofW (cc := cX4_readText) (maxL := 2) (ret := none) (by decide) rfl ?_
  intro p e s m args below meth c s₁ B hml hv
  obtain ⟨rfl, hsz, hP, hK, hD0⟩ := hv
  have hx := B.exec
  have hb := B.bytes
  have hr := B.returns
  have hts := atoms_spec (ws := wsX4_readText) B.pre
  have hown : s.vm.findClass RX4 = some m.cls := findClass_of_methodNamed B.named
  have hlocks := B.notSynchronized
  subst hsz
  have hD := hD0.self (sz := s.heap.size)
  generalize hAe : va_A ((wcR ci aR_0 aR_1 aRG_0 aRS_0 zR) ++ ((wcG ci aRG_0 aRG_1 aRG_2 aRG_3 aRG_4 zRG) ++ (wcS ci aRS_0 aRS_1 zRS))) s.heap.size = A at hD ⊢
  have hA : ∀ q : Nat, s.heap.size ≤ q → A q := fun q h => by rw [← hAe]; exact Or.inr h
  clear hD0 hAe
  have hl := lv_entry ([.ref aR_0]) (n := 2) (Nat.le_of_ble_eq_true rfl)
  rw [lg_entry_eq]
  generalize (lg_sl ([.ref aR_0]) ++ List.replicate (2 - (lg_sl ([.ref aR_0])).length) Slot.unset).toArray = ls at hl ⊢
  have hl : lv_has ls 2 [(0, .ref aR_0)] := hl
  have hP : va_P D vwCl ((wcR ci aR_0 aR_1 aRG_0 aRS_0 zR) ++ ((wcG ci aRG_0 aRG_1 aRG_2 aRG_3 aRG_4 zRG) ++ (wcS ci aRS_0 aRS_1 zRS))) s.heap := hP
  generalize hH0 : s.heap = H at hP ⊢
  have hS : va_S A s.heap H [] := by rw [← hH0]; exact va_S.rf
  clear hH0
  generalize ([] : List Loc) = locs at hS ⊢
  have hk_0 := hts (.fieldLink RX4 18 "HedgeWar$Reader" "ground" "LHedgeWar$Ground;") (by decide +kernel)
  have hin_RX4 : ∀ w ∈ wsX40, w ∈ wsX4_readText := by decide +kernel
  have hk_2 := hts (.fieldLink RX4 25 "HedgeWar$Reader" "stand" "LHedgeWar$Stand;") (by decide +kernel)
  have hk_3 := hts (.fieldLink RX4 33 "HedgeWar$Reader" "at" "I") (by decide +kernel)
  have hk_4 := hts (.fieldLink RX4 37 "HedgeWar$Reader" "faultNumber" "I") (by decide +kernel)
  have hk_5 := hts (.fieldLink RX4 40 "HedgeWar$Reader" "faultPlace" "I") (by decide +kernel)
  have hk_6 := hts (.fieldLink RX4 46 "HedgeWar$Reader" "letters" "I") (by decide +kernel)
  unfold f_X4_readText at hF
  refine lv_aload_n hx hb dX4_readText_0 rfl (lv_at hl 0 rfl) ?_
  refine va_get (D := D) (ci := 4) (v := .ref aRG_0) (C := RX4) (T := TX4) (N := 8) hx hb hts hin_RX4 hown hK hP 0 rfl rfl 1 (by decide) hk_0 (fun _ h9 => h9) rfl dX4_readText_1 ?_
  replace hF := bnd hF
  obtain ⟨zRG_1, hc_2, hF⟩ := hF
  refine cl_Vv (As := []) (rest := []) (wc := (wcG ci aRG_0 aRG_1 aRG_2 aRG_3 aRG_4 zRG)) (wr := ([0, 1, 7, 8].filterMap (fun i => ((wcR ci aR_0 aR_1 aRG_0 aRS_0 zR) ++ ((wcG ci aRG_0 aRG_1 aRG_2 aRG_3 aRG_4 zRG) ++ (wcS ci aRS_0 aRS_1 zRS)))[i]?))) (w1 := (wcG ci aRG_0 aRG_1 aRG_2 aRG_3 aRG_4 zRG_1)) (wn := ((wcR ci aR_0 aR_1 aRG_0 aRS_0 zR) ++ ((wcG ci aRG_0 aRG_1 aRG_2 aRG_3 aRG_4 zRG_1) ++ (wcS ci aRS_0 aRS_1 zRS)))) ⟨hx, hb, hml, hown, hts⟩ (cwV 0 hts gX4_readText_X0_clear rfl rfl rfl (by decide +kernel) ⟨Nat.le_of_ble_eq_true rfl, Nat.le_of_ble_eq_true rfl⟩) (c_X0_clear l D ci aRG_0 aRG_1 aRG_2 aRG_3 aRG_4 H.size zRG _ hc_2) hK hP hD hS hA [2, 3, 4, 5, 6] [0, 1, 7, 8] [0, 1, 4, 5, 6, 7, 8, 2, 3] rfl rfl rfl (by decide) 0 rfl rfl rfl rfl hl.1 (Nat.le_of_ble_eq_true rfl) dX4_readText_4 (Nat.zero_le _) (Nat.zero_le _) (fun H locs hP hD hS => ?_)
  have hP : va_P D vwCl ((wcR ci aR_0 aR_1 aRG_0 aRS_0 zR) ++ ((wcG ci aRG_0 aRG_1 aRG_2 aRG_3 aRG_4 zRG_1) ++ (wcS ci aRS_0 aRS_1 zRS))) H := hP
  have hD : va_D A ((wcR ci aR_0 aR_1 aRG_0 aRS_0 zR) ++ ((wcG ci aRG_0 aRG_1 aRG_2 aRG_3 aRG_4 zRG_1) ++ (wcS ci aRS_0 aRS_1 zRS))) := hD
  refine lv_aload_n hx hb dX4_readText_7 rfl (lv_at hl 0 rfl) ?_
  refine va_get (D := D) (ci := 4) (v := .ref aRS_0) (C := RX4) (T := TX4) (N := 8) hx hb hts hin_RX4 hown hK hP 0 rfl rfl 2 (by decide) hk_2 (fun _ h9 => h9) rfl dX4_readText_8 ?_
  replace hF := bnd hF
  obtain ⟨zRS_3, hc_4, hF⟩ := hF
  refine cl_Vv (As := []) (rest := []) (wc := (wcS ci aRS_0 aRS_1 zRS)) (wr := ([0, 1, 2, 3, 4, 5, 6].filterMap (fun i => ((wcR ci aR_0 aR_1 aRG_0 aRS_0 zR) ++ ((wcG ci aRG_0 aRG_1 aRG_2 aRG_3 aRG_4 zRG_1) ++ (wcS ci aRS_0 aRS_1 zRS)))[i]?))) (w1 := (wcS ci aRS_0 aRS_1 zRS_3)) (wn := ((wcR ci aR_0 aR_1 aRG_0 aRS_0 zR) ++ ((wcG ci aRG_0 aRG_1 aRG_2 aRG_3 aRG_4 zRG_1) ++ (wcS ci aRS_0 aRS_1 zRS_3)))) ⟨hx, hb, hml, hown, hts⟩ (cwV 0 hts gX4_readText_X5_clear rfl rfl rfl (by decide +kernel) ⟨Nat.le_of_ble_eq_true rfl, Nat.le_of_ble_eq_true rfl⟩) (c_X5_clear l D ci aRS_0 aRS_1 H.size zRS _ hc_4) hK hP hD hS hA [7, 8] [0, 1, 2, 3, 4, 5, 6] [0, 1, 2, 3, 4, 5, 6, 7, 8] rfl rfl rfl (by decide) 0 rfl rfl rfl rfl hl.1 (Nat.le_of_ble_eq_true rfl) dX4_readText_11 (Nat.zero_le _) (Nat.zero_le _) (fun H locs hP hD hS => ?_)
  have hP : va_P D vwCl ((wcR ci aR_0 aR_1 aRG_0 aRS_0 zR) ++ ((wcG ci aRG_0 aRG_1 aRG_2 aRG_3 aRG_4 zRG_1) ++ (wcS ci aRS_0 aRS_1 zRS_3))) H := hP
  have hD : va_D A ((wcR ci aR_0 aR_1 aRG_0 aRS_0 zR) ++ ((wcG ci aRG_0 aRG_1 aRG_2 aRG_3 aRG_4 zRG_1) ++ (wcS ci aRS_0 aRS_1 zRS_3))) := hD
  refine lv_aload_n hx hb dX4_readText_14 rfl (lv_at hl 0 rfl) ?_
  refine lv_iconst (v := 0) hx hb dX4_readText_15 (by decide) ?_
  refine va_put (D := D) (ci := 4) (v := .int 0) (ty := .int) (C := RX4) (T := TX4) (N := 8) hx hb hts hin_RX4 tyX4 tyX4_ok nmX4 hown hK hP hD hS 0 rfl rfl 4 (by decide) hk_3 (fun _ h9 => h9) rfl (by decide +kernel) rfl rfl (Nat.le_of_ble_eq_true rfl) dX4_readText_16 (fun H locs hP hD hS => ?_)
  obtain ⟨zR_5, ezR_5⟩ : ∃ y : RS, y = (upd zR.1 4 0, zR.2) := ⟨_, rfl⟩
  replace hF := nm_i hF ezR_5
  have hP : va_P D vwCl ((wcR ci aR_0 aR_1 aRG_0 aRS_0 zR_5) ++ ((wcG ci aRG_0 aRG_1 aRG_2 aRG_3 aRG_4 zRG_1) ++ (wcS ci aRS_0 aRS_1 zRS_3))) H := by rw [ezR_5]; exact hP
  have hD : va_D A ((wcR ci aR_0 aR_1 aRG_0 aRS_0 zR_5) ++ ((wcG ci aRG_0 aRG_1 aRG_2 aRG_3 aRG_4 zRG_1) ++ (wcS ci aRS_0 aRS_1 zRS_3))) := by rw [ezR_5]; exact hD
  refine lv_aload_n hx hb dX4_readText_19 rfl (lv_at hl 0 rfl) ?_
  refine lv_iconst (v := 0) hx hb dX4_readText_20 (by decide) ?_
  refine va_put (D := D) (ci := 4) (v := .int 0) (ty := .int) (C := RX4) (T := TX4) (N := 8) hx hb hts hin_RX4 tyX4 tyX4_ok nmX4 hown hK hP hD hS 0 rfl rfl 6 (by decide) hk_4 (fun _ h9 => h9) rfl (by decide +kernel) rfl rfl (Nat.le_of_ble_eq_true rfl) dX4_readText_21 (fun H locs hP hD hS => ?_)
  obtain ⟨zR_6, ezR_6⟩ : ∃ y : RS, y = (upd zR_5.1 6 0, zR_5.2) := ⟨_, rfl⟩
  replace hF := nm_i hF ezR_6
  have hP : va_P D vwCl ((wcR ci aR_0 aR_1 aRG_0 aRS_0 zR_6) ++ ((wcG ci aRG_0 aRG_1 aRG_2 aRG_3 aRG_4 zRG_1) ++ (wcS ci aRS_0 aRS_1 zRS_3))) H := by rw [ezR_6]; exact hP
  have hD : va_D A ((wcR ci aR_0 aR_1 aRG_0 aRS_0 zR_6) ++ ((wcG ci aRG_0 aRG_1 aRG_2 aRG_3 aRG_4 zRG_1) ++ (wcS ci aRS_0 aRS_1 zRS_3))) := by rw [ezR_6]; exact hD
  refine lv_aload_n hx hb dX4_readText_24 rfl (lv_at hl 0 rfl) ?_
  refine lv_iconst (v := (-1)) hx hb dX4_readText_25 (by decide) ?_
  refine va_put (D := D) (ci := 4) (v := .int (-1)) (ty := .int) (C := RX4) (T := TX4) (N := 8) hx hb hts hin_RX4 tyX4 tyX4_ok nmX4 hown hK hP hD hS 0 rfl rfl 7 (by decide) hk_5 (fun _ h9 => h9) rfl (by decide +kernel) rfl rfl (Nat.le_of_ble_eq_true rfl) dX4_readText_26 (fun H locs hP hD hS => ?_)
  obtain ⟨zR_7, ezR_7⟩ : ∃ y : RS, y = (upd zR_6.1 7 (-1), zR_6.2) := ⟨_, rfl⟩
  replace hF := nm_i hF ezR_7
  have hP : va_P D vwCl ((wcR ci aR_0 aR_1 aRG_0 aRS_0 zR_7) ++ ((wcG ci aRG_0 aRG_1 aRG_2 aRG_3 aRG_4 zRG_1) ++ (wcS ci aRS_0 aRS_1 zRS_3))) H := by rw [ezR_7]; exact hP
  have hD : va_D A ((wcR ci aR_0 aR_1 aRG_0 aRS_0 zR_7) ++ ((wcG ci aRG_0 aRG_1 aRG_2 aRG_3 aRG_4 zRG_1) ++ (wcS ci aRS_0 aRS_1 zRS_3))) := by rw [ezR_7]; exact hD
  refine lv_aload_n hx hb dX4_readText_29 rfl (lv_at hl 0 rfl) ?_
  replace hF := bnd hF
  obtain ⟨zR_8, hc_9, hF⟩ := hF
  refine cl_Vv (As := []) (rest := []) (wc := (wcR ci aR_0 aR_1 aRG_0 aRS_0 zR_7)) (wr := ([2, 3, 4, 5, 6, 7, 8].filterMap (fun i => ((wcR ci aR_0 aR_1 aRG_0 aRS_0 zR_7) ++ ((wcG ci aRG_0 aRG_1 aRG_2 aRG_3 aRG_4 zRG_1) ++ (wcS ci aRS_0 aRS_1 zRS_3)))[i]?))) (w1 := (wcR ci aR_0 aR_1 aRG_0 aRS_0 zR_8)) (wn := ((wcR ci aR_0 aR_1 aRG_0 aRS_0 zR_8) ++ ((wcG ci aRG_0 aRG_1 aRG_2 aRG_3 aRG_4 zRG_1) ++ (wcS ci aRS_0 aRS_1 zRS_3)))) ⟨hx, hb, hml, hown, hts⟩ (cwV 0 hts gX4_readText_X4_skipBlanks rfl rfl rfl (by decide +kernel) ⟨Nat.le_of_ble_eq_true rfl, Nat.le_of_ble_eq_true rfl⟩) (c_X4_skipBlanks l D ci aR_0 aR_1 aRG_0 aRS_0 H.size zR_7 _ hc_9) hK hP hD hS hA [0, 1] [2, 3, 4, 5, 6, 7, 8] [7, 8, 0, 1, 2, 3, 4, 5, 6] rfl rfl rfl (by decide) 0 rfl rfl rfl rfl hl.1 (Nat.le_of_ble_eq_true rfl) dX4_readText_30 (Nat.zero_le _) (Nat.zero_le _) (fun H locs hP hD hS => ?_)
  have hP : va_P D vwCl ((wcR ci aR_0 aR_1 aRG_0 aRS_0 zR_8) ++ ((wcG ci aRG_0 aRG_1 aRG_2 aRG_3 aRG_4 zRG_1) ++ (wcS ci aRS_0 aRS_1 zRS_3))) H := hP
  have hD : va_D A ((wcR ci aR_0 aR_1 aRG_0 aRS_0 zR_8) ++ ((wcG ci aRG_0 aRG_1 aRG_2 aRG_3 aRG_4 zRG_1) ++ (wcS ci aRS_0 aRS_1 zRS_3))) := hD
  refine lv_iconst (v := 0) hx hb dX4_readText_33 (by decide) ?_
  refine lv_topi (fun v1_10 ev1_10 => ?_)
  replace hF := nm_i hF ev1_10
  refine lv_istore_n (lv' := [(1, .int v1_10), (0, .ref aR_0)]) hx hb dX4_readText_34 rfl hl (by decide) rfl (fun ls hl => ?_)
  replace hF := bnd hF
  obtain ⟨q_45, hv_44, hF⟩ := hF
  obtain ⟨v1_17, ev1_17⟩ : ∃ y : Int32, y = q_45.1 := ⟨_, rfl⟩
  replace hF := nm_i hF ev1_17
  obtain ⟨zR_18, ezR_18⟩ : ∃ y : RS, y = q_45.2.1 := ⟨_, rfl⟩
  replace hF := nm_i hF ezR_18
  obtain ⟨zRG_19, ezRG_19⟩ : ∃ y : GS, y = q_45.2.2.1 := ⟨_, rfl⟩
  replace hF := nm_i hF ezRG_19
  obtain ⟨zRS_20, ezRS_20⟩ : ∃ y : SS, y = q_45.2.2.2 := ⟨_, rfl⟩
  replace hF := nm_i hF ezRS_20
  obtain rfl : q_45 = (v1_17, zR_18, zRG_19, zRS_20) := by rw [ev1_17, ezR_18, ezRG_19, ezRS_20]
  clear ev1_17
  clear ezR_18
  clear ezRG_19
  clear ezRS_20
  refine jn (P := fun H locs ls => va_P D vwCl ((wcR ci aR_0 aR_1 aRG_0 aRS_0 zR_18) ++ ((wcG ci aRG_0 aRG_1 aRG_2 aRG_3 aRG_4 zRG_19) ++ (wcS ci aRS_0 aRS_1 zRS_20))) H ∧ va_D A ((wcR ci aR_0 aR_1 aRG_0 aRS_0 zR_18) ++ ((wcG ci aRG_0 aRG_1 aRG_2 aRG_3 aRG_4 zRG_19) ++ (wcS ci aRS_0 aRS_1 zRS_20))) ∧ va_S A s.heap H locs ∧ lv_has ls 2 [(0, .ref aR_0), (1, .int v1_17)]) (pcJ := 74) (st := []) ?_ ?_
  · intro H locs ls hJ
    obtain ⟨hP, hD, hS, hl⟩ := hJ
    obtain rfl := Option.some.inj hF
    exact W.vret hx hb hr (fun t ht hW => ⟨⟨(), rfl, trivial, by rw [ht]; exact hP, va_K.moved hW.alike hK, hD⟩, hS.F ht⟩) hS.2.2 dX4_readText_74
  · intro J_16
    clear hF
    have hF := hv_44
    refine lpW (σ := Int32 × RS × GS × SS) (I := fun n v H locs ls => L_X4_readText_35 n v.1 v.2.1 v.2.2.1 v.2.2.2 = some (v1_17, zR_18, zRG_19, zRS_20) ∧ va_P D vwCl ((wcR ci aR_0 aR_1 aRG_0 aRS_0 v.2.1) ++ ((wcG ci aRG_0 aRG_1 aRG_2 aRG_3 aRG_4 v.2.2.1) ++ (wcS ci aRS_0 aRS_1 v.2.2.2))) H ∧ va_D A ((wcR ci aR_0 aR_1 aRG_0 aRS_0 v.2.1) ++ ((wcG ci aRG_0 aRG_1 aRG_2 aRG_3 aRG_4 v.2.2.1) ++ (wcS ci aRS_0 aRS_1 v.2.2.2))) ∧ va_S A s.heap H locs ∧ lv_has ls 2 [(0, .ref aR_0), (1, .int v.1)]) 3000 (v1_10, zR_8, zRG_1, zRS_3) (fun _ _ _ _ h => no_none h.1) ⟨hF, hP, hD, hS, lv_sub hl [1, 0] rfl⟩ ?_
    clear hF hP hD hS hl
    intro n ih_15 vq H locs ls hI
    obtain ⟨v1_11, zR_12, zRG_13, zRS_14⟩ := vq
    obtain ⟨hF, hP, hD, hS, hl⟩ := hI
    have hP : va_P D vwCl ((wcR ci aR_0 aR_1 aRG_0 aRS_0 zR_12) ++ ((wcG ci aRG_0 aRG_1 aRG_2 aRG_3 aRG_4 zRG_13) ++ (wcS ci aRS_0 aRS_1 zRS_14))) H := hP
    have hD : va_D A ((wcR ci aR_0 aR_1 aRG_0 aRS_0 zR_12) ++ ((wcG ci aRG_0 aRG_1 aRG_2 aRG_3 aRG_4 zRG_13) ++ (wcS ci aRS_0 aRS_1 zRS_14))) := hD
    have hl : lv_has ls 2 [(0, .ref aR_0), (1, .int v1_11)] := hl
    replace hF : L_X4_readText_35 (n + 1) v1_11 zR_12 zRG_13 zRS_14 = some (v1_17, zR_18, zRG_19, zRS_20) := hF
    rw [L_X4_readText_35] at hF
    refine lv_iload_n hx hb dX4_readText_35 rfl (lv_at hl 1 rfl) ?_
    refine lv_sipush (v := 240) hx hb dX4_readText_36 (by decide) ?_
    refine lv_icmp_ge (tgt := 74) hx hb dX4_readText_39 (by decide) (fun c_21 => ?_) (fun c_21 => ?_)
    · replace hF := if_i c_21 hF
      obtain ⟨g_22, g_23, g_24, g_25⟩ : v1_11 = v1_17 ∧ zR_12 = zR_18 ∧ zRG_13 = zRG_19 ∧ zRS_14 = zRS_20 := by have h9 := Option.some.inj hF; simpa only [Prod.mk.injEq] using h9
      subst g_22
      subst g_23
      subst g_24
      subst g_25
      exact J_16 H locs ls ⟨hP, hD, hS, lv_sub hl [0, 1] rfl⟩
    · replace hF := if_o c_21 hF
      refine lv_aload_n hx hb dX4_readText_42 rfl (lv_at hl 0 rfl) ?_
      refine va_get (D := D) (ci := 4) (v := .int (zR_12.1 4)) (C := RX4) (T := TX4) (N := 8) hx hb hts hin_RX4 hown hK hP 0 rfl rfl 4 (by decide) hk_3 (fun _ h9 => h9) rfl dX4_readText_43 ?_
      refine lv_aload_n hx hb dX4_readText_46 rfl (lv_at hl 0 rfl) ?_
      refine va_get (D := D) (ci := 4) (v := .int (zR_12.1 3)) (C := RX4) (T := TX4) (N := 8) hx hb hts hin_RX4 hown hK hP 0 rfl rfl 3 (by decide) hk_6 (fun _ h9 => h9) rfl dX4_readText_47 ?_
      refine lv_icmp_ge (tgt := 74) hx hb dX4_readText_50 (by decide) (fun c_26 => ?_) (fun c_26 => ?_)
      · replace hF := if_i c_26 hF
        obtain ⟨g_27, g_28, g_29, g_30⟩ : v1_11 = v1_17 ∧ zR_12 = zR_18 ∧ zRG_13 = zRG_19 ∧ zRS_14 = zRS_20 := by have h9 := Option.some.inj hF; simpa only [Prod.mk.injEq] using h9
        subst g_27
        subst g_28
        subst g_29
        subst g_30
        exact J_16 H locs ls ⟨hP, hD, hS, lv_sub hl [0, 1] rfl⟩
      · replace hF := if_o c_26 hF
        refine lv_aload_n hx hb dX4_readText_53 rfl (lv_at hl 0 rfl) ?_
        refine va_get (D := D) (ci := 4) (v := .int (zR_12.1 6)) (C := RX4) (T := TX4) (N := 8) hx hb hts hin_RX4 hown hK hP 0 rfl rfl 6 (by decide) hk_4 (fun _ h9 => h9) rfl dX4_readText_54 ?_
        refine lv_if_ne (tgt := 74) hx hb dX4_readText_57 (by decide) (fun c_31 => ?_) (fun c_31 => ?_)
        · replace hF := if_o c_31 hF
          obtain ⟨g_32, g_33, g_34, g_35⟩ : v1_11 = v1_17 ∧ zR_12 = zR_18 ∧ zRG_13 = zRG_19 ∧ zRS_14 = zRS_20 := by have h9 := Option.some.inj hF; simpa only [Prod.mk.injEq] using h9
          subst g_32
          subst g_33
          subst g_34
          subst g_35
          exact J_16 H locs ls ⟨hP, hD, hS, lv_sub hl [0, 1] rfl⟩
        · replace hF := if_i c_31 hF
          refine lv_aload_n hx hb dX4_readText_60 rfl (lv_at hl 0 rfl) ?_
          replace hF := bnd hF
          obtain ⟨q_40, hc_39, hF⟩ := hF
          obtain ⟨zR_36, ezR_36⟩ : ∃ y : RS, y = q_40.1 := ⟨_, rfl⟩
          replace hF := nm_i hF ezR_36
          obtain ⟨zRG_37, ezRG_37⟩ : ∃ y : GS, y = q_40.2.1 := ⟨_, rfl⟩
          replace hF := nm_i hF ezRG_37
          obtain ⟨zRS_38, ezRS_38⟩ : ∃ y : SS, y = q_40.2.2 := ⟨_, rfl⟩
          replace hF := nm_i hF ezRS_38
          obtain rfl : q_40 = (zR_36, zRG_37, zRS_38) := by rw [ezR_36, ezRG_37, ezRS_38]
          clear ezR_36
          clear ezRG_37
          clear ezRS_38
          refine cl_Vv0 (As := []) (rest := []) ⟨hx, hb, hml, hown, hts⟩ (cwV 0 hts gX4_readText_X4_readClause rfl rfl rfl (by decide +kernel) ⟨Nat.le_of_ble_eq_true rfl, Nat.le_of_ble_eq_true rfl⟩) (c_X4_readClause l D ci aR_0 aR_1 aRG_0 aRS_0 aRG_1 aRG_2 aRG_3 aRG_4 aRS_1 H.size zR_12 zRG_13 zRS_14 _ hc_39) hK hP hD hS hA 0 rfl rfl rfl rfl hl.1 (Nat.le_of_ble_eq_true rfl) dX4_readText_61 (Nat.zero_le _) (Nat.zero_le _) (fun H locs hP hD hS => ?_)
          have hP : va_P D vwCl ((wcR ci aR_0 aR_1 aRG_0 aRS_0 zR_36) ++ ((wcG ci aRG_0 aRG_1 aRG_2 aRG_3 aRG_4 zRG_37) ++ (wcS ci aRS_0 aRS_1 zRS_38))) H := hP
          have hD : va_D A ((wcR ci aR_0 aR_1 aRG_0 aRS_0 zR_36) ++ ((wcG ci aRG_0 aRG_1 aRG_2 aRG_3 aRG_4 zRG_37) ++ (wcS ci aRS_0 aRS_1 zRS_38))) := hD
          refine lv_aload_n hx hb dX4_readText_64 rfl (lv_at hl 0 rfl) ?_
          replace hF := bnd hF
          obtain ⟨zR_41, hc_42, hF⟩ := hF
          refine cl_Vv (As := []) (rest := []) (wc := (wcR ci aR_0 aR_1 aRG_0 aRS_0 zR_36)) (wr := ([2, 3, 4, 5, 6, 7, 8].filterMap (fun i => ((wcR ci aR_0 aR_1 aRG_0 aRS_0 zR_36) ++ ((wcG ci aRG_0 aRG_1 aRG_2 aRG_3 aRG_4 zRG_37) ++ (wcS ci aRS_0 aRS_1 zRS_38)))[i]?))) (w1 := (wcR ci aR_0 aR_1 aRG_0 aRS_0 zR_41)) (wn := ((wcR ci aR_0 aR_1 aRG_0 aRS_0 zR_41) ++ ((wcG ci aRG_0 aRG_1 aRG_2 aRG_3 aRG_4 zRG_37) ++ (wcS ci aRS_0 aRS_1 zRS_38)))) ⟨hx, hb, hml, hown, hts⟩ (cwV 0 hts gX4_readText_X4_skipBlanks rfl rfl rfl (by decide +kernel) ⟨Nat.le_of_ble_eq_true rfl, Nat.le_of_ble_eq_true rfl⟩) (c_X4_skipBlanks l D ci aR_0 aR_1 aRG_0 aRS_0 H.size zR_36 _ hc_42) hK hP hD hS hA [0, 1] [2, 3, 4, 5, 6, 7, 8] [7, 8, 0, 1, 2, 3, 4, 5, 6] rfl rfl rfl (by decide) 0 rfl rfl rfl rfl hl.1 (Nat.le_of_ble_eq_true rfl) dX4_readText_65 (Nat.zero_le _) (Nat.zero_le _) (fun H locs hP hD hS => ?_)
          have hP : va_P D vwCl ((wcR ci aR_0 aR_1 aRG_0 aRS_0 zR_41) ++ ((wcG ci aRG_0 aRG_1 aRG_2 aRG_3 aRG_4 zRG_37) ++ (wcS ci aRS_0 aRS_1 zRS_38))) H := hP
          have hD : va_D A ((wcR ci aR_0 aR_1 aRG_0 aRS_0 zR_41) ++ ((wcG ci aRG_0 aRG_1 aRG_2 aRG_3 aRG_4 zRG_37) ++ (wcS ci aRS_0 aRS_1 zRS_38))) := hD
          obtain ⟨v1_43, ev1_43⟩ : ∃ y : Int32, y = v1_11 + 1 := ⟨_, rfl⟩
          replace hF := nm_i hF ev1_43
          refine lv_iinc (v := v1_43) (lv' := [(1, .int v1_43), (0, .ref aR_0)]) hx hb dX4_readText_68 hl (k := 1) rfl (by rw [ev1_43]; rfl) (by decide) rfl (fun ls hl => ?_)
          refine lv_goto (tgt := 35) hx hb dX4_readText_71 (by decide) ?_
          exact ih_15 (v1_43, zR_41, zRG_37, zRS_38) H locs ls ⟨hF, hP, hD, hS, lv_sub hl [1, 0] rfl⟩

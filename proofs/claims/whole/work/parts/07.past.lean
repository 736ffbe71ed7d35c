noncomputable def f_X3_remember (zS : SS) (zP : PS) (zQ : QS) : Option (PS × QS) := nm (zP 2) fun k_1 => if k_1 = 0 then ((f_X5_copyFrom (zQ 0) zS).bind fun zS_3 => nm ((va_up zQ 0 zS_3) : QS) fun zQ_5 => dvi (20 : Int32) <| nm (((zP 2) + 1) - ((zP 2) + 1) / 20 * 20) fun f2_7 => nm ((upd zP 2 f2_7) : PS) fun zP_8 => nm (imin 20 ((zP_8 1) + 1)) fun f1_9 => nm ((upd zP_8 1 f1_9) : PS) fun zP_10 => some (zP_10, zQ_5)) else if k_1 = 1 then ((f_X5_copyFrom (zQ 1) zS).bind fun zS_12 => nm ((va_up zQ 1 zS_12) : QS) fun zQ_14 => dvi (20 : Int32) <| nm (((zP 2) + 1) - ((zP 2) + 1) / 20 * 20) fun f2_16 => nm ((upd zP 2 f2_16) : PS) fun zP_17 => nm (imin 20 ((zP_17 1) + 1)) fun f1_18 => nm ((upd zP_17 1 f1_18) : PS) fun zP_19 => some (zP_19, zQ_14)) else if k_1 = 2 then ((f_X5_copyFrom (zQ 2) zS).bind fun zS_21 => nm ((va_up zQ 2 zS_21) : QS) fun zQ_23 => dvi (20 : Int32) <| nm (((zP 2) + 1) - ((zP 2) + 1) / 20 * 20) fun f2_25 => nm ((upd zP 2 f2_25) : PS) fun zP_26 => nm (imin 20 ((zP_26 1) + 1)) fun f1_27 => nm ((upd zP_26 1 f1_27) : PS) fun zP_28 => some (zP_28, zQ_23)) else if k_1 = 3 then ((f_X5_copyFrom (zQ 3) zS).bind fun zS_30 => nm ((va_up zQ 3 zS_30) : QS) fun zQ_32 => dvi (20 : Int32) <| nm (((zP 2) + 1) - ((zP 2) + 1) / 20 * 20) fun f2_34 => nm ((upd zP 2 f2_34) : PS) fun zP_35 => nm (imin 20 ((zP_35 1) + 1)) fun f1_36 => nm ((upd zP_35 1 f1_36) : PS) fun zP_37 => some (zP_37, zQ_32)) else if k_1 = 4 then ((f_X5_copyFrom (zQ 4) zS).bind fun zS_39 => nm ((va_up zQ 4 zS_39) : QS) fun zQ_41 => dvi (20 : Int32) <| nm (((zP 2) + 1) - ((zP 2) + 1) / 20 * 20) fun f2_43 => nm ((upd zP 2 f2_43) : PS) fun zP_44 => nm (imin 20 ((zP_44 1) + 1)) fun f1_45 => nm ((upd zP_44 1 f1_45) : PS) fun zP_46 => some (zP_46, zQ_41)) else if k_1 = 5 then ((f_X5_copyFrom (zQ 5) zS).bind fun zS_48 => nm ((va_up zQ 5 zS_48) : QS) fun zQ_50 => dvi (20 : Int32) <| nm (((zP 2) + 1) - ((zP 2) + 1) / 20 * 20) fun f2_52 => nm ((upd zP 2 f2_52) : PS) fun zP_53 => nm (imin 20 ((zP_53 1) + 1)) fun f1_54 => nm ((upd zP_53 1 f1_54) : PS) fun zP_55 => some (zP_55, zQ_50)) else if k_1 = 6 then ((f_X5_copyFrom (zQ 6) zS).bind fun zS_57 => nm ((va_up zQ 6 zS_57) : QS) fun zQ_59 => dvi (20 : Int32) <| nm (((zP 2) + 1) - ((zP 2) + 1) / 20 * 20) fun f2_61 => nm ((upd zP 2 f2_61) : PS) fun zP_62 => nm (imin 20 ((zP_62 1) + 1)) fun f1_63 => nm ((upd zP_62 1 f1_63) : PS) fun zP_64 => some (zP_64, zQ_59)) else if k_1 = 7 then ((f_X5_copyFrom (zQ 7) zS).bind fun zS_66 => nm ((va_up zQ 7 zS_66) : QS) fun zQ_68 => dvi (20 : Int32) <| nm (((zP 2) + 1) - ((zP 2) + 1) / 20 * 20) fun f2_70 => nm ((upd zP 2 f2_70) : PS) fun zP_71 => nm (imin 20 ((zP_71 1) + 1)) fun f1_72 => nm ((upd zP_71 1 f1_72) : PS) fun zP_73 => some (zP_73, zQ_68)) else if k_1 = 8 then ((f_X5_copyFrom (zQ 8) zS).bind fun zS_75 => nm ((va_up zQ 8 zS_75) : QS) fun zQ_77 => dvi (20 : Int32) <| nm (((zP 2) + 1) - ((zP 2) + 1) / 20 * 20) fun f2_79 => nm ((upd zP 2 f2_79) : PS) fun zP_80 => nm (imin 20 ((zP_80 1) + 1)) fun f1_81 => nm ((upd zP_80 1 f1_81) : PS) fun zP_82 => some (zP_82, zQ_77)) else if k_1 = 9 then ((f_X5_copyFrom (zQ 9) zS).bind fun zS_84 => nm ((va_up zQ 9 zS_84) : QS) fun zQ_86 => dvi (20 : Int32) <| nm (((zP 2) + 1) - ((zP 2) + 1) / 20 * 20) fun f2_88 => nm ((upd zP 2 f2_88) : PS) fun zP_89 => nm (imin 20 ((zP_89 1) + 1)) fun f1_90 => nm ((upd zP_89 1 f1_90) : PS) fun zP_91 => some (zP_91, zQ_86)) else if k_1 = 10 then ((f_X5_copyFrom (zQ 10) zS).bind fun zS_93 => nm ((va_up zQ 10 zS_93) : QS) fun zQ_95 => dvi (20 : Int32) <| nm (((zP 2) + 1) - ((zP 2) + 1) / 20 * 20) fun f2_97 => nm ((upd zP 2 f2_97) : PS) fun zP_98 => nm (imin 20 ((zP_98 1) + 1)) fun f1_99 => nm ((upd zP_98 1 f1_99) : PS) fun zP_100 => some (zP_100, zQ_95)) else if k_1 = 11 then ((f_X5_copyFrom (zQ 11) zS).bind fun zS_102 => nm ((va_up zQ 11 zS_102) : QS) fun zQ_104 => dvi (20 : Int32) <| nm (((zP 2) + 1) - ((zP 2) + 1) / 20 * 20) fun f2_106 => nm ((upd zP 2 f2_106) : PS) fun zP_107 => nm (imin 20 ((zP_107 1) + 1)) fun f1_108 => nm ((upd zP_107 1 f1_108) : PS) fun zP_109 => some (zP_109, zQ_104)) else if k_1 = 12 then ((f_X5_copyFrom (zQ 12) zS).bind fun zS_111 => nm ((va_up zQ 12 zS_111) : QS) fun zQ_113 => dvi (20 : Int32) <| nm (((zP 2) + 1) - ((zP 2) + 1) / 20 * 20) fun f2_115 => nm ((upd zP 2 f2_115) : PS) fun zP_116 => nm (imin 20 ((zP_116 1) + 1)) fun f1_117 => nm ((upd zP_116 1 f1_117) : PS) fun zP_118 => some (zP_118, zQ_113)) else if k_1 = 13 then ((f_X5_copyFrom (zQ 13) zS).bind fun zS_120 => nm ((va_up zQ 13 zS_120) : QS) fun zQ_122 => dvi (20 : Int32) <| nm (((zP 2) + 1) - ((zP 2) + 1) / 20 * 20) fun f2_124 => nm ((upd zP 2 f2_124) : PS) fun zP_125 => nm (imin 20 ((zP_125 1) + 1)) fun f1_126 => nm ((upd zP_125 1 f1_126) : PS) fun zP_127 => some (zP_127, zQ_122)) else if k_1 = 14 then ((f_X5_copyFrom (zQ 14) zS).bind fun zS_129 => nm ((va_up zQ 14 zS_129) : QS) fun zQ_131 => dvi (20 : Int32) <| nm (((zP 2) + 1) - ((zP 2) + 1) / 20 * 20) fun f2_133 => nm ((upd zP 2 f2_133) : PS) fun zP_134 => nm (imin 20 ((zP_134 1) + 1)) fun f1_135 => nm ((upd zP_134 1 f1_135) : PS) fun zP_136 => some (zP_136, zQ_131)) else if k_1 = 15 then ((f_X5_copyFrom (zQ 15) zS).bind fun zS_138 => nm ((va_up zQ 15 zS_138) : QS) fun zQ_140 => dvi (20 : Int32) <| nm (((zP 2) + 1) - ((zP 2) + 1) / 20 * 20) fun f2_142 => nm ((upd zP 2 f2_142) : PS) fun zP_143 => nm (imin 20 ((zP_143 1) + 1)) fun f1_144 => nm ((upd zP_143 1 f1_144) : PS) fun zP_145 => some (zP_145, zQ_140)) else if k_1 = 16 then ((f_X5_copyFrom (zQ 16) zS).bind fun zS_147 => nm ((va_up zQ 16 zS_147) : QS) fun zQ_149 => dvi (20 : Int32) <| nm (((zP 2) + 1) - ((zP 2) + 1) / 20 * 20) fun f2_151 => nm ((upd zP 2 f2_151) : PS) fun zP_152 => nm (imin 20 ((zP_152 1) + 1)) fun f1_153 => nm ((upd zP_152 1 f1_153) : PS) fun zP_154 => some (zP_154, zQ_149)) else if k_1 = 17 then ((f_X5_copyFrom (zQ 17) zS).bind fun zS_156 => nm ((va_up zQ 17 zS_156) : QS) fun zQ_158 => dvi (20 : Int32) <| nm (((zP 2) + 1) - ((zP 2) + 1) / 20 * 20) fun f2_160 => nm ((upd zP 2 f2_160) : PS) fun zP_161 => nm (imin 20 ((zP_161 1) + 1)) fun f1_162 => nm ((upd zP_161 1 f1_162) : PS) fun zP_163 => some (zP_163, zQ_158)) else if k_1 = 18 then ((f_X5_copyFrom (zQ 18) zS).bind fun zS_165 => nm ((va_up zQ 18 zS_165) : QS) fun zQ_167 => dvi (20 : Int32) <| nm (((zP 2) + 1) - ((zP 2) + 1) / 20 * 20) fun f2_169 => nm ((upd zP 2 f2_169) : PS) fun zP_170 => nm (imin 20 ((zP_170 1) + 1)) fun f1_171 => nm ((upd zP_170 1 f1_171) : PS) fun zP_172 => some (zP_172, zQ_167)) else if k_1 = 19 then ((f_X5_copyFrom (zQ 19) zS).bind fun zS_174 => nm ((va_up zQ 19 zS_174) : QS) fun zQ_176 => dvi (20 : Int32) <| nm (((zP 2) + 1) - ((zP 2) + 1) / 20 * 20) fun f2_178 => nm ((upd zP 2 f2_178) : PS) fun zP_179 => nm (imin 20 ((zP_179 1) + 1)) fun f1_180 => nm ((upd zP_179 1 f1_180) : PS) fun zP_181 => some (zP_181, zQ_176)) else none
set_option maxHeartbeats 4000000 in
set_option maxRecDepth 100000 in
theorem c_X3_remember (l : Launch) (D : va_G) (ci : Nat → ClassId) (aS_0 : Nat) (aS_1 : Nat) (aP_0 : Nat) (aP_1 : Nat) (aQ : Nat → Nat) (sz : Nat) (zS : SS) (zP : PS) (zQ : QS) (res : PS × QS) (hF : f_X3_remember zS zP zQ = some res) : CtV l yX3_remember wsX3_remember { frames := 2, cells := 0, slots := 0, locals := 61 } [.ref aP_0, .ref aS_0] D ci ((wcS ci aS_0 aS_1 zS) ++ ((wcP ci aP_0 aP_1 aQ zP) ++ (wcQ ci aQ zQ))) sz ((wcS ci aS_0 aS_1 zS) ++ ((wcP ci aP_0 aP_1 aQ res.1) ++ (wcQ ci aQ res.2))) := by
  refine Met.ofW (cc := cX3_remember) (maxL := 2) (ret := none) (by decide) rfl ?_
  intro p e s m args below meth c s₁ B hml hv
  obtain ⟨rfl, hsz, hP, hK, hD0⟩ := hv
  have hx := B.exec
  have hb := B.bytes
  have hr := B.returns
  have hts := atoms_spec (ws := wsX3_remember) B.pre
  have hown : s.vm.findClass RX3 = some m.cls := findClass_of_methodNamed B.named
  have hlocks := B.notSynchronized
  subst hsz
  have hD := hD0.self (sz := s.heap.size)
  generalize hAe : va_A ((wcS ci aS_0 aS_1 zS) ++ ((wcP ci aP_0 aP_1 aQ zP) ++ (wcQ ci aQ zQ))) s.heap.size = A at hD ⊢
  have hA : ∀ q : Nat, s.heap.size ≤ q → A q := fun q h => by rw [← hAe]; exact Or.inr h
  clear hD0 hAe
  have hl := lv_entry ([.ref aP_0, .ref aS_0]) (n := 2) (Nat.le_of_ble_eq_true rfl)
  rw [lg_entry_eq]
  generalize (lg_sl ([.ref aP_0, .ref aS_0]) ++ List.replicate (2 - (lg_sl ([.ref aP_0, .ref aS_0])).length) Slot.unset).toArray = ls at hl ⊢
  have hl : lv_has ls 2 [(0, .ref aP_0), (1, .ref aS_0)] := hl
  have hP : va_P D vwCl ((wcS ci aS_0 aS_1 zS) ++ ((wcP ci aP_0 aP_1 aQ zP) ++ (wcQ ci aQ zQ))) s.heap := hP
  generalize hH0 : s.heap = H at hP ⊢
  have hS : va_S A s.heap H [] := by rw [← hH0]; exact va_S.rf
  clear hH0
  generalize ([] : List Loc) = locs at hS ⊢
  have hk_0 := hts (.fieldLink RX3 11 "HedgeWar$Past" "stands" "[LHedgeWar$Stand;") (by decide +kernel)
  have hin_RX3 : ∀ w ∈ wsX30, w ∈ wsX3_remember := by decide +kernel
  have hk_2 := hts (.fieldLink RX3 22 "HedgeWar$Past" "next" "I") (by decide +kernel)
  have hk_3 := hts (.fieldLink RX3 18 "HedgeWar$Past" "count" "I") (by decide +kernel)
  have hk_4 := hts (.methodLink RX3 29 Lib.Math.min.name) (by decide +kernel)
  have hk_5 := hts (.static Lib.Math.min.name) (by decide +kernel)
  have hk_6 := hts (.initialized "java/lang/Math") (by decide +kernel)
  have hk_7 := hts (.code Lib.Math.min.name Lib.Math.min.code 2 (some .int)) (by decide +kernel)
  unfold f_X3_remember at hF
  refine lv_aload_n hx hb dX3_remember_0 rfl (lv_at hl 0 rfl) ?_
  refine va_get (D := D) (ci := 3) (v := .ref aP_1) (C := RX3) (T := TX3) (N := 3) hx hb hts hin_RX3 hown hK hP 2 rfl rfl 0 (by decide) hk_0 (fun _ h9 => h9) rfl dX3_remember_1 ?_
  refine lv_aload_n hx hb dX3_remember_4 rfl (lv_at hl 0 rfl) ?_
  refine va_get (D := D) (ci := 3) (v := .int (zP 2)) (C := RX3) (T := TX3) (N := 3) hx hb hts hin_RX3 hown hK hP 2 rfl rfl 2 (by decide) hk_2 (fun _ h9 => h9) rfl dX3_remember_5 ?_
  refine lv_topi (fun k_1 ek_1 => ?_)
  replace hF := nm_i hF ek_1
  by_cases c_2 : k_1 = 0
  · replace hF := if_i c_2 hF
    subst c_2
    refine va_aldq hx hb hK hP 3 3 rfl rfl (i := 0) (show ¬ ((0 : Int32) < 0 ∨ 20 ≤ (0 : Int32).toNatClampNeg) by decide) dX3_remember_8 ?_
    refine W.eq (g2 := F0 m 9 ls [.ref (aQ 0)]) rfl ?_
    refine lv_aload_n hx hb dX3_remember_9 rfl (lv_at hl 1 rfl) ?_
    replace hF := bnd hF
    obtain ⟨zS_3, hc_4, hF⟩ := hF
    refine cl_Vv (As := [.ref aS_0]) (rest := []) (wc := ((wcS ci (aQ 0) (aQ 1) (zQ 0)) ++ (wcS ci aS_0 aS_1 zS))) (wr := ([2, 3, 6, 7, 8, 9, 10, 11, 12, 13, 14, 15, 16, 17, 18, 19, 20, 21, 22, 23, 24, 25, 26, 27, 28, 29, 30, 31, 32, 33, 34, 35, 36, 37, 38, 39, 40, 41, 42, 43].filterMap (fun i => ((wcS ci aS_0 aS_1 zS) ++ ((wcP ci aP_0 aP_1 aQ zP) ++ (wcQ ci aQ zQ)))[i]?))) (w1 := ((wcS ci (aQ 0) (aQ 1) zS_3) ++ (wcS ci aS_0 aS_1 zS))) (wn := ((wcS ci aS_0 aS_1 zS) ++ ((wcP ci aP_0 aP_1 aQ zP) ++ (wcQ ci aQ (va_up zQ 0 zS_3))))) ⟨hx, hb, hml, hown, hts⟩ (cwV 1 hts gX3_remember_X5_copyFrom rfl rfl rfl (by decide +kernel) ⟨Nat.le_of_ble_eq_true rfl, Nat.le_of_ble_eq_true rfl⟩) (c_X5_copyFrom l D ci (aQ 0) (aQ 1) aS_0 aS_1 H.size (zQ 0) zS _ hc_4) hK hP hD hS hA [4, 5, 0, 1] [2, 3, 6, 7, 8, 9, 10, 11, 12, 13, 14, 15, 16, 17, 18, 19, 20, 21, 22, 23, 24, 25, 26, 27, 28, 29, 30, 31, 32, 33, 34, 35, 36, 37, 38, 39, 40, 41, 42, 43] [42, 43, 0, 1, 40, 41, 2, 3, 4, 5, 6, 7, 8, 9, 10, 11, 12, 13, 14, 15, 16, 17, 18, 19, 20, 21, 22, 23, 24, 25, 26, 27, 28, 29, 30, 31, 32, 33, 34, 35, 36, 37, 38, 39] rfl rfl rfl (by decide) 0 rfl rfl rfl rfl hl.1 (Nat.le_of_ble_eq_true rfl) dX3_remember_10 (Nat.zero_le _) (Nat.zero_le _) (fun H locs hP hD hS => ?_)
    have hP : va_P D vwCl ((wcS ci aS_0 aS_1 zS) ++ ((wcP ci aP_0 aP_1 aQ zP) ++ (wcQ ci aQ (va_up zQ 0 zS_3)))) H := hP
    have hD : va_D A ((wcS ci aS_0 aS_1 zS) ++ ((wcP ci aP_0 aP_1 aQ zP) ++ (wcQ ci aQ (va_up zQ 0 zS_3)))) := hD
    obtain ⟨zQ_5, ezQ_5⟩ : ∃ y : QS, y = (va_up zQ 0 zS_3) := ⟨_, rfl⟩
    replace hF := nm_i hF ezQ_5
    have hP : va_P D vwCl ((wcS ci aS_0 aS_1 zS) ++ ((wcP ci aP_0 aP_1 aQ zP) ++ (wcQ ci aQ zQ_5))) H := by rw [ezQ_5]; exact hP
    have hD : va_D A ((wcS ci aS_0 aS_1 zS) ++ ((wcP ci aP_0 aP_1 aQ zP) ++ (wcQ ci aQ zQ_5))) := by rw [ezQ_5]; exact hD
    refine lv_aload_n hx hb dX3_remember_13 rfl (lv_at hl 0 rfl) ?_
    refine lv_aload_n hx hb dX3_remember_14 rfl (lv_at hl 0 rfl) ?_
    refine va_get (D := D) (ci := 3) (v := .int (zP 2)) (C := RX3) (T := TX3) (N := 3) hx hb hts hin_RX3 hown hK hP 2 rfl rfl 2 (by decide) hk_2 (fun _ h9 => h9) rfl dX3_remember_15 ?_
    refine lv_iconst (v := 1) hx hb dX3_remember_18 (by decide) ?_
    refine lv_iadd hx hb dX3_remember_19 ?_
    refine lv_bipush (v := 20) hx hb dX3_remember_20 (by decide) ?_
    replace hF := dvi_i hF
    obtain ⟨hne_6, hF⟩ := hF
    refine lv_irem hx hb dX3_remember_22 hne_6 ?_
    refine lv_topi (fun f2_7 ef2_7 => ?_)
    replace hF := nm_i hF ef2_7
    refine va_put (D := D) (ci := 3) (v := .int f2_7) (ty := .int) (C := RX3) (T := TX3) (N := 3) hx hb hts hin_RX3 tyX3 tyX3_ok nmX3 hown hK hP hD hS 2 rfl rfl 2 (by decide) hk_2 (fun _ h9 => h9) rfl (by decide +kernel) rfl rfl (Nat.le_of_ble_eq_true rfl) dX3_remember_23 (fun H locs hP hD hS => ?_)
    obtain ⟨zP_8, ezP_8⟩ : ∃ y : PS, y = (upd zP 2 f2_7) := ⟨_, rfl⟩
    replace hF := nm_i hF ezP_8
    have hP : va_P D vwCl ((wcS ci aS_0 aS_1 zS) ++ ((wcP ci aP_0 aP_1 aQ zP_8) ++ (wcQ ci aQ zQ_5))) H := by rw [ezP_8]; exact hP
    have hD : va_D A ((wcS ci aS_0 aS_1 zS) ++ ((wcP ci aP_0 aP_1 aQ zP_8) ++ (wcQ ci aQ zQ_5))) := by rw [ezP_8]; exact hD
    refine lv_aload_n hx hb dX3_remember_26 rfl (lv_at hl 0 rfl) ?_
    refine lv_bipush (v := 20) hx hb dX3_remember_27 (by decide) ?_
    refine lv_aload_n hx hb dX3_remember_29 rfl (lv_at hl 0 rfl) ?_
    refine va_get (D := D) (ci := 3) (v := .int (zP_8 1)) (C := RX3) (T := TX3) (N := 3) hx hb hts hin_RX3 hown hK hP 2 rfl rfl 1 (by decide) hk_3 (fun _ h9 => h9) rfl dX3_remember_30 ?_
    refine lv_iconst (v := 1) hx hb dX3_remember_33 (by decide) ?_
    refine lv_iadd hx hb dX3_remember_34 ?_
    refine va_mmin hx hb (hml.trans hl.1.symm) hown hk_4 hk_5 hk_6 hk_7 (Nat.le_of_ble_eq_true rfl) (Nat.le_of_ble_eq_true rfl) (Nat.zero_le _) (Nat.zero_le _) dX3_remember_35 ?_
    refine W.eq (g2 := F0 m 38 ls [.int (imin 20 ((zP_8 1) + 1)), .ref aP_0]) rfl ?_
    refine lv_topi (fun f1_9 ef1_9 => ?_)
    replace hF := nm_i hF ef1_9
    refine va_put (D := D) (ci := 3) (v := .int f1_9) (ty := .int) (C := RX3) (T := TX3) (N := 3) hx hb hts hin_RX3 tyX3 tyX3_ok nmX3 hown hK hP hD hS 2 rfl rfl 1 (by decide) hk_3 (fun _ h9 => h9) rfl (by decide +kernel) rfl rfl (Nat.le_of_ble_eq_true rfl) dX3_remember_38 (fun H locs hP hD hS => ?_)
    obtain ⟨zP_10, ezP_10⟩ : ∃ y : PS, y = (upd zP_8 1 f1_9) := ⟨_, rfl⟩
    replace hF := nm_i hF ezP_10
    have hP : va_P D vwCl ((wcS ci aS_0 aS_1 zS) ++ ((wcP ci aP_0 aP_1 aQ zP_10) ++ (wcQ ci aQ zQ_5))) H := by rw [ezP_10]; exact hP
    have hD : va_D A ((wcS ci aS_0 aS_1 zS) ++ ((wcP ci aP_0 aP_1 aQ zP_10) ++ (wcQ ci aQ zQ_5))) := by rw [ezP_10]; exact hD
    obtain rfl := Option.some.inj hF
    exact W.vret hx hb hr (fun t ht hW => ⟨⟨(), rfl, trivial, by rw [ht]; exact hP, va_K.moved hW.alike hK, hD⟩, hS.F ht⟩) hS.2.2 dX3_remember_41
  replace hF := if_o c_2 hF
  by_cases c_11 : k_1 = 1
  · replace hF := if_i c_11 hF
    subst c_11
    refine va_aldq hx hb hK hP 3 3 rfl rfl (i := 1) (show ¬ ((1 : Int32) < 0 ∨ 20 ≤ (1 : Int32).toNatClampNeg) by decide) dX3_remember_8 ?_
    refine W.eq (g2 := F0 m 9 ls [.ref (aQ 2)]) rfl ?_
    refine lv_aload_n hx hb dX3_remember_9 rfl (lv_at hl 1 rfl) ?_
    replace hF := bnd hF
    obtain ⟨zS_12, hc_13, hF⟩ := hF
    refine cl_Vv (As := [.ref aS_0]) (rest := []) (wc := ((wcS ci (aQ 2) (aQ 3) (zQ 1)) ++ (wcS ci aS_0 aS_1 zS))) (wr := ([2, 3, 4, 5, 8, 9, 10, 11, 12, 13, 14, 15, 16, 17, 18, 19, 20, 21, 22, 23, 24, 25, 26, 27, 28, 29, 30, 31, 32, 33, 34, 35, 36, 37, 38, 39, 40, 41, 42, 43].filterMap (fun i => ((wcS ci aS_0 aS_1 zS) ++ ((wcP ci aP_0 aP_1 aQ zP) ++ (wcQ ci aQ zQ)))[i]?))) (w1 := ((wcS ci (aQ 2) (aQ 3) zS_12) ++ (wcS ci aS_0 aS_1 zS))) (wn := ((wcS ci aS_0 aS_1 zS) ++ ((wcP ci aP_0 aP_1 aQ zP) ++ (wcQ ci aQ (va_up zQ 1 zS_12))))) ⟨hx, hb, hml, hown, hts⟩ (cwV 1 hts gX3_remember_X5_copyFrom rfl rfl rfl (by decide +kernel) ⟨Nat.le_of_ble_eq_true rfl, Nat.le_of_ble_eq_true rfl⟩) (c_X5_copyFrom l D ci (aQ 2) (aQ 3) aS_0 aS_1 H.size (zQ 1) zS _ hc_13) hK hP hD hS hA [6, 7, 0, 1] [2, 3, 4, 5, 8, 9, 10, 11, 12, 13, 14, 15, 16, 17, 18, 19, 20, 21, 22, 23, 24, 25, 26, 27, 28, 29, 30, 31, 32, 33, 34, 35, 36, 37, 38, 39, 40, 41, 42, 43] [42, 43, 0, 1, 2, 3, 40, 41, 4, 5, 6, 7, 8, 9, 10, 11, 12, 13, 14, 15, 16, 17, 18, 19, 20, 21, 22, 23, 24, 25, 26, 27, 28, 29, 30, 31, 32, 33, 34, 35, 36, 37, 38, 39] rfl rfl rfl (by decide) 0 rfl rfl rfl rfl hl.1 (Nat.le_of_ble_eq_true rfl) dX3_remember_10 (Nat.zero_le _) (Nat.zero_le _) (fun H locs hP hD hS => ?_)
    have hP : va_P D vwCl ((wcS ci aS_0 aS_1 zS) ++ ((wcP ci aP_0 aP_1 aQ zP) ++ (wcQ ci aQ (va_up zQ 1 zS_12)))) H := hP
    have hD : va_D A ((wcS ci aS_0 aS_1 zS) ++ ((wcP ci aP_0 aP_1 aQ zP) ++ (wcQ ci aQ (va_up zQ 1 zS_12)))) := hD
    obtain ⟨zQ_14, ezQ_14⟩ : ∃ y : QS, y = (va_up zQ 1 zS_12) := ⟨_, rfl⟩
    replace hF := nm_i hF ezQ_14
    have hP : va_P D vwCl ((wcS ci aS_0 aS_1 zS) ++ ((wcP ci aP_0 aP_1 aQ zP) ++ (wcQ ci aQ zQ_14))) H := by rw [ezQ_14]; exact hP
    have hD : va_D A ((wcS ci aS_0 aS_1 zS) ++ ((wcP ci aP_0 aP_1 aQ zP) ++ (wcQ ci aQ zQ_14))) := by rw [ezQ_14]; exact hD
    refine lv_aload_n hx hb dX3_remember_13 rfl (lv_at hl 0 rfl) ?_
    refine lv_aload_n hx hb dX3_remember_14 rfl (lv_at hl 0 rfl) ?_
    refine va_get (D := D) (ci := 3) (v := .int (zP 2)) (C := RX3) (T := TX3) (N := 3) hx hb hts hin_RX3 hown hK hP 2 rfl rfl 2 (by decide) hk_2 (fun _ h9 => h9) rfl dX3_remember_15 ?_
    refine lv_iconst (v := 1) hx hb dX3_remember_18 (by decide) ?_
    refine lv_iadd hx hb dX3_remember_19 ?_
    refine lv_bipush (v := 20) hx hb dX3_remember_20 (by decide) ?_
    replace hF := dvi_i hF
    obtain ⟨hne_15, hF⟩ := hF
    refine lv_irem hx hb dX3_remember_22 hne_15 ?_
    refine lv_topi (fun f2_16 ef2_16 => ?_)
    replace hF := nm_i hF ef2_16
    refine va_put (D := D) (ci := 3) (v := .int f2_16) (ty := .int) (C := RX3) (T := TX3) (N := 3) hx hb hts hin_RX3 tyX3 tyX3_ok nmX3 hown hK hP hD hS 2 rfl rfl 2 (by decide) hk_2 (fun _ h9 => h9) rfl (by decide +kernel) rfl rfl (Nat.le_of_ble_eq_true rfl) dX3_remember_23 (fun H locs hP hD hS => ?_)
    obtain ⟨zP_17, ezP_17⟩ : ∃ y : PS, y = (upd zP 2 f2_16) := ⟨_, rfl⟩
    replace hF := nm_i hF ezP_17
    have hP : va_P D vwCl ((wcS ci aS_0 aS_1 zS) ++ ((wcP ci aP_0 aP_1 aQ zP_17) ++ (wcQ ci aQ zQ_14))) H := by rw [ezP_17]; exact hP
    have hD : va_D A ((wcS ci aS_0 aS_1 zS) ++ ((wcP ci aP_0 aP_1 aQ zP_17) ++ (wcQ ci aQ zQ_14))) := by rw [ezP_17]; exact hD
    refine lv_aload_n hx hb dX3_remember_26 rfl (lv_at hl 0 rfl) ?_
    refine lv_bipush (v := 20) hx hb dX3_remember_27 (by decide) ?_
    refine lv_aload_n hx hb dX3_remember_29 rfl (lv_at hl 0 rfl) ?_
    refine va_get (D := D) (ci := 3) (v := .int (zP_17 1)) (C := RX3) (T := TX3) (N := 3) hx hb hts hin_RX3 hown hK hP 2 rfl rfl 1 (by decide) hk_3 (fun _ h9 => h9) rfl dX3_remember_30 ?_
    refine lv_iconst (v := 1) hx hb dX3_remember_33 (by decide) ?_
    refine lv_iadd hx hb dX3_remember_34 ?_
    refine va_mmin hx hb (hml.trans hl.1.symm) hown hk_4 hk_5 hk_6 hk_7 (Nat.le_of_ble_eq_true rfl) (Nat.le_of_ble_eq_true rfl) (Nat.zero_le _) (Nat.zero_le _) dX3_remember_35 ?_
    refine W.eq (g2 := F0 m 38 ls [.int (imin 20 ((zP_17 1) + 1)), .ref aP_0]) rfl ?_
    refine lv_topi (fun f1_18 ef1_18 => ?_)
    replace hF := nm_i hF ef1_18
    refine va_put (D := D) (ci := 3) (v := .int f1_18) (ty := .int) (C := RX3) (T := TX3) (N := 3) hx hb hts hin_RX3 tyX3 tyX3_ok nmX3 hown hK hP hD hS 2 rfl rfl 1 (by decide) hk_3 (fun _ h9 => h9) rfl (by decide +kernel) rfl rfl (Nat.le_of_ble_eq_true rfl) dX3_remember_38 (fun H locs hP hD hS => ?_)
    obtain ⟨zP_19, ezP_19⟩ : ∃ y : PS, y = (upd zP_17 1 f1_18) := ⟨_, rfl⟩
    replace hF := nm_i hF ezP_19
    have hP : va_P D vwCl ((wcS ci aS_0 aS_1 zS) ++ ((wcP ci aP_0 aP_1 aQ zP_19) ++ (wcQ ci aQ zQ_14))) H := by rw [ezP_19]; exact hP
    have hD : va_D A ((wcS ci aS_0 aS_1 zS) ++ ((wcP ci aP_0 aP_1 aQ zP_19) ++ (wcQ ci aQ zQ_14))) := by rw [ezP_19]; exact hD
    obtain rfl := Option.some.inj hF
    exact W.vret hx hb hr (fun t ht hW => ⟨⟨(), rfl, trivial, by rw [ht]; exact hP, va_K.moved hW.alike hK, hD⟩, hS.F ht⟩) hS.2.2 dX3_remember_41
  replace hF := if_o c_11 hF
  by_cases c_20 : k_1 = 2
  · replace hF := if_i c_20 hF
    subst c_20
    refine va_aldq hx hb hK hP 3 3 rfl rfl (i := 2) (show ¬ ((2 : Int32) < 0 ∨ 20 ≤ (2 : Int32).toNatClampNeg) by decide) dX3_remember_8 ?_
    refine W.eq (g2 := F0 m 9 ls [.ref (aQ 4)]) rfl ?_
    refine lv_aload_n hx hb dX3_remember_9 rfl (lv_at hl 1 rfl) ?_
    replace hF := bnd hF
    obtain ⟨zS_21, hc_22, hF⟩ := hF
    refine cl_Vv (As := [.ref aS_0]) (rest := []) (wc := ((wcS ci (aQ 4) (aQ 5) (zQ 2)) ++ (wcS ci aS_0 aS_1 zS))) (wr := ([2, 3, 4, 5, 6, 7, 10, 11, 12, 13, 14, 15, 16, 17, 18, 19, 20, 21, 22, 23, 24, 25, 26, 27, 28, 29, 30, 31, 32, 33, 34, 35, 36, 37, 38, 39, 40, 41, 42, 43].filterMap (fun i => ((wcS ci aS_0 aS_1 zS) ++ ((wcP ci aP_0 aP_1 aQ zP) ++ (wcQ ci aQ zQ)))[i]?))) (w1 := ((wcS ci (aQ 4) (aQ 5) zS_21) ++ (wcS ci aS_0 aS_1 zS))) (wn := ((wcS ci aS_0 aS_1 zS) ++ ((wcP ci aP_0 aP_1 aQ zP) ++ (wcQ ci aQ (va_up zQ 2 zS_21))))) ⟨hx, hb, hml, hown, hts⟩ (cwV 1 hts gX3_remember_X5_copyFrom rfl rfl rfl (by decide +kernel) ⟨Nat.le_of_ble_eq_true rfl, Nat.le_of_ble_eq_true rfl⟩) (c_X5_copyFrom l D ci (aQ 4) (aQ 5) aS_0 aS_1 H.size (zQ 2) zS _ hc_22) hK hP hD hS hA [8, 9, 0, 1] [2, 3, 4, 5, 6, 7, 10, 11, 12, 13, 14, 15, 16, 17, 18, 19, 20, 21, 22, 23, 24, 25, 26, 27, 28, 29, 30, 31, 32, 33, 34, 35, 36, 37, 38, 39, 40, 41, 42, 43] [42, 43, 0, 1, 2, 3, 4, 5, 40, 41, 6, 7, 8, 9, 10, 11, 12, 13, 14, 15, 16, 17, 18, 19, 20, 21, 22, 23, 24, 25, 26, 27, 28, 29, 30, 31, 32, 33, 34, 35, 36, 37, 38, 39] rfl rfl rfl (by decide) 0 rfl rfl rfl rfl hl.1 (Nat.le_of_ble_eq_true rfl) dX3_remember_10 (Nat.zero_le _) (Nat.zero_le _) (fun H locs hP hD hS => ?_)
    have hP : va_P D vwCl ((wcS ci aS_0 aS_1 zS) ++ ((wcP ci aP_0 aP_1 aQ zP) ++ (wcQ ci aQ (va_up zQ 2 zS_21)))) H := hP
    have hD : va_D A ((wcS ci aS_0 aS_1 zS) ++ ((wcP ci aP_0 aP_1 aQ zP) ++ (wcQ ci aQ (va_up zQ 2 zS_21)))) := hD
    obtain ⟨zQ_23, ezQ_23⟩ : ∃ y : QS, y = (va_up zQ 2 zS_21) := ⟨_, rfl⟩
    replace hF := nm_i hF ezQ_23
    have hP : va_P D vwCl ((wcS ci aS_0 aS_1 zS) ++ ((wcP ci aP_0 aP_1 aQ zP) ++ (wcQ ci aQ zQ_23))) H := by rw [ezQ_23]; exact hP
    have hD : va_D A ((wcS ci aS_0 aS_1 zS) ++ ((wcP ci aP_0 aP_1 aQ zP) ++ (wcQ ci aQ zQ_23))) := by rw [ezQ_23]; exact hD
    refine lv_aload_n hx hb dX3_remember_13 rfl (lv_at hl 0 rfl) ?_
    refine lv_aload_n hx hb dX3_remember_14 rfl (lv_at hl 0 rfl) ?_
    refine va_get (D := D) (ci := 3) (v := .int (zP 2)) (C := RX3) (T := TX3) (N := 3) hx hb hts hin_RX3 hown hK hP 2 rfl rfl 2 (by decide) hk_2 (fun _ h9 => h9) rfl dX3_remember_15 ?_
    refine lv_iconst (v := 1) hx hb dX3_remember_18 (by decide) ?_
    refine lv_iadd hx hb dX3_remember_19 ?_
    refine lv_bipush (v := 20) hx hb dX3_remember_20 (by decide) ?_
    replace hF := dvi_i hF
    obtain ⟨hne_24, hF⟩ := hF
    refine lv_irem hx hb dX3_remember_22 hne_24 ?_
    refine lv_topi (fun f2_25 ef2_25 => ?_)
    replace hF := nm_i hF ef2_25
    refine va_put (D := D) (ci := 3) (v := .int f2_25) (ty := .int) (C := RX3) (T := TX3) (N := 3) hx hb hts hin_RX3 tyX3 tyX3_ok nmX3 hown hK hP hD hS 2 rfl rfl 2 (by decide) hk_2 (fun _ h9 => h9) rfl (by decide +kernel) rfl rfl (Nat.le_of_ble_eq_true rfl) dX3_remember_23 (fun H locs hP hD hS => ?_)
    obtain ⟨zP_26, ezP_26⟩ : ∃ y : PS, y = (upd zP 2 f2_25) := ⟨_, rfl⟩
    replace hF := nm_i hF ezP_26
    have hP : va_P D vwCl ((wcS ci aS_0 aS_1 zS) ++ ((wcP ci aP_0 aP_1 aQ zP_26) ++ (wcQ ci aQ zQ_23))) H := by rw [ezP_26]; exact hP
    have hD : va_D A ((wcS ci aS_0 aS_1 zS) ++ ((wcP ci aP_0 aP_1 aQ zP_26) ++ (wcQ ci aQ zQ_23))) := by rw [ezP_26]; exact hD
    refine lv_aload_n hx hb dX3_remember_26 rfl (lv_at hl 0 rfl) ?_
    refine lv_bipush (v := 20) hx hb dX3_remember_27 (by decide) ?_
    refine lv_aload_n hx hb dX3_remember_29 rfl (lv_at hl 0 rfl) ?_
    refine va_get (D := D) (ci := 3) (v := .int (zP_26 1)) (C := RX3) (T := TX3) (N := 3) hx hb hts hin_RX3 hown hK hP 2 rfl rfl 1 (by decide) hk_3 (fun _ h9 => h9) rfl dX3_remember_30 ?_
    refine lv_iconst (v := 1) hx hb dX3_remember_33 (by decide) ?_
    refine lv_iadd hx hb dX3_remember_34 ?_
    refine va_mmin hx hb (hml.trans hl.1.symm) hown hk_4 hk_5 hk_6 hk_7 (Nat.le_of_ble_eq_true rfl) (Nat.le_of_ble_eq_true rfl) (Nat.zero_le _) (Nat.zero_le _) dX3_remember_35 ?_
    refine W.eq (g2 := F0 m 38 ls [.int (imin 20 ((zP_26 1) + 1)), .ref aP_0]) rfl ?_
    refine lv_topi (fun f1_27 ef1_27 => ?_)
    replace hF := nm_i hF ef1_27
    refine va_put (D := D) (ci := 3) (v := .int f1_27) (ty := .int) (C := RX3) (T := TX3) (N := 3) hx hb hts hin_RX3 tyX3 tyX3_ok nmX3 hown hK hP hD hS 2 rfl rfl 1 (by decide) hk_3 (fun _ h9 => h9) rfl (by decide +kernel) rfl rfl (Nat.le_of_ble_eq_true rfl) dX3_remember_38 (fun H locs hP hD hS => ?_)
    obtain ⟨zP_28, ezP_28⟩ : ∃ y : PS, y = (upd zP_26 1 f1_27) := ⟨_, rfl⟩
    replace hF := nm_i hF ezP_28
    have hP : va_P D vwCl ((wcS ci aS_0 aS_1 zS) ++ ((wcP ci aP_0 aP_1 aQ zP_28) ++ (wcQ ci aQ zQ_23))) H := by rw [ezP_28]; exact hP
    have hD : va_D A ((wcS ci aS_0 aS_1 zS) ++ ((wcP ci aP_0 aP_1 aQ zP_28) ++ (wcQ ci aQ zQ_23))) := by rw [ezP_28]; exact hD
    obtain rfl := Option.some.inj hF
    exact W.vret hx hb hr (fun t ht hW => ⟨⟨(), rfl, trivial, by rw [ht]; exact hP, va_K.moved hW.alike hK, hD⟩, hS.F ht⟩) hS.2.2 dX3_remember_41
  replace hF := if_o c_20 hF
  by_cases c_29 : k_1 = 3
  · replace hF := if_i c_29 hF
    subst c_29
    refine va_aldq hx hb hK hP 3 3 rfl rfl (i := 3) (show ¬ ((3 : Int32) < 0 ∨ 20 ≤ (3 : Int32).toNatClampNeg) by decide) dX3_remember_8 ?_
    refine W.eq (g2 := F0 m 9 ls [.ref (aQ 6)]) rfl ?_
    refine lv_aload_n hx hb dX3_remember_9 rfl (lv_at hl 1 rfl) ?_
    replace hF := bnd hF
    obtain ⟨zS_30, hc_31, hF⟩ := hF
    refine cl_Vv (As := [.ref aS_0]) (rest := []) (wc := ((wcS ci (aQ 6) (aQ 7) (zQ 3)) ++ (wcS ci aS_0 aS_1 zS))) (wr := ([2, 3, 4, 5, 6, 7, 8, 9, 12, 13, 14, 15, 16, 17, 18, 19, 20, 21, 22, 23, 24, 25, 26, 27, 28, 29, 30, 31, 32, 33, 34, 35, 36, 37, 38, 39, 40, 41, 42, 43].filterMap (fun i => ((wcS ci aS_0 aS_1 zS) ++ ((wcP ci aP_0 aP_1 aQ zP) ++ (wcQ ci aQ zQ)))[i]?))) (w1 := ((wcS ci (aQ 6) (aQ 7) zS_30) ++ (wcS ci aS_0 aS_1 zS))) (wn := ((wcS ci aS_0 aS_1 zS) ++ ((wcP ci aP_0 aP_1 aQ zP) ++ (wcQ ci aQ (va_up zQ 3 zS_30))))) ⟨hx, hb, hml, hown, hts⟩ (cwV 1 hts gX3_remember_X5_copyFrom rfl rfl rfl (by decide +kernel) ⟨Nat.le_of_ble_eq_true rfl, Nat.le_of_ble_eq_true rfl⟩) (c_X5_copyFrom l D ci (aQ 6) (aQ 7) aS_0 aS_1 H.size (zQ 3) zS _ hc_31) hK hP hD hS hA [10, 11, 0, 1] [2, 3, 4, 5, 6, 7, 8, 9, 12, 13, 14, 15, 16, 17, 18, 19, 20, 21, 22, 23, 24, 25, 26, 27, 28, 29, 30, 31, 32, 33, 34, 35, 36, 37, 38, 39, 40, 41, 42, 43] [42, 43, 0, 1, 2, 3, 4, 5, 6, 7, 40, 41, 8, 9, 10, 11, 12, 13, 14, 15, 16, 17, 18, 19, 20, 21, 22, 23, 24, 25, 26, 27, 28, 29, 30, 31, 32, 33, 34, 35, 36, 37, 38, 39] rfl rfl rfl (by decide) 0 rfl rfl rfl rfl hl.1 (Nat.le_of_ble_eq_true rfl) dX3_remember_10 (Nat.zero_le _) (Nat.zero_le _) (fun H locs hP hD hS => ?_)
    have hP : va_P D vwCl ((wcS ci aS_0 aS_1 zS) ++ ((wcP ci aP_0 aP_1 aQ zP) ++ (wcQ ci aQ (va_up zQ 3 zS_30)))) H := hP
    have hD : va_D A ((wcS ci aS_0 aS_1 zS) ++ ((wcP ci aP_0 aP_1 aQ zP) ++ (wcQ ci aQ (va_up zQ 3 zS_30)))) := hD
    obtain ⟨zQ_32, ezQ_32⟩ : ∃ y : QS, y = (va_up zQ 3 zS_30) := ⟨_, rfl⟩
    replace hF := nm_i hF ezQ_32
    have hP : va_P D vwCl ((wcS ci aS_0 aS_1 zS) ++ ((wcP ci aP_0 aP_1 aQ zP) ++ (wcQ ci aQ zQ_32))) H := by rw [ezQ_32]; exact hP
    have hD : va_D A ((wcS ci aS_0 aS_1 zS) ++ ((wcP ci aP_0 aP_1 aQ zP) ++ (wcQ ci aQ zQ_32))) := by rw [ezQ_32]; exact hD
    refine lv_aload_n hx hb dX3_remember_13 rfl (lv_at hl 0 rfl) ?_
    refine lv_aload_n hx hb dX3_remember_14 rfl (lv_at hl 0 rfl) ?_
    refine va_get (D := D) (ci := 3) (v := .int (zP 2)) (C := RX3) (T := TX3) (N := 3) hx hb hts hin_RX3 hown hK hP 2 rfl rfl 2 (by decide) hk_2 (fun _ h9 => h9) rfl dX3_remember_15 ?_
    refine lv_iconst (v := 1) hx hb dX3_remember_18 (by decide) ?_
    refine lv_iadd hx hb dX3_remember_19 ?_
    refine lv_bipush (v := 20) hx hb dX3_remember_20 (by decide) ?_
    replace hF := dvi_i hF
    obtain ⟨hne_33, hF⟩ := hF
    refine lv_irem hx hb dX3_remember_22 hne_33 ?_
    refine lv_topi (fun f2_34 ef2_34 => ?_)
    replace hF := nm_i hF ef2_34
    refine va_put (D := D) (ci := 3) (v := .int f2_34) (ty := .int) (C := RX3) (T := TX3) (N := 3) hx hb hts hin_RX3 tyX3 tyX3_ok nmX3 hown hK hP hD hS 2 rfl rfl 2 (by decide) hk_2 (fun _ h9 => h9) rfl (by decide +kernel) rfl rfl (Nat.le_of_ble_eq_true rfl) dX3_remember_23 (fun H locs hP hD hS => ?_)
    obtain ⟨zP_35, ezP_35⟩ : ∃ y : PS, y = (upd zP 2 f2_34) := ⟨_, rfl⟩
    replace hF := nm_i hF ezP_35
    have hP : va_P D vwCl ((wcS ci aS_0 aS_1 zS) ++ ((wcP ci aP_0 aP_1 aQ zP_35) ++ (wcQ ci aQ zQ_32))) H := by rw [ezP_35]; exact hP
    have hD : va_D A ((wcS ci aS_0 aS_1 zS) ++ ((wcP ci aP_0 aP_1 aQ zP_35) ++ (wcQ ci aQ zQ_32))) := by rw [ezP_35]; exact hD
    refine lv_aload_n hx hb dX3_remember_26 rfl (lv_at hl 0 rfl) ?_
    refine lv_bipush (v := 20) hx hb dX3_remember_27 (by decide) ?_
    refine lv_aload_n hx hb dX3_remember_29 rfl (lv_at hl 0 rfl) ?_
    refine va_get (D := D) (ci := 3) (v := .int (zP_35 1)) (C := RX3) (T := TX3) (N := 3) hx hb hts hin_RX3 hown hK hP 2 rfl rfl 1 (by decide) hk_3 (fun _ h9 => h9) rfl dX3_remember_30 ?_
    refine lv_iconst (v := 1) hx hb dX3_remember_33 (by decide) ?_
    refine lv_iadd hx hb dX3_remember_34 ?_
    refine va_mmin hx hb (hml.trans hl.1.symm) hown hk_4 hk_5 hk_6 hk_7 (Nat.le_of_ble_eq_true rfl) (Nat.le_of_ble_eq_true rfl) (Nat.zero_le _) (Nat.zero_le _) dX3_remember_35 ?_
    refine W.eq (g2 := F0 m 38 ls [.int (imin 20 ((zP_35 1) + 1)), .ref aP_0]) rfl ?_
    refine lv_topi (fun f1_36 ef1_36 => ?_)
    replace hF := nm_i hF ef1_36
    refine va_put (D := D) (ci := 3) (v := .int f1_36) (ty := .int) (C := RX3) (T := TX3) (N := 3) hx hb hts hin_RX3 tyX3 tyX3_ok nmX3 hown hK hP hD hS 2 rfl rfl 1 (by decide) hk_3 (fun _ h9 => h9) rfl (by decide +kernel) rfl rfl (Nat.le_of_ble_eq_true rfl) dX3_remember_38 (fun H locs hP hD hS => ?_)
    obtain ⟨zP_37, ezP_37⟩ : ∃ y : PS, y = (upd zP_35 1 f1_36) := ⟨_, rfl⟩
    replace hF := nm_i hF ezP_37
    have hP : va_P D vwCl ((wcS ci aS_0 aS_1 zS) ++ ((wcP ci aP_0 aP_1 aQ zP_37) ++ (wcQ ci aQ zQ_32))) H := by rw [ezP_37]; exact hP
    have hD : va_D A ((wcS ci aS_0 aS_1 zS) ++ ((wcP ci aP_0 aP_1 aQ zP_37) ++ (wcQ ci aQ zQ_32))) := by rw [ezP_37]; exact hD
    obtain rfl := Option.some.inj hF
    exact W.vret hx hb hr (fun t ht hW => ⟨⟨(), rfl, trivial, by rw [ht]; exact hP, va_K.moved hW.alike hK, hD⟩, hS.F ht⟩) hS.2.2 dX3_remember_41
  replace hF := if_o c_29 hF
  by_cases c_38 : k_1 = 4
  · replace hF := if_i c_38 hF
    subst c_38
    refine va_aldq hx hb hK hP 3 3 rfl rfl (i := 4) (show ¬ ((4 : Int32) < 0 ∨ 20 ≤ (4 : Int32).toNatClampNeg) by decide) dX3_remember_8 ?_
    refine W.eq (g2 := F0 m 9 ls [.ref (aQ 8)]) rfl ?_
    refine lv_aload_n hx hb dX3_remember_9 rfl (lv_at hl 1 rfl) ?_
    replace hF := bnd hF
    obtain ⟨zS_39, hc_40, hF⟩ := hF
    refine cl_Vv (As := [.ref aS_0]) (rest := []) (wc := ((wcS ci (aQ 8) (aQ 9) (zQ 4)) ++ (wcS ci aS_0 aS_1 zS))) (wr := ([2, 3, 4, 5, 6, 7, 8, 9, 10, 11, 14, 15, 16, 17, 18, 19, 20, 21, 22, 23, 24, 25, 26, 27, 28, 29, 30, 31, 32, 33, 34, 35, 36, 37, 38, 39, 40, 41, 42, 43].filterMap (fun i => ((wcS ci aS_0 aS_1 zS) ++ ((wcP ci aP_0 aP_1 aQ zP) ++ (wcQ ci aQ zQ)))[i]?))) (w1 := ((wcS ci (aQ 8) (aQ 9) zS_39) ++ (wcS ci aS_0 aS_1 zS))) (wn := ((wcS ci aS_0 aS_1 zS) ++ ((wcP ci aP_0 aP_1 aQ zP) ++ (wcQ ci aQ (va_up zQ 4 zS_39))))) ⟨hx, hb, hml, hown, hts⟩ (cwV 1 hts gX3_remember_X5_copyFrom rfl rfl rfl (by decide +kernel) ⟨Nat.le_of_ble_eq_true rfl, Nat.le_of_ble_eq_true rfl⟩) (c_X5_copyFrom l D ci (aQ 8) (aQ 9) aS_0 aS_1 H.size (zQ 4) zS _ hc_40) hK hP hD hS hA [12, 13, 0, 1] [2, 3, 4, 5, 6, 7, 8, 9, 10, 11, 14, 15, 16, 17, 18, 19, 20, 21, 22, 23, 24, 25, 26, 27, 28, 29, 30, 31, 32, 33, 34, 35, 36, 37, 38, 39, 40, 41, 42, 43] [42, 43, 0, 1, 2, 3, 4, 5, 6, 7, 8, 9, 40, 41, 10, 11, 12, 13, 14, 15, 16, 17, 18, 19, 20, 21, 22, 23, 24, 25, 26, 27, 28, 29, 30, 31, 32, 33, 34, 35, 36, 37, 38, 39] rfl rfl rfl (by decide) 0 rfl rfl rfl rfl hl.1 (Nat.le_of_ble_eq_true rfl) dX3_remember_10 (Nat.zero_le _) (Nat.zero_le _) (fun H locs hP hD hS => ?_)
    have hP : va_P D vwCl ((wcS ci aS_0 aS_1 zS) ++ ((wcP ci aP_0 aP_1 aQ zP) ++ (wcQ ci aQ (va_up zQ 4 zS_39)))) H := hP
    have hD : va_D A ((wcS ci aS_0 aS_1 zS) ++ ((wcP ci aP_0 aP_1 aQ zP) ++ (wcQ ci aQ (va_up zQ 4 zS_39)))) := hD
    obtain ⟨zQ_41, ezQ_41⟩ : ∃ y : QS, y = (va_up zQ 4 zS_39) := ⟨_, rfl⟩
    replace hF := nm_i hF ezQ_41
    have hP : va_P D vwCl ((wcS ci aS_0 aS_1 zS) ++ ((wcP ci aP_0 aP_1 aQ zP) ++ (wcQ ci aQ zQ_41))) H := by rw [ezQ_41]; exact hP
    have hD : va_D A ((wcS ci aS_0 aS_1 zS) ++ ((wcP ci aP_0 aP_1 aQ zP) ++ (wcQ ci aQ zQ_41))) := by rw [ezQ_41]; exact hD
    refine lv_aload_n hx hb dX3_remember_13 rfl (lv_at hl 0 rfl) ?_
    refine lv_aload_n hx hb dX3_remember_14 rfl (lv_at hl 0 rfl) ?_
    refine va_get (D := D) (ci := 3) (v := .int (zP 2)) (C := RX3) (T := TX3) (N := 3) hx hb hts hin_RX3 hown hK hP 2 rfl rfl 2 (by decide) hk_2 (fun _ h9 => h9) rfl dX3_remember_15 ?_
    refine lv_iconst (v := 1) hx hb dX3_remember_18 (by decide) ?_
    refine lv_iadd hx hb dX3_remember_19 ?_
    refine lv_bipush (v := 20) hx hb dX3_remember_20 (by decide) ?_
    replace hF := dvi_i hF
    obtain ⟨hne_42, hF⟩ := hF
    refine lv_irem hx hb dX3_remember_22 hne_42 ?_
    refine lv_topi (fun f2_43 ef2_43 => ?_)
    replace hF := nm_i hF ef2_43
    refine va_put (D := D) (ci := 3) (v := .int f2_43) (ty := .int) (C := RX3) (T := TX3) (N := 3) hx hb hts hin_RX3 tyX3 tyX3_ok nmX3 hown hK hP hD hS 2 rfl rfl 2 (by decide) hk_2 (fun _ h9 => h9) rfl (by decide +kernel) rfl rfl (Nat.le_of_ble_eq_true rfl) dX3_remember_23 (fun H locs hP hD hS => ?_)
    obtain ⟨zP_44, ezP_44⟩ : ∃ y : PS, y = (upd zP 2 f2_43) := ⟨_, rfl⟩
    replace hF := nm_i hF ezP_44
    have hP : va_P D vwCl ((wcS ci aS_0 aS_1 zS) ++ ((wcP ci aP_0 aP_1 aQ zP_44) ++ (wcQ ci aQ zQ_41))) H := by rw [ezP_44]; exact hP
    have hD : va_D A ((wcS ci aS_0 aS_1 zS) ++ ((wcP ci aP_0 aP_1 aQ zP_44) ++ (wcQ ci aQ zQ_41))) := by rw [ezP_44]; exact hD
    refine lv_aload_n hx hb dX3_remember_26 rfl (lv_at hl 0 rfl) ?_
    refine lv_bipush (v := 20) hx hb dX3_remember_27 (by decide) ?_
    refine lv_aload_n hx hb dX3_remember_29 rfl (lv_at hl 0 rfl) ?_
    refine va_get (D := D) (ci := 3) (v := .int (zP_44 1)) (C := RX3) (T := TX3) (N := 3) hx hb hts hin_RX3 hown hK hP 2 rfl rfl 1 (by decide) hk_3 (fun _ h9 => h9) rfl dX3_remember_30 ?_
    refine lv_iconst (v := 1) hx hb dX3_remember_33 (by decide) ?_
    refine lv_iadd hx hb dX3_remember_34 ?_
    refine va_mmin hx hb (hml.trans hl.1.symm) hown hk_4 hk_5 hk_6 hk_7 (Nat.le_of_ble_eq_true rfl) (Nat.le_of_ble_eq_true rfl) (Nat.zero_le _) (Nat.zero_le _) dX3_remember_35 ?_
    refine W.eq (g2 := F0 m 38 ls [.int (imin 20 ((zP_44 1) + 1)), .ref aP_0]) rfl ?_
    refine lv_topi (fun f1_45 ef1_45 => ?_)
    replace hF := nm_i hF ef1_45
    refine va_put (D := D) (ci := 3) (v := .int f1_45) (ty := .int) (C := RX3) (T := TX3) (N := 3) hx hb hts hin_RX3 tyX3 tyX3_ok nmX3 hown hK hP hD hS 2 rfl rfl 1 (by decide) hk_3 (fun _ h9 => h9) rfl (by decide +kernel) rfl rfl (Nat.le_of_ble_eq_true rfl) dX3_remember_38 (fun H locs hP hD hS => ?_)
    obtain ⟨zP_46, ezP_46⟩ : ∃ y : PS, y = (upd zP_44 1 f1_45) := ⟨_, rfl⟩
    replace hF := nm_i hF ezP_46
    have hP : va_P D vwCl ((wcS ci aS_0 aS_1 zS) ++ ((wcP ci aP_0 aP_1 aQ zP_46) ++ (wcQ ci aQ zQ_41))) H := by rw [ezP_46]; exact hP
    have hD : va_D A ((wcS ci aS_0 aS_1 zS) ++ ((wcP ci aP_0 aP_1 aQ zP_46) ++ (wcQ ci aQ zQ_41))) := by rw [ezP_46]; exact hD
    obtain rfl := Option.some.inj hF
    exact W.vret hx hb hr (fun t ht hW => ⟨⟨(), rfl, trivial, by rw [ht]; exact hP, va_K.moved hW.alike hK, hD⟩, hS.F ht⟩) hS.2.2 dX3_remember_41
  replace hF := if_o c_38 hF
  by_cases c_47 : k_1 = 5
  · replace hF := if_i c_47 hF
    subst c_47
    refine va_aldq hx hb hK hP 3 3 rfl rfl (i := 5) (show ¬ ((5 : Int32) < 0 ∨ 20 ≤ (5 : Int32).toNatClampNeg) by decide) dX3_remember_8 ?_
    refine W.eq (g2 := F0 m 9 ls [.ref (aQ 10)]) rfl ?_
    refine lv_aload_n hx hb dX3_remember_9 rfl (lv_at hl 1 rfl) ?_
    replace hF := bnd hF
    obtain ⟨zS_48, hc_49, hF⟩ := hF
    refine cl_Vv (As := [.ref aS_0]) (rest := []) (wc := ((wcS ci (aQ 10) (aQ 11) (zQ 5)) ++ (wcS ci aS_0 aS_1 zS))) (wr := ([2, 3, 4, 5, 6, 7, 8, 9, 10, 11, 12, 13, 16, 17, 18, 19, 20, 21, 22, 23, 24, 25, 26, 27, 28, 29, 30, 31, 32, 33, 34, 35, 36, 37, 38, 39, 40, 41, 42, 43].filterMap (fun i => ((wcS ci aS_0 aS_1 zS) ++ ((wcP ci aP_0 aP_1 aQ zP) ++ (wcQ ci aQ zQ)))[i]?))) (w1 := ((wcS ci (aQ 10) (aQ 11) zS_48) ++ (wcS ci aS_0 aS_1 zS))) (wn := ((wcS ci aS_0 aS_1 zS) ++ ((wcP ci aP_0 aP_1 aQ zP) ++ (wcQ ci aQ (va_up zQ 5 zS_48))))) ⟨hx, hb, hml, hown, hts⟩ (cwV 1 hts gX3_remember_X5_copyFrom rfl rfl rfl (by decide +kernel) ⟨Nat.le_of_ble_eq_true rfl, Nat.le_of_ble_eq_true rfl⟩) (c_X5_copyFrom l D ci (aQ 10) (aQ 11) aS_0 aS_1 H.size (zQ 5) zS _ hc_49) hK hP hD hS hA [14, 15, 0, 1] [2, 3, 4, 5, 6, 7, 8, 9, 10, 11, 12, 13, 16, 17, 18, 19, 20, 21, 22, 23, 24, 25, 26, 27, 28, 29, 30, 31, 32, 33, 34, 35, 36, 37, 38, 39, 40, 41, 42, 43] [42, 43, 0, 1, 2, 3, 4, 5, 6, 7, 8, 9, 10, 11, 40, 41, 12, 13, 14, 15, 16, 17, 18, 19, 20, 21, 22, 23, 24, 25, 26, 27, 28, 29, 30, 31, 32, 33, 34, 35, 36, 37, 38, 39] rfl rfl rfl (by decide) 0 rfl rfl rfl rfl hl.1 (Nat.le_of_ble_eq_true rfl) dX3_remember_10 (Nat.zero_le _) (Nat.zero_le _) (fun H locs hP hD hS => ?_)
    have hP : va_P D vwCl ((wcS ci aS_0 aS_1 zS) ++ ((wcP ci aP_0 aP_1 aQ zP) ++ (wcQ ci aQ (va_up zQ 5 zS_48)))) H := hP
    have hD : va_D A ((wcS ci aS_0 aS_1 zS) ++ ((wcP ci aP_0 aP_1 aQ zP) ++ (wcQ ci aQ (va_up zQ 5 zS_48)))) := hD
    obtain ⟨zQ_50, ezQ_50⟩ : ∃ y : QS, y = (va_up zQ 5 zS_48) := ⟨_, rfl⟩
    replace hF := nm_i hF ezQ_50
    have hP : va_P D vwCl ((wcS ci aS_0 aS_1 zS) ++ ((wcP ci aP_0 aP_1 aQ zP) ++ (wcQ ci aQ zQ_50))) H := by rw [ezQ_50]; exact hP
    have hD : va_D A ((wcS ci aS_0 aS_1 zS) ++ ((wcP ci aP_0 aP_1 aQ zP) ++ (wcQ ci aQ zQ_50))) := by rw [ezQ_50]; exact hD
    refine lv_aload_n hx hb dX3_remember_13 rfl (lv_at hl 0 rfl) ?_
    refine lv_aload_n hx hb dX3_remember_14 rfl (lv_at hl 0 rfl) ?_
    refine va_get (D := D) (ci := 3) (v := .int (zP 2)) (C := RX3) (T := TX3) (N := 3) hx hb hts hin_RX3 hown hK hP 2 rfl rfl 2 (by decide) hk_2 (fun _ h9 => h9) rfl dX3_remember_15 ?_
    refine lv_iconst (v := 1) hx hb dX3_remember_18 (by decide) ?_
    refine lv_iadd hx hb dX3_remember_19 ?_
    refine lv_bipush (v := 20) hx hb dX3_remember_20 (by decide) ?_
    replace hF := dvi_i hF
    obtain ⟨hne_51, hF⟩ := hF
    refine lv_irem hx hb dX3_remember_22 hne_51 ?_
    refine lv_topi (fun f2_52 ef2_52 => ?_)
    replace hF := nm_i hF ef2_52
    refine va_put (D := D) (ci := 3) (v := .int f2_52) (ty := .int) (C := RX3) (T := TX3) (N := 3) hx hb hts hin_RX3 tyX3 tyX3_ok nmX3 hown hK hP hD hS 2 rfl rfl 2 (by decide) hk_2 (fun _ h9 => h9) rfl (by decide +kernel) rfl rfl (Nat.le_of_ble_eq_true rfl) dX3_remember_23 (fun H locs hP hD hS => ?_)
    obtain ⟨zP_53, ezP_53⟩ : ∃ y : PS, y = (upd zP 2 f2_52) := ⟨_, rfl⟩
    replace hF := nm_i hF ezP_53
    have hP : va_P D vwCl ((wcS ci aS_0 aS_1 zS) ++ ((wcP ci aP_0 aP_1 aQ zP_53) ++ (wcQ ci aQ zQ_50))) H := by rw [ezP_53]; exact hP
    have hD : va_D A ((wcS ci aS_0 aS_1 zS) ++ ((wcP ci aP_0 aP_1 aQ zP_53) ++ (wcQ ci aQ zQ_50))) := by rw [ezP_53]; exact hD
    refine lv_aload_n hx hb dX3_remember_26 rfl (lv_at hl 0 rfl) ?_
    refine lv_bipush (v := 20) hx hb dX3_remember_27 (by decide) ?_
    refine lv_aload_n hx hb dX3_remember_29 rfl (lv_at hl 0 rfl) ?_
    refine va_get (D := D) (ci := 3) (v := .int (zP_53 1)) (C := RX3) (T := TX3) (N := 3) hx hb hts hin_RX3 hown hK hP 2 rfl rfl 1 (by decide) hk_3 (fun _ h9 => h9) rfl dX3_remember_30 ?_
    refine lv_iconst (v := 1) hx hb dX3_remember_33 (by decide) ?_
    refine lv_iadd hx hb dX3_remember_34 ?_
    refine va_mmin hx hb (hml.trans hl.1.symm) hown hk_4 hk_5 hk_6 hk_7 (Nat.le_of_ble_eq_true rfl) (Nat.le_of_ble_eq_true rfl) (Nat.zero_le _) (Nat.zero_le _) dX3_remember_35 ?_
    refine W.eq (g2 := F0 m 38 ls [.int (imin 20 ((zP_53 1) + 1)), .ref aP_0]) rfl ?_
    refine lv_topi (fun f1_54 ef1_54 => ?_)
    replace hF := nm_i hF ef1_54
    refine va_put (D := D) (ci := 3) (v := .int f1_54) (ty := .int) (C := RX3) (T := TX3) (N := 3) hx hb hts hin_RX3 tyX3 tyX3_ok nmX3 hown hK hP hD hS 2 rfl rfl 1 (by decide) hk_3 (fun _ h9 => h9) rfl (by decide +kernel) rfl rfl (Nat.le_of_ble_eq_true rfl) dX3_remember_38 (fun H locs hP hD hS => ?_)
    obtain ⟨zP_55, ezP_55⟩ : ∃ y : PS, y = (upd zP_53 1 f1_54) := ⟨_, rfl⟩
    replace hF := nm_i hF ezP_55
    have hP : va_P D vwCl ((wcS ci aS_0 aS_1 zS) ++ ((wcP ci aP_0 aP_1 aQ zP_55) ++ (wcQ ci aQ zQ_50))) H := by rw [ezP_55]; exact hP
    have hD : va_D A ((wcS ci aS_0 aS_1 zS) ++ ((wcP ci aP_0 aP_1 aQ zP_55) ++ (wcQ ci aQ zQ_50))) := by rw [ezP_55]; exact hD
    obtain rfl := Option.some.inj hF
    exact W.vret hx hb hr (fun t ht hW => ⟨⟨(), rfl, trivial, by rw [ht]; exact hP, va_K.moved hW.alike hK, hD⟩, hS.F ht⟩) hS.2.2 dX3_remember_41
  replace hF := if_o c_47 hF
  by_cases c_56 : k_1 = 6
  · replace hF := if_i c_56 hF
    subst c_56
    refine va_aldq hx hb hK hP 3 3 rfl rfl (i := 6) (show ¬ ((6 : Int32) < 0 ∨ 20 ≤ (6 : Int32).toNatClampNeg) by decide) dX3_remember_8 ?_
    refine W.eq (g2 := F0 m 9 ls [.ref (aQ 12)]) rfl ?_
    refine lv_aload_n hx hb dX3_remember_9 rfl (lv_at hl 1 rfl) ?_
    replace hF := bnd hF
    obtain ⟨zS_57, hc_58, hF⟩ := hF
    refine cl_Vv (As := [.ref aS_0]) (rest := []) (wc := ((wcS ci (aQ 12) (aQ 13) (zQ 6)) ++ (wcS ci aS_0 aS_1 zS))) (wr := ([2, 3, 4, 5, 6, 7, 8, 9, 10, 11, 12, 13, 14, 15, 18, 19, 20, 21, 22, 23, 24, 25, 26, 27, 28, 29, 30, 31, 32, 33, 34, 35, 36, 37, 38, 39, 40, 41, 42, 43].filterMap (fun i => ((wcS ci aS_0 aS_1 zS) ++ ((wcP ci aP_0 aP_1 aQ zP) ++ (wcQ ci aQ zQ)))[i]?))) (w1 := ((wcS ci (aQ 12) (aQ 13) zS_57) ++ (wcS ci aS_0 aS_1 zS))) (wn := ((wcS ci aS_0 aS_1 zS) ++ ((wcP ci aP_0 aP_1 aQ zP) ++ (wcQ ci aQ (va_up zQ 6 zS_57))))) ⟨hx, hb, hml, hown, hts⟩ (cwV 1 hts gX3_remember_X5_copyFrom rfl rfl rfl (by decide +kernel) ⟨Nat.le_of_ble_eq_true rfl, Nat.le_of_ble_eq_true rfl⟩) (c_X5_copyFrom l D ci (aQ 12) (aQ 13) aS_0 aS_1 H.size (zQ 6) zS _ hc_58) hK hP hD hS hA [16, 17, 0, 1] [2, 3, 4, 5, 6, 7, 8, 9, 10, 11, 12, 13, 14, 15, 18, 19, 20, 21, 22, 23, 24, 25, 26, 27, 28, 29, 30, 31, 32, 33, 34, 35, 36, 37, 38, 39, 40, 41, 42, 43] [42, 43, 0, 1, 2, 3, 4, 5, 6, 7, 8, 9, 10, 11, 12, 13, 40, 41, 14, 15, 16, 17, 18, 19, 20, 21, 22, 23, 24, 25, 26, 27, 28, 29, 30, 31, 32, 33, 34, 35, 36, 37, 38, 39] rfl rfl rfl (by decide) 0 rfl rfl rfl rfl hl.1 (Nat.le_of_ble_eq_true rfl) dX3_remember_10 (Nat.zero_le _) (Nat.zero_le _) (fun H locs hP hD hS => ?_)
    have hP : va_P D vwCl ((wcS ci aS_0 aS_1 zS) ++ ((wcP ci aP_0 aP_1 aQ zP) ++ (wcQ ci aQ (va_up zQ 6 zS_57)))) H := hP
    have hD : va_D A ((wcS ci aS_0 aS_1 zS) ++ ((wcP ci aP_0 aP_1 aQ zP) ++ (wcQ ci aQ (va_up zQ 6 zS_57)))) := hD
    obtain ⟨zQ_59, ezQ_59⟩ : ∃ y : QS, y = (va_up zQ 6 zS_57) := ⟨_, rfl⟩
    replace hF := nm_i hF ezQ_59
    have hP : va_P D vwCl ((wcS ci aS_0 aS_1 zS) ++ ((wcP ci aP_0 aP_1 aQ zP) ++ (wcQ ci aQ zQ_59))) H := by rw [ezQ_59]; exact hP
    have hD : va_D A ((wcS ci aS_0 aS_1 zS) ++ ((wcP ci aP_0 aP_1 aQ zP) ++ (wcQ ci aQ zQ_59))) := by rw [ezQ_59]; exact hD
    refine lv_aload_n hx hb dX3_remember_13 rfl (lv_at hl 0 rfl) ?_
    refine lv_aload_n hx hb dX3_remember_14 rfl (lv_at hl 0 rfl) ?_
    refine va_get (D := D) (ci := 3) (v := .int (zP 2)) (C := RX3) (T := TX3) (N := 3) hx hb hts hin_RX3 hown hK hP 2 rfl rfl 2 (by decide) hk_2 (fun _ h9 => h9) rfl dX3_remember_15 ?_
    refine lv_iconst (v := 1) hx hb dX3_remember_18 (by decide) ?_
    refine lv_iadd hx hb dX3_remember_19 ?_
    refine lv_bipush (v := 20) hx hb dX3_remember_20 (by decide) ?_
    replace hF := dvi_i hF
    obtain ⟨hne_60, hF⟩ := hF
    refine lv_irem hx hb dX3_remember_22 hne_60 ?_
    refine lv_topi (fun f2_61 ef2_61 => ?_)
    replace hF := nm_i hF ef2_61
    refine va_put (D := D) (ci := 3) (v := .int f2_61) (ty := .int) (C := RX3) (T := TX3) (N := 3) hx hb hts hin_RX3 tyX3 tyX3_ok nmX3 hown hK hP hD hS 2 rfl rfl 2 (by decide) hk_2 (fun _ h9 => h9) rfl (by decide +kernel) rfl rfl (Nat.le_of_ble_eq_true rfl) dX3_remember_23 (fun H locs hP hD hS => ?_)
    obtain ⟨zP_62, ezP_62⟩ : ∃ y : PS, y = (upd zP 2 f2_61) := ⟨_, rfl⟩
    replace hF := nm_i hF ezP_62
    have hP : va_P D vwCl ((wcS ci aS_0 aS_1 zS) ++ ((wcP ci aP_0 aP_1 aQ zP_62) ++ (wcQ ci aQ zQ_59))) H := by rw [ezP_62]; exact hP
    have hD : va_D A ((wcS ci aS_0 aS_1 zS) ++ ((wcP ci aP_0 aP_1 aQ zP_62) ++ (wcQ ci aQ zQ_59))) := by rw [ezP_62]; exact hD
    refine lv_aload_n hx hb dX3_remember_26 rfl (lv_at hl 0 rfl) ?_
    refine lv_bipush (v := 20) hx hb dX3_remember_27 (by decide) ?_
    refine lv_aload_n hx hb dX3_remember_29 rfl (lv_at hl 0 rfl) ?_
    refine va_get (D := D) (ci := 3) (v := .int (zP_62 1)) (C := RX3) (T := TX3) (N := 3) hx hb hts hin_RX3 hown hK hP 2 rfl rfl 1 (by decide) hk_3 (fun _ h9 => h9) rfl dX3_remember_30 ?_
    refine lv_iconst (v := 1) hx hb dX3_remember_33 (by decide) ?_
    refine lv_iadd hx hb dX3_remember_34 ?_
    refine va_mmin hx hb (hml.trans hl.1.symm) hown hk_4 hk_5 hk_6 hk_7 (Nat.le_of_ble_eq_true rfl) (Nat.le_of_ble_eq_true rfl) (Nat.zero_le _) (Nat.zero_le _) dX3_remember_35 ?_
    refine W.eq (g2 := F0 m 38 ls [.int (imin 20 ((zP_62 1) + 1)), .ref aP_0]) rfl ?_
    refine lv_topi (fun f1_63 ef1_63 => ?_)
    replace hF := nm_i hF ef1_63
    refine va_put (D := D) (ci := 3) (v := .int f1_63) (ty := .int) (C := RX3) (T := TX3) (N := 3) hx hb hts hin_RX3 tyX3 tyX3_ok nmX3 hown hK hP hD hS 2 rfl rfl 1 (by decide) hk_3 (fun _ h9 => h9) rfl (by decide +kernel) rfl rfl (Nat.le_of_ble_eq_true rfl) dX3_remember_38 (fun H locs hP hD hS => ?_)
    obtain ⟨zP_64, ezP_64⟩ : ∃ y : PS, y = (upd zP_62 1 f1_63) := ⟨_, rfl⟩
    replace hF := nm_i hF ezP_64
    have hP : va_P D vwCl ((wcS ci aS_0 aS_1 zS) ++ ((wcP ci aP_0 aP_1 aQ zP_64) ++ (wcQ ci aQ zQ_59))) H := by rw [ezP_64]; exact hP
    have hD : va_D A ((wcS ci aS_0 aS_1 zS) ++ ((wcP ci aP_0 aP_1 aQ zP_64) ++ (wcQ ci aQ zQ_59))) := by rw [ezP_64]; exact hD
    obtain rfl := Option.some.inj hF
    exact W.vret hx hb hr (fun t ht hW => ⟨⟨(), rfl, trivial, by rw [ht]; exact hP, va_K.moved hW.alike hK, hD⟩, hS.F ht⟩) hS.2.2 dX3_remember_41
  replace hF := if_o c_56 hF
  by_cases c_65 : k_1 = 7
  · replace hF := if_i c_65 hF
    subst c_65
    refine va_aldq hx hb hK hP 3 3 rfl rfl (i := 7) (show ¬ ((7 : Int32) < 0 ∨ 20 ≤ (7 : Int32).toNatClampNeg) by decide) dX3_remember_8 ?_
    refine W.eq (g2 := F0 m 9 ls [.ref (aQ 14)]) rfl ?_
    refine lv_aload_n hx hb dX3_remember_9 rfl (lv_at hl 1 rfl) ?_
    replace hF := bnd hF
    obtain ⟨zS_66, hc_67, hF⟩ := hF
    refine cl_Vv (As := [.ref aS_0]) (rest := []) (wc := ((wcS ci (aQ 14) (aQ 15) (zQ 7)) ++ (wcS ci aS_0 aS_1 zS))) (wr := ([2, 3, 4, 5, 6, 7, 8, 9, 10, 11, 12, 13, 14, 15, 16, 17, 20, 21, 22, 23, 24, 25, 26, 27, 28, 29, 30, 31, 32, 33, 34, 35, 36, 37, 38, 39, 40, 41, 42, 43].filterMap (fun i => ((wcS ci aS_0 aS_1 zS) ++ ((wcP ci aP_0 aP_1 aQ zP) ++ (wcQ ci aQ zQ)))[i]?))) (w1 := ((wcS ci (aQ 14) (aQ 15) zS_66) ++ (wcS ci aS_0 aS_1 zS))) (wn := ((wcS ci aS_0 aS_1 zS) ++ ((wcP ci aP_0 aP_1 aQ zP) ++ (wcQ ci aQ (va_up zQ 7 zS_66))))) ⟨hx, hb, hml, hown, hts⟩ (cwV 1 hts gX3_remember_X5_copyFrom rfl rfl rfl (by decide +kernel) ⟨Nat.le_of_ble_eq_true rfl, Nat.le_of_ble_eq_true rfl⟩) (c_X5_copyFrom l D ci (aQ 14) (aQ 15) aS_0 aS_1 H.size (zQ 7) zS _ hc_67) hK hP hD hS hA [18, 19, 0, 1] [2, 3, 4, 5, 6, 7, 8, 9, 10, 11, 12, 13, 14, 15, 16, 17, 20, 21, 22, 23, 24, 25, 26, 27, 28, 29, 30, 31, 32, 33, 34, 35, 36, 37, 38, 39, 40, 41, 42, 43] [42, 43, 0, 1, 2, 3, 4, 5, 6, 7, 8, 9, 10, 11, 12, 13, 14, 15, 40, 41, 16, 17, 18, 19, 20, 21, 22, 23, 24, 25, 26, 27, 28, 29, 30, 31, 32, 33, 34, 35, 36, 37, 38, 39] rfl rfl rfl (by decide) 0 rfl rfl rfl rfl hl.1 (Nat.le_of_ble_eq_true rfl) dX3_remember_10 (Nat.zero_le _) (Nat.zero_le _) (fun H locs hP hD hS => ?_)
    have hP : va_P D vwCl ((wcS ci aS_0 aS_1 zS) ++ ((wcP ci aP_0 aP_1 aQ zP) ++ (wcQ ci aQ (va_up zQ 7 zS_66)))) H := hP
    have hD : va_D A ((wcS ci aS_0 aS_1 zS) ++ ((wcP ci aP_0 aP_1 aQ zP) ++ (wcQ ci aQ (va_up zQ 7 zS_66)))) := hD
    obtain ⟨zQ_68, ezQ_68⟩ : ∃ y : QS, y = (va_up zQ 7 zS_66) := ⟨_, rfl⟩
    replace hF := nm_i hF ezQ_68
    have hP : va_P D vwCl ((wcS ci aS_0 aS_1 zS) ++ ((wcP ci aP_0 aP_1 aQ zP) ++ (wcQ ci aQ zQ_68))) H := by rw [ezQ_68]; exact hP
    have hD : va_D A ((wcS ci aS_0 aS_1 zS) ++ ((wcP ci aP_0 aP_1 aQ zP) ++ (wcQ ci aQ zQ_68))) := by rw [ezQ_68]; exact hD
    refine lv_aload_n hx hb dX3_remember_13 rfl (lv_at hl 0 rfl) ?_
    refine lv_aload_n hx hb dX3_remember_14 rfl (lv_at hl 0 rfl) ?_
    refine va_get (D := D) (ci := 3) (v := .int (zP 2)) (C := RX3) (T := TX3) (N := 3) hx hb hts hin_RX3 hown hK hP 2 rfl rfl 2 (by decide) hk_2 (fun _ h9 => h9) rfl dX3_remember_15 ?_
    refine lv_iconst (v := 1) hx hb dX3_remember_18 (by decide) ?_
    refine lv_iadd hx hb dX3_remember_19 ?_
    refine lv_bipush (v := 20) hx hb dX3_remember_20 (by decide) ?_
    replace hF := dvi_i hF
    obtain ⟨hne_69, hF⟩ := hF
    refine lv_irem hx hb dX3_remember_22 hne_69 ?_
    refine lv_topi (fun f2_70 ef2_70 => ?_)
    replace hF := nm_i hF ef2_70
    refine va_put (D := D) (ci := 3) (v := .int f2_70) (ty := .int) (C := RX3) (T := TX3) (N := 3) hx hb hts hin_RX3 tyX3 tyX3_ok nmX3 hown hK hP hD hS 2 rfl rfl 2 (by decide) hk_2 (fun _ h9 => h9) rfl (by decide +kernel) rfl rfl (Nat.le_of_ble_eq_true rfl) dX3_remember_23 (fun H locs hP hD hS => ?_)
    obtain ⟨zP_71, ezP_71⟩ : ∃ y : PS, y = (upd zP 2 f2_70) := ⟨_, rfl⟩
    replace hF := nm_i hF ezP_71
    have hP : va_P D vwCl ((wcS ci aS_0 aS_1 zS) ++ ((wcP ci aP_0 aP_1 aQ zP_71) ++ (wcQ ci aQ zQ_68))) H := by rw [ezP_71]; exact hP
    have hD : va_D A ((wcS ci aS_0 aS_1 zS) ++ ((wcP ci aP_0 aP_1 aQ zP_71) ++ (wcQ ci aQ zQ_68))) := by rw [ezP_71]; exact hD
    refine lv_aload_n hx hb dX3_remember_26 rfl (lv_at hl 0 rfl) ?_
    refine lv_bipush (v := 20) hx hb dX3_remember_27 (by decide) ?_
    refine lv_aload_n hx hb dX3_remember_29 rfl (lv_at hl 0 rfl) ?_
    refine va_get (D := D) (ci := 3) (v := .int (zP_71 1)) (C := RX3) (T := TX3) (N := 3) hx hb hts hin_RX3 hown hK hP 2 rfl rfl 1 (by decide) hk_3 (fun _ h9 => h9) rfl dX3_remember_30 ?_
    refine lv_iconst (v := 1) hx hb dX3_remember_33 (by decide) ?_
    refine lv_iadd hx hb dX3_remember_34 ?_
    refine va_mmin hx hb (hml.trans hl.1.symm) hown hk_4 hk_5 hk_6 hk_7 (Nat.le_of_ble_eq_true rfl) (Nat.le_of_ble_eq_true rfl) (Nat.zero_le _) (Nat.zero_le _) dX3_remember_35 ?_
    refine W.eq (g2 := F0 m 38 ls [.int (imin 20 ((zP_71 1) + 1)), .ref aP_0]) rfl ?_
    refine lv_topi (fun f1_72 ef1_72 => ?_)
    replace hF := nm_i hF ef1_72
    refine va_put (D := D) (ci := 3) (v := .int f1_72) (ty := .int) (C := RX3) (T := TX3) (N := 3) hx hb hts hin_RX3 tyX3 tyX3_ok nmX3 hown hK hP hD hS 2 rfl rfl 1 (by decide) hk_3 (fun _ h9 => h9) rfl (by decide +kernel) rfl rfl (Nat.le_of_ble_eq_true rfl) dX3_remember_38 (fun H locs hP hD hS => ?_)
    obtain ⟨zP_73, ezP_73⟩ : ∃ y : PS, y = (upd zP_71 1 f1_72) := ⟨_, rfl⟩
    replace hF := nm_i hF ezP_73
    have hP : va_P D vwCl ((wcS ci aS_0 aS_1 zS) ++ ((wcP ci aP_0 aP_1 aQ zP_73) ++ (wcQ ci aQ zQ_68))) H := by rw [ezP_73]; exact hP
    have hD : va_D A ((wcS ci aS_0 aS_1 zS) ++ ((wcP ci aP_0 aP_1 aQ zP_73) ++ (wcQ ci aQ zQ_68))) := by rw [ezP_73]; exact hD
    obtain rfl := Option.some.inj hF
    exact W.vret hx hb hr (fun t ht hW => ⟨⟨(), rfl, trivial, by rw [ht]; exact hP, va_K.moved hW.alike hK, hD⟩, hS.F ht⟩) hS.2.2 dX3_remember_41
  replace hF := if_o c_65 hF
  by_cases c_74 : k_1 = 8
  · replace hF := if_i c_74 hF
    subst c_74
    refine va_aldq hx hb hK hP 3 3 rfl rfl (i := 8) (show ¬ ((8 : Int32) < 0 ∨ 20 ≤ (8 : Int32).toNatClampNeg) by decide) dX3_remember_8 ?_
    refine W.eq (g2 := F0 m 9 ls [.ref (aQ 16)]) rfl ?_
    refine lv_aload_n hx hb dX3_remember_9 rfl (lv_at hl 1 rfl) ?_
    replace hF := bnd hF
    obtain ⟨zS_75, hc_76, hF⟩ := hF
    refine cl_Vv (As := [.ref aS_0]) (rest := []) (wc := ((wcS ci (aQ 16) (aQ 17) (zQ 8)) ++ (wcS ci aS_0 aS_1 zS))) (wr := ([2, 3, 4, 5, 6, 7, 8, 9, 10, 11, 12, 13, 14, 15, 16, 17, 18, 19, 22, 23, 24, 25, 26, 27, 28, 29, 30, 31, 32, 33, 34, 35, 36, 37, 38, 39, 40, 41, 42, 43].filterMap (fun i => ((wcS ci aS_0 aS_1 zS) ++ ((wcP ci aP_0 aP_1 aQ zP) ++ (wcQ ci aQ zQ)))[i]?))) (w1 := ((wcS ci (aQ 16) (aQ 17) zS_75) ++ (wcS ci aS_0 aS_1 zS))) (wn := ((wcS ci aS_0 aS_1 zS) ++ ((wcP ci aP_0 aP_1 aQ zP) ++ (wcQ ci aQ (va_up zQ 8 zS_75))))) ⟨hx, hb, hml, hown, hts⟩ (cwV 1 hts gX3_remember_X5_copyFrom rfl rfl rfl (by decide +kernel) ⟨Nat.le_of_ble_eq_true rfl, Nat.le_of_ble_eq_true rfl⟩) (c_X5_copyFrom l D ci (aQ 16) (aQ 17) aS_0 aS_1 H.size (zQ 8) zS _ hc_76) hK hP hD hS hA [20, 21, 0, 1] [2, 3, 4, 5, 6, 7, 8, 9, 10, 11, 12, 13, 14, 15, 16, 17, 18, 19, 22, 23, 24, 25, 26, 27, 28, 29, 30, 31, 32, 33, 34, 35, 36, 37, 38, 39, 40, 41, 42, 43] [42, 43, 0, 1, 2, 3, 4, 5, 6, 7, 8, 9, 10, 11, 12, 13, 14, 15, 16, 17, 40, 41, 18, 19, 20, 21, 22, 23, 24, 25, 26, 27, 28, 29, 30, 31, 32, 33, 34, 35, 36, 37, 38, 39] rfl rfl rfl (by decide) 0 rfl rfl rfl rfl hl.1 (Nat.le_of_ble_eq_true rfl) dX3_remember_10 (Nat.zero_le _) (Nat.zero_le _) (fun H locs hP hD hS => ?_)
    have hP : va_P D vwCl ((wcS ci aS_0 aS_1 zS) ++ ((wcP ci aP_0 aP_1 aQ zP) ++ (wcQ ci aQ (va_up zQ 8 zS_75)))) H := hP
    have hD : va_D A ((wcS ci aS_0 aS_1 zS) ++ ((wcP ci aP_0 aP_1 aQ zP) ++ (wcQ ci aQ (va_up zQ 8 zS_75)))) := hD
    obtain ⟨zQ_77, ezQ_77⟩ : ∃ y : QS, y = (va_up zQ 8 zS_75) := ⟨_, rfl⟩
    replace hF := nm_i hF ezQ_77
    have hP : va_P D vwCl ((wcS ci aS_0 aS_1 zS) ++ ((wcP ci aP_0 aP_1 aQ zP) ++ (wcQ ci aQ zQ_77))) H := by rw [ezQ_77]; exact hP
    have hD : va_D A ((wcS ci aS_0 aS_1 zS) ++ ((wcP ci aP_0 aP_1 aQ zP) ++ (wcQ ci aQ zQ_77))) := by rw [ezQ_77]; exact hD
    refine lv_aload_n hx hb dX3_remember_13 rfl (lv_at hl 0 rfl) ?_
    refine lv_aload_n hx hb dX3_remember_14 rfl (lv_at hl 0 rfl) ?_
    refine va_get (D := D) (ci := 3) (v := .int (zP 2)) (C := RX3) (T := TX3) (N := 3) hx hb hts hin_RX3 hown hK hP 2 rfl rfl 2 (by decide) hk_2 (fun _ h9 => h9) rfl dX3_remember_15 ?_
    refine lv_iconst (v := 1) hx hb dX3_remember_18 (by decide) ?_
    refine lv_iadd hx hb dX3_remember_19 ?_
    refine lv_bipush (v := 20) hx hb dX3_remember_20 (by decide) ?_
    replace hF := dvi_i hF
    obtain ⟨hne_78, hF⟩ := hF
    refine lv_irem hx hb dX3_remember_22 hne_78 ?_
    refine lv_topi (fun f2_79 ef2_79 => ?_)
    replace hF := nm_i hF ef2_79
    refine va_put (D := D) (ci := 3) (v := .int f2_79) (ty := .int) (C := RX3) (T := TX3) (N := 3) hx hb hts hin_RX3 tyX3 tyX3_ok nmX3 hown hK hP hD hS 2 rfl rfl 2 (by decide) hk_2 (fun _ h9 => h9) rfl (by decide +kernel) rfl rfl (Nat.le_of_ble_eq_true rfl) dX3_remember_23 (fun H locs hP hD hS => ?_)
    obtain ⟨zP_80, ezP_80⟩ : ∃ y : PS, y = (upd zP 2 f2_79) := ⟨_, rfl⟩
    replace hF := nm_i hF ezP_80
    have hP : va_P D vwCl ((wcS ci aS_0 aS_1 zS) ++ ((wcP ci aP_0 aP_1 aQ zP_80) ++ (wcQ ci aQ zQ_77))) H := by rw [ezP_80]; exact hP
    have hD : va_D A ((wcS ci aS_0 aS_1 zS) ++ ((wcP ci aP_0 aP_1 aQ zP_80) ++ (wcQ ci aQ zQ_77))) := by rw [ezP_80]; exact hD
    refine lv_aload_n hx hb dX3_remember_26 rfl (lv_at hl 0 rfl) ?_
    refine lv_bipush (v := 20) hx hb dX3_remember_27 (by decide) ?_
    refine lv_aload_n hx hb dX3_remember_29 rfl (lv_at hl 0 rfl) ?_
    refine va_get (D := D) (ci := 3) (v := .int (zP_80 1)) (C := RX3) (T := TX3) (N := 3) hx hb hts hin_RX3 hown hK hP 2 rfl rfl 1 (by decide) hk_3 (fun _ h9 => h9) rfl dX3_remember_30 ?_
    refine lv_iconst (v := 1) hx hb dX3_remember_33 (by decide) ?_
    refine lv_iadd hx hb dX3_remember_34 ?_
    refine va_mmin hx hb (hml.trans hl.1.symm) hown hk_4 hk_5 hk_6 hk_7 (Nat.le_of_ble_eq_true rfl) (Nat.le_of_ble_eq_true rfl) (Nat.zero_le _) (Nat.zero_le _) dX3_remember_35 ?_
    refine W.eq (g2 := F0 m 38 ls [.int (imin 20 ((zP_80 1) + 1)), .ref aP_0]) rfl ?_
    refine lv_topi (fun f1_81 ef1_81 => ?_)
    replace hF := nm_i hF ef1_81
    refine va_put (D := D) (ci := 3) (v := .int f1_81) (ty := .int) (C := RX3) (T := TX3) (N := 3) hx hb hts hin_RX3 tyX3 tyX3_ok nmX3 hown hK hP hD hS 2 rfl rfl 1 (by decide) hk_3 (fun _ h9 => h9) rfl (by decide +kernel) rfl rfl (Nat.le_of_ble_eq_true rfl) dX3_remember_38 (fun H locs hP hD hS => ?_)
    obtain ⟨zP_82, ezP_82⟩ : ∃ y : PS, y = (upd zP_80 1 f1_81) := ⟨_, rfl⟩
    replace hF := nm_i hF ezP_82
    have hP : va_P D vwCl ((wcS ci aS_0 aS_1 zS) ++ ((wcP ci aP_0 aP_1 aQ zP_82) ++ (wcQ ci aQ zQ_77))) H := by rw [ezP_82]; exact hP
    have hD : va_D A ((wcS ci aS_0 aS_1 zS) ++ ((wcP ci aP_0 aP_1 aQ zP_82) ++ (wcQ ci aQ zQ_77))) := by rw [ezP_82]; exact hD
    obtain rfl := Option.some.inj hF
    exact W.vret hx hb hr (fun t ht hW => ⟨⟨(), rfl, trivial, by rw [ht]; exact hP, va_K.moved hW.alike hK, hD⟩, hS.F ht⟩) hS.2.2 dX3_remember_41
  replace hF := if_o c_74 hF
  by_cases c_83 : k_1 = 9
  · replace hF := if_i c_83 hF
    subst c_83
    refine va_aldq hx hb hK hP 3 3 rfl rfl (i := 9) (show ¬ ((9 : Int32) < 0 ∨ 20 ≤ (9 : Int32).toNatClampNeg) by decide) dX3_remember_8 ?_
    refine W.eq (g2 := F0 m 9 ls [.ref (aQ 18)]) rfl ?_
    refine lv_aload_n hx hb dX3_remember_9 rfl (lv_at hl 1 rfl) ?_
    replace hF := bnd hF
    obtain ⟨zS_84, hc_85, hF⟩ := hF
    refine cl_Vv (As := [.ref aS_0]) (rest := []) (wc := ((wcS ci (aQ 18) (aQ 19) (zQ 9)) ++ (wcS ci aS_0 aS_1 zS))) (wr := ([2, 3, 4, 5, 6, 7, 8, 9, 10, 11, 12, 13, 14, 15, 16, 17, 18, 19, 20, 21, 24, 25, 26, 27, 28, 29, 30, 31, 32, 33, 34, 35, 36, 37, 38, 39, 40, 41, 42, 43].filterMap (fun i => ((wcS ci aS_0 aS_1 zS) ++ ((wcP ci aP_0 aP_1 aQ zP) ++ (wcQ ci aQ zQ)))[i]?))) (w1 := ((wcS ci (aQ 18) (aQ 19) zS_84) ++ (wcS ci aS_0 aS_1 zS))) (wn := ((wcS ci aS_0 aS_1 zS) ++ ((wcP ci aP_0 aP_1 aQ zP) ++ (wcQ ci aQ (va_up zQ 9 zS_84))))) ⟨hx, hb, hml, hown, hts⟩ (cwV 1 hts gX3_remember_X5_copyFrom rfl rfl rfl (by decide +kernel) ⟨Nat.le_of_ble_eq_true rfl, Nat.le_of_ble_eq_true rfl⟩) (c_X5_copyFrom l D ci (aQ 18) (aQ 19) aS_0 aS_1 H.size (zQ 9) zS _ hc_85) hK hP hD hS hA [22, 23, 0, 1] [2, 3, 4, 5, 6, 7, 8, 9, 10, 11, 12, 13, 14, 15, 16, 17, 18, 19, 20, 21, 24, 25, 26, 27, 28, 29, 30, 31, 32, 33, 34, 35, 36, 37, 38, 39, 40, 41, 42, 43] [42, 43, 0, 1, 2, 3, 4, 5, 6, 7, 8, 9, 10, 11, 12, 13, 14, 15, 16, 17, 18, 19, 40, 41, 20, 21, 22, 23, 24, 25, 26, 27, 28, 29, 30, 31, 32, 33, 34, 35, 36, 37, 38, 39] rfl rfl rfl (by decide) 0 rfl rfl rfl rfl hl.1 (Nat.le_of_ble_eq_true rfl) dX3_remember_10 (Nat.zero_le _) (Nat.zero_le _) (fun H locs hP hD hS => ?_)
    have hP : va_P D vwCl ((wcS ci aS_0 aS_1 zS) ++ ((wcP ci aP_0 aP_1 aQ zP) ++ (wcQ ci aQ (va_up zQ 9 zS_84)))) H := hP
    have hD : va_D A ((wcS ci aS_0 aS_1 zS) ++ ((wcP ci aP_0 aP_1 aQ zP) ++ (wcQ ci aQ (va_up zQ 9 zS_84)))) := hD
    obtain ⟨zQ_86, ezQ_86⟩ : ∃ y : QS, y = (va_up zQ 9 zS_84) := ⟨_, rfl⟩
    replace hF := nm_i hF ezQ_86
    have hP : va_P D vwCl ((wcS ci aS_0 aS_1 zS) ++ ((wcP ci aP_0 aP_1 aQ zP) ++ (wcQ ci aQ zQ_86))) H := by rw [ezQ_86]; exact hP
    have hD : va_D A ((wcS ci aS_0 aS_1 zS) ++ ((wcP ci aP_0 aP_1 aQ zP) ++ (wcQ ci aQ zQ_86))) := by rw [ezQ_86]; exact hD
    refine lv_aload_n hx hb dX3_remember_13 rfl (lv_at hl 0 rfl) ?_
    refine lv_aload_n hx hb dX3_remember_14 rfl (lv_at hl 0 rfl) ?_
    refine va_get (D := D) (ci := 3) (v := .int (zP 2)) (C := RX3) (T := TX3) (N := 3) hx hb hts hin_RX3 hown hK hP 2 rfl rfl 2 (by decide) hk_2 (fun _ h9 => h9) rfl dX3_remember_15 ?_
    refine lv_iconst (v := 1) hx hb dX3_remember_18 (by decide) ?_
    refine lv_iadd hx hb dX3_remember_19 ?_
    refine lv_bipush (v := 20) hx hb dX3_remember_20 (by decide) ?_
    replace hF := dvi_i hF
    obtain ⟨hne_87, hF⟩ := hF
    refine lv_irem hx hb dX3_remember_22 hne_87 ?_
    refine lv_topi (fun f2_88 ef2_88 => ?_)
    replace hF := nm_i hF ef2_88
    refine va_put (D := D) (ci := 3) (v := .int f2_88) (ty := .int) (C := RX3) (T := TX3) (N := 3) hx hb hts hin_RX3 tyX3 tyX3_ok nmX3 hown hK hP hD hS 2 rfl rfl 2 (by decide) hk_2 (fun _ h9 => h9) rfl (by decide +kernel) rfl rfl (Nat.le_of_ble_eq_true rfl) dX3_remember_23 (fun H locs hP hD hS => ?_)
    obtain ⟨zP_89, ezP_89⟩ : ∃ y : PS, y = (upd zP 2 f2_88) := ⟨_, rfl⟩
    replace hF := nm_i hF ezP_89
    have hP : va_P D vwCl ((wcS ci aS_0 aS_1 zS) ++ ((wcP ci aP_0 aP_1 aQ zP_89) ++ (wcQ ci aQ zQ_86))) H := by rw [ezP_89]; exact hP
    have hD : va_D A ((wcS ci aS_0 aS_1 zS) ++ ((wcP ci aP_0 aP_1 aQ zP_89) ++ (wcQ ci aQ zQ_86))) := by rw [ezP_89]; exact hD
    refine lv_aload_n hx hb dX3_remember_26 rfl (lv_at hl 0 rfl) ?_
    refine lv_bipush (v := 20) hx hb dX3_remember_27 (by decide) ?_
    refine lv_aload_n hx hb dX3_remember_29 rfl (lv_at hl 0 rfl) ?_
    refine va_get (D := D) (ci := 3) (v := .int (zP_89 1)) (C := RX3) (T := TX3) (N := 3) hx hb hts hin_RX3 hown hK hP 2 rfl rfl 1 (by decide) hk_3 (fun _ h9 => h9) rfl dX3_remember_30 ?_
    refine lv_iconst (v := 1) hx hb dX3_remember_33 (by decide) ?_
    refine lv_iadd hx hb dX3_remember_34 ?_
    refine va_mmin hx hb (hml.trans hl.1.symm) hown hk_4 hk_5 hk_6 hk_7 (Nat.le_of_ble_eq_true rfl) (Nat.le_of_ble_eq_true rfl) (Nat.zero_le _) (Nat.zero_le _) dX3_remember_35 ?_
    refine W.eq (g2 := F0 m 38 ls [.int (imin 20 ((zP_89 1) + 1)), .ref aP_0]) rfl ?_
    refine lv_topi (fun f1_90 ef1_90 => ?_)
    replace hF := nm_i hF ef1_90
    refine va_put (D := D) (ci := 3) (v := .int f1_90) (ty := .int) (C := RX3) (T := TX3) (N := 3) hx hb hts hin_RX3 tyX3 tyX3_ok nmX3 hown hK hP hD hS 2 rfl rfl 1 (by decide) hk_3 (fun _ h9 => h9) rfl (by decide +kernel) rfl rfl (Nat.le_of_ble_eq_true rfl) dX3_remember_38 (fun H locs hP hD hS => ?_)
    obtain ⟨zP_91, ezP_91⟩ : ∃ y : PS, y = (upd zP_89 1 f1_90) := ⟨_, rfl⟩
    replace hF := nm_i hF ezP_91
    have hP : va_P D vwCl ((wcS ci aS_0 aS_1 zS) ++ ((wcP ci aP_0 aP_1 aQ zP_91) ++ (wcQ ci aQ zQ_86))) H := by rw [ezP_91]; exact hP
    have hD : va_D A ((wcS ci aS_0 aS_1 zS) ++ ((wcP ci aP_0 aP_1 aQ zP_91) ++ (wcQ ci aQ zQ_86))) := by rw [ezP_91]; exact hD
    obtain rfl := Option.some.inj hF
    exact W.vret hx hb hr (fun t ht hW => ⟨⟨(), rfl, trivial, by rw [ht]; exact hP, va_K.moved hW.alike hK, hD⟩, hS.F ht⟩) hS.2.2 dX3_remember_41
  replace hF := if_o c_83 hF
  by_cases c_92 : k_1 = 10
  · replace hF := if_i c_92 hF
    subst c_92
    refine va_aldq hx hb hK hP 3 3 rfl rfl (i := 10) (show ¬ ((10 : Int32) < 0 ∨ 20 ≤ (10 : Int32).toNatClampNeg) by decide) dX3_remember_8 ?_
    refine W.eq (g2 := F0 m 9 ls [.ref (aQ 20)]) rfl ?_
    refine lv_aload_n hx hb dX3_remember_9 rfl (lv_at hl 1 rfl) ?_
    replace hF := bnd hF
    obtain ⟨zS_93, hc_94, hF⟩ := hF
    refine cl_Vv (As := [.ref aS_0]) (rest := []) (wc := ((wcS ci (aQ 20) (aQ 21) (zQ 10)) ++ (wcS ci aS_0 aS_1 zS))) (wr := ([2, 3, 4, 5, 6, 7, 8, 9, 10, 11, 12, 13, 14, 15, 16, 17, 18, 19, 20, 21, 22, 23, 26, 27, 28, 29, 30, 31, 32, 33, 34, 35, 36, 37, 38, 39, 40, 41, 42, 43].filterMap (fun i => ((wcS ci aS_0 aS_1 zS) ++ ((wcP ci aP_0 aP_1 aQ zP) ++ (wcQ ci aQ zQ)))[i]?))) (w1 := ((wcS ci (aQ 20) (aQ 21) zS_93) ++ (wcS ci aS_0 aS_1 zS))) (wn := ((wcS ci aS_0 aS_1 zS) ++ ((wcP ci aP_0 aP_1 aQ zP) ++ (wcQ ci aQ (va_up zQ 10 zS_93))))) ⟨hx, hb, hml, hown, hts⟩ (cwV 1 hts gX3_remember_X5_copyFrom rfl rfl rfl (by decide +kernel) ⟨Nat.le_of_ble_eq_true rfl, Nat.le_of_ble_eq_true rfl⟩) (c_X5_copyFrom l D ci (aQ 20) (aQ 21) aS_0 aS_1 H.size (zQ 10) zS _ hc_94) hK hP hD hS hA [24, 25, 0, 1] [2, 3, 4, 5, 6, 7, 8, 9, 10, 11, 12, 13, 14, 15, 16, 17, 18, 19, 20, 21, 22, 23, 26, 27, 28, 29, 30, 31, 32, 33, 34, 35, 36, 37, 38, 39, 40, 41, 42, 43] [42, 43, 0, 1, 2, 3, 4, 5, 6, 7, 8, 9, 10, 11, 12, 13, 14, 15, 16, 17, 18, 19, 20, 21, 40, 41, 22, 23, 24, 25, 26, 27, 28, 29, 30, 31, 32, 33, 34, 35, 36, 37, 38, 39] rfl rfl rfl (by decide) 0 rfl rfl rfl rfl hl.1 (Nat.le_of_ble_eq_true rfl) dX3_remember_10 (Nat.zero_le _) (Nat.zero_le _) (fun H locs hP hD hS => ?_)
    have hP : va_P D vwCl ((wcS ci aS_0 aS_1 zS) ++ ((wcP ci aP_0 aP_1 aQ zP) ++ (wcQ ci aQ (va_up zQ 10 zS_93)))) H := hP
    have hD : va_D A ((wcS ci aS_0 aS_1 zS) ++ ((wcP ci aP_0 aP_1 aQ zP) ++ (wcQ ci aQ (va_up zQ 10 zS_93)))) := hD
    obtain ⟨zQ_95, ezQ_95⟩ : ∃ y : QS, y = (va_up zQ 10 zS_93) := ⟨_, rfl⟩
    replace hF := nm_i hF ezQ_95
    have hP : va_P D vwCl ((wcS ci aS_0 aS_1 zS) ++ ((wcP ci aP_0 aP_1 aQ zP) ++ (wcQ ci aQ zQ_95))) H := by rw [ezQ_95]; exact hP
    have hD : va_D A ((wcS ci aS_0 aS_1 zS) ++ ((wcP ci aP_0 aP_1 aQ zP) ++ (wcQ ci aQ zQ_95))) := by rw [ezQ_95]; exact hD
    refine lv_aload_n hx hb dX3_remember_13 rfl (lv_at hl 0 rfl) ?_
    refine lv_aload_n hx hb dX3_remember_14 rfl (lv_at hl 0 rfl) ?_
    refine va_get (D := D) (ci := 3) (v := .int (zP 2)) (C := RX3) (T := TX3) (N := 3) hx hb hts hin_RX3 hown hK hP 2 rfl rfl 2 (by decide) hk_2 (fun _ h9 => h9) rfl dX3_remember_15 ?_
    refine lv_iconst (v := 1) hx hb dX3_remember_18 (by decide) ?_
    refine lv_iadd hx hb dX3_remember_19 ?_
    refine lv_bipush (v := 20) hx hb dX3_remember_20 (by decide) ?_
    replace hF := dvi_i hF
    obtain ⟨hne_96, hF⟩ := hF
    refine lv_irem hx hb dX3_remember_22 hne_96 ?_
    refine lv_topi (fun f2_97 ef2_97 => ?_)
    replace hF := nm_i hF ef2_97
    refine va_put (D := D) (ci := 3) (v := .int f2_97) (ty := .int) (C := RX3) (T := TX3) (N := 3) hx hb hts hin_RX3 tyX3 tyX3_ok nmX3 hown hK hP hD hS 2 rfl rfl 2 (by decide) hk_2 (fun _ h9 => h9) rfl (by decide +kernel) rfl rfl (Nat.le_of_ble_eq_true rfl) dX3_remember_23 (fun H locs hP hD hS => ?_)
    obtain ⟨zP_98, ezP_98⟩ : ∃ y : PS, y = (upd zP 2 f2_97) := ⟨_, rfl⟩
    replace hF := nm_i hF ezP_98
    have hP : va_P D vwCl ((wcS ci aS_0 aS_1 zS) ++ ((wcP ci aP_0 aP_1 aQ zP_98) ++ (wcQ ci aQ zQ_95))) H := by rw [ezP_98]; exact hP
    have hD : va_D A ((wcS ci aS_0 aS_1 zS) ++ ((wcP ci aP_0 aP_1 aQ zP_98) ++ (wcQ ci aQ zQ_95))) := by rw [ezP_98]; exact hD
    refine lv_aload_n hx hb dX3_remember_26 rfl (lv_at hl 0 rfl) ?_
    refine lv_bipush (v := 20) hx hb dX3_remember_27 (by decide) ?_
    refine lv_aload_n hx hb dX3_remember_29 rfl (lv_at hl 0 rfl) ?_
    refine va_get (D := D) (ci := 3) (v := .int (zP_98 1)) (C := RX3) (T := TX3) (N := 3) hx hb hts hin_RX3 hown hK hP 2 rfl rfl 1 (by decide) hk_3 (fun _ h9 => h9) rfl dX3_remember_30 ?_
    refine lv_iconst (v := 1) hx hb dX3_remember_33 (by decide) ?_
    refine lv_iadd hx hb dX3_remember_34 ?_
    refine va_mmin hx hb (hml.trans hl.1.symm) hown hk_4 hk_5 hk_6 hk_7 (Nat.le_of_ble_eq_true rfl) (Nat.le_of_ble_eq_true rfl) (Nat.zero_le _) (Nat.zero_le _) dX3_remember_35 ?_
    refine W.eq (g2 := F0 m 38 ls [.int (imin 20 ((zP_98 1) + 1)), .ref aP_0]) rfl ?_
    refine lv_topi (fun f1_99 ef1_99 => ?_)
    replace hF := nm_i hF ef1_99
    refine va_put (D := D) (ci := 3) (v := .int f1_99) (ty := .int) (C := RX3) (T := TX3) (N := 3) hx hb hts hin_RX3 tyX3 tyX3_ok nmX3 hown hK hP hD hS 2 rfl rfl 1 (by decide) hk_3 (fun _ h9 => h9) rfl (by decide +kernel) rfl rfl (Nat.le_of_ble_eq_true rfl) dX3_remember_38 (fun H locs hP hD hS => ?_)
    obtain ⟨zP_100, ezP_100⟩ : ∃ y : PS, y = (upd zP_98 1 f1_99) := ⟨_, rfl⟩
    replace hF := nm_i hF ezP_100
    have hP : va_P D vwCl ((wcS ci aS_0 aS_1 zS) ++ ((wcP ci aP_0 aP_1 aQ zP_100) ++ (wcQ ci aQ zQ_95))) H := by rw [ezP_100]; exact hP
    have hD : va_D A ((wcS ci aS_0 aS_1 zS) ++ ((wcP ci aP_0 aP_1 aQ zP_100) ++ (wcQ ci aQ zQ_95))) := by rw [ezP_100]; exact hD
    obtain rfl := Option.some.inj hF
    exact W.vret hx hb hr (fun t ht hW => ⟨⟨(), rfl, trivial, by rw [ht]; exact hP, va_K.moved hW.alike hK, hD⟩, hS.F ht⟩) hS.2.2 dX3_remember_41
  replace hF := if_o c_92 hF
  by_cases c_101 : k_1 = 11
  · replace hF := if_i c_101 hF
    subst c_101
    refine va_aldq hx hb hK hP 3 3 rfl rfl (i := 11) (show ¬ ((11 : Int32) < 0 ∨ 20 ≤ (11 : Int32).toNatClampNeg) by decide) dX3_remember_8 ?_
    refine W.eq (g2 := F0 m 9 ls [.ref (aQ 22)]) rfl ?_
    refine lv_aload_n hx hb dX3_remember_9 rfl (lv_at hl 1 rfl) ?_
    replace hF := bnd hF
    obtain ⟨zS_102, hc_103, hF⟩ := hF
    refine cl_Vv (As := [.ref aS_0]) (rest := []) (wc := ((wcS ci (aQ 22) (aQ 23) (zQ 11)) ++ (wcS ci aS_0 aS_1 zS))) (wr := ([2, 3, 4, 5, 6, 7, 8, 9, 10, 11, 12, 13, 14, 15, 16, 17, 18, 19, 20, 21, 22, 23, 24, 25, 28, 29, 30, 31, 32, 33, 34, 35, 36, 37, 38, 39, 40, 41, 42, 43].filterMap (fun i => ((wcS ci aS_0 aS_1 zS) ++ ((wcP ci aP_0 aP_1 aQ zP) ++ (wcQ ci aQ zQ)))[i]?))) (w1 := ((wcS ci (aQ 22) (aQ 23) zS_102) ++ (wcS ci aS_0 aS_1 zS))) (wn := ((wcS ci aS_0 aS_1 zS) ++ ((wcP ci aP_0 aP_1 aQ zP) ++ (wcQ ci aQ (va_up zQ 11 zS_102))))) ⟨hx, hb, hml, hown, hts⟩ (cwV 1 hts gX3_remember_X5_copyFrom rfl rfl rfl (by decide +kernel) ⟨Nat.le_of_ble_eq_true rfl, Nat.le_of_ble_eq_true rfl⟩) (c_X5_copyFrom l D ci (aQ 22) (aQ 23) aS_0 aS_1 H.size (zQ 11) zS _ hc_103) hK hP hD hS hA [26, 27, 0, 1] [2, 3, 4, 5, 6, 7, 8, 9, 10, 11, 12, 13, 14, 15, 16, 17, 18, 19, 20, 21, 22, 23, 24, 25, 28, 29, 30, 31, 32, 33, 34, 35, 36, 37, 38, 39, 40, 41, 42, 43] [42, 43, 0, 1, 2, 3, 4, 5, 6, 7, 8, 9, 10, 11, 12, 13, 14, 15, 16, 17, 18, 19, 20, 21, 22, 23, 40, 41, 24, 25, 26, 27, 28, 29, 30, 31, 32, 33, 34, 35, 36, 37, 38, 39] rfl rfl rfl (by decide) 0 rfl rfl rfl rfl hl.1 (Nat.le_of_ble_eq_true rfl) dX3_remember_10 (Nat.zero_le _) (Nat.zero_le _) (fun H locs hP hD hS => ?_)
    have hP : va_P D vwCl ((wcS ci aS_0 aS_1 zS) ++ ((wcP ci aP_0 aP_1 aQ zP) ++ (wcQ ci aQ (va_up zQ 11 zS_102)))) H := hP
    have hD : va_D A ((wcS ci aS_0 aS_1 zS) ++ ((wcP ci aP_0 aP_1 aQ zP) ++ (wcQ ci aQ (va_up zQ 11 zS_102)))) := hD
    obtain ⟨zQ_104, ezQ_104⟩ : ∃ y : QS, y = (va_up zQ 11 zS_102) := ⟨_, rfl⟩
    replace hF := nm_i hF ezQ_104
    have hP : va_P D vwCl ((wcS ci aS_0 aS_1 zS) ++ ((wcP ci aP_0 aP_1 aQ zP) ++ (wcQ ci aQ zQ_104))) H := by rw [ezQ_104]; exact hP
    have hD : va_D A ((wcS ci aS_0 aS_1 zS) ++ ((wcP ci aP_0 aP_1 aQ zP) ++ (wcQ ci aQ zQ_104))) := by rw [ezQ_104]; exact hD
    refine lv_aload_n hx hb dX3_remember_13 rfl (lv_at hl 0 rfl) ?_
    refine lv_aload_n hx hb dX3_remember_14 rfl (lv_at hl 0 rfl) ?_
    refine va_get (D := D) (ci := 3) (v := .int (zP 2)) (C := RX3) (T := TX3) (N := 3) hx hb hts hin_RX3 hown hK hP 2 rfl rfl 2 (by decide) hk_2 (fun _ h9 => h9) rfl dX3_remember_15 ?_
    refine lv_iconst (v := 1) hx hb dX3_remember_18 (by decide) ?_
    refine lv_iadd hx hb dX3_remember_19 ?_
    refine lv_bipush (v := 20) hx hb dX3_remember_20 (by decide) ?_
    replace hF := dvi_i hF
    obtain ⟨hne_105, hF⟩ := hF
    refine lv_irem hx hb dX3_remember_22 hne_105 ?_
    refine lv_topi (fun f2_106 ef2_106 => ?_)
    replace hF := nm_i hF ef2_106
    refine va_put (D := D) (ci := 3) (v := .int f2_106) (ty := .int) (C := RX3) (T := TX3) (N := 3) hx hb hts hin_RX3 tyX3 tyX3_ok nmX3 hown hK hP hD hS 2 rfl rfl 2 (by decide) hk_2 (fun _ h9 => h9) rfl (by decide +kernel) rfl rfl (Nat.le_of_ble_eq_true rfl) dX3_remember_23 (fun H locs hP hD hS => ?_)
    obtain ⟨zP_107, ezP_107⟩ : ∃ y : PS, y = (upd zP 2 f2_106) := ⟨_, rfl⟩
    replace hF := nm_i hF ezP_107
    have hP : va_P D vwCl ((wcS ci aS_0 aS_1 zS) ++ ((wcP ci aP_0 aP_1 aQ zP_107) ++ (wcQ ci aQ zQ_104))) H := by rw [ezP_107]; exact hP
    have hD : va_D A ((wcS ci aS_0 aS_1 zS) ++ ((wcP ci aP_0 aP_1 aQ zP_107) ++ (wcQ ci aQ zQ_104))) := by rw [ezP_107]; exact hD
    refine lv_aload_n hx hb dX3_remember_26 rfl (lv_at hl 0 rfl) ?_
    refine lv_bipush (v := 20) hx hb dX3_remember_27 (by decide) ?_
    refine lv_aload_n hx hb dX3_remember_29 rfl (lv_at hl 0 rfl) ?_
    refine va_get (D := D) (ci := 3) (v := .int (zP_107 1)) (C := RX3) (T := TX3) (N := 3) hx hb hts hin_RX3 hown hK hP 2 rfl rfl 1 (by decide) hk_3 (fun _ h9 => h9) rfl dX3_remember_30 ?_
    refine lv_iconst (v := 1) hx hb dX3_remember_33 (by decide) ?_
    refine lv_iadd hx hb dX3_remember_34 ?_
    refine va_mmin hx hb (hml.trans hl.1.symm) hown hk_4 hk_5 hk_6 hk_7 (Nat.le_of_ble_eq_true rfl) (Nat.le_of_ble_eq_true rfl) (Nat.zero_le _) (Nat.zero_le _) dX3_remember_35 ?_
    refine W.eq (g2 := F0 m 38 ls [.int (imin 20 ((zP_107 1) + 1)), .ref aP_0]) rfl ?_
    refine lv_topi (fun f1_108 ef1_108 => ?_)
    replace hF := nm_i hF ef1_108
    refine va_put (D := D) (ci := 3) (v := .int f1_108) (ty := .int) (C := RX3) (T := TX3) (N := 3) hx hb hts hin_RX3 tyX3 tyX3_ok nmX3 hown hK hP hD hS 2 rfl rfl 1 (by decide) hk_3 (fun _ h9 => h9) rfl (by decide +kernel) rfl rfl (Nat.le_of_ble_eq_true rfl) dX3_remember_38 (fun H locs hP hD hS => ?_)
    obtain ⟨zP_109, ezP_109⟩ : ∃ y : PS, y = (upd zP_107 1 f1_108) := ⟨_, rfl⟩
    replace hF := nm_i hF ezP_109
    have hP : va_P D vwCl ((wcS ci aS_0 aS_1 zS) ++ ((wcP ci aP_0 aP_1 aQ zP_109) ++ (wcQ ci aQ zQ_104))) H := by rw [ezP_109]; exact hP
    have hD : va_D A ((wcS ci aS_0 aS_1 zS) ++ ((wcP ci aP_0 aP_1 aQ zP_109) ++ (wcQ ci aQ zQ_104))) := by rw [ezP_109]; exact hD
    obtain rfl := Option.some.inj hF
    exact W.vret hx hb hr (fun t ht hW => ⟨⟨(), rfl, trivial, by rw [ht]; exact hP, va_K.moved hW.alike hK, hD⟩, hS.F ht⟩) hS.2.2 dX3_remember_41
  replace hF := if_o c_101 hF
  by_cases c_110 : k_1 = 12
  · replace hF := if_i c_110 hF
    subst c_110
    refine va_aldq hx hb hK hP 3 3 rfl rfl (i := 12) (show ¬ ((12 : Int32) < 0 ∨ 20 ≤ (12 : Int32).toNatClampNeg) by decide) dX3_remember_8 ?_
    refine W.eq (g2 := F0 m 9 ls [.ref (aQ 24)]) rfl ?_
    refine lv_aload_n hx hb dX3_remember_9 rfl (lv_at hl 1 rfl) ?_
    replace hF := bnd hF
    obtain ⟨zS_111, hc_112, hF⟩ := hF
    refine cl_Vv (As := [.ref aS_0]) (rest := []) (wc := ((wcS ci (aQ 24) (aQ 25) (zQ 12)) ++ (wcS ci aS_0 aS_1 zS))) (wr := ([2, 3, 4, 5, 6, 7, 8, 9, 10, 11, 12, 13, 14, 15, 16, 17, 18, 19, 20, 21, 22, 23, 24, 25, 26, 27, 30, 31, 32, 33, 34, 35, 36, 37, 38, 39, 40, 41, 42, 43].filterMap (fun i => ((wcS ci aS_0 aS_1 zS) ++ ((wcP ci aP_0 aP_1 aQ zP) ++ (wcQ ci aQ zQ)))[i]?))) (w1 := ((wcS ci (aQ 24) (aQ 25) zS_111) ++ (wcS ci aS_0 aS_1 zS))) (wn := ((wcS ci aS_0 aS_1 zS) ++ ((wcP ci aP_0 aP_1 aQ zP) ++ (wcQ ci aQ (va_up zQ 12 zS_111))))) ⟨hx, hb, hml, hown, hts⟩ (cwV 1 hts gX3_remember_X5_copyFrom rfl rfl rfl (by decide +kernel) ⟨Nat.le_of_ble_eq_true rfl, Nat.le_of_ble_eq_true rfl⟩) (c_X5_copyFrom l D ci (aQ 24) (aQ 25) aS_0 aS_1 H.size (zQ 12) zS _ hc_112) hK hP hD hS hA [28, 29, 0, 1] [2, 3, 4, 5, 6, 7, 8, 9, 10, 11, 12, 13, 14, 15, 16, 17, 18, 19, 20, 21, 22, 23, 24, 25, 26, 27, 30, 31, 32, 33, 34, 35, 36, 37, 38, 39, 40, 41, 42, 43] [42, 43, 0, 1, 2, 3, 4, 5, 6, 7, 8, 9, 10, 11, 12, 13, 14, 15, 16, 17, 18, 19, 20, 21, 22, 23, 24, 25, 40, 41, 26, 27, 28, 29, 30, 31, 32, 33, 34, 35, 36, 37, 38, 39] rfl rfl rfl (by decide) 0 rfl rfl rfl rfl hl.1 (Nat.le_of_ble_eq_true rfl) dX3_remember_10 (Nat.zero_le _) (Nat.zero_le _) (fun H locs hP hD hS => ?_)
    have hP : va_P D vwCl ((wcS ci aS_0 aS_1 zS) ++ ((wcP ci aP_0 aP_1 aQ zP) ++ (wcQ ci aQ (va_up zQ 12 zS_111)))) H := hP
    have hD : va_D A ((wcS ci aS_0 aS_1 zS) ++ ((wcP ci aP_0 aP_1 aQ zP) ++ (wcQ ci aQ (va_up zQ 12 zS_111)))) := hD
    obtain ⟨zQ_113, ezQ_113⟩ : ∃ y : QS, y = (va_up zQ 12 zS_111) := ⟨_, rfl⟩
    replace hF := nm_i hF ezQ_113
    have hP : va_P D vwCl ((wcS ci aS_0 aS_1 zS) ++ ((wcP ci aP_0 aP_1 aQ zP) ++ (wcQ ci aQ zQ_113))) H := by rw [ezQ_113]; exact hP
    have hD : va_D A ((wcS ci aS_0 aS_1 zS) ++ ((wcP ci aP_0 aP_1 aQ zP) ++ (wcQ ci aQ zQ_113))) := by rw [ezQ_113]; exact hD
    refine lv_aload_n hx hb dX3_remember_13 rfl (lv_at hl 0 rfl) ?_
    refine lv_aload_n hx hb dX3_remember_14 rfl (lv_at hl 0 rfl) ?_
    refine va_get (D := D) (ci := 3) (v := .int (zP 2)) (C := RX3) (T := TX3) (N := 3) hx hb hts hin_RX3 hown hK hP 2 rfl rfl 2 (by decide) hk_2 (fun _ h9 => h9) rfl dX3_remember_15 ?_
    refine lv_iconst (v := 1) hx hb dX3_remember_18 (by decide) ?_
    refine lv_iadd hx hb dX3_remember_19 ?_
    refine lv_bipush (v := 20) hx hb dX3_remember_20 (by decide) ?_
    replace hF := dvi_i hF
    obtain ⟨hne_114, hF⟩ := hF
    refine lv_irem hx hb dX3_remember_22 hne_114 ?_
    refine lv_topi (fun f2_115 ef2_115 => ?_)
    replace hF := nm_i hF ef2_115
    refine va_put (D := D) (ci := 3) (v := .int f2_115) (ty := .int) (C := RX3) (T := TX3) (N := 3) hx hb hts hin_RX3 tyX3 tyX3_ok nmX3 hown hK hP hD hS 2 rfl rfl 2 (by decide) hk_2 (fun _ h9 => h9) rfl (by decide +kernel) rfl rfl (Nat.le_of_ble_eq_true rfl) dX3_remember_23 (fun H locs hP hD hS => ?_)
    obtain ⟨zP_116, ezP_116⟩ : ∃ y : PS, y = (upd zP 2 f2_115) := ⟨_, rfl⟩
    replace hF := nm_i hF ezP_116
    have hP : va_P D vwCl ((wcS ci aS_0 aS_1 zS) ++ ((wcP ci aP_0 aP_1 aQ zP_116) ++ (wcQ ci aQ zQ_113))) H := by rw [ezP_116]; exact hP
    have hD : va_D A ((wcS ci aS_0 aS_1 zS) ++ ((wcP ci aP_0 aP_1 aQ zP_116) ++ (wcQ ci aQ zQ_113))) := by rw [ezP_116]; exact hD
    refine lv_aload_n hx hb dX3_remember_26 rfl (lv_at hl 0 rfl) ?_
    refine lv_bipush (v := 20) hx hb dX3_remember_27 (by decide) ?_
    refine lv_aload_n hx hb dX3_remember_29 rfl (lv_at hl 0 rfl) ?_
    refine va_get (D := D) (ci := 3) (v := .int (zP_116 1)) (C := RX3) (T := TX3) (N := 3) hx hb hts hin_RX3 hown hK hP 2 rfl rfl 1 (by decide) hk_3 (fun _ h9 => h9) rfl dX3_remember_30 ?_
    refine lv_iconst (v := 1) hx hb dX3_remember_33 (by decide) ?_
    refine lv_iadd hx hb dX3_remember_34 ?_
    refine va_mmin hx hb (hml.trans hl.1.symm) hown hk_4 hk_5 hk_6 hk_7 (Nat.le_of_ble_eq_true rfl) (Nat.le_of_ble_eq_true rfl) (Nat.zero_le _) (Nat.zero_le _) dX3_remember_35 ?_
    refine W.eq (g2 := F0 m 38 ls [.int (imin 20 ((zP_116 1) + 1)), .ref aP_0]) rfl ?_
    refine lv_topi (fun f1_117 ef1_117 => ?_)
    replace hF := nm_i hF ef1_117
    refine va_put (D := D) (ci := 3) (v := .int f1_117) (ty := .int) (C := RX3) (T := TX3) (N := 3) hx hb hts hin_RX3 tyX3 tyX3_ok nmX3 hown hK hP hD hS 2 rfl rfl 1 (by decide) hk_3 (fun _ h9 => h9) rfl (by decide +kernel) rfl rfl (Nat.le_of_ble_eq_true rfl) dX3_remember_38 (fun H locs hP hD hS => ?_)
    obtain ⟨zP_118, ezP_118⟩ : ∃ y : PS, y = (upd zP_116 1 f1_117) := ⟨_, rfl⟩
    replace hF := nm_i hF ezP_118
    have hP : va_P D vwCl ((wcS ci aS_0 aS_1 zS) ++ ((wcP ci aP_0 aP_1 aQ zP_118) ++ (wcQ ci aQ zQ_113))) H := by rw [ezP_118]; exact hP
    have hD : va_D A ((wcS ci aS_0 aS_1 zS) ++ ((wcP ci aP_0 aP_1 aQ zP_118) ++ (wcQ ci aQ zQ_113))) := by rw [ezP_118]; exact hD
    obtain rfl := Option.some.inj hF
    exact W.vret hx hb hr (fun t ht hW => ⟨⟨(), rfl, trivial, by rw [ht]; exact hP, va_K.moved hW.alike hK, hD⟩, hS.F ht⟩) hS.2.2 dX3_remember_41
  replace hF := if_o c_110 hF
  by_cases c_119 : k_1 = 13
  · replace hF := if_i c_119 hF
    subst c_119
    refine va_aldq hx hb hK hP 3 3 rfl rfl (i := 13) (show ¬ ((13 : Int32) < 0 ∨ 20 ≤ (13 : Int32).toNatClampNeg) by decide) dX3_remember_8 ?_
    refine W.eq (g2 := F0 m 9 ls [.ref (aQ 26)]) rfl ?_
    refine lv_aload_n hx hb dX3_remember_9 rfl (lv_at hl 1 rfl) ?_
    replace hF := bnd hF
    obtain ⟨zS_120, hc_121, hF⟩ := hF
    refine cl_Vv (As := [.ref aS_0]) (rest := []) (wc := ((wcS ci (aQ 26) (aQ 27) (zQ 13)) ++ (wcS ci aS_0 aS_1 zS))) (wr := ([2, 3, 4, 5, 6, 7, 8, 9, 10, 11, 12, 13, 14, 15, 16, 17, 18, 19, 20, 21, 22, 23, 24, 25, 26, 27, 28, 29, 32, 33, 34, 35, 36, 37, 38, 39, 40, 41, 42, 43].filterMap (fun i => ((wcS ci aS_0 aS_1 zS) ++ ((wcP ci aP_0 aP_1 aQ zP) ++ (wcQ ci aQ zQ)))[i]?))) (w1 := ((wcS ci (aQ 26) (aQ 27) zS_120) ++ (wcS ci aS_0 aS_1 zS))) (wn := ((wcS ci aS_0 aS_1 zS) ++ ((wcP ci aP_0 aP_1 aQ zP) ++ (wcQ ci aQ (va_up zQ 13 zS_120))))) ⟨hx, hb, hml, hown, hts⟩ (cwV 1 hts gX3_remember_X5_copyFrom rfl rfl rfl (by decide +kernel) ⟨Nat.le_of_ble_eq_true rfl, Nat.le_of_ble_eq_true rfl⟩) (c_X5_copyFrom l D ci (aQ 26) (aQ 27) aS_0 aS_1 H.size (zQ 13) zS _ hc_121) hK hP hD hS hA [30, 31, 0, 1] [2, 3, 4, 5, 6, 7, 8, 9, 10, 11, 12, 13, 14, 15, 16, 17, 18, 19, 20, 21, 22, 23, 24, 25, 26, 27, 28, 29, 32, 33, 34, 35, 36, 37, 38, 39, 40, 41, 42, 43] [42, 43, 0, 1, 2, 3, 4, 5, 6, 7, 8, 9, 10, 11, 12, 13, 14, 15, 16, 17, 18, 19, 20, 21, 22, 23, 24, 25, 26, 27, 40, 41, 28, 29, 30, 31, 32, 33, 34, 35, 36, 37, 38, 39] rfl rfl rfl (by decide) 0 rfl rfl rfl rfl hl.1 (Nat.le_of_ble_eq_true rfl) dX3_remember_10 (Nat.zero_le _) (Nat.zero_le _) (fun H locs hP hD hS => ?_)
    have hP : va_P D vwCl ((wcS ci aS_0 aS_1 zS) ++ ((wcP ci aP_0 aP_1 aQ zP) ++ (wcQ ci aQ (va_up zQ 13 zS_120)))) H := hP
    have hD : va_D A ((wcS ci aS_0 aS_1 zS) ++ ((wcP ci aP_0 aP_1 aQ zP) ++ (wcQ ci aQ (va_up zQ 13 zS_120)))) := hD
    obtain ⟨zQ_122, ezQ_122⟩ : ∃ y : QS, y = (va_up zQ 13 zS_120) := ⟨_, rfl⟩
    replace hF := nm_i hF ezQ_122
    have hP : va_P D vwCl ((wcS ci aS_0 aS_1 zS) ++ ((wcP ci aP_0 aP_1 aQ zP) ++ (wcQ ci aQ zQ_122))) H := by rw [ezQ_122]; exact hP
    have hD : va_D A ((wcS ci aS_0 aS_1 zS) ++ ((wcP ci aP_0 aP_1 aQ zP) ++ (wcQ ci aQ zQ_122))) := by rw [ezQ_122]; exact hD
    refine lv_aload_n hx hb dX3_remember_13 rfl (lv_at hl 0 rfl) ?_
    refine lv_aload_n hx hb dX3_remember_14 rfl (lv_at hl 0 rfl) ?_
    refine va_get (D := D) (ci := 3) (v := .int (zP 2)) (C := RX3) (T := TX3) (N := 3) hx hb hts hin_RX3 hown hK hP 2 rfl rfl 2 (by decide) hk_2 (fun _ h9 => h9) rfl dX3_remember_15 ?_
    refine lv_iconst (v := 1) hx hb dX3_remember_18 (by decide) ?_
    refine lv_iadd hx hb dX3_remember_19 ?_
    refine lv_bipush (v := 20) hx hb dX3_remember_20 (by decide) ?_
    replace hF := dvi_i hF
    obtain ⟨hne_123, hF⟩ := hF
    refine lv_irem hx hb dX3_remember_22 hne_123 ?_
    refine lv_topi (fun f2_124 ef2_124 => ?_)
    replace hF := nm_i hF ef2_124
    refine va_put (D := D) (ci := 3) (v := .int f2_124) (ty := .int) (C := RX3) (T := TX3) (N := 3) hx hb hts hin_RX3 tyX3 tyX3_ok nmX3 hown hK hP hD hS 2 rfl rfl 2 (by decide) hk_2 (fun _ h9 => h9) rfl (by decide +kernel) rfl rfl (Nat.le_of_ble_eq_true rfl) dX3_remember_23 (fun H locs hP hD hS => ?_)
    obtain ⟨zP_125, ezP_125⟩ : ∃ y : PS, y = (upd zP 2 f2_124) := ⟨_, rfl⟩
    replace hF := nm_i hF ezP_125
    have hP : va_P D vwCl ((wcS ci aS_0 aS_1 zS) ++ ((wcP ci aP_0 aP_1 aQ zP_125) ++ (wcQ ci aQ zQ_122))) H := by rw [ezP_125]; exact hP
    have hD : va_D A ((wcS ci aS_0 aS_1 zS) ++ ((wcP ci aP_0 aP_1 aQ zP_125) ++ (wcQ ci aQ zQ_122))) := by rw [ezP_125]; exact hD
    refine lv_aload_n hx hb dX3_remember_26 rfl (lv_at hl 0 rfl) ?_
    refine lv_bipush (v := 20) hx hb dX3_remember_27 (by decide) ?_
    refine lv_aload_n hx hb dX3_remember_29 rfl (lv_at hl 0 rfl) ?_
    refine va_get (D := D) (ci := 3) (v := .int (zP_125 1)) (C := RX3) (T := TX3) (N := 3) hx hb hts hin_RX3 hown hK hP 2 rfl rfl 1 (by decide) hk_3 (fun _ h9 => h9) rfl dX3_remember_30 ?_
    refine lv_iconst (v := 1) hx hb dX3_remember_33 (by decide) ?_
    refine lv_iadd hx hb dX3_remember_34 ?_
    refine va_mmin hx hb (hml.trans hl.1.symm) hown hk_4 hk_5 hk_6 hk_7 (Nat.le_of_ble_eq_true rfl) (Nat.le_of_ble_eq_true rfl) (Nat.zero_le _) (Nat.zero_le _) dX3_remember_35 ?_
    refine W.eq (g2 := F0 m 38 ls [.int (imin 20 ((zP_125 1) + 1)), .ref aP_0]) rfl ?_
    refine lv_topi (fun f1_126 ef1_126 => ?_)
    replace hF := nm_i hF ef1_126
    refine va_put (D := D) (ci := 3) (v := .int f1_126) (ty := .int) (C := RX3) (T := TX3) (N := 3) hx hb hts hin_RX3 tyX3 tyX3_ok nmX3 hown hK hP hD hS 2 rfl rfl 1 (by decide) hk_3 (fun _ h9 => h9) rfl (by decide +kernel) rfl rfl (Nat.le_of_ble_eq_true rfl) dX3_remember_38 (fun H locs hP hD hS => ?_)
    obtain ⟨zP_127, ezP_127⟩ : ∃ y : PS, y = (upd zP_125 1 f1_126) := ⟨_, rfl⟩
    replace hF := nm_i hF ezP_127
    have hP : va_P D vwCl ((wcS ci aS_0 aS_1 zS) ++ ((wcP ci aP_0 aP_1 aQ zP_127) ++ (wcQ ci aQ zQ_122))) H := by rw [ezP_127]; exact hP
    have hD : va_D A ((wcS ci aS_0 aS_1 zS) ++ ((wcP ci aP_0 aP_1 aQ zP_127) ++ (wcQ ci aQ zQ_122))) := by rw [ezP_127]; exact hD
    obtain rfl := Option.some.inj hF
    exact W.vret hx hb hr (fun t ht hW => ⟨⟨(), rfl, trivial, by rw [ht]; exact hP, va_K.moved hW.alike hK, hD⟩, hS.F ht⟩) hS.2.2 dX3_remember_41
  replace hF := if_o c_119 hF
  by_cases c_128 : k_1 = 14
  · replace hF := if_i c_128 hF
    subst c_128
    refine va_aldq hx hb hK hP 3 3 rfl rfl (i := 14) (show ¬ ((14 : Int32) < 0 ∨ 20 ≤ (14 : Int32).toNatClampNeg) by decide) dX3_remember_8 ?_
    refine W.eq (g2 := F0 m 9 ls [.ref (aQ 28)]) rfl ?_
    refine lv_aload_n hx hb dX3_remember_9 rfl (lv_at hl 1 rfl) ?_
    replace hF := bnd hF
    obtain ⟨zS_129, hc_130, hF⟩ := hF
    refine cl_Vv (As := [.ref aS_0]) (rest := []) (wc := ((wcS ci (aQ 28) (aQ 29) (zQ 14)) ++ (wcS ci aS_0 aS_1 zS))) (wr := ([2, 3, 4, 5, 6, 7, 8, 9, 10, 11, 12, 13, 14, 15, 16, 17, 18, 19, 20, 21, 22, 23, 24, 25, 26, 27, 28, 29, 30, 31, 34, 35, 36, 37, 38, 39, 40, 41, 42, 43].filterMap (fun i => ((wcS ci aS_0 aS_1 zS) ++ ((wcP ci aP_0 aP_1 aQ zP) ++ (wcQ ci aQ zQ)))[i]?))) (w1 := ((wcS ci (aQ 28) (aQ 29) zS_129) ++ (wcS ci aS_0 aS_1 zS))) (wn := ((wcS ci aS_0 aS_1 zS) ++ ((wcP ci aP_0 aP_1 aQ zP) ++ (wcQ ci aQ (va_up zQ 14 zS_129))))) ⟨hx, hb, hml, hown, hts⟩ (cwV 1 hts gX3_remember_X5_copyFrom rfl rfl rfl (by decide +kernel) ⟨Nat.le_of_ble_eq_true rfl, Nat.le_of_ble_eq_true rfl⟩) (c_X5_copyFrom l D ci (aQ 28) (aQ 29) aS_0 aS_1 H.size (zQ 14) zS _ hc_130) hK hP hD hS hA [32, 33, 0, 1] [2, 3, 4, 5, 6, 7, 8, 9, 10, 11, 12, 13, 14, 15, 16, 17, 18, 19, 20, 21, 22, 23, 24, 25, 26, 27, 28, 29, 30, 31, 34, 35, 36, 37, 38, 39, 40, 41, 42, 43] [42, 43, 0, 1, 2, 3, 4, 5, 6, 7, 8, 9, 10, 11, 12, 13, 14, 15, 16, 17, 18, 19, 20, 21, 22, 23, 24, 25, 26, 27, 28, 29, 40, 41, 30, 31, 32, 33, 34, 35, 36, 37, 38, 39] rfl rfl rfl (by decide) 0 rfl rfl rfl rfl hl.1 (Nat.le_of_ble_eq_true rfl) dX3_remember_10 (Nat.zero_le _) (Nat.zero_le _) (fun H locs hP hD hS => ?_)
    have hP : va_P D vwCl ((wcS ci aS_0 aS_1 zS) ++ ((wcP ci aP_0 aP_1 aQ zP) ++ (wcQ ci aQ (va_up zQ 14 zS_129)))) H := hP
    have hD : va_D A ((wcS ci aS_0 aS_1 zS) ++ ((wcP ci aP_0 aP_1 aQ zP) ++ (wcQ ci aQ (va_up zQ 14 zS_129)))) := hD
    obtain ⟨zQ_131, ezQ_131⟩ : ∃ y : QS, y = (va_up zQ 14 zS_129) := ⟨_, rfl⟩
    replace hF := nm_i hF ezQ_131
    have hP : va_P D vwCl ((wcS ci aS_0 aS_1 zS) ++ ((wcP ci aP_0 aP_1 aQ zP) ++ (wcQ ci aQ zQ_131))) H := by rw [ezQ_131]; exact hP
    have hD : va_D A ((wcS ci aS_0 aS_1 zS) ++ ((wcP ci aP_0 aP_1 aQ zP) ++ (wcQ ci aQ zQ_131))) := by rw [ezQ_131]; exact hD
    refine lv_aload_n hx hb dX3_remember_13 rfl (lv_at hl 0 rfl) ?_
    refine lv_aload_n hx hb dX3_remember_14 rfl (lv_at hl 0 rfl) ?_
    refine va_get (D := D) (ci := 3) (v := .int (zP 2)) (C := RX3) (T := TX3) (N := 3) hx hb hts hin_RX3 hown hK hP 2 rfl rfl 2 (by decide) hk_2 (fun _ h9 => h9) rfl dX3_remember_15 ?_
    refine lv_iconst (v := 1) hx hb dX3_remember_18 (by decide) ?_
    refine lv_iadd hx hb dX3_remember_19 ?_
    refine lv_bipush (v := 20) hx hb dX3_remember_20 (by decide) ?_
    replace hF := dvi_i hF
    obtain ⟨hne_132, hF⟩ := hF
    refine lv_irem hx hb dX3_remember_22 hne_132 ?_
    refine lv_topi (fun f2_133 ef2_133 => ?_)
    replace hF := nm_i hF ef2_133
    refine va_put (D := D) (ci := 3) (v := .int f2_133) (ty := .int) (C := RX3) (T := TX3) (N := 3) hx hb hts hin_RX3 tyX3 tyX3_ok nmX3 hown hK hP hD hS 2 rfl rfl 2 (by decide) hk_2 (fun _ h9 => h9) rfl (by decide +kernel) rfl rfl (Nat.le_of_ble_eq_true rfl) dX3_remember_23 (fun H locs hP hD hS => ?_)
    obtain ⟨zP_134, ezP_134⟩ : ∃ y : PS, y = (upd zP 2 f2_133) := ⟨_, rfl⟩
    replace hF := nm_i hF ezP_134
    have hP : va_P D vwCl ((wcS ci aS_0 aS_1 zS) ++ ((wcP ci aP_0 aP_1 aQ zP_134) ++ (wcQ ci aQ zQ_131))) H := by rw [ezP_134]; exact hP
    have hD : va_D A ((wcS ci aS_0 aS_1 zS) ++ ((wcP ci aP_0 aP_1 aQ zP_134) ++ (wcQ ci aQ zQ_131))) := by rw [ezP_134]; exact hD
    refine lv_aload_n hx hb dX3_remember_26 rfl (lv_at hl 0 rfl) ?_
    refine lv_bipush (v := 20) hx hb dX3_remember_27 (by decide) ?_
    refine lv_aload_n hx hb dX3_remember_29 rfl (lv_at hl 0 rfl) ?_
    refine va_get (D := D) (ci := 3) (v := .int (zP_134 1)) (C := RX3) (T := TX3) (N := 3) hx hb hts hin_RX3 hown hK hP 2 rfl rfl 1 (by decide) hk_3 (fun _ h9 => h9) rfl dX3_remember_30 ?_
    refine lv_iconst (v := 1) hx hb dX3_remember_33 (by decide) ?_
    refine lv_iadd hx hb dX3_remember_34 ?_
    refine va_mmin hx hb (hml.trans hl.1.symm) hown hk_4 hk_5 hk_6 hk_7 (Nat.le_of_ble_eq_true rfl) (Nat.le_of_ble_eq_true rfl) (Nat.zero_le _) (Nat.zero_le _) dX3_remember_35 ?_
    refine W.eq (g2 := F0 m 38 ls [.int (imin 20 ((zP_134 1) + 1)), .ref aP_0]) rfl ?_
    refine lv_topi (fun f1_135 ef1_135 => ?_)
    replace hF := nm_i hF ef1_135
    refine va_put (D := D) (ci := 3) (v := .int f1_135) (ty := .int) (C := RX3) (T := TX3) (N := 3) hx hb hts hin_RX3 tyX3 tyX3_ok nmX3 hown hK hP hD hS 2 rfl rfl 1 (by decide) hk_3 (fun _ h9 => h9) rfl (by decide +kernel) rfl rfl (Nat.le_of_ble_eq_true rfl) dX3_remember_38 (fun H locs hP hD hS => ?_)
    obtain ⟨zP_136, ezP_136⟩ : ∃ y : PS, y = (upd zP_134 1 f1_135) := ⟨_, rfl⟩
    replace hF := nm_i hF ezP_136
    have hP : va_P D vwCl ((wcS ci aS_0 aS_1 zS) ++ ((wcP ci aP_0 aP_1 aQ zP_136) ++ (wcQ ci aQ zQ_131))) H := by rw [ezP_136]; exact hP
    have hD : va_D A ((wcS ci aS_0 aS_1 zS) ++ ((wcP ci aP_0 aP_1 aQ zP_136) ++ (wcQ ci aQ zQ_131))) := by rw [ezP_136]; exact hD
    obtain rfl := Option.some.inj hF
    exact W.vret hx hb hr (fun t ht hW => ⟨⟨(), rfl, trivial, by rw [ht]; exact hP, va_K.moved hW.alike hK, hD⟩, hS.F ht⟩) hS.2.2 dX3_remember_41
  replace hF := if_o c_128 hF
  by_cases c_137 : k_1 = 15
  · replace hF := if_i c_137 hF
    subst c_137
    refine va_aldq hx hb hK hP 3 3 rfl rfl (i := 15) (show ¬ ((15 : Int32) < 0 ∨ 20 ≤ (15 : Int32).toNatClampNeg) by decide) dX3_remember_8 ?_
    refine W.eq (g2 := F0 m 9 ls [.ref (aQ 30)]) rfl ?_
    refine lv_aload_n hx hb dX3_remember_9 rfl (lv_at hl 1 rfl) ?_
    replace hF := bnd hF
    obtain ⟨zS_138, hc_139, hF⟩ := hF
    refine cl_Vv (As := [.ref aS_0]) (rest := []) (wc := ((wcS ci (aQ 30) (aQ 31) (zQ 15)) ++ (wcS ci aS_0 aS_1 zS))) (wr := ([2, 3, 4, 5, 6, 7, 8, 9, 10, 11, 12, 13, 14, 15, 16, 17, 18, 19, 20, 21, 22, 23, 24, 25, 26, 27, 28, 29, 30, 31, 32, 33, 36, 37, 38, 39, 40, 41, 42, 43].filterMap (fun i => ((wcS ci aS_0 aS_1 zS) ++ ((wcP ci aP_0 aP_1 aQ zP) ++ (wcQ ci aQ zQ)))[i]?))) (w1 := ((wcS ci (aQ 30) (aQ 31) zS_138) ++ (wcS ci aS_0 aS_1 zS))) (wn := ((wcS ci aS_0 aS_1 zS) ++ ((wcP ci aP_0 aP_1 aQ zP) ++ (wcQ ci aQ (va_up zQ 15 zS_138))))) ⟨hx, hb, hml, hown, hts⟩ (cwV 1 hts gX3_remember_X5_copyFrom rfl rfl rfl (by decide +kernel) ⟨Nat.le_of_ble_eq_true rfl, Nat.le_of_ble_eq_true rfl⟩) (c_X5_copyFrom l D ci (aQ 30) (aQ 31) aS_0 aS_1 H.size (zQ 15) zS _ hc_139) hK hP hD hS hA [34, 35, 0, 1] [2, 3, 4, 5, 6, 7, 8, 9, 10, 11, 12, 13, 14, 15, 16, 17, 18, 19, 20, 21, 22, 23, 24, 25, 26, 27, 28, 29, 30, 31, 32, 33, 36, 37, 38, 39, 40, 41, 42, 43] [42, 43, 0, 1, 2, 3, 4, 5, 6, 7, 8, 9, 10, 11, 12, 13, 14, 15, 16, 17, 18, 19, 20, 21, 22, 23, 24, 25, 26, 27, 28, 29, 30, 31, 40, 41, 32, 33, 34, 35, 36, 37, 38, 39] rfl rfl rfl (by decide) 0 rfl rfl rfl rfl hl.1 (Nat.le_of_ble_eq_true rfl) dX3_remember_10 (Nat.zero_le _) (Nat.zero_le _) (fun H locs hP hD hS => ?_)
    have hP : va_P D vwCl ((wcS ci aS_0 aS_1 zS) ++ ((wcP ci aP_0 aP_1 aQ zP) ++ (wcQ ci aQ (va_up zQ 15 zS_138)))) H := hP
    have hD : va_D A ((wcS ci aS_0 aS_1 zS) ++ ((wcP ci aP_0 aP_1 aQ zP) ++ (wcQ ci aQ (va_up zQ 15 zS_138)))) := hD
    obtain ⟨zQ_140, ezQ_140⟩ : ∃ y : QS, y = (va_up zQ 15 zS_138) := ⟨_, rfl⟩
    replace hF := nm_i hF ezQ_140
    have hP : va_P D vwCl ((wcS ci aS_0 aS_1 zS) ++ ((wcP ci aP_0 aP_1 aQ zP) ++ (wcQ ci aQ zQ_140))) H := by rw [ezQ_140]; exact hP
    have hD : va_D A ((wcS ci aS_0 aS_1 zS) ++ ((wcP ci aP_0 aP_1 aQ zP) ++ (wcQ ci aQ zQ_140))) := by rw [ezQ_140]; exact hD
    refine lv_aload_n hx hb dX3_remember_13 rfl (lv_at hl 0 rfl) ?_
    refine lv_aload_n hx hb dX3_remember_14 rfl (lv_at hl 0 rfl) ?_
    refine va_get (D := D) (ci := 3) (v := .int (zP 2)) (C := RX3) (T := TX3) (N := 3) hx hb hts hin_RX3 hown hK hP 2 rfl rfl 2 (by decide) hk_2 (fun _ h9 => h9) rfl dX3_remember_15 ?_
    refine lv_iconst (v := 1) hx hb dX3_remember_18 (by decide) ?_
    refine lv_iadd hx hb dX3_remember_19 ?_
    refine lv_bipush (v := 20) hx hb dX3_remember_20 (by decide) ?_
    replace hF := dvi_i hF
    obtain ⟨hne_141, hF⟩ := hF
    refine lv_irem hx hb dX3_remember_22 hne_141 ?_
    refine lv_topi (fun f2_142 ef2_142 => ?_)
    replace hF := nm_i hF ef2_142
    refine va_put (D := D) (ci := 3) (v := .int f2_142) (ty := .int) (C := RX3) (T := TX3) (N := 3) hx hb hts hin_RX3 tyX3 tyX3_ok nmX3 hown hK hP hD hS 2 rfl rfl 2 (by decide) hk_2 (fun _ h9 => h9) rfl (by decide +kernel) rfl rfl (Nat.le_of_ble_eq_true rfl) dX3_remember_23 (fun H locs hP hD hS => ?_)
    obtain ⟨zP_143, ezP_143⟩ : ∃ y : PS, y = (upd zP 2 f2_142) := ⟨_, rfl⟩
    replace hF := nm_i hF ezP_143
    have hP : va_P D vwCl ((wcS ci aS_0 aS_1 zS) ++ ((wcP ci aP_0 aP_1 aQ zP_143) ++ (wcQ ci aQ zQ_140))) H := by rw [ezP_143]; exact hP
    have hD : va_D A ((wcS ci aS_0 aS_1 zS) ++ ((wcP ci aP_0 aP_1 aQ zP_143) ++ (wcQ ci aQ zQ_140))) := by rw [ezP_143]; exact hD
    refine lv_aload_n hx hb dX3_remember_26 rfl (lv_at hl 0 rfl) ?_
    refine lv_bipush (v := 20) hx hb dX3_remember_27 (by decide) ?_
    refine lv_aload_n hx hb dX3_remember_29 rfl (lv_at hl 0 rfl) ?_
    refine va_get (D := D) (ci := 3) (v := .int (zP_143 1)) (C := RX3) (T := TX3) (N := 3) hx hb hts hin_RX3 hown hK hP 2 rfl rfl 1 (by decide) hk_3 (fun _ h9 => h9) rfl dX3_remember_30 ?_
    refine lv_iconst (v := 1) hx hb dX3_remember_33 (by decide) ?_
    refine lv_iadd hx hb dX3_remember_34 ?_
    refine va_mmin hx hb (hml.trans hl.1.symm) hown hk_4 hk_5 hk_6 hk_7 (Nat.le_of_ble_eq_true rfl) (Nat.le_of_ble_eq_true rfl) (Nat.zero_le _) (Nat.zero_le _) dX3_remember_35 ?_
    refine W.eq (g2 := F0 m 38 ls [.int (imin 20 ((zP_143 1) + 1)), .ref aP_0]) rfl ?_
    refine lv_topi (fun f1_144 ef1_144 => ?_)
    replace hF := nm_i hF ef1_144
    refine va_put (D := D) (ci := 3) (v := .int f1_144) (ty := .int) (C := RX3) (T := TX3) (N := 3) hx hb hts hin_RX3 tyX3 tyX3_ok nmX3 hown hK hP hD hS 2 rfl rfl 1 (by decide) hk_3 (fun _ h9 => h9) rfl (by decide +kernel) rfl rfl (Nat.le_of_ble_eq_true rfl) dX3_remember_38 (fun H locs hP hD hS => ?_)
    obtain ⟨zP_145, ezP_145⟩ : ∃ y : PS, y = (upd zP_143 1 f1_144) := ⟨_, rfl⟩
    replace hF := nm_i hF ezP_145
    have hP : va_P D vwCl ((wcS ci aS_0 aS_1 zS) ++ ((wcP ci aP_0 aP_1 aQ zP_145) ++ (wcQ ci aQ zQ_140))) H := by rw [ezP_145]; exact hP
    have hD : va_D A ((wcS ci aS_0 aS_1 zS) ++ ((wcP ci aP_0 aP_1 aQ zP_145) ++ (wcQ ci aQ zQ_140))) := by rw [ezP_145]; exact hD
    obtain rfl := Option.some.inj hF
    exact W.vret hx hb hr (fun t ht hW => ⟨⟨(), rfl, trivial, by rw [ht]; exact hP, va_K.moved hW.alike hK, hD⟩, hS.F ht⟩) hS.2.2 dX3_remember_41
  replace hF := if_o c_137 hF
  by_cases c_146 : k_1 = 16
  · replace hF := if_i c_146 hF
    subst c_146
    refine va_aldq hx hb hK hP 3 3 rfl rfl (i := 16) (show ¬ ((16 : Int32) < 0 ∨ 20 ≤ (16 : Int32).toNatClampNeg) by decide) dX3_remember_8 ?_
    refine W.eq (g2 := F0 m 9 ls [.ref (aQ 32)]) rfl ?_
    refine lv_aload_n hx hb dX3_remember_9 rfl (lv_at hl 1 rfl) ?_
    replace hF := bnd hF
    obtain ⟨zS_147, hc_148, hF⟩ := hF
    refine cl_Vv (As := [.ref aS_0]) (rest := []) (wc := ((wcS ci (aQ 32) (aQ 33) (zQ 16)) ++ (wcS ci aS_0 aS_1 zS))) (wr := ([2, 3, 4, 5, 6, 7, 8, 9, 10, 11, 12, 13, 14, 15, 16, 17, 18, 19, 20, 21, 22, 23, 24, 25, 26, 27, 28, 29, 30, 31, 32, 33, 34, 35, 38, 39, 40, 41, 42, 43].filterMap (fun i => ((wcS ci aS_0 aS_1 zS) ++ ((wcP ci aP_0 aP_1 aQ zP) ++ (wcQ ci aQ zQ)))[i]?))) (w1 := ((wcS ci (aQ 32) (aQ 33) zS_147) ++ (wcS ci aS_0 aS_1 zS))) (wn := ((wcS ci aS_0 aS_1 zS) ++ ((wcP ci aP_0 aP_1 aQ zP) ++ (wcQ ci aQ (va_up zQ 16 zS_147))))) ⟨hx, hb, hml, hown, hts⟩ (cwV 1 hts gX3_remember_X5_copyFrom rfl rfl rfl (by decide +kernel) ⟨Nat.le_of_ble_eq_true rfl, Nat.le_of_ble_eq_true rfl⟩) (c_X5_copyFrom l D ci (aQ 32) (aQ 33) aS_0 aS_1 H.size (zQ 16) zS _ hc_148) hK hP hD hS hA [36, 37, 0, 1] [2, 3, 4, 5, 6, 7, 8, 9, 10, 11, 12, 13, 14, 15, 16, 17, 18, 19, 20, 21, 22, 23, 24, 25, 26, 27, 28, 29, 30, 31, 32, 33, 34, 35, 38, 39, 40, 41, 42, 43] [42, 43, 0, 1, 2, 3, 4, 5, 6, 7, 8, 9, 10, 11, 12, 13, 14, 15, 16, 17, 18, 19, 20, 21, 22, 23, 24, 25, 26, 27, 28, 29, 30, 31, 32, 33, 40, 41, 34, 35, 36, 37, 38, 39] rfl rfl rfl (by decide) 0 rfl rfl rfl rfl hl.1 (Nat.le_of_ble_eq_true rfl) dX3_remember_10 (Nat.zero_le _) (Nat.zero_le _) (fun H locs hP hD hS => ?_)
    have hP : va_P D vwCl ((wcS ci aS_0 aS_1 zS) ++ ((wcP ci aP_0 aP_1 aQ zP) ++ (wcQ ci aQ (va_up zQ 16 zS_147)))) H := hP
    have hD : va_D A ((wcS ci aS_0 aS_1 zS) ++ ((wcP ci aP_0 aP_1 aQ zP) ++ (wcQ ci aQ (va_up zQ 16 zS_147)))) := hD
    obtain ⟨zQ_149, ezQ_149⟩ : ∃ y : QS, y = (va_up zQ 16 zS_147) := ⟨_, rfl⟩
    replace hF := nm_i hF ezQ_149
    have hP : va_P D vwCl ((wcS ci aS_0 aS_1 zS) ++ ((wcP ci aP_0 aP_1 aQ zP) ++ (wcQ ci aQ zQ_149))) H := by rw [ezQ_149]; exact hP
    have hD : va_D A ((wcS ci aS_0 aS_1 zS) ++ ((wcP ci aP_0 aP_1 aQ zP) ++ (wcQ ci aQ zQ_149))) := by rw [ezQ_149]; exact hD
    refine lv_aload_n hx hb dX3_remember_13 rfl (lv_at hl 0 rfl) ?_
    refine lv_aload_n hx hb dX3_remember_14 rfl (lv_at hl 0 rfl) ?_
    refine va_get (D := D) (ci := 3) (v := .int (zP 2)) (C := RX3) (T := TX3) (N := 3) hx hb hts hin_RX3 hown hK hP 2 rfl rfl 2 (by decide) hk_2 (fun _ h9 => h9) rfl dX3_remember_15 ?_
    refine lv_iconst (v := 1) hx hb dX3_remember_18 (by decide) ?_
    refine lv_iadd hx hb dX3_remember_19 ?_
    refine lv_bipush (v := 20) hx hb dX3_remember_20 (by decide) ?_
    replace hF := dvi_i hF
    obtain ⟨hne_150, hF⟩ := hF
    refine lv_irem hx hb dX3_remember_22 hne_150 ?_
    refine lv_topi (fun f2_151 ef2_151 => ?_)
    replace hF := nm_i hF ef2_151
    refine va_put (D := D) (ci := 3) (v := .int f2_151) (ty := .int) (C := RX3) (T := TX3) (N := 3) hx hb hts hin_RX3 tyX3 tyX3_ok nmX3 hown hK hP hD hS 2 rfl rfl 2 (by decide) hk_2 (fun _ h9 => h9) rfl (by decide +kernel) rfl rfl (Nat.le_of_ble_eq_true rfl) dX3_remember_23 (fun H locs hP hD hS => ?_)
    obtain ⟨zP_152, ezP_152⟩ : ∃ y : PS, y = (upd zP 2 f2_151) := ⟨_, rfl⟩
    replace hF := nm_i hF ezP_152
    have hP : va_P D vwCl ((wcS ci aS_0 aS_1 zS) ++ ((wcP ci aP_0 aP_1 aQ zP_152) ++ (wcQ ci aQ zQ_149))) H := by rw [ezP_152]; exact hP
    have hD : va_D A ((wcS ci aS_0 aS_1 zS) ++ ((wcP ci aP_0 aP_1 aQ zP_152) ++ (wcQ ci aQ zQ_149))) := by rw [ezP_152]; exact hD
    refine lv_aload_n hx hb dX3_remember_26 rfl (lv_at hl 0 rfl) ?_
    refine lv_bipush (v := 20) hx hb dX3_remember_27 (by decide) ?_
    refine lv_aload_n hx hb dX3_remember_29 rfl (lv_at hl 0 rfl) ?_
    refine va_get (D := D) (ci := 3) (v := .int (zP_152 1)) (C := RX3) (T := TX3) (N := 3) hx hb hts hin_RX3 hown hK hP 2 rfl rfl 1 (by decide) hk_3 (fun _ h9 => h9) rfl dX3_remember_30 ?_
    refine lv_iconst (v := 1) hx hb dX3_remember_33 (by decide) ?_
    refine lv_iadd hx hb dX3_remember_34 ?_
    refine va_mmin hx hb (hml.trans hl.1.symm) hown hk_4 hk_5 hk_6 hk_7 (Nat.le_of_ble_eq_true rfl) (Nat.le_of_ble_eq_true rfl) (Nat.zero_le _) (Nat.zero_le _) dX3_remember_35 ?_
    refine W.eq (g2 := F0 m 38 ls [.int (imin 20 ((zP_152 1) + 1)), .ref aP_0]) rfl ?_
    refine lv_topi (fun f1_153 ef1_153 => ?_)
    replace hF := nm_i hF ef1_153
    refine va_put (D := D) (ci := 3) (v := .int f1_153) (ty := .int) (C := RX3) (T := TX3) (N := 3) hx hb hts hin_RX3 tyX3 tyX3_ok nmX3 hown hK hP hD hS 2 rfl rfl 1 (by decide) hk_3 (fun _ h9 => h9) rfl (by decide +kernel) rfl rfl (Nat.le_of_ble_eq_true rfl) dX3_remember_38 (fun H locs hP hD hS => ?_)
    obtain ⟨zP_154, ezP_154⟩ : ∃ y : PS, y = (upd zP_152 1 f1_153) := ⟨_, rfl⟩
    replace hF := nm_i hF ezP_154
    have hP : va_P D vwCl ((wcS ci aS_0 aS_1 zS) ++ ((wcP ci aP_0 aP_1 aQ zP_154) ++ (wcQ ci aQ zQ_149))) H := by rw [ezP_154]; exact hP
    have hD : va_D A ((wcS ci aS_0 aS_1 zS) ++ ((wcP ci aP_0 aP_1 aQ zP_154) ++ (wcQ ci aQ zQ_149))) := by rw [ezP_154]; exact hD
    obtain rfl := Option.some.inj hF
    exact W.vret hx hb hr (fun t ht hW => ⟨⟨(), rfl, trivial, by rw [ht]; exact hP, va_K.moved hW.alike hK, hD⟩, hS.F ht⟩) hS.2.2 dX3_remember_41
  replace hF := if_o c_146 hF
  by_cases c_155 : k_1 = 17
  · replace hF := if_i c_155 hF
    subst c_155
    refine va_aldq hx hb hK hP 3 3 rfl rfl (i := 17) (show ¬ ((17 : Int32) < 0 ∨ 20 ≤ (17 : Int32).toNatClampNeg) by decide) dX3_remember_8 ?_
    refine W.eq (g2 := F0 m 9 ls [.ref (aQ 34)]) rfl ?_
    refine lv_aload_n hx hb dX3_remember_9 rfl (lv_at hl 1 rfl) ?_
    replace hF := bnd hF
    obtain ⟨zS_156, hc_157, hF⟩ := hF
    refine cl_Vv (As := [.ref aS_0]) (rest := []) (wc := ((wcS ci (aQ 34) (aQ 35) (zQ 17)) ++ (wcS ci aS_0 aS_1 zS))) (wr := ([2, 3, 4, 5, 6, 7, 8, 9, 10, 11, 12, 13, 14, 15, 16, 17, 18, 19, 20, 21, 22, 23, 24, 25, 26, 27, 28, 29, 30, 31, 32, 33, 34, 35, 36, 37, 40, 41, 42, 43].filterMap (fun i => ((wcS ci aS_0 aS_1 zS) ++ ((wcP ci aP_0 aP_1 aQ zP) ++ (wcQ ci aQ zQ)))[i]?))) (w1 := ((wcS ci (aQ 34) (aQ 35) zS_156) ++ (wcS ci aS_0 aS_1 zS))) (wn := ((wcS ci aS_0 aS_1 zS) ++ ((wcP ci aP_0 aP_1 aQ zP) ++ (wcQ ci aQ (va_up zQ 17 zS_156))))) ⟨hx, hb, hml, hown, hts⟩ (cwV 1 hts gX3_remember_X5_copyFrom rfl rfl rfl (by decide +kernel) ⟨Nat.le_of_ble_eq_true rfl, Nat.le_of_ble_eq_true rfl⟩) (c_X5_copyFrom l D ci (aQ 34) (aQ 35) aS_0 aS_1 H.size (zQ 17) zS _ hc_157) hK hP hD hS hA [38, 39, 0, 1] [2, 3, 4, 5, 6, 7, 8, 9, 10, 11, 12, 13, 14, 15, 16, 17, 18, 19, 20, 21, 22, 23, 24, 25, 26, 27, 28, 29, 30, 31, 32, 33, 34, 35, 36, 37, 40, 41, 42, 43] [42, 43, 0, 1, 2, 3, 4, 5, 6, 7, 8, 9, 10, 11, 12, 13, 14, 15, 16, 17, 18, 19, 20, 21, 22, 23, 24, 25, 26, 27, 28, 29, 30, 31, 32, 33, 34, 35, 40, 41, 36, 37, 38, 39] rfl rfl rfl (by decide) 0 rfl rfl rfl rfl hl.1 (Nat.le_of_ble_eq_true rfl) dX3_remember_10 (Nat.zero_le _) (Nat.zero_le _) (fun H locs hP hD hS => ?_)
    have hP : va_P D vwCl ((wcS ci aS_0 aS_1 zS) ++ ((wcP ci aP_0 aP_1 aQ zP) ++ (wcQ ci aQ (va_up zQ 17 zS_156)))) H := hP
    have hD : va_D A ((wcS ci aS_0 aS_1 zS) ++ ((wcP ci aP_0 aP_1 aQ zP) ++ (wcQ ci aQ (va_up zQ 17 zS_156)))) := hD
    obtain ⟨zQ_158, ezQ_158⟩ : ∃ y : QS, y = (va_up zQ 17 zS_156) := ⟨_, rfl⟩
    replace hF := nm_i hF ezQ_158
    have hP : va_P D vwCl ((wcS ci aS_0 aS_1 zS) ++ ((wcP ci aP_0 aP_1 aQ zP) ++ (wcQ ci aQ zQ_158))) H := by rw [ezQ_158]; exact hP
    have hD : va_D A ((wcS ci aS_0 aS_1 zS) ++ ((wcP ci aP_0 aP_1 aQ zP) ++ (wcQ ci aQ zQ_158))) := by rw [ezQ_158]; exact hD
    refine lv_aload_n hx hb dX3_remember_13 rfl (lv_at hl 0 rfl) ?_
    refine lv_aload_n hx hb dX3_remember_14 rfl (lv_at hl 0 rfl) ?_
    refine va_get (D := D) (ci := 3) (v := .int (zP 2)) (C := RX3) (T := TX3) (N := 3) hx hb hts hin_RX3 hown hK hP 2 rfl rfl 2 (by decide) hk_2 (fun _ h9 => h9) rfl dX3_remember_15 ?_
    refine lv_iconst (v := 1) hx hb dX3_remember_18 (by decide) ?_
    refine lv_iadd hx hb dX3_remember_19 ?_
    refine lv_bipush (v := 20) hx hb dX3_remember_20 (by decide) ?_
    replace hF := dvi_i hF
    obtain ⟨hne_159, hF⟩ := hF
    refine lv_irem hx hb dX3_remember_22 hne_159 ?_
    refine lv_topi (fun f2_160 ef2_160 => ?_)
    replace hF := nm_i hF ef2_160
    refine va_put (D := D) (ci := 3) (v := .int f2_160) (ty := .int) (C := RX3) (T := TX3) (N := 3) hx hb hts hin_RX3 tyX3 tyX3_ok nmX3 hown hK hP hD hS 2 rfl rfl 2 (by decide) hk_2 (fun _ h9 => h9) rfl (by decide +kernel) rfl rfl (Nat.le_of_ble_eq_true rfl) dX3_remember_23 (fun H locs hP hD hS => ?_)
    obtain ⟨zP_161, ezP_161⟩ : ∃ y : PS, y = (upd zP 2 f2_160) := ⟨_, rfl⟩
    replace hF := nm_i hF ezP_161
    have hP : va_P D vwCl ((wcS ci aS_0 aS_1 zS) ++ ((wcP ci aP_0 aP_1 aQ zP_161) ++ (wcQ ci aQ zQ_158))) H := by rw [ezP_161]; exact hP
    have hD : va_D A ((wcS ci aS_0 aS_1 zS) ++ ((wcP ci aP_0 aP_1 aQ zP_161) ++ (wcQ ci aQ zQ_158))) := by rw [ezP_161]; exact hD
    refine lv_aload_n hx hb dX3_remember_26 rfl (lv_at hl 0 rfl) ?_
    refine lv_bipush (v := 20) hx hb dX3_remember_27 (by decide) ?_
    refine lv_aload_n hx hb dX3_remember_29 rfl (lv_at hl 0 rfl) ?_
    refine va_get (D := D) (ci := 3) (v := .int (zP_161 1)) (C := RX3) (T := TX3) (N := 3) hx hb hts hin_RX3 hown hK hP 2 rfl rfl 1 (by decide) hk_3 (fun _ h9 => h9) rfl dX3_remember_30 ?_
    refine lv_iconst (v := 1) hx hb dX3_remember_33 (by decide) ?_
    refine lv_iadd hx hb dX3_remember_34 ?_
    refine va_mmin hx hb (hml.trans hl.1.symm) hown hk_4 hk_5 hk_6 hk_7 (Nat.le_of_ble_eq_true rfl) (Nat.le_of_ble_eq_true rfl) (Nat.zero_le _) (Nat.zero_le _) dX3_remember_35 ?_
    refine W.eq (g2 := F0 m 38 ls [.int (imin 20 ((zP_161 1) + 1)), .ref aP_0]) rfl ?_
    refine lv_topi (fun f1_162 ef1_162 => ?_)
    replace hF := nm_i hF ef1_162
    refine va_put (D := D) (ci := 3) (v := .int f1_162) (ty := .int) (C := RX3) (T := TX3) (N := 3) hx hb hts hin_RX3 tyX3 tyX3_ok nmX3 hown hK hP hD hS 2 rfl rfl 1 (by decide) hk_3 (fun _ h9 => h9) rfl (by decide +kernel) rfl rfl (Nat.le_of_ble_eq_true rfl) dX3_remember_38 (fun H locs hP hD hS => ?_)
    obtain ⟨zP_163, ezP_163⟩ : ∃ y : PS, y = (upd zP_161 1 f1_162) := ⟨_, rfl⟩
    replace hF := nm_i hF ezP_163
    have hP : va_P D vwCl ((wcS ci aS_0 aS_1 zS) ++ ((wcP ci aP_0 aP_1 aQ zP_163) ++ (wcQ ci aQ zQ_158))) H := by rw [ezP_163]; exact hP
    have hD : va_D A ((wcS ci aS_0 aS_1 zS) ++ ((wcP ci aP_0 aP_1 aQ zP_163) ++ (wcQ ci aQ zQ_158))) := by rw [ezP_163]; exact hD
    obtain rfl := Option.some.inj hF
    exact W.vret hx hb hr (fun t ht hW => ⟨⟨(), rfl, trivial, by rw [ht]; exact hP, va_K.moved hW.alike hK, hD⟩, hS.F ht⟩) hS.2.2 dX3_remember_41
  replace hF := if_o c_155 hF
  by_cases c_164 : k_1 = 18
  · replace hF := if_i c_164 hF
    subst c_164
    refine va_aldq hx hb hK hP 3 3 rfl rfl (i := 18) (show ¬ ((18 : Int32) < 0 ∨ 20 ≤ (18 : Int32).toNatClampNeg) by decide) dX3_remember_8 ?_
    refine W.eq (g2 := F0 m 9 ls [.ref (aQ 36)]) rfl ?_
    refine lv_aload_n hx hb dX3_remember_9 rfl (lv_at hl 1 rfl) ?_
    replace hF := bnd hF
    obtain ⟨zS_165, hc_166, hF⟩ := hF
    refine cl_Vv (As := [.ref aS_0]) (rest := []) (wc := ((wcS ci (aQ 36) (aQ 37) (zQ 18)) ++ (wcS ci aS_0 aS_1 zS))) (wr := ([2, 3, 4, 5, 6, 7, 8, 9, 10, 11, 12, 13, 14, 15, 16, 17, 18, 19, 20, 21, 22, 23, 24, 25, 26, 27, 28, 29, 30, 31, 32, 33, 34, 35, 36, 37, 38, 39, 42, 43].filterMap (fun i => ((wcS ci aS_0 aS_1 zS) ++ ((wcP ci aP_0 aP_1 aQ zP) ++ (wcQ ci aQ zQ)))[i]?))) (w1 := ((wcS ci (aQ 36) (aQ 37) zS_165) ++ (wcS ci aS_0 aS_1 zS))) (wn := ((wcS ci aS_0 aS_1 zS) ++ ((wcP ci aP_0 aP_1 aQ zP) ++ (wcQ ci aQ (va_up zQ 18 zS_165))))) ⟨hx, hb, hml, hown, hts⟩ (cwV 1 hts gX3_remember_X5_copyFrom rfl rfl rfl (by decide +kernel) ⟨Nat.le_of_ble_eq_true rfl, Nat.le_of_ble_eq_true rfl⟩) (c_X5_copyFrom l D ci (aQ 36) (aQ 37) aS_0 aS_1 H.size (zQ 18) zS _ hc_166) hK hP hD hS hA [40, 41, 0, 1] [2, 3, 4, 5, 6, 7, 8, 9, 10, 11, 12, 13, 14, 15, 16, 17, 18, 19, 20, 21, 22, 23, 24, 25, 26, 27, 28, 29, 30, 31, 32, 33, 34, 35, 36, 37, 38, 39, 42, 43] [42, 43, 0, 1, 2, 3, 4, 5, 6, 7, 8, 9, 10, 11, 12, 13, 14, 15, 16, 17, 18, 19, 20, 21, 22, 23, 24, 25, 26, 27, 28, 29, 30, 31, 32, 33, 34, 35, 36, 37, 40, 41, 38, 39] rfl rfl rfl (by decide) 0 rfl rfl rfl rfl hl.1 (Nat.le_of_ble_eq_true rfl) dX3_remember_10 (Nat.zero_le _) (Nat.zero_le _) (fun H locs hP hD hS => ?_)
    have hP : va_P D vwCl ((wcS ci aS_0 aS_1 zS) ++ ((wcP ci aP_0 aP_1 aQ zP) ++ (wcQ ci aQ (va_up zQ 18 zS_165)))) H := hP
    have hD : va_D A ((wcS ci aS_0 aS_1 zS) ++ ((wcP ci aP_0 aP_1 aQ zP) ++ (wcQ ci aQ (va_up zQ 18 zS_165)))) := hD
    obtain ⟨zQ_167, ezQ_167⟩ : ∃ y : QS, y = (va_up zQ 18 zS_165) := ⟨_, rfl⟩
    replace hF := nm_i hF ezQ_167
    have hP : va_P D vwCl ((wcS ci aS_0 aS_1 zS) ++ ((wcP ci aP_0 aP_1 aQ zP) ++ (wcQ ci aQ zQ_167))) H := by rw [ezQ_167]; exact hP
    have hD : va_D A ((wcS ci aS_0 aS_1 zS) ++ ((wcP ci aP_0 aP_1 aQ zP) ++ (wcQ ci aQ zQ_167))) := by rw [ezQ_167]; exact hD
    refine lv_aload_n hx hb dX3_remember_13 rfl (lv_at hl 0 rfl) ?_
    refine lv_aload_n hx hb dX3_remember_14 rfl (lv_at hl 0 rfl) ?_
    refine va_get (D := D) (ci := 3) (v := .int (zP 2)) (C := RX3) (T := TX3) (N := 3) hx hb hts hin_RX3 hown hK hP 2 rfl rfl 2 (by decide) hk_2 (fun _ h9 => h9) rfl dX3_remember_15 ?_
    refine lv_iconst (v := 1) hx hb dX3_remember_18 (by decide) ?_
    refine lv_iadd hx hb dX3_remember_19 ?_
    refine lv_bipush (v := 20) hx hb dX3_remember_20 (by decide) ?_
    replace hF := dvi_i hF
    obtain ⟨hne_168, hF⟩ := hF
    refine lv_irem hx hb dX3_remember_22 hne_168 ?_
    refine lv_topi (fun f2_169 ef2_169 => ?_)
    replace hF := nm_i hF ef2_169
    refine va_put (D := D) (ci := 3) (v := .int f2_169) (ty := .int) (C := RX3) (T := TX3) (N := 3) hx hb hts hin_RX3 tyX3 tyX3_ok nmX3 hown hK hP hD hS 2 rfl rfl 2 (by decide) hk_2 (fun _ h9 => h9) rfl (by decide +kernel) rfl rfl (Nat.le_of_ble_eq_true rfl) dX3_remember_23 (fun H locs hP hD hS => ?_)
    obtain ⟨zP_170, ezP_170⟩ : ∃ y : PS, y = (upd zP 2 f2_169) := ⟨_, rfl⟩
    replace hF := nm_i hF ezP_170
    have hP : va_P D vwCl ((wcS ci aS_0 aS_1 zS) ++ ((wcP ci aP_0 aP_1 aQ zP_170) ++ (wcQ ci aQ zQ_167))) H := by rw [ezP_170]; exact hP
    have hD : va_D A ((wcS ci aS_0 aS_1 zS) ++ ((wcP ci aP_0 aP_1 aQ zP_170) ++ (wcQ ci aQ zQ_167))) := by rw [ezP_170]; exact hD
    refine lv_aload_n hx hb dX3_remember_26 rfl (lv_at hl 0 rfl) ?_
    refine lv_bipush (v := 20) hx hb dX3_remember_27 (by decide) ?_
    refine lv_aload_n hx hb dX3_remember_29 rfl (lv_at hl 0 rfl) ?_
    refine va_get (D := D) (ci := 3) (v := .int (zP_170 1)) (C := RX3) (T := TX3) (N := 3) hx hb hts hin_RX3 hown hK hP 2 rfl rfl 1 (by decide) hk_3 (fun _ h9 => h9) rfl dX3_remember_30 ?_
    refine lv_iconst (v := 1) hx hb dX3_remember_33 (by decide) ?_
    refine lv_iadd hx hb dX3_remember_34 ?_
    refine va_mmin hx hb (hml.trans hl.1.symm) hown hk_4 hk_5 hk_6 hk_7 (Nat.le_of_ble_eq_true rfl) (Nat.le_of_ble_eq_true rfl) (Nat.zero_le _) (Nat.zero_le _) dX3_remember_35 ?_
    refine W.eq (g2 := F0 m 38 ls [.int (imin 20 ((zP_170 1) + 1)), .ref aP_0]) rfl ?_
    refine lv_topi (fun f1_171 ef1_171 => ?_)
    replace hF := nm_i hF ef1_171
    refine va_put (D := D) (ci := 3) (v := .int f1_171) (ty := .int) (C := RX3) (T := TX3) (N := 3) hx hb hts hin_RX3 tyX3 tyX3_ok nmX3 hown hK hP hD hS 2 rfl rfl 1 (by decide) hk_3 (fun _ h9 => h9) rfl (by decide +kernel) rfl rfl (Nat.le_of_ble_eq_true rfl) dX3_remember_38 (fun H locs hP hD hS => ?_)
    obtain ⟨zP_172, ezP_172⟩ : ∃ y : PS, y = (upd zP_170 1 f1_171) := ⟨_, rfl⟩
    replace hF := nm_i hF ezP_172
    have hP : va_P D vwCl ((wcS ci aS_0 aS_1 zS) ++ ((wcP ci aP_0 aP_1 aQ zP_172) ++ (wcQ ci aQ zQ_167))) H := by rw [ezP_172]; exact hP
    have hD : va_D A ((wcS ci aS_0 aS_1 zS) ++ ((wcP ci aP_0 aP_1 aQ zP_172) ++ (wcQ ci aQ zQ_167))) := by rw [ezP_172]; exact hD
    obtain rfl := Option.some.inj hF
    exact W.vret hx hb hr (fun t ht hW => ⟨⟨(), rfl, trivial, by rw [ht]; exact hP, va_K.moved hW.alike hK, hD⟩, hS.F ht⟩) hS.2.2 dX3_remember_41
  replace hF := if_o c_164 hF
  by_cases c_173 : k_1 = 19
  · replace hF := if_i c_173 hF
    subst c_173
    refine va_aldq hx hb hK hP 3 3 rfl rfl (i := 19) (show ¬ ((19 : Int32) < 0 ∨ 20 ≤ (19 : Int32).toNatClampNeg) by decide) dX3_remember_8 ?_
    refine W.eq (g2 := F0 m 9 ls [.ref (aQ 38)]) rfl ?_
    refine lv_aload_n hx hb dX3_remember_9 rfl (lv_at hl 1 rfl) ?_
    replace hF := bnd hF
    obtain ⟨zS_174, hc_175, hF⟩ := hF
    refine cl_Vv (As := [.ref aS_0]) (rest := []) (wc := ((wcS ci (aQ 38) (aQ 39) (zQ 19)) ++ (wcS ci aS_0 aS_1 zS))) (wr := ([2, 3, 4, 5, 6, 7, 8, 9, 10, 11, 12, 13, 14, 15, 16, 17, 18, 19, 20, 21, 22, 23, 24, 25, 26, 27, 28, 29, 30, 31, 32, 33, 34, 35, 36, 37, 38, 39, 40, 41].filterMap (fun i => ((wcS ci aS_0 aS_1 zS) ++ ((wcP ci aP_0 aP_1 aQ zP) ++ (wcQ ci aQ zQ)))[i]?))) (w1 := ((wcS ci (aQ 38) (aQ 39) zS_174) ++ (wcS ci aS_0 aS_1 zS))) (wn := ((wcS ci aS_0 aS_1 zS) ++ ((wcP ci aP_0 aP_1 aQ zP) ++ (wcQ ci aQ (va_up zQ 19 zS_174))))) ⟨hx, hb, hml, hown, hts⟩ (cwV 1 hts gX3_remember_X5_copyFrom rfl rfl rfl (by decide +kernel) ⟨Nat.le_of_ble_eq_true rfl, Nat.le_of_ble_eq_true rfl⟩) (c_X5_copyFrom l D ci (aQ 38) (aQ 39) aS_0 aS_1 H.size (zQ 19) zS _ hc_175) hK hP hD hS hA [42, 43, 0, 1] [2, 3, 4, 5, 6, 7, 8, 9, 10, 11, 12, 13, 14, 15, 16, 17, 18, 19, 20, 21, 22, 23, 24, 25, 26, 27, 28, 29, 30, 31, 32, 33, 34, 35, 36, 37, 38, 39, 40, 41] [42, 43, 0, 1, 2, 3, 4, 5, 6, 7, 8, 9, 10, 11, 12, 13, 14, 15, 16, 17, 18, 19, 20, 21, 22, 23, 24, 25, 26, 27, 28, 29, 30, 31, 32, 33, 34, 35, 36, 37, 38, 39, 40, 41] rfl rfl rfl (by decide) 0 rfl rfl rfl rfl hl.1 (Nat.le_of_ble_eq_true rfl) dX3_remember_10 (Nat.zero_le _) (Nat.zero_le _) (fun H locs hP hD hS => ?_)
    have hP : va_P D vwCl ((wcS ci aS_0 aS_1 zS) ++ ((wcP ci aP_0 aP_1 aQ zP) ++ (wcQ ci aQ (va_up zQ 19 zS_174)))) H := hP
    have hD : va_D A ((wcS ci aS_0 aS_1 zS) ++ ((wcP ci aP_0 aP_1 aQ zP) ++ (wcQ ci aQ (va_up zQ 19 zS_174)))) := hD
    obtain ⟨zQ_176, ezQ_176⟩ : ∃ y : QS, y = (va_up zQ 19 zS_174) := ⟨_, rfl⟩
    replace hF := nm_i hF ezQ_176
    have hP : va_P D vwCl ((wcS ci aS_0 aS_1 zS) ++ ((wcP ci aP_0 aP_1 aQ zP) ++ (wcQ ci aQ zQ_176))) H := by rw [ezQ_176]; exact hP
    have hD : va_D A ((wcS ci aS_0 aS_1 zS) ++ ((wcP ci aP_0 aP_1 aQ zP) ++ (wcQ ci aQ zQ_176))) := by rw [ezQ_176]; exact hD
    refine lv_aload_n hx hb dX3_remember_13 rfl (lv_at hl 0 rfl) ?_
    refine lv_aload_n hx hb dX3_remember_14 rfl (lv_at hl 0 rfl) ?_
    refine va_get (D := D) (ci := 3) (v := .int (zP 2)) (C := RX3) (T := TX3) (N := 3) hx hb hts hin_RX3 hown hK hP 2 rfl rfl 2 (by decide) hk_2 (fun _ h9 => h9) rfl dX3_remember_15 ?_
    refine lv_iconst (v := 1) hx hb dX3_remember_18 (by decide) ?_
    refine lv_iadd hx hb dX3_remember_19 ?_
    refine lv_bipush (v := 20) hx hb dX3_remember_20 (by decide) ?_
    replace hF := dvi_i hF
    obtain ⟨hne_177, hF⟩ := hF
    refine lv_irem hx hb dX3_remember_22 hne_177 ?_
    refine lv_topi (fun f2_178 ef2_178 => ?_)
    replace hF := nm_i hF ef2_178
    refine va_put (D := D) (ci := 3) (v := .int f2_178) (ty := .int) (C := RX3) (T := TX3) (N := 3) hx hb hts hin_RX3 tyX3 tyX3_ok nmX3 hown hK hP hD hS 2 rfl rfl 2 (by decide) hk_2 (fun _ h9 => h9) rfl (by decide +kernel) rfl rfl (Nat.le_of_ble_eq_true rfl) dX3_remember_23 (fun H locs hP hD hS => ?_)
    obtain ⟨zP_179, ezP_179⟩ : ∃ y : PS, y = (upd zP 2 f2_178) := ⟨_, rfl⟩
    replace hF := nm_i hF ezP_179
    have hP : va_P D vwCl ((wcS ci aS_0 aS_1 zS) ++ ((wcP ci aP_0 aP_1 aQ zP_179) ++ (wcQ ci aQ zQ_176))) H := by rw [ezP_179]; exact hP
    have hD : va_D A ((wcS ci aS_0 aS_1 zS) ++ ((wcP ci aP_0 aP_1 aQ zP_179) ++ (wcQ ci aQ zQ_176))) := by rw [ezP_179]; exact hD
    refine lv_aload_n hx hb dX3_remember_26 rfl (lv_at hl 0 rfl) ?_
    refine lv_bipush (v := 20) hx hb dX3_remember_27 (by decide) ?_
    refine lv_aload_n hx hb dX3_remember_29 rfl (lv_at hl 0 rfl) ?_
    refine va_get (D := D) (ci := 3) (v := .int (zP_179 1)) (C := RX3) (T := TX3) (N := 3) hx hb hts hin_RX3 hown hK hP 2 rfl rfl 1 (by decide) hk_3 (fun _ h9 => h9) rfl dX3_remember_30 ?_
    refine lv_iconst (v := 1) hx hb dX3_remember_33 (by decide) ?_
    refine lv_iadd hx hb dX3_remember_34 ?_
    refine va_mmin hx hb (hml.trans hl.1.symm) hown hk_4 hk_5 hk_6 hk_7 (Nat.le_of_ble_eq_true rfl) (Nat.le_of_ble_eq_true rfl) (Nat.zero_le _) (Nat.zero_le _) dX3_remember_35 ?_
    refine W.eq (g2 := F0 m 38 ls [.int (imin 20 ((zP_179 1) + 1)), .ref aP_0]) rfl ?_
    refine lv_topi (fun f1_180 ef1_180 => ?_)
    replace hF := nm_i hF ef1_180
    refine va_put (D := D) (ci := 3) (v := .int f1_180) (ty := .int) (C := RX3) (T := TX3) (N := 3) hx hb hts hin_RX3 tyX3 tyX3_ok nmX3 hown hK hP hD hS 2 rfl rfl 1 (by decide) hk_3 (fun _ h9 => h9) rfl (by decide +kernel) rfl rfl (Nat.le_of_ble_eq_true rfl) dX3_remember_38 (fun H locs hP hD hS => ?_)
    obtain ⟨zP_181, ezP_181⟩ : ∃ y : PS, y = (upd zP_179 1 f1_180) := ⟨_, rfl⟩
    replace hF := nm_i hF ezP_181
    have hP : va_P D vwCl ((wcS ci aS_0 aS_1 zS) ++ ((wcP ci aP_0 aP_1 aQ zP_181) ++ (wcQ ci aQ zQ_176))) H := by rw [ezP_181]; exact hP
    have hD : va_D A ((wcS ci aS_0 aS_1 zS) ++ ((wcP ci aP_0 aP_1 aQ zP_181) ++ (wcQ ci aQ zQ_176))) := by rw [ezP_181]; exact hD
    obtain rfl := Option.some.inj hF
    exact W.vret hx hb hr (fun t ht hW => ⟨⟨(), rfl, trivial, by rw [ht]; exact hP, va_K.moved hW.alike hK, hD⟩, hS.F ht⟩) hS.2.2 dX3_remember_41
  replace hF := if_o c_173 hF
  exact absurd hF (fun h => no_none h)

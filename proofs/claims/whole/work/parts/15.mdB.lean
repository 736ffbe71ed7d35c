noncomputable def f_X7_takeClause (zM : MS) : Option (Int32 × MS) := (f_X7_here zM).bind fun q_4 => nm q_4.1 fun r_1 => nm q_4.2 fun zM_2 => (if r_1 = 103 then (some (0 : Int32)) else (if r_1 = 115 then (some (1 : Int32)) else (if r_1 = 101 then (some (2 : Int32)) else (if r_1 = 112 then (some (3 : Int32)) else (if r_1 = 104 then (some (4 : Int32)) else (some ((-1) : Int32))))))).bind fun t_5 => if t_5 < 0 then ((f_X7_fails zM_2 (1 : Int32) (zM_2.1 13)).bind fun q_17 => nm q_17.1 fun r_14 => nm q_17.2 fun zM_15 => some (r_14, zM_15)) else (if t_5 ≤ 0 then (if t_5 = 0 then (ald 3 (zM_2.2 16) (0 : Int32) fun x_76 => if x_76 ≤ 0 then (nm ((zM_2.1 13) + 1) fun f13_78 => nm ((upd zM_2.1 13 f13_78, zM_2.2) : MS) fun zM_79 => (if t_5 = 0 then ((f_X7_takeGround zM_79).bind fun q_114 => nm q_114.1 fun r_111 => nm q_114.2 fun zM_112 => some ((r_111 : Int32), (zM_112 : MS))) else (if t_5 = 1 then ((f_X7_takeSoil zM_79).bind fun q_108 => nm q_108.1 fun r_105 => nm q_108.2 fun zM_106 => some ((r_105 : Int32), (zM_106 : MS))) else (if t_5 = 2 then ((f_X7_takeOwn zM_79).bind fun q_102 => nm q_102.1 fun r_99 => nm q_102.2 fun zM_100 => some ((r_99 : Int32), (zM_100 : MS))) else (if t_5 = 3 then ((f_X7_takePath zM_79).bind fun q_96 => nm q_96.1 fun r_93 => nm q_96.2 fun zM_94 => some ((r_93 : Int32), (zM_94 : MS))) else ((f_X7_takeHedge zM_79).bind fun q_90 => nm q_90.1 fun r_87 => nm q_90.2 fun zM_88 => some ((r_87 : Int32), (zM_88 : MS)))))) : Option (Int32 × MS)).bind fun q_132 => nm q_132.1 fun t_80 => nm q_132.2 fun zM_81 => if t_80 = 0 then ((f_X7_here zM_81).bind fun q_124 => nm q_124.1 fun r_121 => nm q_124.2 fun zM_122 => if r_121 = 59 then (nm ((zM_122.1 13) + 1) fun f13_126 => nm ((upd zM_122.1 13 f13_126, zM_122.2) : MS) fun zM_127 => some (t_80, zM_127)) else ((f_X7_fails zM_122 (1 : Int32) (zM_122.1 13)).bind fun q_131 => nm q_131.1 fun r_128 => nm q_131.2 fun zM_129 => some (r_128, zM_129))) else (nm ((zM_81.1 13) + 1) fun f13_119 => nm ((upd zM_81.1 13 f13_119, zM_81.2) : MS) fun zM_120 => some (t_80, zM_120))) else ((f_X7_fails zM_2 (3 : Int32) (zM_2.1 13)).bind fun q_136 => nm q_136.1 fun r_133 => nm q_136.2 fun zM_134 => some (r_133, zM_134))) else (nm ((zM_2.1 13) + 1) fun f13_20 => nm ((upd zM_2.1 13 f13_20, zM_2.2) : MS) fun zM_21 => (if t_5 = 0 then ((f_X7_takeGround zM_21).bind fun q_56 => nm q_56.1 fun r_53 => nm q_56.2 fun zM_54 => some ((r_53 : Int32), (zM_54 : MS))) else (if t_5 = 1 then ((f_X7_takeSoil zM_21).bind fun q_50 => nm q_50.1 fun r_47 => nm q_50.2 fun zM_48 => some ((r_47 : Int32), (zM_48 : MS))) else (if t_5 = 2 then ((f_X7_takeOwn zM_21).bind fun q_44 => nm q_44.1 fun r_41 => nm q_44.2 fun zM_42 => some ((r_41 : Int32), (zM_42 : MS))) else (if t_5 = 3 then ((f_X7_takePath zM_21).bind fun q_38 => nm q_38.1 fun r_35 => nm q_38.2 fun zM_36 => some ((r_35 : Int32), (zM_36 : MS))) else ((f_X7_takeHedge zM_21).bind fun q_32 => nm q_32.1 fun r_29 => nm q_32.2 fun zM_30 => some ((r_29 : Int32), (zM_30 : MS)))))) : Option (Int32 × MS)).bind fun q_74 => nm q_74.1 fun t_22 => nm q_74.2 fun zM_23 => if t_22 = 0 then ((f_X7_here zM_23).bind fun q_66 => nm q_66.1 fun r_63 => nm q_66.2 fun zM_64 => if r_63 = 59 then (nm ((zM_64.1 13) + 1) fun f13_68 => nm ((upd zM_64.1 13 f13_68, zM_64.2) : MS) fun zM_69 => some (t_22, zM_69)) else ((f_X7_fails zM_64 (1 : Int32) (zM_64.1 13)).bind fun q_73 => nm q_73.1 fun r_70 => nm q_73.2 fun zM_71 => some (r_70, zM_71))) else (nm ((zM_23.1 13) + 1) fun f13_61 => nm ((upd zM_23.1 13 f13_61, zM_23.2) : MS) fun zM_62 => some (t_22, zM_62)))) else (ald 3 (zM_2.2 16) (0 : Int32) fun x_138 => if x_138 = 0 then ((f_X7_fails zM_2 (1 : Int32) (zM_2.1 13)).bind fun q_261 => nm q_261.1 fun r_258 => nm q_261.2 fun zM_259 => some (r_258, zM_259)) else (if t_5 = 0 then (ald 3 (zM_2.2 16) (0 : Int32) fun x_197 => if x_197 ≤ 0 then (nm ((zM_2.1 13) + 1) fun f13_199 => nm ((upd zM_2.1 13 f13_199, zM_2.2) : MS) fun zM_200 => (if t_5 = 0 then ((f_X7_takeGround zM_200).bind fun q_235 => nm q_235.1 fun r_232 => nm q_235.2 fun zM_233 => some ((r_232 : Int32), (zM_233 : MS))) else (if t_5 = 1 then ((f_X7_takeSoil zM_200).bind fun q_229 => nm q_229.1 fun r_226 => nm q_229.2 fun zM_227 => some ((r_226 : Int32), (zM_227 : MS))) else (if t_5 = 2 then ((f_X7_takeOwn zM_200).bind fun q_223 => nm q_223.1 fun r_220 => nm q_223.2 fun zM_221 => some ((r_220 : Int32), (zM_221 : MS))) else (if t_5 = 3 then ((f_X7_takePath zM_200).bind fun q_217 => nm q_217.1 fun r_214 => nm q_217.2 fun zM_215 => some ((r_214 : Int32), (zM_215 : MS))) else ((f_X7_takeHedge zM_200).bind fun q_211 => nm q_211.1 fun r_208 => nm q_211.2 fun zM_209 => some ((r_208 : Int32), (zM_209 : MS)))))) : Option (Int32 × MS)).bind fun q_253 => nm q_253.1 fun t_201 => nm q_253.2 fun zM_202 => if t_201 = 0 then ((f_X7_here zM_202).bind fun q_245 => nm q_245.1 fun r_242 => nm q_245.2 fun zM_243 => if r_242 = 59 then (nm ((zM_243.1 13) + 1) fun f13_247 => nm ((upd zM_243.1 13 f13_247, zM_243.2) : MS) fun zM_248 => some (t_201, zM_248)) else ((f_X7_fails zM_243 (1 : Int32) (zM_243.1 13)).bind fun q_252 => nm q_252.1 fun r_249 => nm q_252.2 fun zM_250 => some (r_249, zM_250))) else (nm ((zM_202.1 13) + 1) fun f13_240 => nm ((upd zM_202.1 13 f13_240, zM_202.2) : MS) fun zM_241 => some (t_201, zM_241))) else ((f_X7_fails zM_2 (3 : Int32) (zM_2.1 13)).bind fun q_257 => nm q_257.1 fun r_254 => nm q_257.2 fun zM_255 => some (r_254, zM_255))) else (nm ((zM_2.1 13) + 1) fun f13_141 => nm ((upd zM_2.1 13 f13_141, zM_2.2) : MS) fun zM_142 => (if t_5 = 0 then ((f_X7_takeGround zM_142).bind fun q_177 => nm q_177.1 fun r_174 => nm q_177.2 fun zM_175 => some ((r_174 : Int32), (zM_175 : MS))) else (if t_5 = 1 then ((f_X7_takeSoil zM_142).bind fun q_171 => nm q_171.1 fun r_168 => nm q_171.2 fun zM_169 => some ((r_168 : Int32), (zM_169 : MS))) else (if t_5 = 2 then ((f_X7_takeOwn zM_142).bind fun q_165 => nm q_165.1 fun r_162 => nm q_165.2 fun zM_163 => some ((r_162 : Int32), (zM_163 : MS))) else (if t_5 = 3 then ((f_X7_takePath zM_142).bind fun q_159 => nm q_159.1 fun r_156 => nm q_159.2 fun zM_157 => some ((r_156 : Int32), (zM_157 : MS))) else ((f_X7_takeHedge zM_142).bind fun q_153 => nm q_153.1 fun r_150 => nm q_153.2 fun zM_151 => some ((r_150 : Int32), (zM_151 : MS)))))) : Option (Int32 × MS)).bind fun q_195 => nm q_195.1 fun t_143 => nm q_195.2 fun zM_144 => if t_143 = 0 then ((f_X7_here zM_144).bind fun q_187 => nm q_187.1 fun r_184 => nm q_187.2 fun zM_185 => if r_184 = 59 then (nm ((zM_185.1 13) + 1) fun f13_189 => nm ((upd zM_185.1 13 f13_189, zM_185.2) : MS) fun zM_190 => some (t_143, zM_190)) else ((f_X7_fails zM_185 (1 : Int32) (zM_185.1 13)).bind fun q_194 => nm q_194.1 fun r_191 => nm q_194.2 fun zM_192 => some (r_191, zM_192))) else (nm ((zM_144.1 13) + 1) fun f13_182 => nm ((upd zM_144.1 13 f13_182, zM_144.2) : MS) fun zM_183 => some (t_143, zM_183))))))
set_option maxHeartbeats 4000000 in
set_option maxRecDepth 100000 in
theorem c_X7_takeClause (l : Launch) (D : va_G) (ci : Nat → ClassId) (aM : Nat → Nat) (sz : Nat) (zM : MS) (res : Int32 × MS) (hF : f_X7_takeClause zM = some res) : CtI l yX7_takeClause wsX7_takeClause { frames := 4, cells := 0, slots := 0, locals := 95 } [.ref (aM 0)] D ci (wcM ci aM zM) sz res.1 (wcM ci aM res.2) := by
  refine Met.ofW (cc := cX7_takeClause) (maxL := 4) (ret := (some .int)) (by decide) rfl ?_
  intro p e s m args below meth c s₁ B hml hv
  obtain ⟨rfl, hsz, hP, hK, hD0⟩ := hv
  have hx := B.exec
  have hb := B.bytes
  have hr := B.returns
  have hts := atoms_spec (ws := wsX7_takeClause) B.pre
  have hown : s.vm.findClass RX7 = some m.cls := findClass_of_methodNamed B.named
  have hlocks := B.notSynchronized
  subst hsz
  have hD := hD0.self (sz := s.heap.size)
  generalize hAe : va_A (wcM ci aM zM) s.heap.size = A at hD ⊢
  have hA : ∀ q : Nat, s.heap.size ≤ q → A q := fun q h => by rw [← hAe]; exact Or.inr h
  clear hD0 hAe
  have hl := lv_entry ([.ref (aM 0)]) (n := 4) (Nat.le_of_ble_eq_true rfl)
  rw [lg_entry_eq]
  generalize (lg_sl ([.ref (aM 0)]) ++ List.replicate (4 - (lg_sl ([.ref (aM 0)])).length) Slot.unset).toArray = ls at hl ⊢
  have hl : lv_has ls 4 [(0, .ref (aM 0))] := hl
  have hP : va_P D vwCl (wcM ci aM zM) s.heap := hP
  generalize hH0 : s.heap = H at hP ⊢
  have hS : va_S A s.heap H [] := by rw [← hH0]; exact va_S.rf
  clear hH0
  generalize ([] : List Loc) = locs at hS ⊢
  have hk_0 := hts (.fieldLink RX7 101 "HedgeWarModel" "at0" "I") (by decide +kernel)
  have hin_RX7 : ∀ w ∈ wsX70, w ∈ wsX7_takeClause := by decide +kernel
  have hk_2 := hts (.fieldLink RX7 33 "HedgeWarModel" "readGround" "[I") (by decide +kernel)
  unfold f_X7_takeClause at hF
  refine lv_aload_n hx hb dX7_takeClause_0 rfl (lv_at hl 0 rfl) ?_
  replace hF := bnd hF
  obtain ⟨q_4, hc_3, hF⟩ := hF
  obtain ⟨r_1, er_1⟩ : ∃ y : Int32, y = q_4.1 := ⟨_, rfl⟩
  replace hF := nm_i hF er_1
  obtain ⟨zM_2, ezM_2⟩ : ∃ y : MS, y = q_4.2 := ⟨_, rfl⟩
  replace hF := nm_i hF ezM_2
  obtain rfl : q_4 = (r_1, zM_2) := by rw [er_1, ezM_2]
  clear er_1
  clear ezM_2
  refine cl_Vi0 (As := []) (rest := []) ⟨hx, hb, hml, hown, hts⟩ (cwV 0 hts gX7_takeClause_X7_here rfl rfl rfl (by decide +kernel) ⟨Nat.le_of_ble_eq_true rfl, Nat.le_of_ble_eq_true rfl⟩) (c_X7_here l D ci aM H.size zM _ hc_3) hK hP hD hS hA 0 rfl rfl rfl rfl hl.1 (Nat.le_of_ble_eq_true rfl) dX7_takeClause_1 (Nat.zero_le _) (Nat.zero_le _) (fun H locs hP hD hS => ?_)
  have hP : va_P D vwCl (wcM ci aM zM_2) H := hP
  have hD : va_D A (wcM ci aM zM_2) := hD
  refine lv_istore_n (lv' := [(1, .int r_1), (0, .ref (aM 0))]) hx hb dX7_takeClause_4 rfl hl (by decide) rfl (fun ls hl => ?_)
  refine lv_iload_n hx hb dX7_takeClause_5 rfl (lv_at hl 0 rfl) ?_
  refine lv_bipush (v := 103) hx hb dX7_takeClause_6 (by decide) ?_
  replace hF := bnd hF
  obtain ⟨t_5, hv_12, hF⟩ := hF
  refine jn (P := fun H locs ls => va_P D vwCl (wcM ci aM zM_2) H ∧ va_D A (wcM ci aM zM_2) ∧ va_S A s.heap H locs ∧ lv_has ls 4 [(0, .ref (aM 0)), (1, .int r_1)]) (pcJ := 56) (st := [.int t_5]) ?_ ?_
  · intro H locs ls hJ
    obtain ⟨hP, hD, hS, hl⟩ := hJ
    refine lv_istore_n (lv' := [(2, .int t_5), (0, .ref (aM 0)), (1, .int r_1)]) hx hb dX7_takeClause_56 rfl hl (by decide) rfl (fun ls hl => ?_)
    refine lv_iload_n hx hb dX7_takeClause_57 rfl (lv_at hl 0 rfl) ?_
    refine lv_if_lt (tgt := 74) hx hb dX7_takeClause_58 (by decide) (fun c_13 => ?_) (fun c_13 => ?_)
    · replace hF := if_i c_13 hF
      refine lv_aload_n hx hb dX7_takeClause_74 rfl (lv_at hl 1 rfl) ?_
      refine lv_iconst (v := 1) hx hb dX7_takeClause_75 (by decide) ?_
      refine lv_aload_n hx hb dX7_takeClause_76 rfl (lv_at hl 1 rfl) ?_
      refine va_get (D := D) (ci := 7) (v := .int (zM_2.1 13)) (C := RX7) (T := TX7) (N := 38) hx hb hts hin_RX7 hown hK hP 0 rfl rfl 13 (by decide) hk_0 (fun _ h9 => h9) rfl dX7_takeClause_77 ?_
      replace hF := bnd hF
      obtain ⟨q_17, hc_16, hF⟩ := hF
      obtain ⟨r_14, er_14⟩ : ∃ y : Int32, y = q_17.1 := ⟨_, rfl⟩
      replace hF := nm_i hF er_14
      obtain ⟨zM_15, ezM_15⟩ : ∃ y : MS, y = q_17.2 := ⟨_, rfl⟩
      replace hF := nm_i hF ezM_15
      obtain rfl : q_17 = (r_14, zM_15) := by rw [er_14, ezM_15]
      clear er_14
      clear ezM_15
      refine cl_Vi0 (As := [.int 1, .int (zM_2.1 13)]) (rest := []) ⟨hx, hb, hml, hown, hts⟩ (cwV 2 hts gX7_takeClause_X7_fails rfl rfl rfl (by decide +kernel) ⟨Nat.le_of_ble_eq_true rfl, Nat.le_of_ble_eq_true rfl⟩) (c_X7_fails l D ci aM H.size zM_2 (1 : Int32) (zM_2.1 13) _ hc_16) hK hP hD hS hA 0 rfl rfl rfl rfl hl.1 (Nat.le_of_ble_eq_true rfl) dX7_takeClause_80 (Nat.zero_le _) (Nat.zero_le _) (fun H locs hP hD hS => ?_)
      have hP : va_P D vwCl (wcM ci aM zM_15) H := hP
      have hD : va_D A (wcM ci aM zM_15) := hD
      obtain rfl := Option.some.inj hF
      exact W.iret (v := r_14) hx hb hr (fun t ht hW => ⟨⟨_, (), rfl, rfl, by rw [ht]; exact hP, va_K.moved hW.alike hK, hD⟩, hS.F ht⟩) hS.2.2 dX7_takeClause_83
    · replace hF := if_o c_13 hF
      refine lv_iload_n hx hb dX7_takeClause_61 rfl (lv_at hl 0 rfl) ?_
      refine lv_if_le (tgt := 84) hx hb dX7_takeClause_62 (by decide) (fun c_18 => ?_) (fun c_18 => ?_)
      · replace hF := if_i c_18 hF
        refine lv_iload_n hx hb dX7_takeClause_84 rfl (lv_at hl 0 rfl) ?_
        refine lv_if_ne (tgt := 107) hx hb dX7_takeClause_85 (by decide) (fun c_19 => ?_) (fun c_19 => ?_)
        · replace hF := if_o c_19 hF
          refine lv_aload_n hx hb dX7_takeClause_107 rfl (lv_at hl 1 rfl) ?_
          refine lv_dup hx hb dX7_takeClause_108 rfl ?_
          refine va_get (D := D) (ci := 7) (v := .int (zM_2.1 13)) (C := RX7) (T := TX7) (N := 38) hx hb hts hin_RX7 hown hK hP 0 rfl rfl 13 (by decide) hk_0 (fun _ h9 => h9) rfl dX7_takeClause_109 ?_
          refine lv_iconst (v := 1) hx hb dX7_takeClause_112 (by decide) ?_
          refine lv_iadd hx hb dX7_takeClause_113 ?_
          refine lv_topi (fun f13_20 ef13_20 => ?_)
          replace hF := nm_i hF ef13_20
          refine va_put (D := D) (ci := 7) (v := .int f13_20) (ty := .int) (C := RX7) (T := TX7) (N := 38) hx hb hts hin_RX7 tyX7 tyX7_ok nmX7 hown hK hP hD hS 0 rfl rfl 13 (by decide) hk_0 (fun _ h9 => h9) rfl (by decide +kernel) rfl rfl (Nat.le_of_ble_eq_true rfl) dX7_takeClause_114 (fun H locs hP hD hS => ?_)
          obtain ⟨zM_21, ezM_21⟩ : ∃ y : MS, y = (upd zM_2.1 13 f13_20, zM_2.2) := ⟨_, rfl⟩
          replace hF := nm_i hF ezM_21
          have hP : va_P D vwCl (wcM ci aM zM_21) H := by rw [ezM_21]; exact hP
          have hD : va_D A (wcM ci aM zM_21) := by rw [ezM_21]; exact hD
          refine lv_iload_n hx hb dX7_takeClause_117 rfl (lv_at hl 0 rfl) ?_
          replace hF := bnd hF
          obtain ⟨q_74, hv_59, hF⟩ := hF
          obtain ⟨t_22, et_22⟩ : ∃ y : Int32, y = q_74.1 := ⟨_, rfl⟩
          replace hF := nm_i hF et_22
          obtain ⟨zM_23, ezM_23⟩ : ∃ y : MS, y = q_74.2 := ⟨_, rfl⟩
          replace hF := nm_i hF ezM_23
          obtain rfl : q_74 = (t_22, zM_23) := by rw [et_22, ezM_23]
          clear et_22
          clear ezM_23
          refine jn (P := fun H locs ls => va_P D vwCl (wcM ci aM zM_23) H ∧ va_D A (wcM ci aM zM_23) ∧ va_S A s.heap H locs ∧ lv_has ls 4 [(0, .ref (aM 0)), (1, .int r_1), (2, .int t_5)]) (pcJ := 168) (st := [.int t_22]) ?_ ?_
          · intro H locs ls hJ
            obtain ⟨hP, hD, hS, hl⟩ := hJ
            refine lv_istore_n (lv' := [(3, .int t_22), (0, .ref (aM 0)), (1, .int r_1), (2, .int t_5)]) hx hb dX7_takeClause_168 rfl hl (by decide) rfl (fun ls hl => ?_)
            refine lv_iload_n hx hb dX7_takeClause_169 rfl (lv_at hl 0 rfl) ?_
            refine lv_if_ne (tgt := 192) hx hb dX7_takeClause_170 (by decide) (fun c_60 => ?_) (fun c_60 => ?_)
            · replace hF := if_o c_60 hF
              refine lv_aload_n hx hb dX7_takeClause_192 rfl (lv_at hl 1 rfl) ?_
              refine lv_dup hx hb dX7_takeClause_193 rfl ?_
              refine va_get (D := D) (ci := 7) (v := .int (zM_23.1 13)) (C := RX7) (T := TX7) (N := 38) hx hb hts hin_RX7 hown hK hP 0 rfl rfl 13 (by decide) hk_0 (fun _ h9 => h9) rfl dX7_takeClause_194 ?_
              refine lv_iconst (v := 1) hx hb dX7_takeClause_197 (by decide) ?_
              refine lv_iadd hx hb dX7_takeClause_198 ?_
              refine lv_topi (fun f13_61 ef13_61 => ?_)
              replace hF := nm_i hF ef13_61
              refine va_put (D := D) (ci := 7) (v := .int f13_61) (ty := .int) (C := RX7) (T := TX7) (N := 38) hx hb hts hin_RX7 tyX7 tyX7_ok nmX7 hown hK hP hD hS 0 rfl rfl 13 (by decide) hk_0 (fun _ h9 => h9) rfl (by decide +kernel) rfl rfl (Nat.le_of_ble_eq_true rfl) dX7_takeClause_199 (fun H locs hP hD hS => ?_)
              obtain ⟨zM_62, ezM_62⟩ : ∃ y : MS, y = (upd zM_23.1 13 f13_61, zM_23.2) := ⟨_, rfl⟩
              replace hF := nm_i hF ezM_62
              have hP : va_P D vwCl (wcM ci aM zM_62) H := by rw [ezM_62]; exact hP
              have hD : va_D A (wcM ci aM zM_62) := by rw [ezM_62]; exact hD
              refine lv_iload_n hx hb dX7_takeClause_202 rfl (lv_at hl 0 rfl) ?_
              obtain rfl := Option.some.inj hF
              exact W.iret (v := t_22) hx hb hr (fun t ht hW => ⟨⟨_, (), rfl, rfl, by rw [ht]; exact hP, va_K.moved hW.alike hK, hD⟩, hS.F ht⟩) hS.2.2 dX7_takeClause_203
            · replace hF := if_i c_60 hF
              refine lv_aload_n hx hb dX7_takeClause_173 rfl (lv_at hl 1 rfl) ?_
              replace hF := bnd hF
              obtain ⟨q_66, hc_65, hF⟩ := hF
              obtain ⟨r_63, er_63⟩ : ∃ y : Int32, y = q_66.1 := ⟨_, rfl⟩
              replace hF := nm_i hF er_63
              obtain ⟨zM_64, ezM_64⟩ : ∃ y : MS, y = q_66.2 := ⟨_, rfl⟩
              replace hF := nm_i hF ezM_64
              obtain rfl : q_66 = (r_63, zM_64) := by rw [er_63, ezM_64]
              clear er_63
              clear ezM_64
              refine cl_Vi0 (As := []) (rest := []) ⟨hx, hb, hml, hown, hts⟩ (cwV 0 hts gX7_takeClause_X7_here rfl rfl rfl (by decide +kernel) ⟨Nat.le_of_ble_eq_true rfl, Nat.le_of_ble_eq_true rfl⟩) (c_X7_here l D ci aM H.size zM_23 _ hc_65) hK hP hD hS hA 0 rfl rfl rfl rfl hl.1 (Nat.le_of_ble_eq_true rfl) dX7_takeClause_174 (Nat.zero_le _) (Nat.zero_le _) (fun H locs hP hD hS => ?_)
              have hP : va_P D vwCl (wcM ci aM zM_64) H := hP
              have hD : va_D A (wcM ci aM zM_64) := hD
              refine lv_bipush (v := 59) hx hb dX7_takeClause_177 (by decide) ?_
              refine lv_icmp_eq (tgt := 192) hx hb dX7_takeClause_179 (by decide) (fun c_67 => ?_) (fun c_67 => ?_)
              · replace hF := if_i c_67 hF
                refine lv_aload_n hx hb dX7_takeClause_192 rfl (lv_at hl 1 rfl) ?_
                refine lv_dup hx hb dX7_takeClause_193 rfl ?_
                refine va_get (D := D) (ci := 7) (v := .int (zM_64.1 13)) (C := RX7) (T := TX7) (N := 38) hx hb hts hin_RX7 hown hK hP 0 rfl rfl 13 (by decide) hk_0 (fun _ h9 => h9) rfl dX7_takeClause_194 ?_
                refine lv_iconst (v := 1) hx hb dX7_takeClause_197 (by decide) ?_
                refine lv_iadd hx hb dX7_takeClause_198 ?_
                refine lv_topi (fun f13_68 ef13_68 => ?_)
                replace hF := nm_i hF ef13_68
                refine va_put (D := D) (ci := 7) (v := .int f13_68) (ty := .int) (C := RX7) (T := TX7) (N := 38) hx hb hts hin_RX7 tyX7 tyX7_ok nmX7 hown hK hP hD hS 0 rfl rfl 13 (by decide) hk_0 (fun _ h9 => h9) rfl (by decide +kernel) rfl rfl (Nat.le_of_ble_eq_true rfl) dX7_takeClause_199 (fun H locs hP hD hS => ?_)
                obtain ⟨zM_69, ezM_69⟩ : ∃ y : MS, y = (upd zM_64.1 13 f13_68, zM_64.2) := ⟨_, rfl⟩
                replace hF := nm_i hF ezM_69
                have hP : va_P D vwCl (wcM ci aM zM_69) H := by rw [ezM_69]; exact hP
                have hD : va_D A (wcM ci aM zM_69) := by rw [ezM_69]; exact hD
                refine lv_iload_n hx hb dX7_takeClause_202 rfl (lv_at hl 0 rfl) ?_
                obtain rfl := Option.some.inj hF
                exact W.iret (v := t_22) hx hb hr (fun t ht hW => ⟨⟨_, (), rfl, rfl, by rw [ht]; exact hP, va_K.moved hW.alike hK, hD⟩, hS.F ht⟩) hS.2.2 dX7_takeClause_203
              · replace hF := if_o c_67 hF
                refine lv_aload_n hx hb dX7_takeClause_182 rfl (lv_at hl 1 rfl) ?_
                refine lv_iconst (v := 1) hx hb dX7_takeClause_183 (by decide) ?_
                refine lv_aload_n hx hb dX7_takeClause_184 rfl (lv_at hl 1 rfl) ?_
                refine va_get (D := D) (ci := 7) (v := .int (zM_64.1 13)) (C := RX7) (T := TX7) (N := 38) hx hb hts hin_RX7 hown hK hP 0 rfl rfl 13 (by decide) hk_0 (fun _ h9 => h9) rfl dX7_takeClause_185 ?_
                replace hF := bnd hF
                obtain ⟨q_73, hc_72, hF⟩ := hF
                obtain ⟨r_70, er_70⟩ : ∃ y : Int32, y = q_73.1 := ⟨_, rfl⟩
                replace hF := nm_i hF er_70
                obtain ⟨zM_71, ezM_71⟩ : ∃ y : MS, y = q_73.2 := ⟨_, rfl⟩
                replace hF := nm_i hF ezM_71
                obtain rfl : q_73 = (r_70, zM_71) := by rw [er_70, ezM_71]
                clear er_70
                clear ezM_71
                refine cl_Vi0 (As := [.int 1, .int (zM_64.1 13)]) (rest := []) ⟨hx, hb, hml, hown, hts⟩ (cwV 2 hts gX7_takeClause_X7_fails rfl rfl rfl (by decide +kernel) ⟨Nat.le_of_ble_eq_true rfl, Nat.le_of_ble_eq_true rfl⟩) (c_X7_fails l D ci aM H.size zM_64 (1 : Int32) (zM_64.1 13) _ hc_72) hK hP hD hS hA 0 rfl rfl rfl rfl hl.1 (Nat.le_of_ble_eq_true rfl) dX7_takeClause_188 (Nat.zero_le _) (Nat.zero_le _) (fun H locs hP hD hS => ?_)
                have hP : va_P D vwCl (wcM ci aM zM_71) H := hP
                have hD : va_D A (wcM ci aM zM_71) := hD
                obtain rfl := Option.some.inj hF
                exact W.iret (v := r_70) hx hb hr (fun t ht hW => ⟨⟨_, (), rfl, rfl, by rw [ht]; exact hP, va_K.moved hW.alike hK, hD⟩, hS.F ht⟩) hS.2.2 dX7_takeClause_191
          · intro J_24
            clear hF
            have hF := hv_59
            refine lv_if_ne (tgt := 128) hx hb dX7_takeClause_118 (by decide) (fun c_25 => ?_) (fun c_25 => ?_)
            · replace hF := if_o c_25 hF
              refine lv_iload_n hx hb dX7_takeClause_128 rfl (lv_at hl 0 rfl) ?_
              refine lv_iconst (v := 1) hx hb dX7_takeClause_129 (by decide) ?_
              refine lv_icmp_ne (tgt := 140) hx hb dX7_takeClause_130 (by decide) (fun c_26 => ?_) (fun c_26 => ?_)
              · replace hF := if_o c_26 hF
                refine lv_iload_n hx hb dX7_takeClause_140 rfl (lv_at hl 0 rfl) ?_
                refine lv_iconst (v := 2) hx hb dX7_takeClause_141 (by decide) ?_
                refine lv_icmp_ne (tgt := 152) hx hb dX7_takeClause_142 (by decide) (fun c_27 => ?_) (fun c_27 => ?_)
                · replace hF := if_o c_27 hF
                  refine lv_iload_n hx hb dX7_takeClause_152 rfl (lv_at hl 0 rfl) ?_
                  refine lv_iconst (v := 3) hx hb dX7_takeClause_153 (by decide) ?_
                  refine lv_icmp_ne (tgt := 164) hx hb dX7_takeClause_154 (by decide) (fun c_28 => ?_) (fun c_28 => ?_)
                  · replace hF := if_o c_28 hF
                    refine lv_aload_n hx hb dX7_takeClause_164 rfl (lv_at hl 1 rfl) ?_
                    replace hF := bnd hF
                    obtain ⟨q_32, hc_31, hF⟩ := hF
                    obtain ⟨r_29, er_29⟩ : ∃ y : Int32, y = q_32.1 := ⟨_, rfl⟩
                    replace hF := nm_i hF er_29
                    obtain ⟨zM_30, ezM_30⟩ : ∃ y : MS, y = q_32.2 := ⟨_, rfl⟩
                    replace hF := nm_i hF ezM_30
                    obtain rfl : q_32 = (r_29, zM_30) := by rw [er_29, ezM_30]
                    clear er_29
                    clear ezM_30
                    refine cl_Vi0 (As := []) (rest := []) ⟨hx, hb, hml, hown, hts⟩ (cwV 0 hts gX7_takeClause_X7_takeHedge rfl rfl rfl (by decide +kernel) ⟨Nat.le_of_ble_eq_true rfl, Nat.le_of_ble_eq_true rfl⟩) (c_X7_takeHedge l D ci aM H.size zM_21 _ hc_31) hK hP hD hS hA 0 rfl rfl rfl rfl hl.1 (Nat.le_of_ble_eq_true rfl) dX7_takeClause_165 (Nat.zero_le _) (Nat.zero_le _) (fun H locs hP hD hS => ?_)
                    have hP : va_P D vwCl (wcM ci aM zM_30) H := hP
                    have hD : va_D A (wcM ci aM zM_30) := hD
                    obtain ⟨g_33, g_34⟩ : (r_29 : Int32) = t_22 ∧ (zM_30 : MS) = zM_23 := by have h9 := Option.some.inj hF; simpa only [Prod.mk.injEq] using h9
                    subst g_33
                    subst g_34
                    exact J_24 H locs ls ⟨hP, hD, hS, lv_sub hl [1, 2, 0] rfl⟩
                  · replace hF := if_i c_28 hF
                    refine lv_aload_n hx hb dX7_takeClause_157 rfl (lv_at hl 1 rfl) ?_
                    replace hF := bnd hF
                    obtain ⟨q_38, hc_37, hF⟩ := hF
                    obtain ⟨r_35, er_35⟩ : ∃ y : Int32, y = q_38.1 := ⟨_, rfl⟩
                    replace hF := nm_i hF er_35
                    obtain ⟨zM_36, ezM_36⟩ : ∃ y : MS, y = q_38.2 := ⟨_, rfl⟩
                    replace hF := nm_i hF ezM_36
                    obtain rfl : q_38 = (r_35, zM_36) := by rw [er_35, ezM_36]
                    clear er_35
                    clear ezM_36
                    refine cl_Vi0 (As := []) (rest := []) ⟨hx, hb, hml, hown, hts⟩ (cwV 0 hts gX7_takeClause_X7_takePath rfl rfl rfl (by decide +kernel) ⟨Nat.le_of_ble_eq_true rfl, Nat.le_of_ble_eq_true rfl⟩) (c_X7_takePath l D ci aM H.size zM_21 _ hc_37) hK hP hD hS hA 0 rfl rfl rfl rfl hl.1 (Nat.le_of_ble_eq_true rfl) dX7_takeClause_158 (Nat.zero_le _) (Nat.zero_le _) (fun H locs hP hD hS => ?_)
                    have hP : va_P D vwCl (wcM ci aM zM_36) H := hP
                    have hD : va_D A (wcM ci aM zM_36) := hD
                    refine lv_goto (tgt := 168) hx hb dX7_takeClause_161 (by decide) ?_
                    obtain ⟨g_39, g_40⟩ : (r_35 : Int32) = t_22 ∧ (zM_36 : MS) = zM_23 := by have h9 := Option.some.inj hF; simpa only [Prod.mk.injEq] using h9
                    subst g_39
                    subst g_40
                    exact J_24 H locs ls ⟨hP, hD, hS, lv_sub hl [1, 2, 0] rfl⟩
                · replace hF := if_i c_27 hF
                  refine lv_aload_n hx hb dX7_takeClause_145 rfl (lv_at hl 1 rfl) ?_
                  replace hF := bnd hF
                  obtain ⟨q_44, hc_43, hF⟩ := hF
                  obtain ⟨r_41, er_41⟩ : ∃ y : Int32, y = q_44.1 := ⟨_, rfl⟩
                  replace hF := nm_i hF er_41
                  obtain ⟨zM_42, ezM_42⟩ : ∃ y : MS, y = q_44.2 := ⟨_, rfl⟩
                  replace hF := nm_i hF ezM_42
                  obtain rfl : q_44 = (r_41, zM_42) := by rw [er_41, ezM_42]
                  clear er_41
                  clear ezM_42
                  refine cl_Vi0 (As := []) (rest := []) ⟨hx, hb, hml, hown, hts⟩ (cwV 0 hts gX7_takeClause_X7_takeOwn rfl rfl rfl (by decide +kernel) ⟨Nat.le_of_ble_eq_true rfl, Nat.le_of_ble_eq_true rfl⟩) (c_X7_takeOwn l D ci aM H.size zM_21 _ hc_43) hK hP hD hS hA 0 rfl rfl rfl rfl hl.1 (Nat.le_of_ble_eq_true rfl) dX7_takeClause_146 (Nat.zero_le _) (Nat.zero_le _) (fun H locs hP hD hS => ?_)
                  have hP : va_P D vwCl (wcM ci aM zM_42) H := hP
                  have hD : va_D A (wcM ci aM zM_42) := hD
                  refine lv_goto (tgt := 168) hx hb dX7_takeClause_149 (by decide) ?_
                  obtain ⟨g_45, g_46⟩ : (r_41 : Int32) = t_22 ∧ (zM_42 : MS) = zM_23 := by have h9 := Option.some.inj hF; simpa only [Prod.mk.injEq] using h9
                  subst g_45
                  subst g_46
                  exact J_24 H locs ls ⟨hP, hD, hS, lv_sub hl [1, 2, 0] rfl⟩
              · replace hF := if_i c_26 hF
                refine lv_aload_n hx hb dX7_takeClause_133 rfl (lv_at hl 1 rfl) ?_
                replace hF := bnd hF
                obtain ⟨q_50, hc_49, hF⟩ := hF
                obtain ⟨r_47, er_47⟩ : ∃ y : Int32, y = q_50.1 := ⟨_, rfl⟩
                replace hF := nm_i hF er_47
                obtain ⟨zM_48, ezM_48⟩ : ∃ y : MS, y = q_50.2 := ⟨_, rfl⟩
                replace hF := nm_i hF ezM_48
                obtain rfl : q_50 = (r_47, zM_48) := by rw [er_47, ezM_48]
                clear er_47
                clear ezM_48
                refine cl_Vi0 (As := []) (rest := []) ⟨hx, hb, hml, hown, hts⟩ (cwV 0 hts gX7_takeClause_X7_takeSoil rfl rfl rfl (by decide +kernel) ⟨Nat.le_of_ble_eq_true rfl, Nat.le_of_ble_eq_true rfl⟩) (c_X7_takeSoil l D ci aM H.size zM_21 _ hc_49) hK hP hD hS hA 0 rfl rfl rfl rfl hl.1 (Nat.le_of_ble_eq_true rfl) dX7_takeClause_134 (Nat.zero_le _) (Nat.zero_le _) (fun H locs hP hD hS => ?_)
                have hP : va_P D vwCl (wcM ci aM zM_48) H := hP
                have hD : va_D A (wcM ci aM zM_48) := hD
                refine lv_goto (tgt := 168) hx hb dX7_takeClause_137 (by decide) ?_
                obtain ⟨g_51, g_52⟩ : (r_47 : Int32) = t_22 ∧ (zM_48 : MS) = zM_23 := by have h9 := Option.some.inj hF; simpa only [Prod.mk.injEq] using h9
                subst g_51
                subst g_52
                exact J_24 H locs ls ⟨hP, hD, hS, lv_sub hl [1, 2, 0] rfl⟩
            · replace hF := if_i c_25 hF
              refine lv_aload_n hx hb dX7_takeClause_121 rfl (lv_at hl 1 rfl) ?_
              replace hF := bnd hF
              obtain ⟨q_56, hc_55, hF⟩ := hF
              obtain ⟨r_53, er_53⟩ : ∃ y : Int32, y = q_56.1 := ⟨_, rfl⟩
              replace hF := nm_i hF er_53
              obtain ⟨zM_54, ezM_54⟩ : ∃ y : MS, y = q_56.2 := ⟨_, rfl⟩
              replace hF := nm_i hF ezM_54
              obtain rfl : q_56 = (r_53, zM_54) := by rw [er_53, ezM_54]
              clear er_53
              clear ezM_54
              refine cl_Vi0 (As := []) (rest := []) ⟨hx, hb, hml, hown, hts⟩ (cwV 0 hts gX7_takeClause_X7_takeGround rfl rfl rfl (by decide +kernel) ⟨Nat.le_of_ble_eq_true rfl, Nat.le_of_ble_eq_true rfl⟩) (c_X7_takeGround l D ci aM H.size zM_21 _ hc_55) hK hP hD hS hA 0 rfl rfl rfl rfl hl.1 (Nat.le_of_ble_eq_true rfl) dX7_takeClause_122 (Nat.zero_le _) (Nat.zero_le _) (fun H locs hP hD hS => ?_)
              have hP : va_P D vwCl (wcM ci aM zM_54) H := hP
              have hD : va_D A (wcM ci aM zM_54) := hD
              refine lv_goto (tgt := 168) hx hb dX7_takeClause_125 (by decide) ?_
              obtain ⟨g_57, g_58⟩ : (r_53 : Int32) = t_22 ∧ (zM_54 : MS) = zM_23 := by have h9 := Option.some.inj hF; simpa only [Prod.mk.injEq] using h9
              subst g_57
              subst g_58
              exact J_24 H locs ls ⟨hP, hD, hS, lv_sub hl [1, 2, 0] rfl⟩
        · replace hF := if_i c_19 hF
          refine lv_aload_n hx hb dX7_takeClause_88 rfl (lv_at hl 1 rfl) ?_
          refine va_get (D := D) (ci := 7) (v := .ref (aM 16)) (C := RX7) (T := TX7) (N := 38) hx hb hts hin_RX7 hown hK hP 0 rfl rfl 16 (by decide) hk_2 (fun _ h9 => h9) rfl dX7_takeClause_89 ?_
          refine lv_iconst (v := 0) hx hb dX7_takeClause_92 (by decide) ?_
          replace hF := ald_i hF
          obtain ⟨hin_75, hF⟩ := hF
          refine va_iald hx hb hK hP 7 0 rfl rfl hin_75 dX7_takeClause_93 ?_
          refine lv_topi (fun x_76 ex_76 => ?_)
          replace hF := nm_i hF ex_76
          refine lv_if_le (tgt := 107) hx hb dX7_takeClause_94 (by decide) (fun c_77 => ?_) (fun c_77 => ?_)
          · replace hF := if_i c_77 hF
            refine lv_aload_n hx hb dX7_takeClause_107 rfl (lv_at hl 1 rfl) ?_
            refine lv_dup hx hb dX7_takeClause_108 rfl ?_
            refine va_get (D := D) (ci := 7) (v := .int (zM_2.1 13)) (C := RX7) (T := TX7) (N := 38) hx hb hts hin_RX7 hown hK hP 0 rfl rfl 13 (by decide) hk_0 (fun _ h9 => h9) rfl dX7_takeClause_109 ?_
            refine lv_iconst (v := 1) hx hb dX7_takeClause_112 (by decide) ?_
            refine lv_iadd hx hb dX7_takeClause_113 ?_
            refine lv_topi (fun f13_78 ef13_78 => ?_)
            replace hF := nm_i hF ef13_78
            refine va_put (D := D) (ci := 7) (v := .int f13_78) (ty := .int) (C := RX7) (T := TX7) (N := 38) hx hb hts hin_RX7 tyX7 tyX7_ok nmX7 hown hK hP hD hS 0 rfl rfl 13 (by decide) hk_0 (fun _ h9 => h9) rfl (by decide +kernel) rfl rfl (Nat.le_of_ble_eq_true rfl) dX7_takeClause_114 (fun H locs hP hD hS => ?_)
            obtain ⟨zM_79, ezM_79⟩ : ∃ y : MS, y = (upd zM_2.1 13 f13_78, zM_2.2) := ⟨_, rfl⟩
            replace hF := nm_i hF ezM_79
            have hP : va_P D vwCl (wcM ci aM zM_79) H := by rw [ezM_79]; exact hP
            have hD : va_D A (wcM ci aM zM_79) := by rw [ezM_79]; exact hD
            refine lv_iload_n hx hb dX7_takeClause_117 rfl (lv_at hl 0 rfl) ?_
            replace hF := bnd hF
            obtain ⟨q_132, hv_117, hF⟩ := hF
            obtain ⟨t_80, et_80⟩ : ∃ y : Int32, y = q_132.1 := ⟨_, rfl⟩
            replace hF := nm_i hF et_80
            obtain ⟨zM_81, ezM_81⟩ : ∃ y : MS, y = q_132.2 := ⟨_, rfl⟩
            replace hF := nm_i hF ezM_81
            obtain rfl : q_132 = (t_80, zM_81) := by rw [et_80, ezM_81]
            clear et_80
            clear ezM_81
            refine jn (P := fun H locs ls => va_P D vwCl (wcM ci aM zM_81) H ∧ va_D A (wcM ci aM zM_81) ∧ va_S A s.heap H locs ∧ lv_has ls 4 [(0, .ref (aM 0)), (1, .int r_1), (2, .int t_5)]) (pcJ := 168) (st := [.int t_80]) ?_ ?_
            · intro H locs ls hJ
              obtain ⟨hP, hD, hS, hl⟩ := hJ
              refine lv_istore_n (lv' := [(3, .int t_80), (0, .ref (aM 0)), (1, .int r_1), (2, .int t_5)]) hx hb dX7_takeClause_168 rfl hl (by decide) rfl (fun ls hl => ?_)
              refine lv_iload_n hx hb dX7_takeClause_169 rfl (lv_at hl 0 rfl) ?_
              refine lv_if_ne (tgt := 192) hx hb dX7_takeClause_170 (by decide) (fun c_118 => ?_) (fun c_118 => ?_)
              · replace hF := if_o c_118 hF
                refine lv_aload_n hx hb dX7_takeClause_192 rfl (lv_at hl 1 rfl) ?_
                refine lv_dup hx hb dX7_takeClause_193 rfl ?_
                refine va_get (D := D) (ci := 7) (v := .int (zM_81.1 13)) (C := RX7) (T := TX7) (N := 38) hx hb hts hin_RX7 hown hK hP 0 rfl rfl 13 (by decide) hk_0 (fun _ h9 => h9) rfl dX7_takeClause_194 ?_
                refine lv_iconst (v := 1) hx hb dX7_takeClause_197 (by decide) ?_
                refine lv_iadd hx hb dX7_takeClause_198 ?_
                refine lv_topi (fun f13_119 ef13_119 => ?_)
                replace hF := nm_i hF ef13_119
                refine va_put (D := D) (ci := 7) (v := .int f13_119) (ty := .int) (C := RX7) (T := TX7) (N := 38) hx hb hts hin_RX7 tyX7 tyX7_ok nmX7 hown hK hP hD hS 0 rfl rfl 13 (by decide) hk_0 (fun _ h9 => h9) rfl (by decide +kernel) rfl rfl (Nat.le_of_ble_eq_true rfl) dX7_takeClause_199 (fun H locs hP hD hS => ?_)
                obtain ⟨zM_120, ezM_120⟩ : ∃ y : MS, y = (upd zM_81.1 13 f13_119, zM_81.2) := ⟨_, rfl⟩
                replace hF := nm_i hF ezM_120
                have hP : va_P D vwCl (wcM ci aM zM_120) H := by rw [ezM_120]; exact hP
                have hD : va_D A (wcM ci aM zM_120) := by rw [ezM_120]; exact hD
                refine lv_iload_n hx hb dX7_takeClause_202 rfl (lv_at hl 0 rfl) ?_
                obtain rfl := Option.some.inj hF
                exact W.iret (v := t_80) hx hb hr (fun t ht hW => ⟨⟨_, (), rfl, rfl, by rw [ht]; exact hP, va_K.moved hW.alike hK, hD⟩, hS.F ht⟩) hS.2.2 dX7_takeClause_203
              · replace hF := if_i c_118 hF
                refine lv_aload_n hx hb dX7_takeClause_173 rfl (lv_at hl 1 rfl) ?_
                replace hF := bnd hF
                obtain ⟨q_124, hc_123, hF⟩ := hF
                obtain ⟨r_121, er_121⟩ : ∃ y : Int32, y = q_124.1 := ⟨_, rfl⟩
                replace hF := nm_i hF er_121
                obtain ⟨zM_122, ezM_122⟩ : ∃ y : MS, y = q_124.2 := ⟨_, rfl⟩
                replace hF := nm_i hF ezM_122
                obtain rfl : q_124 = (r_121, zM_122) := by rw [er_121, ezM_122]
                clear er_121
                clear ezM_122
                refine cl_Vi0 (As := []) (rest := []) ⟨hx, hb, hml, hown, hts⟩ (cwV 0 hts gX7_takeClause_X7_here rfl rfl rfl (by decide +kernel) ⟨Nat.le_of_ble_eq_true rfl, Nat.le_of_ble_eq_true rfl⟩) (c_X7_here l D ci aM H.size zM_81 _ hc_123) hK hP hD hS hA 0 rfl rfl rfl rfl hl.1 (Nat.le_of_ble_eq_true rfl) dX7_takeClause_174 (Nat.zero_le _) (Nat.zero_le _) (fun H locs hP hD hS => ?_)
                have hP : va_P D vwCl (wcM ci aM zM_122) H := hP
                have hD : va_D A (wcM ci aM zM_122) := hD
                refine lv_bipush (v := 59) hx hb dX7_takeClause_177 (by decide) ?_
                refine lv_icmp_eq (tgt := 192) hx hb dX7_takeClause_179 (by decide) (fun c_125 => ?_) (fun c_125 => ?_)
                · replace hF := if_i c_125 hF
                  refine lv_aload_n hx hb dX7_takeClause_192 rfl (lv_at hl 1 rfl) ?_
                  refine lv_dup hx hb dX7_takeClause_193 rfl ?_
                  refine va_get (D := D) (ci := 7) (v := .int (zM_122.1 13)) (C := RX7) (T := TX7) (N := 38) hx hb hts hin_RX7 hown hK hP 0 rfl rfl 13 (by decide) hk_0 (fun _ h9 => h9) rfl dX7_takeClause_194 ?_
                  refine lv_iconst (v := 1) hx hb dX7_takeClause_197 (by decide) ?_
                  refine lv_iadd hx hb dX7_takeClause_198 ?_
                  refine lv_topi (fun f13_126 ef13_126 => ?_)
                  replace hF := nm_i hF ef13_126
                  refine va_put (D := D) (ci := 7) (v := .int f13_126) (ty := .int) (C := RX7) (T := TX7) (N := 38) hx hb hts hin_RX7 tyX7 tyX7_ok nmX7 hown hK hP hD hS 0 rfl rfl 13 (by decide) hk_0 (fun _ h9 => h9) rfl (by decide +kernel) rfl rfl (Nat.le_of_ble_eq_true rfl) dX7_takeClause_199 (fun H locs hP hD hS => ?_)
                  obtain ⟨zM_127, ezM_127⟩ : ∃ y : MS, y = (upd zM_122.1 13 f13_126, zM_122.2) := ⟨_, rfl⟩
                  replace hF := nm_i hF ezM_127
                  have hP : va_P D vwCl (wcM ci aM zM_127) H := by rw [ezM_127]; exact hP
                  have hD : va_D A (wcM ci aM zM_127) := by rw [ezM_127]; exact hD
                  refine lv_iload_n hx hb dX7_takeClause_202 rfl (lv_at hl 0 rfl) ?_
                  obtain rfl := Option.some.inj hF
                  exact W.iret (v := t_80) hx hb hr (fun t ht hW => ⟨⟨_, (), rfl, rfl, by rw [ht]; exact hP, va_K.moved hW.alike hK, hD⟩, hS.F ht⟩) hS.2.2 dX7_takeClause_203
                · replace hF := if_o c_125 hF
                  refine lv_aload_n hx hb dX7_takeClause_182 rfl (lv_at hl 1 rfl) ?_
                  refine lv_iconst (v := 1) hx hb dX7_takeClause_183 (by decide) ?_
                  refine lv_aload_n hx hb dX7_takeClause_184 rfl (lv_at hl 1 rfl) ?_
                  refine va_get (D := D) (ci := 7) (v := .int (zM_122.1 13)) (C := RX7) (T := TX7) (N := 38) hx hb hts hin_RX7 hown hK hP 0 rfl rfl 13 (by decide) hk_0 (fun _ h9 => h9) rfl dX7_takeClause_185 ?_
                  replace hF := bnd hF
                  obtain ⟨q_131, hc_130, hF⟩ := hF
                  obtain ⟨r_128, er_128⟩ : ∃ y : Int32, y = q_131.1 := ⟨_, rfl⟩
                  replace hF := nm_i hF er_128
                  obtain ⟨zM_129, ezM_129⟩ : ∃ y : MS, y = q_131.2 := ⟨_, rfl⟩
                  replace hF := nm_i hF ezM_129
                  obtain rfl : q_131 = (r_128, zM_129) := by rw [er_128, ezM_129]
                  clear er_128
                  clear ezM_129
                  refine cl_Vi0 (As := [.int 1, .int (zM_122.1 13)]) (rest := []) ⟨hx, hb, hml, hown, hts⟩ (cwV 2 hts gX7_takeClause_X7_fails rfl rfl rfl (by decide +kernel) ⟨Nat.le_of_ble_eq_true rfl, Nat.le_of_ble_eq_true rfl⟩) (c_X7_fails l D ci aM H.size zM_122 (1 : Int32) (zM_122.1 13) _ hc_130) hK hP hD hS hA 0 rfl rfl rfl rfl hl.1 (Nat.le_of_ble_eq_true rfl) dX7_takeClause_188 (Nat.zero_le _) (Nat.zero_le _) (fun H locs hP hD hS => ?_)
                  have hP : va_P D vwCl (wcM ci aM zM_129) H := hP
                  have hD : va_D A (wcM ci aM zM_129) := hD
                  obtain rfl := Option.some.inj hF
                  exact W.iret (v := r_128) hx hb hr (fun t ht hW => ⟨⟨_, (), rfl, rfl, by rw [ht]; exact hP, va_K.moved hW.alike hK, hD⟩, hS.F ht⟩) hS.2.2 dX7_takeClause_191
            · intro J_82
              clear hF
              have hF := hv_117
              refine lv_if_ne (tgt := 128) hx hb dX7_takeClause_118 (by decide) (fun c_83 => ?_) (fun c_83 => ?_)
              · replace hF := if_o c_83 hF
                refine lv_iload_n hx hb dX7_takeClause_128 rfl (lv_at hl 0 rfl) ?_
                refine lv_iconst (v := 1) hx hb dX7_takeClause_129 (by decide) ?_
                refine lv_icmp_ne (tgt := 140) hx hb dX7_takeClause_130 (by decide) (fun c_84 => ?_) (fun c_84 => ?_)
                · replace hF := if_o c_84 hF
                  refine lv_iload_n hx hb dX7_takeClause_140 rfl (lv_at hl 0 rfl) ?_
                  refine lv_iconst (v := 2) hx hb dX7_takeClause_141 (by decide) ?_
                  refine lv_icmp_ne (tgt := 152) hx hb dX7_takeClause_142 (by decide) (fun c_85 => ?_) (fun c_85 => ?_)
                  · replace hF := if_o c_85 hF
                    refine lv_iload_n hx hb dX7_takeClause_152 rfl (lv_at hl 0 rfl) ?_
                    refine lv_iconst (v := 3) hx hb dX7_takeClause_153 (by decide) ?_
                    refine lv_icmp_ne (tgt := 164) hx hb dX7_takeClause_154 (by decide) (fun c_86 => ?_) (fun c_86 => ?_)
                    · replace hF := if_o c_86 hF
                      refine lv_aload_n hx hb dX7_takeClause_164 rfl (lv_at hl 1 rfl) ?_
                      replace hF := bnd hF
                      obtain ⟨q_90, hc_89, hF⟩ := hF
                      obtain ⟨r_87, er_87⟩ : ∃ y : Int32, y = q_90.1 := ⟨_, rfl⟩
                      replace hF := nm_i hF er_87
                      obtain ⟨zM_88, ezM_88⟩ : ∃ y : MS, y = q_90.2 := ⟨_, rfl⟩
                      replace hF := nm_i hF ezM_88
                      obtain rfl : q_90 = (r_87, zM_88) := by rw [er_87, ezM_88]
                      clear er_87
                      clear ezM_88
                      refine cl_Vi0 (As := []) (rest := []) ⟨hx, hb, hml, hown, hts⟩ (cwV 0 hts gX7_takeClause_X7_takeHedge rfl rfl rfl (by decide +kernel) ⟨Nat.le_of_ble_eq_true rfl, Nat.le_of_ble_eq_true rfl⟩) (c_X7_takeHedge l D ci aM H.size zM_79 _ hc_89) hK hP hD hS hA 0 rfl rfl rfl rfl hl.1 (Nat.le_of_ble_eq_true rfl) dX7_takeClause_165 (Nat.zero_le _) (Nat.zero_le _) (fun H locs hP hD hS => ?_)
                      have hP : va_P D vwCl (wcM ci aM zM_88) H := hP
                      have hD : va_D A (wcM ci aM zM_88) := hD
                      obtain ⟨g_91, g_92⟩ : (r_87 : Int32) = t_80 ∧ (zM_88 : MS) = zM_81 := by have h9 := Option.some.inj hF; simpa only [Prod.mk.injEq] using h9
                      subst g_91
                      subst g_92
                      exact J_82 H locs ls ⟨hP, hD, hS, lv_sub hl [1, 2, 0] rfl⟩
                    · replace hF := if_i c_86 hF
                      refine lv_aload_n hx hb dX7_takeClause_157 rfl (lv_at hl 1 rfl) ?_
                      replace hF := bnd hF
                      obtain ⟨q_96, hc_95, hF⟩ := hF
                      obtain ⟨r_93, er_93⟩ : ∃ y : Int32, y = q_96.1 := ⟨_, rfl⟩
                      replace hF := nm_i hF er_93
                      obtain ⟨zM_94, ezM_94⟩ : ∃ y : MS, y = q_96.2 := ⟨_, rfl⟩
                      replace hF := nm_i hF ezM_94
                      obtain rfl : q_96 = (r_93, zM_94) := by rw [er_93, ezM_94]
                      clear er_93
                      clear ezM_94
                      refine cl_Vi0 (As := []) (rest := []) ⟨hx, hb, hml, hown, hts⟩ (cwV 0 hts gX7_takeClause_X7_takePath rfl rfl rfl (by decide +kernel) ⟨Nat.le_of_ble_eq_true rfl, Nat.le_of_ble_eq_true rfl⟩) (c_X7_takePath l D ci aM H.size zM_79 _ hc_95) hK hP hD hS hA 0 rfl rfl rfl rfl hl.1 (Nat.le_of_ble_eq_true rfl) dX7_takeClause_158 (Nat.zero_le _) (Nat.zero_le _) (fun H locs hP hD hS => ?_)
                      have hP : va_P D vwCl (wcM ci aM zM_94) H := hP
                      have hD : va_D A (wcM ci aM zM_94) := hD
                      refine lv_goto (tgt := 168) hx hb dX7_takeClause_161 (by decide) ?_
                      obtain ⟨g_97, g_98⟩ : (r_93 : Int32) = t_80 ∧ (zM_94 : MS) = zM_81 := by have h9 := Option.some.inj hF; simpa only [Prod.mk.injEq] using h9
                      subst g_97
                      subst g_98
                      exact J_82 H locs ls ⟨hP, hD, hS, lv_sub hl [1, 2, 0] rfl⟩
                  · replace hF := if_i c_85 hF
                    refine lv_aload_n hx hb dX7_takeClause_145 rfl (lv_at hl 1 rfl) ?_
                    replace hF := bnd hF
                    obtain ⟨q_102, hc_101, hF⟩ := hF
                    obtain ⟨r_99, er_99⟩ : ∃ y : Int32, y = q_102.1 := ⟨_, rfl⟩
                    replace hF := nm_i hF er_99
                    obtain ⟨zM_100, ezM_100⟩ : ∃ y : MS, y = q_102.2 := ⟨_, rfl⟩
                    replace hF := nm_i hF ezM_100
                    obtain rfl : q_102 = (r_99, zM_100) := by rw [er_99, ezM_100]
                    clear er_99
                    clear ezM_100
                    refine cl_Vi0 (As := []) (rest := []) ⟨hx, hb, hml, hown, hts⟩ (cwV 0 hts gX7_takeClause_X7_takeOwn rfl rfl rfl (by decide +kernel) ⟨Nat.le_of_ble_eq_true rfl, Nat.le_of_ble_eq_true rfl⟩) (c_X7_takeOwn l D ci aM H.size zM_79 _ hc_101) hK hP hD hS hA 0 rfl rfl rfl rfl hl.1 (Nat.le_of_ble_eq_true rfl) dX7_takeClause_146 (Nat.zero_le _) (Nat.zero_le _) (fun H locs hP hD hS => ?_)
                    have hP : va_P D vwCl (wcM ci aM zM_100) H := hP
                    have hD : va_D A (wcM ci aM zM_100) := hD
                    refine lv_goto (tgt := 168) hx hb dX7_takeClause_149 (by decide) ?_
                    obtain ⟨g_103, g_104⟩ : (r_99 : Int32) = t_80 ∧ (zM_100 : MS) = zM_81 := by have h9 := Option.some.inj hF; simpa only [Prod.mk.injEq] using h9
                    subst g_103
                    subst g_104
                    exact J_82 H locs ls ⟨hP, hD, hS, lv_sub hl [1, 2, 0] rfl⟩
                · replace hF := if_i c_84 hF
                  refine lv_aload_n hx hb dX7_takeClause_133 rfl (lv_at hl 1 rfl) ?_
                  replace hF := bnd hF
                  obtain ⟨q_108, hc_107, hF⟩ := hF
                  obtain ⟨r_105, er_105⟩ : ∃ y : Int32, y = q_108.1 := ⟨_, rfl⟩
                  replace hF := nm_i hF er_105
                  obtain ⟨zM_106, ezM_106⟩ : ∃ y : MS, y = q_108.2 := ⟨_, rfl⟩
                  replace hF := nm_i hF ezM_106
                  obtain rfl : q_108 = (r_105, zM_106) := by rw [er_105, ezM_106]
                  clear er_105
                  clear ezM_106
                  refine cl_Vi0 (As := []) (rest := []) ⟨hx, hb, hml, hown, hts⟩ (cwV 0 hts gX7_takeClause_X7_takeSoil rfl rfl rfl (by decide +kernel) ⟨Nat.le_of_ble_eq_true rfl, Nat.le_of_ble_eq_true rfl⟩) (c_X7_takeSoil l D ci aM H.size zM_79 _ hc_107) hK hP hD hS hA 0 rfl rfl rfl rfl hl.1 (Nat.le_of_ble_eq_true rfl) dX7_takeClause_134 (Nat.zero_le _) (Nat.zero_le _) (fun H locs hP hD hS => ?_)
                  have hP : va_P D vwCl (wcM ci aM zM_106) H := hP
                  have hD : va_D A (wcM ci aM zM_106) := hD
                  refine lv_goto (tgt := 168) hx hb dX7_takeClause_137 (by decide) ?_
                  obtain ⟨g_109, g_110⟩ : (r_105 : Int32) = t_80 ∧ (zM_106 : MS) = zM_81 := by have h9 := Option.some.inj hF; simpa only [Prod.mk.injEq] using h9
                  subst g_109
                  subst g_110
                  exact J_82 H locs ls ⟨hP, hD, hS, lv_sub hl [1, 2, 0] rfl⟩
              · replace hF := if_i c_83 hF
                refine lv_aload_n hx hb dX7_takeClause_121 rfl (lv_at hl 1 rfl) ?_
                replace hF := bnd hF
                obtain ⟨q_114, hc_113, hF⟩ := hF
                obtain ⟨r_111, er_111⟩ : ∃ y : Int32, y = q_114.1 := ⟨_, rfl⟩
                replace hF := nm_i hF er_111
                obtain ⟨zM_112, ezM_112⟩ : ∃ y : MS, y = q_114.2 := ⟨_, rfl⟩
                replace hF := nm_i hF ezM_112
                obtain rfl : q_114 = (r_111, zM_112) := by rw [er_111, ezM_112]
                clear er_111
                clear ezM_112
                refine cl_Vi0 (As := []) (rest := []) ⟨hx, hb, hml, hown, hts⟩ (cwV 0 hts gX7_takeClause_X7_takeGround rfl rfl rfl (by decide +kernel) ⟨Nat.le_of_ble_eq_true rfl, Nat.le_of_ble_eq_true rfl⟩) (c_X7_takeGround l D ci aM H.size zM_79 _ hc_113) hK hP hD hS hA 0 rfl rfl rfl rfl hl.1 (Nat.le_of_ble_eq_true rfl) dX7_takeClause_122 (Nat.zero_le _) (Nat.zero_le _) (fun H locs hP hD hS => ?_)
                have hP : va_P D vwCl (wcM ci aM zM_112) H := hP
                have hD : va_D A (wcM ci aM zM_112) := hD
                refine lv_goto (tgt := 168) hx hb dX7_takeClause_125 (by decide) ?_
                obtain ⟨g_115, g_116⟩ : (r_111 : Int32) = t_80 ∧ (zM_112 : MS) = zM_81 := by have h9 := Option.some.inj hF; simpa only [Prod.mk.injEq] using h9
                subst g_115
                subst g_116
                exact J_82 H locs ls ⟨hP, hD, hS, lv_sub hl [1, 2, 0] rfl⟩
          · replace hF := if_o c_77 hF
            refine lv_aload_n hx hb dX7_takeClause_97 rfl (lv_at hl 1 rfl) ?_
            refine lv_iconst (v := 3) hx hb dX7_takeClause_98 (by decide) ?_
            refine lv_aload_n hx hb dX7_takeClause_99 rfl (lv_at hl 1 rfl) ?_
            refine va_get (D := D) (ci := 7) (v := .int (zM_2.1 13)) (C := RX7) (T := TX7) (N := 38) hx hb hts hin_RX7 hown hK hP 0 rfl rfl 13 (by decide) hk_0 (fun _ h9 => h9) rfl dX7_takeClause_100 ?_
            replace hF := bnd hF
            obtain ⟨q_136, hc_135, hF⟩ := hF
            obtain ⟨r_133, er_133⟩ : ∃ y : Int32, y = q_136.1 := ⟨_, rfl⟩
            replace hF := nm_i hF er_133
            obtain ⟨zM_134, ezM_134⟩ : ∃ y : MS, y = q_136.2 := ⟨_, rfl⟩
            replace hF := nm_i hF ezM_134
            obtain rfl : q_136 = (r_133, zM_134) := by rw [er_133, ezM_134]
            clear er_133
            clear ezM_134
            refine cl_Vi0 (As := [.int 3, .int (zM_2.1 13)]) (rest := []) ⟨hx, hb, hml, hown, hts⟩ (cwV 2 hts gX7_takeClause_X7_fails rfl rfl rfl (by decide +kernel) ⟨Nat.le_of_ble_eq_true rfl, Nat.le_of_ble_eq_true rfl⟩) (c_X7_fails l D ci aM H.size zM_2 (3 : Int32) (zM_2.1 13) _ hc_135) hK hP hD hS hA 0 rfl rfl rfl rfl hl.1 (Nat.le_of_ble_eq_true rfl) dX7_takeClause_103 (Nat.zero_le _) (Nat.zero_le _) (fun H locs hP hD hS => ?_)
            have hP : va_P D vwCl (wcM ci aM zM_134) H := hP
            have hD : va_D A (wcM ci aM zM_134) := hD
            obtain rfl := Option.some.inj hF
            exact W.iret (v := r_133) hx hb hr (fun t ht hW => ⟨⟨_, (), rfl, rfl, by rw [ht]; exact hP, va_K.moved hW.alike hK, hD⟩, hS.F ht⟩) hS.2.2 dX7_takeClause_106
      · replace hF := if_o c_18 hF
        refine lv_aload_n hx hb dX7_takeClause_65 rfl (lv_at hl 1 rfl) ?_
        refine va_get (D := D) (ci := 7) (v := .ref (aM 16)) (C := RX7) (T := TX7) (N := 38) hx hb hts hin_RX7 hown hK hP 0 rfl rfl 16 (by decide) hk_2 (fun _ h9 => h9) rfl dX7_takeClause_66 ?_
        refine lv_iconst (v := 0) hx hb dX7_takeClause_69 (by decide) ?_
        replace hF := ald_i hF
        obtain ⟨hin_137, hF⟩ := hF
        refine va_iald hx hb hK hP 7 0 rfl rfl hin_137 dX7_takeClause_70 ?_
        refine lv_topi (fun x_138 ex_138 => ?_)
        replace hF := nm_i hF ex_138
        refine lv_if_ne (tgt := 84) hx hb dX7_takeClause_71 (by decide) (fun c_139 => ?_) (fun c_139 => ?_)
        · replace hF := if_o c_139 hF
          refine lv_iload_n hx hb dX7_takeClause_84 rfl (lv_at hl 0 rfl) ?_
          refine lv_if_ne (tgt := 107) hx hb dX7_takeClause_85 (by decide) (fun c_140 => ?_) (fun c_140 => ?_)
          · replace hF := if_o c_140 hF
            refine lv_aload_n hx hb dX7_takeClause_107 rfl (lv_at hl 1 rfl) ?_
            refine lv_dup hx hb dX7_takeClause_108 rfl ?_
            refine va_get (D := D) (ci := 7) (v := .int (zM_2.1 13)) (C := RX7) (T := TX7) (N := 38) hx hb hts hin_RX7 hown hK hP 0 rfl rfl 13 (by decide) hk_0 (fun _ h9 => h9) rfl dX7_takeClause_109 ?_
            refine lv_iconst (v := 1) hx hb dX7_takeClause_112 (by decide) ?_
            refine lv_iadd hx hb dX7_takeClause_113 ?_
            refine lv_topi (fun f13_141 ef13_141 => ?_)
            replace hF := nm_i hF ef13_141
            refine va_put (D := D) (ci := 7) (v := .int f13_141) (ty := .int) (C := RX7) (T := TX7) (N := 38) hx hb hts hin_RX7 tyX7 tyX7_ok nmX7 hown hK hP hD hS 0 rfl rfl 13 (by decide) hk_0 (fun _ h9 => h9) rfl (by decide +kernel) rfl rfl (Nat.le_of_ble_eq_true rfl) dX7_takeClause_114 (fun H locs hP hD hS => ?_)
            obtain ⟨zM_142, ezM_142⟩ : ∃ y : MS, y = (upd zM_2.1 13 f13_141, zM_2.2) := ⟨_, rfl⟩
            replace hF := nm_i hF ezM_142
            have hP : va_P D vwCl (wcM ci aM zM_142) H := by rw [ezM_142]; exact hP
            have hD : va_D A (wcM ci aM zM_142) := by rw [ezM_142]; exact hD
            refine lv_iload_n hx hb dX7_takeClause_117 rfl (lv_at hl 0 rfl) ?_
            replace hF := bnd hF
            obtain ⟨q_195, hv_180, hF⟩ := hF
            obtain ⟨t_143, et_143⟩ : ∃ y : Int32, y = q_195.1 := ⟨_, rfl⟩
            replace hF := nm_i hF et_143
            obtain ⟨zM_144, ezM_144⟩ : ∃ y : MS, y = q_195.2 := ⟨_, rfl⟩
            replace hF := nm_i hF ezM_144
            obtain rfl : q_195 = (t_143, zM_144) := by rw [et_143, ezM_144]
            clear et_143
            clear ezM_144
            refine jn (P := fun H locs ls => va_P D vwCl (wcM ci aM zM_144) H ∧ va_D A (wcM ci aM zM_144) ∧ va_S A s.heap H locs ∧ lv_has ls 4 [(0, .ref (aM 0)), (1, .int r_1), (2, .int t_5)]) (pcJ := 168) (st := [.int t_143]) ?_ ?_
            · intro H locs ls hJ
              obtain ⟨hP, hD, hS, hl⟩ := hJ
              refine lv_istore_n (lv' := [(3, .int t_143), (0, .ref (aM 0)), (1, .int r_1), (2, .int t_5)]) hx hb dX7_takeClause_168 rfl hl (by decide) rfl (fun ls hl => ?_)
              refine lv_iload_n hx hb dX7_takeClause_169 rfl (lv_at hl 0 rfl) ?_
              refine lv_if_ne (tgt := 192) hx hb dX7_takeClause_170 (by decide) (fun c_181 => ?_) (fun c_181 => ?_)
              · replace hF := if_o c_181 hF
                refine lv_aload_n hx hb dX7_takeClause_192 rfl (lv_at hl 1 rfl) ?_
                refine lv_dup hx hb dX7_takeClause_193 rfl ?_
                refine va_get (D := D) (ci := 7) (v := .int (zM_144.1 13)) (C := RX7) (T := TX7) (N := 38) hx hb hts hin_RX7 hown hK hP 0 rfl rfl 13 (by decide) hk_0 (fun _ h9 => h9) rfl dX7_takeClause_194 ?_
                refine lv_iconst (v := 1) hx hb dX7_takeClause_197 (by decide) ?_
                refine lv_iadd hx hb dX7_takeClause_198 ?_
                refine lv_topi (fun f13_182 ef13_182 => ?_)
                replace hF := nm_i hF ef13_182
                refine va_put (D := D) (ci := 7) (v := .int f13_182) (ty := .int) (C := RX7) (T := TX7) (N := 38) hx hb hts hin_RX7 tyX7 tyX7_ok nmX7 hown hK hP hD hS 0 rfl rfl 13 (by decide) hk_0 (fun _ h9 => h9) rfl (by decide +kernel) rfl rfl (Nat.le_of_ble_eq_true rfl) dX7_takeClause_199 (fun H locs hP hD hS => ?_)
                obtain ⟨zM_183, ezM_183⟩ : ∃ y : MS, y = (upd zM_144.1 13 f13_182, zM_144.2) := ⟨_, rfl⟩
                replace hF := nm_i hF ezM_183
                have hP : va_P D vwCl (wcM ci aM zM_183) H := by rw [ezM_183]; exact hP
                have hD : va_D A (wcM ci aM zM_183) := by rw [ezM_183]; exact hD
                refine lv_iload_n hx hb dX7_takeClause_202 rfl (lv_at hl 0 rfl) ?_
                obtain rfl := Option.some.inj hF
                exact W.iret (v := t_143) hx hb hr (fun t ht hW => ⟨⟨_, (), rfl, rfl, by rw [ht]; exact hP, va_K.moved hW.alike hK, hD⟩, hS.F ht⟩) hS.2.2 dX7_takeClause_203
              · replace hF := if_i c_181 hF
                refine lv_aload_n hx hb dX7_takeClause_173 rfl (lv_at hl 1 rfl) ?_
                replace hF := bnd hF
                obtain ⟨q_187, hc_186, hF⟩ := hF
                obtain ⟨r_184, er_184⟩ : ∃ y : Int32, y = q_187.1 := ⟨_, rfl⟩
                replace hF := nm_i hF er_184
                obtain ⟨zM_185, ezM_185⟩ : ∃ y : MS, y = q_187.2 := ⟨_, rfl⟩
                replace hF := nm_i hF ezM_185
                obtain rfl : q_187 = (r_184, zM_185) := by rw [er_184, ezM_185]
                clear er_184
                clear ezM_185
                refine cl_Vi0 (As := []) (rest := []) ⟨hx, hb, hml, hown, hts⟩ (cwV 0 hts gX7_takeClause_X7_here rfl rfl rfl (by decide +kernel) ⟨Nat.le_of_ble_eq_true rfl, Nat.le_of_ble_eq_true rfl⟩) (c_X7_here l D ci aM H.size zM_144 _ hc_186) hK hP hD hS hA 0 rfl rfl rfl rfl hl.1 (Nat.le_of_ble_eq_true rfl) dX7_takeClause_174 (Nat.zero_le _) (Nat.zero_le _) (fun H locs hP hD hS => ?_)
                have hP : va_P D vwCl (wcM ci aM zM_185) H := hP
                have hD : va_D A (wcM ci aM zM_185) := hD
                refine lv_bipush (v := 59) hx hb dX7_takeClause_177 (by decide) ?_
                refine lv_icmp_eq (tgt := 192) hx hb dX7_takeClause_179 (by decide) (fun c_188 => ?_) (fun c_188 => ?_)
                · replace hF := if_i c_188 hF
                  refine lv_aload_n hx hb dX7_takeClause_192 rfl (lv_at hl 1 rfl) ?_
                  refine lv_dup hx hb dX7_takeClause_193 rfl ?_
                  refine va_get (D := D) (ci := 7) (v := .int (zM_185.1 13)) (C := RX7) (T := TX7) (N := 38) hx hb hts hin_RX7 hown hK hP 0 rfl rfl 13 (by decide) hk_0 (fun _ h9 => h9) rfl dX7_takeClause_194 ?_
                  refine lv_iconst (v := 1) hx hb dX7_takeClause_197 (by decide) ?_
                  refine lv_iadd hx hb dX7_takeClause_198 ?_
                  refine lv_topi (fun f13_189 ef13_189 => ?_)
                  replace hF := nm_i hF ef13_189
                  refine va_put (D := D) (ci := 7) (v := .int f13_189) (ty := .int) (C := RX7) (T := TX7) (N := 38) hx hb hts hin_RX7 tyX7 tyX7_ok nmX7 hown hK hP hD hS 0 rfl rfl 13 (by decide) hk_0 (fun _ h9 => h9) rfl (by decide +kernel) rfl rfl (Nat.le_of_ble_eq_true rfl) dX7_takeClause_199 (fun H locs hP hD hS => ?_)
                  obtain ⟨zM_190, ezM_190⟩ : ∃ y : MS, y = (upd zM_185.1 13 f13_189, zM_185.2) := ⟨_, rfl⟩
                  replace hF := nm_i hF ezM_190
                  have hP : va_P D vwCl (wcM ci aM zM_190) H := by rw [ezM_190]; exact hP
                  have hD : va_D A (wcM ci aM zM_190) := by rw [ezM_190]; exact hD
                  refine lv_iload_n hx hb dX7_takeClause_202 rfl (lv_at hl 0 rfl) ?_
                  obtain rfl := Option.some.inj hF
                  exact W.iret (v := t_143) hx hb hr (fun t ht hW => ⟨⟨_, (), rfl, rfl, by rw [ht]; exact hP, va_K.moved hW.alike hK, hD⟩, hS.F ht⟩) hS.2.2 dX7_takeClause_203
                · replace hF := if_o c_188 hF
                  refine lv_aload_n hx hb dX7_takeClause_182 rfl (lv_at hl 1 rfl) ?_
                  refine lv_iconst (v := 1) hx hb dX7_takeClause_183 (by decide) ?_
                  refine lv_aload_n hx hb dX7_takeClause_184 rfl (lv_at hl 1 rfl) ?_
                  refine va_get (D := D) (ci := 7) (v := .int (zM_185.1 13)) (C := RX7) (T := TX7) (N := 38) hx hb hts hin_RX7 hown hK hP 0 rfl rfl 13 (by decide) hk_0 (fun _ h9 => h9) rfl dX7_takeClause_185 ?_
                  replace hF := bnd hF
                  obtain ⟨q_194, hc_193, hF⟩ := hF
                  obtain ⟨r_191, er_191⟩ : ∃ y : Int32, y = q_194.1 := ⟨_, rfl⟩
                  replace hF := nm_i hF er_191
                  obtain ⟨zM_192, ezM_192⟩ : ∃ y : MS, y = q_194.2 := ⟨_, rfl⟩
                  replace hF := nm_i hF ezM_192
                  obtain rfl : q_194 = (r_191, zM_192) := by rw [er_191, ezM_192]
                  clear er_191
                  clear ezM_192
                  refine cl_Vi0 (As := [.int 1, .int (zM_185.1 13)]) (rest := []) ⟨hx, hb, hml, hown, hts⟩ (cwV 2 hts gX7_takeClause_X7_fails rfl rfl rfl (by decide +kernel) ⟨Nat.le_of_ble_eq_true rfl, Nat.le_of_ble_eq_true rfl⟩) (c_X7_fails l D ci aM H.size zM_185 (1 : Int32) (zM_185.1 13) _ hc_193) hK hP hD hS hA 0 rfl rfl rfl rfl hl.1 (Nat.le_of_ble_eq_true rfl) dX7_takeClause_188 (Nat.zero_le _) (Nat.zero_le _) (fun H locs hP hD hS => ?_)
                  have hP : va_P D vwCl (wcM ci aM zM_192) H := hP
                  have hD : va_D A (wcM ci aM zM_192) := hD
                  obtain rfl := Option.some.inj hF
                  exact W.iret (v := r_191) hx hb hr (fun t ht hW => ⟨⟨_, (), rfl, rfl, by rw [ht]; exact hP, va_K.moved hW.alike hK, hD⟩, hS.F ht⟩) hS.2.2 dX7_takeClause_191
            · intro J_145
              clear hF
              have hF := hv_180
              refine lv_if_ne (tgt := 128) hx hb dX7_takeClause_118 (by decide) (fun c_146 => ?_) (fun c_146 => ?_)
              · replace hF := if_o c_146 hF
                refine lv_iload_n hx hb dX7_takeClause_128 rfl (lv_at hl 0 rfl) ?_
                refine lv_iconst (v := 1) hx hb dX7_takeClause_129 (by decide) ?_
                refine lv_icmp_ne (tgt := 140) hx hb dX7_takeClause_130 (by decide) (fun c_147 => ?_) (fun c_147 => ?_)
                · replace hF := if_o c_147 hF
                  refine lv_iload_n hx hb dX7_takeClause_140 rfl (lv_at hl 0 rfl) ?_
                  refine lv_iconst (v := 2) hx hb dX7_takeClause_141 (by decide) ?_
                  refine lv_icmp_ne (tgt := 152) hx hb dX7_takeClause_142 (by decide) (fun c_148 => ?_) (fun c_148 => ?_)
                  · replace hF := if_o c_148 hF
                    refine lv_iload_n hx hb dX7_takeClause_152 rfl (lv_at hl 0 rfl) ?_
                    refine lv_iconst (v := 3) hx hb dX7_takeClause_153 (by decide) ?_
                    refine lv_icmp_ne (tgt := 164) hx hb dX7_takeClause_154 (by decide) (fun c_149 => ?_) (fun c_149 => ?_)
                    · replace hF := if_o c_149 hF
                      refine lv_aload_n hx hb dX7_takeClause_164 rfl (lv_at hl 1 rfl) ?_
                      replace hF := bnd hF
                      obtain ⟨q_153, hc_152, hF⟩ := hF
                      obtain ⟨r_150, er_150⟩ : ∃ y : Int32, y = q_153.1 := ⟨_, rfl⟩
                      replace hF := nm_i hF er_150
                      obtain ⟨zM_151, ezM_151⟩ : ∃ y : MS, y = q_153.2 := ⟨_, rfl⟩
                      replace hF := nm_i hF ezM_151
                      obtain rfl : q_153 = (r_150, zM_151) := by rw [er_150, ezM_151]
                      clear er_150
                      clear ezM_151
                      refine cl_Vi0 (As := []) (rest := []) ⟨hx, hb, hml, hown, hts⟩ (cwV 0 hts gX7_takeClause_X7_takeHedge rfl rfl rfl (by decide +kernel) ⟨Nat.le_of_ble_eq_true rfl, Nat.le_of_ble_eq_true rfl⟩) (c_X7_takeHedge l D ci aM H.size zM_142 _ hc_152) hK hP hD hS hA 0 rfl rfl rfl rfl hl.1 (Nat.le_of_ble_eq_true rfl) dX7_takeClause_165 (Nat.zero_le _) (Nat.zero_le _) (fun H locs hP hD hS => ?_)
                      have hP : va_P D vwCl (wcM ci aM zM_151) H := hP
                      have hD : va_D A (wcM ci aM zM_151) := hD
                      obtain ⟨g_154, g_155⟩ : (r_150 : Int32) = t_143 ∧ (zM_151 : MS) = zM_144 := by have h9 := Option.some.inj hF; simpa only [Prod.mk.injEq] using h9
                      subst g_154
                      subst g_155
                      exact J_145 H locs ls ⟨hP, hD, hS, lv_sub hl [1, 2, 0] rfl⟩
                    · replace hF := if_i c_149 hF
                      refine lv_aload_n hx hb dX7_takeClause_157 rfl (lv_at hl 1 rfl) ?_
                      replace hF := bnd hF
                      obtain ⟨q_159, hc_158, hF⟩ := hF
                      obtain ⟨r_156, er_156⟩ : ∃ y : Int32, y = q_159.1 := ⟨_, rfl⟩
                      replace hF := nm_i hF er_156
                      obtain ⟨zM_157, ezM_157⟩ : ∃ y : MS, y = q_159.2 := ⟨_, rfl⟩
                      replace hF := nm_i hF ezM_157
                      obtain rfl : q_159 = (r_156, zM_157) := by rw [er_156, ezM_157]
                      clear er_156
                      clear ezM_157
                      refine cl_Vi0 (As := []) (rest := []) ⟨hx, hb, hml, hown, hts⟩ (cwV 0 hts gX7_takeClause_X7_takePath rfl rfl rfl (by decide +kernel) ⟨Nat.le_of_ble_eq_true rfl, Nat.le_of_ble_eq_true rfl⟩) (c_X7_takePath l D ci aM H.size zM_142 _ hc_158) hK hP hD hS hA 0 rfl rfl rfl rfl hl.1 (Nat.le_of_ble_eq_true rfl) dX7_takeClause_158 (Nat.zero_le _) (Nat.zero_le _) (fun H locs hP hD hS => ?_)
                      have hP : va_P D vwCl (wcM ci aM zM_157) H := hP
                      have hD : va_D A (wcM ci aM zM_157) := hD
                      refine lv_goto (tgt := 168) hx hb dX7_takeClause_161 (by decide) ?_
                      obtain ⟨g_160, g_161⟩ : (r_156 : Int32) = t_143 ∧ (zM_157 : MS) = zM_144 := by have h9 := Option.some.inj hF; simpa only [Prod.mk.injEq] using h9
                      subst g_160
                      subst g_161
                      exact J_145 H locs ls ⟨hP, hD, hS, lv_sub hl [1, 2, 0] rfl⟩
                  · replace hF := if_i c_148 hF
                    refine lv_aload_n hx hb dX7_takeClause_145 rfl (lv_at hl 1 rfl) ?_
                    replace hF := bnd hF
                    obtain ⟨q_165, hc_164, hF⟩ := hF
                    obtain ⟨r_162, er_162⟩ : ∃ y : Int32, y = q_165.1 := ⟨_, rfl⟩
                    replace hF := nm_i hF er_162
                    obtain ⟨zM_163, ezM_163⟩ : ∃ y : MS, y = q_165.2 := ⟨_, rfl⟩
                    replace hF := nm_i hF ezM_163
                    obtain rfl : q_165 = (r_162, zM_163) := by rw [er_162, ezM_163]
                    clear er_162
                    clear ezM_163
                    refine cl_Vi0 (As := []) (rest := []) ⟨hx, hb, hml, hown, hts⟩ (cwV 0 hts gX7_takeClause_X7_takeOwn rfl rfl rfl (by decide +kernel) ⟨Nat.le_of_ble_eq_true rfl, Nat.le_of_ble_eq_true rfl⟩) (c_X7_takeOwn l D ci aM H.size zM_142 _ hc_164) hK hP hD hS hA 0 rfl rfl rfl rfl hl.1 (Nat.le_of_ble_eq_true rfl) dX7_takeClause_146 (Nat.zero_le _) (Nat.zero_le _) (fun H locs hP hD hS => ?_)
                    have hP : va_P D vwCl (wcM ci aM zM_163) H := hP
                    have hD : va_D A (wcM ci aM zM_163) := hD
                    refine lv_goto (tgt := 168) hx hb dX7_takeClause_149 (by decide) ?_
                    obtain ⟨g_166, g_167⟩ : (r_162 : Int32) = t_143 ∧ (zM_163 : MS) = zM_144 := by have h9 := Option.some.inj hF; simpa only [Prod.mk.injEq] using h9
                    subst g_166
                    subst g_167
                    exact J_145 H locs ls ⟨hP, hD, hS, lv_sub hl [1, 2, 0] rfl⟩
                · replace hF := if_i c_147 hF
                  refine lv_aload_n hx hb dX7_takeClause_133 rfl (lv_at hl 1 rfl) ?_
                  replace hF := bnd hF
                  obtain ⟨q_171, hc_170, hF⟩ := hF
                  obtain ⟨r_168, er_168⟩ : ∃ y : Int32, y = q_171.1 := ⟨_, rfl⟩
                  replace hF := nm_i hF er_168
                  obtain ⟨zM_169, ezM_169⟩ : ∃ y : MS, y = q_171.2 := ⟨_, rfl⟩
                  replace hF := nm_i hF ezM_169
                  obtain rfl : q_171 = (r_168, zM_169) := by rw [er_168, ezM_169]
                  clear er_168
                  clear ezM_169
                  refine cl_Vi0 (As := []) (rest := []) ⟨hx, hb, hml, hown, hts⟩ (cwV 0 hts gX7_takeClause_X7_takeSoil rfl rfl rfl (by decide +kernel) ⟨Nat.le_of_ble_eq_true rfl, Nat.le_of_ble_eq_true rfl⟩) (c_X7_takeSoil l D ci aM H.size zM_142 _ hc_170) hK hP hD hS hA 0 rfl rfl rfl rfl hl.1 (Nat.le_of_ble_eq_true rfl) dX7_takeClause_134 (Nat.zero_le _) (Nat.zero_le _) (fun H locs hP hD hS => ?_)
                  have hP : va_P D vwCl (wcM ci aM zM_169) H := hP
                  have hD : va_D A (wcM ci aM zM_169) := hD
                  refine lv_goto (tgt := 168) hx hb dX7_takeClause_137 (by decide) ?_
                  obtain ⟨g_172, g_173⟩ : (r_168 : Int32) = t_143 ∧ (zM_169 : MS) = zM_144 := by have h9 := Option.some.inj hF; simpa only [Prod.mk.injEq] using h9
                  subst g_172
                  subst g_173
                  exact J_145 H locs ls ⟨hP, hD, hS, lv_sub hl [1, 2, 0] rfl⟩
              · replace hF := if_i c_146 hF
                refine lv_aload_n hx hb dX7_takeClause_121 rfl (lv_at hl 1 rfl) ?_
                replace hF := bnd hF
                obtain ⟨q_177, hc_176, hF⟩ := hF
                obtain ⟨r_174, er_174⟩ : ∃ y : Int32, y = q_177.1 := ⟨_, rfl⟩
                replace hF := nm_i hF er_174
                obtain ⟨zM_175, ezM_175⟩ : ∃ y : MS, y = q_177.2 := ⟨_, rfl⟩
                replace hF := nm_i hF ezM_175
                obtain rfl : q_177 = (r_174, zM_175) := by rw [er_174, ezM_175]
                clear er_174
                clear ezM_175
                refine cl_Vi0 (As := []) (rest := []) ⟨hx, hb, hml, hown, hts⟩ (cwV 0 hts gX7_takeClause_X7_takeGround rfl rfl rfl (by decide +kernel) ⟨Nat.le_of_ble_eq_true rfl, Nat.le_of_ble_eq_true rfl⟩) (c_X7_takeGround l D ci aM H.size zM_142 _ hc_176) hK hP hD hS hA 0 rfl rfl rfl rfl hl.1 (Nat.le_of_ble_eq_true rfl) dX7_takeClause_122 (Nat.zero_le _) (Nat.zero_le _) (fun H locs hP hD hS => ?_)
                have hP : va_P D vwCl (wcM ci aM zM_175) H := hP
                have hD : va_D A (wcM ci aM zM_175) := hD
                refine lv_goto (tgt := 168) hx hb dX7_takeClause_125 (by decide) ?_
                obtain ⟨g_178, g_179⟩ : (r_174 : Int32) = t_143 ∧ (zM_175 : MS) = zM_144 := by have h9 := Option.some.inj hF; simpa only [Prod.mk.injEq] using h9
                subst g_178
                subst g_179
                exact J_145 H locs ls ⟨hP, hD, hS, lv_sub hl [1, 2, 0] rfl⟩
          · replace hF := if_i c_140 hF
            refine lv_aload_n hx hb dX7_takeClause_88 rfl (lv_at hl 1 rfl) ?_
            refine va_get (D := D) (ci := 7) (v := .ref (aM 16)) (C := RX7) (T := TX7) (N := 38) hx hb hts hin_RX7 hown hK hP 0 rfl rfl 16 (by decide) hk_2 (fun _ h9 => h9) rfl dX7_takeClause_89 ?_
            refine lv_iconst (v := 0) hx hb dX7_takeClause_92 (by decide) ?_
            replace hF := ald_i hF
            obtain ⟨hin_196, hF⟩ := hF
            refine va_iald hx hb hK hP 7 0 rfl rfl hin_196 dX7_takeClause_93 ?_
            refine lv_topi (fun x_197 ex_197 => ?_)
            replace hF := nm_i hF ex_197
            refine lv_if_le (tgt := 107) hx hb dX7_takeClause_94 (by decide) (fun c_198 => ?_) (fun c_198 => ?_)
            · replace hF := if_i c_198 hF
              refine lv_aload_n hx hb dX7_takeClause_107 rfl (lv_at hl 1 rfl) ?_
              refine lv_dup hx hb dX7_takeClause_108 rfl ?_
              refine va_get (D := D) (ci := 7) (v := .int (zM_2.1 13)) (C := RX7) (T := TX7) (N := 38) hx hb hts hin_RX7 hown hK hP 0 rfl rfl 13 (by decide) hk_0 (fun _ h9 => h9) rfl dX7_takeClause_109 ?_
              refine lv_iconst (v := 1) hx hb dX7_takeClause_112 (by decide) ?_
              refine lv_iadd hx hb dX7_takeClause_113 ?_
              refine lv_topi (fun f13_199 ef13_199 => ?_)
              replace hF := nm_i hF ef13_199
              refine va_put (D := D) (ci := 7) (v := .int f13_199) (ty := .int) (C := RX7) (T := TX7) (N := 38) hx hb hts hin_RX7 tyX7 tyX7_ok nmX7 hown hK hP hD hS 0 rfl rfl 13 (by decide) hk_0 (fun _ h9 => h9) rfl (by decide +kernel) rfl rfl (Nat.le_of_ble_eq_true rfl) dX7_takeClause_114 (fun H locs hP hD hS => ?_)
              obtain ⟨zM_200, ezM_200⟩ : ∃ y : MS, y = (upd zM_2.1 13 f13_199, zM_2.2) := ⟨_, rfl⟩
              replace hF := nm_i hF ezM_200
              have hP : va_P D vwCl (wcM ci aM zM_200) H := by rw [ezM_200]; exact hP
              have hD : va_D A (wcM ci aM zM_200) := by rw [ezM_200]; exact hD
              refine lv_iload_n hx hb dX7_takeClause_117 rfl (lv_at hl 0 rfl) ?_
              replace hF := bnd hF
              obtain ⟨q_253, hv_238, hF⟩ := hF
              obtain ⟨t_201, et_201⟩ : ∃ y : Int32, y = q_253.1 := ⟨_, rfl⟩
              replace hF := nm_i hF et_201
              obtain ⟨zM_202, ezM_202⟩ : ∃ y : MS, y = q_253.2 := ⟨_, rfl⟩
              replace hF := nm_i hF ezM_202
              obtain rfl : q_253 = (t_201, zM_202) := by rw [et_201, ezM_202]
              clear et_201
              clear ezM_202
              refine jn (P := fun H locs ls => va_P D vwCl (wcM ci aM zM_202) H ∧ va_D A (wcM ci aM zM_202) ∧ va_S A s.heap H locs ∧ lv_has ls 4 [(0, .ref (aM 0)), (1, .int r_1), (2, .int t_5)]) (pcJ := 168) (st := [.int t_201]) ?_ ?_
              · intro H locs ls hJ
                obtain ⟨hP, hD, hS, hl⟩ := hJ
                refine lv_istore_n (lv' := [(3, .int t_201), (0, .ref (aM 0)), (1, .int r_1), (2, .int t_5)]) hx hb dX7_takeClause_168 rfl hl (by decide) rfl (fun ls hl => ?_)
                refine lv_iload_n hx hb dX7_takeClause_169 rfl (lv_at hl 0 rfl) ?_
                refine lv_if_ne (tgt := 192) hx hb dX7_takeClause_170 (by decide) (fun c_239 => ?_) (fun c_239 => ?_)
                · replace hF := if_o c_239 hF
                  refine lv_aload_n hx hb dX7_takeClause_192 rfl (lv_at hl 1 rfl) ?_
                  refine lv_dup hx hb dX7_takeClause_193 rfl ?_
                  refine va_get (D := D) (ci := 7) (v := .int (zM_202.1 13)) (C := RX7) (T := TX7) (N := 38) hx hb hts hin_RX7 hown hK hP 0 rfl rfl 13 (by decide) hk_0 (fun _ h9 => h9) rfl dX7_takeClause_194 ?_
                  refine lv_iconst (v := 1) hx hb dX7_takeClause_197 (by decide) ?_
                  refine lv_iadd hx hb dX7_takeClause_198 ?_
                  refine lv_topi (fun f13_240 ef13_240 => ?_)
                  replace hF := nm_i hF ef13_240
                  refine va_put (D := D) (ci := 7) (v := .int f13_240) (ty := .int) (C := RX7) (T := TX7) (N := 38) hx hb hts hin_RX7 tyX7 tyX7_ok nmX7 hown hK hP hD hS 0 rfl rfl 13 (by decide) hk_0 (fun _ h9 => h9) rfl (by decide +kernel) rfl rfl (Nat.le_of_ble_eq_true rfl) dX7_takeClause_199 (fun H locs hP hD hS => ?_)
                  obtain ⟨zM_241, ezM_241⟩ : ∃ y : MS, y = (upd zM_202.1 13 f13_240, zM_202.2) := ⟨_, rfl⟩
                  replace hF := nm_i hF ezM_241
                  have hP : va_P D vwCl (wcM ci aM zM_241) H := by rw [ezM_241]; exact hP
                  have hD : va_D A (wcM ci aM zM_241) := by rw [ezM_241]; exact hD
                  refine lv_iload_n hx hb dX7_takeClause_202 rfl (lv_at hl 0 rfl) ?_
                  obtain rfl := Option.some.inj hF
                  exact W.iret (v := t_201) hx hb hr (fun t ht hW => ⟨⟨_, (), rfl, rfl, by rw [ht]; exact hP, va_K.moved hW.alike hK, hD⟩, hS.F ht⟩) hS.2.2 dX7_takeClause_203
                · replace hF := if_i c_239 hF
                  refine lv_aload_n hx hb dX7_takeClause_173 rfl (lv_at hl 1 rfl) ?_
                  replace hF := bnd hF
                  obtain ⟨q_245, hc_244, hF⟩ := hF
                  obtain ⟨r_242, er_242⟩ : ∃ y : Int32, y = q_245.1 := ⟨_, rfl⟩
                  replace hF := nm_i hF er_242
                  obtain ⟨zM_243, ezM_243⟩ : ∃ y : MS, y = q_245.2 := ⟨_, rfl⟩
                  replace hF := nm_i hF ezM_243
                  obtain rfl : q_245 = (r_242, zM_243) := by rw [er_242, ezM_243]
                  clear er_242
                  clear ezM_243
                  refine cl_Vi0 (As := []) (rest := []) ⟨hx, hb, hml, hown, hts⟩ (cwV 0 hts gX7_takeClause_X7_here rfl rfl rfl (by decide +kernel) ⟨Nat.le_of_ble_eq_true rfl, Nat.le_of_ble_eq_true rfl⟩) (c_X7_here l D ci aM H.size zM_202 _ hc_244) hK hP hD hS hA 0 rfl rfl rfl rfl hl.1 (Nat.le_of_ble_eq_true rfl) dX7_takeClause_174 (Nat.zero_le _) (Nat.zero_le _) (fun H locs hP hD hS => ?_)
                  have hP : va_P D vwCl (wcM ci aM zM_243) H := hP
                  have hD : va_D A (wcM ci aM zM_243) := hD
                  refine lv_bipush (v := 59) hx hb dX7_takeClause_177 (by decide) ?_
                  refine lv_icmp_eq (tgt := 192) hx hb dX7_takeClause_179 (by decide) (fun c_246 => ?_) (fun c_246 => ?_)
                  · replace hF := if_i c_246 hF
                    refine lv_aload_n hx hb dX7_takeClause_192 rfl (lv_at hl 1 rfl) ?_
                    refine lv_dup hx hb dX7_takeClause_193 rfl ?_
                    refine va_get (D := D) (ci := 7) (v := .int (zM_243.1 13)) (C := RX7) (T := TX7) (N := 38) hx hb hts hin_RX7 hown hK hP 0 rfl rfl 13 (by decide) hk_0 (fun _ h9 => h9) rfl dX7_takeClause_194 ?_
                    refine lv_iconst (v := 1) hx hb dX7_takeClause_197 (by decide) ?_
                    refine lv_iadd hx hb dX7_takeClause_198 ?_
                    refine lv_topi (fun f13_247 ef13_247 => ?_)
                    replace hF := nm_i hF ef13_247
                    refine va_put (D := D) (ci := 7) (v := .int f13_247) (ty := .int) (C := RX7) (T := TX7) (N := 38) hx hb hts hin_RX7 tyX7 tyX7_ok nmX7 hown hK hP hD hS 0 rfl rfl 13 (by decide) hk_0 (fun _ h9 => h9) rfl (by decide +kernel) rfl rfl (Nat.le_of_ble_eq_true rfl) dX7_takeClause_199 (fun H locs hP hD hS => ?_)
                    obtain ⟨zM_248, ezM_248⟩ : ∃ y : MS, y = (upd zM_243.1 13 f13_247, zM_243.2) := ⟨_, rfl⟩
                    replace hF := nm_i hF ezM_248
                    have hP : va_P D vwCl (wcM ci aM zM_248) H := by rw [ezM_248]; exact hP
                    have hD : va_D A (wcM ci aM zM_248) := by rw [ezM_248]; exact hD
                    refine lv_iload_n hx hb dX7_takeClause_202 rfl (lv_at hl 0 rfl) ?_
                    obtain rfl := Option.some.inj hF
                    exact W.iret (v := t_201) hx hb hr (fun t ht hW => ⟨⟨_, (), rfl, rfl, by rw [ht]; exact hP, va_K.moved hW.alike hK, hD⟩, hS.F ht⟩) hS.2.2 dX7_takeClause_203
                  · replace hF := if_o c_246 hF
                    refine lv_aload_n hx hb dX7_takeClause_182 rfl (lv_at hl 1 rfl) ?_
                    refine lv_iconst (v := 1) hx hb dX7_takeClause_183 (by decide) ?_
                    refine lv_aload_n hx hb dX7_takeClause_184 rfl (lv_at hl 1 rfl) ?_
                    refine va_get (D := D) (ci := 7) (v := .int (zM_243.1 13)) (C := RX7) (T := TX7) (N := 38) hx hb hts hin_RX7 hown hK hP 0 rfl rfl 13 (by decide) hk_0 (fun _ h9 => h9) rfl dX7_takeClause_185 ?_
                    replace hF := bnd hF
                    obtain ⟨q_252, hc_251, hF⟩ := hF
                    obtain ⟨r_249, er_249⟩ : ∃ y : Int32, y = q_252.1 := ⟨_, rfl⟩
                    replace hF := nm_i hF er_249
                    obtain ⟨zM_250, ezM_250⟩ : ∃ y : MS, y = q_252.2 := ⟨_, rfl⟩
                    replace hF := nm_i hF ezM_250
                    obtain rfl : q_252 = (r_249, zM_250) := by rw [er_249, ezM_250]
                    clear er_249
                    clear ezM_250
                    refine cl_Vi0 (As := [.int 1, .int (zM_243.1 13)]) (rest := []) ⟨hx, hb, hml, hown, hts⟩ (cwV 2 hts gX7_takeClause_X7_fails rfl rfl rfl (by decide +kernel) ⟨Nat.le_of_ble_eq_true rfl, Nat.le_of_ble_eq_true rfl⟩) (c_X7_fails l D ci aM H.size zM_243 (1 : Int32) (zM_243.1 13) _ hc_251) hK hP hD hS hA 0 rfl rfl rfl rfl hl.1 (Nat.le_of_ble_eq_true rfl) dX7_takeClause_188 (Nat.zero_le _) (Nat.zero_le _) (fun H locs hP hD hS => ?_)
                    have hP : va_P D vwCl (wcM ci aM zM_250) H := hP
                    have hD : va_D A (wcM ci aM zM_250) := hD
                    obtain rfl := Option.some.inj hF
                    exact W.iret (v := r_249) hx hb hr (fun t ht hW => ⟨⟨_, (), rfl, rfl, by rw [ht]; exact hP, va_K.moved hW.alike hK, hD⟩, hS.F ht⟩) hS.2.2 dX7_takeClause_191
              · intro J_203
                clear hF
                have hF := hv_238
                refine lv_if_ne (tgt := 128) hx hb dX7_takeClause_118 (by decide) (fun c_204 => ?_) (fun c_204 => ?_)
                · replace hF := if_o c_204 hF
                  refine lv_iload_n hx hb dX7_takeClause_128 rfl (lv_at hl 0 rfl) ?_
                  refine lv_iconst (v := 1) hx hb dX7_takeClause_129 (by decide) ?_
                  refine lv_icmp_ne (tgt := 140) hx hb dX7_takeClause_130 (by decide) (fun c_205 => ?_) (fun c_205 => ?_)
                  · replace hF := if_o c_205 hF
                    refine lv_iload_n hx hb dX7_takeClause_140 rfl (lv_at hl 0 rfl) ?_
                    refine lv_iconst (v := 2) hx hb dX7_takeClause_141 (by decide) ?_
                    refine lv_icmp_ne (tgt := 152) hx hb dX7_takeClause_142 (by decide) (fun c_206 => ?_) (fun c_206 => ?_)
                    · replace hF := if_o c_206 hF
                      refine lv_iload_n hx hb dX7_takeClause_152 rfl (lv_at hl 0 rfl) ?_
                      refine lv_iconst (v := 3) hx hb dX7_takeClause_153 (by decide) ?_
                      refine lv_icmp_ne (tgt := 164) hx hb dX7_takeClause_154 (by decide) (fun c_207 => ?_) (fun c_207 => ?_)
                      · replace hF := if_o c_207 hF
                        refine lv_aload_n hx hb dX7_takeClause_164 rfl (lv_at hl 1 rfl) ?_
                        replace hF := bnd hF
                        obtain ⟨q_211, hc_210, hF⟩ := hF
                        obtain ⟨r_208, er_208⟩ : ∃ y : Int32, y = q_211.1 := ⟨_, rfl⟩
                        replace hF := nm_i hF er_208
                        obtain ⟨zM_209, ezM_209⟩ : ∃ y : MS, y = q_211.2 := ⟨_, rfl⟩
                        replace hF := nm_i hF ezM_209
                        obtain rfl : q_211 = (r_208, zM_209) := by rw [er_208, ezM_209]
                        clear er_208
                        clear ezM_209
                        refine cl_Vi0 (As := []) (rest := []) ⟨hx, hb, hml, hown, hts⟩ (cwV 0 hts gX7_takeClause_X7_takeHedge rfl rfl rfl (by decide +kernel) ⟨Nat.le_of_ble_eq_true rfl, Nat.le_of_ble_eq_true rfl⟩) (c_X7_takeHedge l D ci aM H.size zM_200 _ hc_210) hK hP hD hS hA 0 rfl rfl rfl rfl hl.1 (Nat.le_of_ble_eq_true rfl) dX7_takeClause_165 (Nat.zero_le _) (Nat.zero_le _) (fun H locs hP hD hS => ?_)
                        have hP : va_P D vwCl (wcM ci aM zM_209) H := hP
                        have hD : va_D A (wcM ci aM zM_209) := hD
                        obtain ⟨g_212, g_213⟩ : (r_208 : Int32) = t_201 ∧ (zM_209 : MS) = zM_202 := by have h9 := Option.some.inj hF; simpa only [Prod.mk.injEq] using h9
                        subst g_212
                        subst g_213
                        exact J_203 H locs ls ⟨hP, hD, hS, lv_sub hl [1, 2, 0] rfl⟩
                      · replace hF := if_i c_207 hF
                        refine lv_aload_n hx hb dX7_takeClause_157 rfl (lv_at hl 1 rfl) ?_
                        replace hF := bnd hF
                        obtain ⟨q_217, hc_216, hF⟩ := hF
                        obtain ⟨r_214, er_214⟩ : ∃ y : Int32, y = q_217.1 := ⟨_, rfl⟩
                        replace hF := nm_i hF er_214
                        obtain ⟨zM_215, ezM_215⟩ : ∃ y : MS, y = q_217.2 := ⟨_, rfl⟩
                        replace hF := nm_i hF ezM_215
                        obtain rfl : q_217 = (r_214, zM_215) := by rw [er_214, ezM_215]
                        clear er_214
                        clear ezM_215
                        refine cl_Vi0 (As := []) (rest := []) ⟨hx, hb, hml, hown, hts⟩ (cwV 0 hts gX7_takeClause_X7_takePath rfl rfl rfl (by decide +kernel) ⟨Nat.le_of_ble_eq_true rfl, Nat.le_of_ble_eq_true rfl⟩) (c_X7_takePath l D ci aM H.size zM_200 _ hc_216) hK hP hD hS hA 0 rfl rfl rfl rfl hl.1 (Nat.le_of_ble_eq_true rfl) dX7_takeClause_158 (Nat.zero_le _) (Nat.zero_le _) (fun H locs hP hD hS => ?_)
                        have hP : va_P D vwCl (wcM ci aM zM_215) H := hP
                        have hD : va_D A (wcM ci aM zM_215) := hD
                        refine lv_goto (tgt := 168) hx hb dX7_takeClause_161 (by decide) ?_
                        obtain ⟨g_218, g_219⟩ : (r_214 : Int32) = t_201 ∧ (zM_215 : MS) = zM_202 := by have h9 := Option.some.inj hF; simpa only [Prod.mk.injEq] using h9
                        subst g_218
                        subst g_219
                        exact J_203 H locs ls ⟨hP, hD, hS, lv_sub hl [1, 2, 0] rfl⟩
                    · replace hF := if_i c_206 hF
                      refine lv_aload_n hx hb dX7_takeClause_145 rfl (lv_at hl 1 rfl) ?_
                      replace hF := bnd hF
                      obtain ⟨q_223, hc_222, hF⟩ := hF
                      obtain ⟨r_220, er_220⟩ : ∃ y : Int32, y = q_223.1 := ⟨_, rfl⟩
                      replace hF := nm_i hF er_220
                      obtain ⟨zM_221, ezM_221⟩ : ∃ y : MS, y = q_223.2 := ⟨_, rfl⟩
                      replace hF := nm_i hF ezM_221
                      obtain rfl : q_223 = (r_220, zM_221) := by rw [er_220, ezM_221]
                      clear er_220
                      clear ezM_221
                      refine cl_Vi0 (As := []) (rest := []) ⟨hx, hb, hml, hown, hts⟩ (cwV 0 hts gX7_takeClause_X7_takeOwn rfl rfl rfl (by decide +kernel) ⟨Nat.le_of_ble_eq_true rfl, Nat.le_of_ble_eq_true rfl⟩) (c_X7_takeOwn l D ci aM H.size zM_200 _ hc_222) hK hP hD hS hA 0 rfl rfl rfl rfl hl.1 (Nat.le_of_ble_eq_true rfl) dX7_takeClause_146 (Nat.zero_le _) (Nat.zero_le _) (fun H locs hP hD hS => ?_)
                      have hP : va_P D vwCl (wcM ci aM zM_221) H := hP
                      have hD : va_D A (wcM ci aM zM_221) := hD
                      refine lv_goto (tgt := 168) hx hb dX7_takeClause_149 (by decide) ?_
                      obtain ⟨g_224, g_225⟩ : (r_220 : Int32) = t_201 ∧ (zM_221 : MS) = zM_202 := by have h9 := Option.some.inj hF; simpa only [Prod.mk.injEq] using h9
                      subst g_224
                      subst g_225
                      exact J_203 H locs ls ⟨hP, hD, hS, lv_sub hl [1, 2, 0] rfl⟩
                  · replace hF := if_i c_205 hF
                    refine lv_aload_n hx hb dX7_takeClause_133 rfl (lv_at hl 1 rfl) ?_
                    replace hF := bnd hF
                    obtain ⟨q_229, hc_228, hF⟩ := hF
                    obtain ⟨r_226, er_226⟩ : ∃ y : Int32, y = q_229.1 := ⟨_, rfl⟩
                    replace hF := nm_i hF er_226
                    obtain ⟨zM_227, ezM_227⟩ : ∃ y : MS, y = q_229.2 := ⟨_, rfl⟩
                    replace hF := nm_i hF ezM_227
                    obtain rfl : q_229 = (r_226, zM_227) := by rw [er_226, ezM_227]
                    clear er_226
                    clear ezM_227
                    refine cl_Vi0 (As := []) (rest := []) ⟨hx, hb, hml, hown, hts⟩ (cwV 0 hts gX7_takeClause_X7_takeSoil rfl rfl rfl (by decide +kernel) ⟨Nat.le_of_ble_eq_true rfl, Nat.le_of_ble_eq_true rfl⟩) (c_X7_takeSoil l D ci aM H.size zM_200 _ hc_228) hK hP hD hS hA 0 rfl rfl rfl rfl hl.1 (Nat.le_of_ble_eq_true rfl) dX7_takeClause_134 (Nat.zero_le _) (Nat.zero_le _) (fun H locs hP hD hS => ?_)
                    have hP : va_P D vwCl (wcM ci aM zM_227) H := hP
                    have hD : va_D A (wcM ci aM zM_227) := hD
                    refine lv_goto (tgt := 168) hx hb dX7_takeClause_137 (by decide) ?_
                    obtain ⟨g_230, g_231⟩ : (r_226 : Int32) = t_201 ∧ (zM_227 : MS) = zM_202 := by have h9 := Option.some.inj hF; simpa only [Prod.mk.injEq] using h9
                    subst g_230
                    subst g_231
                    exact J_203 H locs ls ⟨hP, hD, hS, lv_sub hl [1, 2, 0] rfl⟩
                · replace hF := if_i c_204 hF
                  refine lv_aload_n hx hb dX7_takeClause_121 rfl (lv_at hl 1 rfl) ?_
                  replace hF := bnd hF
                  obtain ⟨q_235, hc_234, hF⟩ := hF
                  obtain ⟨r_232, er_232⟩ : ∃ y : Int32, y = q_235.1 := ⟨_, rfl⟩
                  replace hF := nm_i hF er_232
                  obtain ⟨zM_233, ezM_233⟩ : ∃ y : MS, y = q_235.2 := ⟨_, rfl⟩
                  replace hF := nm_i hF ezM_233
                  obtain rfl : q_235 = (r_232, zM_233) := by rw [er_232, ezM_233]
                  clear er_232
                  clear ezM_233
                  refine cl_Vi0 (As := []) (rest := []) ⟨hx, hb, hml, hown, hts⟩ (cwV 0 hts gX7_takeClause_X7_takeGround rfl rfl rfl (by decide +kernel) ⟨Nat.le_of_ble_eq_true rfl, Nat.le_of_ble_eq_true rfl⟩) (c_X7_takeGround l D ci aM H.size zM_200 _ hc_234) hK hP hD hS hA 0 rfl rfl rfl rfl hl.1 (Nat.le_of_ble_eq_true rfl) dX7_takeClause_122 (Nat.zero_le _) (Nat.zero_le _) (fun H locs hP hD hS => ?_)
                  have hP : va_P D vwCl (wcM ci aM zM_233) H := hP
                  have hD : va_D A (wcM ci aM zM_233) := hD
                  refine lv_goto (tgt := 168) hx hb dX7_takeClause_125 (by decide) ?_
                  obtain ⟨g_236, g_237⟩ : (r_232 : Int32) = t_201 ∧ (zM_233 : MS) = zM_202 := by have h9 := Option.some.inj hF; simpa only [Prod.mk.injEq] using h9
                  subst g_236
                  subst g_237
                  exact J_203 H locs ls ⟨hP, hD, hS, lv_sub hl [1, 2, 0] rfl⟩
            · replace hF := if_o c_198 hF
              refine lv_aload_n hx hb dX7_takeClause_97 rfl (lv_at hl 1 rfl) ?_
              refine lv_iconst (v := 3) hx hb dX7_takeClause_98 (by decide) ?_
              refine lv_aload_n hx hb dX7_takeClause_99 rfl (lv_at hl 1 rfl) ?_
              refine va_get (D := D) (ci := 7) (v := .int (zM_2.1 13)) (C := RX7) (T := TX7) (N := 38) hx hb hts hin_RX7 hown hK hP 0 rfl rfl 13 (by decide) hk_0 (fun _ h9 => h9) rfl dX7_takeClause_100 ?_
              replace hF := bnd hF
              obtain ⟨q_257, hc_256, hF⟩ := hF
              obtain ⟨r_254, er_254⟩ : ∃ y : Int32, y = q_257.1 := ⟨_, rfl⟩
              replace hF := nm_i hF er_254
              obtain ⟨zM_255, ezM_255⟩ : ∃ y : MS, y = q_257.2 := ⟨_, rfl⟩
              replace hF := nm_i hF ezM_255
              obtain rfl : q_257 = (r_254, zM_255) := by rw [er_254, ezM_255]
              clear er_254
              clear ezM_255
              refine cl_Vi0 (As := [.int 3, .int (zM_2.1 13)]) (rest := []) ⟨hx, hb, hml, hown, hts⟩ (cwV 2 hts gX7_takeClause_X7_fails rfl rfl rfl (by decide +kernel) ⟨Nat.le_of_ble_eq_true rfl, Nat.le_of_ble_eq_true rfl⟩) (c_X7_fails l D ci aM H.size zM_2 (3 : Int32) (zM_2.1 13) _ hc_256) hK hP hD hS hA 0 rfl rfl rfl rfl hl.1 (Nat.le_of_ble_eq_true rfl) dX7_takeClause_103 (Nat.zero_le _) (Nat.zero_le _) (fun H locs hP hD hS => ?_)
              have hP : va_P D vwCl (wcM ci aM zM_255) H := hP
              have hD : va_D A (wcM ci aM zM_255) := hD
              obtain rfl := Option.some.inj hF
              exact W.iret (v := r_254) hx hb hr (fun t ht hW => ⟨⟨_, (), rfl, rfl, by rw [ht]; exact hP, va_K.moved hW.alike hK, hD⟩, hS.F ht⟩) hS.2.2 dX7_takeClause_106
        · replace hF := if_i c_139 hF
          refine lv_aload_n hx hb dX7_takeClause_74 rfl (lv_at hl 1 rfl) ?_
          refine lv_iconst (v := 1) hx hb dX7_takeClause_75 (by decide) ?_
          refine lv_aload_n hx hb dX7_takeClause_76 rfl (lv_at hl 1 rfl) ?_
          refine va_get (D := D) (ci := 7) (v := .int (zM_2.1 13)) (C := RX7) (T := TX7) (N := 38) hx hb hts hin_RX7 hown hK hP 0 rfl rfl 13 (by decide) hk_0 (fun _ h9 => h9) rfl dX7_takeClause_77 ?_
          replace hF := bnd hF
          obtain ⟨q_261, hc_260, hF⟩ := hF
          obtain ⟨r_258, er_258⟩ : ∃ y : Int32, y = q_261.1 := ⟨_, rfl⟩
          replace hF := nm_i hF er_258
          obtain ⟨zM_259, ezM_259⟩ : ∃ y : MS, y = q_261.2 := ⟨_, rfl⟩
          replace hF := nm_i hF ezM_259
          obtain rfl : q_261 = (r_258, zM_259) := by rw [er_258, ezM_259]
          clear er_258
          clear ezM_259
          refine cl_Vi0 (As := [.int 1, .int (zM_2.1 13)]) (rest := []) ⟨hx, hb, hml, hown, hts⟩ (cwV 2 hts gX7_takeClause_X7_fails rfl rfl rfl (by decide +kernel) ⟨Nat.le_of_ble_eq_true rfl, Nat.le_of_ble_eq_true rfl⟩) (c_X7_fails l D ci aM H.size zM_2 (1 : Int32) (zM_2.1 13) _ hc_260) hK hP hD hS hA 0 rfl rfl rfl rfl hl.1 (Nat.le_of_ble_eq_true rfl) dX7_takeClause_80 (Nat.zero_le _) (Nat.zero_le _) (fun H locs hP hD hS => ?_)
          have hP : va_P D vwCl (wcM ci aM zM_259) H := hP
          have hD : va_D A (wcM ci aM zM_259) := hD
          obtain rfl := Option.some.inj hF
          exact W.iret (v := r_258) hx hb hr (fun t ht hW => ⟨⟨_, (), rfl, rfl, by rw [ht]; exact hP, va_K.moved hW.alike hK, hD⟩, hS.F ht⟩) hS.2.2 dX7_takeClause_83
  · intro J_6
    clear hF
    have hF := hv_12
    refine lv_icmp_ne (tgt := 15) hx hb dX7_takeClause_8 (by decide) (fun c_7 => ?_) (fun c_7 => ?_)
    · replace hF := if_o c_7 hF
      refine lv_iload_n hx hb dX7_takeClause_15 rfl (lv_at hl 0 rfl) ?_
      refine lv_bipush (v := 115) hx hb dX7_takeClause_16 (by decide) ?_
      refine lv_icmp_ne (tgt := 25) hx hb dX7_takeClause_18 (by decide) (fun c_8 => ?_) (fun c_8 => ?_)
      · replace hF := if_o c_8 hF
        refine lv_iload_n hx hb dX7_takeClause_25 rfl (lv_at hl 0 rfl) ?_
        refine lv_bipush (v := 101) hx hb dX7_takeClause_26 (by decide) ?_
        refine lv_icmp_ne (tgt := 35) hx hb dX7_takeClause_28 (by decide) (fun c_9 => ?_) (fun c_9 => ?_)
        · replace hF := if_o c_9 hF
          refine lv_iload_n hx hb dX7_takeClause_35 rfl (lv_at hl 0 rfl) ?_
          refine lv_bipush (v := 112) hx hb dX7_takeClause_36 (by decide) ?_
          refine lv_icmp_ne (tgt := 45) hx hb dX7_takeClause_38 (by decide) (fun c_10 => ?_) (fun c_10 => ?_)
          · replace hF := if_o c_10 hF
            refine lv_iload_n hx hb dX7_takeClause_45 rfl (lv_at hl 0 rfl) ?_
            refine lv_bipush (v := 104) hx hb dX7_takeClause_46 (by decide) ?_
            refine lv_icmp_ne (tgt := 55) hx hb dX7_takeClause_48 (by decide) (fun c_11 => ?_) (fun c_11 => ?_)
            · replace hF := if_o c_11 hF
              refine lv_iconst (v := (-1)) hx hb dX7_takeClause_55 (by decide) ?_
              obtain rfl := Option.some.inj hF
              exact J_6 H locs ls ⟨hP, hD, hS, lv_sub hl [1, 0] rfl⟩
            · replace hF := if_i c_11 hF
              refine lv_iconst (v := 4) hx hb dX7_takeClause_51 (by decide) ?_
              refine lv_goto (tgt := 56) hx hb dX7_takeClause_52 (by decide) ?_
              obtain rfl := Option.some.inj hF
              exact J_6 H locs ls ⟨hP, hD, hS, lv_sub hl [1, 0] rfl⟩
          · replace hF := if_i c_10 hF
            refine lv_iconst (v := 3) hx hb dX7_takeClause_41 (by decide) ?_
            refine lv_goto (tgt := 56) hx hb dX7_takeClause_42 (by decide) ?_
            obtain rfl := Option.some.inj hF
            exact J_6 H locs ls ⟨hP, hD, hS, lv_sub hl [1, 0] rfl⟩
        · replace hF := if_i c_9 hF
          refine lv_iconst (v := 2) hx hb dX7_takeClause_31 (by decide) ?_
          refine lv_goto (tgt := 56) hx hb dX7_takeClause_32 (by decide) ?_
          obtain rfl := Option.some.inj hF
          exact J_6 H locs ls ⟨hP, hD, hS, lv_sub hl [1, 0] rfl⟩
      · replace hF := if_i c_8 hF
        refine lv_iconst (v := 1) hx hb dX7_takeClause_21 (by decide) ?_
        refine lv_goto (tgt := 56) hx hb dX7_takeClause_22 (by decide) ?_
        obtain rfl := Option.some.inj hF
        exact J_6 H locs ls ⟨hP, hD, hS, lv_sub hl [1, 0] rfl⟩
    · replace hF := if_i c_7 hF
      refine lv_iconst (v := 0) hx hb dX7_takeClause_11 (by decide) ?_
      refine lv_goto (tgt := 56) hx hb dX7_takeClause_12 (by decide) ?_
      obtain rfl := Option.some.inj hF
      exact J_6 H locs ls ⟨hP, hD, hS, lv_sub hl [1, 0] rfl⟩
noncomputable def L_X7_findEdges_7 : Nat → Int32 → MS → Option (Int32 × MS)
  | 0, _, _ => none
  | n + 1, v1_3, zM_4 => if (zM_4.1 2) ≤ v1_3 then (some (v1_3, zM_4)) else (dvi (zM_4.1 0) <| if ((zM_4.1 0) - 1) ≤ (v1_3 - v1_3 / (zM_4.1 0) * (zM_4.1 0)) then (nm (v1_3 + 1) fun v1_14 => L_X7_findEdges_7 n v1_14 zM_4) else (ast 40 (zM_4.1 3) <| nm ((zM_4.1, va_up zM_4.2 5 (upd (zM_4.2 5) (Int32.toNatClampNeg (zM_4.1 3)) v1_3)) : MS) fun zM_16 => nm (v1_3 + 1) fun y_18 => ast 40 (zM_16.1 3) <| nm ((zM_16.1, va_up zM_16.2 6 (upd (zM_16.2 6) (Int32.toNatClampNeg (zM_16.1 3)) y_18)) : MS) fun zM_19 => nm ((zM_19.1 3) + 1) fun f3_20 => nm ((upd zM_19.1 3 f3_20, zM_19.2) : MS) fun zM_21 => nm (v1_3 + 1) fun v1_22 => L_X7_findEdges_7 n v1_22 zM_21))
noncomputable def L_X7_findEdges_70 : Nat → Int32 → MS → Option (Int32 × MS)
  | 0, _, _ => none
  | n + 1, v1_25, zM_26 => if (zM_26.1 2) ≤ (v1_25 + (zM_26.1 0)) then (some (v1_25, zM_26)) else (ast 40 (zM_26.1 3) <| nm ((zM_26.1, va_up zM_26.2 5 (upd (zM_26.2 5) (Int32.toNatClampNeg (zM_26.1 3)) v1_25)) : MS) fun zM_35 => nm (v1_25 + (zM_35.1 0)) fun y_37 => ast 40 (zM_35.1 3) <| nm ((zM_35.1, va_up zM_35.2 6 (upd (zM_35.2 6) (Int32.toNatClampNeg (zM_35.1 3)) y_37)) : MS) fun zM_38 => nm ((zM_38.1 3) + 1) fun f3_39 => nm ((upd zM_38.1 3 f3_39, zM_38.2) : MS) fun zM_40 => nm (v1_25 + 1) fun v1_41 => L_X7_findEdges_70 n v1_41 zM_40)
noncomputable def f_X7_findEdges (zM : MS) : Option (MS) := nm ((upd zM.1 3 0, zM.2) : MS) fun zM_1 => nm (0 : Int32) fun v1_2 => (L_X7_findEdges_7 3000 v1_2 zM_1).bind fun q_44 => nm q_44.1 fun v1_7 => nm q_44.2 fun zM_8 => nm (0 : Int32) fun v1_24 => (L_X7_findEdges_70 3000 v1_24 zM_8).bind fun q_43 => nm q_43.1 fun v1_29 => nm q_43.2 fun zM_30 => some zM_30
set_option maxHeartbeats 4000000 in
set_option maxRecDepth 100000 in
theorem c_X7_findEdges (l : Launch) (D : va_G) (ci : Nat → ClassId) (aM : Nat → Nat) (sz : Nat) (zM : MS) (res : MS) (hF : f_X7_findEdges zM = some res) : CtV l yX7_findEdges wsX7_findEdges { frames := 0, cells := 0, slots := 0, locals := 0 } [.ref (aM 0)] D ci (wcM ci aM zM) sz (wcM ci aM res) := by
  refine Met.ofW (cc := cX7_findEdges) (maxL := 2) (ret := none) (by decide) rfl ?_
  intro p e s m args below meth c s₁ B hml hv
  obtain ⟨rfl, hsz, hP, hK, hD0⟩ := hv
  have hx := B.exec
  have hb := B.bytes
  have hr := B.returns
  have hts := atoms_spec (ws := wsX7_findEdges) B.pre
  have hown : s.vm.findClass RX7 = some m.cls := findClass_of_methodNamed B.named
  have hlocks := B.notSynchronized
  subst hsz
  have hD := hD0.self (sz := s.heap.size)
  generalize hAe : va_A (wcM ci aM zM) s.heap.size = A at hD ⊢
  have hA : ∀ q : Nat, s.heap.size ≤ q → A q := fun q h => by rw [← hAe]; exact Or.inr h
  clear hD0 hAe
  have hl := lv_entry ([.ref (aM 0)]) (n := 2) (Nat.le_of_ble_eq_true rfl)
  rw [lg_entry_eq]
  generalize (lg_sl ([.ref (aM 0)]) ++ List.replicate (2 - (lg_sl ([.ref (aM 0)])).length) Slot.unset).toArray = ls at hl ⊢
  have hl : lv_has ls 2 [(0, .ref (aM 0))] := hl
  have hP : va_P D vwCl (wcM ci aM zM) s.heap := hP
  generalize hH0 : s.heap = H at hP ⊢
  have hS : va_S A s.heap H [] := by rw [← hH0]; exact va_S.rf
  clear hH0
  generalize ([] : List Loc) = locs at hS ⊢
  have hk_0 := hts (.fieldLink RX7 91 "HedgeWarModel" "edges" "I") (by decide +kernel)
  have hin_RX7 : ∀ w ∈ wsX70, w ∈ wsX7_findEdges := by decide +kernel
  have hk_2 := hts (.fieldLink RX7 84 "HedgeWarModel" "fields" "I") (by decide +kernel)
  have hk_3 := hts (.fieldLink RX7 160 "HedgeWarModel" "wide" "I") (by decide +kernel)
  have hk_4 := hts (.fieldLink RX7 13 "HedgeWarModel" "edgeLow" "[I") (by decide +kernel)
  have hk_5 := hts (.fieldLink RX7 16 "HedgeWarModel" "edgeHigh" "[I") (by decide +kernel)
  unfold f_X7_findEdges at hF
  refine lv_aload_n hx hb dX7_findEdges_0 rfl (lv_at hl 0 rfl) ?_
  refine lv_iconst (v := 0) hx hb dX7_findEdges_1 (by decide) ?_
  refine va_put (D := D) (ci := 7) (v := .int 0) (ty := .int) (C := RX7) (T := TX7) (N := 38) hx hb hts hin_RX7 tyX7 tyX7_ok nmX7 hown hK hP hD hS 0 rfl rfl 3 (by decide) hk_0 (fun _ h9 => h9) rfl (by decide +kernel) rfl rfl (Nat.le_of_ble_eq_true rfl) dX7_findEdges_2 (fun H locs hP hD hS => ?_)
  obtain ⟨zM_1, ezM_1⟩ : ∃ y : MS, y = (upd zM.1 3 0, zM.2) := ⟨_, rfl⟩
  replace hF := nm_i hF ezM_1
  have hP : va_P D vwCl (wcM ci aM zM_1) H := by rw [ezM_1]; exact hP
  have hD : va_D A (wcM ci aM zM_1) := by rw [ezM_1]; exact hD
  refine lv_iconst (v := 0) hx hb dX7_findEdges_5 (by decide) ?_
  refine lv_topi (fun v1_2 ev1_2 => ?_)
  replace hF := nm_i hF ev1_2
  refine lv_istore_n (lv' := [(1, .int v1_2), (0, .ref (aM 0))]) hx hb dX7_findEdges_6 rfl hl (by decide) rfl (fun ls hl => ?_)
  replace hF := bnd hF
  obtain ⟨q_44, hv_23, hF⟩ := hF
  obtain ⟨v1_7, ev1_7⟩ : ∃ y : Int32, y = q_44.1 := ⟨_, rfl⟩
  replace hF := nm_i hF ev1_7
  obtain ⟨zM_8, ezM_8⟩ : ∃ y : MS, y = q_44.2 := ⟨_, rfl⟩
  replace hF := nm_i hF ezM_8
  obtain rfl : q_44 = (v1_7, zM_8) := by rw [ev1_7, ezM_8]
  clear ev1_7
  clear ezM_8
  refine jn (P := fun H locs ls => va_P D vwCl (wcM ci aM zM_8) H ∧ va_D A (wcM ci aM zM_8) ∧ va_S A s.heap H locs ∧ lv_has ls 2 [(0, .ref (aM 0)), (1, .int v1_7)]) (pcJ := 68) (st := []) ?_ ?_
  · intro H locs ls hJ
    obtain ⟨hP, hD, hS, hl⟩ := hJ
    refine lv_iconst (v := 0) hx hb dX7_findEdges_68 (by decide) ?_
    refine lv_topi (fun v1_24 ev1_24 => ?_)
    replace hF := nm_i hF ev1_24
    refine lv_istore_n (lv' := [(1, .int v1_24), (0, .ref (aM 0))]) hx hb dX7_findEdges_69 rfl hl (by decide) rfl (fun ls hl => ?_)
    replace hF := bnd hF
    obtain ⟨q_43, hv_42, hF⟩ := hF
    obtain ⟨v1_29, ev1_29⟩ : ∃ y : Int32, y = q_43.1 := ⟨_, rfl⟩
    replace hF := nm_i hF ev1_29
    obtain ⟨zM_30, ezM_30⟩ : ∃ y : MS, y = q_43.2 := ⟨_, rfl⟩
    replace hF := nm_i hF ezM_30
    obtain rfl : q_43 = (v1_29, zM_30) := by rw [ev1_29, ezM_30]
    clear ev1_29
    clear ezM_30
    refine jn (P := fun H locs ls => va_P D vwCl (wcM ci aM zM_30) H ∧ va_D A (wcM ci aM zM_30) ∧ va_S A s.heap H locs ∧ lv_has ls 2 [(0, .ref (aM 0)), (1, .int v1_29)]) (pcJ := 124) (st := []) ?_ ?_
    · intro H locs ls hJ
      obtain ⟨hP, hD, hS, hl⟩ := hJ
      obtain rfl := Option.some.inj hF
      exact W.vret hx hb hr (fun t ht hW => ⟨⟨(), rfl, trivial, by rw [ht]; exact hP, va_K.moved hW.alike hK, hD⟩, hS.F ht⟩) hS.2.2 dX7_findEdges_124
    · intro J_28
      clear hF
      have hF := hv_42
      refine lpW (σ := Int32 × MS) (I := fun n v H locs ls => L_X7_findEdges_70 n v.1 v.2 = some (v1_29, zM_30) ∧ va_P D vwCl (wcM ci aM v.2) H ∧ va_D A (wcM ci aM v.2) ∧ va_S A s.heap H locs ∧ lv_has ls 2 [(0, .ref (aM 0)), (1, .int v.1)]) 3000 (v1_24, zM_8) (fun _ _ _ _ h => no_none h.1) ⟨hF, hP, hD, hS, lv_sub hl [1, 0] rfl⟩ ?_
      clear hF hP hD hS hl
      intro n ih_27 vq H locs ls hI
      obtain ⟨v1_25, zM_26⟩ := vq
      obtain ⟨hF, hP, hD, hS, hl⟩ := hI
      have hP : va_P D vwCl (wcM ci aM zM_26) H := hP
      have hD : va_D A (wcM ci aM zM_26) := hD
      have hl : lv_has ls 2 [(0, .ref (aM 0)), (1, .int v1_25)] := hl
      replace hF : L_X7_findEdges_70 (n + 1) v1_25 zM_26 = some (v1_29, zM_30) := hF
      rw [L_X7_findEdges_70] at hF
      refine lv_iload_n hx hb dX7_findEdges_70 rfl (lv_at hl 1 rfl) ?_
      refine lv_aload_n hx hb dX7_findEdges_71 rfl (lv_at hl 0 rfl) ?_
      refine va_get (D := D) (ci := 7) (v := .int (zM_26.1 0)) (C := RX7) (T := TX7) (N := 38) hx hb hts hin_RX7 hown hK hP 0 rfl rfl 0 (by decide) hk_3 (fun _ h9 => h9) rfl dX7_findEdges_72 ?_
      refine lv_iadd hx hb dX7_findEdges_75 ?_
      refine lv_aload_n hx hb dX7_findEdges_76 rfl (lv_at hl 0 rfl) ?_
      refine va_get (D := D) (ci := 7) (v := .int (zM_26.1 2)) (C := RX7) (T := TX7) (N := 38) hx hb hts hin_RX7 hown hK hP 0 rfl rfl 2 (by decide) hk_2 (fun _ h9 => h9) rfl dX7_findEdges_77 ?_
      refine lv_icmp_ge (tgt := 124) hx hb dX7_findEdges_80 (by decide) (fun c_31 => ?_) (fun c_31 => ?_)
      · replace hF := if_i c_31 hF
        obtain ⟨g_32, g_33⟩ : v1_25 = v1_29 ∧ zM_26 = zM_30 := by have h9 := Option.some.inj hF; simpa only [Prod.mk.injEq] using h9
        subst g_32
        subst g_33
        exact J_28 H locs ls ⟨hP, hD, hS, lv_sub hl [0, 1] rfl⟩
      · replace hF := if_o c_31 hF
        refine lv_aload_n hx hb dX7_findEdges_83 rfl (lv_at hl 0 rfl) ?_
        refine va_get (D := D) (ci := 7) (v := .ref (aM 5)) (C := RX7) (T := TX7) (N := 38) hx hb hts hin_RX7 hown hK hP 0 rfl rfl 5 (by decide) hk_4 (fun _ h9 => h9) rfl dX7_findEdges_84 ?_
        refine lv_aload_n hx hb dX7_findEdges_87 rfl (lv_at hl 0 rfl) ?_
        refine va_get (D := D) (ci := 7) (v := .int (zM_26.1 3)) (C := RX7) (T := TX7) (N := 38) hx hb hts hin_RX7 hown hK hP 0 rfl rfl 3 (by decide) hk_0 (fun _ h9 => h9) rfl dX7_findEdges_88 ?_
        refine lv_iload_n hx hb dX7_findEdges_91 rfl (lv_at hl 1 rfl) ?_
        replace hF := ast_i hF
        obtain ⟨hin_34, hF⟩ := hF
        refine va_iast (x := v1_25) hx hb hK hP hD hS 2 0 rfl rfl hin_34 dX7_findEdges_92 (fun H locs hP hD hS => ?_)
        obtain ⟨zM_35, ezM_35⟩ : ∃ y : MS, y = (zM_26.1, va_up zM_26.2 5 (upd (zM_26.2 5) (Int32.toNatClampNeg (zM_26.1 3)) v1_25)) := ⟨_, rfl⟩
        replace hF := nm_i hF ezM_35
        have hP : va_P D vwCl (wcM ci aM zM_35) H := by rw [ezM_35]; exact hP
        have hD : va_D A (wcM ci aM zM_35) := by rw [ezM_35]; exact hD
        refine lv_aload_n hx hb dX7_findEdges_93 rfl (lv_at hl 0 rfl) ?_
        refine va_get (D := D) (ci := 7) (v := .ref (aM 6)) (C := RX7) (T := TX7) (N := 38) hx hb hts hin_RX7 hown hK hP 0 rfl rfl 6 (by decide) hk_5 (fun _ h9 => h9) rfl dX7_findEdges_94 ?_
        refine lv_aload_n hx hb dX7_findEdges_97 rfl (lv_at hl 0 rfl) ?_
        refine va_get (D := D) (ci := 7) (v := .int (zM_35.1 3)) (C := RX7) (T := TX7) (N := 38) hx hb hts hin_RX7 hown hK hP 0 rfl rfl 3 (by decide) hk_0 (fun _ h9 => h9) rfl dX7_findEdges_98 ?_
        refine lv_iload_n hx hb dX7_findEdges_101 rfl (lv_at hl 1 rfl) ?_
        refine lv_aload_n hx hb dX7_findEdges_102 rfl (lv_at hl 0 rfl) ?_
        refine va_get (D := D) (ci := 7) (v := .int (zM_35.1 0)) (C := RX7) (T := TX7) (N := 38) hx hb hts hin_RX7 hown hK hP 0 rfl rfl 0 (by decide) hk_3 (fun _ h9 => h9) rfl dX7_findEdges_103 ?_
        refine lv_iadd hx hb dX7_findEdges_106 ?_
        refine lv_topi (fun y_37 ey_37 => ?_)
        replace hF := nm_i hF ey_37
        replace hF := ast_i hF
        obtain ⟨hin_36, hF⟩ := hF
        refine va_iast (x := y_37) hx hb hK hP hD hS 3 0 rfl rfl hin_36 dX7_findEdges_107 (fun H locs hP hD hS => ?_)
        obtain ⟨zM_38, ezM_38⟩ : ∃ y : MS, y = (zM_35.1, va_up zM_35.2 6 (upd (zM_35.2 6) (Int32.toNatClampNeg (zM_35.1 3)) y_37)) := ⟨_, rfl⟩
        replace hF := nm_i hF ezM_38
        have hP : va_P D vwCl (wcM ci aM zM_38) H := by rw [ezM_38]; exact hP
        have hD : va_D A (wcM ci aM zM_38) := by rw [ezM_38]; exact hD
        refine lv_aload_n hx hb dX7_findEdges_108 rfl (lv_at hl 0 rfl) ?_
        refine lv_dup hx hb dX7_findEdges_109 rfl ?_
        refine va_get (D := D) (ci := 7) (v := .int (zM_38.1 3)) (C := RX7) (T := TX7) (N := 38) hx hb hts hin_RX7 hown hK hP 0 rfl rfl 3 (by decide) hk_0 (fun _ h9 => h9) rfl dX7_findEdges_110 ?_
        refine lv_iconst (v := 1) hx hb dX7_findEdges_113 (by decide) ?_
        refine lv_iadd hx hb dX7_findEdges_114 ?_
        refine lv_topi (fun f3_39 ef3_39 => ?_)
        replace hF := nm_i hF ef3_39
        refine va_put (D := D) (ci := 7) (v := .int f3_39) (ty := .int) (C := RX7) (T := TX7) (N := 38) hx hb hts hin_RX7 tyX7 tyX7_ok nmX7 hown hK hP hD hS 0 rfl rfl 3 (by decide) hk_0 (fun _ h9 => h9) rfl (by decide +kernel) rfl rfl (Nat.le_of_ble_eq_true rfl) dX7_findEdges_115 (fun H locs hP hD hS => ?_)
        obtain ⟨zM_40, ezM_40⟩ : ∃ y : MS, y = (upd zM_38.1 3 f3_39, zM_38.2) := ⟨_, rfl⟩
        replace hF := nm_i hF ezM_40
        have hP : va_P D vwCl (wcM ci aM zM_40) H := by rw [ezM_40]; exact hP
        have hD : va_D A (wcM ci aM zM_40) := by rw [ezM_40]; exact hD
        obtain ⟨v1_41, ev1_41⟩ : ∃ y : Int32, y = v1_25 + 1 := ⟨_, rfl⟩
        replace hF := nm_i hF ev1_41
        refine lv_iinc (v := v1_41) (lv' := [(1, .int v1_41), (0, .ref (aM 0))]) hx hb dX7_findEdges_118 hl (k := 1) rfl (by rw [ev1_41]; rfl) (by decide) rfl (fun ls hl => ?_)
        refine lv_goto (tgt := 70) hx hb dX7_findEdges_121 (by decide) ?_
        exact ih_27 (v1_41, zM_40) H locs ls ⟨hF, hP, hD, hS, lv_sub hl [1, 0] rfl⟩
  · intro J_6
    clear hF
    have hF := hv_23
    refine lpW (σ := Int32 × MS) (I := fun n v H locs ls => L_X7_findEdges_7 n v.1 v.2 = some (v1_7, zM_8) ∧ va_P D vwCl (wcM ci aM v.2) H ∧ va_D A (wcM ci aM v.2) ∧ va_S A s.heap H locs ∧ lv_has ls 2 [(0, .ref (aM 0)), (1, .int v.1)]) 3000 (v1_2, zM_1) (fun _ _ _ _ h => no_none h.1) ⟨hF, hP, hD, hS, lv_sub hl [1, 0] rfl⟩ ?_
    clear hF hP hD hS hl
    intro n ih_5 vq H locs ls hI
    obtain ⟨v1_3, zM_4⟩ := vq
    obtain ⟨hF, hP, hD, hS, hl⟩ := hI
    have hP : va_P D vwCl (wcM ci aM zM_4) H := hP
    have hD : va_D A (wcM ci aM zM_4) := hD
    have hl : lv_has ls 2 [(0, .ref (aM 0)), (1, .int v1_3)] := hl
    replace hF : L_X7_findEdges_7 (n + 1) v1_3 zM_4 = some (v1_7, zM_8) := hF
    rw [L_X7_findEdges_7] at hF
    refine lv_iload_n hx hb dX7_findEdges_7 rfl (lv_at hl 1 rfl) ?_
    refine lv_aload_n hx hb dX7_findEdges_8 rfl (lv_at hl 0 rfl) ?_
    refine va_get (D := D) (ci := 7) (v := .int (zM_4.1 2)) (C := RX7) (T := TX7) (N := 38) hx hb hts hin_RX7 hown hK hP 0 rfl rfl 2 (by decide) hk_2 (fun _ h9 => h9) rfl dX7_findEdges_9 ?_
    refine lv_icmp_ge (tgt := 68) hx hb dX7_findEdges_12 (by decide) (fun c_9 => ?_) (fun c_9 => ?_)
    · replace hF := if_i c_9 hF
      obtain ⟨g_10, g_11⟩ : v1_3 = v1_7 ∧ zM_4 = zM_8 := by have h9 := Option.some.inj hF; simpa only [Prod.mk.injEq] using h9
      subst g_10
      subst g_11
      exact J_6 H locs ls ⟨hP, hD, hS, lv_sub hl [0, 1] rfl⟩
    · replace hF := if_o c_9 hF
      refine lv_iload_n hx hb dX7_findEdges_15 rfl (lv_at hl 1 rfl) ?_
      refine lv_aload_n hx hb dX7_findEdges_16 rfl (lv_at hl 0 rfl) ?_
      refine va_get (D := D) (ci := 7) (v := .int (zM_4.1 0)) (C := RX7) (T := TX7) (N := 38) hx hb hts hin_RX7 hown hK hP 0 rfl rfl 0 (by decide) hk_3 (fun _ h9 => h9) rfl dX7_findEdges_17 ?_
      replace hF := dvi_i hF
      obtain ⟨hne_12, hF⟩ := hF
      refine lv_irem hx hb dX7_findEdges_20 hne_12 ?_
      refine lv_aload_n hx hb dX7_findEdges_21 rfl (lv_at hl 0 rfl) ?_
      refine va_get (D := D) (ci := 7) (v := .int (zM_4.1 0)) (C := RX7) (T := TX7) (N := 38) hx hb hts hin_RX7 hown hK hP 0 rfl rfl 0 (by decide) hk_3 (fun _ h9 => h9) rfl dX7_findEdges_22 ?_
      refine lv_iconst (v := 1) hx hb dX7_findEdges_25 (by decide) ?_
      refine lv_isub hx hb dX7_findEdges_26 ?_
      refine lv_icmp_ge (tgt := 62) hx hb dX7_findEdges_27 (by decide) (fun c_13 => ?_) (fun c_13 => ?_)
      · replace hF := if_i c_13 hF
        obtain ⟨v1_14, ev1_14⟩ : ∃ y : Int32, y = v1_3 + 1 := ⟨_, rfl⟩
        replace hF := nm_i hF ev1_14
        refine lv_iinc (v := v1_14) (lv' := [(1, .int v1_14), (0, .ref (aM 0))]) hx hb dX7_findEdges_62 hl (k := 1) rfl (by rw [ev1_14]; rfl) (by decide) rfl (fun ls hl => ?_)
        refine lv_goto (tgt := 7) hx hb dX7_findEdges_65 (by decide) ?_
        exact ih_5 (v1_14, zM_4) H locs ls ⟨hF, hP, hD, hS, lv_sub hl [1, 0] rfl⟩
      · replace hF := if_o c_13 hF
        refine lv_aload_n hx hb dX7_findEdges_30 rfl (lv_at hl 0 rfl) ?_
        refine va_get (D := D) (ci := 7) (v := .ref (aM 5)) (C := RX7) (T := TX7) (N := 38) hx hb hts hin_RX7 hown hK hP 0 rfl rfl 5 (by decide) hk_4 (fun _ h9 => h9) rfl dX7_findEdges_31 ?_
        refine lv_aload_n hx hb dX7_findEdges_34 rfl (lv_at hl 0 rfl) ?_
        refine va_get (D := D) (ci := 7) (v := .int (zM_4.1 3)) (C := RX7) (T := TX7) (N := 38) hx hb hts hin_RX7 hown hK hP 0 rfl rfl 3 (by decide) hk_0 (fun _ h9 => h9) rfl dX7_findEdges_35 ?_
        refine lv_iload_n hx hb dX7_findEdges_38 rfl (lv_at hl 1 rfl) ?_
        replace hF := ast_i hF
        obtain ⟨hin_15, hF⟩ := hF
        refine va_iast (x := v1_3) hx hb hK hP hD hS 2 0 rfl rfl hin_15 dX7_findEdges_39 (fun H locs hP hD hS => ?_)
        obtain ⟨zM_16, ezM_16⟩ : ∃ y : MS, y = (zM_4.1, va_up zM_4.2 5 (upd (zM_4.2 5) (Int32.toNatClampNeg (zM_4.1 3)) v1_3)) := ⟨_, rfl⟩
        replace hF := nm_i hF ezM_16
        have hP : va_P D vwCl (wcM ci aM zM_16) H := by rw [ezM_16]; exact hP
        have hD : va_D A (wcM ci aM zM_16) := by rw [ezM_16]; exact hD
        refine lv_aload_n hx hb dX7_findEdges_40 rfl (lv_at hl 0 rfl) ?_
        refine va_get (D := D) (ci := 7) (v := .ref (aM 6)) (C := RX7) (T := TX7) (N := 38) hx hb hts hin_RX7 hown hK hP 0 rfl rfl 6 (by decide) hk_5 (fun _ h9 => h9) rfl dX7_findEdges_41 ?_
        refine lv_aload_n hx hb dX7_findEdges_44 rfl (lv_at hl 0 rfl) ?_
        refine va_get (D := D) (ci := 7) (v := .int (zM_16.1 3)) (C := RX7) (T := TX7) (N := 38) hx hb hts hin_RX7 hown hK hP 0 rfl rfl 3 (by decide) hk_0 (fun _ h9 => h9) rfl dX7_findEdges_45 ?_
        refine lv_iload_n hx hb dX7_findEdges_48 rfl (lv_at hl 1 rfl) ?_
        refine lv_iconst (v := 1) hx hb dX7_findEdges_49 (by decide) ?_
        refine lv_iadd hx hb dX7_findEdges_50 ?_
        refine lv_topi (fun y_18 ey_18 => ?_)
        replace hF := nm_i hF ey_18
        replace hF := ast_i hF
        obtain ⟨hin_17, hF⟩ := hF
        refine va_iast (x := y_18) hx hb hK hP hD hS 3 0 rfl rfl hin_17 dX7_findEdges_51 (fun H locs hP hD hS => ?_)
        obtain ⟨zM_19, ezM_19⟩ : ∃ y : MS, y = (zM_16.1, va_up zM_16.2 6 (upd (zM_16.2 6) (Int32.toNatClampNeg (zM_16.1 3)) y_18)) := ⟨_, rfl⟩
        replace hF := nm_i hF ezM_19
        have hP : va_P D vwCl (wcM ci aM zM_19) H := by rw [ezM_19]; exact hP
        have hD : va_D A (wcM ci aM zM_19) := by rw [ezM_19]; exact hD
        refine lv_aload_n hx hb dX7_findEdges_52 rfl (lv_at hl 0 rfl) ?_
        refine lv_dup hx hb dX7_findEdges_53 rfl ?_
        refine va_get (D := D) (ci := 7) (v := .int (zM_19.1 3)) (C := RX7) (T := TX7) (N := 38) hx hb hts hin_RX7 hown hK hP 0 rfl rfl 3 (by decide) hk_0 (fun _ h9 => h9) rfl dX7_findEdges_54 ?_
        refine lv_iconst (v := 1) hx hb dX7_findEdges_57 (by decide) ?_
        refine lv_iadd hx hb dX7_findEdges_58 ?_
        refine lv_topi (fun f3_20 ef3_20 => ?_)
        replace hF := nm_i hF ef3_20
        refine va_put (D := D) (ci := 7) (v := .int f3_20) (ty := .int) (C := RX7) (T := TX7) (N := 38) hx hb hts hin_RX7 tyX7 tyX7_ok nmX7 hown hK hP hD hS 0 rfl rfl 3 (by decide) hk_0 (fun _ h9 => h9) rfl (by decide +kernel) rfl rfl (Nat.le_of_ble_eq_true rfl) dX7_findEdges_59 (fun H locs hP hD hS => ?_)
        obtain ⟨zM_21, ezM_21⟩ : ∃ y : MS, y = (upd zM_19.1 3 f3_20, zM_19.2) := ⟨_, rfl⟩
        replace hF := nm_i hF ezM_21
        have hP : va_P D vwCl (wcM ci aM zM_21) H := by rw [ezM_21]; exact hP
        have hD : va_D A (wcM ci aM zM_21) := by rw [ezM_21]; exact hD
        obtain ⟨v1_22, ev1_22⟩ : ∃ y : Int32, y = v1_3 + 1 := ⟨_, rfl⟩
        replace hF := nm_i hF ev1_22
        refine lv_iinc (v := v1_22) (lv' := [(1, .int v1_22), (0, .ref (aM 0))]) hx hb dX7_findEdges_62 hl (k := 1) rfl (by rw [ev1_22]; rfl) (by decide) rfl (fun ls hl => ?_)
        refine lv_goto (tgt := 7) hx hb dX7_findEdges_65 (by decide) ?_
        exact ih_5 (v1_22, zM_21) H locs ls ⟨hF, hP, hD, hS, lv_sub hl [1, 0] rfl⟩
noncomputable def L_X7_takeRead_39 : Nat → Int32 → MS → Option (Int32 × MS)
  | 0, _, _ => none
  | n + 1, v1_12, zM_13 => if (25 : Int32) ≤ v1_12 then (some (v1_12, zM_13)) else (ald 25 (zM_13.2 17) v1_12 fun x_22 => ast 25 v1_12 <| nm ((zM_13.1, va_up zM_13.2 4 (upd (zM_13.2 4) (Int32.toNatClampNeg v1_12) x_22)) : MS) fun zM_24 => nm (v1_12 + 1) fun v1_25 => L_X7_takeRead_39 n v1_25 zM_24)
noncomputable def L_X7_takeRead_65 : Nat → Int32 → MS → Option (Int32 × MS)
  | 0, _, _ => none
  | n + 1, v1_28, zM_29 => if (40 : Int32) ≤ v1_28 then (some (v1_28, zM_29)) else (ald 40 (zM_29.2 19) v1_28 fun x_38 => ast 40 v1_28 <| nm ((zM_29.1, va_up zM_29.2 7 (upd (zM_29.2 7) (Int32.toNatClampNeg v1_28) (vp_nar .boolean x_38))) : MS) fun zM_40 => ald 40 (zM_40.2 20) v1_28 fun x_42 => ast 122 v1_28 <| nm ((zM_40.1, va_up zM_40.2 8 (upd (zM_40.2 8) (Int32.toNatClampNeg v1_28) x_42)) : MS) fun zM_44 => ald 40 (zM_44.2 21) v1_28 fun x_46 => ast 122 (40 + v1_28) <| nm ((zM_44.1, va_up zM_44.2 8 (upd (zM_44.2 8) (Int32.toNatClampNeg (40 + v1_28)) x_46)) : MS) fun zM_48 => ast 122 (80 + v1_28) <| nm ((zM_48.1, va_up zM_48.2 8 (upd (zM_48.2 8) (Int32.toNatClampNeg (80 + v1_28)) 0)) : MS) fun zM_50 => nm (v1_28 + 1) fun v1_51 => L_X7_takeRead_65 n v1_51 zM_50)
noncomputable def f_X7_takeRead (zM : MS) : Option (MS) := ald 3 (zM.2 16) (0 : Int32) fun x_2 => nm ((upd zM.1 0 x_2, zM.2) : MS) fun zM_3 => ald 3 (zM_3.2 16) (1 : Int32) fun x_5 => nm ((upd zM_3.1 1 x_5, zM_3.2) : MS) fun zM_6 => nm ((zM_6.1 0) * (zM_6.1 1)) fun f2_7 => nm ((upd zM_6.1 2 f2_7, zM_6.2) : MS) fun zM_8 => (f_X7_findEdges zM_8).bind fun zM_9 => nm (0 : Int32) fun v1_11 => (L_X7_takeRead_39 3000 v1_11 zM_9).bind fun q_59 => nm q_59.1 fun v1_16 => nm q_59.2 fun zM_17 => nm (0 : Int32) fun v1_27 => (L_X7_takeRead_65 3000 v1_27 zM_17).bind fun q_58 => nm q_58.1 fun v1_32 => nm q_58.2 fun zM_33 => nm (zM_33.1 18) fun y_54 => ast 122 (120 : Int32) <| nm ((zM_33.1, va_up zM_33.2 8 (upd (zM_33.2 8) (Int32.toNatClampNeg 120) y_54)) : MS) fun zM_55 => ast 122 (121 : Int32) <| nm ((zM_55.1, va_up zM_55.2 8 (upd (zM_55.2 8) (Int32.toNatClampNeg 121) 0)) : MS) fun zM_57 => some zM_57
set_option maxHeartbeats 4000000 in
set_option maxRecDepth 100000 in
theorem c_X7_takeRead (l : Launch) (D : va_G) (ci : Nat → ClassId) (aM : Nat → Nat) (sz : Nat) (zM : MS) (res : MS) (hF : f_X7_takeRead zM = some res) : CtV l yX7_takeRead wsX7_takeRead { frames := 1, cells := 0, slots := 0, locals := 21 } [.ref (aM 0)] D ci (wcM ci aM zM) sz (wcM ci aM res) := by
  refine Met.ofW (cc := cX7_takeRead) (maxL := 2) (ret := none) (by decide) rfl ?_
  intro p e s m args below meth c s₁ B hml hv
  obtain ⟨rfl, hsz, hP, hK, hD0⟩ := hv
  have hx := B.exec
  have hb := B.bytes
  have hr := B.returns
  have hts := atoms_spec (ws := wsX7_takeRead) B.pre
  have hown : s.vm.findClass RX7 = some m.cls := findClass_of_methodNamed B.named
  have hlocks := B.notSynchronized
  subst hsz
  have hD := hD0.self (sz := s.heap.size)
  generalize hAe : va_A (wcM ci aM zM) s.heap.size = A at hD ⊢
  have hA : ∀ q : Nat, s.heap.size ≤ q → A q := fun q h => by rw [← hAe]; exact Or.inr h
  clear hD0 hAe
  have hl := lv_entry ([.ref (aM 0)]) (n := 2) (Nat.le_of_ble_eq_true rfl)
  rw [lg_entry_eq]
  generalize (lg_sl ([.ref (aM 0)]) ++ List.replicate (2 - (lg_sl ([.ref (aM 0)])).length) Slot.unset).toArray = ls at hl ⊢
  have hl : lv_has ls 2 [(0, .ref (aM 0))] := hl
  have hP : va_P D vwCl (wcM ci aM zM) s.heap := hP
  generalize hH0 : s.heap = H at hP ⊢
  have hS : va_S A s.heap H [] := by rw [← hH0]; exact va_S.rf
  clear hH0
  generalize ([] : List Loc) = locs at hS ⊢
  have hk_0 := hts (.fieldLink RX7 33 "HedgeWarModel" "readGround" "[I") (by decide +kernel)
  have hin_RX7 : ∀ w ∈ wsX70, w ∈ wsX7_takeRead := by decide +kernel
  have hk_2 := hts (.fieldLink RX7 160 "HedgeWarModel" "wide" "I") (by decide +kernel)
  have hk_3 := hts (.fieldLink RX7 163 "HedgeWarModel" "high" "I") (by decide +kernel)
  have hk_4 := hts (.fieldLink RX7 84 "HedgeWarModel" "fields" "I") (by decide +kernel)
  have hk_5 := hts (.fieldLink RX7 7 "HedgeWarModel" "soil" "[I") (by decide +kernel)
  have hk_6 := hts (.fieldLink RX7 36 "HedgeWarModel" "readSoil" "[I") (by decide +kernel)
  have hk_7 := hts (.fieldLink RX7 19 "HedgeWarModel" "path" "[Z") (by decide +kernel)
  have hk_8 := hts (.fieldLink RX7 39 "HedgeWarModel" "readPath" "[Z") (by decide +kernel)
  have hk_9 := hts (.fieldLink RX7 23 "HedgeWarModel" "now" "[I") (by decide +kernel)
  have hk_10 := hts (.fieldLink RX7 42 "HedgeWarModel" "readHedge" "[I") (by decide +kernel)
  have hk_11 := hts (.fieldLink RX7 45 "HedgeWarModel" "readAge" "[I") (by decide +kernel)
  have hk_12 := hts (.fieldLink RX7 132 "HedgeWarModel" "readOwn" "I") (by decide +kernel)
  unfold f_X7_takeRead at hF
  refine lv_aload_n hx hb dX7_takeRead_0 rfl (lv_at hl 0 rfl) ?_
  refine lv_aload_n hx hb dX7_takeRead_1 rfl (lv_at hl 0 rfl) ?_
  refine va_get (D := D) (ci := 7) (v := .ref (aM 16)) (C := RX7) (T := TX7) (N := 38) hx hb hts hin_RX7 hown hK hP 0 rfl rfl 16 (by decide) hk_0 (fun _ h9 => h9) rfl dX7_takeRead_2 ?_
  refine lv_iconst (v := 0) hx hb dX7_takeRead_5 (by decide) ?_
  replace hF := ald_i hF
  obtain ⟨hin_1, hF⟩ := hF
  refine va_iald hx hb hK hP 7 0 rfl rfl hin_1 dX7_takeRead_6 ?_
  refine lv_topi (fun x_2 ex_2 => ?_)
  replace hF := nm_i hF ex_2
  refine va_put (D := D) (ci := 7) (v := .int x_2) (ty := .int) (C := RX7) (T := TX7) (N := 38) hx hb hts hin_RX7 tyX7 tyX7_ok nmX7 hown hK hP hD hS 0 rfl rfl 0 (by decide) hk_2 (fun _ h9 => h9) rfl (by decide +kernel) rfl rfl (Nat.le_of_ble_eq_true rfl) dX7_takeRead_7 (fun H locs hP hD hS => ?_)
  obtain ⟨zM_3, ezM_3⟩ : ∃ y : MS, y = (upd zM.1 0 x_2, zM.2) := ⟨_, rfl⟩
  replace hF := nm_i hF ezM_3
  have hP : va_P D vwCl (wcM ci aM zM_3) H := by rw [ezM_3]; exact hP
  have hD : va_D A (wcM ci aM zM_3) := by rw [ezM_3]; exact hD
  refine lv_aload_n hx hb dX7_takeRead_10 rfl (lv_at hl 0 rfl) ?_
  refine lv_aload_n hx hb dX7_takeRead_11 rfl (lv_at hl 0 rfl) ?_
  refine va_get (D := D) (ci := 7) (v := .ref (aM 16)) (C := RX7) (T := TX7) (N := 38) hx hb hts hin_RX7 hown hK hP 0 rfl rfl 16 (by decide) hk_0 (fun _ h9 => h9) rfl dX7_takeRead_12 ?_
  refine lv_iconst (v := 1) hx hb dX7_takeRead_15 (by decide) ?_
  replace hF := ald_i hF
  obtain ⟨hin_4, hF⟩ := hF
  refine va_iald hx hb hK hP 7 0 rfl rfl hin_4 dX7_takeRead_16 ?_
  refine lv_topi (fun x_5 ex_5 => ?_)
  replace hF := nm_i hF ex_5
  refine va_put (D := D) (ci := 7) (v := .int x_5) (ty := .int) (C := RX7) (T := TX7) (N := 38) hx hb hts hin_RX7 tyX7 tyX7_ok nmX7 hown hK hP hD hS 0 rfl rfl 1 (by decide) hk_3 (fun _ h9 => h9) rfl (by decide +kernel) rfl rfl (Nat.le_of_ble_eq_true rfl) dX7_takeRead_17 (fun H locs hP hD hS => ?_)
  obtain ⟨zM_6, ezM_6⟩ : ∃ y : MS, y = (upd zM_3.1 1 x_5, zM_3.2) := ⟨_, rfl⟩
  replace hF := nm_i hF ezM_6
  have hP : va_P D vwCl (wcM ci aM zM_6) H := by rw [ezM_6]; exact hP
  have hD : va_D A (wcM ci aM zM_6) := by rw [ezM_6]; exact hD
  refine lv_aload_n hx hb dX7_takeRead_20 rfl (lv_at hl 0 rfl) ?_
  refine lv_aload_n hx hb dX7_takeRead_21 rfl (lv_at hl 0 rfl) ?_
  refine va_get (D := D) (ci := 7) (v := .int (zM_6.1 0)) (C := RX7) (T := TX7) (N := 38) hx hb hts hin_RX7 hown hK hP 0 rfl rfl 0 (by decide) hk_2 (fun _ h9 => h9) rfl dX7_takeRead_22 ?_
  refine lv_aload_n hx hb dX7_takeRead_25 rfl (lv_at hl 0 rfl) ?_
  refine va_get (D := D) (ci := 7) (v := .int (zM_6.1 1)) (C := RX7) (T := TX7) (N := 38) hx hb hts hin_RX7 hown hK hP 0 rfl rfl 1 (by decide) hk_3 (fun _ h9 => h9) rfl dX7_takeRead_26 ?_
  refine lv_imul hx hb dX7_takeRead_29 ?_
  refine lv_topi (fun f2_7 ef2_7 => ?_)
  replace hF := nm_i hF ef2_7
  refine va_put (D := D) (ci := 7) (v := .int f2_7) (ty := .int) (C := RX7) (T := TX7) (N := 38) hx hb hts hin_RX7 tyX7 tyX7_ok nmX7 hown hK hP hD hS 0 rfl rfl 2 (by decide) hk_4 (fun _ h9 => h9) rfl (by decide +kernel) rfl rfl (Nat.le_of_ble_eq_true rfl) dX7_takeRead_30 (fun H locs hP hD hS => ?_)
  obtain ⟨zM_8, ezM_8⟩ : ∃ y : MS, y = (upd zM_6.1 2 f2_7, zM_6.2) := ⟨_, rfl⟩
  replace hF := nm_i hF ezM_8
  have hP : va_P D vwCl (wcM ci aM zM_8) H := by rw [ezM_8]; exact hP
  have hD : va_D A (wcM ci aM zM_8) := by rw [ezM_8]; exact hD
  refine lv_aload_n hx hb dX7_takeRead_33 rfl (lv_at hl 0 rfl) ?_
  replace hF := bnd hF
  obtain ⟨zM_9, hc_10, hF⟩ := hF
  refine cl_Vv0 (As := []) (rest := []) ⟨hx, hb, hml, hown, hts⟩ (cwV 0 hts gX7_takeRead_X7_findEdges rfl rfl rfl (by decide +kernel) ⟨Nat.le_of_ble_eq_true rfl, Nat.le_of_ble_eq_true rfl⟩) (c_X7_findEdges l D ci aM H.size zM_8 _ hc_10) hK hP hD hS hA 0 rfl rfl rfl rfl hl.1 (Nat.le_of_ble_eq_true rfl) dX7_takeRead_34 (Nat.zero_le _) (Nat.zero_le _) (fun H locs hP hD hS => ?_)
  have hP : va_P D vwCl (wcM ci aM zM_9) H := hP
  have hD : va_D A (wcM ci aM zM_9) := hD
  refine lv_iconst (v := 0) hx hb dX7_takeRead_37 (by decide) ?_
  refine lv_topi (fun v1_11 ev1_11 => ?_)
  replace hF := nm_i hF ev1_11
  refine lv_istore_n (lv' := [(1, .int v1_11), (0, .ref (aM 0))]) hx hb dX7_takeRead_38 rfl hl (by decide) rfl (fun ls hl => ?_)
  replace hF := bnd hF
  obtain ⟨q_59, hv_26, hF⟩ := hF
  obtain ⟨v1_16, ev1_16⟩ : ∃ y : Int32, y = q_59.1 := ⟨_, rfl⟩
  replace hF := nm_i hF ev1_16
  obtain ⟨zM_17, ezM_17⟩ : ∃ y : MS, y = q_59.2 := ⟨_, rfl⟩
  replace hF := nm_i hF ezM_17
  obtain rfl : q_59 = (v1_16, zM_17) := by rw [ev1_16, ezM_17]
  clear ev1_16
  clear ezM_17
  refine jn (P := fun H locs ls => va_P D vwCl (wcM ci aM zM_17) H ∧ va_D A (wcM ci aM zM_17) ∧ va_S A s.heap H locs ∧ lv_has ls 2 [(0, .ref (aM 0)), (1, .int v1_16)]) (pcJ := 63) (st := []) ?_ ?_
  · intro H locs ls hJ
    obtain ⟨hP, hD, hS, hl⟩ := hJ
    refine lv_iconst (v := 0) hx hb dX7_takeRead_63 (by decide) ?_
    refine lv_topi (fun v1_27 ev1_27 => ?_)
    replace hF := nm_i hF ev1_27
    refine lv_istore_n (lv' := [(1, .int v1_27), (0, .ref (aM 0))]) hx hb dX7_takeRead_64 rfl hl (by decide) rfl (fun ls hl => ?_)
    replace hF := bnd hF
    obtain ⟨q_58, hv_52, hF⟩ := hF
    obtain ⟨v1_32, ev1_32⟩ : ∃ y : Int32, y = q_58.1 := ⟨_, rfl⟩
    replace hF := nm_i hF ev1_32
    obtain ⟨zM_33, ezM_33⟩ : ∃ y : MS, y = q_58.2 := ⟨_, rfl⟩
    replace hF := nm_i hF ezM_33
    obtain rfl : q_58 = (v1_32, zM_33) := by rw [ev1_32, ezM_33]
    clear ev1_32
    clear ezM_33
    refine jn (P := fun H locs ls => va_P D vwCl (wcM ci aM zM_33) H ∧ va_D A (wcM ci aM zM_33) ∧ va_S A s.heap H locs ∧ lv_has ls 2 [(0, .ref (aM 0)), (1, .int v1_32)]) (pcJ := 126) (st := []) ?_ ?_
    · intro H locs ls hJ
      obtain ⟨hP, hD, hS, hl⟩ := hJ
      refine lv_aload_n hx hb dX7_takeRead_126 rfl (lv_at hl 0 rfl) ?_
      refine va_get (D := D) (ci := 7) (v := .ref (aM 8)) (C := RX7) (T := TX7) (N := 38) hx hb hts hin_RX7 hown hK hP 0 rfl rfl 8 (by decide) hk_9 (fun _ h9 => h9) rfl dX7_takeRead_127 ?_
      refine lv_bipush (v := 120) hx hb dX7_takeRead_130 (by decide) ?_
      refine lv_aload_n hx hb dX7_takeRead_132 rfl (lv_at hl 0 rfl) ?_
      refine va_get (D := D) (ci := 7) (v := .int (zM_33.1 18)) (C := RX7) (T := TX7) (N := 38) hx hb hts hin_RX7 hown hK hP 0 rfl rfl 18 (by decide) hk_12 (fun _ h9 => h9) rfl dX7_takeRead_133 ?_
      refine lv_topi (fun y_54 ey_54 => ?_)
      replace hF := nm_i hF ey_54
      replace hF := ast_i hF
      obtain ⟨hin_53, hF⟩ := hF
      refine va_iast (x := y_54) hx hb hK hP hD hS 5 0 rfl rfl hin_53 dX7_takeRead_136 (fun H locs hP hD hS => ?_)
      obtain ⟨zM_55, ezM_55⟩ : ∃ y : MS, y = (zM_33.1, va_up zM_33.2 8 (upd (zM_33.2 8) (Int32.toNatClampNeg 120) y_54)) := ⟨_, rfl⟩
      replace hF := nm_i hF ezM_55
      have hP : va_P D vwCl (wcM ci aM zM_55) H := by rw [ezM_55]; exact hP
      have hD : va_D A (wcM ci aM zM_55) := by rw [ezM_55]; exact hD
      refine lv_aload_n hx hb dX7_takeRead_137 rfl (lv_at hl 0 rfl) ?_
      refine va_get (D := D) (ci := 7) (v := .ref (aM 8)) (C := RX7) (T := TX7) (N := 38) hx hb hts hin_RX7 hown hK hP 0 rfl rfl 8 (by decide) hk_9 (fun _ h9 => h9) rfl dX7_takeRead_138 ?_
      refine lv_bipush (v := 121) hx hb dX7_takeRead_141 (by decide) ?_
      refine lv_iconst (v := 0) hx hb dX7_takeRead_143 (by decide) ?_
      replace hF := ast_i hF
      obtain ⟨hin_56, hF⟩ := hF
      refine va_iast (x := 0) hx hb hK hP hD hS 5 0 rfl rfl hin_56 dX7_takeRead_144 (fun H locs hP hD hS => ?_)
      obtain ⟨zM_57, ezM_57⟩ : ∃ y : MS, y = (zM_55.1, va_up zM_55.2 8 (upd (zM_55.2 8) (Int32.toNatClampNeg 121) 0)) := ⟨_, rfl⟩
      replace hF := nm_i hF ezM_57
      have hP : va_P D vwCl (wcM ci aM zM_57) H := by rw [ezM_57]; exact hP
      have hD : va_D A (wcM ci aM zM_57) := by rw [ezM_57]; exact hD
      obtain rfl := Option.some.inj hF
      exact W.vret hx hb hr (fun t ht hW => ⟨⟨(), rfl, trivial, by rw [ht]; exact hP, va_K.moved hW.alike hK, hD⟩, hS.F ht⟩) hS.2.2 dX7_takeRead_145
    · intro J_31
      clear hF
      have hF := hv_52
      refine lpW (σ := Int32 × MS) (I := fun n v H locs ls => L_X7_takeRead_65 n v.1 v.2 = some (v1_32, zM_33) ∧ va_P D vwCl (wcM ci aM v.2) H ∧ va_D A (wcM ci aM v.2) ∧ va_S A s.heap H locs ∧ lv_has ls 2 [(0, .ref (aM 0)), (1, .int v.1)]) 3000 (v1_27, zM_17) (fun _ _ _ _ h => no_none h.1) ⟨hF, hP, hD, hS, lv_sub hl [1, 0] rfl⟩ ?_
      clear hF hP hD hS hl
      intro n ih_30 vq H locs ls hI
      obtain ⟨v1_28, zM_29⟩ := vq
      obtain ⟨hF, hP, hD, hS, hl⟩ := hI
      have hP : va_P D vwCl (wcM ci aM zM_29) H := hP
      have hD : va_D A (wcM ci aM zM_29) := hD
      have hl : lv_has ls 2 [(0, .ref (aM 0)), (1, .int v1_28)] := hl
      replace hF : L_X7_takeRead_65 (n + 1) v1_28 zM_29 = some (v1_32, zM_33) := hF
      rw [L_X7_takeRead_65] at hF
      refine lv_iload_n hx hb dX7_takeRead_65 rfl (lv_at hl 1 rfl) ?_
      refine lv_bipush (v := 40) hx hb dX7_takeRead_66 (by decide) ?_
      refine lv_icmp_ge (tgt := 126) hx hb dX7_takeRead_68 (by decide) (fun c_34 => ?_) (fun c_34 => ?_)
      · replace hF := if_i c_34 hF
        obtain ⟨g_35, g_36⟩ : v1_28 = v1_32 ∧ zM_29 = zM_33 := by have h9 := Option.some.inj hF; simpa only [Prod.mk.injEq] using h9
        subst g_35
        subst g_36
        exact J_31 H locs ls ⟨hP, hD, hS, lv_sub hl [0, 1] rfl⟩
      · replace hF := if_o c_34 hF
        refine lv_aload_n hx hb dX7_takeRead_71 rfl (lv_at hl 0 rfl) ?_
        refine va_get (D := D) (ci := 7) (v := .ref (aM 7)) (C := RX7) (T := TX7) (N := 38) hx hb hts hin_RX7 hown hK hP 0 rfl rfl 7 (by decide) hk_7 (fun _ h9 => h9) rfl dX7_takeRead_72 ?_
        refine lv_iload_n hx hb dX7_takeRead_75 rfl (lv_at hl 1 rfl) ?_
        refine lv_aload_n hx hb dX7_takeRead_76 rfl (lv_at hl 0 rfl) ?_
        refine va_get (D := D) (ci := 7) (v := .ref (aM 19)) (C := RX7) (T := TX7) (N := 38) hx hb hts hin_RX7 hown hK hP 0 rfl rfl 19 (by decide) hk_8 (fun _ h9 => h9) rfl dX7_takeRead_77 ?_
        refine lv_iload_n hx hb dX7_takeRead_80 rfl (lv_at hl 1 rfl) ?_
        replace hF := ald_i hF
        obtain ⟨hin_37, hF⟩ := hF
        refine va_zald hx hb hK hP 9 2 rfl rfl hin_37 dX7_takeRead_81 ?_
        refine lv_topi (fun x_38 ex_38 => ?_)
        replace hF := nm_i hF ex_38
        replace hF := ast_i hF
        obtain ⟨hin_39, hF⟩ := hF
        refine va_zast (x := x_38) hx hb hK hP hD hS 4 2 rfl rfl hin_39 dX7_takeRead_82 (fun H locs hP hD hS => ?_)
        obtain ⟨zM_40, ezM_40⟩ : ∃ y : MS, y = (zM_29.1, va_up zM_29.2 7 (upd (zM_29.2 7) (Int32.toNatClampNeg v1_28) (vp_nar .boolean x_38))) := ⟨_, rfl⟩
        replace hF := nm_i hF ezM_40
        have hP : va_P D vwCl (wcM ci aM zM_40) H := by rw [ezM_40]; exact hP
        have hD : va_D A (wcM ci aM zM_40) := by rw [ezM_40]; exact hD
        refine lv_aload_n hx hb dX7_takeRead_83 rfl (lv_at hl 0 rfl) ?_
        refine va_get (D := D) (ci := 7) (v := .ref (aM 8)) (C := RX7) (T := TX7) (N := 38) hx hb hts hin_RX7 hown hK hP 0 rfl rfl 8 (by decide) hk_9 (fun _ h9 => h9) rfl dX7_takeRead_84 ?_
        refine lv_iload_n hx hb dX7_takeRead_87 rfl (lv_at hl 1 rfl) ?_
        refine lv_aload_n hx hb dX7_takeRead_88 rfl (lv_at hl 0 rfl) ?_
        refine va_get (D := D) (ci := 7) (v := .ref (aM 20)) (C := RX7) (T := TX7) (N := 38) hx hb hts hin_RX7 hown hK hP 0 rfl rfl 20 (by decide) hk_10 (fun _ h9 => h9) rfl dX7_takeRead_89 ?_
        refine lv_iload_n hx hb dX7_takeRead_92 rfl (lv_at hl 1 rfl) ?_
        replace hF := ald_i hF
        obtain ⟨hin_41, hF⟩ := hF
        refine va_iald hx hb hK hP 10 0 rfl rfl hin_41 dX7_takeRead_93 ?_
        refine lv_topi (fun x_42 ex_42 => ?_)
        replace hF := nm_i hF ex_42
        replace hF := ast_i hF
        obtain ⟨hin_43, hF⟩ := hF
        refine va_iast (x := x_42) hx hb hK hP hD hS 5 0 rfl rfl hin_43 dX7_takeRead_94 (fun H locs hP hD hS => ?_)
        obtain ⟨zM_44, ezM_44⟩ : ∃ y : MS, y = (zM_40.1, va_up zM_40.2 8 (upd (zM_40.2 8) (Int32.toNatClampNeg v1_28) x_42)) := ⟨_, rfl⟩
        replace hF := nm_i hF ezM_44
        have hP : va_P D vwCl (wcM ci aM zM_44) H := by rw [ezM_44]; exact hP
        have hD : va_D A (wcM ci aM zM_44) := by rw [ezM_44]; exact hD
        refine lv_aload_n hx hb dX7_takeRead_95 rfl (lv_at hl 0 rfl) ?_
        refine va_get (D := D) (ci := 7) (v := .ref (aM 8)) (C := RX7) (T := TX7) (N := 38) hx hb hts hin_RX7 hown hK hP 0 rfl rfl 8 (by decide) hk_9 (fun _ h9 => h9) rfl dX7_takeRead_96 ?_
        refine lv_bipush (v := 40) hx hb dX7_takeRead_99 (by decide) ?_
        refine lv_iload_n hx hb dX7_takeRead_101 rfl (lv_at hl 1 rfl) ?_
        refine lv_iadd hx hb dX7_takeRead_102 ?_
        refine lv_aload_n hx hb dX7_takeRead_103 rfl (lv_at hl 0 rfl) ?_
        refine va_get (D := D) (ci := 7) (v := .ref (aM 21)) (C := RX7) (T := TX7) (N := 38) hx hb hts hin_RX7 hown hK hP 0 rfl rfl 21 (by decide) hk_11 (fun _ h9 => h9) rfl dX7_takeRead_104 ?_
        refine lv_iload_n hx hb dX7_takeRead_107 rfl (lv_at hl 1 rfl) ?_
        replace hF := ald_i hF
        obtain ⟨hin_45, hF⟩ := hF
        refine va_iald hx hb hK hP 11 0 rfl rfl hin_45 dX7_takeRead_108 ?_
        refine lv_topi (fun x_46 ex_46 => ?_)
        replace hF := nm_i hF ex_46
        replace hF := ast_i hF
        obtain ⟨hin_47, hF⟩ := hF
        refine va_iast (x := x_46) hx hb hK hP hD hS 5 0 rfl rfl hin_47 dX7_takeRead_109 (fun H locs hP hD hS => ?_)
        obtain ⟨zM_48, ezM_48⟩ : ∃ y : MS, y = (zM_44.1, va_up zM_44.2 8 (upd (zM_44.2 8) (Int32.toNatClampNeg (40 + v1_28)) x_46)) := ⟨_, rfl⟩
        replace hF := nm_i hF ezM_48
        have hP : va_P D vwCl (wcM ci aM zM_48) H := by rw [ezM_48]; exact hP
        have hD : va_D A (wcM ci aM zM_48) := by rw [ezM_48]; exact hD
        refine lv_aload_n hx hb dX7_takeRead_110 rfl (lv_at hl 0 rfl) ?_
        refine va_get (D := D) (ci := 7) (v := .ref (aM 8)) (C := RX7) (T := TX7) (N := 38) hx hb hts hin_RX7 hown hK hP 0 rfl rfl 8 (by decide) hk_9 (fun _ h9 => h9) rfl dX7_takeRead_111 ?_
        refine lv_bipush (v := 80) hx hb dX7_takeRead_114 (by decide) ?_
        refine lv_iload_n hx hb dX7_takeRead_116 rfl (lv_at hl 1 rfl) ?_
        refine lv_iadd hx hb dX7_takeRead_117 ?_
        refine lv_iconst (v := 0) hx hb dX7_takeRead_118 (by decide) ?_
        replace hF := ast_i hF
        obtain ⟨hin_49, hF⟩ := hF
        refine va_iast (x := 0) hx hb hK hP hD hS 5 0 rfl rfl hin_49 dX7_takeRead_119 (fun H locs hP hD hS => ?_)
        obtain ⟨zM_50, ezM_50⟩ : ∃ y : MS, y = (zM_48.1, va_up zM_48.2 8 (upd (zM_48.2 8) (Int32.toNatClampNeg (80 + v1_28)) 0)) := ⟨_, rfl⟩
        replace hF := nm_i hF ezM_50
        have hP : va_P D vwCl (wcM ci aM zM_50) H := by rw [ezM_50]; exact hP
        have hD : va_D A (wcM ci aM zM_50) := by rw [ezM_50]; exact hD
        obtain ⟨v1_51, ev1_51⟩ : ∃ y : Int32, y = v1_28 + 1 := ⟨_, rfl⟩
        replace hF := nm_i hF ev1_51
        refine lv_iinc (v := v1_51) (lv' := [(1, .int v1_51), (0, .ref (aM 0))]) hx hb dX7_takeRead_120 hl (k := 1) rfl (by rw [ev1_51]; rfl) (by decide) rfl (fun ls hl => ?_)
        refine lv_goto (tgt := 65) hx hb dX7_takeRead_123 (by decide) ?_
        exact ih_30 (v1_51, zM_50) H locs ls ⟨hF, hP, hD, hS, lv_sub hl [1, 0] rfl⟩
  · intro J_15
    clear hF
    have hF := hv_26
    refine lpW (σ := Int32 × MS) (I := fun n v H locs ls => L_X7_takeRead_39 n v.1 v.2 = some (v1_16, zM_17) ∧ va_P D vwCl (wcM ci aM v.2) H ∧ va_D A (wcM ci aM v.2) ∧ va_S A s.heap H locs ∧ lv_has ls 2 [(0, .ref (aM 0)), (1, .int v.1)]) 3000 (v1_11, zM_9) (fun _ _ _ _ h => no_none h.1) ⟨hF, hP, hD, hS, lv_sub hl [1, 0] rfl⟩ ?_
    clear hF hP hD hS hl
    intro n ih_14 vq H locs ls hI
    obtain ⟨v1_12, zM_13⟩ := vq
    obtain ⟨hF, hP, hD, hS, hl⟩ := hI
    have hP : va_P D vwCl (wcM ci aM zM_13) H := hP
    have hD : va_D A (wcM ci aM zM_13) := hD
    have hl : lv_has ls 2 [(0, .ref (aM 0)), (1, .int v1_12)] := hl
    replace hF : L_X7_takeRead_39 (n + 1) v1_12 zM_13 = some (v1_16, zM_17) := hF
    rw [L_X7_takeRead_39] at hF
    refine lv_iload_n hx hb dX7_takeRead_39 rfl (lv_at hl 1 rfl) ?_
    refine lv_bipush (v := 25) hx hb dX7_takeRead_40 (by decide) ?_
    refine lv_icmp_ge (tgt := 63) hx hb dX7_takeRead_42 (by decide) (fun c_18 => ?_) (fun c_18 => ?_)
    · replace hF := if_i c_18 hF
      obtain ⟨g_19, g_20⟩ : v1_12 = v1_16 ∧ zM_13 = zM_17 := by have h9 := Option.some.inj hF; simpa only [Prod.mk.injEq] using h9
      subst g_19
      subst g_20
      exact J_15 H locs ls ⟨hP, hD, hS, lv_sub hl [0, 1] rfl⟩
    · replace hF := if_o c_18 hF
      refine lv_aload_n hx hb dX7_takeRead_45 rfl (lv_at hl 0 rfl) ?_
      refine va_get (D := D) (ci := 7) (v := .ref (aM 4)) (C := RX7) (T := TX7) (N := 38) hx hb hts hin_RX7 hown hK hP 0 rfl rfl 4 (by decide) hk_5 (fun _ h9 => h9) rfl dX7_takeRead_46 ?_
      refine lv_iload_n hx hb dX7_takeRead_49 rfl (lv_at hl 1 rfl) ?_
      refine lv_aload_n hx hb dX7_takeRead_50 rfl (lv_at hl 0 rfl) ?_
      refine va_get (D := D) (ci := 7) (v := .ref (aM 17)) (C := RX7) (T := TX7) (N := 38) hx hb hts hin_RX7 hown hK hP 0 rfl rfl 17 (by decide) hk_6 (fun _ h9 => h9) rfl dX7_takeRead_51 ?_
      refine lv_iload_n hx hb dX7_takeRead_54 rfl (lv_at hl 1 rfl) ?_
      replace hF := ald_i hF
      obtain ⟨hin_21, hF⟩ := hF
      refine va_iald hx hb hK hP 8 0 rfl rfl hin_21 dX7_takeRead_55 ?_
      refine lv_topi (fun x_22 ex_22 => ?_)
      replace hF := nm_i hF ex_22
      replace hF := ast_i hF
      obtain ⟨hin_23, hF⟩ := hF
      refine va_iast (x := x_22) hx hb hK hP hD hS 1 0 rfl rfl hin_23 dX7_takeRead_56 (fun H locs hP hD hS => ?_)
      obtain ⟨zM_24, ezM_24⟩ : ∃ y : MS, y = (zM_13.1, va_up zM_13.2 4 (upd (zM_13.2 4) (Int32.toNatClampNeg v1_12) x_22)) := ⟨_, rfl⟩
      replace hF := nm_i hF ezM_24
      have hP : va_P D vwCl (wcM ci aM zM_24) H := by rw [ezM_24]; exact hP
      have hD : va_D A (wcM ci aM zM_24) := by rw [ezM_24]; exact hD
      obtain ⟨v1_25, ev1_25⟩ : ∃ y : Int32, y = v1_12 + 1 := ⟨_, rfl⟩
      replace hF := nm_i hF ev1_25
      refine lv_iinc (v := v1_25) (lv' := [(1, .int v1_25), (0, .ref (aM 0))]) hx hb dX7_takeRead_57 hl (k := 1) rfl (by rw [ev1_25]; rfl) (by decide) rfl (fun ls hl => ?_)
      refine lv_goto (tgt := 39) hx hb dX7_takeRead_60 (by decide) ?_
      exact ih_14 (v1_25, zM_24) H locs ls ⟨hF, hP, hD, hS, lv_sub hl [1, 0] rfl⟩
noncomputable def L_X7_parish_12 : Nat → Int32 → MS → Option (Int32 × MS)
  | 0, _, _ => none
  | n + 1, v1_4, zM_5 => if (3 : Int32) ≤ v1_4 then (some (v1_4, zM_5)) else (ast 3 v1_4 <| nm ((zM_5.1, va_up zM_5.2 16 (upd (zM_5.2 16) (Int32.toNatClampNeg v1_4) 0)) : MS) fun zM_14 => nm (v1_4 + 1) fun v1_15 => L_X7_parish_12 n v1_15 zM_14)
noncomputable def L_X7_parish_37 : Nat → Int32 → MS → Option (Int32 × MS)
  | 0, _, _ => none
  | n + 1, v1_19, zM_20 => if (40 : Int32) ≤ v1_19 then (some (v1_19, zM_20)) else (ast 40 v1_19 <| nm ((zM_20.1, va_up zM_20.2 19 (upd (zM_20.2 19) (Int32.toNatClampNeg v1_19) (vp_nar .boolean 0))) : MS) fun zM_29 => ast 40 v1_19 <| nm ((zM_29.1, va_up zM_29.2 20 (upd (zM_29.2 20) (Int32.toNatClampNeg v1_19) (-1))) : MS) fun zM_31 => ast 40 v1_19 <| nm ((zM_31.1, va_up zM_31.2 21 (upd (zM_31.2 21) (Int32.toNatClampNeg v1_19) 0)) : MS) fun zM_33 => nm (v1_19 + 1) fun v1_34 => L_X7_parish_37 n v1_34 zM_33)
noncomputable def L_X7_parish_72 : Nat → Int32 → MS → Option (Int32 × MS)
  | 0, _, _ => none
  | n + 1, v1_37, zM_38 => if v1_37 = 0 then ((f_X7_here zM_38).bind fun q_49 => nm q_49.1 fun r_46 => nm q_49.2 fun zM_47 => if r_46 < 0 then (some (v1_37, zM_47)) else ((f_X7_takeClause zM_47).bind fun q_56 => nm q_56.1 fun r_53 => nm q_56.2 fun zM_54 => L_X7_parish_72 n r_53 zM_54)) else (some (v1_37, zM_38))
noncomputable def f_X7_parish (zM : MS) : Option (Int32 × MS) := nm ((upd zM.1 12 (-1), zM.2) : MS) fun zM_1 => nm ((upd zM_1.1 13 0, zM_1.2) : MS) fun zM_2 => nm (0 : Int32) fun v1_3 => (L_X7_parish_12 3000 v1_3 zM_2).bind fun q_71 => nm q_71.1 fun v1_8 => nm q_71.2 fun zM_9 => nm ((upd zM_9.1 18 0, zM_9.2) : MS) fun zM_17 => nm (0 : Int32) fun v1_18 => (L_X7_parish_37 3000 v1_18 zM_17).bind fun q_70 => nm q_70.1 fun v1_23 => nm q_70.2 fun zM_24 => nm (0 : Int32) fun v1_36 => (L_X7_parish_72 3000 v1_36 zM_24).bind fun q_69 => nm q_69.1 fun v1_41 => nm q_69.2 fun zM_42 => nm ((upd zM_42.1 11 0, zM_42.2) : MS) fun zM_58 => if v1_41 ≤ 0 then ((f_X7_takeRead zM_58).bind fun zM_60 => nm ((upd zM_60.1 29 0, zM_60.2) : MS) fun zM_62 => nm ((upd zM_62.1 33 0, zM_62.2) : MS) fun zM_63 => nm ((upd zM_63.1 22 0, zM_63.2) : MS) fun zM_64 => ast 2 (0 : Int32) <| nm ((zM_64.1, va_up zM_64.2 37 (upd (zM_64.2 37) (Int32.toNatClampNeg 0) (vp_nar .boolean 0))) : MS) fun zM_66 => ast 2 (1 : Int32) <| nm ((zM_66.1, va_up zM_66.2 37 (upd (zM_66.2 37) (Int32.toNatClampNeg 1) (vp_nar .boolean 0))) : MS) fun zM_68 => some ((zM_68.1 2), zM_68)) else (some (((-10) - v1_41), zM_58))
set_option maxHeartbeats 4000000 in
set_option maxRecDepth 100000 in
theorem c_X7_parish (l : Launch) (D : va_G) (ci : Nat → ClassId) (aM : Nat → Nat) (sz : Nat) (zM : MS) (res : Int32 × MS) (hF : f_X7_parish zM = some res) : CtI l yX7_parish wsX7_parish { frames := 5, cells := 0, slots := 0, locals := 118 } [.ref (aM 0)] D ci (wcM ci aM zM) sz res.1 (wcM ci aM res.2) := by
  refine Met.ofW (cc := cX7_parish) (maxL := 2) (ret := (some .int)) (by decide) rfl ?_
  intro p e s m args below meth c s₁ B hml hv
  obtain ⟨rfl, hsz, hP, hK, hD0⟩ := hv
  have hx := B.exec
  have hb := B.bytes
  have hr := B.returns
  have hts := atoms_spec (ws := wsX7_parish) B.pre
  have hown : s.vm.findClass RX7 = some m.cls := findClass_of_methodNamed B.named
  have hlocks := B.notSynchronized
  subst hsz
  have hD := hD0.self (sz := s.heap.size)
  generalize hAe : va_A (wcM ci aM zM) s.heap.size = A at hD ⊢
  have hA : ∀ q : Nat, s.heap.size ≤ q → A q := fun q h => by rw [← hAe]; exact Or.inr h
  clear hD0 hAe
  have hl := lv_entry ([.ref (aM 0)]) (n := 2) (Nat.le_of_ble_eq_true rfl)
  rw [lg_entry_eq]
  generalize (lg_sl ([.ref (aM 0)]) ++ List.replicate (2 - (lg_sl ([.ref (aM 0)])).length) Slot.unset).toArray = ls at hl ⊢
  have hl : lv_has ls 2 [(0, .ref (aM 0))] := hl
  have hP : va_P D vwCl (wcM ci aM zM) s.heap := hP
  generalize hH0 : s.heap = H at hP ⊢
  have hS : va_S A s.heap H [] := by rw [← hH0]; exact va_S.rf
  clear hH0
  generalize ([] : List Loc) = locs at hS ⊢
  have hk_0 := hts (.fieldLink RX7 29 "HedgeWarModel" "faultPlace" "I") (by decide +kernel)
  have hin_RX7 : ∀ w ∈ wsX70, w ∈ wsX7_parish := by decide +kernel
  have hk_2 := hts (.fieldLink RX7 101 "HedgeWarModel" "at0" "I") (by decide +kernel)
  have hk_3 := hts (.fieldLink RX7 33 "HedgeWarModel" "readGround" "[I") (by decide +kernel)
  have hk_4 := hts (.fieldLink RX7 132 "HedgeWarModel" "readOwn" "I") (by decide +kernel)
  have hk_5 := hts (.fieldLink RX7 39 "HedgeWarModel" "readPath" "[Z") (by decide +kernel)
  have hk_6 := hts (.fieldLink RX7 42 "HedgeWarModel" "readHedge" "[I") (by decide +kernel)
  have hk_7 := hts (.fieldLink RX7 45 "HedgeWarModel" "readAge" "[I") (by decide +kernel)
  have hk_8 := hts (.fieldLink RX7 97 "HedgeWarModel" "texted" "I") (by decide +kernel)
  have hk_9 := hts (.fieldLink RX7 175 "HedgeWarModel" "roots" "I") (by decide +kernel)
  have hk_10 := hts (.fieldLink RX7 178 "HedgeWarModel" "booked" "I") (by decide +kernel)
  have hk_11 := hts (.fieldLink RX7 181 "HedgeWarModel" "undos" "I") (by decide +kernel)
  have hk_12 := hts (.fieldLink RX7 81 "HedgeWarModel" "isKept" "[Z") (by decide +kernel)
  have hk_13 := hts (.fieldLink RX7 84 "HedgeWarModel" "fields" "I") (by decide +kernel)
  unfold f_X7_parish at hF
  refine lv_aload_n hx hb dX7_parish_0 rfl (lv_at hl 0 rfl) ?_
  refine lv_iconst (v := (-1)) hx hb dX7_parish_1 (by decide) ?_
  refine va_put (D := D) (ci := 7) (v := .int (-1)) (ty := .int) (C := RX7) (T := TX7) (N := 38) hx hb hts hin_RX7 tyX7 tyX7_ok nmX7 hown hK hP hD hS 0 rfl rfl 12 (by decide) hk_0 (fun _ h9 => h9) rfl (by decide +kernel) rfl rfl (Nat.le_of_ble_eq_true rfl) dX7_parish_2 (fun H locs hP hD hS => ?_)
  obtain ⟨zM_1, ezM_1⟩ : ∃ y : MS, y = (upd zM.1 12 (-1), zM.2) := ⟨_, rfl⟩
  replace hF := nm_i hF ezM_1
  have hP : va_P D vwCl (wcM ci aM zM_1) H := by rw [ezM_1]; exact hP
  have hD : va_D A (wcM ci aM zM_1) := by rw [ezM_1]; exact hD
  refine lv_aload_n hx hb dX7_parish_5 rfl (lv_at hl 0 rfl) ?_
  refine lv_iconst (v := 0) hx hb dX7_parish_6 (by decide) ?_
  refine va_put (D := D) (ci := 7) (v := .int 0) (ty := .int) (C := RX7) (T := TX7) (N := 38) hx hb hts hin_RX7 tyX7 tyX7_ok nmX7 hown hK hP hD hS 0 rfl rfl 13 (by decide) hk_2 (fun _ h9 => h9) rfl (by decide +kernel) rfl rfl (Nat.le_of_ble_eq_true rfl) dX7_parish_7 (fun H locs hP hD hS => ?_)
  obtain ⟨zM_2, ezM_2⟩ : ∃ y : MS, y = (upd zM_1.1 13 0, zM_1.2) := ⟨_, rfl⟩
  replace hF := nm_i hF ezM_2
  have hP : va_P D vwCl (wcM ci aM zM_2) H := by rw [ezM_2]; exact hP
  have hD : va_D A (wcM ci aM zM_2) := by rw [ezM_2]; exact hD
  refine lv_iconst (v := 0) hx hb dX7_parish_10 (by decide) ?_
  refine lv_topi (fun v1_3 ev1_3 => ?_)
  replace hF := nm_i hF ev1_3
  refine lv_istore_n (lv' := [(1, .int v1_3), (0, .ref (aM 0))]) hx hb dX7_parish_11 rfl hl (by decide) rfl (fun ls hl => ?_)
  replace hF := bnd hF
  obtain ⟨q_71, hv_16, hF⟩ := hF
  obtain ⟨v1_8, ev1_8⟩ : ∃ y : Int32, y = q_71.1 := ⟨_, rfl⟩
  replace hF := nm_i hF ev1_8
  obtain ⟨zM_9, ezM_9⟩ : ∃ y : MS, y = q_71.2 := ⟨_, rfl⟩
  replace hF := nm_i hF ezM_9
  obtain rfl : q_71 = (v1_8, zM_9) := by rw [ev1_8, ezM_9]
  clear ev1_8
  clear ezM_9
  refine jn (P := fun H locs ls => va_P D vwCl (wcM ci aM zM_9) H ∧ va_D A (wcM ci aM zM_9) ∧ va_S A s.heap H locs ∧ lv_has ls 2 [(0, .ref (aM 0)), (1, .int v1_8)]) (pcJ := 30) (st := []) ?_ ?_
  · intro H locs ls hJ
    obtain ⟨hP, hD, hS, hl⟩ := hJ
    refine lv_aload_n hx hb dX7_parish_30 rfl (lv_at hl 0 rfl) ?_
    refine lv_iconst (v := 0) hx hb dX7_parish_31 (by decide) ?_
    refine va_put (D := D) (ci := 7) (v := .int 0) (ty := .int) (C := RX7) (T := TX7) (N := 38) hx hb hts hin_RX7 tyX7 tyX7_ok nmX7 hown hK hP hD hS 0 rfl rfl 18 (by decide) hk_4 (fun _ h9 => h9) rfl (by decide +kernel) rfl rfl (Nat.le_of_ble_eq_true rfl) dX7_parish_32 (fun H locs hP hD hS => ?_)
    obtain ⟨zM_17, ezM_17⟩ : ∃ y : MS, y = (upd zM_9.1 18 0, zM_9.2) := ⟨_, rfl⟩
    replace hF := nm_i hF ezM_17
    have hP : va_P D vwCl (wcM ci aM zM_17) H := by rw [ezM_17]; exact hP
    have hD : va_D A (wcM ci aM zM_17) := by rw [ezM_17]; exact hD
    refine lv_iconst (v := 0) hx hb dX7_parish_35 (by decide) ?_
    refine lv_topi (fun v1_18 ev1_18 => ?_)
    replace hF := nm_i hF ev1_18
    refine lv_istore_n (lv' := [(1, .int v1_18), (0, .ref (aM 0))]) hx hb dX7_parish_36 rfl hl (by decide) rfl (fun ls hl => ?_)
    replace hF := bnd hF
    obtain ⟨q_70, hv_35, hF⟩ := hF
    obtain ⟨v1_23, ev1_23⟩ : ∃ y : Int32, y = q_70.1 := ⟨_, rfl⟩
    replace hF := nm_i hF ev1_23
    obtain ⟨zM_24, ezM_24⟩ : ∃ y : MS, y = q_70.2 := ⟨_, rfl⟩
    replace hF := nm_i hF ezM_24
    obtain rfl : q_70 = (v1_23, zM_24) := by rw [ev1_23, ezM_24]
    clear ev1_23
    clear ezM_24
    refine jn (P := fun H locs ls => va_P D vwCl (wcM ci aM zM_24) H ∧ va_D A (wcM ci aM zM_24) ∧ va_S A s.heap H locs ∧ lv_has ls 2 [(0, .ref (aM 0)), (1, .int v1_23)]) (pcJ := 70) (st := []) ?_ ?_
    · intro H locs ls hJ
      obtain ⟨hP, hD, hS, hl⟩ := hJ
      refine lv_iconst (v := 0) hx hb dX7_parish_70 (by decide) ?_
      refine lv_topi (fun v1_36 ev1_36 => ?_)
      replace hF := nm_i hF ev1_36
      refine lv_istore_n (lv' := [(1, .int v1_36), (0, .ref (aM 0))]) hx hb dX7_parish_71 rfl hl (by decide) rfl (fun ls hl => ?_)
      replace hF := bnd hF
      obtain ⟨q_69, hv_57, hF⟩ := hF
      obtain ⟨v1_41, ev1_41⟩ : ∃ y : Int32, y = q_69.1 := ⟨_, rfl⟩
      replace hF := nm_i hF ev1_41
      obtain ⟨zM_42, ezM_42⟩ : ∃ y : MS, y = q_69.2 := ⟨_, rfl⟩
      replace hF := nm_i hF ezM_42
      obtain rfl : q_69 = (v1_41, zM_42) := by rw [ev1_41, ezM_42]
      clear ev1_41
      clear ezM_42
      refine jn (P := fun H locs ls => va_P D vwCl (wcM ci aM zM_42) H ∧ va_D A (wcM ci aM zM_42) ∧ va_S A s.heap H locs ∧ lv_has ls 2 [(0, .ref (aM 0)), (1, .int v1_41)]) (pcJ := 91) (st := []) ?_ ?_
      · intro H locs ls hJ
        obtain ⟨hP, hD, hS, hl⟩ := hJ
        refine lv_aload_n hx hb dX7_parish_91 rfl (lv_at hl 0 rfl) ?_
        refine lv_iconst (v := 0) hx hb dX7_parish_92 (by decide) ?_
        refine va_put (D := D) (ci := 7) (v := .int 0) (ty := .int) (C := RX7) (T := TX7) (N := 38) hx hb hts hin_RX7 tyX7 tyX7_ok nmX7 hown hK hP hD hS 0 rfl rfl 11 (by decide) hk_8 (fun _ h9 => h9) rfl (by decide +kernel) rfl rfl (Nat.le_of_ble_eq_true rfl) dX7_parish_93 (fun H locs hP hD hS => ?_)
        obtain ⟨zM_58, ezM_58⟩ : ∃ y : MS, y = (upd zM_42.1 11 0, zM_42.2) := ⟨_, rfl⟩
        replace hF := nm_i hF ezM_58
        have hP : va_P D vwCl (wcM ci aM zM_58) H := by rw [ezM_58]; exact hP
        have hD : va_D A (wcM ci aM zM_58) := by rw [ezM_58]; exact hD
        refine lv_iload_n hx hb dX7_parish_96 rfl (lv_at hl 1 rfl) ?_
        refine lv_if_le (tgt := 105) hx hb dX7_parish_97 (by decide) (fun c_59 => ?_) (fun c_59 => ?_)
        · replace hF := if_i c_59 hF
          refine lv_aload_n hx hb dX7_parish_105 rfl (lv_at hl 0 rfl) ?_
          replace hF := bnd hF
          obtain ⟨zM_60, hc_61, hF⟩ := hF
          refine cl_Vv0 (As := []) (rest := []) ⟨hx, hb, hml, hown, hts⟩ (cwV 0 hts gX7_parish_X7_takeRead rfl rfl rfl (by decide +kernel) ⟨Nat.le_of_ble_eq_true rfl, Nat.le_of_ble_eq_true rfl⟩) (c_X7_takeRead l D ci aM H.size zM_58 _ hc_61) hK hP hD hS hA 0 rfl rfl rfl rfl hl.1 (Nat.le_of_ble_eq_true rfl) dX7_parish_106 (Nat.zero_le _) (Nat.zero_le _) (fun H locs hP hD hS => ?_)
          have hP : va_P D vwCl (wcM ci aM zM_60) H := hP
          have hD : va_D A (wcM ci aM zM_60) := hD
          refine lv_aload_n hx hb dX7_parish_109 rfl (lv_at hl 0 rfl) ?_
          refine lv_iconst (v := 0) hx hb dX7_parish_110 (by decide) ?_
          refine va_put (D := D) (ci := 7) (v := .int 0) (ty := .int) (C := RX7) (T := TX7) (N := 38) hx hb hts hin_RX7 tyX7 tyX7_ok nmX7 hown hK hP hD hS 0 rfl rfl 29 (by decide) hk_9 (fun _ h9 => h9) rfl (by decide +kernel) rfl rfl (Nat.le_of_ble_eq_true rfl) dX7_parish_111 (fun H locs hP hD hS => ?_)
          obtain ⟨zM_62, ezM_62⟩ : ∃ y : MS, y = (upd zM_60.1 29 0, zM_60.2) := ⟨_, rfl⟩
          replace hF := nm_i hF ezM_62
          have hP : va_P D vwCl (wcM ci aM zM_62) H := by rw [ezM_62]; exact hP
          have hD : va_D A (wcM ci aM zM_62) := by rw [ezM_62]; exact hD
          refine lv_aload_n hx hb dX7_parish_114 rfl (lv_at hl 0 rfl) ?_
          refine lv_iconst (v := 0) hx hb dX7_parish_115 (by decide) ?_
          refine va_put (D := D) (ci := 7) (v := .int 0) (ty := .int) (C := RX7) (T := TX7) (N := 38) hx hb hts hin_RX7 tyX7 tyX7_ok nmX7 hown hK hP hD hS 0 rfl rfl 33 (by decide) hk_10 (fun _ h9 => h9) rfl (by decide +kernel) rfl rfl (Nat.le_of_ble_eq_true rfl) dX7_parish_116 (fun H locs hP hD hS => ?_)
          obtain ⟨zM_63, ezM_63⟩ : ∃ y : MS, y = (upd zM_62.1 33 0, zM_62.2) := ⟨_, rfl⟩
          replace hF := nm_i hF ezM_63
          have hP : va_P D vwCl (wcM ci aM zM_63) H := by rw [ezM_63]; exact hP
          have hD : va_D A (wcM ci aM zM_63) := by rw [ezM_63]; exact hD
          refine lv_aload_n hx hb dX7_parish_119 rfl (lv_at hl 0 rfl) ?_
          refine lv_iconst (v := 0) hx hb dX7_parish_120 (by decide) ?_
          refine va_put (D := D) (ci := 7) (v := .int 0) (ty := .int) (C := RX7) (T := TX7) (N := 38) hx hb hts hin_RX7 tyX7 tyX7_ok nmX7 hown hK hP hD hS 0 rfl rfl 22 (by decide) hk_11 (fun _ h9 => h9) rfl (by decide +kernel) rfl rfl (Nat.le_of_ble_eq_true rfl) dX7_parish_121 (fun H locs hP hD hS => ?_)
          obtain ⟨zM_64, ezM_64⟩ : ∃ y : MS, y = (upd zM_63.1 22 0, zM_63.2) := ⟨_, rfl⟩
          replace hF := nm_i hF ezM_64
          have hP : va_P D vwCl (wcM ci aM zM_64) H := by rw [ezM_64]; exact hP
          have hD : va_D A (wcM ci aM zM_64) := by rw [ezM_64]; exact hD
          refine lv_aload_n hx hb dX7_parish_124 rfl (lv_at hl 0 rfl) ?_
          refine va_get (D := D) (ci := 7) (v := .ref (aM 37)) (C := RX7) (T := TX7) (N := 38) hx hb hts hin_RX7 hown hK hP 0 rfl rfl 37 (by decide) hk_12 (fun _ h9 => h9) rfl dX7_parish_125 ?_
          refine lv_iconst (v := 0) hx hb dX7_parish_128 (by decide) ?_
          refine lv_iconst (v := 0) hx hb dX7_parish_129 (by decide) ?_
          replace hF := ast_i hF
          obtain ⟨hin_65, hF⟩ := hF
          refine va_zast (x := 0) hx hb hK hP hD hS 23 2 rfl rfl hin_65 dX7_parish_130 (fun H locs hP hD hS => ?_)
          obtain ⟨zM_66, ezM_66⟩ : ∃ y : MS, y = (zM_64.1, va_up zM_64.2 37 (upd (zM_64.2 37) (Int32.toNatClampNeg 0) (vp_nar .boolean 0))) := ⟨_, rfl⟩
          replace hF := nm_i hF ezM_66
          have hP : va_P D vwCl (wcM ci aM zM_66) H := by rw [ezM_66]; exact hP
          have hD : va_D A (wcM ci aM zM_66) := by rw [ezM_66]; exact hD
          refine lv_aload_n hx hb dX7_parish_131 rfl (lv_at hl 0 rfl) ?_
          refine va_get (D := D) (ci := 7) (v := .ref (aM 37)) (C := RX7) (T := TX7) (N := 38) hx hb hts hin_RX7 hown hK hP 0 rfl rfl 37 (by decide) hk_12 (fun _ h9 => h9) rfl dX7_parish_132 ?_
          refine lv_iconst (v := 1) hx hb dX7_parish_135 (by decide) ?_
          refine lv_iconst (v := 0) hx hb dX7_parish_136 (by decide) ?_
          replace hF := ast_i hF
          obtain ⟨hin_67, hF⟩ := hF
          refine va_zast (x := 0) hx hb hK hP hD hS 23 2 rfl rfl hin_67 dX7_parish_137 (fun H locs hP hD hS => ?_)
          obtain ⟨zM_68, ezM_68⟩ : ∃ y : MS, y = (zM_66.1, va_up zM_66.2 37 (upd (zM_66.2 37) (Int32.toNatClampNeg 1) (vp_nar .boolean 0))) := ⟨_, rfl⟩
          replace hF := nm_i hF ezM_68
          have hP : va_P D vwCl (wcM ci aM zM_68) H := by rw [ezM_68]; exact hP
          have hD : va_D A (wcM ci aM zM_68) := by rw [ezM_68]; exact hD
          refine lv_aload_n hx hb dX7_parish_138 rfl (lv_at hl 0 rfl) ?_
          refine va_get (D := D) (ci := 7) (v := .int (zM_68.1 2)) (C := RX7) (T := TX7) (N := 38) hx hb hts hin_RX7 hown hK hP 0 rfl rfl 2 (by decide) hk_13 (fun _ h9 => h9) rfl dX7_parish_139 ?_
          obtain rfl := Option.some.inj hF
          exact W.iret (v := (zM_68.1 2)) hx hb hr (fun t ht hW => ⟨⟨_, (), rfl, rfl, by rw [ht]; exact hP, va_K.moved hW.alike hK, hD⟩, hS.F ht⟩) hS.2.2 dX7_parish_142
        · replace hF := if_o c_59 hF
          refine lv_bipush (v := (-10)) hx hb dX7_parish_100 (by decide) ?_
          refine lv_iload_n hx hb dX7_parish_102 rfl (lv_at hl 1 rfl) ?_
          refine lv_isub hx hb dX7_parish_103 ?_
          obtain rfl := Option.some.inj hF
          exact W.iret (v := ((-10) - v1_41)) hx hb hr (fun t ht hW => ⟨⟨_, (), rfl, rfl, by rw [ht]; exact hP, va_K.moved hW.alike hK, hD⟩, hS.F ht⟩) hS.2.2 dX7_parish_104
      · intro J_40
        clear hF
        have hF := hv_57
        refine lpW (σ := Int32 × MS) (I := fun n v H locs ls => L_X7_parish_72 n v.1 v.2 = some (v1_41, zM_42) ∧ va_P D vwCl (wcM ci aM v.2) H ∧ va_D A (wcM ci aM v.2) ∧ va_S A s.heap H locs ∧ lv_has ls 2 [(0, .ref (aM 0)), (1, .int v.1)]) 3000 (v1_36, zM_24) (fun _ _ _ _ h => no_none h.1) ⟨hF, hP, hD, hS, lv_sub hl [1, 0] rfl⟩ ?_
        clear hF hP hD hS hl
        intro n ih_39 vq H locs ls hI
        obtain ⟨v1_37, zM_38⟩ := vq
        obtain ⟨hF, hP, hD, hS, hl⟩ := hI
        have hP : va_P D vwCl (wcM ci aM zM_38) H := hP
        have hD : va_D A (wcM ci aM zM_38) := hD
        have hl : lv_has ls 2 [(0, .ref (aM 0)), (1, .int v1_37)] := hl
        replace hF : L_X7_parish_72 (n + 1) v1_37 zM_38 = some (v1_41, zM_42) := hF
        rw [L_X7_parish_72] at hF
        refine lv_iload_n hx hb dX7_parish_72 rfl (lv_at hl 1 rfl) ?_
        refine lv_if_ne (tgt := 91) hx hb dX7_parish_73 (by decide) (fun c_43 => ?_) (fun c_43 => ?_)
        · replace hF := if_o c_43 hF
          obtain ⟨g_44, g_45⟩ : v1_37 = v1_41 ∧ zM_38 = zM_42 := by have h9 := Option.some.inj hF; simpa only [Prod.mk.injEq] using h9
          subst g_44
          subst g_45
          exact J_40 H locs ls ⟨hP, hD, hS, lv_sub hl [0, 1] rfl⟩
        · replace hF := if_i c_43 hF
          refine lv_aload_n hx hb dX7_parish_76 rfl (lv_at hl 0 rfl) ?_
          replace hF := bnd hF
          obtain ⟨q_49, hc_48, hF⟩ := hF
          obtain ⟨r_46, er_46⟩ : ∃ y : Int32, y = q_49.1 := ⟨_, rfl⟩
          replace hF := nm_i hF er_46
          obtain ⟨zM_47, ezM_47⟩ : ∃ y : MS, y = q_49.2 := ⟨_, rfl⟩
          replace hF := nm_i hF ezM_47
          obtain rfl : q_49 = (r_46, zM_47) := by rw [er_46, ezM_47]
          clear er_46
          clear ezM_47
          refine cl_Vi0 (As := []) (rest := []) ⟨hx, hb, hml, hown, hts⟩ (cwV 0 hts gX7_parish_X7_here rfl rfl rfl (by decide +kernel) ⟨Nat.le_of_ble_eq_true rfl, Nat.le_of_ble_eq_true rfl⟩) (c_X7_here l D ci aM H.size zM_38 _ hc_48) hK hP hD hS hA 0 rfl rfl rfl rfl hl.1 (Nat.le_of_ble_eq_true rfl) dX7_parish_77 (Nat.zero_le _) (Nat.zero_le _) (fun H locs hP hD hS => ?_)
          have hP : va_P D vwCl (wcM ci aM zM_47) H := hP
          have hD : va_D A (wcM ci aM zM_47) := hD
          refine lv_if_lt (tgt := 91) hx hb dX7_parish_80 (by decide) (fun c_50 => ?_) (fun c_50 => ?_)
          · replace hF := if_i c_50 hF
            obtain ⟨g_51, g_52⟩ : v1_37 = v1_41 ∧ zM_47 = zM_42 := by have h9 := Option.some.inj hF; simpa only [Prod.mk.injEq] using h9
            subst g_51
            subst g_52
            exact J_40 H locs ls ⟨hP, hD, hS, lv_sub hl [0, 1] rfl⟩
          · replace hF := if_o c_50 hF
            refine lv_aload_n hx hb dX7_parish_83 rfl (lv_at hl 0 rfl) ?_
            replace hF := bnd hF
            obtain ⟨q_56, hc_55, hF⟩ := hF
            obtain ⟨r_53, er_53⟩ : ∃ y : Int32, y = q_56.1 := ⟨_, rfl⟩
            replace hF := nm_i hF er_53
            obtain ⟨zM_54, ezM_54⟩ : ∃ y : MS, y = q_56.2 := ⟨_, rfl⟩
            replace hF := nm_i hF ezM_54
            obtain rfl : q_56 = (r_53, zM_54) := by rw [er_53, ezM_54]
            clear er_53
            clear ezM_54
            refine cl_Vi0 (As := []) (rest := []) ⟨hx, hb, hml, hown, hts⟩ (cwV 0 hts gX7_parish_X7_takeClause rfl rfl rfl (by decide +kernel) ⟨Nat.le_of_ble_eq_true rfl, Nat.le_of_ble_eq_true rfl⟩) (c_X7_takeClause l D ci aM H.size zM_47 _ hc_55) hK hP hD hS hA 0 rfl rfl rfl rfl hl.1 (Nat.le_of_ble_eq_true rfl) dX7_parish_84 (Nat.zero_le _) (Nat.zero_le _) (fun H locs hP hD hS => ?_)
            have hP : va_P D vwCl (wcM ci aM zM_54) H := hP
            have hD : va_D A (wcM ci aM zM_54) := hD
            refine lv_istore_n (lv' := [(1, .int r_53), (0, .ref (aM 0))]) hx hb dX7_parish_87 rfl hl (by decide) rfl (fun ls hl => ?_)
            refine lv_goto (tgt := 72) hx hb dX7_parish_88 (by decide) ?_
            exact ih_39 (r_53, zM_54) H locs ls ⟨hF, hP, hD, hS, lv_sub hl [1, 0] rfl⟩
    · intro J_22
      clear hF
      have hF := hv_35
      refine lpW (σ := Int32 × MS) (I := fun n v H locs ls => L_X7_parish_37 n v.1 v.2 = some (v1_23, zM_24) ∧ va_P D vwCl (wcM ci aM v.2) H ∧ va_D A (wcM ci aM v.2) ∧ va_S A s.heap H locs ∧ lv_has ls 2 [(0, .ref (aM 0)), (1, .int v.1)]) 3000 (v1_18, zM_17) (fun _ _ _ _ h => no_none h.1) ⟨hF, hP, hD, hS, lv_sub hl [1, 0] rfl⟩ ?_
      clear hF hP hD hS hl
      intro n ih_21 vq H locs ls hI
      obtain ⟨v1_19, zM_20⟩ := vq
      obtain ⟨hF, hP, hD, hS, hl⟩ := hI
      have hP : va_P D vwCl (wcM ci aM zM_20) H := hP
      have hD : va_D A (wcM ci aM zM_20) := hD
      have hl : lv_has ls 2 [(0, .ref (aM 0)), (1, .int v1_19)] := hl
      replace hF : L_X7_parish_37 (n + 1) v1_19 zM_20 = some (v1_23, zM_24) := hF
      rw [L_X7_parish_37] at hF
      refine lv_iload_n hx hb dX7_parish_37 rfl (lv_at hl 1 rfl) ?_
      refine lv_bipush (v := 40) hx hb dX7_parish_38 (by decide) ?_
      refine lv_icmp_ge (tgt := 70) hx hb dX7_parish_40 (by decide) (fun c_25 => ?_) (fun c_25 => ?_)
      · replace hF := if_i c_25 hF
        obtain ⟨g_26, g_27⟩ : v1_19 = v1_23 ∧ zM_20 = zM_24 := by have h9 := Option.some.inj hF; simpa only [Prod.mk.injEq] using h9
        subst g_26
        subst g_27
        exact J_22 H locs ls ⟨hP, hD, hS, lv_sub hl [0, 1] rfl⟩
      · replace hF := if_o c_25 hF
        refine lv_aload_n hx hb dX7_parish_43 rfl (lv_at hl 0 rfl) ?_
        refine va_get (D := D) (ci := 7) (v := .ref (aM 19)) (C := RX7) (T := TX7) (N := 38) hx hb hts hin_RX7 hown hK hP 0 rfl rfl 19 (by decide) hk_5 (fun _ h9 => h9) rfl dX7_parish_44 ?_
        refine lv_iload_n hx hb dX7_parish_47 rfl (lv_at hl 1 rfl) ?_
        refine lv_iconst (v := 0) hx hb dX7_parish_48 (by decide) ?_
        replace hF := ast_i hF
        obtain ⟨hin_28, hF⟩ := hF
        refine va_zast (x := 0) hx hb hK hP hD hS 9 2 rfl rfl hin_28 dX7_parish_49 (fun H locs hP hD hS => ?_)
        obtain ⟨zM_29, ezM_29⟩ : ∃ y : MS, y = (zM_20.1, va_up zM_20.2 19 (upd (zM_20.2 19) (Int32.toNatClampNeg v1_19) (vp_nar .boolean 0))) := ⟨_, rfl⟩
        replace hF := nm_i hF ezM_29
        have hP : va_P D vwCl (wcM ci aM zM_29) H := by rw [ezM_29]; exact hP
        have hD : va_D A (wcM ci aM zM_29) := by rw [ezM_29]; exact hD
        refine lv_aload_n hx hb dX7_parish_50 rfl (lv_at hl 0 rfl) ?_
        refine va_get (D := D) (ci := 7) (v := .ref (aM 20)) (C := RX7) (T := TX7) (N := 38) hx hb hts hin_RX7 hown hK hP 0 rfl rfl 20 (by decide) hk_6 (fun _ h9 => h9) rfl dX7_parish_51 ?_
        refine lv_iload_n hx hb dX7_parish_54 rfl (lv_at hl 1 rfl) ?_
        refine lv_iconst (v := (-1)) hx hb dX7_parish_55 (by decide) ?_
        replace hF := ast_i hF
        obtain ⟨hin_30, hF⟩ := hF
        refine va_iast (x := (-1)) hx hb hK hP hD hS 10 0 rfl rfl hin_30 dX7_parish_56 (fun H locs hP hD hS => ?_)
        obtain ⟨zM_31, ezM_31⟩ : ∃ y : MS, y = (zM_29.1, va_up zM_29.2 20 (upd (zM_29.2 20) (Int32.toNatClampNeg v1_19) (-1))) := ⟨_, rfl⟩
        replace hF := nm_i hF ezM_31
        have hP : va_P D vwCl (wcM ci aM zM_31) H := by rw [ezM_31]; exact hP
        have hD : va_D A (wcM ci aM zM_31) := by rw [ezM_31]; exact hD
        refine lv_aload_n hx hb dX7_parish_57 rfl (lv_at hl 0 rfl) ?_
        refine va_get (D := D) (ci := 7) (v := .ref (aM 21)) (C := RX7) (T := TX7) (N := 38) hx hb hts hin_RX7 hown hK hP 0 rfl rfl 21 (by decide) hk_7 (fun _ h9 => h9) rfl dX7_parish_58 ?_
        refine lv_iload_n hx hb dX7_parish_61 rfl (lv_at hl 1 rfl) ?_
        refine lv_iconst (v := 0) hx hb dX7_parish_62 (by decide) ?_
        replace hF := ast_i hF
        obtain ⟨hin_32, hF⟩ := hF
        refine va_iast (x := 0) hx hb hK hP hD hS 11 0 rfl rfl hin_32 dX7_parish_63 (fun H locs hP hD hS => ?_)
        obtain ⟨zM_33, ezM_33⟩ : ∃ y : MS, y = (zM_31.1, va_up zM_31.2 21 (upd (zM_31.2 21) (Int32.toNatClampNeg v1_19) 0)) := ⟨_, rfl⟩
        replace hF := nm_i hF ezM_33
        have hP : va_P D vwCl (wcM ci aM zM_33) H := by rw [ezM_33]; exact hP
        have hD : va_D A (wcM ci aM zM_33) := by rw [ezM_33]; exact hD
        obtain ⟨v1_34, ev1_34⟩ : ∃ y : Int32, y = v1_19 + 1 := ⟨_, rfl⟩
        replace hF := nm_i hF ev1_34
        refine lv_iinc (v := v1_34) (lv' := [(1, .int v1_34), (0, .ref (aM 0))]) hx hb dX7_parish_64 hl (k := 1) rfl (by rw [ev1_34]; rfl) (by decide) rfl (fun ls hl => ?_)
        refine lv_goto (tgt := 37) hx hb dX7_parish_67 (by decide) ?_
        exact ih_21 (v1_34, zM_33) H locs ls ⟨hF, hP, hD, hS, lv_sub hl [1, 0] rfl⟩
  · intro J_7
    clear hF
    have hF := hv_16
    refine lpW (σ := Int32 × MS) (I := fun n v H locs ls => L_X7_parish_12 n v.1 v.2 = some (v1_8, zM_9) ∧ va_P D vwCl (wcM ci aM v.2) H ∧ va_D A (wcM ci aM v.2) ∧ va_S A s.heap H locs ∧ lv_has ls 2 [(0, .ref (aM 0)), (1, .int v.1)]) 3000 (v1_3, zM_2) (fun _ _ _ _ h => no_none h.1) ⟨hF, hP, hD, hS, lv_sub hl [1, 0] rfl⟩ ?_
    clear hF hP hD hS hl
    intro n ih_6 vq H locs ls hI
    obtain ⟨v1_4, zM_5⟩ := vq
    obtain ⟨hF, hP, hD, hS, hl⟩ := hI
    have hP : va_P D vwCl (wcM ci aM zM_5) H := hP
    have hD : va_D A (wcM ci aM zM_5) := hD
    have hl : lv_has ls 2 [(0, .ref (aM 0)), (1, .int v1_4)] := hl
    replace hF : L_X7_parish_12 (n + 1) v1_4 zM_5 = some (v1_8, zM_9) := hF
    rw [L_X7_parish_12] at hF
    refine lv_iload_n hx hb dX7_parish_12 rfl (lv_at hl 1 rfl) ?_
    refine lv_iconst (v := 3) hx hb dX7_parish_13 (by decide) ?_
    refine lv_icmp_ge (tgt := 30) hx hb dX7_parish_14 (by decide) (fun c_10 => ?_) (fun c_10 => ?_)
    · replace hF := if_i c_10 hF
      obtain ⟨g_11, g_12⟩ : v1_4 = v1_8 ∧ zM_5 = zM_9 := by have h9 := Option.some.inj hF; simpa only [Prod.mk.injEq] using h9
      subst g_11
      subst g_12
      exact J_7 H locs ls ⟨hP, hD, hS, lv_sub hl [0, 1] rfl⟩
    · replace hF := if_o c_10 hF
      refine lv_aload_n hx hb dX7_parish_17 rfl (lv_at hl 0 rfl) ?_
      refine va_get (D := D) (ci := 7) (v := .ref (aM 16)) (C := RX7) (T := TX7) (N := 38) hx hb hts hin_RX7 hown hK hP 0 rfl rfl 16 (by decide) hk_3 (fun _ h9 => h9) rfl dX7_parish_18 ?_
      refine lv_iload_n hx hb dX7_parish_21 rfl (lv_at hl 1 rfl) ?_
      refine lv_iconst (v := 0) hx hb dX7_parish_22 (by decide) ?_
      replace hF := ast_i hF
      obtain ⟨hin_13, hF⟩ := hF
      refine va_iast (x := 0) hx hb hK hP hD hS 7 0 rfl rfl hin_13 dX7_parish_23 (fun H locs hP hD hS => ?_)
      obtain ⟨zM_14, ezM_14⟩ : ∃ y : MS, y = (zM_5.1, va_up zM_5.2 16 (upd (zM_5.2 16) (Int32.toNatClampNeg v1_4) 0)) := ⟨_, rfl⟩
      replace hF := nm_i hF ezM_14
      have hP : va_P D vwCl (wcM ci aM zM_14) H := by rw [ezM_14]; exact hP
      have hD : va_D A (wcM ci aM zM_14) := by rw [ezM_14]; exact hD
      obtain ⟨v1_15, ev1_15⟩ : ∃ y : Int32, y = v1_4 + 1 := ⟨_, rfl⟩
      replace hF := nm_i hF ev1_15
      refine lv_iinc (v := v1_15) (lv' := [(1, .int v1_15), (0, .ref (aM 0))]) hx hb dX7_parish_24 hl (k := 1) rfl (by rw [ev1_15]; rfl) (by decide) rfl (fun ls hl => ?_)
      refine lv_goto (tgt := 12) hx hb dX7_parish_27 (by decide) ?_
      exact ih_6 (v1_15, zM_14) H locs ls ⟨hF, hP, hD, hS, lv_sub hl [1, 0] rfl⟩
noncomputable def f_X7_fault (zM : MS) : Option (Int32) := some (zM.1 12)
set_option maxHeartbeats 4000000 in
set_option maxRecDepth 100000 in
theorem c_X7_fault (l : Launch) (D : va_G) (ci : Nat → ClassId) (aM : Nat → Nat) (sz : Nat) (zM : MS) (res : Int32) (hF : f_X7_fault zM = some res) : CtI l yX7_fault wsX7_fault { frames := 0, cells := 0, slots := 0, locals := 0 } [.ref (aM 0)] D ci (wcM ci aM zM) sz res (wcM ci aM zM) := by
  refine Met.ofW (cc := cX7_fault) (maxL := 1) (ret := (some .int)) (by decide) rfl ?_
  intro p e s m args below meth c s₁ B hml hv
  obtain ⟨rfl, hsz, hP, hK, hD0⟩ := hv
  have hx := B.exec
  have hb := B.bytes
  have hr := B.returns
  have hts := atoms_spec (ws := wsX7_fault) B.pre
  have hown : s.vm.findClass RX7 = some m.cls := findClass_of_methodNamed B.named
  have hlocks := B.notSynchronized
  subst hsz
  have hD := hD0.self (sz := s.heap.size)
  generalize hAe : va_A (wcM ci aM zM) s.heap.size = A at hD ⊢
  have hA : ∀ q : Nat, s.heap.size ≤ q → A q := fun q h => by rw [← hAe]; exact Or.inr h
  clear hD0 hAe
  have hl := lv_entry ([.ref (aM 0)]) (n := 1) (Nat.le_of_ble_eq_true rfl)
  rw [lg_entry_eq]
  generalize (lg_sl ([.ref (aM 0)]) ++ List.replicate (1 - (lg_sl ([.ref (aM 0)])).length) Slot.unset).toArray = ls at hl ⊢
  have hl : lv_has ls 1 [(0, .ref (aM 0))] := hl
  have hP : va_P D vwCl (wcM ci aM zM) s.heap := hP
  generalize hH0 : s.heap = H at hP ⊢
  have hS : va_S A s.heap H [] := by rw [← hH0]; exact va_S.rf
  clear hH0
  generalize ([] : List Loc) = locs at hS ⊢
  have hk_0 := hts (.fieldLink RX7 29 "HedgeWarModel" "faultPlace" "I") (by decide +kernel)
  have hin_RX7 : ∀ w ∈ wsX70, w ∈ wsX7_fault := by decide +kernel
  unfold f_X7_fault at hF
  refine lv_aload_n hx hb dX7_fault_0 rfl (lv_at hl 0 rfl) ?_
  refine va_get (D := D) (ci := 7) (v := .int (zM.1 12)) (C := RX7) (T := TX7) (N := 38) hx hb hts hin_RX7 hown hK hP 0 rfl rfl 12 (by decide) hk_0 (fun _ h9 => h9) rfl dX7_fault_1 ?_
  obtain rfl := Option.some.inj hF
  exact W.iret (v := (zM.1 12)) hx hb hr (fun t ht hW => ⟨⟨_, (), rfl, rfl, by rw [ht]; exact hP, va_K.moved hW.alike hK, hD⟩, hS.F ht⟩) hS.2.2 dX7_fault_4

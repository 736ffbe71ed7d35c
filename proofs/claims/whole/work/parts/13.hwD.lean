noncomputable def f_X6_root (zX : XS) (zG : GS) (zN : NS) (p1 : Int32) (p2 : Int32) : Option (Int32 × NS) := (f_X0_hasEdge zG p1).bind fun r_1 => if r_1 = 0 then (some ((-1000000001 : Int32), zN)) else (if p2 < 0 then (some ((-1000000002 : Int32), zN)) else (if p2 ≤ 99 then (if (zN.1 0) < 6 then (ast 6 (zN.1 0) <| nm ((zN.1, va_up zN.2 2 (upd (zN.2 2) (Int32.toNatClampNeg (zN.1 0)) p1)) : NS) fun zN_8 => ast 6 (zN_8.1 0) <| nm ((zN_8.1, va_up zN_8.2 3 (upd (zN_8.2 3) (Int32.toNatClampNeg (zN_8.1 0)) p2)) : NS) fun zN_10 => nm ((zN_10.1 0) + 1) fun f0_11 => nm ((upd zN_10.1 0 f0_11, zN_10.2) : NS) fun zN_12 => some ((zN_12.1 0), zN_12)) else (some ((-1000000004 : Int32), zN))) else (some ((-1000000002 : Int32), zN))))
set_option maxHeartbeats 4000000 in
set_option maxRecDepth 100000 in
theorem c_X6_root (l : Launch) (D : va_G) (ci : Nat → ClassId) (aX_0 : Nat) (aR_0 : Nat) (aG_0 : Nat) (aS_0 : Nat) (aP_0 : Nat) (aN_0 : Nat) (aI_0 : Nat) (aT_0 : Nat) (aG_1 : Nat) (aG_2 : Nat) (aG_3 : Nat) (aG_4 : Nat) (aN_1 : Nat) (aN_2 : Nat) (aN_3 : Nat) (aN_4 : Nat) (sz : Nat) (zX : XS) (zG : GS) (zN : NS) (p1 : Int32) (p2 : Int32) (res : Int32 × NS) (hF : f_X6_root zX zG zN p1 p2 = some res) : CtI l yX6_root wsX6_root { frames := 1, cells := 0, slots := 0, locals := 21 } [.ref aX_0, .int p1, .int p2] D ci ((wcX aX_0 aR_0 aG_0 aS_0 aP_0 aN_0 aI_0 aT_0 zX) ++ ((wcG ci aG_0 aG_1 aG_2 aG_3 aG_4 zG) ++ (wcN ci aN_0 aN_1 aN_2 aN_3 aN_4 zN))) sz res.1 ((wcX aX_0 aR_0 aG_0 aS_0 aP_0 aN_0 aI_0 aT_0 zX) ++ ((wcG ci aG_0 aG_1 aG_2 aG_3 aG_4 zG) ++ (wcN ci aN_0 aN_1 aN_2 aN_3 aN_4 res.2))) := by
  refine Met.ofW (cc := cX6_root) (maxL := 3) (ret := (some .int)) (by decide) rfl ?_
  intro p e s m args below meth c s₁ B hml hv
  obtain ⟨rfl, hsz, hP, hK, hD0⟩ := hv
  have hx := B.exec
  have hb := B.bytes
  have hr := B.returns
  have hts := atoms_spec (ws := wsX6_root) B.pre
  have hown : s.vm.findClass RX6 = some m.cls := findClass_of_methodNamed B.named
  have hlocks := B.notSynchronized
  subst hsz
  have hD := hD0.self (sz := s.heap.size)
  generalize hAe : va_A ((wcX aX_0 aR_0 aG_0 aS_0 aP_0 aN_0 aI_0 aT_0 zX) ++ ((wcG ci aG_0 aG_1 aG_2 aG_3 aG_4 zG) ++ (wcN ci aN_0 aN_1 aN_2 aN_3 aN_4 zN))) s.heap.size = A at hD ⊢
  have hA : ∀ q : Nat, s.heap.size ≤ q → A q := fun q h => by rw [← hAe]; exact Or.inr h
  clear hD0 hAe
  have hl := lv_entry ([.ref aX_0, .int p1, .int p2]) (n := 3) (Nat.le_of_ble_eq_true rfl)
  rw [lg_entry_eq]
  generalize (lg_sl ([.ref aX_0, .int p1, .int p2]) ++ List.replicate (3 - (lg_sl ([.ref aX_0, .int p1, .int p2])).length) Slot.unset).toArray = ls at hl ⊢
  have hl : lv_has ls 3 [(0, .ref aX_0), (1, .int p1), (2, .int p2)] := hl
  have hP : va_P D vwCl ((wcX aX_0 aR_0 aG_0 aS_0 aP_0 aN_0 aI_0 aT_0 zX) ++ ((wcG ci aG_0 aG_1 aG_2 aG_3 aG_4 zG) ++ (wcN ci aN_0 aN_1 aN_2 aN_3 aN_4 zN))) s.heap := hP
  generalize hH0 : s.heap = H at hP ⊢
  have hS : va_S A s.heap H [] := by rw [← hH0]; exact va_S.rf
  clear hH0
  generalize ([] : List Loc) = locs at hS ⊢
  have hk_0 := hts (.fieldLink RX6 19 "HedgeWar" "ground" "LHedgeWar$Ground;") (by decide +kernel)
  have hin_RX6 : ∀ w ∈ wsX60, w ∈ wsX6_root := by decide +kernel
  have hk_2 := hts (.constant RX6 62 (-1000000002)) (by decide +kernel)
  have hk_3 := hts (.fieldLink RX6 40 "HedgeWar" "notes" "LHedgeWar$Notes;") (by decide +kernel)
  have hk_4 := hts (.fieldLink RX6 134 "HedgeWar$Notes" "roots" "I") (by decide +kernel)
  have hin_RX2 : ∀ w ∈ wsX20, w ∈ wsX6_root := by decide +kernel
  have hk_6 := hts (.fieldLink RX6 259 "HedgeWar$Notes" "rootEdges" "[I") (by decide +kernel)
  have hk_7 := hts (.fieldLink RX6 262 "HedgeWar$Notes" "rootHeights" "[I") (by decide +kernel)
  have hk_8 := hts (.constant RX6 66 (-1000000004)) (by decide +kernel)
  have hk_9 := hts (.constant RX6 147 (-1000000001)) (by decide +kernel)
  unfold f_X6_root at hF
  refine lv_aload_n hx hb dX6_root_0 rfl (lv_at hl 0 rfl) ?_
  refine va_get (D := D) (ci := 6) (v := .ref aG_0) (C := RX6) (T := TX6) (N := 9) hx hb hts hin_RX6 hown hK hP 0 rfl rfl 1 (by decide) hk_0 (fun _ h9 => h9) rfl dX6_root_1 ?_
  refine lv_iload_n hx hb dX6_root_4 rfl (lv_at hl 1 rfl) ?_
  replace hF := bnd hF
  obtain ⟨r_1, hc_2, hF⟩ := hF
  refine cl_Vi (As := [.int p1]) (rest := []) (wc := (wcG ci aG_0 aG_1 aG_2 aG_3 aG_4 zG)) (wr := ([0, 6, 7, 8, 9, 10].filterMap (fun i => ((wcX aX_0 aR_0 aG_0 aS_0 aP_0 aN_0 aI_0 aT_0 zX) ++ ((wcG ci aG_0 aG_1 aG_2 aG_3 aG_4 zG) ++ (wcN ci aN_0 aN_1 aN_2 aN_3 aN_4 zN)))[i]?))) (w1 := (wcG ci aG_0 aG_1 aG_2 aG_3 aG_4 zG)) (wn := ((wcX aX_0 aR_0 aG_0 aS_0 aP_0 aN_0 aI_0 aT_0 zX) ++ ((wcG ci aG_0 aG_1 aG_2 aG_3 aG_4 zG) ++ (wcN ci aN_0 aN_1 aN_2 aN_3 aN_4 zN)))) ⟨hx, hb, hml, hown, hts⟩ (cwV 1 hts gX6_root_X0_hasEdge rfl rfl rfl (by decide +kernel) ⟨Nat.le_of_ble_eq_true rfl, Nat.le_of_ble_eq_true rfl⟩) (c_X0_hasEdge l D ci aG_0 aG_1 aG_2 aG_3 aG_4 H.size zG p1 _ hc_2) hK hP hD hS hA [1, 2, 3, 4, 5] [0, 6, 7, 8, 9, 10] [0, 6, 7, 8, 9, 10, 1, 2, 3, 4, 5] rfl rfl rfl (by decide) 0 rfl rfl rfl rfl hl.1 (Nat.le_of_ble_eq_true rfl) dX6_root_5 (Nat.zero_le _) (Nat.zero_le _) (fun H locs hP hD hS => ?_)
  have hP : va_P D vwCl ((wcX aX_0 aR_0 aG_0 aS_0 aP_0 aN_0 aI_0 aT_0 zX) ++ ((wcG ci aG_0 aG_1 aG_2 aG_3 aG_4 zG) ++ (wcN ci aN_0 aN_1 aN_2 aN_3 aN_4 zN))) H := hP
  have hD : va_D A ((wcX aX_0 aR_0 aG_0 aS_0 aP_0 aN_0 aI_0 aT_0 zX) ++ ((wcG ci aG_0 aG_1 aG_2 aG_3 aG_4 zG) ++ (wcN ci aN_0 aN_1 aN_2 aN_3 aN_4 zN))) := hD
  refine lv_if_ne (tgt := 14) hx hb dX6_root_8 (by decide) (fun c_3 => ?_) (fun c_3 => ?_)
  · replace hF := if_o c_3 hF
    refine lv_iload_n hx hb dX6_root_14 rfl (lv_at hl 2 rfl) ?_
    refine lv_if_lt (tgt := 24) hx hb dX6_root_15 (by decide) (fun c_4 => ?_) (fun c_4 => ?_)
    · replace hF := if_i c_4 hF
      refine lv_ldc (v := (-1000000002)) hx hb hown hk_2 dX6_root_24 ?_
      obtain rfl := Option.some.inj hF
      exact W.iret (v := (-1000000002)) hx hb hr (fun t ht hW => ⟨⟨_, (), rfl, rfl, by rw [ht]; exact hP, va_K.moved hW.alike hK, hD⟩, hS.F ht⟩) hS.2.2 dX6_root_26
    · replace hF := if_o c_4 hF
      refine lv_iload_n hx hb dX6_root_18 rfl (lv_at hl 2 rfl) ?_
      refine lv_bipush (v := 99) hx hb dX6_root_19 (by decide) ?_
      refine lv_icmp_le (tgt := 27) hx hb dX6_root_21 (by decide) (fun c_5 => ?_) (fun c_5 => ?_)
      · replace hF := if_i c_5 hF
        refine lv_aload_n hx hb dX6_root_27 rfl (lv_at hl 0 rfl) ?_
        refine va_get (D := D) (ci := 6) (v := .ref aN_0) (C := RX6) (T := TX6) (N := 9) hx hb hts hin_RX6 hown hK hP 0 rfl rfl 4 (by decide) hk_3 (fun _ h9 => h9) rfl dX6_root_28 ?_
        refine va_get (D := D) (ci := 2) (v := .int (zN.1 0)) (C := RX2) (T := TX2) (N := 6) hx hb hts hin_RX2 hown hK hP 6 rfl rfl 0 (by decide) hk_4 (fun _ h9 => h9) rfl dX6_root_31 ?_
        refine lv_bipush (v := 6) hx hb dX6_root_34 (by decide) ?_
        refine lv_icmp_lt (tgt := 42) hx hb dX6_root_36 (by decide) (fun c_6 => ?_) (fun c_6 => ?_)
        · replace hF := if_i c_6 hF
          refine lv_aload_n hx hb dX6_root_42 rfl (lv_at hl 0 rfl) ?_
          refine va_get (D := D) (ci := 6) (v := .ref aN_0) (C := RX6) (T := TX6) (N := 9) hx hb hts hin_RX6 hown hK hP 0 rfl rfl 4 (by decide) hk_3 (fun _ h9 => h9) rfl dX6_root_43 ?_
          refine va_get (D := D) (ci := 2) (v := .ref aN_1) (C := RX2) (T := TX2) (N := 6) hx hb hts hin_RX2 hown hK hP 6 rfl rfl 2 (by decide) hk_6 (fun _ h9 => h9) rfl dX6_root_46 ?_
          refine lv_aload_n hx hb dX6_root_49 rfl (lv_at hl 0 rfl) ?_
          refine va_get (D := D) (ci := 6) (v := .ref aN_0) (C := RX6) (T := TX6) (N := 9) hx hb hts hin_RX6 hown hK hP 0 rfl rfl 4 (by decide) hk_3 (fun _ h9 => h9) rfl dX6_root_50 ?_
          refine va_get (D := D) (ci := 2) (v := .int (zN.1 0)) (C := RX2) (T := TX2) (N := 6) hx hb hts hin_RX2 hown hK hP 6 rfl rfl 0 (by decide) hk_4 (fun _ h9 => h9) rfl dX6_root_53 ?_
          refine lv_iload_n hx hb dX6_root_56 rfl (lv_at hl 1 rfl) ?_
          replace hF := ast_i hF
          obtain ⟨hin_7, hF⟩ := hF
          refine va_iast (x := p1) hx hb hK hP hD hS 7 0 rfl rfl hin_7 dX6_root_57 (fun H locs hP hD hS => ?_)
          obtain ⟨zN_8, ezN_8⟩ : ∃ y : NS, y = (zN.1, va_up zN.2 2 (upd (zN.2 2) (Int32.toNatClampNeg (zN.1 0)) p1)) := ⟨_, rfl⟩
          replace hF := nm_i hF ezN_8
          have hP : va_P D vwCl ((wcX aX_0 aR_0 aG_0 aS_0 aP_0 aN_0 aI_0 aT_0 zX) ++ ((wcG ci aG_0 aG_1 aG_2 aG_3 aG_4 zG) ++ (wcN ci aN_0 aN_1 aN_2 aN_3 aN_4 zN_8))) H := by rw [ezN_8]; exact hP
          have hD : va_D A ((wcX aX_0 aR_0 aG_0 aS_0 aP_0 aN_0 aI_0 aT_0 zX) ++ ((wcG ci aG_0 aG_1 aG_2 aG_3 aG_4 zG) ++ (wcN ci aN_0 aN_1 aN_2 aN_3 aN_4 zN_8))) := by rw [ezN_8]; exact hD
          refine lv_aload_n hx hb dX6_root_58 rfl (lv_at hl 0 rfl) ?_
          refine va_get (D := D) (ci := 6) (v := .ref aN_0) (C := RX6) (T := TX6) (N := 9) hx hb hts hin_RX6 hown hK hP 0 rfl rfl 4 (by decide) hk_3 (fun _ h9 => h9) rfl dX6_root_59 ?_
          refine va_get (D := D) (ci := 2) (v := .ref aN_2) (C := RX2) (T := TX2) (N := 6) hx hb hts hin_RX2 hown hK hP 6 rfl rfl 3 (by decide) hk_7 (fun _ h9 => h9) rfl dX6_root_62 ?_
          refine lv_aload_n hx hb dX6_root_65 rfl (lv_at hl 0 rfl) ?_
          refine va_get (D := D) (ci := 6) (v := .ref aN_0) (C := RX6) (T := TX6) (N := 9) hx hb hts hin_RX6 hown hK hP 0 rfl rfl 4 (by decide) hk_3 (fun _ h9 => h9) rfl dX6_root_66 ?_
          refine va_get (D := D) (ci := 2) (v := .int (zN_8.1 0)) (C := RX2) (T := TX2) (N := 6) hx hb hts hin_RX2 hown hK hP 6 rfl rfl 0 (by decide) hk_4 (fun _ h9 => h9) rfl dX6_root_69 ?_
          refine lv_iload_n hx hb dX6_root_72 rfl (lv_at hl 2 rfl) ?_
          replace hF := ast_i hF
          obtain ⟨hin_9, hF⟩ := hF
          refine va_iast (x := p2) hx hb hK hP hD hS 8 0 rfl rfl hin_9 dX6_root_73 (fun H locs hP hD hS => ?_)
          obtain ⟨zN_10, ezN_10⟩ : ∃ y : NS, y = (zN_8.1, va_up zN_8.2 3 (upd (zN_8.2 3) (Int32.toNatClampNeg (zN_8.1 0)) p2)) := ⟨_, rfl⟩
          replace hF := nm_i hF ezN_10
          have hP : va_P D vwCl ((wcX aX_0 aR_0 aG_0 aS_0 aP_0 aN_0 aI_0 aT_0 zX) ++ ((wcG ci aG_0 aG_1 aG_2 aG_3 aG_4 zG) ++ (wcN ci aN_0 aN_1 aN_2 aN_3 aN_4 zN_10))) H := by rw [ezN_10]; exact hP
          have hD : va_D A ((wcX aX_0 aR_0 aG_0 aS_0 aP_0 aN_0 aI_0 aT_0 zX) ++ ((wcG ci aG_0 aG_1 aG_2 aG_3 aG_4 zG) ++ (wcN ci aN_0 aN_1 aN_2 aN_3 aN_4 zN_10))) := by rw [ezN_10]; exact hD
          refine lv_aload_n hx hb dX6_root_74 rfl (lv_at hl 0 rfl) ?_
          refine va_get (D := D) (ci := 6) (v := .ref aN_0) (C := RX6) (T := TX6) (N := 9) hx hb hts hin_RX6 hown hK hP 0 rfl rfl 4 (by decide) hk_3 (fun _ h9 => h9) rfl dX6_root_75 ?_
          refine lv_dup hx hb dX6_root_78 rfl ?_
          refine va_get (D := D) (ci := 2) (v := .int (zN_10.1 0)) (C := RX2) (T := TX2) (N := 6) hx hb hts hin_RX2 hown hK hP 6 rfl rfl 0 (by decide) hk_4 (fun _ h9 => h9) rfl dX6_root_79 ?_
          refine lv_iconst (v := 1) hx hb dX6_root_82 (by decide) ?_
          refine lv_iadd hx hb dX6_root_83 ?_
          refine lv_topi (fun f0_11 ef0_11 => ?_)
          replace hF := nm_i hF ef0_11
          refine va_put (D := D) (ci := 2) (v := .int f0_11) (ty := .int) (C := RX2) (T := TX2) (N := 6) hx hb hts hin_RX2 tyX2 tyX2_ok nmX2 hown hK hP hD hS 6 rfl rfl 0 (by decide) hk_4 (fun _ h9 => h9) rfl (by decide +kernel) rfl rfl (Nat.le_of_ble_eq_true rfl) dX6_root_84 (fun H locs hP hD hS => ?_)
          obtain ⟨zN_12, ezN_12⟩ : ∃ y : NS, y = (upd zN_10.1 0 f0_11, zN_10.2) := ⟨_, rfl⟩
          replace hF := nm_i hF ezN_12
          have hP : va_P D vwCl ((wcX aX_0 aR_0 aG_0 aS_0 aP_0 aN_0 aI_0 aT_0 zX) ++ ((wcG ci aG_0 aG_1 aG_2 aG_3 aG_4 zG) ++ (wcN ci aN_0 aN_1 aN_2 aN_3 aN_4 zN_12))) H := by rw [ezN_12]; exact hP
          have hD : va_D A ((wcX aX_0 aR_0 aG_0 aS_0 aP_0 aN_0 aI_0 aT_0 zX) ++ ((wcG ci aG_0 aG_1 aG_2 aG_3 aG_4 zG) ++ (wcN ci aN_0 aN_1 aN_2 aN_3 aN_4 zN_12))) := by rw [ezN_12]; exact hD
          refine lv_aload_n hx hb dX6_root_87 rfl (lv_at hl 0 rfl) ?_
          refine va_get (D := D) (ci := 6) (v := .ref aN_0) (C := RX6) (T := TX6) (N := 9) hx hb hts hin_RX6 hown hK hP 0 rfl rfl 4 (by decide) hk_3 (fun _ h9 => h9) rfl dX6_root_88 ?_
          refine va_get (D := D) (ci := 2) (v := .int (zN_12.1 0)) (C := RX2) (T := TX2) (N := 6) hx hb hts hin_RX2 hown hK hP 6 rfl rfl 0 (by decide) hk_4 (fun _ h9 => h9) rfl dX6_root_91 ?_
          obtain rfl := Option.some.inj hF
          exact W.iret (v := (zN_12.1 0)) hx hb hr (fun t ht hW => ⟨⟨_, (), rfl, rfl, by rw [ht]; exact hP, va_K.moved hW.alike hK, hD⟩, hS.F ht⟩) hS.2.2 dX6_root_94
        · replace hF := if_o c_6 hF
          refine lv_ldc (v := (-1000000004)) hx hb hown hk_8 dX6_root_39 ?_
          obtain rfl := Option.some.inj hF
          exact W.iret (v := (-1000000004)) hx hb hr (fun t ht hW => ⟨⟨_, (), rfl, rfl, by rw [ht]; exact hP, va_K.moved hW.alike hK, hD⟩, hS.F ht⟩) hS.2.2 dX6_root_41
      · replace hF := if_o c_5 hF
        refine lv_ldc (v := (-1000000002)) hx hb hown hk_2 dX6_root_24 ?_
        obtain rfl := Option.some.inj hF
        exact W.iret (v := (-1000000002)) hx hb hr (fun t ht hW => ⟨⟨_, (), rfl, rfl, by rw [ht]; exact hP, va_K.moved hW.alike hK, hD⟩, hS.F ht⟩) hS.2.2 dX6_root_26
  · replace hF := if_i c_3 hF
    refine lv_ldc (v := (-1000000001)) hx hb hown hk_9 dX6_root_11 ?_
    obtain rfl := Option.some.inj hF
    exact W.iret (v := (-1000000001)) hx hb hr (fun t ht hW => ⟨⟨_, (), rfl, rfl, by rw [ht]; exact hP, va_K.moved hW.alike hK, hD⟩, hS.F ht⟩) hS.2.2 dX6_root_13
noncomputable def f_X6_plantedAgo (zX : XS) (zG : GS) (zN : NS) : Option (Int32) := (f_X2_yearsThatFit zG zN).bind fun r_1 => some r_1
set_option maxHeartbeats 4000000 in
set_option maxRecDepth 100000 in
theorem c_X6_plantedAgo (l : Launch) (D : va_G) (ci : Nat → ClassId) (aX_0 : Nat) (aR_0 : Nat) (aG_0 : Nat) (aS_0 : Nat) (aP_0 : Nat) (aN_0 : Nat) (aI_0 : Nat) (aT_0 : Nat) (aG_1 : Nat) (aG_2 : Nat) (aG_3 : Nat) (aG_4 : Nat) (aN_1 : Nat) (aN_2 : Nat) (aN_3 : Nat) (aN_4 : Nat) (sz : Nat) (zX : XS) (zG : GS) (zN : NS) (res : Int32) (hF : f_X6_plantedAgo zX zG zN = some res) : CtI l yX6_plantedAgo wsX6_plantedAgo { frames := 4, cells := 0, slots := 0, locals := 89 } [.ref aX_0] D ci ((wcX aX_0 aR_0 aG_0 aS_0 aP_0 aN_0 aI_0 aT_0 zX) ++ ((wcG ci aG_0 aG_1 aG_2 aG_3 aG_4 zG) ++ (wcN ci aN_0 aN_1 aN_2 aN_3 aN_4 zN))) sz res ((wcX aX_0 aR_0 aG_0 aS_0 aP_0 aN_0 aI_0 aT_0 zX) ++ ((wcG ci aG_0 aG_1 aG_2 aG_3 aG_4 zG) ++ (wcN ci aN_0 aN_1 aN_2 aN_3 aN_4 zN))) := by
  refine Met.ofW (cc := cX6_plantedAgo) (maxL := 1) (ret := (some .int)) (by decide) rfl ?_
  intro p e s m args below meth c s₁ B hml hv
  obtain ⟨rfl, hsz, hP, hK, hD0⟩ := hv
  have hx := B.exec
  have hb := B.bytes
  have hr := B.returns
  have hts := atoms_spec (ws := wsX6_plantedAgo) B.pre
  have hown : s.vm.findClass RX6 = some m.cls := findClass_of_methodNamed B.named
  have hlocks := B.notSynchronized
  subst hsz
  have hD := hD0.self (sz := s.heap.size)
  generalize hAe : va_A ((wcX aX_0 aR_0 aG_0 aS_0 aP_0 aN_0 aI_0 aT_0 zX) ++ ((wcG ci aG_0 aG_1 aG_2 aG_3 aG_4 zG) ++ (wcN ci aN_0 aN_1 aN_2 aN_3 aN_4 zN))) s.heap.size = A at hD ⊢
  have hA : ∀ q : Nat, s.heap.size ≤ q → A q := fun q h => by rw [← hAe]; exact Or.inr h
  clear hD0 hAe
  have hl := lv_entry ([.ref aX_0]) (n := 1) (Nat.le_of_ble_eq_true rfl)
  rw [lg_entry_eq]
  generalize (lg_sl ([.ref aX_0]) ++ List.replicate (1 - (lg_sl ([.ref aX_0])).length) Slot.unset).toArray = ls at hl ⊢
  have hl : lv_has ls 1 [(0, .ref aX_0)] := hl
  have hP : va_P D vwCl ((wcX aX_0 aR_0 aG_0 aS_0 aP_0 aN_0 aI_0 aT_0 zX) ++ ((wcG ci aG_0 aG_1 aG_2 aG_3 aG_4 zG) ++ (wcN ci aN_0 aN_1 aN_2 aN_3 aN_4 zN))) s.heap := hP
  generalize hH0 : s.heap = H at hP ⊢
  have hS : va_S A s.heap H [] := by rw [← hH0]; exact va_S.rf
  clear hH0
  generalize ([] : List Loc) = locs at hS ⊢
  have hk_0 := hts (.fieldLink RX6 40 "HedgeWar" "notes" "LHedgeWar$Notes;") (by decide +kernel)
  have hin_RX6 : ∀ w ∈ wsX60, w ∈ wsX6_plantedAgo := by decide +kernel
  have hk_2 := hts (.fieldLink RX6 19 "HedgeWar" "ground" "LHedgeWar$Ground;") (by decide +kernel)
  unfold f_X6_plantedAgo at hF
  refine lv_aload_n hx hb dX6_plantedAgo_0 rfl (lv_at hl 0 rfl) ?_
  refine va_get (D := D) (ci := 6) (v := .ref aN_0) (C := RX6) (T := TX6) (N := 9) hx hb hts hin_RX6 hown hK hP 0 rfl rfl 4 (by decide) hk_0 (fun _ h9 => h9) rfl dX6_plantedAgo_1 ?_
  refine lv_aload_n hx hb dX6_plantedAgo_4 rfl (lv_at hl 0 rfl) ?_
  refine va_get (D := D) (ci := 6) (v := .ref aG_0) (C := RX6) (T := TX6) (N := 9) hx hb hts hin_RX6 hown hK hP 0 rfl rfl 1 (by decide) hk_2 (fun _ h9 => h9) rfl dX6_plantedAgo_5 ?_
  replace hF := bnd hF
  obtain ⟨r_1, hc_2, hF⟩ := hF
  refine cl_Vi (As := [.ref aG_0]) (rest := []) (wc := ((wcG ci aG_0 aG_1 aG_2 aG_3 aG_4 zG) ++ (wcN ci aN_0 aN_1 aN_2 aN_3 aN_4 zN))) (wr := ([0].filterMap (fun i => ((wcX aX_0 aR_0 aG_0 aS_0 aP_0 aN_0 aI_0 aT_0 zX) ++ ((wcG ci aG_0 aG_1 aG_2 aG_3 aG_4 zG) ++ (wcN ci aN_0 aN_1 aN_2 aN_3 aN_4 zN)))[i]?))) (w1 := ((wcG ci aG_0 aG_1 aG_2 aG_3 aG_4 zG) ++ (wcN ci aN_0 aN_1 aN_2 aN_3 aN_4 zN))) (wn := ((wcX aX_0 aR_0 aG_0 aS_0 aP_0 aN_0 aI_0 aT_0 zX) ++ ((wcG ci aG_0 aG_1 aG_2 aG_3 aG_4 zG) ++ (wcN ci aN_0 aN_1 aN_2 aN_3 aN_4 zN)))) ⟨hx, hb, hml, hown, hts⟩ (cwV 1 hts gX6_plantedAgo_X2_yearsThatFit rfl rfl rfl (by decide +kernel) ⟨Nat.le_of_ble_eq_true rfl, Nat.le_of_ble_eq_true rfl⟩) (c_X2_yearsThatFit l D ci aG_0 aG_1 aG_2 aG_3 aG_4 aN_0 aN_1 aN_2 aN_3 aN_4 H.size zG zN _ hc_2) hK hP hD hS hA [1, 2, 3, 4, 5, 6, 7, 8, 9, 10] [0] [0, 1, 2, 3, 4, 5, 6, 7, 8, 9, 10] rfl rfl rfl (by decide) 5 rfl rfl rfl rfl hl.1 (Nat.le_of_ble_eq_true rfl) dX6_plantedAgo_8 (Nat.zero_le _) (Nat.zero_le _) (fun H locs hP hD hS => ?_)
  have hP : va_P D vwCl ((wcX aX_0 aR_0 aG_0 aS_0 aP_0 aN_0 aI_0 aT_0 zX) ++ ((wcG ci aG_0 aG_1 aG_2 aG_3 aG_4 zG) ++ (wcN ci aN_0 aN_1 aN_2 aN_3 aN_4 zN))) H := hP
  have hD : va_D A ((wcX aX_0 aR_0 aG_0 aS_0 aP_0 aN_0 aI_0 aT_0 zX) ++ ((wcG ci aG_0 aG_1 aG_2 aG_3 aG_4 zG) ++ (wcN ci aN_0 aN_1 aN_2 aN_3 aN_4 zN))) := hD
  obtain rfl := Option.some.inj hF
  exact W.iret (v := r_1) hx hb hr (fun t ht hW => ⟨⟨_, (), rfl, rfl, by rw [ht]; exact hP, va_K.moved hW.alike hK, hD⟩, hS.F ht⟩) hS.2.2 dX6_plantedAgo_11
noncomputable def L_X6_lookAt_22 (zX : XS) (zG : GS) (zN : NS) (r_1 : Int32) : Nat → Int32 → Int32 → Int32 → Option (Int32 × Int32 × Int32)
  | 0, _, _, _ => none
  | n + 1, v2_7, v3_8, v4_9 => if (zG.1 3) ≤ v4_9 then (some (v2_7, v3_8, v4_9)) else ((f_X0_mostAlikeOn zG v4_9 r_1).bind fun r_19 => if v2_7 ≤ r_19 then (nm (v4_9 + 1) fun v4_22 => L_X6_lookAt_22 zX zG zN r_1 n v2_7 v3_8 v4_22) else (nm (v4_9 + 1) fun v4_23 => L_X6_lookAt_22 zX zG zN r_1 n r_19 v4_9 v4_23))
noncomputable def f_X6_lookAt (zX : XS) (zG : GS) (zN : NS) : Option (Int32) := (f_X2_yearsThatFit zG zN).bind fun r_1 => (f_J6_bitCount_0f7a4 r_1).bind fun r_3 => nm (-1 : Int32) fun v3_5 => nm (0 : Int32) fun v4_6 => (L_X6_lookAt_22 zX zG zN r_1 3000 r_3 v3_5 v4_6).bind fun q_25 => nm q_25.1 fun v2_12 => nm q_25.2.1 fun v3_13 => nm q_25.2.2 fun v4_14 => some v3_13
set_option maxHeartbeats 4000000 in
set_option maxRecDepth 100000 in
theorem c_X6_lookAt (l : Launch) (D : va_G) (ci : Nat → ClassId) (aX_0 : Nat) (aR_0 : Nat) (aG_0 : Nat) (aS_0 : Nat) (aP_0 : Nat) (aN_0 : Nat) (aI_0 : Nat) (aT_0 : Nat) (aG_1 : Nat) (aG_2 : Nat) (aG_3 : Nat) (aG_4 : Nat) (aN_1 : Nat) (aN_2 : Nat) (aN_3 : Nat) (aN_4 : Nat) (sz : Nat) (zX : XS) (zG : GS) (zN : NS) (res : Int32) (hF : f_X6_lookAt zX zG zN = some res) : CtI l yX6_lookAt wsX6_lookAt { frames := 4, cells := 0, slots := 0, locals := 89 } [.ref aX_0] D ci ((wcX aX_0 aR_0 aG_0 aS_0 aP_0 aN_0 aI_0 aT_0 zX) ++ ((wcG ci aG_0 aG_1 aG_2 aG_3 aG_4 zG) ++ (wcN ci aN_0 aN_1 aN_2 aN_3 aN_4 zN))) sz res ((wcX aX_0 aR_0 aG_0 aS_0 aP_0 aN_0 aI_0 aT_0 zX) ++ ((wcG ci aG_0 aG_1 aG_2 aG_3 aG_4 zG) ++ (wcN ci aN_0 aN_1 aN_2 aN_3 aN_4 zN))) := by
  refine Met.ofW (cc := cX6_lookAt) (maxL := 6) (ret := (some .int)) (by decide) rfl ?_
  intro p e s m args below meth c s₁ B hml hv
  obtain ⟨rfl, hsz, hP, hK, hD0⟩ := hv
  have hx := B.exec
  have hb := B.bytes
  have hr := B.returns
  have hts := atoms_spec (ws := wsX6_lookAt) B.pre
  have hown : s.vm.findClass RX6 = some m.cls := findClass_of_methodNamed B.named
  have hlocks := B.notSynchronized
  subst hsz
  have hD := hD0.self (sz := s.heap.size)
  generalize hAe : va_A ((wcX aX_0 aR_0 aG_0 aS_0 aP_0 aN_0 aI_0 aT_0 zX) ++ ((wcG ci aG_0 aG_1 aG_2 aG_3 aG_4 zG) ++ (wcN ci aN_0 aN_1 aN_2 aN_3 aN_4 zN))) s.heap.size = A at hD ⊢
  have hA : ∀ q : Nat, s.heap.size ≤ q → A q := fun q h => by rw [← hAe]; exact Or.inr h
  clear hD0 hAe
  have hl := lv_entry ([.ref aX_0]) (n := 6) (Nat.le_of_ble_eq_true rfl)
  rw [lg_entry_eq]
  generalize (lg_sl ([.ref aX_0]) ++ List.replicate (6 - (lg_sl ([.ref aX_0])).length) Slot.unset).toArray = ls at hl ⊢
  have hl : lv_has ls 6 [(0, .ref aX_0)] := hl
  have hP : va_P D vwCl ((wcX aX_0 aR_0 aG_0 aS_0 aP_0 aN_0 aI_0 aT_0 zX) ++ ((wcG ci aG_0 aG_1 aG_2 aG_3 aG_4 zG) ++ (wcN ci aN_0 aN_1 aN_2 aN_3 aN_4 zN))) s.heap := hP
  generalize hH0 : s.heap = H at hP ⊢
  have hS : va_S A s.heap H [] := by rw [← hH0]; exact va_S.rf
  clear hH0
  generalize ([] : List Loc) = locs at hS ⊢
  have hk_0 := hts (.fieldLink RX6 40 "HedgeWar" "notes" "LHedgeWar$Notes;") (by decide +kernel)
  have hin_RX6 : ∀ w ∈ wsX60, w ∈ wsX6_lookAt := by decide +kernel
  have hk_2 := hts (.fieldLink RX6 19 "HedgeWar" "ground" "LHedgeWar$Ground;") (by decide +kernel)
  have hk_3 := hts (.fieldLink RX6 106 "HedgeWar$Ground" "edges" "I") (by decide +kernel)
  have hin_RX0 : ∀ w ∈ wsX00, w ∈ wsX6_lookAt := by decide +kernel
  unfold f_X6_lookAt at hF
  refine lv_aload_n hx hb dX6_lookAt_0 rfl (lv_at hl 0 rfl) ?_
  refine va_get (D := D) (ci := 6) (v := .ref aN_0) (C := RX6) (T := TX6) (N := 9) hx hb hts hin_RX6 hown hK hP 0 rfl rfl 4 (by decide) hk_0 (fun _ h9 => h9) rfl dX6_lookAt_1 ?_
  refine lv_aload_n hx hb dX6_lookAt_4 rfl (lv_at hl 0 rfl) ?_
  refine va_get (D := D) (ci := 6) (v := .ref aG_0) (C := RX6) (T := TX6) (N := 9) hx hb hts hin_RX6 hown hK hP 0 rfl rfl 1 (by decide) hk_2 (fun _ h9 => h9) rfl dX6_lookAt_5 ?_
  replace hF := bnd hF
  obtain ⟨r_1, hc_2, hF⟩ := hF
  refine cl_Vi (As := [.ref aG_0]) (rest := []) (wc := ((wcG ci aG_0 aG_1 aG_2 aG_3 aG_4 zG) ++ (wcN ci aN_0 aN_1 aN_2 aN_3 aN_4 zN))) (wr := ([0].filterMap (fun i => ((wcX aX_0 aR_0 aG_0 aS_0 aP_0 aN_0 aI_0 aT_0 zX) ++ ((wcG ci aG_0 aG_1 aG_2 aG_3 aG_4 zG) ++ (wcN ci aN_0 aN_1 aN_2 aN_3 aN_4 zN)))[i]?))) (w1 := ((wcG ci aG_0 aG_1 aG_2 aG_3 aG_4 zG) ++ (wcN ci aN_0 aN_1 aN_2 aN_3 aN_4 zN))) (wn := ((wcX aX_0 aR_0 aG_0 aS_0 aP_0 aN_0 aI_0 aT_0 zX) ++ ((wcG ci aG_0 aG_1 aG_2 aG_3 aG_4 zG) ++ (wcN ci aN_0 aN_1 aN_2 aN_3 aN_4 zN)))) ⟨hx, hb, hml, hown, hts⟩ (cwV 1 hts gX6_lookAt_X2_yearsThatFit rfl rfl rfl (by decide +kernel) ⟨Nat.le_of_ble_eq_true rfl, Nat.le_of_ble_eq_true rfl⟩) (c_X2_yearsThatFit l D ci aG_0 aG_1 aG_2 aG_3 aG_4 aN_0 aN_1 aN_2 aN_3 aN_4 H.size zG zN _ hc_2) hK hP hD hS hA [1, 2, 3, 4, 5, 6, 7, 8, 9, 10] [0] [0, 1, 2, 3, 4, 5, 6, 7, 8, 9, 10] rfl rfl rfl (by decide) 5 rfl rfl rfl rfl hl.1 (Nat.le_of_ble_eq_true rfl) dX6_lookAt_8 (Nat.zero_le _) (Nat.zero_le _) (fun H locs hP hD hS => ?_)
  have hP : va_P D vwCl ((wcX aX_0 aR_0 aG_0 aS_0 aP_0 aN_0 aI_0 aT_0 zX) ++ ((wcG ci aG_0 aG_1 aG_2 aG_3 aG_4 zG) ++ (wcN ci aN_0 aN_1 aN_2 aN_3 aN_4 zN))) H := hP
  have hD : va_D A ((wcX aX_0 aR_0 aG_0 aS_0 aP_0 aN_0 aI_0 aT_0 zX) ++ ((wcG ci aG_0 aG_1 aG_2 aG_3 aG_4 zG) ++ (wcN ci aN_0 aN_1 aN_2 aN_3 aN_4 zN))) := hD
  refine lv_istore_n (lv' := [(1, .int r_1), (0, .ref aX_0)]) hx hb dX6_lookAt_11 rfl hl (by decide) rfl (fun ls hl => ?_)
  refine lv_iload_n hx hb dX6_lookAt_12 rfl (lv_at hl 0 rfl) ?_
  replace hF := bnd hF
  obtain ⟨r_3, hc_4, hF⟩ := hF
  refine cl_Sie (As := [.int r_1]) (rest := []) ⟨hx, hb, hml, hown, hts⟩ (va_cwS 1 hts gX6_lookAt_J6_bitCount_0f7a4 rfl rfl rfl (by decide +kernel) ⟨Nat.le_of_ble_eq_true rfl, Nat.le_of_ble_eq_true rfl⟩) (c_J6_bitCount_0f7a4 l D ci  H.size r_1 _ hc_4) hK hP hD hS hA rfl rfl hl.1 (Nat.le_of_ble_eq_true rfl) dX6_lookAt_13 (Nat.zero_le _) (Nat.zero_le _) (fun H locs hP hD hS => ?_)
  have hP : va_P D vwCl ((wcX aX_0 aR_0 aG_0 aS_0 aP_0 aN_0 aI_0 aT_0 zX) ++ ((wcG ci aG_0 aG_1 aG_2 aG_3 aG_4 zG) ++ (wcN ci aN_0 aN_1 aN_2 aN_3 aN_4 zN))) H := hP
  have hD : va_D A ((wcX aX_0 aR_0 aG_0 aS_0 aP_0 aN_0 aI_0 aT_0 zX) ++ ((wcG ci aG_0 aG_1 aG_2 aG_3 aG_4 zG) ++ (wcN ci aN_0 aN_1 aN_2 aN_3 aN_4 zN))) := hD
  refine lv_istore_n (lv' := [(2, .int r_3), (1, .int r_1), (0, .ref aX_0)]) hx hb dX6_lookAt_16 rfl hl (by decide) rfl (fun ls hl => ?_)
  refine lv_iconst (v := (-1)) hx hb dX6_lookAt_17 (by decide) ?_
  refine lv_topi (fun v3_5 ev3_5 => ?_)
  replace hF := nm_i hF ev3_5
  refine lv_istore_n (lv' := [(3, .int v3_5), (2, .int r_3), (1, .int r_1), (0, .ref aX_0)]) hx hb dX6_lookAt_18 rfl hl (by decide) rfl (fun ls hl => ?_)
  refine lv_iconst (v := 0) hx hb dX6_lookAt_19 (by decide) ?_
  refine lv_topi (fun v4_6 ev4_6 => ?_)
  replace hF := nm_i hF ev4_6
  refine lv_istore (lv' := [(4, .int v4_6), (3, .int v3_5), (2, .int r_3), (1, .int r_1), (0, .ref aX_0)]) hx hb dX6_lookAt_20 hl (by decide) rfl (fun ls hl => ?_)
  replace hF := bnd hF
  obtain ⟨q_25, hv_24, hF⟩ := hF
  obtain ⟨v2_12, ev2_12⟩ : ∃ y : Int32, y = q_25.1 := ⟨_, rfl⟩
  replace hF := nm_i hF ev2_12
  obtain ⟨v3_13, ev3_13⟩ : ∃ y : Int32, y = q_25.2.1 := ⟨_, rfl⟩
  replace hF := nm_i hF ev3_13
  obtain ⟨v4_14, ev4_14⟩ : ∃ y : Int32, y = q_25.2.2 := ⟨_, rfl⟩
  replace hF := nm_i hF ev4_14
  obtain rfl : q_25 = (v2_12, v3_13, v4_14) := by rw [ev2_12, ev3_13, ev4_14]
  clear ev2_12
  clear ev3_13
  clear ev4_14
  refine jn (P := fun H locs ls => va_P D vwCl ((wcX aX_0 aR_0 aG_0 aS_0 aP_0 aN_0 aI_0 aT_0 zX) ++ ((wcG ci aG_0 aG_1 aG_2 aG_3 aG_4 zG) ++ (wcN ci aN_0 aN_1 aN_2 aN_3 aN_4 zN))) H ∧ va_D A ((wcX aX_0 aR_0 aG_0 aS_0 aP_0 aN_0 aI_0 aT_0 zX) ++ ((wcG ci aG_0 aG_1 aG_2 aG_3 aG_4 zG) ++ (wcN ci aN_0 aN_1 aN_2 aN_3 aN_4 zN))) ∧ va_S A s.heap H locs ∧ lv_has ls 6 [(0, .ref aX_0), (1, .int r_1), (2, .int v2_12), (3, .int v3_13), (4, .int v4_14)]) (pcJ := 64) (st := []) ?_ ?_
  · intro H locs ls hJ
    obtain ⟨hP, hD, hS, hl⟩ := hJ
    refine lv_iload_n hx hb dX6_lookAt_64 rfl (lv_at hl 3 rfl) ?_
    obtain rfl := Option.some.inj hF
    exact W.iret (v := v3_13) hx hb hr (fun t ht hW => ⟨⟨_, (), rfl, rfl, by rw [ht]; exact hP, va_K.moved hW.alike hK, hD⟩, hS.F ht⟩) hS.2.2 dX6_lookAt_65
  · intro J_11
    clear hF
    have hF := hv_24
    refine lpW (σ := Int32 × Int32 × Int32) (I := fun n v H locs ls => L_X6_lookAt_22 zX zG zN r_1 n v.1 v.2.1 v.2.2 = some (v2_12, v3_13, v4_14) ∧ va_P D vwCl ((wcX aX_0 aR_0 aG_0 aS_0 aP_0 aN_0 aI_0 aT_0 zX) ++ ((wcG ci aG_0 aG_1 aG_2 aG_3 aG_4 zG) ++ (wcN ci aN_0 aN_1 aN_2 aN_3 aN_4 zN))) H ∧ va_D A ((wcX aX_0 aR_0 aG_0 aS_0 aP_0 aN_0 aI_0 aT_0 zX) ++ ((wcG ci aG_0 aG_1 aG_2 aG_3 aG_4 zG) ++ (wcN ci aN_0 aN_1 aN_2 aN_3 aN_4 zN))) ∧ va_S A s.heap H locs ∧ lv_has ls 6 [(0, .ref aX_0), (1, .int r_1), (2, .int v.1), (3, .int v.2.1), (4, .int v.2.2)]) 3000 (r_3, v3_5, v4_6) (fun _ _ _ _ h => no_none h.1) ⟨hF, hP, hD, hS, lv_sub hl [4, 3, 2, 1, 0] rfl⟩ ?_
    clear hF hP hD hS hl
    intro n ih_10 vq H locs ls hI
    obtain ⟨v2_7, v3_8, v4_9⟩ := vq
    obtain ⟨hF, hP, hD, hS, hl⟩ := hI
    have hP : va_P D vwCl ((wcX aX_0 aR_0 aG_0 aS_0 aP_0 aN_0 aI_0 aT_0 zX) ++ ((wcG ci aG_0 aG_1 aG_2 aG_3 aG_4 zG) ++ (wcN ci aN_0 aN_1 aN_2 aN_3 aN_4 zN))) H := hP
    have hD : va_D A ((wcX aX_0 aR_0 aG_0 aS_0 aP_0 aN_0 aI_0 aT_0 zX) ++ ((wcG ci aG_0 aG_1 aG_2 aG_3 aG_4 zG) ++ (wcN ci aN_0 aN_1 aN_2 aN_3 aN_4 zN))) := hD
    have hl : lv_has ls 6 [(0, .ref aX_0), (1, .int r_1), (2, .int v2_7), (3, .int v3_8), (4, .int v4_9)] := hl
    replace hF : L_X6_lookAt_22 zX zG zN r_1 (n + 1) v2_7 v3_8 v4_9 = some (v2_12, v3_13, v4_14) := hF
    rw [L_X6_lookAt_22] at hF
    refine lv_iload hx hb dX6_lookAt_22 (lv_at hl 4 rfl) ?_
    refine lv_aload_n hx hb dX6_lookAt_24 rfl (lv_at hl 0 rfl) ?_
    refine va_get (D := D) (ci := 6) (v := .ref aG_0) (C := RX6) (T := TX6) (N := 9) hx hb hts hin_RX6 hown hK hP 0 rfl rfl 1 (by decide) hk_2 (fun _ h9 => h9) rfl dX6_lookAt_25 ?_
    refine va_get (D := D) (ci := 0) (v := .int (zG.1 3)) (C := RX0) (T := TX0) (N := 13) hx hb hts hin_RX0 hown hK hP 1 rfl rfl 3 (by decide) hk_3 (fun _ h9 => h9) rfl dX6_lookAt_28 ?_
    refine lv_icmp_ge (tgt := 64) hx hb dX6_lookAt_31 (by decide) (fun c_15 => ?_) (fun c_15 => ?_)
    · replace hF := if_i c_15 hF
      obtain ⟨g_16, g_17, g_18⟩ : v2_7 = v2_12 ∧ v3_8 = v3_13 ∧ v4_9 = v4_14 := by have h9 := Option.some.inj hF; simpa only [Prod.mk.injEq] using h9
      subst g_16
      subst g_17
      subst g_18
      exact J_11 H locs ls ⟨hP, hD, hS, lv_sub hl [0, 1, 2, 3, 4] rfl⟩
    · replace hF := if_o c_15 hF
      refine lv_aload_n hx hb dX6_lookAt_34 rfl (lv_at hl 0 rfl) ?_
      refine va_get (D := D) (ci := 6) (v := .ref aG_0) (C := RX6) (T := TX6) (N := 9) hx hb hts hin_RX6 hown hK hP 0 rfl rfl 1 (by decide) hk_2 (fun _ h9 => h9) rfl dX6_lookAt_35 ?_
      refine lv_iload hx hb dX6_lookAt_38 (lv_at hl 4 rfl) ?_
      refine lv_iload_n hx hb dX6_lookAt_40 rfl (lv_at hl 1 rfl) ?_
      replace hF := bnd hF
      obtain ⟨r_19, hc_20, hF⟩ := hF
      refine cl_Vi (As := [.int v4_9, .int r_1]) (rest := []) (wc := (wcG ci aG_0 aG_1 aG_2 aG_3 aG_4 zG)) (wr := ([0, 6, 7, 8, 9, 10].filterMap (fun i => ((wcX aX_0 aR_0 aG_0 aS_0 aP_0 aN_0 aI_0 aT_0 zX) ++ ((wcG ci aG_0 aG_1 aG_2 aG_3 aG_4 zG) ++ (wcN ci aN_0 aN_1 aN_2 aN_3 aN_4 zN)))[i]?))) (w1 := (wcG ci aG_0 aG_1 aG_2 aG_3 aG_4 zG)) (wn := ((wcX aX_0 aR_0 aG_0 aS_0 aP_0 aN_0 aI_0 aT_0 zX) ++ ((wcG ci aG_0 aG_1 aG_2 aG_3 aG_4 zG) ++ (wcN ci aN_0 aN_1 aN_2 aN_3 aN_4 zN)))) ⟨hx, hb, hml, hown, hts⟩ (cwV 2 hts gX6_lookAt_X0_mostAlikeOn rfl rfl rfl (by decide +kernel) ⟨Nat.le_of_ble_eq_true rfl, Nat.le_of_ble_eq_true rfl⟩) (c_X0_mostAlikeOn l D ci aG_0 aG_1 aG_2 aG_3 aG_4 H.size zG v4_9 r_1 _ hc_20) hK hP hD hS hA [1, 2, 3, 4, 5] [0, 6, 7, 8, 9, 10] [0, 6, 7, 8, 9, 10, 1, 2, 3, 4, 5] rfl rfl rfl (by decide) 0 rfl rfl rfl rfl hl.1 (Nat.le_of_ble_eq_true rfl) dX6_lookAt_41 (Nat.zero_le _) (Nat.zero_le _) (fun H locs hP hD hS => ?_)
      have hP : va_P D vwCl ((wcX aX_0 aR_0 aG_0 aS_0 aP_0 aN_0 aI_0 aT_0 zX) ++ ((wcG ci aG_0 aG_1 aG_2 aG_3 aG_4 zG) ++ (wcN ci aN_0 aN_1 aN_2 aN_3 aN_4 zN))) H := hP
      have hD : va_D A ((wcX aX_0 aR_0 aG_0 aS_0 aP_0 aN_0 aI_0 aT_0 zX) ++ ((wcG ci aG_0 aG_1 aG_2 aG_3 aG_4 zG) ++ (wcN ci aN_0 aN_1 aN_2 aN_3 aN_4 zN))) := hD
      refine lv_istore (lv' := [(5, .int r_19), (0, .ref aX_0), (1, .int r_1), (2, .int v2_7), (3, .int v3_8), (4, .int v4_9)]) hx hb dX6_lookAt_44 hl (by decide) rfl (fun ls hl => ?_)
      refine lv_iload hx hb dX6_lookAt_46 (lv_at hl 0 rfl) ?_
      refine lv_iload_n hx hb dX6_lookAt_48 rfl (lv_at hl 3 rfl) ?_
      refine lv_icmp_ge (tgt := 58) hx hb dX6_lookAt_49 (by decide) (fun c_21 => ?_) (fun c_21 => ?_)
      · replace hF := if_i c_21 hF
        obtain ⟨v4_22, ev4_22⟩ : ∃ y : Int32, y = v4_9 + 1 := ⟨_, rfl⟩
        replace hF := nm_i hF ev4_22
        refine lv_iinc (v := v4_22) (lv' := [(4, .int v4_22), (5, .int r_19), (0, .ref aX_0), (1, .int r_1), (2, .int v2_7), (3, .int v3_8)]) hx hb dX6_lookAt_58 hl (k := 5) rfl (by rw [ev4_22]; rfl) (by decide) rfl (fun ls hl => ?_)
        refine lv_goto (tgt := 22) hx hb dX6_lookAt_61 (by decide) ?_
        exact ih_10 (v2_7, v3_8, v4_22) H locs ls ⟨hF, hP, hD, hS, lv_sub hl [2, 3, 4, 5, 0] rfl⟩
      · replace hF := if_o c_21 hF
        refine lv_iload hx hb dX6_lookAt_52 (lv_at hl 0 rfl) ?_
        refine lv_istore_n (lv' := [(2, .int r_19), (5, .int r_19), (0, .ref aX_0), (1, .int r_1), (3, .int v3_8), (4, .int v4_9)]) hx hb dX6_lookAt_54 rfl hl (by decide) rfl (fun ls hl => ?_)
        refine lv_iload hx hb dX6_lookAt_55 (lv_at hl 5 rfl) ?_
        refine lv_istore_n (lv' := [(3, .int v4_9), (2, .int r_19), (5, .int r_19), (0, .ref aX_0), (1, .int r_1), (4, .int v4_9)]) hx hb dX6_lookAt_57 rfl hl (by decide) rfl (fun ls hl => ?_)
        obtain ⟨v4_23, ev4_23⟩ : ∃ y : Int32, y = v4_9 + 1 := ⟨_, rfl⟩
        replace hF := nm_i hF ev4_23
        refine lv_iinc (v := v4_23) (lv' := [(4, .int v4_23), (3, .int v4_9), (2, .int r_19), (5, .int r_19), (0, .ref aX_0), (1, .int r_1)]) hx hb dX6_lookAt_58 hl (k := 5) rfl (by rw [ev4_23]; rfl) (by decide) rfl (fun ls hl => ?_)
        refine lv_goto (tgt := 22) hx hb dX6_lookAt_61 (by decide) ?_
        exact ih_10 (r_19, v4_9, v4_23) H locs ls ⟨hF, hP, hD, hS, lv_sub hl [4, 5, 2, 1, 0] rfl⟩
noncomputable def f_X6_write (zX : XS) (zG : GS) (zN : NS) (p1 : Int32) (p2 : Int32) : Option (Int32 × NS) := (f_X0_hasField zG p1).bind fun r_1 => if r_1 = 0 then (some ((-1000000001 : Int32), zN)) else ((f_X6_isEstate p2).bind fun r_4 => if r_4 = 0 then (some ((-1000000001 : Int32), zN)) else (if (zN.1 1) < 15 then (ast 15 (zN.1 1) <| nm ((zN.1, va_up zN.2 4 (upd (zN.2 4) (Int32.toNatClampNeg (zN.1 1)) p1)) : NS) fun zN_9 => ast 15 (zN_9.1 1) <| nm ((zN_9.1, va_up zN_9.2 5 (upd (zN_9.2 5) (Int32.toNatClampNeg (zN_9.1 1)) p2)) : NS) fun zN_11 => nm ((zN_11.1 1) + 1) fun f1_12 => nm ((upd zN_11.1 1 f1_12, zN_11.2) : NS) fun zN_13 => some ((zN_13.1 1), zN_13)) else (some ((-1000000004 : Int32), zN))))
set_option maxHeartbeats 4000000 in
set_option maxRecDepth 100000 in
theorem c_X6_write (l : Launch) (D : va_G) (ci : Nat → ClassId) (aX_0 : Nat) (aR_0 : Nat) (aG_0 : Nat) (aS_0 : Nat) (aP_0 : Nat) (aN_0 : Nat) (aI_0 : Nat) (aT_0 : Nat) (aG_1 : Nat) (aG_2 : Nat) (aG_3 : Nat) (aG_4 : Nat) (aN_1 : Nat) (aN_2 : Nat) (aN_3 : Nat) (aN_4 : Nat) (sz : Nat) (zX : XS) (zG : GS) (zN : NS) (p1 : Int32) (p2 : Int32) (res : Int32 × NS) (hF : f_X6_write zX zG zN p1 p2 = some res) : CtI l yX6_write wsX6_write { frames := 1, cells := 0, slots := 0, locals := 21 } [.ref aX_0, .int p1, .int p2] D ci ((wcX aX_0 aR_0 aG_0 aS_0 aP_0 aN_0 aI_0 aT_0 zX) ++ ((wcG ci aG_0 aG_1 aG_2 aG_3 aG_4 zG) ++ (wcN ci aN_0 aN_1 aN_2 aN_3 aN_4 zN))) sz res.1 ((wcX aX_0 aR_0 aG_0 aS_0 aP_0 aN_0 aI_0 aT_0 zX) ++ ((wcG ci aG_0 aG_1 aG_2 aG_3 aG_4 zG) ++ (wcN ci aN_0 aN_1 aN_2 aN_3 aN_4 res.2))) := by
  refine Met.ofW (cc := cX6_write) (maxL := 3) (ret := (some .int)) (by decide) rfl ?_
  intro p e s m args below meth c s₁ B hml hv
  obtain ⟨rfl, hsz, hP, hK, hD0⟩ := hv
  have hx := B.exec
  have hb := B.bytes
  have hr := B.returns
  have hts := atoms_spec (ws := wsX6_write) B.pre
  have hown : s.vm.findClass RX6 = some m.cls := findClass_of_methodNamed B.named
  have hlocks := B.notSynchronized
  subst hsz
  have hD := hD0.self (sz := s.heap.size)
  generalize hAe : va_A ((wcX aX_0 aR_0 aG_0 aS_0 aP_0 aN_0 aI_0 aT_0 zX) ++ ((wcG ci aG_0 aG_1 aG_2 aG_3 aG_4 zG) ++ (wcN ci aN_0 aN_1 aN_2 aN_3 aN_4 zN))) s.heap.size = A at hD ⊢
  have hA : ∀ q : Nat, s.heap.size ≤ q → A q := fun q h => by rw [← hAe]; exact Or.inr h
  clear hD0 hAe
  have hl := lv_entry ([.ref aX_0, .int p1, .int p2]) (n := 3) (Nat.le_of_ble_eq_true rfl)
  rw [lg_entry_eq]
  generalize (lg_sl ([.ref aX_0, .int p1, .int p2]) ++ List.replicate (3 - (lg_sl ([.ref aX_0, .int p1, .int p2])).length) Slot.unset).toArray = ls at hl ⊢
  have hl : lv_has ls 3 [(0, .ref aX_0), (1, .int p1), (2, .int p2)] := hl
  have hP : va_P D vwCl ((wcX aX_0 aR_0 aG_0 aS_0 aP_0 aN_0 aI_0 aT_0 zX) ++ ((wcG ci aG_0 aG_1 aG_2 aG_3 aG_4 zG) ++ (wcN ci aN_0 aN_1 aN_2 aN_3 aN_4 zN))) s.heap := hP
  generalize hH0 : s.heap = H at hP ⊢
  have hS : va_S A s.heap H [] := by rw [← hH0]; exact va_S.rf
  clear hH0
  generalize ([] : List Loc) = locs at hS ⊢
  have hk_0 := hts (.fieldLink RX6 19 "HedgeWar" "ground" "LHedgeWar$Ground;") (by decide +kernel)
  have hin_RX6 : ∀ w ∈ wsX60, w ∈ wsX6_write := by decide +kernel
  have hk_2 := hts (.constant RX6 147 (-1000000001)) (by decide +kernel)
  have hk_3 := hts (.fieldLink RX6 40 "HedgeWar" "notes" "LHedgeWar$Notes;") (by decide +kernel)
  have hk_4 := hts (.fieldLink RX6 137 "HedgeWar$Notes" "entries" "I") (by decide +kernel)
  have hin_RX2 : ∀ w ∈ wsX20, w ∈ wsX6_write := by decide +kernel
  have hk_6 := hts (.fieldLink RX6 272 "HedgeWar$Notes" "entryFields" "[I") (by decide +kernel)
  have hk_7 := hts (.fieldLink RX6 275 "HedgeWar$Notes" "entryEstates" "[I") (by decide +kernel)
  have hk_8 := hts (.constant RX6 66 (-1000000004)) (by decide +kernel)
  unfold f_X6_write at hF
  refine lv_aload_n hx hb dX6_write_0 rfl (lv_at hl 0 rfl) ?_
  refine va_get (D := D) (ci := 6) (v := .ref aG_0) (C := RX6) (T := TX6) (N := 9) hx hb hts hin_RX6 hown hK hP 0 rfl rfl 1 (by decide) hk_0 (fun _ h9 => h9) rfl dX6_write_1 ?_
  refine lv_iload_n hx hb dX6_write_4 rfl (lv_at hl 1 rfl) ?_
  replace hF := bnd hF
  obtain ⟨r_1, hc_2, hF⟩ := hF
  refine cl_Vi (As := [.int p1]) (rest := []) (wc := (wcG ci aG_0 aG_1 aG_2 aG_3 aG_4 zG)) (wr := ([0, 6, 7, 8, 9, 10].filterMap (fun i => ((wcX aX_0 aR_0 aG_0 aS_0 aP_0 aN_0 aI_0 aT_0 zX) ++ ((wcG ci aG_0 aG_1 aG_2 aG_3 aG_4 zG) ++ (wcN ci aN_0 aN_1 aN_2 aN_3 aN_4 zN)))[i]?))) (w1 := (wcG ci aG_0 aG_1 aG_2 aG_3 aG_4 zG)) (wn := ((wcX aX_0 aR_0 aG_0 aS_0 aP_0 aN_0 aI_0 aT_0 zX) ++ ((wcG ci aG_0 aG_1 aG_2 aG_3 aG_4 zG) ++ (wcN ci aN_0 aN_1 aN_2 aN_3 aN_4 zN)))) ⟨hx, hb, hml, hown, hts⟩ (cwV 1 hts gX6_write_X0_hasField rfl rfl rfl (by decide +kernel) ⟨Nat.le_of_ble_eq_true rfl, Nat.le_of_ble_eq_true rfl⟩) (c_X0_hasField l D ci aG_0 aG_1 aG_2 aG_3 aG_4 H.size zG p1 _ hc_2) hK hP hD hS hA [1, 2, 3, 4, 5] [0, 6, 7, 8, 9, 10] [0, 6, 7, 8, 9, 10, 1, 2, 3, 4, 5] rfl rfl rfl (by decide) 0 rfl rfl rfl rfl hl.1 (Nat.le_of_ble_eq_true rfl) dX6_write_5 (Nat.zero_le _) (Nat.zero_le _) (fun H locs hP hD hS => ?_)
  have hP : va_P D vwCl ((wcX aX_0 aR_0 aG_0 aS_0 aP_0 aN_0 aI_0 aT_0 zX) ++ ((wcG ci aG_0 aG_1 aG_2 aG_3 aG_4 zG) ++ (wcN ci aN_0 aN_1 aN_2 aN_3 aN_4 zN))) H := hP
  have hD : va_D A ((wcX aX_0 aR_0 aG_0 aS_0 aP_0 aN_0 aI_0 aT_0 zX) ++ ((wcG ci aG_0 aG_1 aG_2 aG_3 aG_4 zG) ++ (wcN ci aN_0 aN_1 aN_2 aN_3 aN_4 zN))) := hD
  refine lv_if_eq (tgt := 18) hx hb dX6_write_8 (by decide) (fun c_3 => ?_) (fun c_3 => ?_)
  · replace hF := if_i c_3 hF
    refine lv_ldc (v := (-1000000001)) hx hb hown hk_2 dX6_write_18 ?_
    obtain rfl := Option.some.inj hF
    exact W.iret (v := (-1000000001)) hx hb hr (fun t ht hW => ⟨⟨_, (), rfl, rfl, by rw [ht]; exact hP, va_K.moved hW.alike hK, hD⟩, hS.F ht⟩) hS.2.2 dX6_write_20
  · replace hF := if_o c_3 hF
    refine lv_iload_n hx hb dX6_write_11 rfl (lv_at hl 2 rfl) ?_
    replace hF := bnd hF
    obtain ⟨r_4, hc_5, hF⟩ := hF
    refine cl_Sie (As := [.int p2]) (rest := []) ⟨hx, hb, hml, hown, hts⟩ (va_cwS 1 hts gX6_write_X6_isEstate rfl rfl rfl (by decide +kernel) ⟨Nat.le_of_ble_eq_true rfl, Nat.le_of_ble_eq_true rfl⟩) (c_X6_isEstate l D ci  H.size p2 _ hc_5) hK hP hD hS hA rfl rfl hl.1 (Nat.le_of_ble_eq_true rfl) dX6_write_12 (Nat.zero_le _) (Nat.zero_le _) (fun H locs hP hD hS => ?_)
    have hP : va_P D vwCl ((wcX aX_0 aR_0 aG_0 aS_0 aP_0 aN_0 aI_0 aT_0 zX) ++ ((wcG ci aG_0 aG_1 aG_2 aG_3 aG_4 zG) ++ (wcN ci aN_0 aN_1 aN_2 aN_3 aN_4 zN))) H := hP
    have hD : va_D A ((wcX aX_0 aR_0 aG_0 aS_0 aP_0 aN_0 aI_0 aT_0 zX) ++ ((wcG ci aG_0 aG_1 aG_2 aG_3 aG_4 zG) ++ (wcN ci aN_0 aN_1 aN_2 aN_3 aN_4 zN))) := hD
    refine lv_if_ne (tgt := 21) hx hb dX6_write_15 (by decide) (fun c_6 => ?_) (fun c_6 => ?_)
    · replace hF := if_o c_6 hF
      refine lv_aload_n hx hb dX6_write_21 rfl (lv_at hl 0 rfl) ?_
      refine va_get (D := D) (ci := 6) (v := .ref aN_0) (C := RX6) (T := TX6) (N := 9) hx hb hts hin_RX6 hown hK hP 0 rfl rfl 4 (by decide) hk_3 (fun _ h9 => h9) rfl dX6_write_22 ?_
      refine va_get (D := D) (ci := 2) (v := .int (zN.1 1)) (C := RX2) (T := TX2) (N := 6) hx hb hts hin_RX2 hown hK hP 6 rfl rfl 1 (by decide) hk_4 (fun _ h9 => h9) rfl dX6_write_25 ?_
      refine lv_bipush (v := 15) hx hb dX6_write_28 (by decide) ?_
      refine lv_icmp_lt (tgt := 36) hx hb dX6_write_30 (by decide) (fun c_7 => ?_) (fun c_7 => ?_)
      · replace hF := if_i c_7 hF
        refine lv_aload_n hx hb dX6_write_36 rfl (lv_at hl 0 rfl) ?_
        refine va_get (D := D) (ci := 6) (v := .ref aN_0) (C := RX6) (T := TX6) (N := 9) hx hb hts hin_RX6 hown hK hP 0 rfl rfl 4 (by decide) hk_3 (fun _ h9 => h9) rfl dX6_write_37 ?_
        refine va_get (D := D) (ci := 2) (v := .ref aN_3) (C := RX2) (T := TX2) (N := 6) hx hb hts hin_RX2 hown hK hP 6 rfl rfl 4 (by decide) hk_6 (fun _ h9 => h9) rfl dX6_write_40 ?_
        refine lv_aload_n hx hb dX6_write_43 rfl (lv_at hl 0 rfl) ?_
        refine va_get (D := D) (ci := 6) (v := .ref aN_0) (C := RX6) (T := TX6) (N := 9) hx hb hts hin_RX6 hown hK hP 0 rfl rfl 4 (by decide) hk_3 (fun _ h9 => h9) rfl dX6_write_44 ?_
        refine va_get (D := D) (ci := 2) (v := .int (zN.1 1)) (C := RX2) (T := TX2) (N := 6) hx hb hts hin_RX2 hown hK hP 6 rfl rfl 1 (by decide) hk_4 (fun _ h9 => h9) rfl dX6_write_47 ?_
        refine lv_iload_n hx hb dX6_write_50 rfl (lv_at hl 1 rfl) ?_
        replace hF := ast_i hF
        obtain ⟨hin_8, hF⟩ := hF
        refine va_iast (x := p1) hx hb hK hP hD hS 9 0 rfl rfl hin_8 dX6_write_51 (fun H locs hP hD hS => ?_)
        obtain ⟨zN_9, ezN_9⟩ : ∃ y : NS, y = (zN.1, va_up zN.2 4 (upd (zN.2 4) (Int32.toNatClampNeg (zN.1 1)) p1)) := ⟨_, rfl⟩
        replace hF := nm_i hF ezN_9
        have hP : va_P D vwCl ((wcX aX_0 aR_0 aG_0 aS_0 aP_0 aN_0 aI_0 aT_0 zX) ++ ((wcG ci aG_0 aG_1 aG_2 aG_3 aG_4 zG) ++ (wcN ci aN_0 aN_1 aN_2 aN_3 aN_4 zN_9))) H := by rw [ezN_9]; exact hP
        have hD : va_D A ((wcX aX_0 aR_0 aG_0 aS_0 aP_0 aN_0 aI_0 aT_0 zX) ++ ((wcG ci aG_0 aG_1 aG_2 aG_3 aG_4 zG) ++ (wcN ci aN_0 aN_1 aN_2 aN_3 aN_4 zN_9))) := by rw [ezN_9]; exact hD
        refine lv_aload_n hx hb dX6_write_52 rfl (lv_at hl 0 rfl) ?_
        refine va_get (D := D) (ci := 6) (v := .ref aN_0) (C := RX6) (T := TX6) (N := 9) hx hb hts hin_RX6 hown hK hP 0 rfl rfl 4 (by decide) hk_3 (fun _ h9 => h9) rfl dX6_write_53 ?_
        refine va_get (D := D) (ci := 2) (v := .ref aN_4) (C := RX2) (T := TX2) (N := 6) hx hb hts hin_RX2 hown hK hP 6 rfl rfl 5 (by decide) hk_7 (fun _ h9 => h9) rfl dX6_write_56 ?_
        refine lv_aload_n hx hb dX6_write_59 rfl (lv_at hl 0 rfl) ?_
        refine va_get (D := D) (ci := 6) (v := .ref aN_0) (C := RX6) (T := TX6) (N := 9) hx hb hts hin_RX6 hown hK hP 0 rfl rfl 4 (by decide) hk_3 (fun _ h9 => h9) rfl dX6_write_60 ?_
        refine va_get (D := D) (ci := 2) (v := .int (zN_9.1 1)) (C := RX2) (T := TX2) (N := 6) hx hb hts hin_RX2 hown hK hP 6 rfl rfl 1 (by decide) hk_4 (fun _ h9 => h9) rfl dX6_write_63 ?_
        refine lv_iload_n hx hb dX6_write_66 rfl (lv_at hl 2 rfl) ?_
        replace hF := ast_i hF
        obtain ⟨hin_10, hF⟩ := hF
        refine va_iast (x := p2) hx hb hK hP hD hS 10 0 rfl rfl hin_10 dX6_write_67 (fun H locs hP hD hS => ?_)
        obtain ⟨zN_11, ezN_11⟩ : ∃ y : NS, y = (zN_9.1, va_up zN_9.2 5 (upd (zN_9.2 5) (Int32.toNatClampNeg (zN_9.1 1)) p2)) := ⟨_, rfl⟩
        replace hF := nm_i hF ezN_11
        have hP : va_P D vwCl ((wcX aX_0 aR_0 aG_0 aS_0 aP_0 aN_0 aI_0 aT_0 zX) ++ ((wcG ci aG_0 aG_1 aG_2 aG_3 aG_4 zG) ++ (wcN ci aN_0 aN_1 aN_2 aN_3 aN_4 zN_11))) H := by rw [ezN_11]; exact hP
        have hD : va_D A ((wcX aX_0 aR_0 aG_0 aS_0 aP_0 aN_0 aI_0 aT_0 zX) ++ ((wcG ci aG_0 aG_1 aG_2 aG_3 aG_4 zG) ++ (wcN ci aN_0 aN_1 aN_2 aN_3 aN_4 zN_11))) := by rw [ezN_11]; exact hD
        refine lv_aload_n hx hb dX6_write_68 rfl (lv_at hl 0 rfl) ?_
        refine va_get (D := D) (ci := 6) (v := .ref aN_0) (C := RX6) (T := TX6) (N := 9) hx hb hts hin_RX6 hown hK hP 0 rfl rfl 4 (by decide) hk_3 (fun _ h9 => h9) rfl dX6_write_69 ?_
        refine lv_dup hx hb dX6_write_72 rfl ?_
        refine va_get (D := D) (ci := 2) (v := .int (zN_11.1 1)) (C := RX2) (T := TX2) (N := 6) hx hb hts hin_RX2 hown hK hP 6 rfl rfl 1 (by decide) hk_4 (fun _ h9 => h9) rfl dX6_write_73 ?_
        refine lv_iconst (v := 1) hx hb dX6_write_76 (by decide) ?_
        refine lv_iadd hx hb dX6_write_77 ?_
        refine lv_topi (fun f1_12 ef1_12 => ?_)
        replace hF := nm_i hF ef1_12
        refine va_put (D := D) (ci := 2) (v := .int f1_12) (ty := .int) (C := RX2) (T := TX2) (N := 6) hx hb hts hin_RX2 tyX2 tyX2_ok nmX2 hown hK hP hD hS 6 rfl rfl 1 (by decide) hk_4 (fun _ h9 => h9) rfl (by decide +kernel) rfl rfl (Nat.le_of_ble_eq_true rfl) dX6_write_78 (fun H locs hP hD hS => ?_)
        obtain ⟨zN_13, ezN_13⟩ : ∃ y : NS, y = (upd zN_11.1 1 f1_12, zN_11.2) := ⟨_, rfl⟩
        replace hF := nm_i hF ezN_13
        have hP : va_P D vwCl ((wcX aX_0 aR_0 aG_0 aS_0 aP_0 aN_0 aI_0 aT_0 zX) ++ ((wcG ci aG_0 aG_1 aG_2 aG_3 aG_4 zG) ++ (wcN ci aN_0 aN_1 aN_2 aN_3 aN_4 zN_13))) H := by rw [ezN_13]; exact hP
        have hD : va_D A ((wcX aX_0 aR_0 aG_0 aS_0 aP_0 aN_0 aI_0 aT_0 zX) ++ ((wcG ci aG_0 aG_1 aG_2 aG_3 aG_4 zG) ++ (wcN ci aN_0 aN_1 aN_2 aN_3 aN_4 zN_13))) := by rw [ezN_13]; exact hD
        refine lv_aload_n hx hb dX6_write_81 rfl (lv_at hl 0 rfl) ?_
        refine va_get (D := D) (ci := 6) (v := .ref aN_0) (C := RX6) (T := TX6) (N := 9) hx hb hts hin_RX6 hown hK hP 0 rfl rfl 4 (by decide) hk_3 (fun _ h9 => h9) rfl dX6_write_82 ?_
        refine va_get (D := D) (ci := 2) (v := .int (zN_13.1 1)) (C := RX2) (T := TX2) (N := 6) hx hb hts hin_RX2 hown hK hP 6 rfl rfl 1 (by decide) hk_4 (fun _ h9 => h9) rfl dX6_write_85 ?_
        obtain rfl := Option.some.inj hF
        exact W.iret (v := (zN_13.1 1)) hx hb hr (fun t ht hW => ⟨⟨_, (), rfl, rfl, by rw [ht]; exact hP, va_K.moved hW.alike hK, hD⟩, hS.F ht⟩) hS.2.2 dX6_write_88
      · replace hF := if_o c_7 hF
        refine lv_ldc (v := (-1000000004)) hx hb hown hk_8 dX6_write_33 ?_
        obtain rfl := Option.some.inj hF
        exact W.iret (v := (-1000000004)) hx hb hr (fun t ht hW => ⟨⟨_, (), rfl, rfl, by rw [ht]; exact hP, va_K.moved hW.alike hK, hD⟩, hS.F ht⟩) hS.2.2 dX6_write_35
    · replace hF := if_i c_6 hF
      refine lv_ldc (v := (-1000000001)) hx hb hown hk_2 dX6_write_18 ?_
      obtain rfl := Option.some.inj hF
      exact W.iret (v := (-1000000001)) hx hb hr (fun t ht hW => ⟨⟨_, (), rfl, rfl, by rw [ht]; exact hP, va_K.moved hW.alike hK, hD⟩, hS.F ht⟩) hS.2.2 dX6_write_20
noncomputable def f_X6_tear (zX : XS) (zN : NS) : Option (Int32 × NS) := nm ((zN.1 0) + (zN.1 1)) fun v1_1 => (f_X2_forget zN).bind fun zN_2 => some (v1_1, zN_2)
set_option maxHeartbeats 4000000 in
set_option maxRecDepth 100000 in
theorem c_X6_tear (l : Launch) (D : va_G) (ci : Nat → ClassId) (aX_0 : Nat) (aR_0 : Nat) (aG_0 : Nat) (aS_0 : Nat) (aP_0 : Nat) (aN_0 : Nat) (aI_0 : Nat) (aT_0 : Nat) (aN_1 : Nat) (aN_2 : Nat) (aN_3 : Nat) (aN_4 : Nat) (sz : Nat) (zX : XS) (zN : NS) (res : Int32 × NS) (hF : f_X6_tear zX zN = some res) : CtI l yX6_tear wsX6_tear { frames := 1, cells := 0, slots := 0, locals := 20 } [.ref aX_0] D ci ((wcX aX_0 aR_0 aG_0 aS_0 aP_0 aN_0 aI_0 aT_0 zX) ++ (wcN ci aN_0 aN_1 aN_2 aN_3 aN_4 zN)) sz res.1 ((wcX aX_0 aR_0 aG_0 aS_0 aP_0 aN_0 aI_0 aT_0 zX) ++ (wcN ci aN_0 aN_1 aN_2 aN_3 aN_4 res.2)) := by
  refine Met.ofW (cc := cX6_tear) (maxL := 2) (ret := (some .int)) (by decide) rfl ?_
  intro p e s m args below meth c s₁ B hml hv
  obtain ⟨rfl, hsz, hP, hK, hD0⟩ := hv
  have hx := B.exec
  have hb := B.bytes
  have hr := B.returns
  have hts := atoms_spec (ws := wsX6_tear) B.pre
  have hown : s.vm.findClass RX6 = some m.cls := findClass_of_methodNamed B.named
  have hlocks := B.notSynchronized
  subst hsz
  have hD := hD0.self (sz := s.heap.size)
  generalize hAe : va_A ((wcX aX_0 aR_0 aG_0 aS_0 aP_0 aN_0 aI_0 aT_0 zX) ++ (wcN ci aN_0 aN_1 aN_2 aN_3 aN_4 zN)) s.heap.size = A at hD ⊢
  have hA : ∀ q : Nat, s.heap.size ≤ q → A q := fun q h => by rw [← hAe]; exact Or.inr h
  clear hD0 hAe
  have hl := lv_entry ([.ref aX_0]) (n := 2) (Nat.le_of_ble_eq_true rfl)
  rw [lg_entry_eq]
  generalize (lg_sl ([.ref aX_0]) ++ List.replicate (2 - (lg_sl ([.ref aX_0])).length) Slot.unset).toArray = ls at hl ⊢
  have hl : lv_has ls 2 [(0, .ref aX_0)] := hl
  have hP : va_P D vwCl ((wcX aX_0 aR_0 aG_0 aS_0 aP_0 aN_0 aI_0 aT_0 zX) ++ (wcN ci aN_0 aN_1 aN_2 aN_3 aN_4 zN)) s.heap := hP
  generalize hH0 : s.heap = H at hP ⊢
  have hS : va_S A s.heap H [] := by rw [← hH0]; exact va_S.rf
  clear hH0
  generalize ([] : List Loc) = locs at hS ⊢
  have hk_0 := hts (.fieldLink RX6 40 "HedgeWar" "notes" "LHedgeWar$Notes;") (by decide +kernel)
  have hin_RX6 : ∀ w ∈ wsX60, w ∈ wsX6_tear := by decide +kernel
  have hk_2 := hts (.fieldLink RX6 134 "HedgeWar$Notes" "roots" "I") (by decide +kernel)
  have hin_RX2 : ∀ w ∈ wsX20, w ∈ wsX6_tear := by decide +kernel
  have hk_4 := hts (.fieldLink RX6 137 "HedgeWar$Notes" "entries" "I") (by decide +kernel)
  unfold f_X6_tear at hF
  refine lv_aload_n hx hb dX6_tear_0 rfl (lv_at hl 0 rfl) ?_
  refine va_get (D := D) (ci := 6) (v := .ref aN_0) (C := RX6) (T := TX6) (N := 9) hx hb hts hin_RX6 hown hK hP 0 rfl rfl 4 (by decide) hk_0 (fun _ h9 => h9) rfl dX6_tear_1 ?_
  refine va_get (D := D) (ci := 2) (v := .int (zN.1 0)) (C := RX2) (T := TX2) (N := 6) hx hb hts hin_RX2 hown hK hP 1 rfl rfl 0 (by decide) hk_2 (fun _ h9 => h9) rfl dX6_tear_4 ?_
  refine lv_aload_n hx hb dX6_tear_7 rfl (lv_at hl 0 rfl) ?_
  refine va_get (D := D) (ci := 6) (v := .ref aN_0) (C := RX6) (T := TX6) (N := 9) hx hb hts hin_RX6 hown hK hP 0 rfl rfl 4 (by decide) hk_0 (fun _ h9 => h9) rfl dX6_tear_8 ?_
  refine va_get (D := D) (ci := 2) (v := .int (zN.1 1)) (C := RX2) (T := TX2) (N := 6) hx hb hts hin_RX2 hown hK hP 1 rfl rfl 1 (by decide) hk_4 (fun _ h9 => h9) rfl dX6_tear_11 ?_
  refine lv_iadd hx hb dX6_tear_14 ?_
  refine lv_topi (fun v1_1 ev1_1 => ?_)
  replace hF := nm_i hF ev1_1
  refine lv_istore_n (lv' := [(1, .int v1_1), (0, .ref aX_0)]) hx hb dX6_tear_15 rfl hl (by decide) rfl (fun ls hl => ?_)
  refine lv_aload_n hx hb dX6_tear_16 rfl (lv_at hl 1 rfl) ?_
  refine va_get (D := D) (ci := 6) (v := .ref aN_0) (C := RX6) (T := TX6) (N := 9) hx hb hts hin_RX6 hown hK hP 0 rfl rfl 4 (by decide) hk_0 (fun _ h9 => h9) rfl dX6_tear_17 ?_
  replace hF := bnd hF
  obtain ⟨zN_2, hc_3, hF⟩ := hF
  refine cl_Vv (As := []) (rest := []) (wc := (wcN ci aN_0 aN_1 aN_2 aN_3 aN_4 zN)) (wr := ([0].filterMap (fun i => ((wcX aX_0 aR_0 aG_0 aS_0 aP_0 aN_0 aI_0 aT_0 zX) ++ (wcN ci aN_0 aN_1 aN_2 aN_3 aN_4 zN))[i]?))) (w1 := (wcN ci aN_0 aN_1 aN_2 aN_3 aN_4 zN_2)) (wn := ((wcX aX_0 aR_0 aG_0 aS_0 aP_0 aN_0 aI_0 aT_0 zX) ++ (wcN ci aN_0 aN_1 aN_2 aN_3 aN_4 zN_2))) ⟨hx, hb, hml, hown, hts⟩ (cwV 0 hts gX6_tear_X2_forget rfl rfl rfl (by decide +kernel) ⟨Nat.le_of_ble_eq_true rfl, Nat.le_of_ble_eq_true rfl⟩) (c_X2_forget l D ci aN_0 aN_1 aN_2 aN_3 aN_4 H.size zN _ hc_3) hK hP hD hS hA [1, 2, 3, 4, 5] [0] [0, 1, 2, 3, 4, 5] rfl rfl rfl (by decide) 0 rfl rfl rfl rfl hl.1 (Nat.le_of_ble_eq_true rfl) dX6_tear_20 (Nat.zero_le _) (Nat.zero_le _) (fun H locs hP hD hS => ?_)
  have hP : va_P D vwCl ((wcX aX_0 aR_0 aG_0 aS_0 aP_0 aN_0 aI_0 aT_0 zX) ++ (wcN ci aN_0 aN_1 aN_2 aN_3 aN_4 zN_2)) H := hP
  have hD : va_D A ((wcX aX_0 aR_0 aG_0 aS_0 aP_0 aN_0 aI_0 aT_0 zX) ++ (wcN ci aN_0 aN_1 aN_2 aN_3 aN_4 zN_2)) := hD
  refine lv_iload_n hx hb dX6_tear_23 rfl (lv_at hl 0 rfl) ?_
  obtain rfl := Option.some.inj hF
  exact W.iret (v := v1_1) hx hb hr (fun t ht hW => ⟨⟨_, (), rfl, rfl, by rw [ht]; exact hP, va_K.moved hW.alike hK, hD⟩, hS.F ht⟩) hS.2.2 dX6_tear_24
noncomputable def L_X6_judge_2 (zX : XS) (zS : SS) (zN : NS) : Nat → Int32 → Option (Int32)
  | 0, _ => none
  | n + 1, v1_2 => if (zN.1 1) ≤ v1_2 then (some (-1 : Int32)) else (ald 15 (zN.2 4) v1_2 fun x_7 => (f_X5_ownerOf zS x_7).bind fun r_8 => ald 15 (zN.2 5) v1_2 fun x_11 => if r_8 = x_11 then (nm (v1_2 + 1) fun v1_13 => L_X6_judge_2 zX zS zN n v1_13) else (some v1_2))
noncomputable def f_X6_judge (zX : XS) (zS : SS) (zN : NS) : Option (Int32) := nm (0 : Int32) fun v1_1 => L_X6_judge_2 zX zS zN 3000 v1_1
set_option maxHeartbeats 4000000 in
set_option maxRecDepth 100000 in
theorem c_X6_judge (l : Launch) (D : va_G) (ci : Nat → ClassId) (aX_0 : Nat) (aR_0 : Nat) (aG_0 : Nat) (aS_0 : Nat) (aP_0 : Nat) (aN_0 : Nat) (aI_0 : Nat) (aT_0 : Nat) (aS_1 : Nat) (aN_1 : Nat) (aN_2 : Nat) (aN_3 : Nat) (aN_4 : Nat) (sz : Nat) (zX : XS) (zS : SS) (zN : NS) (res : Int32) (hF : f_X6_judge zX zS zN = some res) : CtI l yX6_judge wsX6_judge { frames := 1, cells := 0, slots := 0, locals := 21 } [.ref aX_0] D ci ((wcX aX_0 aR_0 aG_0 aS_0 aP_0 aN_0 aI_0 aT_0 zX) ++ ((wcS ci aS_0 aS_1 zS) ++ (wcN ci aN_0 aN_1 aN_2 aN_3 aN_4 zN))) sz res ((wcX aX_0 aR_0 aG_0 aS_0 aP_0 aN_0 aI_0 aT_0 zX) ++ ((wcS ci aS_0 aS_1 zS) ++ (wcN ci aN_0 aN_1 aN_2 aN_3 aN_4 zN))) := by
  refine Met.ofW (cc := cX6_judge) (maxL := 2) (ret := (some .int)) (by decide) rfl ?_
  intro p e s m args below meth c s₁ B hml hv
  obtain ⟨rfl, hsz, hP, hK, hD0⟩ := hv
  have hx := B.exec
  have hb := B.bytes
  have hr := B.returns
  have hts := atoms_spec (ws := wsX6_judge) B.pre
  have hown : s.vm.findClass RX6 = some m.cls := findClass_of_methodNamed B.named
  have hlocks := B.notSynchronized
  subst hsz
  have hD := hD0.self (sz := s.heap.size)
  generalize hAe : va_A ((wcX aX_0 aR_0 aG_0 aS_0 aP_0 aN_0 aI_0 aT_0 zX) ++ ((wcS ci aS_0 aS_1 zS) ++ (wcN ci aN_0 aN_1 aN_2 aN_3 aN_4 zN))) s.heap.size = A at hD ⊢
  have hA : ∀ q : Nat, s.heap.size ≤ q → A q := fun q h => by rw [← hAe]; exact Or.inr h
  clear hD0 hAe
  have hl := lv_entry ([.ref aX_0]) (n := 2) (Nat.le_of_ble_eq_true rfl)
  rw [lg_entry_eq]
  generalize (lg_sl ([.ref aX_0]) ++ List.replicate (2 - (lg_sl ([.ref aX_0])).length) Slot.unset).toArray = ls at hl ⊢
  have hl : lv_has ls 2 [(0, .ref aX_0)] := hl
  have hP : va_P D vwCl ((wcX aX_0 aR_0 aG_0 aS_0 aP_0 aN_0 aI_0 aT_0 zX) ++ ((wcS ci aS_0 aS_1 zS) ++ (wcN ci aN_0 aN_1 aN_2 aN_3 aN_4 zN))) s.heap := hP
  generalize hH0 : s.heap = H at hP ⊢
  have hS : va_S A s.heap H [] := by rw [← hH0]; exact va_S.rf
  clear hH0
  generalize ([] : List Loc) = locs at hS ⊢
  have hk_0 := hts (.fieldLink RX6 40 "HedgeWar" "notes" "LHedgeWar$Notes;") (by decide +kernel)
  have hin_RX6 : ∀ w ∈ wsX60, w ∈ wsX6_judge := by decide +kernel
  have hk_2 := hts (.fieldLink RX6 137 "HedgeWar$Notes" "entries" "I") (by decide +kernel)
  have hin_RX2 : ∀ w ∈ wsX20, w ∈ wsX6_judge := by decide +kernel
  have hk_4 := hts (.fieldLink RX6 26 "HedgeWar" "now" "LHedgeWar$Stand;") (by decide +kernel)
  have hk_5 := hts (.fieldLink RX6 272 "HedgeWar$Notes" "entryFields" "[I") (by decide +kernel)
  have hk_6 := hts (.fieldLink RX6 275 "HedgeWar$Notes" "entryEstates" "[I") (by decide +kernel)
  unfold f_X6_judge at hF
  refine lv_iconst (v := 0) hx hb dX6_judge_0 (by decide) ?_
  refine lv_topi (fun v1_1 ev1_1 => ?_)
  replace hF := nm_i hF ev1_1
  refine lv_istore_n (lv' := [(1, .int v1_1), (0, .ref aX_0)]) hx hb dX6_judge_1 rfl hl (by decide) rfl (fun ls hl => ?_)
  refine lpW (σ := Int32) (I := fun n v H locs ls => L_X6_judge_2 zX zS zN n v = some res ∧ va_P D vwCl ((wcX aX_0 aR_0 aG_0 aS_0 aP_0 aN_0 aI_0 aT_0 zX) ++ ((wcS ci aS_0 aS_1 zS) ++ (wcN ci aN_0 aN_1 aN_2 aN_3 aN_4 zN))) H ∧ va_D A ((wcX aX_0 aR_0 aG_0 aS_0 aP_0 aN_0 aI_0 aT_0 zX) ++ ((wcS ci aS_0 aS_1 zS) ++ (wcN ci aN_0 aN_1 aN_2 aN_3 aN_4 zN))) ∧ va_S A s.heap H locs ∧ lv_has ls 2 [(0, .ref aX_0), (1, .int v)]) 3000 v1_1 (fun _ _ _ _ h => no_none h.1) ⟨hF, hP, hD, hS, lv_sub hl [1, 0] rfl⟩ ?_
  clear hF hP hD hS hl
  intro n ih_3 vq H locs ls hI
  obtain ⟨v1_2, rfl⟩ : ∃ y, y = vq := ⟨_, rfl⟩
  obtain ⟨hF, hP, hD, hS, hl⟩ := hI
  have hP : va_P D vwCl ((wcX aX_0 aR_0 aG_0 aS_0 aP_0 aN_0 aI_0 aT_0 zX) ++ ((wcS ci aS_0 aS_1 zS) ++ (wcN ci aN_0 aN_1 aN_2 aN_3 aN_4 zN))) H := hP
  have hD : va_D A ((wcX aX_0 aR_0 aG_0 aS_0 aP_0 aN_0 aI_0 aT_0 zX) ++ ((wcS ci aS_0 aS_1 zS) ++ (wcN ci aN_0 aN_1 aN_2 aN_3 aN_4 zN))) := hD
  have hl : lv_has ls 2 [(0, .ref aX_0), (1, .int v1_2)] := hl
  replace hF : L_X6_judge_2 zX zS zN (n + 1) v1_2 = some res := hF
  rw [L_X6_judge_2] at hF
  refine lv_iload_n hx hb dX6_judge_2 rfl (lv_at hl 1 rfl) ?_
  refine lv_aload_n hx hb dX6_judge_3 rfl (lv_at hl 0 rfl) ?_
  refine va_get (D := D) (ci := 6) (v := .ref aN_0) (C := RX6) (T := TX6) (N := 9) hx hb hts hin_RX6 hown hK hP 0 rfl rfl 4 (by decide) hk_0 (fun _ h9 => h9) rfl dX6_judge_4 ?_
  refine va_get (D := D) (ci := 2) (v := .int (zN.1 1)) (C := RX2) (T := TX2) (N := 6) hx hb hts hin_RX2 hown hK hP 3 rfl rfl 1 (by decide) hk_2 (fun _ h9 => h9) rfl dX6_judge_7 ?_
  refine lv_icmp_ge (tgt := 49) hx hb dX6_judge_10 (by decide) (fun c_5 => ?_) (fun c_5 => ?_)
  · replace hF := if_i c_5 hF
    refine lv_iconst (v := (-1)) hx hb dX6_judge_49 (by decide) ?_
    obtain rfl := Option.some.inj hF
    exact W.iret (v := (-1)) hx hb hr (fun t ht hW => ⟨⟨_, (), rfl, rfl, by rw [ht]; exact hP, va_K.moved hW.alike hK, hD⟩, hS.F ht⟩) hS.2.2 dX6_judge_50
  · replace hF := if_o c_5 hF
    refine lv_aload_n hx hb dX6_judge_13 rfl (lv_at hl 0 rfl) ?_
    refine va_get (D := D) (ci := 6) (v := .ref aS_0) (C := RX6) (T := TX6) (N := 9) hx hb hts hin_RX6 hown hK hP 0 rfl rfl 2 (by decide) hk_4 (fun _ h9 => h9) rfl dX6_judge_14 ?_
    refine lv_aload_n hx hb dX6_judge_17 rfl (lv_at hl 0 rfl) ?_
    refine va_get (D := D) (ci := 6) (v := .ref aN_0) (C := RX6) (T := TX6) (N := 9) hx hb hts hin_RX6 hown hK hP 0 rfl rfl 4 (by decide) hk_0 (fun _ h9 => h9) rfl dX6_judge_18 ?_
    refine va_get (D := D) (ci := 2) (v := .ref aN_3) (C := RX2) (T := TX2) (N := 6) hx hb hts hin_RX2 hown hK hP 3 rfl rfl 4 (by decide) hk_5 (fun _ h9 => h9) rfl dX6_judge_21 ?_
    refine lv_iload_n hx hb dX6_judge_24 rfl (lv_at hl 1 rfl) ?_
    replace hF := ald_i hF
    obtain ⟨hin_6, hF⟩ := hF
    refine va_iald hx hb hK hP 6 0 rfl rfl hin_6 dX6_judge_25 ?_
    refine lv_topi (fun x_7 ex_7 => ?_)
    replace hF := nm_i hF ex_7
    replace hF := bnd hF
    obtain ⟨r_8, hc_9, hF⟩ := hF
    refine cl_Vi (As := [.int x_7]) (rest := []) (wc := (wcS ci aS_0 aS_1 zS)) (wr := ([0, 3, 4, 5, 6, 7].filterMap (fun i => ((wcX aX_0 aR_0 aG_0 aS_0 aP_0 aN_0 aI_0 aT_0 zX) ++ ((wcS ci aS_0 aS_1 zS) ++ (wcN ci aN_0 aN_1 aN_2 aN_3 aN_4 zN)))[i]?))) (w1 := (wcS ci aS_0 aS_1 zS)) (wn := ((wcX aX_0 aR_0 aG_0 aS_0 aP_0 aN_0 aI_0 aT_0 zX) ++ ((wcS ci aS_0 aS_1 zS) ++ (wcN ci aN_0 aN_1 aN_2 aN_3 aN_4 zN)))) ⟨hx, hb, hml, hown, hts⟩ (cwV 1 hts gX6_judge_X5_ownerOf rfl rfl rfl (by decide +kernel) ⟨Nat.le_of_ble_eq_true rfl, Nat.le_of_ble_eq_true rfl⟩) (c_X5_ownerOf l D ci aS_0 aS_1 H.size zS x_7 _ hc_9) hK hP hD hS hA [1, 2] [0, 3, 4, 5, 6, 7] [0, 6, 7, 1, 2, 3, 4, 5] rfl rfl rfl (by decide) 0 rfl rfl rfl rfl hl.1 (Nat.le_of_ble_eq_true rfl) dX6_judge_26 (Nat.zero_le _) (Nat.zero_le _) (fun H locs hP hD hS => ?_)
    have hP : va_P D vwCl ((wcX aX_0 aR_0 aG_0 aS_0 aP_0 aN_0 aI_0 aT_0 zX) ++ ((wcS ci aS_0 aS_1 zS) ++ (wcN ci aN_0 aN_1 aN_2 aN_3 aN_4 zN))) H := hP
    have hD : va_D A ((wcX aX_0 aR_0 aG_0 aS_0 aP_0 aN_0 aI_0 aT_0 zX) ++ ((wcS ci aS_0 aS_1 zS) ++ (wcN ci aN_0 aN_1 aN_2 aN_3 aN_4 zN))) := hD
    refine lv_aload_n hx hb dX6_judge_29 rfl (lv_at hl 0 rfl) ?_
    refine va_get (D := D) (ci := 6) (v := .ref aN_0) (C := RX6) (T := TX6) (N := 9) hx hb hts hin_RX6 hown hK hP 0 rfl rfl 4 (by decide) hk_0 (fun _ h9 => h9) rfl dX6_judge_30 ?_
    refine va_get (D := D) (ci := 2) (v := .ref aN_4) (C := RX2) (T := TX2) (N := 6) hx hb hts hin_RX2 hown hK hP 3 rfl rfl 5 (by decide) hk_6 (fun _ h9 => h9) rfl dX6_judge_33 ?_
    refine lv_iload_n hx hb dX6_judge_36 rfl (lv_at hl 1 rfl) ?_
    replace hF := ald_i hF
    obtain ⟨hin_10, hF⟩ := hF
    refine va_iald hx hb hK hP 7 0 rfl rfl hin_10 dX6_judge_37 ?_
    refine lv_topi (fun x_11 ex_11 => ?_)
    replace hF := nm_i hF ex_11
    refine lv_icmp_eq (tgt := 43) hx hb dX6_judge_38 (by decide) (fun c_12 => ?_) (fun c_12 => ?_)
    · replace hF := if_i c_12 hF
      obtain ⟨v1_13, ev1_13⟩ : ∃ y : Int32, y = v1_2 + 1 := ⟨_, rfl⟩
      replace hF := nm_i hF ev1_13
      refine lv_iinc (v := v1_13) (lv' := [(1, .int v1_13), (0, .ref aX_0)]) hx hb dX6_judge_43 hl (k := 1) rfl (by rw [ev1_13]; rfl) (by decide) rfl (fun ls hl => ?_)
      refine lv_goto (tgt := 2) hx hb dX6_judge_46 (by decide) ?_
      exact ih_3 v1_13 H locs ls ⟨hF, hP, hD, hS, lv_sub hl [1, 0] rfl⟩
    · replace hF := if_o c_12 hF
      refine lv_iload_n hx hb dX6_judge_41 rfl (lv_at hl 1 rfl) ?_
      obtain rfl := Option.some.inj hF
      exact W.iret (v := v1_2) hx hb hr (fun t ht hW => ⟨⟨_, (), rfl, rfl, by rw [ht]; exact hP, va_K.moved hW.alike hK, hD⟩, hS.F ht⟩) hS.2.2 dX6_judge_42
noncomputable def f_X6_seed (zX : XS) (p1 : Int32) : Option (Int32 × XS) := if (0 : Int32) ≤ p1 then (nm (zX 8) fun v2_2 => nm ((upd zX 8 p1) : XS) fun zX_3 => some (v2_2, zX_3)) else (some ((-1000000002 : Int32), zX))
set_option maxHeartbeats 4000000 in
set_option maxRecDepth 100000 in
theorem c_X6_seed (l : Launch) (D : va_G) (ci : Nat → ClassId) (aX_0 : Nat) (aR_0 : Nat) (aG_0 : Nat) (aS_0 : Nat) (aP_0 : Nat) (aN_0 : Nat) (aI_0 : Nat) (aT_0 : Nat) (sz : Nat) (zX : XS) (p1 : Int32) (res : Int32 × XS) (hF : f_X6_seed zX p1 = some res) : CtI l yX6_seed wsX6_seed { frames := 0, cells := 0, slots := 0, locals := 0 } [.ref aX_0, .int p1] D ci (wcX aX_0 aR_0 aG_0 aS_0 aP_0 aN_0 aI_0 aT_0 zX) sz res.1 (wcX aX_0 aR_0 aG_0 aS_0 aP_0 aN_0 aI_0 aT_0 res.2) := by
  refine Met.ofW (cc := cX6_seed) (maxL := 3) (ret := (some .int)) (by decide) rfl ?_
  intro p e s m args below meth c s₁ B hml hv
  obtain ⟨rfl, hsz, hP, hK, hD0⟩ := hv
  have hx := B.exec
  have hb := B.bytes
  have hr := B.returns
  have hts := atoms_spec (ws := wsX6_seed) B.pre
  have hown : s.vm.findClass RX6 = some m.cls := findClass_of_methodNamed B.named
  have hlocks := B.notSynchronized
  subst hsz
  have hD := hD0.self (sz := s.heap.size)
  generalize hAe : va_A (wcX aX_0 aR_0 aG_0 aS_0 aP_0 aN_0 aI_0 aT_0 zX) s.heap.size = A at hD ⊢
  have hA : ∀ q : Nat, s.heap.size ≤ q → A q := fun q h => by rw [← hAe]; exact Or.inr h
  clear hD0 hAe
  have hl := lv_entry ([.ref aX_0, .int p1]) (n := 3) (Nat.le_of_ble_eq_true rfl)
  rw [lg_entry_eq]
  generalize (lg_sl ([.ref aX_0, .int p1]) ++ List.replicate (3 - (lg_sl ([.ref aX_0, .int p1])).length) Slot.unset).toArray = ls at hl ⊢
  have hl : lv_has ls 3 [(0, .ref aX_0), (1, .int p1)] := hl
  have hP : va_P D vwCl (wcX aX_0 aR_0 aG_0 aS_0 aP_0 aN_0 aI_0 aT_0 zX) s.heap := hP
  generalize hH0 : s.heap = H at hP ⊢
  have hS : va_S A s.heap H [] := by rw [← hH0]; exact va_S.rf
  clear hH0
  generalize ([] : List Loc) = locs at hS ⊢
  have hk_0 := hts (.fieldLink RX6 58 "HedgeWar" "lot" "I") (by decide +kernel)
  have hin_RX6 : ∀ w ∈ wsX60, w ∈ wsX6_seed := by decide +kernel
  have hk_2 := hts (.constant RX6 62 (-1000000002)) (by decide +kernel)
  unfold f_X6_seed at hF
  refine lv_iload_n hx hb dX6_seed_0 rfl (lv_at hl 1 rfl) ?_
  refine lv_if_ge (tgt := 7) hx hb dX6_seed_1 (by decide) (fun c_1 => ?_) (fun c_1 => ?_)
  · replace hF := if_i c_1 hF
    refine lv_aload_n hx hb dX6_seed_7 rfl (lv_at hl 0 rfl) ?_
    refine va_get (D := D) (ci := 6) (v := .int (zX 8)) (C := RX6) (T := TX6) (N := 9) hx hb hts hin_RX6 hown hK hP 0 rfl rfl 8 (by decide) hk_0 (fun _ h9 => h9) rfl dX6_seed_8 ?_
    refine lv_topi (fun v2_2 ev2_2 => ?_)
    replace hF := nm_i hF ev2_2
    refine lv_istore_n (lv' := [(2, .int v2_2), (0, .ref aX_0), (1, .int p1)]) hx hb dX6_seed_11 rfl hl (by decide) rfl (fun ls hl => ?_)
    refine lv_aload_n hx hb dX6_seed_12 rfl (lv_at hl 1 rfl) ?_
    refine lv_iload_n hx hb dX6_seed_13 rfl (lv_at hl 2 rfl) ?_
    refine va_put (D := D) (ci := 6) (v := .int p1) (ty := .int) (C := RX6) (T := TX6) (N := 9) hx hb hts hin_RX6 tyX6 tyX6_ok nmX6 hown hK hP hD hS 0 rfl rfl 8 (by decide) hk_0 (fun _ h9 => h9) rfl (by decide +kernel) rfl rfl (Nat.le_of_ble_eq_true rfl) dX6_seed_14 (fun H locs hP hD hS => ?_)
    obtain ⟨zX_3, ezX_3⟩ : ∃ y : XS, y = (upd zX 8 p1) := ⟨_, rfl⟩
    replace hF := nm_i hF ezX_3
    have hP : va_P D vwCl (wcX aX_0 aR_0 aG_0 aS_0 aP_0 aN_0 aI_0 aT_0 zX_3) H := by rw [ezX_3]; exact hP
    have hD : va_D A (wcX aX_0 aR_0 aG_0 aS_0 aP_0 aN_0 aI_0 aT_0 zX_3) := by rw [ezX_3]; exact hD
    refine lv_iload_n hx hb dX6_seed_17 rfl (lv_at hl 0 rfl) ?_
    obtain rfl := Option.some.inj hF
    exact W.iret (v := v2_2) hx hb hr (fun t ht hW => ⟨⟨_, (), rfl, rfl, by rw [ht]; exact hP, va_K.moved hW.alike hK, hD⟩, hS.F ht⟩) hS.2.2 dX6_seed_18
  · replace hF := if_o c_1 hF
    refine lv_ldc (v := (-1000000002)) hx hb hown hk_2 dX6_seed_4 ?_
    obtain rfl := Option.some.inj hF
    exact W.iret (v := (-1000000002)) hx hb hr (fun t ht hW => ⟨⟨_, (), rfl, rfl, by rw [ht]; exact hP, va_K.moved hW.alike hK, hD⟩, hS.F ht⟩) hS.2.2 dX6_seed_6
noncomputable def f_X6_keep (zX : XS) (zS : SS) (zP : PS) (zI : IS) (zJ : QS) (p1 : Int32) : Option (Int32 × PS × IS × QS) := if p1 < 0 then (some ((-1000000001 : Int32), zP, zI, zJ)) else (if p1 < 2 then (nm p1 fun k_3 => if k_3 = 0 then ((f_X5_copyFrom (zJ 0) zS).bind fun zS_5 => nm ((va_up zJ 0 zS_5) : QS) fun zJ_7 => nm (zX 8) fun f1_8 => nm ((va_up zI 0 (upd (zI 0) 1 f1_8)) : IS) fun zI_9 => nm ((va_up zI_9 0 (upd (zI_9 0) 2 1)) : IS) fun zI_10 => (f_X3_forget zP).bind fun zP_11 => some ((1 : Int32), zP_11, zI_10, zJ_7)) else if k_3 = 1 then ((f_X5_copyFrom (zJ 1) zS).bind fun zS_14 => nm ((va_up zJ 1 zS_14) : QS) fun zJ_16 => nm (zX 8) fun f1_17 => nm ((va_up zI 1 (upd (zI 1) 1 f1_17)) : IS) fun zI_18 => nm ((va_up zI_18 1 (upd (zI_18 1) 2 1)) : IS) fun zI_19 => (f_X3_forget zP).bind fun zP_20 => some ((1 : Int32), zP_20, zI_19, zJ_16)) else none) else (some ((-1000000001 : Int32), zP, zI, zJ)))
set_option maxHeartbeats 4000000 in
set_option maxRecDepth 100000 in
theorem c_X6_keep (l : Launch) (D : va_G) (ci : Nat → ClassId) (aX_0 : Nat) (aR_0 : Nat) (aG_0 : Nat) (aS_0 : Nat) (aP_0 : Nat) (aN_0 : Nat) (aI_0 : Nat) (aT_0 : Nat) (aS_1 : Nat) (aP_1 : Nat) (aQ : Nat → Nat) (aI_1 : Nat) (aI_2 : Nat) (aJ : Nat → Nat) (sz : Nat) (zX : XS) (zS : SS) (zP : PS) (zI : IS) (zJ : QS) (p1 : Int32) (res : Int32 × PS × IS × QS) (hF : f_X6_keep zX zS zP zI zJ p1 = some res) : CtI l yX6_keep wsX6_keep { frames := 2, cells := 0, slots := 0, locals := 61 } [.ref aX_0, .int p1] D ci ((wcX aX_0 aR_0 aG_0 aS_0 aP_0 aN_0 aI_0 aT_0 zX) ++ ((wcS ci aS_0 aS_1 zS) ++ ((wcP ci aP_0 aP_1 aQ zP) ++ ((wcI ci aI_0 aI_1 aI_2 aJ zI) ++ (wcJ ci aJ zJ))))) sz res.1 ((wcX aX_0 aR_0 aG_0 aS_0 aP_0 aN_0 aI_0 aT_0 zX) ++ ((wcS ci aS_0 aS_1 zS) ++ ((wcP ci aP_0 aP_1 aQ res.2.1) ++ ((wcI ci aI_0 aI_1 aI_2 aJ res.2.2.1) ++ (wcJ ci aJ res.2.2.2))))) := by
  refine Met.ofW (cc := cX6_keep) (maxL := 3) (ret := (some .int)) (by decide) rfl ?_
  intro p e s m args below meth c s₁ B hml hv
  obtain ⟨rfl, hsz, hP, hK, hD0⟩ := hv
  have hx := B.exec
  have hb := B.bytes
  have hr := B.returns
  have hts := atoms_spec (ws := wsX6_keep) B.pre
  have hown : s.vm.findClass RX6 = some m.cls := findClass_of_methodNamed B.named
  have hlocks := B.notSynchronized
  subst hsz
  have hD := hD0.self (sz := s.heap.size)
  generalize hAe : va_A ((wcX aX_0 aR_0 aG_0 aS_0 aP_0 aN_0 aI_0 aT_0 zX) ++ ((wcS ci aS_0 aS_1 zS) ++ ((wcP ci aP_0 aP_1 aQ zP) ++ ((wcI ci aI_0 aI_1 aI_2 aJ zI) ++ (wcJ ci aJ zJ))))) s.heap.size = A at hD ⊢
  have hA : ∀ q : Nat, s.heap.size ≤ q → A q := fun q h => by rw [← hAe]; exact Or.inr h
  clear hD0 hAe
  have hl := lv_entry ([.ref aX_0, .int p1]) (n := 3) (Nat.le_of_ble_eq_true rfl)
  rw [lg_entry_eq]
  generalize (lg_sl ([.ref aX_0, .int p1]) ++ List.replicate (3 - (lg_sl ([.ref aX_0, .int p1])).length) Slot.unset).toArray = ls at hl ⊢
  have hl : lv_has ls 3 [(0, .ref aX_0), (1, .int p1)] := hl
  have hP : va_P D vwCl ((wcX aX_0 aR_0 aG_0 aS_0 aP_0 aN_0 aI_0 aT_0 zX) ++ ((wcS ci aS_0 aS_1 zS) ++ ((wcP ci aP_0 aP_1 aQ zP) ++ ((wcI ci aI_0 aI_1 aI_2 aJ zI) ++ (wcJ ci aJ zJ))))) s.heap := hP
  generalize hH0 : s.heap = H at hP ⊢
  have hS : va_S A s.heap H [] := by rw [← hH0]; exact va_S.rf
  clear hH0
  generalize ([] : List Loc) = locs at hS ⊢
  have hk_0 := hts (.constant RX6 147 (-1000000001)) (by decide +kernel)
  have hk_1 := hts (.fieldLink RX6 46 "HedgeWar" "images" "[LHedgeWar$Image;") (by decide +kernel)
  have hin_RX6 : ∀ w ∈ wsX60, w ∈ wsX6_keep := by decide +kernel
  have hk_3 := hts (.fieldLink RX6 278 "HedgeWar$Image" "stand" "LHedgeWar$Stand;") (by decide +kernel)
  have hin_RX1 : ∀ w ∈ wsX10, w ∈ wsX6_keep := by decide +kernel
  have hk_5 := hts (.fieldLink RX6 26 "HedgeWar" "now" "LHedgeWar$Stand;") (by decide +kernel)
  have hk_6 := hts (.fieldLink RX6 58 "HedgeWar" "lot" "I") (by decide +kernel)
  have hk_7 := hts (.fieldLink RX6 279 "HedgeWar$Image" "lot" "I") (by decide +kernel)
  have hk_8 := hts (.fieldLink RX6 93 "HedgeWar$Image" "kept" "Z") (by decide +kernel)
  have hk_9 := hts (.fieldLink RX6 33 "HedgeWar" "past" "LHedgeWar$Past;") (by decide +kernel)
  unfold f_X6_keep at hF
  refine lv_iload_n hx hb dX6_keep_0 rfl (lv_at hl 1 rfl) ?_
  refine lv_if_lt (tgt := 9) hx hb dX6_keep_1 (by decide) (fun c_1 => ?_) (fun c_1 => ?_)
  · replace hF := if_i c_1 hF
    refine lv_ldc (v := (-1000000001)) hx hb hown hk_0 dX6_keep_9 ?_
    obtain rfl := Option.some.inj hF
    exact W.iret (v := (-1000000001)) hx hb hr (fun t ht hW => ⟨⟨_, (), rfl, rfl, by rw [ht]; exact hP, va_K.moved hW.alike hK, hD⟩, hS.F ht⟩) hS.2.2 dX6_keep_11
  · replace hF := if_o c_1 hF
    refine lv_iload_n hx hb dX6_keep_4 rfl (lv_at hl 1 rfl) ?_
    refine lv_iconst (v := 2) hx hb dX6_keep_5 (by decide) ?_
    refine lv_icmp_lt (tgt := 12) hx hb dX6_keep_6 (by decide) (fun c_2 => ?_) (fun c_2 => ?_)
    · replace hF := if_i c_2 hF
      refine lv_aload_n hx hb dX6_keep_12 rfl (lv_at hl 0 rfl) ?_
      refine va_get (D := D) (ci := 6) (v := .ref aI_0) (C := RX6) (T := TX6) (N := 9) hx hb hts hin_RX6 hown hK hP 0 rfl rfl 5 (by decide) hk_1 (fun _ h9 => h9) rfl dX6_keep_13 ?_
      refine lv_iload_n hx hb dX6_keep_16 rfl (lv_at hl 1 rfl) ?_
      refine lv_topi (fun k_3 ek_3 => ?_)
      replace hF := nm_i hF ek_3
      by_cases c_4 : k_3 = 0
      · replace hF := if_i c_4 hF
        subst c_4
        refine va_aldq hx hb hK hP 5 4 rfl rfl (i := 0) (show ¬ ((0 : Int32) < 0 ∨ 2 ≤ (0 : Int32).toNatClampNeg) by decide) dX6_keep_17 ?_
        refine W.eq (g2 := F0 m 18 ls [.ref aI_1]) rfl ?_
        refine lv_astore_n (lv' := [(2, .ref aI_1), (0, .ref aX_0), (1, .int p1)]) hx hb dX6_keep_18 rfl hl (by decide) rfl (fun ls hl => ?_)
        refine lv_aload_n hx hb dX6_keep_19 rfl (lv_at hl 0 rfl) ?_
        refine va_get (D := D) (ci := 1) (v := .ref (aJ 0)) (C := RX1) (T := TX1) (N := 3) hx hb hts hin_RX1 hown hK hP 6 rfl rfl 0 (by decide) hk_3 (fun _ h9 => h9) rfl dX6_keep_20 ?_
        refine lv_aload_n hx hb dX6_keep_23 rfl (lv_at hl 1 rfl) ?_
        refine va_get (D := D) (ci := 6) (v := .ref aS_0) (C := RX6) (T := TX6) (N := 9) hx hb hts hin_RX6 hown hK hP 0 rfl rfl 2 (by decide) hk_5 (fun _ h9 => h9) rfl dX6_keep_24 ?_
        replace hF := bnd hF
        obtain ⟨zS_5, hc_6, hF⟩ := hF
        refine cl_Vv (As := [.ref aS_0]) (rest := []) (wc := ((wcS ci (aJ 0) (aJ 1) (zJ 0)) ++ (wcS ci aS_0 aS_1 zS))) (wr := ([0, 3, 4, 5, 6, 7, 10, 11].filterMap (fun i => ((wcX aX_0 aR_0 aG_0 aS_0 aP_0 aN_0 aI_0 aT_0 zX) ++ ((wcS ci aS_0 aS_1 zS) ++ ((wcP ci aP_0 aP_1 aQ zP) ++ ((wcI ci aI_0 aI_1 aI_2 aJ zI) ++ (wcJ ci aJ zJ)))))[i]?))) (w1 := ((wcS ci (aJ 0) (aJ 1) zS_5) ++ (wcS ci aS_0 aS_1 zS))) (wn := ((wcX aX_0 aR_0 aG_0 aS_0 aP_0 aN_0 aI_0 aT_0 zX) ++ ((wcS ci aS_0 aS_1 zS) ++ ((wcP ci aP_0 aP_1 aQ zP) ++ ((wcI ci aI_0 aI_1 aI_2 aJ zI) ++ (wcJ ci aJ (va_up zJ 0 zS_5))))))) ⟨hx, hb, hml, hown, hts⟩ (cwV 1 hts gX6_keep_X5_copyFrom rfl rfl rfl (by decide +kernel) ⟨Nat.le_of_ble_eq_true rfl, Nat.le_of_ble_eq_true rfl⟩) (c_X5_copyFrom l D ci (aJ 0) (aJ 1) aS_0 aS_1 H.size (zJ 0) zS _ hc_6) hK hP hD hS hA [8, 9, 1, 2] [0, 3, 4, 5, 6, 7, 10, 11] [0, 10, 11, 1, 2, 3, 4, 5, 8, 9, 6, 7] rfl rfl rfl (by decide) 0 rfl rfl rfl rfl hl.1 (Nat.le_of_ble_eq_true rfl) dX6_keep_27 (Nat.zero_le _) (Nat.zero_le _) (fun H locs hP hD hS => ?_)
        have hP : va_P D vwCl ((wcX aX_0 aR_0 aG_0 aS_0 aP_0 aN_0 aI_0 aT_0 zX) ++ ((wcS ci aS_0 aS_1 zS) ++ ((wcP ci aP_0 aP_1 aQ zP) ++ ((wcI ci aI_0 aI_1 aI_2 aJ zI) ++ (wcJ ci aJ (va_up zJ 0 zS_5)))))) H := hP
        have hD : va_D A ((wcX aX_0 aR_0 aG_0 aS_0 aP_0 aN_0 aI_0 aT_0 zX) ++ ((wcS ci aS_0 aS_1 zS) ++ ((wcP ci aP_0 aP_1 aQ zP) ++ ((wcI ci aI_0 aI_1 aI_2 aJ zI) ++ (wcJ ci aJ (va_up zJ 0 zS_5)))))) := hD
        obtain ⟨zJ_7, ezJ_7⟩ : ∃ y : QS, y = (va_up zJ 0 zS_5) := ⟨_, rfl⟩
        replace hF := nm_i hF ezJ_7
        have hP : va_P D vwCl ((wcX aX_0 aR_0 aG_0 aS_0 aP_0 aN_0 aI_0 aT_0 zX) ++ ((wcS ci aS_0 aS_1 zS) ++ ((wcP ci aP_0 aP_1 aQ zP) ++ ((wcI ci aI_0 aI_1 aI_2 aJ zI) ++ (wcJ ci aJ zJ_7))))) H := by rw [ezJ_7]; exact hP
        have hD : va_D A ((wcX aX_0 aR_0 aG_0 aS_0 aP_0 aN_0 aI_0 aT_0 zX) ++ ((wcS ci aS_0 aS_1 zS) ++ ((wcP ci aP_0 aP_1 aQ zP) ++ ((wcI ci aI_0 aI_1 aI_2 aJ zI) ++ (wcJ ci aJ zJ_7))))) := by rw [ezJ_7]; exact hD
        refine lv_aload_n hx hb dX6_keep_30 rfl (lv_at hl 0 rfl) ?_
        refine lv_aload_n hx hb dX6_keep_31 rfl (lv_at hl 1 rfl) ?_
        refine va_get (D := D) (ci := 6) (v := .int (zX 8)) (C := RX6) (T := TX6) (N := 9) hx hb hts hin_RX6 hown hK hP 0 rfl rfl 8 (by decide) hk_6 (fun _ h9 => h9) rfl dX6_keep_32 ?_
        refine lv_topi (fun f1_8 ef1_8 => ?_)
        replace hF := nm_i hF ef1_8
        refine va_put (D := D) (ci := 1) (v := .int f1_8) (ty := .int) (C := RX1) (T := TX1) (N := 3) hx hb hts hin_RX1 tyX1 tyX1_ok nmX1 hown hK hP hD hS 6 rfl rfl 1 (by decide) hk_7 (fun _ h9 => h9) rfl (by decide +kernel) rfl rfl (Nat.le_of_ble_eq_true rfl) dX6_keep_35 (fun H locs hP hD hS => ?_)
        obtain ⟨zI_9, ezI_9⟩ : ∃ y : IS, y = (va_up zI 0 (upd (zI 0) 1 f1_8)) := ⟨_, rfl⟩
        replace hF := nm_i hF ezI_9
        have hP : va_P D vwCl ((wcX aX_0 aR_0 aG_0 aS_0 aP_0 aN_0 aI_0 aT_0 zX) ++ ((wcS ci aS_0 aS_1 zS) ++ ((wcP ci aP_0 aP_1 aQ zP) ++ ((wcI ci aI_0 aI_1 aI_2 aJ zI_9) ++ (wcJ ci aJ zJ_7))))) H := by rw [ezI_9]; exact hP
        have hD : va_D A ((wcX aX_0 aR_0 aG_0 aS_0 aP_0 aN_0 aI_0 aT_0 zX) ++ ((wcS ci aS_0 aS_1 zS) ++ ((wcP ci aP_0 aP_1 aQ zP) ++ ((wcI ci aI_0 aI_1 aI_2 aJ zI_9) ++ (wcJ ci aJ zJ_7))))) := by rw [ezI_9]; exact hD
        refine lv_aload_n hx hb dX6_keep_38 rfl (lv_at hl 0 rfl) ?_
        refine lv_iconst (v := 1) hx hb dX6_keep_39 (by decide) ?_
        refine va_put (D := D) (ci := 1) (v := .int 1) (ty := .boolean) (C := RX1) (T := TX1) (N := 3) hx hb hts hin_RX1 tyX1 tyX1_ok nmX1 hown hK hP hD hS 6 rfl rfl 2 (by decide) hk_8 (fun _ h9 => h9) rfl (by decide +kernel) rfl rfl (Nat.le_of_ble_eq_true rfl) dX6_keep_40 (fun H locs hP hD hS => ?_)
        obtain ⟨zI_10, ezI_10⟩ : ∃ y : IS, y = (va_up zI_9 0 (upd (zI_9 0) 2 1)) := ⟨_, rfl⟩
        replace hF := nm_i hF ezI_10
        have hP : va_P D vwCl ((wcX aX_0 aR_0 aG_0 aS_0 aP_0 aN_0 aI_0 aT_0 zX) ++ ((wcS ci aS_0 aS_1 zS) ++ ((wcP ci aP_0 aP_1 aQ zP) ++ ((wcI ci aI_0 aI_1 aI_2 aJ zI_10) ++ (wcJ ci aJ zJ_7))))) H := by rw [ezI_10]; exact hP
        have hD : va_D A ((wcX aX_0 aR_0 aG_0 aS_0 aP_0 aN_0 aI_0 aT_0 zX) ++ ((wcS ci aS_0 aS_1 zS) ++ ((wcP ci aP_0 aP_1 aQ zP) ++ ((wcI ci aI_0 aI_1 aI_2 aJ zI_10) ++ (wcJ ci aJ zJ_7))))) := by rw [ezI_10]; exact hD
        refine lv_aload_n hx hb dX6_keep_43 rfl (lv_at hl 1 rfl) ?_
        refine va_get (D := D) (ci := 6) (v := .ref aP_0) (C := RX6) (T := TX6) (N := 9) hx hb hts hin_RX6 hown hK hP 0 rfl rfl 3 (by decide) hk_9 (fun _ h9 => h9) rfl dX6_keep_44 ?_
        replace hF := bnd hF
        obtain ⟨zP_11, hc_12, hF⟩ := hF
        refine cl_Vv (As := []) (rest := []) (wc := (wcP ci aP_0 aP_1 aQ zP)) (wr := ([0, 1, 2, 5, 6, 7, 8, 9, 10, 11].filterMap (fun i => ((wcX aX_0 aR_0 aG_0 aS_0 aP_0 aN_0 aI_0 aT_0 zX) ++ ((wcS ci aS_0 aS_1 zS) ++ ((wcP ci aP_0 aP_1 aQ zP) ++ ((wcI ci aI_0 aI_1 aI_2 aJ zI_10) ++ (wcJ ci aJ zJ_7)))))[i]?))) (w1 := (wcP ci aP_0 aP_1 aQ zP_11)) (wn := ((wcX aX_0 aR_0 aG_0 aS_0 aP_0 aN_0 aI_0 aT_0 zX) ++ ((wcS ci aS_0 aS_1 zS) ++ ((wcP ci aP_0 aP_1 aQ zP_11) ++ ((wcI ci aI_0 aI_1 aI_2 aJ zI_10) ++ (wcJ ci aJ zJ_7)))))) ⟨hx, hb, hml, hown, hts⟩ (cwV 0 hts gX6_keep_X3_forget rfl rfl rfl (by decide +kernel) ⟨Nat.le_of_ble_eq_true rfl, Nat.le_of_ble_eq_true rfl⟩) (c_X3_forget l D ci aP_0 aP_1 aQ H.size zP _ hc_12) hK hP hD hS hA [3, 4] [0, 1, 2, 5, 6, 7, 8, 9, 10, 11] [0, 1, 2, 10, 11, 3, 4, 5, 6, 7, 8, 9] rfl rfl rfl (by decide) 0 rfl rfl rfl rfl hl.1 (Nat.le_of_ble_eq_true rfl) dX6_keep_47 (Nat.zero_le _) (Nat.zero_le _) (fun H locs hP hD hS => ?_)
        have hP : va_P D vwCl ((wcX aX_0 aR_0 aG_0 aS_0 aP_0 aN_0 aI_0 aT_0 zX) ++ ((wcS ci aS_0 aS_1 zS) ++ ((wcP ci aP_0 aP_1 aQ zP_11) ++ ((wcI ci aI_0 aI_1 aI_2 aJ zI_10) ++ (wcJ ci aJ zJ_7))))) H := hP
        have hD : va_D A ((wcX aX_0 aR_0 aG_0 aS_0 aP_0 aN_0 aI_0 aT_0 zX) ++ ((wcS ci aS_0 aS_1 zS) ++ ((wcP ci aP_0 aP_1 aQ zP_11) ++ ((wcI ci aI_0 aI_1 aI_2 aJ zI_10) ++ (wcJ ci aJ zJ_7))))) := hD
        refine lv_iconst (v := 1) hx hb dX6_keep_50 (by decide) ?_
        obtain rfl := Option.some.inj hF
        exact W.iret (v := 1) hx hb hr (fun t ht hW => ⟨⟨_, (), rfl, rfl, by rw [ht]; exact hP, va_K.moved hW.alike hK, hD⟩, hS.F ht⟩) hS.2.2 dX6_keep_51
      replace hF := if_o c_4 hF
      by_cases c_13 : k_3 = 1
      · replace hF := if_i c_13 hF
        subst c_13
        refine va_aldq hx hb hK hP 5 4 rfl rfl (i := 1) (show ¬ ((1 : Int32) < 0 ∨ 2 ≤ (1 : Int32).toNatClampNeg) by decide) dX6_keep_17 ?_
        refine W.eq (g2 := F0 m 18 ls [.ref aI_2]) rfl ?_
        refine lv_astore_n (lv' := [(2, .ref aI_2), (0, .ref aX_0), (1, .int p1)]) hx hb dX6_keep_18 rfl hl (by decide) rfl (fun ls hl => ?_)
        refine lv_aload_n hx hb dX6_keep_19 rfl (lv_at hl 0 rfl) ?_
        refine va_get (D := D) (ci := 1) (v := .ref (aJ 2)) (C := RX1) (T := TX1) (N := 3) hx hb hts hin_RX1 hown hK hP 7 rfl rfl 0 (by decide) hk_3 (fun _ h9 => h9) rfl dX6_keep_20 ?_
        refine lv_aload_n hx hb dX6_keep_23 rfl (lv_at hl 1 rfl) ?_
        refine va_get (D := D) (ci := 6) (v := .ref aS_0) (C := RX6) (T := TX6) (N := 9) hx hb hts hin_RX6 hown hK hP 0 rfl rfl 2 (by decide) hk_5 (fun _ h9 => h9) rfl dX6_keep_24 ?_
        replace hF := bnd hF
        obtain ⟨zS_14, hc_15, hF⟩ := hF
        refine cl_Vv (As := [.ref aS_0]) (rest := []) (wc := ((wcS ci (aJ 2) (aJ 3) (zJ 1)) ++ (wcS ci aS_0 aS_1 zS))) (wr := ([0, 3, 4, 5, 6, 7, 8, 9].filterMap (fun i => ((wcX aX_0 aR_0 aG_0 aS_0 aP_0 aN_0 aI_0 aT_0 zX) ++ ((wcS ci aS_0 aS_1 zS) ++ ((wcP ci aP_0 aP_1 aQ zP) ++ ((wcI ci aI_0 aI_1 aI_2 aJ zI) ++ (wcJ ci aJ zJ)))))[i]?))) (w1 := ((wcS ci (aJ 2) (aJ 3) zS_14) ++ (wcS ci aS_0 aS_1 zS))) (wn := ((wcX aX_0 aR_0 aG_0 aS_0 aP_0 aN_0 aI_0 aT_0 zX) ++ ((wcS ci aS_0 aS_1 zS) ++ ((wcP ci aP_0 aP_1 aQ zP) ++ ((wcI ci aI_0 aI_1 aI_2 aJ zI) ++ (wcJ ci aJ (va_up zJ 1 zS_14))))))) ⟨hx, hb, hml, hown, hts⟩ (cwV 1 hts gX6_keep_X5_copyFrom rfl rfl rfl (by decide +kernel) ⟨Nat.le_of_ble_eq_true rfl, Nat.le_of_ble_eq_true rfl⟩) (c_X5_copyFrom l D ci (aJ 2) (aJ 3) aS_0 aS_1 H.size (zJ 1) zS _ hc_15) hK hP hD hS hA [10, 11, 1, 2] [0, 3, 4, 5, 6, 7, 8, 9] [0, 10, 11, 1, 2, 3, 4, 5, 6, 7, 8, 9] rfl rfl rfl (by decide) 0 rfl rfl rfl rfl hl.1 (Nat.le_of_ble_eq_true rfl) dX6_keep_27 (Nat.zero_le _) (Nat.zero_le _) (fun H locs hP hD hS => ?_)
        have hP : va_P D vwCl ((wcX aX_0 aR_0 aG_0 aS_0 aP_0 aN_0 aI_0 aT_0 zX) ++ ((wcS ci aS_0 aS_1 zS) ++ ((wcP ci aP_0 aP_1 aQ zP) ++ ((wcI ci aI_0 aI_1 aI_2 aJ zI) ++ (wcJ ci aJ (va_up zJ 1 zS_14)))))) H := hP
        have hD : va_D A ((wcX aX_0 aR_0 aG_0 aS_0 aP_0 aN_0 aI_0 aT_0 zX) ++ ((wcS ci aS_0 aS_1 zS) ++ ((wcP ci aP_0 aP_1 aQ zP) ++ ((wcI ci aI_0 aI_1 aI_2 aJ zI) ++ (wcJ ci aJ (va_up zJ 1 zS_14)))))) := hD
        obtain ⟨zJ_16, ezJ_16⟩ : ∃ y : QS, y = (va_up zJ 1 zS_14) := ⟨_, rfl⟩
        replace hF := nm_i hF ezJ_16
        have hP : va_P D vwCl ((wcX aX_0 aR_0 aG_0 aS_0 aP_0 aN_0 aI_0 aT_0 zX) ++ ((wcS ci aS_0 aS_1 zS) ++ ((wcP ci aP_0 aP_1 aQ zP) ++ ((wcI ci aI_0 aI_1 aI_2 aJ zI) ++ (wcJ ci aJ zJ_16))))) H := by rw [ezJ_16]; exact hP
        have hD : va_D A ((wcX aX_0 aR_0 aG_0 aS_0 aP_0 aN_0 aI_0 aT_0 zX) ++ ((wcS ci aS_0 aS_1 zS) ++ ((wcP ci aP_0 aP_1 aQ zP) ++ ((wcI ci aI_0 aI_1 aI_2 aJ zI) ++ (wcJ ci aJ zJ_16))))) := by rw [ezJ_16]; exact hD
        refine lv_aload_n hx hb dX6_keep_30 rfl (lv_at hl 0 rfl) ?_
        refine lv_aload_n hx hb dX6_keep_31 rfl (lv_at hl 1 rfl) ?_
        refine va_get (D := D) (ci := 6) (v := .int (zX 8)) (C := RX6) (T := TX6) (N := 9) hx hb hts hin_RX6 hown hK hP 0 rfl rfl 8 (by decide) hk_6 (fun _ h9 => h9) rfl dX6_keep_32 ?_
        refine lv_topi (fun f1_17 ef1_17 => ?_)
        replace hF := nm_i hF ef1_17
        refine va_put (D := D) (ci := 1) (v := .int f1_17) (ty := .int) (C := RX1) (T := TX1) (N := 3) hx hb hts hin_RX1 tyX1 tyX1_ok nmX1 hown hK hP hD hS 7 rfl rfl 1 (by decide) hk_7 (fun _ h9 => h9) rfl (by decide +kernel) rfl rfl (Nat.le_of_ble_eq_true rfl) dX6_keep_35 (fun H locs hP hD hS => ?_)
        obtain ⟨zI_18, ezI_18⟩ : ∃ y : IS, y = (va_up zI 1 (upd (zI 1) 1 f1_17)) := ⟨_, rfl⟩
        replace hF := nm_i hF ezI_18
        have hP : va_P D vwCl ((wcX aX_0 aR_0 aG_0 aS_0 aP_0 aN_0 aI_0 aT_0 zX) ++ ((wcS ci aS_0 aS_1 zS) ++ ((wcP ci aP_0 aP_1 aQ zP) ++ ((wcI ci aI_0 aI_1 aI_2 aJ zI_18) ++ (wcJ ci aJ zJ_16))))) H := by rw [ezI_18]; exact hP
        have hD : va_D A ((wcX aX_0 aR_0 aG_0 aS_0 aP_0 aN_0 aI_0 aT_0 zX) ++ ((wcS ci aS_0 aS_1 zS) ++ ((wcP ci aP_0 aP_1 aQ zP) ++ ((wcI ci aI_0 aI_1 aI_2 aJ zI_18) ++ (wcJ ci aJ zJ_16))))) := by rw [ezI_18]; exact hD
        refine lv_aload_n hx hb dX6_keep_38 rfl (lv_at hl 0 rfl) ?_
        refine lv_iconst (v := 1) hx hb dX6_keep_39 (by decide) ?_
        refine va_put (D := D) (ci := 1) (v := .int 1) (ty := .boolean) (C := RX1) (T := TX1) (N := 3) hx hb hts hin_RX1 tyX1 tyX1_ok nmX1 hown hK hP hD hS 7 rfl rfl 2 (by decide) hk_8 (fun _ h9 => h9) rfl (by decide +kernel) rfl rfl (Nat.le_of_ble_eq_true rfl) dX6_keep_40 (fun H locs hP hD hS => ?_)
        obtain ⟨zI_19, ezI_19⟩ : ∃ y : IS, y = (va_up zI_18 1 (upd (zI_18 1) 2 1)) := ⟨_, rfl⟩
        replace hF := nm_i hF ezI_19
        have hP : va_P D vwCl ((wcX aX_0 aR_0 aG_0 aS_0 aP_0 aN_0 aI_0 aT_0 zX) ++ ((wcS ci aS_0 aS_1 zS) ++ ((wcP ci aP_0 aP_1 aQ zP) ++ ((wcI ci aI_0 aI_1 aI_2 aJ zI_19) ++ (wcJ ci aJ zJ_16))))) H := by rw [ezI_19]; exact hP
        have hD : va_D A ((wcX aX_0 aR_0 aG_0 aS_0 aP_0 aN_0 aI_0 aT_0 zX) ++ ((wcS ci aS_0 aS_1 zS) ++ ((wcP ci aP_0 aP_1 aQ zP) ++ ((wcI ci aI_0 aI_1 aI_2 aJ zI_19) ++ (wcJ ci aJ zJ_16))))) := by rw [ezI_19]; exact hD
        refine lv_aload_n hx hb dX6_keep_43 rfl (lv_at hl 1 rfl) ?_
        refine va_get (D := D) (ci := 6) (v := .ref aP_0) (C := RX6) (T := TX6) (N := 9) hx hb hts hin_RX6 hown hK hP 0 rfl rfl 3 (by decide) hk_9 (fun _ h9 => h9) rfl dX6_keep_44 ?_
        replace hF := bnd hF
        obtain ⟨zP_20, hc_21, hF⟩ := hF
        refine cl_Vv (As := []) (rest := []) (wc := (wcP ci aP_0 aP_1 aQ zP)) (wr := ([0, 1, 2, 5, 6, 7, 8, 9, 10, 11].filterMap (fun i => ((wcX aX_0 aR_0 aG_0 aS_0 aP_0 aN_0 aI_0 aT_0 zX) ++ ((wcS ci aS_0 aS_1 zS) ++ ((wcP ci aP_0 aP_1 aQ zP) ++ ((wcI ci aI_0 aI_1 aI_2 aJ zI_19) ++ (wcJ ci aJ zJ_16)))))[i]?))) (w1 := (wcP ci aP_0 aP_1 aQ zP_20)) (wn := ((wcX aX_0 aR_0 aG_0 aS_0 aP_0 aN_0 aI_0 aT_0 zX) ++ ((wcS ci aS_0 aS_1 zS) ++ ((wcP ci aP_0 aP_1 aQ zP_20) ++ ((wcI ci aI_0 aI_1 aI_2 aJ zI_19) ++ (wcJ ci aJ zJ_16)))))) ⟨hx, hb, hml, hown, hts⟩ (cwV 0 hts gX6_keep_X3_forget rfl rfl rfl (by decide +kernel) ⟨Nat.le_of_ble_eq_true rfl, Nat.le_of_ble_eq_true rfl⟩) (c_X3_forget l D ci aP_0 aP_1 aQ H.size zP _ hc_21) hK hP hD hS hA [3, 4] [0, 1, 2, 5, 6, 7, 8, 9, 10, 11] [0, 1, 2, 10, 11, 3, 4, 5, 6, 7, 8, 9] rfl rfl rfl (by decide) 0 rfl rfl rfl rfl hl.1 (Nat.le_of_ble_eq_true rfl) dX6_keep_47 (Nat.zero_le _) (Nat.zero_le _) (fun H locs hP hD hS => ?_)
        have hP : va_P D vwCl ((wcX aX_0 aR_0 aG_0 aS_0 aP_0 aN_0 aI_0 aT_0 zX) ++ ((wcS ci aS_0 aS_1 zS) ++ ((wcP ci aP_0 aP_1 aQ zP_20) ++ ((wcI ci aI_0 aI_1 aI_2 aJ zI_19) ++ (wcJ ci aJ zJ_16))))) H := hP
        have hD : va_D A ((wcX aX_0 aR_0 aG_0 aS_0 aP_0 aN_0 aI_0 aT_0 zX) ++ ((wcS ci aS_0 aS_1 zS) ++ ((wcP ci aP_0 aP_1 aQ zP_20) ++ ((wcI ci aI_0 aI_1 aI_2 aJ zI_19) ++ (wcJ ci aJ zJ_16))))) := hD
        refine lv_iconst (v := 1) hx hb dX6_keep_50 (by decide) ?_
        obtain rfl := Option.some.inj hF
        exact W.iret (v := 1) hx hb hr (fun t ht hW => ⟨⟨_, (), rfl, rfl, by rw [ht]; exact hP, va_K.moved hW.alike hK, hD⟩, hS.F ht⟩) hS.2.2 dX6_keep_51
      replace hF := if_o c_13 hF
      exact absurd hF (fun h => no_none h)
    · replace hF := if_o c_2 hF
      refine lv_ldc (v := (-1000000001)) hx hb hown hk_0 dX6_keep_9 ?_
      obtain rfl := Option.some.inj hF
      exact W.iret (v := (-1000000001)) hx hb hr (fun t ht hW => ⟨⟨_, (), rfl, rfl, by rw [ht]; exact hP, va_K.moved hW.alike hK, hD⟩, hS.F ht⟩) hS.2.2 dX6_keep_11
noncomputable def f_X6_goBack (zX : XS) (zS : SS) (zP : PS) (zI : IS) (zJ : QS) (p1 : Int32) : Option (Int32 × XS × SS × PS) := if p1 < 0 then (some ((-1000000001 : Int32), zX, zS, zP)) else (if p1 < 2 then (nm p1 fun k_3 => if k_3 = 0 then (if (zI 0 2) = 0 then (some ((-1000000003 : Int32), zX, zS, zP)) else ((f_X5_copyFrom zS (zJ 0)).bind fun zS_6 => nm (zI 0 1) fun f8_8 => nm ((upd zX 8 f8_8) : XS) fun zX_9 => (f_X3_forget zP).bind fun zP_10 => some ((1 : Int32), zX_9, zS_6, zP_10))) else if k_3 = 1 then (if (zI 1 2) = 0 then (some ((-1000000003 : Int32), zX, zS, zP)) else ((f_X5_copyFrom zS (zJ 1)).bind fun zS_14 => nm (zI 1 1) fun f8_16 => nm ((upd zX 8 f8_16) : XS) fun zX_17 => (f_X3_forget zP).bind fun zP_18 => some ((1 : Int32), zX_17, zS_14, zP_18))) else none) else (some ((-1000000001 : Int32), zX, zS, zP)))
set_option maxHeartbeats 4000000 in
set_option maxRecDepth 100000 in
theorem c_X6_goBack (l : Launch) (D : va_G) (ci : Nat → ClassId) (aX_0 : Nat) (aR_0 : Nat) (aG_0 : Nat) (aS_0 : Nat) (aP_0 : Nat) (aN_0 : Nat) (aI_0 : Nat) (aT_0 : Nat) (aS_1 : Nat) (aP_1 : Nat) (aQ : Nat → Nat) (aI_1 : Nat) (aI_2 : Nat) (aJ : Nat → Nat) (sz : Nat) (zX : XS) (zS : SS) (zP : PS) (zI : IS) (zJ : QS) (p1 : Int32) (res : Int32 × XS × SS × PS) (hF : f_X6_goBack zX zS zP zI zJ p1 = some res) : CtI l yX6_goBack wsX6_goBack { frames := 2, cells := 0, slots := 0, locals := 61 } [.ref aX_0, .int p1] D ci ((wcX aX_0 aR_0 aG_0 aS_0 aP_0 aN_0 aI_0 aT_0 zX) ++ ((wcS ci aS_0 aS_1 zS) ++ ((wcP ci aP_0 aP_1 aQ zP) ++ ((wcI ci aI_0 aI_1 aI_2 aJ zI) ++ (wcJ ci aJ zJ))))) sz res.1 ((wcX aX_0 aR_0 aG_0 aS_0 aP_0 aN_0 aI_0 aT_0 res.2.1) ++ ((wcS ci aS_0 aS_1 res.2.2.1) ++ ((wcP ci aP_0 aP_1 aQ res.2.2.2) ++ ((wcI ci aI_0 aI_1 aI_2 aJ zI) ++ (wcJ ci aJ zJ))))) := by
  refine Met.ofW (cc := cX6_goBack) (maxL := 3) (ret := (some .int)) (by decide) rfl ?_
  intro p e s m args below meth c s₁ B hml hv
  obtain ⟨rfl, hsz, hP, hK, hD0⟩ := hv
  have hx := B.exec
  have hb := B.bytes
  have hr := B.returns
  have hts := atoms_spec (ws := wsX6_goBack) B.pre
  have hown : s.vm.findClass RX6 = some m.cls := findClass_of_methodNamed B.named
  have hlocks := B.notSynchronized
  subst hsz
  have hD := hD0.self (sz := s.heap.size)
  generalize hAe : va_A ((wcX aX_0 aR_0 aG_0 aS_0 aP_0 aN_0 aI_0 aT_0 zX) ++ ((wcS ci aS_0 aS_1 zS) ++ ((wcP ci aP_0 aP_1 aQ zP) ++ ((wcI ci aI_0 aI_1 aI_2 aJ zI) ++ (wcJ ci aJ zJ))))) s.heap.size = A at hD ⊢
  have hA : ∀ q : Nat, s.heap.size ≤ q → A q := fun q h => by rw [← hAe]; exact Or.inr h
  clear hD0 hAe
  have hl := lv_entry ([.ref aX_0, .int p1]) (n := 3) (Nat.le_of_ble_eq_true rfl)
  rw [lg_entry_eq]
  generalize (lg_sl ([.ref aX_0, .int p1]) ++ List.replicate (3 - (lg_sl ([.ref aX_0, .int p1])).length) Slot.unset).toArray = ls at hl ⊢
  have hl : lv_has ls 3 [(0, .ref aX_0), (1, .int p1)] := hl
  have hP : va_P D vwCl ((wcX aX_0 aR_0 aG_0 aS_0 aP_0 aN_0 aI_0 aT_0 zX) ++ ((wcS ci aS_0 aS_1 zS) ++ ((wcP ci aP_0 aP_1 aQ zP) ++ ((wcI ci aI_0 aI_1 aI_2 aJ zI) ++ (wcJ ci aJ zJ))))) s.heap := hP
  generalize hH0 : s.heap = H at hP ⊢
  have hS : va_S A s.heap H [] := by rw [← hH0]; exact va_S.rf
  clear hH0
  generalize ([] : List Loc) = locs at hS ⊢
  have hk_0 := hts (.constant RX6 147 (-1000000001)) (by decide +kernel)
  have hk_1 := hts (.fieldLink RX6 46 "HedgeWar" "images" "[LHedgeWar$Image;") (by decide +kernel)
  have hin_RX6 : ∀ w ∈ wsX60, w ∈ wsX6_goBack := by decide +kernel
  have hk_3 := hts (.fieldLink RX6 93 "HedgeWar$Image" "kept" "Z") (by decide +kernel)
  have hin_RX1 : ∀ w ∈ wsX10, w ∈ wsX6_goBack := by decide +kernel
  have hk_5 := hts (.fieldLink RX6 26 "HedgeWar" "now" "LHedgeWar$Stand;") (by decide +kernel)
  have hk_6 := hts (.fieldLink RX6 278 "HedgeWar$Image" "stand" "LHedgeWar$Stand;") (by decide +kernel)
  have hk_7 := hts (.fieldLink RX6 279 "HedgeWar$Image" "lot" "I") (by decide +kernel)
  have hk_8 := hts (.fieldLink RX6 58 "HedgeWar" "lot" "I") (by decide +kernel)
  have hk_9 := hts (.fieldLink RX6 33 "HedgeWar" "past" "LHedgeWar$Past;") (by decide +kernel)
  have hk_10 := hts (.constant RX6 204 (-1000000003)) (by decide +kernel)
  unfold f_X6_goBack at hF
  refine lv_iload_n hx hb dX6_goBack_0 rfl (lv_at hl 1 rfl) ?_
  refine lv_if_lt (tgt := 9) hx hb dX6_goBack_1 (by decide) (fun c_1 => ?_) (fun c_1 => ?_)
  · replace hF := if_i c_1 hF
    refine lv_ldc (v := (-1000000001)) hx hb hown hk_0 dX6_goBack_9 ?_
    obtain rfl := Option.some.inj hF
    exact W.iret (v := (-1000000001)) hx hb hr (fun t ht hW => ⟨⟨_, (), rfl, rfl, by rw [ht]; exact hP, va_K.moved hW.alike hK, hD⟩, hS.F ht⟩) hS.2.2 dX6_goBack_11
  · replace hF := if_o c_1 hF
    refine lv_iload_n hx hb dX6_goBack_4 rfl (lv_at hl 1 rfl) ?_
    refine lv_iconst (v := 2) hx hb dX6_goBack_5 (by decide) ?_
    refine lv_icmp_lt (tgt := 12) hx hb dX6_goBack_6 (by decide) (fun c_2 => ?_) (fun c_2 => ?_)
    · replace hF := if_i c_2 hF
      refine lv_aload_n hx hb dX6_goBack_12 rfl (lv_at hl 0 rfl) ?_
      refine va_get (D := D) (ci := 6) (v := .ref aI_0) (C := RX6) (T := TX6) (N := 9) hx hb hts hin_RX6 hown hK hP 0 rfl rfl 5 (by decide) hk_1 (fun _ h9 => h9) rfl dX6_goBack_13 ?_
      refine lv_iload_n hx hb dX6_goBack_16 rfl (lv_at hl 1 rfl) ?_
      refine lv_topi (fun k_3 ek_3 => ?_)
      replace hF := nm_i hF ek_3
      by_cases c_4 : k_3 = 0
      · replace hF := if_i c_4 hF
        subst c_4
        refine va_aldq hx hb hK hP 5 4 rfl rfl (i := 0) (show ¬ ((0 : Int32) < 0 ∨ 2 ≤ (0 : Int32).toNatClampNeg) by decide) dX6_goBack_17 ?_
        refine W.eq (g2 := F0 m 18 ls [.ref aI_1]) rfl ?_
        refine lv_astore_n (lv' := [(2, .ref aI_1), (0, .ref aX_0), (1, .int p1)]) hx hb dX6_goBack_18 rfl hl (by decide) rfl (fun ls hl => ?_)
        refine lv_aload_n hx hb dX6_goBack_19 rfl (lv_at hl 0 rfl) ?_
        refine va_get (D := D) (ci := 1) (v := .int (zI 0 2)) (C := RX1) (T := TX1) (N := 3) hx hb hts hin_RX1 hown hK hP 6 rfl rfl 2 (by decide) hk_3 (fun _ h9 => h9) rfl dX6_goBack_20 ?_
        refine lv_if_ne (tgt := 29) hx hb dX6_goBack_23 (by decide) (fun c_5 => ?_) (fun c_5 => ?_)
        · replace hF := if_o c_5 hF
          refine lv_aload_n hx hb dX6_goBack_29 rfl (lv_at hl 1 rfl) ?_
          refine va_get (D := D) (ci := 6) (v := .ref aS_0) (C := RX6) (T := TX6) (N := 9) hx hb hts hin_RX6 hown hK hP 0 rfl rfl 2 (by decide) hk_5 (fun _ h9 => h9) rfl dX6_goBack_30 ?_
          refine lv_aload_n hx hb dX6_goBack_33 rfl (lv_at hl 0 rfl) ?_
          refine va_get (D := D) (ci := 1) (v := .ref (aJ 0)) (C := RX1) (T := TX1) (N := 3) hx hb hts hin_RX1 hown hK hP 6 rfl rfl 0 (by decide) hk_6 (fun _ h9 => h9) rfl dX6_goBack_34 ?_
          replace hF := bnd hF
          obtain ⟨zS_6, hc_7, hF⟩ := hF
          refine cl_Vv (As := [.ref (aJ 0)]) (rest := []) (wc := ((wcS ci aS_0 aS_1 zS) ++ (wcS ci (aJ 0) (aJ 1) (zJ 0)))) (wr := ([0, 3, 4, 5, 6, 7, 10, 11].filterMap (fun i => ((wcX aX_0 aR_0 aG_0 aS_0 aP_0 aN_0 aI_0 aT_0 zX) ++ ((wcS ci aS_0 aS_1 zS) ++ ((wcP ci aP_0 aP_1 aQ zP) ++ ((wcI ci aI_0 aI_1 aI_2 aJ zI) ++ (wcJ ci aJ zJ)))))[i]?))) (w1 := ((wcS ci aS_0 aS_1 zS_6) ++ (wcS ci (aJ 0) (aJ 1) (zJ 0)))) (wn := ((wcX aX_0 aR_0 aG_0 aS_0 aP_0 aN_0 aI_0 aT_0 zX) ++ ((wcS ci aS_0 aS_1 zS_6) ++ ((wcP ci aP_0 aP_1 aQ zP) ++ ((wcI ci aI_0 aI_1 aI_2 aJ zI) ++ (wcJ ci aJ zJ)))))) ⟨hx, hb, hml, hown, hts⟩ (cwV 1 hts gX6_goBack_X5_copyFrom rfl rfl rfl (by decide +kernel) ⟨Nat.le_of_ble_eq_true rfl, Nat.le_of_ble_eq_true rfl⟩) (c_X5_copyFrom l D ci aS_0 aS_1 (aJ 0) (aJ 1) H.size zS (zJ 0) _ hc_7) hK hP hD hS hA [1, 2, 8, 9] [0, 3, 4, 5, 6, 7, 10, 11] [0, 8, 9, 1, 2, 3, 4, 5, 10, 11, 6, 7] rfl rfl rfl (by decide) 0 rfl rfl rfl rfl hl.1 (Nat.le_of_ble_eq_true rfl) dX6_goBack_37 (Nat.zero_le _) (Nat.zero_le _) (fun H locs hP hD hS => ?_)
          have hP : va_P D vwCl ((wcX aX_0 aR_0 aG_0 aS_0 aP_0 aN_0 aI_0 aT_0 zX) ++ ((wcS ci aS_0 aS_1 zS_6) ++ ((wcP ci aP_0 aP_1 aQ zP) ++ ((wcI ci aI_0 aI_1 aI_2 aJ zI) ++ (wcJ ci aJ zJ))))) H := hP
          have hD : va_D A ((wcX aX_0 aR_0 aG_0 aS_0 aP_0 aN_0 aI_0 aT_0 zX) ++ ((wcS ci aS_0 aS_1 zS_6) ++ ((wcP ci aP_0 aP_1 aQ zP) ++ ((wcI ci aI_0 aI_1 aI_2 aJ zI) ++ (wcJ ci aJ zJ))))) := hD
          refine lv_aload_n hx hb dX6_goBack_40 rfl (lv_at hl 1 rfl) ?_
          refine lv_aload_n hx hb dX6_goBack_41 rfl (lv_at hl 0 rfl) ?_
          refine va_get (D := D) (ci := 1) (v := .int (zI 0 1)) (C := RX1) (T := TX1) (N := 3) hx hb hts hin_RX1 hown hK hP 6 rfl rfl 1 (by decide) hk_7 (fun _ h9 => h9) rfl dX6_goBack_42 ?_
          refine lv_topi (fun f8_8 ef8_8 => ?_)
          replace hF := nm_i hF ef8_8
          refine va_put (D := D) (ci := 6) (v := .int f8_8) (ty := .int) (C := RX6) (T := TX6) (N := 9) hx hb hts hin_RX6 tyX6 tyX6_ok nmX6 hown hK hP hD hS 0 rfl rfl 8 (by decide) hk_8 (fun _ h9 => h9) rfl (by decide +kernel) rfl rfl (Nat.le_of_ble_eq_true rfl) dX6_goBack_45 (fun H locs hP hD hS => ?_)
          obtain ⟨zX_9, ezX_9⟩ : ∃ y : XS, y = (upd zX 8 f8_8) := ⟨_, rfl⟩
          replace hF := nm_i hF ezX_9
          have hP : va_P D vwCl ((wcX aX_0 aR_0 aG_0 aS_0 aP_0 aN_0 aI_0 aT_0 zX_9) ++ ((wcS ci aS_0 aS_1 zS_6) ++ ((wcP ci aP_0 aP_1 aQ zP) ++ ((wcI ci aI_0 aI_1 aI_2 aJ zI) ++ (wcJ ci aJ zJ))))) H := by rw [ezX_9]; exact hP
          have hD : va_D A ((wcX aX_0 aR_0 aG_0 aS_0 aP_0 aN_0 aI_0 aT_0 zX_9) ++ ((wcS ci aS_0 aS_1 zS_6) ++ ((wcP ci aP_0 aP_1 aQ zP) ++ ((wcI ci aI_0 aI_1 aI_2 aJ zI) ++ (wcJ ci aJ zJ))))) := by rw [ezX_9]; exact hD
          refine lv_aload_n hx hb dX6_goBack_48 rfl (lv_at hl 1 rfl) ?_
          refine va_get (D := D) (ci := 6) (v := .ref aP_0) (C := RX6) (T := TX6) (N := 9) hx hb hts hin_RX6 hown hK hP 0 rfl rfl 3 (by decide) hk_9 (fun _ h9 => h9) rfl dX6_goBack_49 ?_
          replace hF := bnd hF
          obtain ⟨zP_10, hc_11, hF⟩ := hF
          refine cl_Vv (As := []) (rest := []) (wc := (wcP ci aP_0 aP_1 aQ zP)) (wr := ([0, 1, 2, 5, 6, 7, 8, 9, 10, 11].filterMap (fun i => ((wcX aX_0 aR_0 aG_0 aS_0 aP_0 aN_0 aI_0 aT_0 zX_9) ++ ((wcS ci aS_0 aS_1 zS_6) ++ ((wcP ci aP_0 aP_1 aQ zP) ++ ((wcI ci aI_0 aI_1 aI_2 aJ zI) ++ (wcJ ci aJ zJ)))))[i]?))) (w1 := (wcP ci aP_0 aP_1 aQ zP_10)) (wn := ((wcX aX_0 aR_0 aG_0 aS_0 aP_0 aN_0 aI_0 aT_0 zX_9) ++ ((wcS ci aS_0 aS_1 zS_6) ++ ((wcP ci aP_0 aP_1 aQ zP_10) ++ ((wcI ci aI_0 aI_1 aI_2 aJ zI) ++ (wcJ ci aJ zJ)))))) ⟨hx, hb, hml, hown, hts⟩ (cwV 0 hts gX6_goBack_X3_forget rfl rfl rfl (by decide +kernel) ⟨Nat.le_of_ble_eq_true rfl, Nat.le_of_ble_eq_true rfl⟩) (c_X3_forget l D ci aP_0 aP_1 aQ H.size zP _ hc_11) hK hP hD hS hA [3, 4] [0, 1, 2, 5, 6, 7, 8, 9, 10, 11] [0, 1, 2, 10, 11, 3, 4, 5, 6, 7, 8, 9] rfl rfl rfl (by decide) 0 rfl rfl rfl rfl hl.1 (Nat.le_of_ble_eq_true rfl) dX6_goBack_52 (Nat.zero_le _) (Nat.zero_le _) (fun H locs hP hD hS => ?_)
          have hP : va_P D vwCl ((wcX aX_0 aR_0 aG_0 aS_0 aP_0 aN_0 aI_0 aT_0 zX_9) ++ ((wcS ci aS_0 aS_1 zS_6) ++ ((wcP ci aP_0 aP_1 aQ zP_10) ++ ((wcI ci aI_0 aI_1 aI_2 aJ zI) ++ (wcJ ci aJ zJ))))) H := hP
          have hD : va_D A ((wcX aX_0 aR_0 aG_0 aS_0 aP_0 aN_0 aI_0 aT_0 zX_9) ++ ((wcS ci aS_0 aS_1 zS_6) ++ ((wcP ci aP_0 aP_1 aQ zP_10) ++ ((wcI ci aI_0 aI_1 aI_2 aJ zI) ++ (wcJ ci aJ zJ))))) := hD
          refine lv_iconst (v := 1) hx hb dX6_goBack_55 (by decide) ?_
          obtain rfl := Option.some.inj hF
          exact W.iret (v := 1) hx hb hr (fun t ht hW => ⟨⟨_, (), rfl, rfl, by rw [ht]; exact hP, va_K.moved hW.alike hK, hD⟩, hS.F ht⟩) hS.2.2 dX6_goBack_56
        · replace hF := if_i c_5 hF
          refine lv_ldc (v := (-1000000003)) hx hb hown hk_10 dX6_goBack_26 ?_
          obtain rfl := Option.some.inj hF
          exact W.iret (v := (-1000000003)) hx hb hr (fun t ht hW => ⟨⟨_, (), rfl, rfl, by rw [ht]; exact hP, va_K.moved hW.alike hK, hD⟩, hS.F ht⟩) hS.2.2 dX6_goBack_28
      replace hF := if_o c_4 hF
      by_cases c_12 : k_3 = 1
      · replace hF := if_i c_12 hF
        subst c_12
        refine va_aldq hx hb hK hP 5 4 rfl rfl (i := 1) (show ¬ ((1 : Int32) < 0 ∨ 2 ≤ (1 : Int32).toNatClampNeg) by decide) dX6_goBack_17 ?_
        refine W.eq (g2 := F0 m 18 ls [.ref aI_2]) rfl ?_
        refine lv_astore_n (lv' := [(2, .ref aI_2), (0, .ref aX_0), (1, .int p1)]) hx hb dX6_goBack_18 rfl hl (by decide) rfl (fun ls hl => ?_)
        refine lv_aload_n hx hb dX6_goBack_19 rfl (lv_at hl 0 rfl) ?_
        refine va_get (D := D) (ci := 1) (v := .int (zI 1 2)) (C := RX1) (T := TX1) (N := 3) hx hb hts hin_RX1 hown hK hP 7 rfl rfl 2 (by decide) hk_3 (fun _ h9 => h9) rfl dX6_goBack_20 ?_
        refine lv_if_ne (tgt := 29) hx hb dX6_goBack_23 (by decide) (fun c_13 => ?_) (fun c_13 => ?_)
        · replace hF := if_o c_13 hF
          refine lv_aload_n hx hb dX6_goBack_29 rfl (lv_at hl 1 rfl) ?_
          refine va_get (D := D) (ci := 6) (v := .ref aS_0) (C := RX6) (T := TX6) (N := 9) hx hb hts hin_RX6 hown hK hP 0 rfl rfl 2 (by decide) hk_5 (fun _ h9 => h9) rfl dX6_goBack_30 ?_
          refine lv_aload_n hx hb dX6_goBack_33 rfl (lv_at hl 0 rfl) ?_
          refine va_get (D := D) (ci := 1) (v := .ref (aJ 2)) (C := RX1) (T := TX1) (N := 3) hx hb hts hin_RX1 hown hK hP 7 rfl rfl 0 (by decide) hk_6 (fun _ h9 => h9) rfl dX6_goBack_34 ?_
          replace hF := bnd hF
          obtain ⟨zS_14, hc_15, hF⟩ := hF
          refine cl_Vv (As := [.ref (aJ 2)]) (rest := []) (wc := ((wcS ci aS_0 aS_1 zS) ++ (wcS ci (aJ 2) (aJ 3) (zJ 1)))) (wr := ([0, 3, 4, 5, 6, 7, 8, 9].filterMap (fun i => ((wcX aX_0 aR_0 aG_0 aS_0 aP_0 aN_0 aI_0 aT_0 zX) ++ ((wcS ci aS_0 aS_1 zS) ++ ((wcP ci aP_0 aP_1 aQ zP) ++ ((wcI ci aI_0 aI_1 aI_2 aJ zI) ++ (wcJ ci aJ zJ)))))[i]?))) (w1 := ((wcS ci aS_0 aS_1 zS_14) ++ (wcS ci (aJ 2) (aJ 3) (zJ 1)))) (wn := ((wcX aX_0 aR_0 aG_0 aS_0 aP_0 aN_0 aI_0 aT_0 zX) ++ ((wcS ci aS_0 aS_1 zS_14) ++ ((wcP ci aP_0 aP_1 aQ zP) ++ ((wcI ci aI_0 aI_1 aI_2 aJ zI) ++ (wcJ ci aJ zJ)))))) ⟨hx, hb, hml, hown, hts⟩ (cwV 1 hts gX6_goBack_X5_copyFrom rfl rfl rfl (by decide +kernel) ⟨Nat.le_of_ble_eq_true rfl, Nat.le_of_ble_eq_true rfl⟩) (c_X5_copyFrom l D ci aS_0 aS_1 (aJ 2) (aJ 3) H.size zS (zJ 1) _ hc_15) hK hP hD hS hA [1, 2, 10, 11] [0, 3, 4, 5, 6, 7, 8, 9] [0, 8, 9, 1, 2, 3, 4, 5, 6, 7, 10, 11] rfl rfl rfl (by decide) 0 rfl rfl rfl rfl hl.1 (Nat.le_of_ble_eq_true rfl) dX6_goBack_37 (Nat.zero_le _) (Nat.zero_le _) (fun H locs hP hD hS => ?_)
          have hP : va_P D vwCl ((wcX aX_0 aR_0 aG_0 aS_0 aP_0 aN_0 aI_0 aT_0 zX) ++ ((wcS ci aS_0 aS_1 zS_14) ++ ((wcP ci aP_0 aP_1 aQ zP) ++ ((wcI ci aI_0 aI_1 aI_2 aJ zI) ++ (wcJ ci aJ zJ))))) H := hP
          have hD : va_D A ((wcX aX_0 aR_0 aG_0 aS_0 aP_0 aN_0 aI_0 aT_0 zX) ++ ((wcS ci aS_0 aS_1 zS_14) ++ ((wcP ci aP_0 aP_1 aQ zP) ++ ((wcI ci aI_0 aI_1 aI_2 aJ zI) ++ (wcJ ci aJ zJ))))) := hD
          refine lv_aload_n hx hb dX6_goBack_40 rfl (lv_at hl 1 rfl) ?_
          refine lv_aload_n hx hb dX6_goBack_41 rfl (lv_at hl 0 rfl) ?_
          refine va_get (D := D) (ci := 1) (v := .int (zI 1 1)) (C := RX1) (T := TX1) (N := 3) hx hb hts hin_RX1 hown hK hP 7 rfl rfl 1 (by decide) hk_7 (fun _ h9 => h9) rfl dX6_goBack_42 ?_
          refine lv_topi (fun f8_16 ef8_16 => ?_)
          replace hF := nm_i hF ef8_16
          refine va_put (D := D) (ci := 6) (v := .int f8_16) (ty := .int) (C := RX6) (T := TX6) (N := 9) hx hb hts hin_RX6 tyX6 tyX6_ok nmX6 hown hK hP hD hS 0 rfl rfl 8 (by decide) hk_8 (fun _ h9 => h9) rfl (by decide +kernel) rfl rfl (Nat.le_of_ble_eq_true rfl) dX6_goBack_45 (fun H locs hP hD hS => ?_)
          obtain ⟨zX_17, ezX_17⟩ : ∃ y : XS, y = (upd zX 8 f8_16) := ⟨_, rfl⟩
          replace hF := nm_i hF ezX_17
          have hP : va_P D vwCl ((wcX aX_0 aR_0 aG_0 aS_0 aP_0 aN_0 aI_0 aT_0 zX_17) ++ ((wcS ci aS_0 aS_1 zS_14) ++ ((wcP ci aP_0 aP_1 aQ zP) ++ ((wcI ci aI_0 aI_1 aI_2 aJ zI) ++ (wcJ ci aJ zJ))))) H := by rw [ezX_17]; exact hP
          have hD : va_D A ((wcX aX_0 aR_0 aG_0 aS_0 aP_0 aN_0 aI_0 aT_0 zX_17) ++ ((wcS ci aS_0 aS_1 zS_14) ++ ((wcP ci aP_0 aP_1 aQ zP) ++ ((wcI ci aI_0 aI_1 aI_2 aJ zI) ++ (wcJ ci aJ zJ))))) := by rw [ezX_17]; exact hD
          refine lv_aload_n hx hb dX6_goBack_48 rfl (lv_at hl 1 rfl) ?_
          refine va_get (D := D) (ci := 6) (v := .ref aP_0) (C := RX6) (T := TX6) (N := 9) hx hb hts hin_RX6 hown hK hP 0 rfl rfl 3 (by decide) hk_9 (fun _ h9 => h9) rfl dX6_goBack_49 ?_
          replace hF := bnd hF
          obtain ⟨zP_18, hc_19, hF⟩ := hF
          refine cl_Vv (As := []) (rest := []) (wc := (wcP ci aP_0 aP_1 aQ zP)) (wr := ([0, 1, 2, 5, 6, 7, 8, 9, 10, 11].filterMap (fun i => ((wcX aX_0 aR_0 aG_0 aS_0 aP_0 aN_0 aI_0 aT_0 zX_17) ++ ((wcS ci aS_0 aS_1 zS_14) ++ ((wcP ci aP_0 aP_1 aQ zP) ++ ((wcI ci aI_0 aI_1 aI_2 aJ zI) ++ (wcJ ci aJ zJ)))))[i]?))) (w1 := (wcP ci aP_0 aP_1 aQ zP_18)) (wn := ((wcX aX_0 aR_0 aG_0 aS_0 aP_0 aN_0 aI_0 aT_0 zX_17) ++ ((wcS ci aS_0 aS_1 zS_14) ++ ((wcP ci aP_0 aP_1 aQ zP_18) ++ ((wcI ci aI_0 aI_1 aI_2 aJ zI) ++ (wcJ ci aJ zJ)))))) ⟨hx, hb, hml, hown, hts⟩ (cwV 0 hts gX6_goBack_X3_forget rfl rfl rfl (by decide +kernel) ⟨Nat.le_of_ble_eq_true rfl, Nat.le_of_ble_eq_true rfl⟩) (c_X3_forget l D ci aP_0 aP_1 aQ H.size zP _ hc_19) hK hP hD hS hA [3, 4] [0, 1, 2, 5, 6, 7, 8, 9, 10, 11] [0, 1, 2, 10, 11, 3, 4, 5, 6, 7, 8, 9] rfl rfl rfl (by decide) 0 rfl rfl rfl rfl hl.1 (Nat.le_of_ble_eq_true rfl) dX6_goBack_52 (Nat.zero_le _) (Nat.zero_le _) (fun H locs hP hD hS => ?_)
          have hP : va_P D vwCl ((wcX aX_0 aR_0 aG_0 aS_0 aP_0 aN_0 aI_0 aT_0 zX_17) ++ ((wcS ci aS_0 aS_1 zS_14) ++ ((wcP ci aP_0 aP_1 aQ zP_18) ++ ((wcI ci aI_0 aI_1 aI_2 aJ zI) ++ (wcJ ci aJ zJ))))) H := hP
          have hD : va_D A ((wcX aX_0 aR_0 aG_0 aS_0 aP_0 aN_0 aI_0 aT_0 zX_17) ++ ((wcS ci aS_0 aS_1 zS_14) ++ ((wcP ci aP_0 aP_1 aQ zP_18) ++ ((wcI ci aI_0 aI_1 aI_2 aJ zI) ++ (wcJ ci aJ zJ))))) := hD
          refine lv_iconst (v := 1) hx hb dX6_goBack_55 (by decide) ?_
          obtain rfl := Option.some.inj hF
          exact W.iret (v := 1) hx hb hr (fun t ht hW => ⟨⟨_, (), rfl, rfl, by rw [ht]; exact hP, va_K.moved hW.alike hK, hD⟩, hS.F ht⟩) hS.2.2 dX6_goBack_56
        · replace hF := if_i c_13 hF
          refine lv_ldc (v := (-1000000003)) hx hb hown hk_10 dX6_goBack_26 ?_
          obtain rfl := Option.some.inj hF
          exact W.iret (v := (-1000000003)) hx hb hr (fun t ht hW => ⟨⟨_, (), rfl, rfl, by rw [ht]; exact hP, va_K.moved hW.alike hK, hD⟩, hS.F ht⟩) hS.2.2 dX6_goBack_28
      replace hF := if_o c_12 hF
      exact absurd hF (fun h => no_none h)
    · replace hF := if_o c_2 hF
      refine lv_ldc (v := (-1000000001)) hx hb hown hk_0 dX6_goBack_9 ?_
      obtain rfl := Option.some.inj hF
      exact W.iret (v := (-1000000001)) hx hb hr (fun t ht hW => ⟨⟨_, (), rfl, rfl, by rw [ht]; exact hP, va_K.moved hW.alike hK, hD⟩, hS.F ht⟩) hS.2.2 dX6_goBack_11
noncomputable def L_X6_parish_91 (zX_8 : XS) (zR_6 : RS) (zRG_2 : GS) (zRS_3 : SS) (zG_10 : GS) (zS_12 : SS) (zP_14 : PS) (zN_16 : NS) : Nat → Int32 → IS → Option (Int32 × IS)
  | 0, _, _ => none
  | n + 1, v1_19, zI_20 => if (2 : Int32) ≤ v1_19 then (some (v1_19, zI_20)) else (nm v1_19 fun k_28 => if k_28 = 0 then (nm ((va_up zI_20 0 (upd (zI_20 0) 2 0)) : IS) fun zI_30 => nm (v1_19 + 1) fun v1_31 => L_X6_parish_91 zX_8 zR_6 zRG_2 zRS_3 zG_10 zS_12 zP_14 zN_16 n v1_31 zI_30) else if k_28 = 1 then (nm ((va_up zI_20 1 (upd (zI_20 1) 2 0)) : IS) fun zI_33 => nm (v1_19 + 1) fun v1_34 => L_X6_parish_91 zX_8 zR_6 zRG_2 zRS_3 zG_10 zS_12 zP_14 zN_16 n v1_34 zI_33) else none)
noncomputable def f_X6_parish (zX : XS) (zR : RS) (zRG : GS) (zRS : SS) (zG : GS) (zS : SS) (zP : PS) (zN : NS) (zI : IS) : Option (Int32 × XS × RS × GS × SS × GS × SS × PS × NS × IS) := (f_X4_readText zR zRG zRS).bind fun q_5 => nm q_5.1 fun zR_1 => nm q_5.2.1 fun zRG_2 => nm q_5.2.2 fun zRS_3 => nm ((upd zR_1.1 3 0, zR_1.2) : RS) fun zR_6 => nm (zR_6.1 7) fun f7_7 => nm ((upd zX 7 f7_7) : XS) fun zX_8 => if (zR_6.1 6) = 0 then ((f_X0_copyFrom zG zRG_2).bind fun zG_10 => (f_X5_copyFrom zS zRS_3).bind fun zS_12 => (f_X3_forget zP).bind fun zP_14 => (f_X2_forget zN).bind fun zN_16 => nm (0 : Int32) fun v1_18 => (L_X6_parish_91 zX_8 zR_6 zRG_2 zRS_3 zG_10 zS_12 zP_14 zN_16 3000 v1_18 zI).bind fun q_36 => nm q_36.1 fun v1_23 => nm q_36.2 fun zI_24 => some ((zG_10.1 2), zX_8, zR_6, zRG_2, zRS_3, zG_10, zS_12, zP_14, zN_16, zI_24)) else (some (((-10) - (zR_6.1 6)), zX_8, zR_6, zRG_2, zRS_3, zG, zS, zP, zN, zI))
set_option maxHeartbeats 4000000 in
set_option maxRecDepth 100000 in
theorem c_X6_parish (l : Launch) (D : va_G) (ci : Nat → ClassId) (aX_0 : Nat) (aR_0 : Nat) (aG_0 : Nat) (aS_0 : Nat) (aP_0 : Nat) (aN_0 : Nat) (aI_0 : Nat) (aT_0 : Nat) (aR_1 : Nat) (aRG_0 : Nat) (aRS_0 : Nat) (aRG_1 : Nat) (aRG_2 : Nat) (aRG_3 : Nat) (aRG_4 : Nat) (aRS_1 : Nat) (aG_1 : Nat) (aG_2 : Nat) (aG_3 : Nat) (aG_4 : Nat) (aS_1 : Nat) (aP_1 : Nat) (aQ : Nat → Nat) (aN_1 : Nat) (aN_2 : Nat) (aN_3 : Nat) (aN_4 : Nat) (aI_1 : Nat) (aI_2 : Nat) (aJ : Nat → Nat) (sz : Nat) (zX : XS) (zR : RS) (zRG : GS) (zRS : SS) (zG : GS) (zS : SS) (zP : PS) (zN : NS) (zI : IS) (res : Int32 × XS × RS × GS × SS × GS × SS × PS × NS × IS) (hF : f_X6_parish zX zR zRG zRS zG zS zP zN zI = some res) : CtI l yX6_parish wsX6_parish { frames := 6, cells := 0, slots := 0, locals := 132 } [.ref aX_0] D ci ((wcX aX_0 aR_0 aG_0 aS_0 aP_0 aN_0 aI_0 aT_0 zX) ++ ((wcR ci aR_0 aR_1 aRG_0 aRS_0 zR) ++ ((wcG ci aRG_0 aRG_1 aRG_2 aRG_3 aRG_4 zRG) ++ ((wcS ci aRS_0 aRS_1 zRS) ++ ((wcG ci aG_0 aG_1 aG_2 aG_3 aG_4 zG) ++ ((wcS ci aS_0 aS_1 zS) ++ ((wcP ci aP_0 aP_1 aQ zP) ++ ((wcN ci aN_0 aN_1 aN_2 aN_3 aN_4 zN) ++ (wcI ci aI_0 aI_1 aI_2 aJ zI))))))))) sz res.1 ((wcX aX_0 aR_0 aG_0 aS_0 aP_0 aN_0 aI_0 aT_0 res.2.1) ++ ((wcR ci aR_0 aR_1 aRG_0 aRS_0 res.2.2.1) ++ ((wcG ci aRG_0 aRG_1 aRG_2 aRG_3 aRG_4 res.2.2.2.1) ++ ((wcS ci aRS_0 aRS_1 res.2.2.2.2.1) ++ ((wcG ci aG_0 aG_1 aG_2 aG_3 aG_4 res.2.2.2.2.2.1) ++ ((wcS ci aS_0 aS_1 res.2.2.2.2.2.2.1) ++ ((wcP ci aP_0 aP_1 aQ res.2.2.2.2.2.2.2.1) ++ ((wcN ci aN_0 aN_1 aN_2 aN_3 aN_4 res.2.2.2.2.2.2.2.2.1) ++ (wcI ci aI_0 aI_1 aI_2 aJ res.2.2.2.2.2.2.2.2.2))))))))) := by
  refine Met.ofW (cc := cX6_parish) (maxL := 2) (ret := (some .int)) (by decide) rfl ?_
  intro p e s m args below meth c s₁ B hml hv
  obtain ⟨rfl, hsz, hP, hK, hD0⟩ := hv
  have hx := B.exec
  have hb := B.bytes
  have hr := B.returns
  have hts := atoms_spec (ws := wsX6_parish) B.pre
  have hown : s.vm.findClass RX6 = some m.cls := findClass_of_methodNamed B.named
  have hlocks := B.notSynchronized
  subst hsz
  have hD := hD0.self (sz := s.heap.size)
  generalize hAe : va_A ((wcX aX_0 aR_0 aG_0 aS_0 aP_0 aN_0 aI_0 aT_0 zX) ++ ((wcR ci aR_0 aR_1 aRG_0 aRS_0 zR) ++ ((wcG ci aRG_0 aRG_1 aRG_2 aRG_3 aRG_4 zRG) ++ ((wcS ci aRS_0 aRS_1 zRS) ++ ((wcG ci aG_0 aG_1 aG_2 aG_3 aG_4 zG) ++ ((wcS ci aS_0 aS_1 zS) ++ ((wcP ci aP_0 aP_1 aQ zP) ++ ((wcN ci aN_0 aN_1 aN_2 aN_3 aN_4 zN) ++ (wcI ci aI_0 aI_1 aI_2 aJ zI))))))))) s.heap.size = A at hD ⊢
  have hA : ∀ q : Nat, s.heap.size ≤ q → A q := fun q h => by rw [← hAe]; exact Or.inr h
  clear hD0 hAe
  have hl := lv_entry ([.ref aX_0]) (n := 2) (Nat.le_of_ble_eq_true rfl)
  rw [lg_entry_eq]
  generalize (lg_sl ([.ref aX_0]) ++ List.replicate (2 - (lg_sl ([.ref aX_0])).length) Slot.unset).toArray = ls at hl ⊢
  have hl : lv_has ls 2 [(0, .ref aX_0)] := hl
  have hP : va_P D vwCl ((wcX aX_0 aR_0 aG_0 aS_0 aP_0 aN_0 aI_0 aT_0 zX) ++ ((wcR ci aR_0 aR_1 aRG_0 aRS_0 zR) ++ ((wcG ci aRG_0 aRG_1 aRG_2 aRG_3 aRG_4 zRG) ++ ((wcS ci aRS_0 aRS_1 zRS) ++ ((wcG ci aG_0 aG_1 aG_2 aG_3 aG_4 zG) ++ ((wcS ci aS_0 aS_1 zS) ++ ((wcP ci aP_0 aP_1 aQ zP) ++ ((wcN ci aN_0 aN_1 aN_2 aN_3 aN_4 zN) ++ (wcI ci aI_0 aI_1 aI_2 aJ zI))))))))) s.heap := hP
  generalize hH0 : s.heap = H at hP ⊢
  have hS : va_S A s.heap H [] := by rw [← hH0]; exact va_S.rf
  clear hH0
  generalize ([] : List Loc) = locs at hS ⊢
  have hk_0 := hts (.fieldLink RX6 10 "HedgeWar" "reader" "LHedgeWar$Reader;") (by decide +kernel)
  have hin_RX6 : ∀ w ∈ wsX60, w ∈ wsX6_parish := by decide +kernel
  have hk_2 := hts (.fieldLink RX6 63 "HedgeWar$Reader" "letters" "I") (by decide +kernel)
  have hin_RX4 : ∀ w ∈ wsX40, w ∈ wsX6_parish := by decide +kernel
  have hk_4 := hts (.fieldLink RX6 74 "HedgeWar$Reader" "faultPlace" "I") (by decide +kernel)
  have hk_5 := hts (.fieldLink RX6 54 "HedgeWar" "faultPlace" "I") (by decide +kernel)
  have hk_6 := hts (.fieldLink RX6 75 "HedgeWar$Reader" "faultNumber" "I") (by decide +kernel)
  have hk_7 := hts (.fieldLink RX6 19 "HedgeWar" "ground" "LHedgeWar$Ground;") (by decide +kernel)
  have hk_8 := hts (.fieldLink RX6 78 "HedgeWar$Reader" "ground" "LHedgeWar$Ground;") (by decide +kernel)
  have hk_9 := hts (.fieldLink RX6 26 "HedgeWar" "now" "LHedgeWar$Stand;") (by decide +kernel)
  have hk_10 := hts (.fieldLink RX6 83 "HedgeWar$Reader" "stand" "LHedgeWar$Stand;") (by decide +kernel)
  have hk_11 := hts (.fieldLink RX6 33 "HedgeWar" "past" "LHedgeWar$Past;") (by decide +kernel)
  have hk_12 := hts (.fieldLink RX6 40 "HedgeWar" "notes" "LHedgeWar$Notes;") (by decide +kernel)
  have hk_13 := hts (.fieldLink RX6 46 "HedgeWar" "images" "[LHedgeWar$Image;") (by decide +kernel)
  have hk_14 := hts (.fieldLink RX6 93 "HedgeWar$Image" "kept" "Z") (by decide +kernel)
  have hin_RX1 : ∀ w ∈ wsX10, w ∈ wsX6_parish := by decide +kernel
  have hk_16 := hts (.fieldLink RX6 97 "HedgeWar$Ground" "fields" "I") (by decide +kernel)
  have hin_RX0 : ∀ w ∈ wsX00, w ∈ wsX6_parish := by decide +kernel
  unfold f_X6_parish at hF
  refine lv_aload_n hx hb dX6_parish_0 rfl (lv_at hl 0 rfl) ?_
  refine va_get (D := D) (ci := 6) (v := .ref aR_0) (C := RX6) (T := TX6) (N := 9) hx hb hts hin_RX6 hown hK hP 0 rfl rfl 0 (by decide) hk_0 (fun _ h9 => h9) rfl dX6_parish_1 ?_
  replace hF := bnd hF
  obtain ⟨q_5, hc_4, hF⟩ := hF
  obtain ⟨zR_1, ezR_1⟩ : ∃ y : RS, y = q_5.1 := ⟨_, rfl⟩
  replace hF := nm_i hF ezR_1
  obtain ⟨zRG_2, ezRG_2⟩ : ∃ y : GS, y = q_5.2.1 := ⟨_, rfl⟩
  replace hF := nm_i hF ezRG_2
  obtain ⟨zRS_3, ezRS_3⟩ : ∃ y : SS, y = q_5.2.2 := ⟨_, rfl⟩
  replace hF := nm_i hF ezRS_3
  obtain rfl : q_5 = (zR_1, zRG_2, zRS_3) := by rw [ezR_1, ezRG_2, ezRS_3]
  clear ezR_1
  clear ezRG_2
  clear ezRS_3
  refine cl_Vv (As := []) (rest := []) (wc := ((wcR ci aR_0 aR_1 aRG_0 aRS_0 zR) ++ ((wcG ci aRG_0 aRG_1 aRG_2 aRG_3 aRG_4 zRG) ++ (wcS ci aRS_0 aRS_1 zRS)))) (wr := ([0, 10, 11, 12, 13, 14, 15, 16, 17, 18, 19, 20, 21, 22, 23, 24, 25, 26].filterMap (fun i => ((wcX aX_0 aR_0 aG_0 aS_0 aP_0 aN_0 aI_0 aT_0 zX) ++ ((wcR ci aR_0 aR_1 aRG_0 aRS_0 zR) ++ ((wcG ci aRG_0 aRG_1 aRG_2 aRG_3 aRG_4 zRG) ++ ((wcS ci aRS_0 aRS_1 zRS) ++ ((wcG ci aG_0 aG_1 aG_2 aG_3 aG_4 zG) ++ ((wcS ci aS_0 aS_1 zS) ++ ((wcP ci aP_0 aP_1 aQ zP) ++ ((wcN ci aN_0 aN_1 aN_2 aN_3 aN_4 zN) ++ (wcI ci aI_0 aI_1 aI_2 aJ zI)))))))))[i]?))) (w1 := ((wcR ci aR_0 aR_1 aRG_0 aRS_0 zR_1) ++ ((wcG ci aRG_0 aRG_1 aRG_2 aRG_3 aRG_4 zRG_2) ++ (wcS ci aRS_0 aRS_1 zRS_3)))) (wn := ((wcX aX_0 aR_0 aG_0 aS_0 aP_0 aN_0 aI_0 aT_0 zX) ++ ((wcR ci aR_0 aR_1 aRG_0 aRS_0 zR_1) ++ ((wcG ci aRG_0 aRG_1 aRG_2 aRG_3 aRG_4 zRG_2) ++ ((wcS ci aRS_0 aRS_1 zRS_3) ++ ((wcG ci aG_0 aG_1 aG_2 aG_3 aG_4 zG) ++ ((wcS ci aS_0 aS_1 zS) ++ ((wcP ci aP_0 aP_1 aQ zP) ++ ((wcN ci aN_0 aN_1 aN_2 aN_3 aN_4 zN) ++ (wcI ci aI_0 aI_1 aI_2 aJ zI)))))))))) ⟨hx, hb, hml, hown, hts⟩ (cwV 0 hts gX6_parish_X4_readText rfl rfl rfl (by decide +kernel) ⟨Nat.le_of_ble_eq_true rfl, Nat.le_of_ble_eq_true rfl⟩) (c_X4_readText l D ci aR_0 aR_1 aRG_0 aRS_0 aRG_1 aRG_2 aRG_3 aRG_4 aRS_1 H.size zR zRG zRS _ hc_4) hK hP hD hS hA [1, 2, 3, 4, 5, 6, 7, 8, 9] [0, 10, 11, 12, 13, 14, 15, 16, 17, 18, 19, 20, 21, 22, 23, 24, 25, 26] [0, 18, 19, 20, 21, 22, 23, 24, 25, 26, 1, 2, 3, 4, 5, 6, 7, 8, 9, 10, 11, 12, 13, 14, 15, 16, 17] rfl rfl rfl (by decide) 0 rfl rfl rfl rfl hl.1 (Nat.le_of_ble_eq_true rfl) dX6_parish_4 (Nat.zero_le _) (Nat.zero_le _) (fun H locs hP hD hS => ?_)
  have hP : va_P D vwCl ((wcX aX_0 aR_0 aG_0 aS_0 aP_0 aN_0 aI_0 aT_0 zX) ++ ((wcR ci aR_0 aR_1 aRG_0 aRS_0 zR_1) ++ ((wcG ci aRG_0 aRG_1 aRG_2 aRG_3 aRG_4 zRG_2) ++ ((wcS ci aRS_0 aRS_1 zRS_3) ++ ((wcG ci aG_0 aG_1 aG_2 aG_3 aG_4 zG) ++ ((wcS ci aS_0 aS_1 zS) ++ ((wcP ci aP_0 aP_1 aQ zP) ++ ((wcN ci aN_0 aN_1 aN_2 aN_3 aN_4 zN) ++ (wcI ci aI_0 aI_1 aI_2 aJ zI))))))))) H := hP
  have hD : va_D A ((wcX aX_0 aR_0 aG_0 aS_0 aP_0 aN_0 aI_0 aT_0 zX) ++ ((wcR ci aR_0 aR_1 aRG_0 aRS_0 zR_1) ++ ((wcG ci aRG_0 aRG_1 aRG_2 aRG_3 aRG_4 zRG_2) ++ ((wcS ci aRS_0 aRS_1 zRS_3) ++ ((wcG ci aG_0 aG_1 aG_2 aG_3 aG_4 zG) ++ ((wcS ci aS_0 aS_1 zS) ++ ((wcP ci aP_0 aP_1 aQ zP) ++ ((wcN ci aN_0 aN_1 aN_2 aN_3 aN_4 zN) ++ (wcI ci aI_0 aI_1 aI_2 aJ zI))))))))) := hD
  refine lv_aload_n hx hb dX6_parish_7 rfl (lv_at hl 0 rfl) ?_
  refine va_get (D := D) (ci := 6) (v := .ref aR_0) (C := RX6) (T := TX6) (N := 9) hx hb hts hin_RX6 hown hK hP 0 rfl rfl 0 (by decide) hk_0 (fun _ h9 => h9) rfl dX6_parish_8 ?_
  refine lv_iconst (v := 0) hx hb dX6_parish_11 (by decide) ?_
  refine va_put (D := D) (ci := 4) (v := .int 0) (ty := .int) (C := RX4) (T := TX4) (N := 8) hx hb hts hin_RX4 tyX4 tyX4_ok nmX4 hown hK hP hD hS 1 rfl rfl 3 (by decide) hk_2 (fun _ h9 => h9) rfl (by decide +kernel) rfl rfl (Nat.le_of_ble_eq_true rfl) dX6_parish_12 (fun H locs hP hD hS => ?_)
  obtain ⟨zR_6, ezR_6⟩ : ∃ y : RS, y = (upd zR_1.1 3 0, zR_1.2) := ⟨_, rfl⟩
  replace hF := nm_i hF ezR_6
  have hP : va_P D vwCl ((wcX aX_0 aR_0 aG_0 aS_0 aP_0 aN_0 aI_0 aT_0 zX) ++ ((wcR ci aR_0 aR_1 aRG_0 aRS_0 zR_6) ++ ((wcG ci aRG_0 aRG_1 aRG_2 aRG_3 aRG_4 zRG_2) ++ ((wcS ci aRS_0 aRS_1 zRS_3) ++ ((wcG ci aG_0 aG_1 aG_2 aG_3 aG_4 zG) ++ ((wcS ci aS_0 aS_1 zS) ++ ((wcP ci aP_0 aP_1 aQ zP) ++ ((wcN ci aN_0 aN_1 aN_2 aN_3 aN_4 zN) ++ (wcI ci aI_0 aI_1 aI_2 aJ zI))))))))) H := by rw [ezR_6]; exact hP
  have hD : va_D A ((wcX aX_0 aR_0 aG_0 aS_0 aP_0 aN_0 aI_0 aT_0 zX) ++ ((wcR ci aR_0 aR_1 aRG_0 aRS_0 zR_6) ++ ((wcG ci aRG_0 aRG_1 aRG_2 aRG_3 aRG_4 zRG_2) ++ ((wcS ci aRS_0 aRS_1 zRS_3) ++ ((wcG ci aG_0 aG_1 aG_2 aG_3 aG_4 zG) ++ ((wcS ci aS_0 aS_1 zS) ++ ((wcP ci aP_0 aP_1 aQ zP) ++ ((wcN ci aN_0 aN_1 aN_2 aN_3 aN_4 zN) ++ (wcI ci aI_0 aI_1 aI_2 aJ zI))))))))) := by rw [ezR_6]; exact hD
  refine lv_aload_n hx hb dX6_parish_15 rfl (lv_at hl 0 rfl) ?_
  refine lv_aload_n hx hb dX6_parish_16 rfl (lv_at hl 0 rfl) ?_
  refine va_get (D := D) (ci := 6) (v := .ref aR_0) (C := RX6) (T := TX6) (N := 9) hx hb hts hin_RX6 hown hK hP 0 rfl rfl 0 (by decide) hk_0 (fun _ h9 => h9) rfl dX6_parish_17 ?_
  refine va_get (D := D) (ci := 4) (v := .int (zR_6.1 7)) (C := RX4) (T := TX4) (N := 8) hx hb hts hin_RX4 hown hK hP 1 rfl rfl 7 (by decide) hk_4 (fun _ h9 => h9) rfl dX6_parish_20 ?_
  refine lv_topi (fun f7_7 ef7_7 => ?_)
  replace hF := nm_i hF ef7_7
  refine va_put (D := D) (ci := 6) (v := .int f7_7) (ty := .int) (C := RX6) (T := TX6) (N := 9) hx hb hts hin_RX6 tyX6 tyX6_ok nmX6 hown hK hP hD hS 0 rfl rfl 7 (by decide) hk_5 (fun _ h9 => h9) rfl (by decide +kernel) rfl rfl (Nat.le_of_ble_eq_true rfl) dX6_parish_23 (fun H locs hP hD hS => ?_)
  obtain ⟨zX_8, ezX_8⟩ : ∃ y : XS, y = (upd zX 7 f7_7) := ⟨_, rfl⟩
  replace hF := nm_i hF ezX_8
  have hP : va_P D vwCl ((wcX aX_0 aR_0 aG_0 aS_0 aP_0 aN_0 aI_0 aT_0 zX_8) ++ ((wcR ci aR_0 aR_1 aRG_0 aRS_0 zR_6) ++ ((wcG ci aRG_0 aRG_1 aRG_2 aRG_3 aRG_4 zRG_2) ++ ((wcS ci aRS_0 aRS_1 zRS_3) ++ ((wcG ci aG_0 aG_1 aG_2 aG_3 aG_4 zG) ++ ((wcS ci aS_0 aS_1 zS) ++ ((wcP ci aP_0 aP_1 aQ zP) ++ ((wcN ci aN_0 aN_1 aN_2 aN_3 aN_4 zN) ++ (wcI ci aI_0 aI_1 aI_2 aJ zI))))))))) H := by rw [ezX_8]; exact hP
  have hD : va_D A ((wcX aX_0 aR_0 aG_0 aS_0 aP_0 aN_0 aI_0 aT_0 zX_8) ++ ((wcR ci aR_0 aR_1 aRG_0 aRS_0 zR_6) ++ ((wcG ci aRG_0 aRG_1 aRG_2 aRG_3 aRG_4 zRG_2) ++ ((wcS ci aRS_0 aRS_1 zRS_3) ++ ((wcG ci aG_0 aG_1 aG_2 aG_3 aG_4 zG) ++ ((wcS ci aS_0 aS_1 zS) ++ ((wcP ci aP_0 aP_1 aQ zP) ++ ((wcN ci aN_0 aN_1 aN_2 aN_3 aN_4 zN) ++ (wcI ci aI_0 aI_1 aI_2 aJ zI))))))))) := by rw [ezX_8]; exact hD
  refine lv_aload_n hx hb dX6_parish_26 rfl (lv_at hl 0 rfl) ?_
  refine va_get (D := D) (ci := 6) (v := .ref aR_0) (C := RX6) (T := TX6) (N := 9) hx hb hts hin_RX6 hown hK hP 0 rfl rfl 0 (by decide) hk_0 (fun _ h9 => h9) rfl dX6_parish_27 ?_
  refine va_get (D := D) (ci := 4) (v := .int (zR_6.1 6)) (C := RX4) (T := TX4) (N := 8) hx hb hts hin_RX4 hown hK hP 1 rfl rfl 6 (by decide) hk_6 (fun _ h9 => h9) rfl dX6_parish_30 ?_
  refine lv_if_eq (tgt := 47) hx hb dX6_parish_33 (by decide) (fun c_9 => ?_) (fun c_9 => ?_)
  · replace hF := if_i c_9 hF
    refine lv_aload_n hx hb dX6_parish_47 rfl (lv_at hl 0 rfl) ?_
    refine va_get (D := D) (ci := 6) (v := .ref aG_0) (C := RX6) (T := TX6) (N := 9) hx hb hts hin_RX6 hown hK hP 0 rfl rfl 1 (by decide) hk_7 (fun _ h9 => h9) rfl dX6_parish_48 ?_
    refine lv_aload_n hx hb dX6_parish_51 rfl (lv_at hl 0 rfl) ?_
    refine va_get (D := D) (ci := 6) (v := .ref aR_0) (C := RX6) (T := TX6) (N := 9) hx hb hts hin_RX6 hown hK hP 0 rfl rfl 0 (by decide) hk_0 (fun _ h9 => h9) rfl dX6_parish_52 ?_
    refine va_get (D := D) (ci := 4) (v := .ref aRG_0) (C := RX4) (T := TX4) (N := 8) hx hb hts hin_RX4 hown hK hP 1 rfl rfl 1 (by decide) hk_8 (fun _ h9 => h9) rfl dX6_parish_55 ?_
    replace hF := bnd hF
    obtain ⟨zG_10, hc_11, hF⟩ := hF
    refine cl_Vv (As := [.ref aRG_0]) (rest := []) (wc := ((wcG ci aG_0 aG_1 aG_2 aG_3 aG_4 zG) ++ (wcG ci aRG_0 aRG_1 aRG_2 aRG_3 aRG_4 zRG_2))) (wr := ([0, 1, 2, 8, 9, 15, 16, 17, 18, 19, 20, 21, 22, 23, 24, 25, 26].filterMap (fun i => ((wcX aX_0 aR_0 aG_0 aS_0 aP_0 aN_0 aI_0 aT_0 zX_8) ++ ((wcR ci aR_0 aR_1 aRG_0 aRS_0 zR_6) ++ ((wcG ci aRG_0 aRG_1 aRG_2 aRG_3 aRG_4 zRG_2) ++ ((wcS ci aRS_0 aRS_1 zRS_3) ++ ((wcG ci aG_0 aG_1 aG_2 aG_3 aG_4 zG) ++ ((wcS ci aS_0 aS_1 zS) ++ ((wcP ci aP_0 aP_1 aQ zP) ++ ((wcN ci aN_0 aN_1 aN_2 aN_3 aN_4 zN) ++ (wcI ci aI_0 aI_1 aI_2 aJ zI)))))))))[i]?))) (w1 := ((wcG ci aG_0 aG_1 aG_2 aG_3 aG_4 zG_10) ++ (wcG ci aRG_0 aRG_1 aRG_2 aRG_3 aRG_4 zRG_2))) (wn := ((wcX aX_0 aR_0 aG_0 aS_0 aP_0 aN_0 aI_0 aT_0 zX_8) ++ ((wcR ci aR_0 aR_1 aRG_0 aRS_0 zR_6) ++ ((wcG ci aRG_0 aRG_1 aRG_2 aRG_3 aRG_4 zRG_2) ++ ((wcS ci aRS_0 aRS_1 zRS_3) ++ ((wcG ci aG_0 aG_1 aG_2 aG_3 aG_4 zG_10) ++ ((wcS ci aS_0 aS_1 zS) ++ ((wcP ci aP_0 aP_1 aQ zP) ++ ((wcN ci aN_0 aN_1 aN_2 aN_3 aN_4 zN) ++ (wcI ci aI_0 aI_1 aI_2 aJ zI)))))))))) ⟨hx, hb, hml, hown, hts⟩ (cwV 1 hts gX6_parish_X0_copyFrom rfl rfl rfl (by decide +kernel) ⟨Nat.le_of_ble_eq_true rfl, Nat.le_of_ble_eq_true rfl⟩) (c_X0_copyFrom l D ci aG_0 aG_1 aG_2 aG_3 aG_4 aRG_0 aRG_1 aRG_2 aRG_3 aRG_4 H.size zG zRG_2 _ hc_11) hK hP hD hS hA [10, 11, 12, 13, 14, 3, 4, 5, 6, 7] [0, 1, 2, 8, 9, 15, 16, 17, 18, 19, 20, 21, 22, 23, 24, 25, 26] [0, 1, 2, 22, 23, 24, 25, 26, 3, 4, 17, 18, 19, 20, 21, 5, 6, 7, 8, 9, 10, 11, 12, 13, 14, 15, 16] rfl rfl rfl (by decide) 0 rfl rfl rfl rfl hl.1 (Nat.le_of_ble_eq_true rfl) dX6_parish_58 (Nat.zero_le _) (Nat.zero_le _) (fun H locs hP hD hS => ?_)
    have hP : va_P D vwCl ((wcX aX_0 aR_0 aG_0 aS_0 aP_0 aN_0 aI_0 aT_0 zX_8) ++ ((wcR ci aR_0 aR_1 aRG_0 aRS_0 zR_6) ++ ((wcG ci aRG_0 aRG_1 aRG_2 aRG_3 aRG_4 zRG_2) ++ ((wcS ci aRS_0 aRS_1 zRS_3) ++ ((wcG ci aG_0 aG_1 aG_2 aG_3 aG_4 zG_10) ++ ((wcS ci aS_0 aS_1 zS) ++ ((wcP ci aP_0 aP_1 aQ zP) ++ ((wcN ci aN_0 aN_1 aN_2 aN_3 aN_4 zN) ++ (wcI ci aI_0 aI_1 aI_2 aJ zI))))))))) H := hP
    have hD : va_D A ((wcX aX_0 aR_0 aG_0 aS_0 aP_0 aN_0 aI_0 aT_0 zX_8) ++ ((wcR ci aR_0 aR_1 aRG_0 aRS_0 zR_6) ++ ((wcG ci aRG_0 aRG_1 aRG_2 aRG_3 aRG_4 zRG_2) ++ ((wcS ci aRS_0 aRS_1 zRS_3) ++ ((wcG ci aG_0 aG_1 aG_2 aG_3 aG_4 zG_10) ++ ((wcS ci aS_0 aS_1 zS) ++ ((wcP ci aP_0 aP_1 aQ zP) ++ ((wcN ci aN_0 aN_1 aN_2 aN_3 aN_4 zN) ++ (wcI ci aI_0 aI_1 aI_2 aJ zI))))))))) := hD
    refine lv_aload_n hx hb dX6_parish_61 rfl (lv_at hl 0 rfl) ?_
    refine va_get (D := D) (ci := 6) (v := .ref aS_0) (C := RX6) (T := TX6) (N := 9) hx hb hts hin_RX6 hown hK hP 0 rfl rfl 2 (by decide) hk_9 (fun _ h9 => h9) rfl dX6_parish_62 ?_
    refine lv_aload_n hx hb dX6_parish_65 rfl (lv_at hl 0 rfl) ?_
    refine va_get (D := D) (ci := 6) (v := .ref aR_0) (C := RX6) (T := TX6) (N := 9) hx hb hts hin_RX6 hown hK hP 0 rfl rfl 0 (by decide) hk_0 (fun _ h9 => h9) rfl dX6_parish_66 ?_
    refine va_get (D := D) (ci := 4) (v := .ref aRS_0) (C := RX4) (T := TX4) (N := 8) hx hb hts hin_RX4 hown hK hP 1 rfl rfl 2 (by decide) hk_10 (fun _ h9 => h9) rfl dX6_parish_69 ?_
    replace hF := bnd hF
    obtain ⟨zS_12, hc_13, hF⟩ := hF
    refine cl_Vv (As := [.ref aRS_0]) (rest := []) (wc := ((wcS ci aS_0 aS_1 zS) ++ (wcS ci aRS_0 aRS_1 zRS_3))) (wr := ([0, 1, 2, 3, 4, 5, 6, 7, 10, 11, 12, 13, 14, 17, 18, 19, 20, 21, 22, 23, 24, 25, 26].filterMap (fun i => ((wcX aX_0 aR_0 aG_0 aS_0 aP_0 aN_0 aI_0 aT_0 zX_8) ++ ((wcR ci aR_0 aR_1 aRG_0 aRS_0 zR_6) ++ ((wcG ci aRG_0 aRG_1 aRG_2 aRG_3 aRG_4 zRG_2) ++ ((wcS ci aRS_0 aRS_1 zRS_3) ++ ((wcG ci aG_0 aG_1 aG_2 aG_3 aG_4 zG_10) ++ ((wcS ci aS_0 aS_1 zS) ++ ((wcP ci aP_0 aP_1 aQ zP) ++ ((wcN ci aN_0 aN_1 aN_2 aN_3 aN_4 zN) ++ (wcI ci aI_0 aI_1 aI_2 aJ zI)))))))))[i]?))) (w1 := ((wcS ci aS_0 aS_1 zS_12) ++ (wcS ci aRS_0 aRS_1 zRS_3))) (wn := ((wcX aX_0 aR_0 aG_0 aS_0 aP_0 aN_0 aI_0 aT_0 zX_8) ++ ((wcR ci aR_0 aR_1 aRG_0 aRS_0 zR_6) ++ ((wcG ci aRG_0 aRG_1 aRG_2 aRG_3 aRG_4 zRG_2) ++ ((wcS ci aRS_0 aRS_1 zRS_3) ++ ((wcG ci aG_0 aG_1 aG_2 aG_3 aG_4 zG_10) ++ ((wcS ci aS_0 aS_1 zS_12) ++ ((wcP ci aP_0 aP_1 aQ zP) ++ ((wcN ci aN_0 aN_1 aN_2 aN_3 aN_4 zN) ++ (wcI ci aI_0 aI_1 aI_2 aJ zI)))))))))) ⟨hx, hb, hml, hown, hts⟩ (cwV 1 hts gX6_parish_X5_copyFrom rfl rfl rfl (by decide +kernel) ⟨Nat.le_of_ble_eq_true rfl, Nat.le_of_ble_eq_true rfl⟩) (c_X5_copyFrom l D ci aS_0 aS_1 aRS_0 aRS_1 H.size zS zRS_3 _ hc_13) hK hP hD hS hA [15, 16, 8, 9] [0, 1, 2, 3, 4, 5, 6, 7, 10, 11, 12, 13, 14, 17, 18, 19, 20, 21, 22, 23, 24, 25, 26] [0, 1, 2, 3, 4, 5, 6, 7, 25, 26, 8, 9, 10, 11, 12, 23, 24, 13, 14, 15, 16, 17, 18, 19, 20, 21, 22] rfl rfl rfl (by decide) 0 rfl rfl rfl rfl hl.1 (Nat.le_of_ble_eq_true rfl) dX6_parish_72 (Nat.zero_le _) (Nat.zero_le _) (fun H locs hP hD hS => ?_)
    have hP : va_P D vwCl ((wcX aX_0 aR_0 aG_0 aS_0 aP_0 aN_0 aI_0 aT_0 zX_8) ++ ((wcR ci aR_0 aR_1 aRG_0 aRS_0 zR_6) ++ ((wcG ci aRG_0 aRG_1 aRG_2 aRG_3 aRG_4 zRG_2) ++ ((wcS ci aRS_0 aRS_1 zRS_3) ++ ((wcG ci aG_0 aG_1 aG_2 aG_3 aG_4 zG_10) ++ ((wcS ci aS_0 aS_1 zS_12) ++ ((wcP ci aP_0 aP_1 aQ zP) ++ ((wcN ci aN_0 aN_1 aN_2 aN_3 aN_4 zN) ++ (wcI ci aI_0 aI_1 aI_2 aJ zI))))))))) H := hP
    have hD : va_D A ((wcX aX_0 aR_0 aG_0 aS_0 aP_0 aN_0 aI_0 aT_0 zX_8) ++ ((wcR ci aR_0 aR_1 aRG_0 aRS_0 zR_6) ++ ((wcG ci aRG_0 aRG_1 aRG_2 aRG_3 aRG_4 zRG_2) ++ ((wcS ci aRS_0 aRS_1 zRS_3) ++ ((wcG ci aG_0 aG_1 aG_2 aG_3 aG_4 zG_10) ++ ((wcS ci aS_0 aS_1 zS_12) ++ ((wcP ci aP_0 aP_1 aQ zP) ++ ((wcN ci aN_0 aN_1 aN_2 aN_3 aN_4 zN) ++ (wcI ci aI_0 aI_1 aI_2 aJ zI))))))))) := hD
    refine lv_aload_n hx hb dX6_parish_75 rfl (lv_at hl 0 rfl) ?_
    refine va_get (D := D) (ci := 6) (v := .ref aP_0) (C := RX6) (T := TX6) (N := 9) hx hb hts hin_RX6 hown hK hP 0 rfl rfl 3 (by decide) hk_11 (fun _ h9 => h9) rfl dX6_parish_76 ?_
    replace hF := bnd hF
    obtain ⟨zP_14, hc_15, hF⟩ := hF
    refine cl_Vv (As := []) (rest := []) (wc := (wcP ci aP_0 aP_1 aQ zP)) (wr := ([0, 1, 2, 3, 4, 5, 6, 7, 8, 9, 10, 11, 12, 13, 14, 15, 16, 19, 20, 21, 22, 23, 24, 25, 26].filterMap (fun i => ((wcX aX_0 aR_0 aG_0 aS_0 aP_0 aN_0 aI_0 aT_0 zX_8) ++ ((wcR ci aR_0 aR_1 aRG_0 aRS_0 zR_6) ++ ((wcG ci aRG_0 aRG_1 aRG_2 aRG_3 aRG_4 zRG_2) ++ ((wcS ci aRS_0 aRS_1 zRS_3) ++ ((wcG ci aG_0 aG_1 aG_2 aG_3 aG_4 zG_10) ++ ((wcS ci aS_0 aS_1 zS_12) ++ ((wcP ci aP_0 aP_1 aQ zP) ++ ((wcN ci aN_0 aN_1 aN_2 aN_3 aN_4 zN) ++ (wcI ci aI_0 aI_1 aI_2 aJ zI)))))))))[i]?))) (w1 := (wcP ci aP_0 aP_1 aQ zP_14)) (wn := ((wcX aX_0 aR_0 aG_0 aS_0 aP_0 aN_0 aI_0 aT_0 zX_8) ++ ((wcR ci aR_0 aR_1 aRG_0 aRS_0 zR_6) ++ ((wcG ci aRG_0 aRG_1 aRG_2 aRG_3 aRG_4 zRG_2) ++ ((wcS ci aRS_0 aRS_1 zRS_3) ++ ((wcG ci aG_0 aG_1 aG_2 aG_3 aG_4 zG_10) ++ ((wcS ci aS_0 aS_1 zS_12) ++ ((wcP ci aP_0 aP_1 aQ zP_14) ++ ((wcN ci aN_0 aN_1 aN_2 aN_3 aN_4 zN) ++ (wcI ci aI_0 aI_1 aI_2 aJ zI)))))))))) ⟨hx, hb, hml, hown, hts⟩ (cwV 0 hts gX6_parish_X3_forget rfl rfl rfl (by decide +kernel) ⟨Nat.le_of_ble_eq_true rfl, Nat.le_of_ble_eq_true rfl⟩) (c_X3_forget l D ci aP_0 aP_1 aQ H.size zP _ hc_15) hK hP hD hS hA [17, 18] [0, 1, 2, 3, 4, 5, 6, 7, 8, 9, 10, 11, 12, 13, 14, 15, 16, 19, 20, 21, 22, 23, 24, 25, 26] [0, 1, 2, 3, 4, 5, 6, 7, 8, 9, 10, 11, 12, 13, 14, 15, 16, 25, 26, 17, 18, 19, 20, 21, 22, 23, 24] rfl rfl rfl (by decide) 0 rfl rfl rfl rfl hl.1 (Nat.le_of_ble_eq_true rfl) dX6_parish_79 (Nat.zero_le _) (Nat.zero_le _) (fun H locs hP hD hS => ?_)
    have hP : va_P D vwCl ((wcX aX_0 aR_0 aG_0 aS_0 aP_0 aN_0 aI_0 aT_0 zX_8) ++ ((wcR ci aR_0 aR_1 aRG_0 aRS_0 zR_6) ++ ((wcG ci aRG_0 aRG_1 aRG_2 aRG_3 aRG_4 zRG_2) ++ ((wcS ci aRS_0 aRS_1 zRS_3) ++ ((wcG ci aG_0 aG_1 aG_2 aG_3 aG_4 zG_10) ++ ((wcS ci aS_0 aS_1 zS_12) ++ ((wcP ci aP_0 aP_1 aQ zP_14) ++ ((wcN ci aN_0 aN_1 aN_2 aN_3 aN_4 zN) ++ (wcI ci aI_0 aI_1 aI_2 aJ zI))))))))) H := hP
    have hD : va_D A ((wcX aX_0 aR_0 aG_0 aS_0 aP_0 aN_0 aI_0 aT_0 zX_8) ++ ((wcR ci aR_0 aR_1 aRG_0 aRS_0 zR_6) ++ ((wcG ci aRG_0 aRG_1 aRG_2 aRG_3 aRG_4 zRG_2) ++ ((wcS ci aRS_0 aRS_1 zRS_3) ++ ((wcG ci aG_0 aG_1 aG_2 aG_3 aG_4 zG_10) ++ ((wcS ci aS_0 aS_1 zS_12) ++ ((wcP ci aP_0 aP_1 aQ zP_14) ++ ((wcN ci aN_0 aN_1 aN_2 aN_3 aN_4 zN) ++ (wcI ci aI_0 aI_1 aI_2 aJ zI))))))))) := hD
    refine lv_aload_n hx hb dX6_parish_82 rfl (lv_at hl 0 rfl) ?_
    refine va_get (D := D) (ci := 6) (v := .ref aN_0) (C := RX6) (T := TX6) (N := 9) hx hb hts hin_RX6 hown hK hP 0 rfl rfl 4 (by decide) hk_12 (fun _ h9 => h9) rfl dX6_parish_83 ?_
    replace hF := bnd hF
    obtain ⟨zN_16, hc_17, hF⟩ := hF
    refine cl_Vv (As := []) (rest := []) (wc := (wcN ci aN_0 aN_1 aN_2 aN_3 aN_4 zN)) (wr := ([0, 1, 2, 3, 4, 5, 6, 7, 8, 9, 10, 11, 12, 13, 14, 15, 16, 17, 18, 24, 25, 26].filterMap (fun i => ((wcX aX_0 aR_0 aG_0 aS_0 aP_0 aN_0 aI_0 aT_0 zX_8) ++ ((wcR ci aR_0 aR_1 aRG_0 aRS_0 zR_6) ++ ((wcG ci aRG_0 aRG_1 aRG_2 aRG_3 aRG_4 zRG_2) ++ ((wcS ci aRS_0 aRS_1 zRS_3) ++ ((wcG ci aG_0 aG_1 aG_2 aG_3 aG_4 zG_10) ++ ((wcS ci aS_0 aS_1 zS_12) ++ ((wcP ci aP_0 aP_1 aQ zP_14) ++ ((wcN ci aN_0 aN_1 aN_2 aN_3 aN_4 zN) ++ (wcI ci aI_0 aI_1 aI_2 aJ zI)))))))))[i]?))) (w1 := (wcN ci aN_0 aN_1 aN_2 aN_3 aN_4 zN_16)) (wn := ((wcX aX_0 aR_0 aG_0 aS_0 aP_0 aN_0 aI_0 aT_0 zX_8) ++ ((wcR ci aR_0 aR_1 aRG_0 aRS_0 zR_6) ++ ((wcG ci aRG_0 aRG_1 aRG_2 aRG_3 aRG_4 zRG_2) ++ ((wcS ci aRS_0 aRS_1 zRS_3) ++ ((wcG ci aG_0 aG_1 aG_2 aG_3 aG_4 zG_10) ++ ((wcS ci aS_0 aS_1 zS_12) ++ ((wcP ci aP_0 aP_1 aQ zP_14) ++ ((wcN ci aN_0 aN_1 aN_2 aN_3 aN_4 zN_16) ++ (wcI ci aI_0 aI_1 aI_2 aJ zI)))))))))) ⟨hx, hb, hml, hown, hts⟩ (cwV 0 hts gX6_parish_X2_forget rfl rfl rfl (by decide +kernel) ⟨Nat.le_of_ble_eq_true rfl, Nat.le_of_ble_eq_true rfl⟩) (c_X2_forget l D ci aN_0 aN_1 aN_2 aN_3 aN_4 H.size zN _ hc_17) hK hP hD hS hA [19, 20, 21, 22, 23] [0, 1, 2, 3, 4, 5, 6, 7, 8, 9, 10, 11, 12, 13, 14, 15, 16, 17, 18, 24, 25, 26] [0, 1, 2, 3, 4, 5, 6, 7, 8, 9, 10, 11, 12, 13, 14, 15, 16, 17, 18, 22, 23, 24, 25, 26, 19, 20, 21] rfl rfl rfl (by decide) 0 rfl rfl rfl rfl hl.1 (Nat.le_of_ble_eq_true rfl) dX6_parish_86 (Nat.zero_le _) (Nat.zero_le _) (fun H locs hP hD hS => ?_)
    have hP : va_P D vwCl ((wcX aX_0 aR_0 aG_0 aS_0 aP_0 aN_0 aI_0 aT_0 zX_8) ++ ((wcR ci aR_0 aR_1 aRG_0 aRS_0 zR_6) ++ ((wcG ci aRG_0 aRG_1 aRG_2 aRG_3 aRG_4 zRG_2) ++ ((wcS ci aRS_0 aRS_1 zRS_3) ++ ((wcG ci aG_0 aG_1 aG_2 aG_3 aG_4 zG_10) ++ ((wcS ci aS_0 aS_1 zS_12) ++ ((wcP ci aP_0 aP_1 aQ zP_14) ++ ((wcN ci aN_0 aN_1 aN_2 aN_3 aN_4 zN_16) ++ (wcI ci aI_0 aI_1 aI_2 aJ zI))))))))) H := hP
    have hD : va_D A ((wcX aX_0 aR_0 aG_0 aS_0 aP_0 aN_0 aI_0 aT_0 zX_8) ++ ((wcR ci aR_0 aR_1 aRG_0 aRS_0 zR_6) ++ ((wcG ci aRG_0 aRG_1 aRG_2 aRG_3 aRG_4 zRG_2) ++ ((wcS ci aRS_0 aRS_1 zRS_3) ++ ((wcG ci aG_0 aG_1 aG_2 aG_3 aG_4 zG_10) ++ ((wcS ci aS_0 aS_1 zS_12) ++ ((wcP ci aP_0 aP_1 aQ zP_14) ++ ((wcN ci aN_0 aN_1 aN_2 aN_3 aN_4 zN_16) ++ (wcI ci aI_0 aI_1 aI_2 aJ zI))))))))) := hD
    refine lv_iconst (v := 0) hx hb dX6_parish_89 (by decide) ?_
    refine lv_topi (fun v1_18 ev1_18 => ?_)
    replace hF := nm_i hF ev1_18
    refine lv_istore_n (lv' := [(1, .int v1_18), (0, .ref aX_0)]) hx hb dX6_parish_90 rfl hl (by decide) rfl (fun ls hl => ?_)
    replace hF := bnd hF
    obtain ⟨q_36, hv_35, hF⟩ := hF
    obtain ⟨v1_23, ev1_23⟩ : ∃ y : Int32, y = q_36.1 := ⟨_, rfl⟩
    replace hF := nm_i hF ev1_23
    obtain ⟨zI_24, ezI_24⟩ : ∃ y : IS, y = q_36.2 := ⟨_, rfl⟩
    replace hF := nm_i hF ezI_24
    obtain rfl : q_36 = (v1_23, zI_24) := by rw [ev1_23, ezI_24]
    clear ev1_23
    clear ezI_24
    refine jn (P := fun H locs ls => va_P D vwCl ((wcX aX_0 aR_0 aG_0 aS_0 aP_0 aN_0 aI_0 aT_0 zX_8) ++ ((wcR ci aR_0 aR_1 aRG_0 aRS_0 zR_6) ++ ((wcG ci aRG_0 aRG_1 aRG_2 aRG_3 aRG_4 zRG_2) ++ ((wcS ci aRS_0 aRS_1 zRS_3) ++ ((wcG ci aG_0 aG_1 aG_2 aG_3 aG_4 zG_10) ++ ((wcS ci aS_0 aS_1 zS_12) ++ ((wcP ci aP_0 aP_1 aQ zP_14) ++ ((wcN ci aN_0 aN_1 aN_2 aN_3 aN_4 zN_16) ++ (wcI ci aI_0 aI_1 aI_2 aJ zI_24))))))))) H ∧ va_D A ((wcX aX_0 aR_0 aG_0 aS_0 aP_0 aN_0 aI_0 aT_0 zX_8) ++ ((wcR ci aR_0 aR_1 aRG_0 aRS_0 zR_6) ++ ((wcG ci aRG_0 aRG_1 aRG_2 aRG_3 aRG_4 zRG_2) ++ ((wcS ci aRS_0 aRS_1 zRS_3) ++ ((wcG ci aG_0 aG_1 aG_2 aG_3 aG_4 zG_10) ++ ((wcS ci aS_0 aS_1 zS_12) ++ ((wcP ci aP_0 aP_1 aQ zP_14) ++ ((wcN ci aN_0 aN_1 aN_2 aN_3 aN_4 zN_16) ++ (wcI ci aI_0 aI_1 aI_2 aJ zI_24))))))))) ∧ va_S A s.heap H locs ∧ lv_has ls 2 [(0, .ref aX_0), (1, .int v1_23)]) (pcJ := 112) (st := []) ?_ ?_
    · intro H locs ls hJ
      obtain ⟨hP, hD, hS, hl⟩ := hJ
      refine lv_aload_n hx hb dX6_parish_112 rfl (lv_at hl 0 rfl) ?_
      refine va_get (D := D) (ci := 6) (v := .ref aG_0) (C := RX6) (T := TX6) (N := 9) hx hb hts hin_RX6 hown hK hP 0 rfl rfl 1 (by decide) hk_7 (fun _ h9 => h9) rfl dX6_parish_113 ?_
      refine va_get (D := D) (ci := 0) (v := .int (zG_10.1 2)) (C := RX0) (T := TX0) (N := 13) hx hb hts hin_RX0 hown hK hP 10 rfl rfl 2 (by decide) hk_16 (fun _ h9 => h9) rfl dX6_parish_116 ?_
      obtain rfl := Option.some.inj hF
      exact W.iret (v := (zG_10.1 2)) hx hb hr (fun t ht hW => ⟨⟨_, (), rfl, rfl, by rw [ht]; exact hP, va_K.moved hW.alike hK, hD⟩, hS.F ht⟩) hS.2.2 dX6_parish_119
    · intro J_22
      clear hF
      have hF := hv_35
      refine lpW (σ := Int32 × IS) (I := fun n v H locs ls => L_X6_parish_91 zX_8 zR_6 zRG_2 zRS_3 zG_10 zS_12 zP_14 zN_16 n v.1 v.2 = some (v1_23, zI_24) ∧ va_P D vwCl ((wcX aX_0 aR_0 aG_0 aS_0 aP_0 aN_0 aI_0 aT_0 zX_8) ++ ((wcR ci aR_0 aR_1 aRG_0 aRS_0 zR_6) ++ ((wcG ci aRG_0 aRG_1 aRG_2 aRG_3 aRG_4 zRG_2) ++ ((wcS ci aRS_0 aRS_1 zRS_3) ++ ((wcG ci aG_0 aG_1 aG_2 aG_3 aG_4 zG_10) ++ ((wcS ci aS_0 aS_1 zS_12) ++ ((wcP ci aP_0 aP_1 aQ zP_14) ++ ((wcN ci aN_0 aN_1 aN_2 aN_3 aN_4 zN_16) ++ (wcI ci aI_0 aI_1 aI_2 aJ v.2))))))))) H ∧ va_D A ((wcX aX_0 aR_0 aG_0 aS_0 aP_0 aN_0 aI_0 aT_0 zX_8) ++ ((wcR ci aR_0 aR_1 aRG_0 aRS_0 zR_6) ++ ((wcG ci aRG_0 aRG_1 aRG_2 aRG_3 aRG_4 zRG_2) ++ ((wcS ci aRS_0 aRS_1 zRS_3) ++ ((wcG ci aG_0 aG_1 aG_2 aG_3 aG_4 zG_10) ++ ((wcS ci aS_0 aS_1 zS_12) ++ ((wcP ci aP_0 aP_1 aQ zP_14) ++ ((wcN ci aN_0 aN_1 aN_2 aN_3 aN_4 zN_16) ++ (wcI ci aI_0 aI_1 aI_2 aJ v.2))))))))) ∧ va_S A s.heap H locs ∧ lv_has ls 2 [(0, .ref aX_0), (1, .int v.1)]) 3000 (v1_18, zI) (fun _ _ _ _ h => no_none h.1) ⟨hF, hP, hD, hS, lv_sub hl [1, 0] rfl⟩ ?_
      clear hF hP hD hS hl
      intro n ih_21 vq H locs ls hI
      obtain ⟨v1_19, zI_20⟩ := vq
      obtain ⟨hF, hP, hD, hS, hl⟩ := hI
      have hP : va_P D vwCl ((wcX aX_0 aR_0 aG_0 aS_0 aP_0 aN_0 aI_0 aT_0 zX_8) ++ ((wcR ci aR_0 aR_1 aRG_0 aRS_0 zR_6) ++ ((wcG ci aRG_0 aRG_1 aRG_2 aRG_3 aRG_4 zRG_2) ++ ((wcS ci aRS_0 aRS_1 zRS_3) ++ ((wcG ci aG_0 aG_1 aG_2 aG_3 aG_4 zG_10) ++ ((wcS ci aS_0 aS_1 zS_12) ++ ((wcP ci aP_0 aP_1 aQ zP_14) ++ ((wcN ci aN_0 aN_1 aN_2 aN_3 aN_4 zN_16) ++ (wcI ci aI_0 aI_1 aI_2 aJ zI_20))))))))) H := hP
      have hD : va_D A ((wcX aX_0 aR_0 aG_0 aS_0 aP_0 aN_0 aI_0 aT_0 zX_8) ++ ((wcR ci aR_0 aR_1 aRG_0 aRS_0 zR_6) ++ ((wcG ci aRG_0 aRG_1 aRG_2 aRG_3 aRG_4 zRG_2) ++ ((wcS ci aRS_0 aRS_1 zRS_3) ++ ((wcG ci aG_0 aG_1 aG_2 aG_3 aG_4 zG_10) ++ ((wcS ci aS_0 aS_1 zS_12) ++ ((wcP ci aP_0 aP_1 aQ zP_14) ++ ((wcN ci aN_0 aN_1 aN_2 aN_3 aN_4 zN_16) ++ (wcI ci aI_0 aI_1 aI_2 aJ zI_20))))))))) := hD
      have hl : lv_has ls 2 [(0, .ref aX_0), (1, .int v1_19)] := hl
      replace hF : L_X6_parish_91 zX_8 zR_6 zRG_2 zRS_3 zG_10 zS_12 zP_14 zN_16 (n + 1) v1_19 zI_20 = some (v1_23, zI_24) := hF
      rw [L_X6_parish_91] at hF
      refine lv_iload_n hx hb dX6_parish_91 rfl (lv_at hl 1 rfl) ?_
      refine lv_iconst (v := 2) hx hb dX6_parish_92 (by decide) ?_
      refine lv_icmp_ge (tgt := 112) hx hb dX6_parish_93 (by decide) (fun c_25 => ?_) (fun c_25 => ?_)
      · replace hF := if_i c_25 hF
        obtain ⟨g_26, g_27⟩ : v1_19 = v1_23 ∧ zI_20 = zI_24 := by have h9 := Option.some.inj hF; simpa only [Prod.mk.injEq] using h9
        subst g_26
        subst g_27
        exact J_22 H locs ls ⟨hP, hD, hS, lv_sub hl [0, 1] rfl⟩
      · replace hF := if_o c_25 hF
        refine lv_aload_n hx hb dX6_parish_96 rfl (lv_at hl 0 rfl) ?_
        refine va_get (D := D) (ci := 6) (v := .ref aI_0) (C := RX6) (T := TX6) (N := 9) hx hb hts hin_RX6 hown hK hP 0 rfl rfl 5 (by decide) hk_13 (fun _ h9 => h9) rfl dX6_parish_97 ?_
        refine lv_iload_n hx hb dX6_parish_100 rfl (lv_at hl 1 rfl) ?_
        refine lv_topi (fun k_28 ek_28 => ?_)
        replace hF := nm_i hF ek_28
        by_cases c_29 : k_28 = 0
        · replace hF := if_i c_29 hF
          subst c_29
          refine va_aldq hx hb hK hP 24 4 rfl rfl (i := 0) (show ¬ ((0 : Int32) < 0 ∨ 2 ≤ (0 : Int32).toNatClampNeg) by decide) dX6_parish_101 ?_
          refine W.eq (g2 := F0 m 102 ls [.ref aI_1]) rfl ?_
          refine lv_iconst (v := 0) hx hb dX6_parish_102 (by decide) ?_
          refine va_put (D := D) (ci := 1) (v := .int 0) (ty := .boolean) (C := RX1) (T := TX1) (N := 3) hx hb hts hin_RX1 tyX1 tyX1_ok nmX1 hown hK hP hD hS 25 rfl rfl 2 (by decide) hk_14 (fun _ h9 => h9) rfl (by decide +kernel) rfl rfl (Nat.le_of_ble_eq_true rfl) dX6_parish_103 (fun H locs hP hD hS => ?_)
          obtain ⟨zI_30, ezI_30⟩ : ∃ y : IS, y = (va_up zI_20 0 (upd (zI_20 0) 2 0)) := ⟨_, rfl⟩
          replace hF := nm_i hF ezI_30
          have hP : va_P D vwCl ((wcX aX_0 aR_0 aG_0 aS_0 aP_0 aN_0 aI_0 aT_0 zX_8) ++ ((wcR ci aR_0 aR_1 aRG_0 aRS_0 zR_6) ++ ((wcG ci aRG_0 aRG_1 aRG_2 aRG_3 aRG_4 zRG_2) ++ ((wcS ci aRS_0 aRS_1 zRS_3) ++ ((wcG ci aG_0 aG_1 aG_2 aG_3 aG_4 zG_10) ++ ((wcS ci aS_0 aS_1 zS_12) ++ ((wcP ci aP_0 aP_1 aQ zP_14) ++ ((wcN ci aN_0 aN_1 aN_2 aN_3 aN_4 zN_16) ++ (wcI ci aI_0 aI_1 aI_2 aJ zI_30))))))))) H := by rw [ezI_30]; exact hP
          have hD : va_D A ((wcX aX_0 aR_0 aG_0 aS_0 aP_0 aN_0 aI_0 aT_0 zX_8) ++ ((wcR ci aR_0 aR_1 aRG_0 aRS_0 zR_6) ++ ((wcG ci aRG_0 aRG_1 aRG_2 aRG_3 aRG_4 zRG_2) ++ ((wcS ci aRS_0 aRS_1 zRS_3) ++ ((wcG ci aG_0 aG_1 aG_2 aG_3 aG_4 zG_10) ++ ((wcS ci aS_0 aS_1 zS_12) ++ ((wcP ci aP_0 aP_1 aQ zP_14) ++ ((wcN ci aN_0 aN_1 aN_2 aN_3 aN_4 zN_16) ++ (wcI ci aI_0 aI_1 aI_2 aJ zI_30))))))))) := by rw [ezI_30]; exact hD
          obtain ⟨v1_31, ev1_31⟩ : ∃ y : Int32, y = v1_19 + 1 := ⟨_, rfl⟩
          replace hF := nm_i hF ev1_31
          refine lv_iinc (v := v1_31) (lv' := [(1, .int v1_31), (0, .ref aX_0)]) hx hb dX6_parish_106 hl (k := 1) rfl (by rw [ev1_31]; rfl) (by decide) rfl (fun ls hl => ?_)
          refine lv_goto (tgt := 91) hx hb dX6_parish_109 (by decide) ?_
          exact ih_21 (v1_31, zI_30) H locs ls ⟨hF, hP, hD, hS, lv_sub hl [1, 0] rfl⟩
        replace hF := if_o c_29 hF
        by_cases c_32 : k_28 = 1
        · replace hF := if_i c_32 hF
          subst c_32
          refine va_aldq hx hb hK hP 24 4 rfl rfl (i := 1) (show ¬ ((1 : Int32) < 0 ∨ 2 ≤ (1 : Int32).toNatClampNeg) by decide) dX6_parish_101 ?_
          refine W.eq (g2 := F0 m 102 ls [.ref aI_2]) rfl ?_
          refine lv_iconst (v := 0) hx hb dX6_parish_102 (by decide) ?_
          refine va_put (D := D) (ci := 1) (v := .int 0) (ty := .boolean) (C := RX1) (T := TX1) (N := 3) hx hb hts hin_RX1 tyX1 tyX1_ok nmX1 hown hK hP hD hS 26 rfl rfl 2 (by decide) hk_14 (fun _ h9 => h9) rfl (by decide +kernel) rfl rfl (Nat.le_of_ble_eq_true rfl) dX6_parish_103 (fun H locs hP hD hS => ?_)
          obtain ⟨zI_33, ezI_33⟩ : ∃ y : IS, y = (va_up zI_20 1 (upd (zI_20 1) 2 0)) := ⟨_, rfl⟩
          replace hF := nm_i hF ezI_33
          have hP : va_P D vwCl ((wcX aX_0 aR_0 aG_0 aS_0 aP_0 aN_0 aI_0 aT_0 zX_8) ++ ((wcR ci aR_0 aR_1 aRG_0 aRS_0 zR_6) ++ ((wcG ci aRG_0 aRG_1 aRG_2 aRG_3 aRG_4 zRG_2) ++ ((wcS ci aRS_0 aRS_1 zRS_3) ++ ((wcG ci aG_0 aG_1 aG_2 aG_3 aG_4 zG_10) ++ ((wcS ci aS_0 aS_1 zS_12) ++ ((wcP ci aP_0 aP_1 aQ zP_14) ++ ((wcN ci aN_0 aN_1 aN_2 aN_3 aN_4 zN_16) ++ (wcI ci aI_0 aI_1 aI_2 aJ zI_33))))))))) H := by rw [ezI_33]; exact hP
          have hD : va_D A ((wcX aX_0 aR_0 aG_0 aS_0 aP_0 aN_0 aI_0 aT_0 zX_8) ++ ((wcR ci aR_0 aR_1 aRG_0 aRS_0 zR_6) ++ ((wcG ci aRG_0 aRG_1 aRG_2 aRG_3 aRG_4 zRG_2) ++ ((wcS ci aRS_0 aRS_1 zRS_3) ++ ((wcG ci aG_0 aG_1 aG_2 aG_3 aG_4 zG_10) ++ ((wcS ci aS_0 aS_1 zS_12) ++ ((wcP ci aP_0 aP_1 aQ zP_14) ++ ((wcN ci aN_0 aN_1 aN_2 aN_3 aN_4 zN_16) ++ (wcI ci aI_0 aI_1 aI_2 aJ zI_33))))))))) := by rw [ezI_33]; exact hD
          obtain ⟨v1_34, ev1_34⟩ : ∃ y : Int32, y = v1_19 + 1 := ⟨_, rfl⟩
          replace hF := nm_i hF ev1_34
          refine lv_iinc (v := v1_34) (lv' := [(1, .int v1_34), (0, .ref aX_0)]) hx hb dX6_parish_106 hl (k := 1) rfl (by rw [ev1_34]; rfl) (by decide) rfl (fun ls hl => ?_)
          refine lv_goto (tgt := 91) hx hb dX6_parish_109 (by decide) ?_
          exact ih_21 (v1_34, zI_33) H locs ls ⟨hF, hP, hD, hS, lv_sub hl [1, 0] rfl⟩
        replace hF := if_o c_32 hF
        exact absurd hF (fun h => no_none h)
  · replace hF := if_o c_9 hF
    refine lv_bipush (v := (-10)) hx hb dX6_parish_36 (by decide) ?_
    refine lv_aload_n hx hb dX6_parish_38 rfl (lv_at hl 0 rfl) ?_
    refine va_get (D := D) (ci := 6) (v := .ref aR_0) (C := RX6) (T := TX6) (N := 9) hx hb hts hin_RX6 hown hK hP 0 rfl rfl 0 (by decide) hk_0 (fun _ h9 => h9) rfl dX6_parish_39 ?_
    refine va_get (D := D) (ci := 4) (v := .int (zR_6.1 6)) (C := RX4) (T := TX4) (N := 8) hx hb hts hin_RX4 hown hK hP 1 rfl rfl 6 (by decide) hk_6 (fun _ h9 => h9) rfl dX6_parish_42 ?_
    refine lv_isub hx hb dX6_parish_45 ?_
    obtain rfl := Option.some.inj hF
    exact W.iret (v := ((-10) - (zR_6.1 6))) hx hb hr (fun t ht hW => ⟨⟨_, (), rfl, rfl, by rw [ht]; exact hP, va_K.moved hW.alike hK, hD⟩, hS.F ht⟩) hS.2.2 dX6_parish_46

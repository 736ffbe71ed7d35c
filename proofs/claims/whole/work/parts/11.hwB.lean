noncomputable def f_X6_plant (zX : XS) (zG : GS) (zS : SS) (zP : PS) (zQ : QS) (p1 : Int32) (p2 : Int32) : Option (Int32 × SS × PS × QS) := (f_X0_hasEdge zG p1).bind fun r_1 => if r_1 = 0 then (some ((-1000000001 : Int32), zS, zP, zQ)) else ((f_X6_isEstate p2).bind fun r_4 => if r_4 = 0 then (some ((-1000000001 : Int32), zS, zP, zQ)) else (ald 40 zG.2.2.2 p1 fun x_8 => (f_X6_mayPlant zX zG zS x_8).bind fun r_9 => if r_9 = 0 then (some ((-1000000003 : Int32), zS, zP, zQ)) else ((f_X3_remember zS zP zQ).bind fun q_15 => nm q_15.1 fun zP_12 => nm q_15.2 fun zQ_13 => ald 40 zG.2.2.2 p1 fun x_17 => (f_X5_setHedge zS p1 x_17 p2 (0 : Int32)).bind fun zS_18 => (f_J13_bitCount_95d88 (zS_18.1 0)).bind fun r_20 => some (r_20, zS_18, zP_12, zQ_13))))
set_option maxHeartbeats 4000000 in
set_option maxRecDepth 100000 in
theorem c_X6_plant (l : Launch) (D : va_G) (ci : Nat → ClassId) (aX_0 : Nat) (aR_0 : Nat) (aG_0 : Nat) (aS_0 : Nat) (aP_0 : Nat) (aN_0 : Nat) (aI_0 : Nat) (aT_0 : Nat) (aG_1 : Nat) (aG_2 : Nat) (aG_3 : Nat) (aG_4 : Nat) (aS_1 : Nat) (aP_1 : Nat) (aQ : Nat → Nat) (sz : Nat) (zX : XS) (zG : GS) (zS : SS) (zP : PS) (zQ : QS) (p1 : Int32) (p2 : Int32) (res : Int32 × SS × PS × QS) (hF : f_X6_plant zX zG zS zP zQ p1 p2 = some res) : CtI l yX6_plant wsX6_plant { frames := 3, cells := 0, slots := 0, locals := 82 } [.ref aX_0, .int p1, .int p2] D ci ((wcX aX_0 aR_0 aG_0 aS_0 aP_0 aN_0 aI_0 aT_0 zX) ++ ((wcG ci aG_0 aG_1 aG_2 aG_3 aG_4 zG) ++ ((wcS ci aS_0 aS_1 zS) ++ ((wcP ci aP_0 aP_1 aQ zP) ++ (wcQ ci aQ zQ))))) sz res.1 ((wcX aX_0 aR_0 aG_0 aS_0 aP_0 aN_0 aI_0 aT_0 zX) ++ ((wcG ci aG_0 aG_1 aG_2 aG_3 aG_4 zG) ++ ((wcS ci aS_0 aS_1 res.2.1) ++ ((wcP ci aP_0 aP_1 aQ res.2.2.1) ++ (wcQ ci aQ res.2.2.2))))) := by
  refine Met.ofW (cc := cX6_plant) (maxL := 3) (ret := (some .int)) (by decide) rfl ?_
  intro p e s m args below meth c s₁ B hml hv
  obtain ⟨rfl, hsz, hP, hK, hD0⟩ := hv
  have hx := B.exec
  have hb := B.bytes
  have hr := B.returns
  have hts := atoms_spec (ws := wsX6_plant) B.pre
  have hown : s.vm.findClass RX6 = some m.cls := findClass_of_methodNamed B.named
  have hlocks := B.notSynchronized
  subst hsz
  have hD := hD0.self (sz := s.heap.size)
  generalize hAe : va_A ((wcX aX_0 aR_0 aG_0 aS_0 aP_0 aN_0 aI_0 aT_0 zX) ++ ((wcG ci aG_0 aG_1 aG_2 aG_3 aG_4 zG) ++ ((wcS ci aS_0 aS_1 zS) ++ ((wcP ci aP_0 aP_1 aQ zP) ++ (wcQ ci aQ zQ))))) s.heap.size = A at hD ⊢
  have hA : ∀ q : Nat, s.heap.size ≤ q → A q := fun q h => by rw [← hAe]; exact Or.inr h
  clear hD0 hAe
  have hl := lv_entry ([.ref aX_0, .int p1, .int p2]) (n := 3) (Nat.le_of_ble_eq_true rfl)
  rw [lg_entry_eq]
  generalize (lg_sl ([.ref aX_0, .int p1, .int p2]) ++ List.replicate (3 - (lg_sl ([.ref aX_0, .int p1, .int p2])).length) Slot.unset).toArray = ls at hl ⊢
  have hl : lv_has ls 3 [(0, .ref aX_0), (1, .int p1), (2, .int p2)] := hl
  have hP : va_P D vwCl ((wcX aX_0 aR_0 aG_0 aS_0 aP_0 aN_0 aI_0 aT_0 zX) ++ ((wcG ci aG_0 aG_1 aG_2 aG_3 aG_4 zG) ++ ((wcS ci aS_0 aS_1 zS) ++ ((wcP ci aP_0 aP_1 aQ zP) ++ (wcQ ci aQ zQ))))) s.heap := hP
  generalize hH0 : s.heap = H at hP ⊢
  have hS : va_S A s.heap H [] := by rw [← hH0]; exact va_S.rf
  clear hH0
  generalize ([] : List Loc) = locs at hS ⊢
  have hk_0 := hts (.fieldLink RX6 19 "HedgeWar" "ground" "LHedgeWar$Ground;") (by decide +kernel)
  have hin_RX6 : ∀ w ∈ wsX60, w ∈ wsX6_plant := by decide +kernel
  have hk_2 := hts (.constant RX6 147 (-1000000001)) (by decide +kernel)
  have hk_3 := hts (.fieldLink RX6 171 "HedgeWar$Ground" "places" "[J") (by decide +kernel)
  have hin_RX0 : ∀ w ∈ wsX00, w ∈ wsX6_plant := by decide +kernel
  have hk_5 := hts (.fieldLink RX6 33 "HedgeWar" "past" "LHedgeWar$Past;") (by decide +kernel)
  have hk_6 := hts (.fieldLink RX6 26 "HedgeWar" "now" "LHedgeWar$Stand;") (by decide +kernel)
  have hk_7 := hts (.fieldLink RX6 112 "HedgeWar$Stand" "hedges" "J") (by decide +kernel)
  have hin_RX5 : ∀ w ∈ wsX50, w ∈ wsX6_plant := by decide +kernel
  have hk_9 := hts (.constant RX6 204 (-1000000003)) (by decide +kernel)
  unfold f_X6_plant at hF
  refine lv_aload_n hx hb dX6_plant_0 rfl (lv_at hl 0 rfl) ?_
  refine va_get (D := D) (ci := 6) (v := .ref aG_0) (C := RX6) (T := TX6) (N := 9) hx hb hts hin_RX6 hown hK hP 0 rfl rfl 1 (by decide) hk_0 (fun _ h9 => h9) rfl dX6_plant_1 ?_
  refine lv_iload_n hx hb dX6_plant_4 rfl (lv_at hl 1 rfl) ?_
  replace hF := bnd hF
  obtain ⟨r_1, hc_2, hF⟩ := hF
  refine cl_Vi (As := [.int p1]) (rest := []) (wc := (wcG ci aG_0 aG_1 aG_2 aG_3 aG_4 zG)) (wr := ([0, 6, 7, 8, 9, 10, 11, 12, 13, 14, 15, 16, 17, 18, 19, 20, 21, 22, 23, 24, 25, 26, 27, 28, 29, 30, 31, 32, 33, 34, 35, 36, 37, 38, 39, 40, 41, 42, 43, 44, 45, 46, 47, 48, 49].filterMap (fun i => ((wcX aX_0 aR_0 aG_0 aS_0 aP_0 aN_0 aI_0 aT_0 zX) ++ ((wcG ci aG_0 aG_1 aG_2 aG_3 aG_4 zG) ++ ((wcS ci aS_0 aS_1 zS) ++ ((wcP ci aP_0 aP_1 aQ zP) ++ (wcQ ci aQ zQ)))))[i]?))) (w1 := (wcG ci aG_0 aG_1 aG_2 aG_3 aG_4 zG)) (wn := ((wcX aX_0 aR_0 aG_0 aS_0 aP_0 aN_0 aI_0 aT_0 zX) ++ ((wcG ci aG_0 aG_1 aG_2 aG_3 aG_4 zG) ++ ((wcS ci aS_0 aS_1 zS) ++ ((wcP ci aP_0 aP_1 aQ zP) ++ (wcQ ci aQ zQ)))))) ⟨hx, hb, hml, hown, hts⟩ (cwV 1 hts gX6_plant_X0_hasEdge rfl rfl rfl (by decide +kernel) ⟨Nat.le_of_ble_eq_true rfl, Nat.le_of_ble_eq_true rfl⟩) (c_X0_hasEdge l D ci aG_0 aG_1 aG_2 aG_3 aG_4 H.size zG p1 _ hc_2) hK hP hD hS hA [1, 2, 3, 4, 5] [0, 6, 7, 8, 9, 10, 11, 12, 13, 14, 15, 16, 17, 18, 19, 20, 21, 22, 23, 24, 25, 26, 27, 28, 29, 30, 31, 32, 33, 34, 35, 36, 37, 38, 39, 40, 41, 42, 43, 44, 45, 46, 47, 48, 49] [0, 45, 46, 47, 48, 49, 1, 2, 3, 4, 5, 6, 7, 8, 9, 10, 11, 12, 13, 14, 15, 16, 17, 18, 19, 20, 21, 22, 23, 24, 25, 26, 27, 28, 29, 30, 31, 32, 33, 34, 35, 36, 37, 38, 39, 40, 41, 42, 43, 44] rfl rfl rfl (by decide) 0 rfl rfl rfl rfl hl.1 (Nat.le_of_ble_eq_true rfl) dX6_plant_5 (Nat.zero_le _) (Nat.zero_le _) (fun H locs hP hD hS => ?_)
  have hP : va_P D vwCl ((wcX aX_0 aR_0 aG_0 aS_0 aP_0 aN_0 aI_0 aT_0 zX) ++ ((wcG ci aG_0 aG_1 aG_2 aG_3 aG_4 zG) ++ ((wcS ci aS_0 aS_1 zS) ++ ((wcP ci aP_0 aP_1 aQ zP) ++ (wcQ ci aQ zQ))))) H := hP
  have hD : va_D A ((wcX aX_0 aR_0 aG_0 aS_0 aP_0 aN_0 aI_0 aT_0 zX) ++ ((wcG ci aG_0 aG_1 aG_2 aG_3 aG_4 zG) ++ ((wcS ci aS_0 aS_1 zS) ++ ((wcP ci aP_0 aP_1 aQ zP) ++ (wcQ ci aQ zQ))))) := hD
  refine lv_if_eq (tgt := 18) hx hb dX6_plant_8 (by decide) (fun c_3 => ?_) (fun c_3 => ?_)
  · replace hF := if_i c_3 hF
    refine lv_ldc (v := (-1000000001)) hx hb hown hk_2 dX6_plant_18 ?_
    obtain rfl := Option.some.inj hF
    exact W.iret (v := (-1000000001)) hx hb hr (fun t ht hW => ⟨⟨_, (), rfl, rfl, by rw [ht]; exact hP, va_K.moved hW.alike hK, hD⟩, hS.F ht⟩) hS.2.2 dX6_plant_20
  · replace hF := if_o c_3 hF
    refine lv_iload_n hx hb dX6_plant_11 rfl (lv_at hl 2 rfl) ?_
    replace hF := bnd hF
    obtain ⟨r_4, hc_5, hF⟩ := hF
    refine cl_Sie (As := [.int p2]) (rest := []) ⟨hx, hb, hml, hown, hts⟩ (va_cwS 1 hts gX6_plant_X6_isEstate rfl rfl rfl (by decide +kernel) ⟨Nat.le_of_ble_eq_true rfl, Nat.le_of_ble_eq_true rfl⟩) (c_X6_isEstate l D ci  H.size p2 _ hc_5) hK hP hD hS hA rfl rfl hl.1 (Nat.le_of_ble_eq_true rfl) dX6_plant_12 (Nat.zero_le _) (Nat.zero_le _) (fun H locs hP hD hS => ?_)
    have hP : va_P D vwCl ((wcX aX_0 aR_0 aG_0 aS_0 aP_0 aN_0 aI_0 aT_0 zX) ++ ((wcG ci aG_0 aG_1 aG_2 aG_3 aG_4 zG) ++ ((wcS ci aS_0 aS_1 zS) ++ ((wcP ci aP_0 aP_1 aQ zP) ++ (wcQ ci aQ zQ))))) H := hP
    have hD : va_D A ((wcX aX_0 aR_0 aG_0 aS_0 aP_0 aN_0 aI_0 aT_0 zX) ++ ((wcG ci aG_0 aG_1 aG_2 aG_3 aG_4 zG) ++ ((wcS ci aS_0 aS_1 zS) ++ ((wcP ci aP_0 aP_1 aQ zP) ++ (wcQ ci aQ zQ))))) := hD
    refine lv_if_ne (tgt := 21) hx hb dX6_plant_15 (by decide) (fun c_6 => ?_) (fun c_6 => ?_)
    · replace hF := if_o c_6 hF
      refine lv_aload_n hx hb dX6_plant_21 rfl (lv_at hl 0 rfl) ?_
      refine lv_aload_n hx hb dX6_plant_22 rfl (lv_at hl 0 rfl) ?_
      refine va_get (D := D) (ci := 6) (v := .ref aG_0) (C := RX6) (T := TX6) (N := 9) hx hb hts hin_RX6 hown hK hP 0 rfl rfl 1 (by decide) hk_0 (fun _ h9 => h9) rfl dX6_plant_23 ?_
      refine va_get (D := D) (ci := 0) (v := .ref aG_4) (C := RX0) (T := TX0) (N := 13) hx hb hts hin_RX0 hown hK hP 1 rfl rfl 12 (by decide) hk_3 (fun _ h9 => h9) rfl dX6_plant_26 ?_
      refine lv_iload_n hx hb dX6_plant_29 rfl (lv_at hl 1 rfl) ?_
      replace hF := ald_i hF
      obtain ⟨hin_7, hF⟩ := hF
      refine va_lald hx hb hK hP 5 1 rfl rfl hin_7 dX6_plant_30 ?_
      refine lv_topl (fun x_8 ex_8 => ?_)
      replace hF := nm_i hF ex_8
      replace hF := bnd hF
      obtain ⟨r_9, hc_10, hF⟩ := hF
      refine cl_Vi (As := [.long x_8]) (rest := []) (wc := ((wcX aX_0 aR_0 aG_0 aS_0 aP_0 aN_0 aI_0 aT_0 zX) ++ ((wcG ci aG_0 aG_1 aG_2 aG_3 aG_4 zG) ++ (wcS ci aS_0 aS_1 zS)))) (wr := ([8, 9, 10, 11, 12, 13, 14, 15, 16, 17, 18, 19, 20, 21, 22, 23, 24, 25, 26, 27, 28, 29, 30, 31, 32, 33, 34, 35, 36, 37, 38, 39, 40, 41, 42, 43, 44, 45, 46, 47, 48, 49].filterMap (fun i => ((wcX aX_0 aR_0 aG_0 aS_0 aP_0 aN_0 aI_0 aT_0 zX) ++ ((wcG ci aG_0 aG_1 aG_2 aG_3 aG_4 zG) ++ ((wcS ci aS_0 aS_1 zS) ++ ((wcP ci aP_0 aP_1 aQ zP) ++ (wcQ ci aQ zQ)))))[i]?))) (w1 := ((wcX aX_0 aR_0 aG_0 aS_0 aP_0 aN_0 aI_0 aT_0 zX) ++ ((wcG ci aG_0 aG_1 aG_2 aG_3 aG_4 zG) ++ (wcS ci aS_0 aS_1 zS)))) (wn := ((wcX aX_0 aR_0 aG_0 aS_0 aP_0 aN_0 aI_0 aT_0 zX) ++ ((wcG ci aG_0 aG_1 aG_2 aG_3 aG_4 zG) ++ ((wcS ci aS_0 aS_1 zS) ++ ((wcP ci aP_0 aP_1 aQ zP) ++ (wcQ ci aQ zQ)))))) ⟨hx, hb, hml, hown, hts⟩ (cwV 1 hts gX6_plant_X6_mayPlant rfl rfl rfl (by decide +kernel) ⟨Nat.le_of_ble_eq_true rfl, Nat.le_of_ble_eq_true rfl⟩) (c_X6_mayPlant l D ci aX_0 aR_0 aG_0 aS_0 aP_0 aN_0 aI_0 aT_0 aG_1 aG_2 aG_3 aG_4 aS_1 H.size zX zG zS x_8 _ hc_10) hK hP hD hS hA [0, 1, 2, 3, 4, 5, 6, 7] [8, 9, 10, 11, 12, 13, 14, 15, 16, 17, 18, 19, 20, 21, 22, 23, 24, 25, 26, 27, 28, 29, 30, 31, 32, 33, 34, 35, 36, 37, 38, 39, 40, 41, 42, 43, 44, 45, 46, 47, 48, 49] [42, 43, 44, 45, 46, 47, 48, 49, 0, 1, 2, 3, 4, 5, 6, 7, 8, 9, 10, 11, 12, 13, 14, 15, 16, 17, 18, 19, 20, 21, 22, 23, 24, 25, 26, 27, 28, 29, 30, 31, 32, 33, 34, 35, 36, 37, 38, 39, 40, 41] rfl rfl rfl (by decide) 0 rfl rfl rfl rfl hl.1 (Nat.le_of_ble_eq_true rfl) dX6_plant_31 (Nat.zero_le _) (Nat.zero_le _) (fun H locs hP hD hS => ?_)
      have hP : va_P D vwCl ((wcX aX_0 aR_0 aG_0 aS_0 aP_0 aN_0 aI_0 aT_0 zX) ++ ((wcG ci aG_0 aG_1 aG_2 aG_3 aG_4 zG) ++ ((wcS ci aS_0 aS_1 zS) ++ ((wcP ci aP_0 aP_1 aQ zP) ++ (wcQ ci aQ zQ))))) H := hP
      have hD : va_D A ((wcX aX_0 aR_0 aG_0 aS_0 aP_0 aN_0 aI_0 aT_0 zX) ++ ((wcG ci aG_0 aG_1 aG_2 aG_3 aG_4 zG) ++ ((wcS ci aS_0 aS_1 zS) ++ ((wcP ci aP_0 aP_1 aQ zP) ++ (wcQ ci aQ zQ))))) := hD
      refine lv_if_ne (tgt := 40) hx hb dX6_plant_34 (by decide) (fun c_11 => ?_) (fun c_11 => ?_)
      · replace hF := if_o c_11 hF
        refine lv_aload_n hx hb dX6_plant_40 rfl (lv_at hl 0 rfl) ?_
        refine va_get (D := D) (ci := 6) (v := .ref aP_0) (C := RX6) (T := TX6) (N := 9) hx hb hts hin_RX6 hown hK hP 0 rfl rfl 3 (by decide) hk_5 (fun _ h9 => h9) rfl dX6_plant_41 ?_
        refine lv_aload_n hx hb dX6_plant_44 rfl (lv_at hl 0 rfl) ?_
        refine va_get (D := D) (ci := 6) (v := .ref aS_0) (C := RX6) (T := TX6) (N := 9) hx hb hts hin_RX6 hown hK hP 0 rfl rfl 2 (by decide) hk_6 (fun _ h9 => h9) rfl dX6_plant_45 ?_
        replace hF := bnd hF
        obtain ⟨q_15, hc_14, hF⟩ := hF
        obtain ⟨zP_12, ezP_12⟩ : ∃ y : PS, y = q_15.1 := ⟨_, rfl⟩
        replace hF := nm_i hF ezP_12
        obtain ⟨zQ_13, ezQ_13⟩ : ∃ y : QS, y = q_15.2 := ⟨_, rfl⟩
        replace hF := nm_i hF ezQ_13
        obtain rfl : q_15 = (zP_12, zQ_13) := by rw [ezP_12, ezQ_13]
        clear ezP_12
        clear ezQ_13
        refine cl_Vv (As := [.ref aS_0]) (rest := []) (wc := ((wcS ci aS_0 aS_1 zS) ++ ((wcP ci aP_0 aP_1 aQ zP) ++ (wcQ ci aQ zQ)))) (wr := ([0, 1, 2, 3, 4, 5].filterMap (fun i => ((wcX aX_0 aR_0 aG_0 aS_0 aP_0 aN_0 aI_0 aT_0 zX) ++ ((wcG ci aG_0 aG_1 aG_2 aG_3 aG_4 zG) ++ ((wcS ci aS_0 aS_1 zS) ++ ((wcP ci aP_0 aP_1 aQ zP) ++ (wcQ ci aQ zQ)))))[i]?))) (w1 := ((wcS ci aS_0 aS_1 zS) ++ ((wcP ci aP_0 aP_1 aQ zP_12) ++ (wcQ ci aQ zQ_13)))) (wn := ((wcX aX_0 aR_0 aG_0 aS_0 aP_0 aN_0 aI_0 aT_0 zX) ++ ((wcG ci aG_0 aG_1 aG_2 aG_3 aG_4 zG) ++ ((wcS ci aS_0 aS_1 zS) ++ ((wcP ci aP_0 aP_1 aQ zP_12) ++ (wcQ ci aQ zQ_13)))))) ⟨hx, hb, hml, hown, hts⟩ (cwV 1 hts gX6_plant_X3_remember rfl rfl rfl (by decide +kernel) ⟨Nat.le_of_ble_eq_true rfl, Nat.le_of_ble_eq_true rfl⟩) (c_X3_remember l D ci aS_0 aS_1 aP_0 aP_1 aQ H.size zS zP zQ _ hc_14) hK hP hD hS hA [6, 7, 8, 9, 10, 11, 12, 13, 14, 15, 16, 17, 18, 19, 20, 21, 22, 23, 24, 25, 26, 27, 28, 29, 30, 31, 32, 33, 34, 35, 36, 37, 38, 39, 40, 41, 42, 43, 44, 45, 46, 47, 48, 49] [0, 1, 2, 3, 4, 5] [0, 1, 2, 3, 4, 5, 6, 7, 8, 9, 10, 11, 12, 13, 14, 15, 16, 17, 18, 19, 20, 21, 22, 23, 24, 25, 26, 27, 28, 29, 30, 31, 32, 33, 34, 35, 36, 37, 38, 39, 40, 41, 42, 43, 44, 45, 46, 47, 48, 49] rfl rfl rfl (by decide) 2 rfl rfl rfl rfl hl.1 (Nat.le_of_ble_eq_true rfl) dX6_plant_48 (Nat.zero_le _) (Nat.zero_le _) (fun H locs hP hD hS => ?_)
        have hP : va_P D vwCl ((wcX aX_0 aR_0 aG_0 aS_0 aP_0 aN_0 aI_0 aT_0 zX) ++ ((wcG ci aG_0 aG_1 aG_2 aG_3 aG_4 zG) ++ ((wcS ci aS_0 aS_1 zS) ++ ((wcP ci aP_0 aP_1 aQ zP_12) ++ (wcQ ci aQ zQ_13))))) H := hP
        have hD : va_D A ((wcX aX_0 aR_0 aG_0 aS_0 aP_0 aN_0 aI_0 aT_0 zX) ++ ((wcG ci aG_0 aG_1 aG_2 aG_3 aG_4 zG) ++ ((wcS ci aS_0 aS_1 zS) ++ ((wcP ci aP_0 aP_1 aQ zP_12) ++ (wcQ ci aQ zQ_13))))) := hD
        refine lv_aload_n hx hb dX6_plant_51 rfl (lv_at hl 0 rfl) ?_
        refine va_get (D := D) (ci := 6) (v := .ref aS_0) (C := RX6) (T := TX6) (N := 9) hx hb hts hin_RX6 hown hK hP 0 rfl rfl 2 (by decide) hk_6 (fun _ h9 => h9) rfl dX6_plant_52 ?_
        refine lv_iload_n hx hb dX6_plant_55 rfl (lv_at hl 1 rfl) ?_
        refine lv_aload_n hx hb dX6_plant_56 rfl (lv_at hl 0 rfl) ?_
        refine va_get (D := D) (ci := 6) (v := .ref aG_0) (C := RX6) (T := TX6) (N := 9) hx hb hts hin_RX6 hown hK hP 0 rfl rfl 1 (by decide) hk_0 (fun _ h9 => h9) rfl dX6_plant_57 ?_
        refine va_get (D := D) (ci := 0) (v := .ref aG_4) (C := RX0) (T := TX0) (N := 13) hx hb hts hin_RX0 hown hK hP 1 rfl rfl 12 (by decide) hk_3 (fun _ h9 => h9) rfl dX6_plant_60 ?_
        refine lv_iload_n hx hb dX6_plant_63 rfl (lv_at hl 1 rfl) ?_
        replace hF := ald_i hF
        obtain ⟨hin_16, hF⟩ := hF
        refine va_lald hx hb hK hP 5 1 rfl rfl hin_16 dX6_plant_64 ?_
        refine lv_topl (fun x_17 ex_17 => ?_)
        replace hF := nm_i hF ex_17
        refine lv_iload_n hx hb dX6_plant_65 rfl (lv_at hl 2 rfl) ?_
        refine lv_iconst (v := 0) hx hb dX6_plant_66 (by decide) ?_
        replace hF := bnd hF
        obtain ⟨zS_18, hc_19, hF⟩ := hF
        refine cl_Vv (As := [.int p1, .long x_17, .int p2, .int 0]) (rest := []) (wc := (wcS ci aS_0 aS_1 zS)) (wr := ([0, 1, 2, 3, 4, 5, 8, 9, 10, 11, 12, 13, 14, 15, 16, 17, 18, 19, 20, 21, 22, 23, 24, 25, 26, 27, 28, 29, 30, 31, 32, 33, 34, 35, 36, 37, 38, 39, 40, 41, 42, 43, 44, 45, 46, 47, 48, 49].filterMap (fun i => ((wcX aX_0 aR_0 aG_0 aS_0 aP_0 aN_0 aI_0 aT_0 zX) ++ ((wcG ci aG_0 aG_1 aG_2 aG_3 aG_4 zG) ++ ((wcS ci aS_0 aS_1 zS) ++ ((wcP ci aP_0 aP_1 aQ zP_12) ++ (wcQ ci aQ zQ_13)))))[i]?))) (w1 := (wcS ci aS_0 aS_1 zS_18)) (wn := ((wcX aX_0 aR_0 aG_0 aS_0 aP_0 aN_0 aI_0 aT_0 zX) ++ ((wcG ci aG_0 aG_1 aG_2 aG_3 aG_4 zG) ++ ((wcS ci aS_0 aS_1 zS_18) ++ ((wcP ci aP_0 aP_1 aQ zP_12) ++ (wcQ ci aQ zQ_13)))))) ⟨hx, hb, hml, hown, hts⟩ (cwV 4 hts gX6_plant_X5_setHedge rfl rfl rfl (by decide +kernel) ⟨Nat.le_of_ble_eq_true rfl, Nat.le_of_ble_eq_true rfl⟩) (c_X5_setHedge l D ci aS_0 aS_1 H.size zS p1 x_17 p2 (0 : Int32) _ hc_19) hK hP hD hS hA [6, 7] [0, 1, 2, 3, 4, 5, 8, 9, 10, 11, 12, 13, 14, 15, 16, 17, 18, 19, 20, 21, 22, 23, 24, 25, 26, 27, 28, 29, 30, 31, 32, 33, 34, 35, 36, 37, 38, 39, 40, 41, 42, 43, 44, 45, 46, 47, 48, 49] [0, 1, 2, 3, 4, 5, 48, 49, 6, 7, 8, 9, 10, 11, 12, 13, 14, 15, 16, 17, 18, 19, 20, 21, 22, 23, 24, 25, 26, 27, 28, 29, 30, 31, 32, 33, 34, 35, 36, 37, 38, 39, 40, 41, 42, 43, 44, 45, 46, 47] rfl rfl rfl (by decide) 0 rfl rfl rfl rfl hl.1 (Nat.le_of_ble_eq_true rfl) dX6_plant_67 (Nat.zero_le _) (Nat.zero_le _) (fun H locs hP hD hS => ?_)
        have hP : va_P D vwCl ((wcX aX_0 aR_0 aG_0 aS_0 aP_0 aN_0 aI_0 aT_0 zX) ++ ((wcG ci aG_0 aG_1 aG_2 aG_3 aG_4 zG) ++ ((wcS ci aS_0 aS_1 zS_18) ++ ((wcP ci aP_0 aP_1 aQ zP_12) ++ (wcQ ci aQ zQ_13))))) H := hP
        have hD : va_D A ((wcX aX_0 aR_0 aG_0 aS_0 aP_0 aN_0 aI_0 aT_0 zX) ++ ((wcG ci aG_0 aG_1 aG_2 aG_3 aG_4 zG) ++ ((wcS ci aS_0 aS_1 zS_18) ++ ((wcP ci aP_0 aP_1 aQ zP_12) ++ (wcQ ci aQ zQ_13))))) := hD
        refine lv_aload_n hx hb dX6_plant_70 rfl (lv_at hl 0 rfl) ?_
        refine va_get (D := D) (ci := 6) (v := .ref aS_0) (C := RX6) (T := TX6) (N := 9) hx hb hts hin_RX6 hown hK hP 0 rfl rfl 2 (by decide) hk_6 (fun _ h9 => h9) rfl dX6_plant_71 ?_
        refine va_get (D := D) (ci := 5) (v := .long (zS_18.1 0)) (C := RX5) (T := TX5) (N := 6) hx hb hts hin_RX5 hown hK hP 6 rfl rfl 0 (by decide) hk_7 (fun _ h9 => h9) rfl dX6_plant_74 ?_
        replace hF := bnd hF
        obtain ⟨r_20, hc_21, hF⟩ := hF
        refine cl_Sie (As := [.long (zS_18.1 0)]) (rest := []) ⟨hx, hb, hml, hown, hts⟩ (va_cwS 1 hts gX6_plant_J13_bitCount_95d88 rfl rfl rfl (by decide +kernel) ⟨Nat.le_of_ble_eq_true rfl, Nat.le_of_ble_eq_true rfl⟩) (c_J13_bitCount_95d88 l D ci  H.size (zS_18.1 0) _ hc_21) hK hP hD hS hA rfl rfl hl.1 (Nat.le_of_ble_eq_true rfl) dX6_plant_77 (Nat.zero_le _) (Nat.zero_le _) (fun H locs hP hD hS => ?_)
        have hP : va_P D vwCl ((wcX aX_0 aR_0 aG_0 aS_0 aP_0 aN_0 aI_0 aT_0 zX) ++ ((wcG ci aG_0 aG_1 aG_2 aG_3 aG_4 zG) ++ ((wcS ci aS_0 aS_1 zS_18) ++ ((wcP ci aP_0 aP_1 aQ zP_12) ++ (wcQ ci aQ zQ_13))))) H := hP
        have hD : va_D A ((wcX aX_0 aR_0 aG_0 aS_0 aP_0 aN_0 aI_0 aT_0 zX) ++ ((wcG ci aG_0 aG_1 aG_2 aG_3 aG_4 zG) ++ ((wcS ci aS_0 aS_1 zS_18) ++ ((wcP ci aP_0 aP_1 aQ zP_12) ++ (wcQ ci aQ zQ_13))))) := hD
        obtain rfl := Option.some.inj hF
        exact W.iret (v := r_20) hx hb hr (fun t ht hW => ⟨⟨_, (), rfl, rfl, by rw [ht]; exact hP, va_K.moved hW.alike hK, hD⟩, hS.F ht⟩) hS.2.2 dX6_plant_80
      · replace hF := if_i c_11 hF
        refine lv_ldc (v := (-1000000003)) hx hb hown hk_9 dX6_plant_37 ?_
        obtain rfl := Option.some.inj hF
        exact W.iret (v := (-1000000003)) hx hb hr (fun t ht hW => ⟨⟨_, (), rfl, rfl, by rw [ht]; exact hP, va_K.moved hW.alike hK, hD⟩, hS.F ht⟩) hS.2.2 dX6_plant_39
    · replace hF := if_i c_6 hF
      refine lv_ldc (v := (-1000000001)) hx hb hown hk_2 dX6_plant_18 ?_
      obtain rfl := Option.some.inj hF
      exact W.iret (v := (-1000000001)) hx hb hr (fun t ht hW => ⟨⟨_, (), rfl, rfl, by rw [ht]; exact hP, va_K.moved hW.alike hK, hD⟩, hS.F ht⟩) hS.2.2 dX6_plant_20
noncomputable def f_X6_graze (zX : XS) (zG : GS) (zS : SS) (zP : PS) (zQ : QS) (p1 : Int32) : Option (Int32 × SS × PS × QS) := (f_X0_hasEdge zG p1).bind fun r_1 => if r_1 = 0 then (some ((-1000000001 : Int32), zS, zP, zQ)) else (ald 40 zG.2.2.2 p1 fun x_5 => if (lg_cmp ((zS.1 0) &&& x_5) 0) = 0 then (some ((-1000000003 : Int32), zS, zP, zQ)) else ((f_X3_remember zS zP zQ).bind fun q_10 => nm q_10.1 fun zP_7 => nm q_10.2 fun zQ_8 => (f_X5_removeHedge zS x_5).bind fun zS_11 => ald 40 zS_11.2.2 p1 fun x_14 => some (x_14, zS_11, zP_7, zQ_8)))
set_option maxHeartbeats 4000000 in
set_option maxRecDepth 100000 in
theorem c_X6_graze (l : Launch) (D : va_G) (ci : Nat → ClassId) (aX_0 : Nat) (aR_0 : Nat) (aG_0 : Nat) (aS_0 : Nat) (aP_0 : Nat) (aN_0 : Nat) (aI_0 : Nat) (aT_0 : Nat) (aG_1 : Nat) (aG_2 : Nat) (aG_3 : Nat) (aG_4 : Nat) (aS_1 : Nat) (aP_1 : Nat) (aQ : Nat → Nat) (sz : Nat) (zX : XS) (zG : GS) (zS : SS) (zP : PS) (zQ : QS) (p1 : Int32) (res : Int32 × SS × PS × QS) (hF : f_X6_graze zX zG zS zP zQ p1 = some res) : CtI l yX6_graze wsX6_graze { frames := 3, cells := 0, slots := 0, locals := 82 } [.ref aX_0, .int p1] D ci ((wcX aX_0 aR_0 aG_0 aS_0 aP_0 aN_0 aI_0 aT_0 zX) ++ ((wcG ci aG_0 aG_1 aG_2 aG_3 aG_4 zG) ++ ((wcS ci aS_0 aS_1 zS) ++ ((wcP ci aP_0 aP_1 aQ zP) ++ (wcQ ci aQ zQ))))) sz res.1 ((wcX aX_0 aR_0 aG_0 aS_0 aP_0 aN_0 aI_0 aT_0 zX) ++ ((wcG ci aG_0 aG_1 aG_2 aG_3 aG_4 zG) ++ ((wcS ci aS_0 aS_1 res.2.1) ++ ((wcP ci aP_0 aP_1 aQ res.2.2.1) ++ (wcQ ci aQ res.2.2.2))))) := by
  refine Met.ofW (cc := cX6_graze) (maxL := 4) (ret := (some .int)) (by decide) rfl ?_
  intro p e s m args below meth c s₁ B hml hv
  obtain ⟨rfl, hsz, hP, hK, hD0⟩ := hv
  have hx := B.exec
  have hb := B.bytes
  have hr := B.returns
  have hts := atoms_spec (ws := wsX6_graze) B.pre
  have hown : s.vm.findClass RX6 = some m.cls := findClass_of_methodNamed B.named
  have hlocks := B.notSynchronized
  subst hsz
  have hD := hD0.self (sz := s.heap.size)
  generalize hAe : va_A ((wcX aX_0 aR_0 aG_0 aS_0 aP_0 aN_0 aI_0 aT_0 zX) ++ ((wcG ci aG_0 aG_1 aG_2 aG_3 aG_4 zG) ++ ((wcS ci aS_0 aS_1 zS) ++ ((wcP ci aP_0 aP_1 aQ zP) ++ (wcQ ci aQ zQ))))) s.heap.size = A at hD ⊢
  have hA : ∀ q : Nat, s.heap.size ≤ q → A q := fun q h => by rw [← hAe]; exact Or.inr h
  clear hD0 hAe
  have hl := lv_entry ([.ref aX_0, .int p1]) (n := 4) (Nat.le_of_ble_eq_true rfl)
  rw [lg_entry_eq]
  generalize (lg_sl ([.ref aX_0, .int p1]) ++ List.replicate (4 - (lg_sl ([.ref aX_0, .int p1])).length) Slot.unset).toArray = ls at hl ⊢
  have hl : lv_has ls 4 [(0, .ref aX_0), (1, .int p1)] := hl
  have hP : va_P D vwCl ((wcX aX_0 aR_0 aG_0 aS_0 aP_0 aN_0 aI_0 aT_0 zX) ++ ((wcG ci aG_0 aG_1 aG_2 aG_3 aG_4 zG) ++ ((wcS ci aS_0 aS_1 zS) ++ ((wcP ci aP_0 aP_1 aQ zP) ++ (wcQ ci aQ zQ))))) s.heap := hP
  generalize hH0 : s.heap = H at hP ⊢
  have hS : va_S A s.heap H [] := by rw [← hH0]; exact va_S.rf
  clear hH0
  generalize ([] : List Loc) = locs at hS ⊢
  have hk_0 := hts (.fieldLink RX6 19 "HedgeWar" "ground" "LHedgeWar$Ground;") (by decide +kernel)
  have hin_RX6 : ∀ w ∈ wsX60, w ∈ wsX6_graze := by decide +kernel
  have hk_2 := hts (.fieldLink RX6 171 "HedgeWar$Ground" "places" "[J") (by decide +kernel)
  have hin_RX0 : ∀ w ∈ wsX00, w ∈ wsX6_graze := by decide +kernel
  have hk_4 := hts (.fieldLink RX6 26 "HedgeWar" "now" "LHedgeWar$Stand;") (by decide +kernel)
  have hk_5 := hts (.fieldLink RX6 112 "HedgeWar$Stand" "hedges" "J") (by decide +kernel)
  have hin_RX5 : ∀ w ∈ wsX50, w ∈ wsX6_graze := by decide +kernel
  have hk_7 := hts (.fieldLink RX6 33 "HedgeWar" "past" "LHedgeWar$Past;") (by decide +kernel)
  have hk_8 := hts (.fieldLink RX6 184 "HedgeWar$Stand" "ages" "[I") (by decide +kernel)
  have hk_9 := hts (.constant RX6 204 (-1000000003)) (by decide +kernel)
  have hk_10 := hts (.constant RX6 147 (-1000000001)) (by decide +kernel)
  unfold f_X6_graze at hF
  refine lv_aload_n hx hb dX6_graze_0 rfl (lv_at hl 0 rfl) ?_
  refine va_get (D := D) (ci := 6) (v := .ref aG_0) (C := RX6) (T := TX6) (N := 9) hx hb hts hin_RX6 hown hK hP 0 rfl rfl 1 (by decide) hk_0 (fun _ h9 => h9) rfl dX6_graze_1 ?_
  refine lv_iload_n hx hb dX6_graze_4 rfl (lv_at hl 1 rfl) ?_
  replace hF := bnd hF
  obtain ⟨r_1, hc_2, hF⟩ := hF
  refine cl_Vi (As := [.int p1]) (rest := []) (wc := (wcG ci aG_0 aG_1 aG_2 aG_3 aG_4 zG)) (wr := ([0, 6, 7, 8, 9, 10, 11, 12, 13, 14, 15, 16, 17, 18, 19, 20, 21, 22, 23, 24, 25, 26, 27, 28, 29, 30, 31, 32, 33, 34, 35, 36, 37, 38, 39, 40, 41, 42, 43, 44, 45, 46, 47, 48, 49].filterMap (fun i => ((wcX aX_0 aR_0 aG_0 aS_0 aP_0 aN_0 aI_0 aT_0 zX) ++ ((wcG ci aG_0 aG_1 aG_2 aG_3 aG_4 zG) ++ ((wcS ci aS_0 aS_1 zS) ++ ((wcP ci aP_0 aP_1 aQ zP) ++ (wcQ ci aQ zQ)))))[i]?))) (w1 := (wcG ci aG_0 aG_1 aG_2 aG_3 aG_4 zG)) (wn := ((wcX aX_0 aR_0 aG_0 aS_0 aP_0 aN_0 aI_0 aT_0 zX) ++ ((wcG ci aG_0 aG_1 aG_2 aG_3 aG_4 zG) ++ ((wcS ci aS_0 aS_1 zS) ++ ((wcP ci aP_0 aP_1 aQ zP) ++ (wcQ ci aQ zQ)))))) ⟨hx, hb, hml, hown, hts⟩ (cwV 1 hts gX6_graze_X0_hasEdge rfl rfl rfl (by decide +kernel) ⟨Nat.le_of_ble_eq_true rfl, Nat.le_of_ble_eq_true rfl⟩) (c_X0_hasEdge l D ci aG_0 aG_1 aG_2 aG_3 aG_4 H.size zG p1 _ hc_2) hK hP hD hS hA [1, 2, 3, 4, 5] [0, 6, 7, 8, 9, 10, 11, 12, 13, 14, 15, 16, 17, 18, 19, 20, 21, 22, 23, 24, 25, 26, 27, 28, 29, 30, 31, 32, 33, 34, 35, 36, 37, 38, 39, 40, 41, 42, 43, 44, 45, 46, 47, 48, 49] [0, 45, 46, 47, 48, 49, 1, 2, 3, 4, 5, 6, 7, 8, 9, 10, 11, 12, 13, 14, 15, 16, 17, 18, 19, 20, 21, 22, 23, 24, 25, 26, 27, 28, 29, 30, 31, 32, 33, 34, 35, 36, 37, 38, 39, 40, 41, 42, 43, 44] rfl rfl rfl (by decide) 0 rfl rfl rfl rfl hl.1 (Nat.le_of_ble_eq_true rfl) dX6_graze_5 (Nat.zero_le _) (Nat.zero_le _) (fun H locs hP hD hS => ?_)
  have hP : va_P D vwCl ((wcX aX_0 aR_0 aG_0 aS_0 aP_0 aN_0 aI_0 aT_0 zX) ++ ((wcG ci aG_0 aG_1 aG_2 aG_3 aG_4 zG) ++ ((wcS ci aS_0 aS_1 zS) ++ ((wcP ci aP_0 aP_1 aQ zP) ++ (wcQ ci aQ zQ))))) H := hP
  have hD : va_D A ((wcX aX_0 aR_0 aG_0 aS_0 aP_0 aN_0 aI_0 aT_0 zX) ++ ((wcG ci aG_0 aG_1 aG_2 aG_3 aG_4 zG) ++ ((wcS ci aS_0 aS_1 zS) ++ ((wcP ci aP_0 aP_1 aQ zP) ++ (wcQ ci aQ zQ))))) := hD
  refine lv_if_ne (tgt := 14) hx hb dX6_graze_8 (by decide) (fun c_3 => ?_) (fun c_3 => ?_)
  · replace hF := if_o c_3 hF
    refine lv_aload_n hx hb dX6_graze_14 rfl (lv_at hl 0 rfl) ?_
    refine va_get (D := D) (ci := 6) (v := .ref aG_0) (C := RX6) (T := TX6) (N := 9) hx hb hts hin_RX6 hown hK hP 0 rfl rfl 1 (by decide) hk_0 (fun _ h9 => h9) rfl dX6_graze_15 ?_
    refine va_get (D := D) (ci := 0) (v := .ref aG_4) (C := RX0) (T := TX0) (N := 13) hx hb hts hin_RX0 hown hK hP 1 rfl rfl 12 (by decide) hk_2 (fun _ h9 => h9) rfl dX6_graze_18 ?_
    refine lv_iload_n hx hb dX6_graze_21 rfl (lv_at hl 1 rfl) ?_
    replace hF := ald_i hF
    obtain ⟨hin_4, hF⟩ := hF
    refine va_lald hx hb hK hP 5 1 rfl rfl hin_4 dX6_graze_22 ?_
    refine lv_topl (fun x_5 ex_5 => ?_)
    replace hF := nm_i hF ex_5
    refine lv_lstore_n (lv' := [(2, .long x_5), (0, .ref aX_0), (1, .int p1)]) hx hb dX6_graze_23 rfl hl (by decide) rfl (fun ls hl => ?_)
    refine lv_aload_n hx hb dX6_graze_24 rfl (lv_at hl 1 rfl) ?_
    refine va_get (D := D) (ci := 6) (v := .ref aS_0) (C := RX6) (T := TX6) (N := 9) hx hb hts hin_RX6 hown hK hP 0 rfl rfl 2 (by decide) hk_4 (fun _ h9 => h9) rfl dX6_graze_25 ?_
    refine va_get (D := D) (ci := 5) (v := .long (zS.1 0)) (C := RX5) (T := TX5) (N := 6) hx hb hts hin_RX5 hown hK hP 6 rfl rfl 0 (by decide) hk_5 (fun _ h9 => h9) rfl dX6_graze_28 ?_
    refine lv_lload_n hx hb dX6_graze_31 rfl (lv_at hl 0 rfl) ?_
    refine lv_land hx hb dX6_graze_32 ?_
    refine lv_lconst (v := 0) hx hb dX6_graze_33 (by decide) ?_
    refine W.lcmp hx hb dX6_graze_34 ?_
    refine lv_if_ne (tgt := 41) hx hb dX6_graze_35 (by decide) (fun c_6 => ?_) (fun c_6 => ?_)
    · replace hF := if_o c_6 hF
      refine lv_aload_n hx hb dX6_graze_41 rfl (lv_at hl 1 rfl) ?_
      refine va_get (D := D) (ci := 6) (v := .ref aP_0) (C := RX6) (T := TX6) (N := 9) hx hb hts hin_RX6 hown hK hP 0 rfl rfl 3 (by decide) hk_7 (fun _ h9 => h9) rfl dX6_graze_42 ?_
      refine lv_aload_n hx hb dX6_graze_45 rfl (lv_at hl 1 rfl) ?_
      refine va_get (D := D) (ci := 6) (v := .ref aS_0) (C := RX6) (T := TX6) (N := 9) hx hb hts hin_RX6 hown hK hP 0 rfl rfl 2 (by decide) hk_4 (fun _ h9 => h9) rfl dX6_graze_46 ?_
      replace hF := bnd hF
      obtain ⟨q_10, hc_9, hF⟩ := hF
      obtain ⟨zP_7, ezP_7⟩ : ∃ y : PS, y = q_10.1 := ⟨_, rfl⟩
      replace hF := nm_i hF ezP_7
      obtain ⟨zQ_8, ezQ_8⟩ : ∃ y : QS, y = q_10.2 := ⟨_, rfl⟩
      replace hF := nm_i hF ezQ_8
      obtain rfl : q_10 = (zP_7, zQ_8) := by rw [ezP_7, ezQ_8]
      clear ezP_7
      clear ezQ_8
      refine cl_Vv (As := [.ref aS_0]) (rest := []) (wc := ((wcS ci aS_0 aS_1 zS) ++ ((wcP ci aP_0 aP_1 aQ zP) ++ (wcQ ci aQ zQ)))) (wr := ([0, 1, 2, 3, 4, 5].filterMap (fun i => ((wcX aX_0 aR_0 aG_0 aS_0 aP_0 aN_0 aI_0 aT_0 zX) ++ ((wcG ci aG_0 aG_1 aG_2 aG_3 aG_4 zG) ++ ((wcS ci aS_0 aS_1 zS) ++ ((wcP ci aP_0 aP_1 aQ zP) ++ (wcQ ci aQ zQ)))))[i]?))) (w1 := ((wcS ci aS_0 aS_1 zS) ++ ((wcP ci aP_0 aP_1 aQ zP_7) ++ (wcQ ci aQ zQ_8)))) (wn := ((wcX aX_0 aR_0 aG_0 aS_0 aP_0 aN_0 aI_0 aT_0 zX) ++ ((wcG ci aG_0 aG_1 aG_2 aG_3 aG_4 zG) ++ ((wcS ci aS_0 aS_1 zS) ++ ((wcP ci aP_0 aP_1 aQ zP_7) ++ (wcQ ci aQ zQ_8)))))) ⟨hx, hb, hml, hown, hts⟩ (cwV 1 hts gX6_graze_X3_remember rfl rfl rfl (by decide +kernel) ⟨Nat.le_of_ble_eq_true rfl, Nat.le_of_ble_eq_true rfl⟩) (c_X3_remember l D ci aS_0 aS_1 aP_0 aP_1 aQ H.size zS zP zQ _ hc_9) hK hP hD hS hA [6, 7, 8, 9, 10, 11, 12, 13, 14, 15, 16, 17, 18, 19, 20, 21, 22, 23, 24, 25, 26, 27, 28, 29, 30, 31, 32, 33, 34, 35, 36, 37, 38, 39, 40, 41, 42, 43, 44, 45, 46, 47, 48, 49] [0, 1, 2, 3, 4, 5] [0, 1, 2, 3, 4, 5, 6, 7, 8, 9, 10, 11, 12, 13, 14, 15, 16, 17, 18, 19, 20, 21, 22, 23, 24, 25, 26, 27, 28, 29, 30, 31, 32, 33, 34, 35, 36, 37, 38, 39, 40, 41, 42, 43, 44, 45, 46, 47, 48, 49] rfl rfl rfl (by decide) 2 rfl rfl rfl rfl hl.1 (Nat.le_of_ble_eq_true rfl) dX6_graze_49 (Nat.zero_le _) (Nat.zero_le _) (fun H locs hP hD hS => ?_)
      have hP : va_P D vwCl ((wcX aX_0 aR_0 aG_0 aS_0 aP_0 aN_0 aI_0 aT_0 zX) ++ ((wcG ci aG_0 aG_1 aG_2 aG_3 aG_4 zG) ++ ((wcS ci aS_0 aS_1 zS) ++ ((wcP ci aP_0 aP_1 aQ zP_7) ++ (wcQ ci aQ zQ_8))))) H := hP
      have hD : va_D A ((wcX aX_0 aR_0 aG_0 aS_0 aP_0 aN_0 aI_0 aT_0 zX) ++ ((wcG ci aG_0 aG_1 aG_2 aG_3 aG_4 zG) ++ ((wcS ci aS_0 aS_1 zS) ++ ((wcP ci aP_0 aP_1 aQ zP_7) ++ (wcQ ci aQ zQ_8))))) := hD
      refine lv_aload_n hx hb dX6_graze_52 rfl (lv_at hl 1 rfl) ?_
      refine va_get (D := D) (ci := 6) (v := .ref aS_0) (C := RX6) (T := TX6) (N := 9) hx hb hts hin_RX6 hown hK hP 0 rfl rfl 2 (by decide) hk_4 (fun _ h9 => h9) rfl dX6_graze_53 ?_
      refine lv_lload_n hx hb dX6_graze_56 rfl (lv_at hl 0 rfl) ?_
      replace hF := bnd hF
      obtain ⟨zS_11, hc_12, hF⟩ := hF
      refine cl_Vv (As := [.long x_5]) (rest := []) (wc := (wcS ci aS_0 aS_1 zS)) (wr := ([0, 1, 2, 3, 4, 5, 8, 9, 10, 11, 12, 13, 14, 15, 16, 17, 18, 19, 20, 21, 22, 23, 24, 25, 26, 27, 28, 29, 30, 31, 32, 33, 34, 35, 36, 37, 38, 39, 40, 41, 42, 43, 44, 45, 46, 47, 48, 49].filterMap (fun i => ((wcX aX_0 aR_0 aG_0 aS_0 aP_0 aN_0 aI_0 aT_0 zX) ++ ((wcG ci aG_0 aG_1 aG_2 aG_3 aG_4 zG) ++ ((wcS ci aS_0 aS_1 zS) ++ ((wcP ci aP_0 aP_1 aQ zP_7) ++ (wcQ ci aQ zQ_8)))))[i]?))) (w1 := (wcS ci aS_0 aS_1 zS_11)) (wn := ((wcX aX_0 aR_0 aG_0 aS_0 aP_0 aN_0 aI_0 aT_0 zX) ++ ((wcG ci aG_0 aG_1 aG_2 aG_3 aG_4 zG) ++ ((wcS ci aS_0 aS_1 zS_11) ++ ((wcP ci aP_0 aP_1 aQ zP_7) ++ (wcQ ci aQ zQ_8)))))) ⟨hx, hb, hml, hown, hts⟩ (cwV 1 hts gX6_graze_X5_removeHedge rfl rfl rfl (by decide +kernel) ⟨Nat.le_of_ble_eq_true rfl, Nat.le_of_ble_eq_true rfl⟩) (c_X5_removeHedge l D ci aS_0 aS_1 H.size zS x_5 _ hc_12) hK hP hD hS hA [6, 7] [0, 1, 2, 3, 4, 5, 8, 9, 10, 11, 12, 13, 14, 15, 16, 17, 18, 19, 20, 21, 22, 23, 24, 25, 26, 27, 28, 29, 30, 31, 32, 33, 34, 35, 36, 37, 38, 39, 40, 41, 42, 43, 44, 45, 46, 47, 48, 49] [0, 1, 2, 3, 4, 5, 48, 49, 6, 7, 8, 9, 10, 11, 12, 13, 14, 15, 16, 17, 18, 19, 20, 21, 22, 23, 24, 25, 26, 27, 28, 29, 30, 31, 32, 33, 34, 35, 36, 37, 38, 39, 40, 41, 42, 43, 44, 45, 46, 47] rfl rfl rfl (by decide) 0 rfl rfl rfl rfl hl.1 (Nat.le_of_ble_eq_true rfl) dX6_graze_57 (Nat.zero_le _) (Nat.zero_le _) (fun H locs hP hD hS => ?_)
      have hP : va_P D vwCl ((wcX aX_0 aR_0 aG_0 aS_0 aP_0 aN_0 aI_0 aT_0 zX) ++ ((wcG ci aG_0 aG_1 aG_2 aG_3 aG_4 zG) ++ ((wcS ci aS_0 aS_1 zS_11) ++ ((wcP ci aP_0 aP_1 aQ zP_7) ++ (wcQ ci aQ zQ_8))))) H := hP
      have hD : va_D A ((wcX aX_0 aR_0 aG_0 aS_0 aP_0 aN_0 aI_0 aT_0 zX) ++ ((wcG ci aG_0 aG_1 aG_2 aG_3 aG_4 zG) ++ ((wcS ci aS_0 aS_1 zS_11) ++ ((wcP ci aP_0 aP_1 aQ zP_7) ++ (wcQ ci aQ zQ_8))))) := hD
      refine lv_aload_n hx hb dX6_graze_60 rfl (lv_at hl 1 rfl) ?_
      refine va_get (D := D) (ci := 6) (v := .ref aS_0) (C := RX6) (T := TX6) (N := 9) hx hb hts hin_RX6 hown hK hP 0 rfl rfl 2 (by decide) hk_4 (fun _ h9 => h9) rfl dX6_graze_61 ?_
      refine va_get (D := D) (ci := 5) (v := .ref aS_1) (C := RX5) (T := TX5) (N := 6) hx hb hts hin_RX5 hown hK hP 6 rfl rfl 5 (by decide) hk_8 (fun _ h9 => h9) rfl dX6_graze_64 ?_
      refine lv_iload_n hx hb dX6_graze_67 rfl (lv_at hl 2 rfl) ?_
      replace hF := ald_i hF
      obtain ⟨hin_13, hF⟩ := hF
      refine va_iald hx hb hK hP 7 0 rfl rfl hin_13 dX6_graze_68 ?_
      refine lv_topi (fun x_14 ex_14 => ?_)
      replace hF := nm_i hF ex_14
      obtain rfl := Option.some.inj hF
      exact W.iret (v := x_14) hx hb hr (fun t ht hW => ⟨⟨_, (), rfl, rfl, by rw [ht]; exact hP, va_K.moved hW.alike hK, hD⟩, hS.F ht⟩) hS.2.2 dX6_graze_69
    · replace hF := if_i c_6 hF
      refine lv_ldc (v := (-1000000003)) hx hb hown hk_9 dX6_graze_38 ?_
      obtain rfl := Option.some.inj hF
      exact W.iret (v := (-1000000003)) hx hb hr (fun t ht hW => ⟨⟨_, (), rfl, rfl, by rw [ht]; exact hP, va_K.moved hW.alike hK, hD⟩, hS.F ht⟩) hS.2.2 dX6_graze_40
  · replace hF := if_i c_3 hF
    refine lv_ldc (v := (-1000000001)) hx hb hown hk_10 dX6_graze_11 ?_
    obtain rfl := Option.some.inj hF
    exact W.iret (v := (-1000000001)) hx hb hr (fun t ht hW => ⟨⟨_, (), rfl, rfl, by rw [ht]; exact hP, va_K.moved hW.alike hK, hD⟩, hS.F ht⟩) hS.2.2 dX6_graze_13
noncomputable def f_X6_gate (zX : XS) (zG : GS) (zS : SS) (zP : PS) (zQ : QS) (p1 : Int32) (p2 : Int32) : Option (Int32 × SS × PS × QS) := (f_X0_hasEdge zG p1).bind fun r_1 => if r_1 = 0 then (some ((-1000000001 : Int32), zS, zP, zQ)) else (ald 40 zG.2.2.2 p1 fun x_5 => if (lg_cmp ((zS.1 0) &&& x_5) 0) = 0 then (some ((-1000000003 : Int32), zS, zP, zQ)) else ((f_X3_remember zS zP zQ).bind fun q_10 => nm q_10.1 fun zP_7 => nm q_10.2 fun zQ_8 => (if (lg_cmp ((zS.1 2) &&& x_5) 0) = 0 then (some (0 : Int32)) else (some (1 : Int32))).bind fun t_11 => (f_X6_oneIf t_11).bind fun r_15 => (if p2 = 0 then (some (((zS.1 2) &&& (x_5 ^^^ (-1))) : Int64)) else (some (((zS.1 2) ||| x_5) : Int64))).bind fun t_17 => nm ((vp_updL zS.1 2 t_17, zS.2) : SS) fun zS_21 => some (r_15, zS_21, zP_7, zQ_8)))
set_option maxHeartbeats 4000000 in
set_option maxRecDepth 100000 in
theorem c_X6_gate (l : Launch) (D : va_G) (ci : Nat → ClassId) (aX_0 : Nat) (aR_0 : Nat) (aG_0 : Nat) (aS_0 : Nat) (aP_0 : Nat) (aN_0 : Nat) (aI_0 : Nat) (aT_0 : Nat) (aG_1 : Nat) (aG_2 : Nat) (aG_3 : Nat) (aG_4 : Nat) (aS_1 : Nat) (aP_1 : Nat) (aQ : Nat → Nat) (sz : Nat) (zX : XS) (zG : GS) (zS : SS) (zP : PS) (zQ : QS) (p1 : Int32) (p2 : Int32) (res : Int32 × SS × PS × QS) (hF : f_X6_gate zX zG zS zP zQ p1 p2 = some res) : CtI l yX6_gate wsX6_gate { frames := 3, cells := 0, slots := 0, locals := 82 } [.ref aX_0, .int p1, .int p2] D ci ((wcX aX_0 aR_0 aG_0 aS_0 aP_0 aN_0 aI_0 aT_0 zX) ++ ((wcG ci aG_0 aG_1 aG_2 aG_3 aG_4 zG) ++ ((wcS ci aS_0 aS_1 zS) ++ ((wcP ci aP_0 aP_1 aQ zP) ++ (wcQ ci aQ zQ))))) sz res.1 ((wcX aX_0 aR_0 aG_0 aS_0 aP_0 aN_0 aI_0 aT_0 zX) ++ ((wcG ci aG_0 aG_1 aG_2 aG_3 aG_4 zG) ++ ((wcS ci aS_0 aS_1 res.2.1) ++ ((wcP ci aP_0 aP_1 aQ res.2.2.1) ++ (wcQ ci aQ res.2.2.2))))) := by
  refine Met.ofW (cc := cX6_gate) (maxL := 6) (ret := (some .int)) (by decide) rfl ?_
  intro p e s m args below meth c s₁ B hml hv
  obtain ⟨rfl, hsz, hP, hK, hD0⟩ := hv
  have hx := B.exec
  have hb := B.bytes
  have hr := B.returns
  have hts := atoms_spec (ws := wsX6_gate) B.pre
  have hown : s.vm.findClass RX6 = some m.cls := findClass_of_methodNamed B.named
  have hlocks := B.notSynchronized
  subst hsz
  have hD := hD0.self (sz := s.heap.size)
  generalize hAe : va_A ((wcX aX_0 aR_0 aG_0 aS_0 aP_0 aN_0 aI_0 aT_0 zX) ++ ((wcG ci aG_0 aG_1 aG_2 aG_3 aG_4 zG) ++ ((wcS ci aS_0 aS_1 zS) ++ ((wcP ci aP_0 aP_1 aQ zP) ++ (wcQ ci aQ zQ))))) s.heap.size = A at hD ⊢
  have hA : ∀ q : Nat, s.heap.size ≤ q → A q := fun q h => by rw [← hAe]; exact Or.inr h
  clear hD0 hAe
  have hl := lv_entry ([.ref aX_0, .int p1, .int p2]) (n := 6) (Nat.le_of_ble_eq_true rfl)
  rw [lg_entry_eq]
  generalize (lg_sl ([.ref aX_0, .int p1, .int p2]) ++ List.replicate (6 - (lg_sl ([.ref aX_0, .int p1, .int p2])).length) Slot.unset).toArray = ls at hl ⊢
  have hl : lv_has ls 6 [(0, .ref aX_0), (1, .int p1), (2, .int p2)] := hl
  have hP : va_P D vwCl ((wcX aX_0 aR_0 aG_0 aS_0 aP_0 aN_0 aI_0 aT_0 zX) ++ ((wcG ci aG_0 aG_1 aG_2 aG_3 aG_4 zG) ++ ((wcS ci aS_0 aS_1 zS) ++ ((wcP ci aP_0 aP_1 aQ zP) ++ (wcQ ci aQ zQ))))) s.heap := hP
  generalize hH0 : s.heap = H at hP ⊢
  have hS : va_S A s.heap H [] := by rw [← hH0]; exact va_S.rf
  clear hH0
  generalize ([] : List Loc) = locs at hS ⊢
  have hk_0 := hts (.fieldLink RX6 19 "HedgeWar" "ground" "LHedgeWar$Ground;") (by decide +kernel)
  have hin_RX6 : ∀ w ∈ wsX60, w ∈ wsX6_gate := by decide +kernel
  have hk_2 := hts (.fieldLink RX6 171 "HedgeWar$Ground" "places" "[J") (by decide +kernel)
  have hin_RX0 : ∀ w ∈ wsX00, w ∈ wsX6_gate := by decide +kernel
  have hk_4 := hts (.fieldLink RX6 26 "HedgeWar" "now" "LHedgeWar$Stand;") (by decide +kernel)
  have hk_5 := hts (.fieldLink RX6 112 "HedgeWar$Stand" "hedges" "J") (by decide +kernel)
  have hin_RX5 : ∀ w ∈ wsX50, w ∈ wsX6_gate := by decide +kernel
  have hk_7 := hts (.fieldLink RX6 33 "HedgeWar" "past" "LHedgeWar$Past;") (by decide +kernel)
  have hk_8 := hts (.fieldLink RX6 191 "HedgeWar$Stand" "gates" "J") (by decide +kernel)
  have hk_9 := hts (.constantLong RX6 216 (-1)) (by decide +kernel)
  have hk_10 := hts (.constant RX6 204 (-1000000003)) (by decide +kernel)
  have hk_11 := hts (.constant RX6 147 (-1000000001)) (by decide +kernel)
  unfold f_X6_gate at hF
  refine lv_aload_n hx hb dX6_gate_0 rfl (lv_at hl 0 rfl) ?_
  refine va_get (D := D) (ci := 6) (v := .ref aG_0) (C := RX6) (T := TX6) (N := 9) hx hb hts hin_RX6 hown hK hP 0 rfl rfl 1 (by decide) hk_0 (fun _ h9 => h9) rfl dX6_gate_1 ?_
  refine lv_iload_n hx hb dX6_gate_4 rfl (lv_at hl 1 rfl) ?_
  replace hF := bnd hF
  obtain ⟨r_1, hc_2, hF⟩ := hF
  refine cl_Vi (As := [.int p1]) (rest := []) (wc := (wcG ci aG_0 aG_1 aG_2 aG_3 aG_4 zG)) (wr := ([0, 6, 7, 8, 9, 10, 11, 12, 13, 14, 15, 16, 17, 18, 19, 20, 21, 22, 23, 24, 25, 26, 27, 28, 29, 30, 31, 32, 33, 34, 35, 36, 37, 38, 39, 40, 41, 42, 43, 44, 45, 46, 47, 48, 49].filterMap (fun i => ((wcX aX_0 aR_0 aG_0 aS_0 aP_0 aN_0 aI_0 aT_0 zX) ++ ((wcG ci aG_0 aG_1 aG_2 aG_3 aG_4 zG) ++ ((wcS ci aS_0 aS_1 zS) ++ ((wcP ci aP_0 aP_1 aQ zP) ++ (wcQ ci aQ zQ)))))[i]?))) (w1 := (wcG ci aG_0 aG_1 aG_2 aG_3 aG_4 zG)) (wn := ((wcX aX_0 aR_0 aG_0 aS_0 aP_0 aN_0 aI_0 aT_0 zX) ++ ((wcG ci aG_0 aG_1 aG_2 aG_3 aG_4 zG) ++ ((wcS ci aS_0 aS_1 zS) ++ ((wcP ci aP_0 aP_1 aQ zP) ++ (wcQ ci aQ zQ)))))) ⟨hx, hb, hml, hown, hts⟩ (cwV 1 hts gX6_gate_X0_hasEdge rfl rfl rfl (by decide +kernel) ⟨Nat.le_of_ble_eq_true rfl, Nat.le_of_ble_eq_true rfl⟩) (c_X0_hasEdge l D ci aG_0 aG_1 aG_2 aG_3 aG_4 H.size zG p1 _ hc_2) hK hP hD hS hA [1, 2, 3, 4, 5] [0, 6, 7, 8, 9, 10, 11, 12, 13, 14, 15, 16, 17, 18, 19, 20, 21, 22, 23, 24, 25, 26, 27, 28, 29, 30, 31, 32, 33, 34, 35, 36, 37, 38, 39, 40, 41, 42, 43, 44, 45, 46, 47, 48, 49] [0, 45, 46, 47, 48, 49, 1, 2, 3, 4, 5, 6, 7, 8, 9, 10, 11, 12, 13, 14, 15, 16, 17, 18, 19, 20, 21, 22, 23, 24, 25, 26, 27, 28, 29, 30, 31, 32, 33, 34, 35, 36, 37, 38, 39, 40, 41, 42, 43, 44] rfl rfl rfl (by decide) 0 rfl rfl rfl rfl hl.1 (Nat.le_of_ble_eq_true rfl) dX6_gate_5 (Nat.zero_le _) (Nat.zero_le _) (fun H locs hP hD hS => ?_)
  have hP : va_P D vwCl ((wcX aX_0 aR_0 aG_0 aS_0 aP_0 aN_0 aI_0 aT_0 zX) ++ ((wcG ci aG_0 aG_1 aG_2 aG_3 aG_4 zG) ++ ((wcS ci aS_0 aS_1 zS) ++ ((wcP ci aP_0 aP_1 aQ zP) ++ (wcQ ci aQ zQ))))) H := hP
  have hD : va_D A ((wcX aX_0 aR_0 aG_0 aS_0 aP_0 aN_0 aI_0 aT_0 zX) ++ ((wcG ci aG_0 aG_1 aG_2 aG_3 aG_4 zG) ++ ((wcS ci aS_0 aS_1 zS) ++ ((wcP ci aP_0 aP_1 aQ zP) ++ (wcQ ci aQ zQ))))) := hD
  refine lv_if_ne (tgt := 14) hx hb dX6_gate_8 (by decide) (fun c_3 => ?_) (fun c_3 => ?_)
  · replace hF := if_o c_3 hF
    refine lv_aload_n hx hb dX6_gate_14 rfl (lv_at hl 0 rfl) ?_
    refine va_get (D := D) (ci := 6) (v := .ref aG_0) (C := RX6) (T := TX6) (N := 9) hx hb hts hin_RX6 hown hK hP 0 rfl rfl 1 (by decide) hk_0 (fun _ h9 => h9) rfl dX6_gate_15 ?_
    refine va_get (D := D) (ci := 0) (v := .ref aG_4) (C := RX0) (T := TX0) (N := 13) hx hb hts hin_RX0 hown hK hP 1 rfl rfl 12 (by decide) hk_2 (fun _ h9 => h9) rfl dX6_gate_18 ?_
    refine lv_iload_n hx hb dX6_gate_21 rfl (lv_at hl 1 rfl) ?_
    replace hF := ald_i hF
    obtain ⟨hin_4, hF⟩ := hF
    refine va_lald hx hb hK hP 5 1 rfl rfl hin_4 dX6_gate_22 ?_
    refine lv_topl (fun x_5 ex_5 => ?_)
    replace hF := nm_i hF ex_5
    refine lv_lstore_n (lv' := [(3, .long x_5), (0, .ref aX_0), (1, .int p1), (2, .int p2)]) hx hb dX6_gate_23 rfl hl (by decide) rfl (fun ls hl => ?_)
    refine lv_aload_n hx hb dX6_gate_24 rfl (lv_at hl 1 rfl) ?_
    refine va_get (D := D) (ci := 6) (v := .ref aS_0) (C := RX6) (T := TX6) (N := 9) hx hb hts hin_RX6 hown hK hP 0 rfl rfl 2 (by decide) hk_4 (fun _ h9 => h9) rfl dX6_gate_25 ?_
    refine va_get (D := D) (ci := 5) (v := .long (zS.1 0)) (C := RX5) (T := TX5) (N := 6) hx hb hts hin_RX5 hown hK hP 6 rfl rfl 0 (by decide) hk_5 (fun _ h9 => h9) rfl dX6_gate_28 ?_
    refine lv_lload_n hx hb dX6_gate_31 rfl (lv_at hl 0 rfl) ?_
    refine lv_land hx hb dX6_gate_32 ?_
    refine lv_lconst (v := 0) hx hb dX6_gate_33 (by decide) ?_
    refine W.lcmp hx hb dX6_gate_34 ?_
    refine lv_if_ne (tgt := 41) hx hb dX6_gate_35 (by decide) (fun c_6 => ?_) (fun c_6 => ?_)
    · replace hF := if_o c_6 hF
      refine lv_aload_n hx hb dX6_gate_41 rfl (lv_at hl 1 rfl) ?_
      refine va_get (D := D) (ci := 6) (v := .ref aP_0) (C := RX6) (T := TX6) (N := 9) hx hb hts hin_RX6 hown hK hP 0 rfl rfl 3 (by decide) hk_7 (fun _ h9 => h9) rfl dX6_gate_42 ?_
      refine lv_aload_n hx hb dX6_gate_45 rfl (lv_at hl 1 rfl) ?_
      refine va_get (D := D) (ci := 6) (v := .ref aS_0) (C := RX6) (T := TX6) (N := 9) hx hb hts hin_RX6 hown hK hP 0 rfl rfl 2 (by decide) hk_4 (fun _ h9 => h9) rfl dX6_gate_46 ?_
      replace hF := bnd hF
      obtain ⟨q_10, hc_9, hF⟩ := hF
      obtain ⟨zP_7, ezP_7⟩ : ∃ y : PS, y = q_10.1 := ⟨_, rfl⟩
      replace hF := nm_i hF ezP_7
      obtain ⟨zQ_8, ezQ_8⟩ : ∃ y : QS, y = q_10.2 := ⟨_, rfl⟩
      replace hF := nm_i hF ezQ_8
      obtain rfl : q_10 = (zP_7, zQ_8) := by rw [ezP_7, ezQ_8]
      clear ezP_7
      clear ezQ_8
      refine cl_Vv (As := [.ref aS_0]) (rest := []) (wc := ((wcS ci aS_0 aS_1 zS) ++ ((wcP ci aP_0 aP_1 aQ zP) ++ (wcQ ci aQ zQ)))) (wr := ([0, 1, 2, 3, 4, 5].filterMap (fun i => ((wcX aX_0 aR_0 aG_0 aS_0 aP_0 aN_0 aI_0 aT_0 zX) ++ ((wcG ci aG_0 aG_1 aG_2 aG_3 aG_4 zG) ++ ((wcS ci aS_0 aS_1 zS) ++ ((wcP ci aP_0 aP_1 aQ zP) ++ (wcQ ci aQ zQ)))))[i]?))) (w1 := ((wcS ci aS_0 aS_1 zS) ++ ((wcP ci aP_0 aP_1 aQ zP_7) ++ (wcQ ci aQ zQ_8)))) (wn := ((wcX aX_0 aR_0 aG_0 aS_0 aP_0 aN_0 aI_0 aT_0 zX) ++ ((wcG ci aG_0 aG_1 aG_2 aG_3 aG_4 zG) ++ ((wcS ci aS_0 aS_1 zS) ++ ((wcP ci aP_0 aP_1 aQ zP_7) ++ (wcQ ci aQ zQ_8)))))) ⟨hx, hb, hml, hown, hts⟩ (cwV 1 hts gX6_gate_X3_remember rfl rfl rfl (by decide +kernel) ⟨Nat.le_of_ble_eq_true rfl, Nat.le_of_ble_eq_true rfl⟩) (c_X3_remember l D ci aS_0 aS_1 aP_0 aP_1 aQ H.size zS zP zQ _ hc_9) hK hP hD hS hA [6, 7, 8, 9, 10, 11, 12, 13, 14, 15, 16, 17, 18, 19, 20, 21, 22, 23, 24, 25, 26, 27, 28, 29, 30, 31, 32, 33, 34, 35, 36, 37, 38, 39, 40, 41, 42, 43, 44, 45, 46, 47, 48, 49] [0, 1, 2, 3, 4, 5] [0, 1, 2, 3, 4, 5, 6, 7, 8, 9, 10, 11, 12, 13, 14, 15, 16, 17, 18, 19, 20, 21, 22, 23, 24, 25, 26, 27, 28, 29, 30, 31, 32, 33, 34, 35, 36, 37, 38, 39, 40, 41, 42, 43, 44, 45, 46, 47, 48, 49] rfl rfl rfl (by decide) 2 rfl rfl rfl rfl hl.1 (Nat.le_of_ble_eq_true rfl) dX6_gate_49 (Nat.zero_le _) (Nat.zero_le _) (fun H locs hP hD hS => ?_)
      have hP : va_P D vwCl ((wcX aX_0 aR_0 aG_0 aS_0 aP_0 aN_0 aI_0 aT_0 zX) ++ ((wcG ci aG_0 aG_1 aG_2 aG_3 aG_4 zG) ++ ((wcS ci aS_0 aS_1 zS) ++ ((wcP ci aP_0 aP_1 aQ zP_7) ++ (wcQ ci aQ zQ_8))))) H := hP
      have hD : va_D A ((wcX aX_0 aR_0 aG_0 aS_0 aP_0 aN_0 aI_0 aT_0 zX) ++ ((wcG ci aG_0 aG_1 aG_2 aG_3 aG_4 zG) ++ ((wcS ci aS_0 aS_1 zS) ++ ((wcP ci aP_0 aP_1 aQ zP_7) ++ (wcQ ci aQ zQ_8))))) := hD
      refine lv_aload_n hx hb dX6_gate_52 rfl (lv_at hl 1 rfl) ?_
      refine va_get (D := D) (ci := 6) (v := .ref aS_0) (C := RX6) (T := TX6) (N := 9) hx hb hts hin_RX6 hown hK hP 0 rfl rfl 2 (by decide) hk_4 (fun _ h9 => h9) rfl dX6_gate_53 ?_
      refine va_get (D := D) (ci := 5) (v := .long (zS.1 2)) (C := RX5) (T := TX5) (N := 6) hx hb hts hin_RX5 hown hK hP 6 rfl rfl 2 (by decide) hk_8 (fun _ h9 => h9) rfl dX6_gate_56 ?_
      refine lv_lload_n hx hb dX6_gate_59 rfl (lv_at hl 0 rfl) ?_
      refine lv_land hx hb dX6_gate_60 ?_
      refine lv_lconst (v := 0) hx hb dX6_gate_61 (by decide) ?_
      refine W.lcmp hx hb dX6_gate_62 ?_
      replace hF := bnd hF
      obtain ⟨t_11, hv_14, hF⟩ := hF
      refine jn (P := fun H locs ls => va_P D vwCl ((wcX aX_0 aR_0 aG_0 aS_0 aP_0 aN_0 aI_0 aT_0 zX) ++ ((wcG ci aG_0 aG_1 aG_2 aG_3 aG_4 zG) ++ ((wcS ci aS_0 aS_1 zS) ++ ((wcP ci aP_0 aP_1 aQ zP_7) ++ (wcQ ci aQ zQ_8))))) H ∧ va_D A ((wcX aX_0 aR_0 aG_0 aS_0 aP_0 aN_0 aI_0 aT_0 zX) ++ ((wcG ci aG_0 aG_1 aG_2 aG_3 aG_4 zG) ++ ((wcS ci aS_0 aS_1 zS) ++ ((wcP ci aP_0 aP_1 aQ zP_7) ++ (wcQ ci aQ zQ_8))))) ∧ va_S A s.heap H locs ∧ lv_has ls 6 [(0, .ref aX_0), (1, .int p1), (2, .int p2), (3, .long x_5)]) (pcJ := 71) (st := [.int t_11]) ?_ ?_
      · intro H locs ls hJ
        obtain ⟨hP, hD, hS, hl⟩ := hJ
        replace hF := bnd hF
        obtain ⟨r_15, hc_16, hF⟩ := hF
        refine cl_Sie (As := [.int t_11]) (rest := []) ⟨hx, hb, hml, hown, hts⟩ (va_cwS 1 hts gX6_gate_X6_oneIf rfl rfl rfl (by decide +kernel) ⟨Nat.le_of_ble_eq_true rfl, Nat.le_of_ble_eq_true rfl⟩) (c_X6_oneIf l D ci  H.size t_11 _ hc_16) hK hP hD hS hA rfl rfl hl.1 (Nat.le_of_ble_eq_true rfl) dX6_gate_71 (Nat.zero_le _) (Nat.zero_le _) (fun H locs hP hD hS => ?_)
        have hP : va_P D vwCl ((wcX aX_0 aR_0 aG_0 aS_0 aP_0 aN_0 aI_0 aT_0 zX) ++ ((wcG ci aG_0 aG_1 aG_2 aG_3 aG_4 zG) ++ ((wcS ci aS_0 aS_1 zS) ++ ((wcP ci aP_0 aP_1 aQ zP_7) ++ (wcQ ci aQ zQ_8))))) H := hP
        have hD : va_D A ((wcX aX_0 aR_0 aG_0 aS_0 aP_0 aN_0 aI_0 aT_0 zX) ++ ((wcG ci aG_0 aG_1 aG_2 aG_3 aG_4 zG) ++ ((wcS ci aS_0 aS_1 zS) ++ ((wcP ci aP_0 aP_1 aQ zP_7) ++ (wcQ ci aQ zQ_8))))) := hD
        refine lv_istore (lv' := [(5, .int r_15), (0, .ref aX_0), (1, .int p1), (2, .int p2), (3, .long x_5)]) hx hb dX6_gate_74 hl (by decide) rfl (fun ls hl => ?_)
        refine lv_aload_n hx hb dX6_gate_76 rfl (lv_at hl 1 rfl) ?_
        refine va_get (D := D) (ci := 6) (v := .ref aS_0) (C := RX6) (T := TX6) (N := 9) hx hb hts hin_RX6 hown hK hP 0 rfl rfl 2 (by decide) hk_4 (fun _ h9 => h9) rfl dX6_gate_77 ?_
        refine lv_iload_n hx hb dX6_gate_80 rfl (lv_at hl 3 rfl) ?_
        replace hF := bnd hF
        obtain ⟨t_17, hv_20, hF⟩ := hF
        refine jn (P := fun H locs ls => va_P D vwCl ((wcX aX_0 aR_0 aG_0 aS_0 aP_0 aN_0 aI_0 aT_0 zX) ++ ((wcG ci aG_0 aG_1 aG_2 aG_3 aG_4 zG) ++ ((wcS ci aS_0 aS_1 zS) ++ ((wcP ci aP_0 aP_1 aQ zP_7) ++ (wcQ ci aQ zQ_8))))) H ∧ va_D A ((wcX aX_0 aR_0 aG_0 aS_0 aP_0 aN_0 aI_0 aT_0 zX) ++ ((wcG ci aG_0 aG_1 aG_2 aG_3 aG_4 zG) ++ ((wcS ci aS_0 aS_1 zS) ++ ((wcP ci aP_0 aP_1 aQ zP_7) ++ (wcQ ci aQ zQ_8))))) ∧ va_S A s.heap H locs ∧ lv_has ls 6 [(0, .ref aX_0), (1, .int p1), (2, .int p2), (3, .long x_5), (5, .int r_15)]) (pcJ := 109) (st := [.long t_17, .ref aS_0]) ?_ ?_
        · intro H locs ls hJ
          obtain ⟨hP, hD, hS, hl⟩ := hJ
          refine va_put (D := D) (ci := 5) (v := .long t_17) (ty := .long) (C := RX5) (T := TX5) (N := 6) hx hb hts hin_RX5 tyX5 tyX5_ok nmX5 hown hK hP hD hS 6 rfl rfl 2 (by decide) hk_8 (fun _ h9 => h9) rfl (by decide +kernel) rfl rfl (Nat.le_of_ble_eq_true rfl) dX6_gate_109 (fun H locs hP hD hS => ?_)
          obtain ⟨zS_21, ezS_21⟩ : ∃ y : SS, y = (vp_updL zS.1 2 t_17, zS.2) := ⟨_, rfl⟩
          replace hF := nm_i hF ezS_21
          have hP : va_P D vwCl ((wcX aX_0 aR_0 aG_0 aS_0 aP_0 aN_0 aI_0 aT_0 zX) ++ ((wcG ci aG_0 aG_1 aG_2 aG_3 aG_4 zG) ++ ((wcS ci aS_0 aS_1 zS_21) ++ ((wcP ci aP_0 aP_1 aQ zP_7) ++ (wcQ ci aQ zQ_8))))) H := by rw [ezS_21]; exact hP
          have hD : va_D A ((wcX aX_0 aR_0 aG_0 aS_0 aP_0 aN_0 aI_0 aT_0 zX) ++ ((wcG ci aG_0 aG_1 aG_2 aG_3 aG_4 zG) ++ ((wcS ci aS_0 aS_1 zS_21) ++ ((wcP ci aP_0 aP_1 aQ zP_7) ++ (wcQ ci aQ zQ_8))))) := by rw [ezS_21]; exact hD
          refine lv_iload hx hb dX6_gate_112 (lv_at hl 4 rfl) ?_
          obtain rfl := Option.some.inj hF
          exact W.iret (v := r_15) hx hb hr (fun t ht hW => ⟨⟨_, (), rfl, rfl, by rw [ht]; exact hP, va_K.moved hW.alike hK, hD⟩, hS.F ht⟩) hS.2.2 dX6_gate_114
        · intro J_18
          clear hF
          have hF := hv_20
          refine lv_if_eq (tgt := 96) hx hb dX6_gate_81 (by decide) (fun c_19 => ?_) (fun c_19 => ?_)
          · replace hF := if_i c_19 hF
            refine lv_aload_n hx hb dX6_gate_96 rfl (lv_at hl 1 rfl) ?_
            refine va_get (D := D) (ci := 6) (v := .ref aS_0) (C := RX6) (T := TX6) (N := 9) hx hb hts hin_RX6 hown hK hP 0 rfl rfl 2 (by decide) hk_4 (fun _ h9 => h9) rfl dX6_gate_97 ?_
            refine va_get (D := D) (ci := 5) (v := .long (zS.1 2)) (C := RX5) (T := TX5) (N := 6) hx hb hts hin_RX5 hown hK hP 6 rfl rfl 2 (by decide) hk_8 (fun _ h9 => h9) rfl dX6_gate_100 ?_
            refine lv_lload_n hx hb dX6_gate_103 rfl (lv_at hl 4 rfl) ?_
            refine lv_ldc2 (v := (-1)) hx hb hown hk_9 dX6_gate_104 ?_
            refine lv_lxor hx hb dX6_gate_107 ?_
            refine lv_land hx hb dX6_gate_108 ?_
            obtain rfl := Option.some.inj hF
            exact J_18 H locs ls ⟨hP, hD, hS, lv_sub hl [1, 2, 3, 4, 0] rfl⟩
          · replace hF := if_o c_19 hF
            refine lv_aload_n hx hb dX6_gate_84 rfl (lv_at hl 1 rfl) ?_
            refine va_get (D := D) (ci := 6) (v := .ref aS_0) (C := RX6) (T := TX6) (N := 9) hx hb hts hin_RX6 hown hK hP 0 rfl rfl 2 (by decide) hk_4 (fun _ h9 => h9) rfl dX6_gate_85 ?_
            refine va_get (D := D) (ci := 5) (v := .long (zS.1 2)) (C := RX5) (T := TX5) (N := 6) hx hb hts hin_RX5 hown hK hP 6 rfl rfl 2 (by decide) hk_8 (fun _ h9 => h9) rfl dX6_gate_88 ?_
            refine lv_lload_n hx hb dX6_gate_91 rfl (lv_at hl 4 rfl) ?_
            refine lv_lor hx hb dX6_gate_92 ?_
            refine lv_goto (tgt := 109) hx hb dX6_gate_93 (by decide) ?_
            obtain rfl := Option.some.inj hF
            exact J_18 H locs ls ⟨hP, hD, hS, lv_sub hl [1, 2, 3, 4, 0] rfl⟩
      · intro J_12
        clear hF
        have hF := hv_14
        refine lv_if_eq (tgt := 70) hx hb dX6_gate_63 (by decide) (fun c_13 => ?_) (fun c_13 => ?_)
        · replace hF := if_i c_13 hF
          refine lv_iconst (v := 0) hx hb dX6_gate_70 (by decide) ?_
          obtain rfl := Option.some.inj hF
          exact J_12 H locs ls ⟨hP, hD, hS, lv_sub hl [1, 2, 3, 0] rfl⟩
        · replace hF := if_o c_13 hF
          refine lv_iconst (v := 1) hx hb dX6_gate_66 (by decide) ?_
          refine lv_goto (tgt := 71) hx hb dX6_gate_67 (by decide) ?_
          obtain rfl := Option.some.inj hF
          exact J_12 H locs ls ⟨hP, hD, hS, lv_sub hl [1, 2, 3, 0] rfl⟩
    · replace hF := if_i c_6 hF
      refine lv_ldc (v := (-1000000003)) hx hb hown hk_10 dX6_gate_38 ?_
      obtain rfl := Option.some.inj hF
      exact W.iret (v := (-1000000003)) hx hb hr (fun t ht hW => ⟨⟨_, (), rfl, rfl, by rw [ht]; exact hP, va_K.moved hW.alike hK, hD⟩, hS.F ht⟩) hS.2.2 dX6_gate_40
  · replace hF := if_i c_3 hF
    refine lv_ldc (v := (-1000000001)) hx hb hown hk_11 dX6_gate_11 ?_
    obtain rfl := Option.some.inj hF
    exact W.iret (v := (-1000000001)) hx hb hr (fun t ht hW => ⟨⟨_, (), rfl, rfl, by rw [ht]; exact hP, va_K.moved hW.alike hK, hD⟩, hS.F ht⟩) hS.2.2 dX6_gate_13
noncomputable def f_X6_draw (zX : XS) (p1 : Int32) : Option (Int32 × XS) := nm (Int64.toInt32 ((((Int32.toInt64 (zX 8)) * 1103515245) + 12345) &&& 2147483647)) fun f8_1 => nm ((upd zX 8 f8_1) : XS) fun zX_2 => if p1 ≤ 0 then (some ((0 : Int32), zX_2)) else (dvi (65536 : Int32) <| dvi p1 <| some ((((zX_2 8) / 65536) - ((zX_2 8) / 65536) / p1 * p1), zX_2))
set_option maxHeartbeats 4000000 in
set_option maxRecDepth 100000 in
theorem c_X6_draw (l : Launch) (D : va_G) (ci : Nat → ClassId) (aX_0 : Nat) (aR_0 : Nat) (aG_0 : Nat) (aS_0 : Nat) (aP_0 : Nat) (aN_0 : Nat) (aI_0 : Nat) (aT_0 : Nat) (sz : Nat) (zX : XS) (p1 : Int32) (res : Int32 × XS) (hF : f_X6_draw zX p1 = some res) : CtI l yX6_draw wsX6_draw { frames := 0, cells := 0, slots := 0, locals := 0 } [.ref aX_0, .int p1] D ci (wcX aX_0 aR_0 aG_0 aS_0 aP_0 aN_0 aI_0 aT_0 zX) sz res.1 (wcX aX_0 aR_0 aG_0 aS_0 aP_0 aN_0 aI_0 aT_0 res.2) := by
  refine Met.ofW (cc := cX6_draw) (maxL := 2) (ret := (some .int)) (by decide) rfl ?_
  intro p e s m args below meth c s₁ B hml hv
  obtain ⟨rfl, hsz, hP, hK, hD0⟩ := hv
  have hx := B.exec
  have hb := B.bytes
  have hr := B.returns
  have hts := atoms_spec (ws := wsX6_draw) B.pre
  have hown : s.vm.findClass RX6 = some m.cls := findClass_of_methodNamed B.named
  have hlocks := B.notSynchronized
  subst hsz
  have hD := hD0.self (sz := s.heap.size)
  generalize hAe : va_A (wcX aX_0 aR_0 aG_0 aS_0 aP_0 aN_0 aI_0 aT_0 zX) s.heap.size = A at hD ⊢
  have hA : ∀ q : Nat, s.heap.size ≤ q → A q := fun q h => by rw [← hAe]; exact Or.inr h
  clear hD0 hAe
  have hl := lv_entry ([.ref aX_0, .int p1]) (n := 2) (Nat.le_of_ble_eq_true rfl)
  rw [lg_entry_eq]
  generalize (lg_sl ([.ref aX_0, .int p1]) ++ List.replicate (2 - (lg_sl ([.ref aX_0, .int p1])).length) Slot.unset).toArray = ls at hl ⊢
  have hl : lv_has ls 2 [(0, .ref aX_0), (1, .int p1)] := hl
  have hP : va_P D vwCl (wcX aX_0 aR_0 aG_0 aS_0 aP_0 aN_0 aI_0 aT_0 zX) s.heap := hP
  generalize hH0 : s.heap = H at hP ⊢
  have hS : va_S A s.heap H [] := by rw [← hH0]; exact va_S.rf
  clear hH0
  generalize ([] : List Loc) = locs at hS ⊢
  have hk_0 := hts (.fieldLink RX6 58 "HedgeWar" "lot" "I") (by decide +kernel)
  have hin_RX6 : ∀ w ∈ wsX60, w ∈ wsX6_draw := by decide +kernel
  have hk_2 := hts (.constantLong RX6 296 (1103515245)) (by decide +kernel)
  have hk_3 := hts (.constantLong RX6 298 (12345)) (by decide +kernel)
  have hk_4 := hts (.constantLong RX6 300 (2147483647)) (by decide +kernel)
  have hk_5 := hts (.constant RX6 302 (65536)) (by decide +kernel)
  unfold f_X6_draw at hF
  refine lv_aload_n hx hb dX6_draw_0 rfl (lv_at hl 0 rfl) ?_
  refine lv_aload_n hx hb dX6_draw_1 rfl (lv_at hl 0 rfl) ?_
  refine va_get (D := D) (ci := 6) (v := .int (zX 8)) (C := RX6) (T := TX6) (N := 9) hx hb hts hin_RX6 hown hK hP 0 rfl rfl 8 (by decide) hk_0 (fun _ h9 => h9) rfl dX6_draw_2 ?_
  refine lv_i2l (v := (Int32.toInt64 (zX 8))) hx hb dX6_draw_5 rfl ?_
  refine lv_ldc2 (v := 1103515245) hx hb hown hk_2 dX6_draw_6 ?_
  refine lv_lmul hx hb dX6_draw_9 ?_
  refine lv_ldc2 (v := 12345) hx hb hown hk_3 dX6_draw_10 ?_
  refine lv_ladd hx hb dX6_draw_13 ?_
  refine lv_ldc2 (v := 2147483647) hx hb hown hk_4 dX6_draw_14 ?_
  refine lv_land hx hb dX6_draw_17 ?_
  refine lv_l2i (v := (Int64.toInt32 ((((Int32.toInt64 (zX 8)) * 1103515245) + 12345) &&& 2147483647))) hx hb dX6_draw_18 rfl ?_
  refine lv_topi (fun f8_1 ef8_1 => ?_)
  replace hF := nm_i hF ef8_1
  refine va_put (D := D) (ci := 6) (v := .int f8_1) (ty := .int) (C := RX6) (T := TX6) (N := 9) hx hb hts hin_RX6 tyX6 tyX6_ok nmX6 hown hK hP hD hS 0 rfl rfl 8 (by decide) hk_0 (fun _ h9 => h9) rfl (by decide +kernel) rfl rfl (Nat.le_of_ble_eq_true rfl) dX6_draw_19 (fun H locs hP hD hS => ?_)
  obtain ⟨zX_2, ezX_2⟩ : ∃ y : XS, y = (upd zX 8 f8_1) := ⟨_, rfl⟩
  replace hF := nm_i hF ezX_2
  have hP : va_P D vwCl (wcX aX_0 aR_0 aG_0 aS_0 aP_0 aN_0 aI_0 aT_0 zX_2) H := by rw [ezX_2]; exact hP
  have hD : va_D A (wcX aX_0 aR_0 aG_0 aS_0 aP_0 aN_0 aI_0 aT_0 zX_2) := by rw [ezX_2]; exact hD
  refine lv_iload_n hx hb dX6_draw_22 rfl (lv_at hl 1 rfl) ?_
  refine lv_if_le (tgt := 39) hx hb dX6_draw_23 (by decide) (fun c_3 => ?_) (fun c_3 => ?_)
  · replace hF := if_i c_3 hF
    refine lv_iconst (v := 0) hx hb dX6_draw_39 (by decide) ?_
    obtain rfl := Option.some.inj hF
    exact W.iret (v := 0) hx hb hr (fun t ht hW => ⟨⟨_, (), rfl, rfl, by rw [ht]; exact hP, va_K.moved hW.alike hK, hD⟩, hS.F ht⟩) hS.2.2 dX6_draw_40
  · replace hF := if_o c_3 hF
    refine lv_aload_n hx hb dX6_draw_26 rfl (lv_at hl 0 rfl) ?_
    refine va_get (D := D) (ci := 6) (v := .int (zX_2 8)) (C := RX6) (T := TX6) (N := 9) hx hb hts hin_RX6 hown hK hP 0 rfl rfl 8 (by decide) hk_0 (fun _ h9 => h9) rfl dX6_draw_27 ?_
    refine lv_ldcw (v := 65536) hx hb hown hk_5 dX6_draw_30 ?_
    replace hF := dvi_i hF
    obtain ⟨hne_4, hF⟩ := hF
    refine lv_idiv hx hb dX6_draw_33 hne_4 ?_
    refine lv_iload_n hx hb dX6_draw_34 rfl (lv_at hl 1 rfl) ?_
    replace hF := dvi_i hF
    obtain ⟨hne_5, hF⟩ := hF
    refine lv_irem hx hb dX6_draw_35 hne_5 ?_
    refine lv_goto (tgt := 40) hx hb dX6_draw_36 (by decide) ?_
    obtain rfl := Option.some.inj hF
    exact W.iret (v := (((zX_2 8) / 65536) - ((zX_2 8) / 65536) / p1 * p1)) hx hb hr (fun t ht hW => ⟨⟨_, (), rfl, rfl, by rw [ht]; exact hP, va_K.moved hW.alike hK, hD⟩, hS.F ht⟩) hS.2.2 dX6_draw_40
noncomputable def f_X6_sowByDraws (zX : XS) (zG : GS) (zS : SS) : Option (XS × SS) := (f_X6_draw zX (zG.1 3)).bind fun q_4 => nm q_4.1 fun r_1 => nm q_4.2 fun zX_2 => (f_X6_draw zX_2 (2 : Int32)).bind fun q_8 => nm q_8.1 fun r_5 => nm q_8.2 fun zX_6 => ald 40 zG.2.2.2 r_1 fun x_10 => (f_X6_mayPlant zX_6 zG zS x_10).bind fun r_11 => if r_11 = 0 then (some (zX_6, zS)) else (ald 40 zG.2.2.2 r_1 fun x_15 => (f_X5_setHedge zS r_1 x_15 r_5 (0 : Int32)).bind fun zS_16 => some (zX_6, zS_16))
set_option maxHeartbeats 4000000 in
set_option maxRecDepth 100000 in
theorem c_X6_sowByDraws (l : Launch) (D : va_G) (ci : Nat → ClassId) (aX_0 : Nat) (aR_0 : Nat) (aG_0 : Nat) (aS_0 : Nat) (aP_0 : Nat) (aN_0 : Nat) (aI_0 : Nat) (aT_0 : Nat) (aG_1 : Nat) (aG_2 : Nat) (aG_3 : Nat) (aG_4 : Nat) (aS_1 : Nat) (sz : Nat) (zX : XS) (zG : GS) (zS : SS) (res : XS × SS) (hF : f_X6_sowByDraws zX zG zS = some res) : CtV l yX6_sowByDraws wsX6_sowByDraws { frames := 1, cells := 0, slots := 0, locals := 25 } [.ref aX_0] D ci ((wcX aX_0 aR_0 aG_0 aS_0 aP_0 aN_0 aI_0 aT_0 zX) ++ ((wcG ci aG_0 aG_1 aG_2 aG_3 aG_4 zG) ++ (wcS ci aS_0 aS_1 zS))) sz ((wcX aX_0 aR_0 aG_0 aS_0 aP_0 aN_0 aI_0 aT_0 res.1) ++ ((wcG ci aG_0 aG_1 aG_2 aG_3 aG_4 zG) ++ (wcS ci aS_0 aS_1 res.2))) := by
  refine Met.ofW (cc := cX6_sowByDraws) (maxL := 3) (ret := none) (by decide) rfl ?_
  intro p e s m args below meth c s₁ B hml hv
  obtain ⟨rfl, hsz, hP, hK, hD0⟩ := hv
  have hx := B.exec
  have hb := B.bytes
  have hr := B.returns
  have hts := atoms_spec (ws := wsX6_sowByDraws) B.pre
  have hown : s.vm.findClass RX6 = some m.cls := findClass_of_methodNamed B.named
  have hlocks := B.notSynchronized
  subst hsz
  have hD := hD0.self (sz := s.heap.size)
  generalize hAe : va_A ((wcX aX_0 aR_0 aG_0 aS_0 aP_0 aN_0 aI_0 aT_0 zX) ++ ((wcG ci aG_0 aG_1 aG_2 aG_3 aG_4 zG) ++ (wcS ci aS_0 aS_1 zS))) s.heap.size = A at hD ⊢
  have hA : ∀ q : Nat, s.heap.size ≤ q → A q := fun q h => by rw [← hAe]; exact Or.inr h
  clear hD0 hAe
  have hl := lv_entry ([.ref aX_0]) (n := 3) (Nat.le_of_ble_eq_true rfl)
  rw [lg_entry_eq]
  generalize (lg_sl ([.ref aX_0]) ++ List.replicate (3 - (lg_sl ([.ref aX_0])).length) Slot.unset).toArray = ls at hl ⊢
  have hl : lv_has ls 3 [(0, .ref aX_0)] := hl
  have hP : va_P D vwCl ((wcX aX_0 aR_0 aG_0 aS_0 aP_0 aN_0 aI_0 aT_0 zX) ++ ((wcG ci aG_0 aG_1 aG_2 aG_3 aG_4 zG) ++ (wcS ci aS_0 aS_1 zS))) s.heap := hP
  generalize hH0 : s.heap = H at hP ⊢
  have hS : va_S A s.heap H [] := by rw [← hH0]; exact va_S.rf
  clear hH0
  generalize ([] : List Loc) = locs at hS ⊢
  have hk_0 := hts (.fieldLink RX6 19 "HedgeWar" "ground" "LHedgeWar$Ground;") (by decide +kernel)
  have hin_RX6 : ∀ w ∈ wsX60, w ∈ wsX6_sowByDraws := by decide +kernel
  have hk_2 := hts (.fieldLink RX6 106 "HedgeWar$Ground" "edges" "I") (by decide +kernel)
  have hin_RX0 : ∀ w ∈ wsX00, w ∈ wsX6_sowByDraws := by decide +kernel
  have hk_4 := hts (.fieldLink RX6 171 "HedgeWar$Ground" "places" "[J") (by decide +kernel)
  have hk_5 := hts (.fieldLink RX6 26 "HedgeWar" "now" "LHedgeWar$Stand;") (by decide +kernel)
  unfold f_X6_sowByDraws at hF
  refine lv_aload_n hx hb dX6_sowByDraws_0 rfl (lv_at hl 0 rfl) ?_
  refine lv_aload_n hx hb dX6_sowByDraws_1 rfl (lv_at hl 0 rfl) ?_
  refine va_get (D := D) (ci := 6) (v := .ref aG_0) (C := RX6) (T := TX6) (N := 9) hx hb hts hin_RX6 hown hK hP 0 rfl rfl 1 (by decide) hk_0 (fun _ h9 => h9) rfl dX6_sowByDraws_2 ?_
  refine va_get (D := D) (ci := 0) (v := .int (zG.1 3)) (C := RX0) (T := TX0) (N := 13) hx hb hts hin_RX0 hown hK hP 1 rfl rfl 3 (by decide) hk_2 (fun _ h9 => h9) rfl dX6_sowByDraws_5 ?_
  replace hF := bnd hF
  obtain ⟨q_4, hc_3, hF⟩ := hF
  obtain ⟨r_1, er_1⟩ : ∃ y : Int32, y = q_4.1 := ⟨_, rfl⟩
  replace hF := nm_i hF er_1
  obtain ⟨zX_2, ezX_2⟩ : ∃ y : XS, y = q_4.2 := ⟨_, rfl⟩
  replace hF := nm_i hF ezX_2
  obtain rfl : q_4 = (r_1, zX_2) := by rw [er_1, ezX_2]
  clear er_1
  clear ezX_2
  refine cl_Vi (As := [.int (zG.1 3)]) (rest := []) (wc := (wcX aX_0 aR_0 aG_0 aS_0 aP_0 aN_0 aI_0 aT_0 zX)) (wr := ([1, 2, 3, 4, 5, 6, 7].filterMap (fun i => ((wcX aX_0 aR_0 aG_0 aS_0 aP_0 aN_0 aI_0 aT_0 zX) ++ ((wcG ci aG_0 aG_1 aG_2 aG_3 aG_4 zG) ++ (wcS ci aS_0 aS_1 zS)))[i]?))) (w1 := (wcX aX_0 aR_0 aG_0 aS_0 aP_0 aN_0 aI_0 aT_0 zX_2)) (wn := ((wcX aX_0 aR_0 aG_0 aS_0 aP_0 aN_0 aI_0 aT_0 zX_2) ++ ((wcG ci aG_0 aG_1 aG_2 aG_3 aG_4 zG) ++ (wcS ci aS_0 aS_1 zS)))) ⟨hx, hb, hml, hown, hts⟩ (cwV 1 hts gX6_sowByDraws_X6_draw rfl rfl rfl (by decide +kernel) ⟨Nat.le_of_ble_eq_true rfl, Nat.le_of_ble_eq_true rfl⟩) (c_X6_draw l D ci aX_0 aR_0 aG_0 aS_0 aP_0 aN_0 aI_0 aT_0 H.size zX (zG.1 3) _ hc_3) hK hP hD hS hA [0] [1, 2, 3, 4, 5, 6, 7] [7, 0, 1, 2, 3, 4, 5, 6] rfl rfl rfl (by decide) 0 rfl rfl rfl rfl hl.1 (Nat.le_of_ble_eq_true rfl) dX6_sowByDraws_8 (Nat.zero_le _) (Nat.zero_le _) (fun H locs hP hD hS => ?_)
  have hP : va_P D vwCl ((wcX aX_0 aR_0 aG_0 aS_0 aP_0 aN_0 aI_0 aT_0 zX_2) ++ ((wcG ci aG_0 aG_1 aG_2 aG_3 aG_4 zG) ++ (wcS ci aS_0 aS_1 zS))) H := hP
  have hD : va_D A ((wcX aX_0 aR_0 aG_0 aS_0 aP_0 aN_0 aI_0 aT_0 zX_2) ++ ((wcG ci aG_0 aG_1 aG_2 aG_3 aG_4 zG) ++ (wcS ci aS_0 aS_1 zS))) := hD
  refine lv_istore_n (lv' := [(1, .int r_1), (0, .ref aX_0)]) hx hb dX6_sowByDraws_11 rfl hl (by decide) rfl (fun ls hl => ?_)
  refine lv_aload_n hx hb dX6_sowByDraws_12 rfl (lv_at hl 1 rfl) ?_
  refine lv_iconst (v := 2) hx hb dX6_sowByDraws_13 (by decide) ?_
  replace hF := bnd hF
  obtain ⟨q_8, hc_7, hF⟩ := hF
  obtain ⟨r_5, er_5⟩ : ∃ y : Int32, y = q_8.1 := ⟨_, rfl⟩
  replace hF := nm_i hF er_5
  obtain ⟨zX_6, ezX_6⟩ : ∃ y : XS, y = q_8.2 := ⟨_, rfl⟩
  replace hF := nm_i hF ezX_6
  obtain rfl : q_8 = (r_5, zX_6) := by rw [er_5, ezX_6]
  clear er_5
  clear ezX_6
  refine cl_Vi (As := [.int 2]) (rest := []) (wc := (wcX aX_0 aR_0 aG_0 aS_0 aP_0 aN_0 aI_0 aT_0 zX_2)) (wr := ([1, 2, 3, 4, 5, 6, 7].filterMap (fun i => ((wcX aX_0 aR_0 aG_0 aS_0 aP_0 aN_0 aI_0 aT_0 zX_2) ++ ((wcG ci aG_0 aG_1 aG_2 aG_3 aG_4 zG) ++ (wcS ci aS_0 aS_1 zS)))[i]?))) (w1 := (wcX aX_0 aR_0 aG_0 aS_0 aP_0 aN_0 aI_0 aT_0 zX_6)) (wn := ((wcX aX_0 aR_0 aG_0 aS_0 aP_0 aN_0 aI_0 aT_0 zX_6) ++ ((wcG ci aG_0 aG_1 aG_2 aG_3 aG_4 zG) ++ (wcS ci aS_0 aS_1 zS)))) ⟨hx, hb, hml, hown, hts⟩ (cwV 1 hts gX6_sowByDraws_X6_draw rfl rfl rfl (by decide +kernel) ⟨Nat.le_of_ble_eq_true rfl, Nat.le_of_ble_eq_true rfl⟩) (c_X6_draw l D ci aX_0 aR_0 aG_0 aS_0 aP_0 aN_0 aI_0 aT_0 H.size zX_2 (2 : Int32) _ hc_7) hK hP hD hS hA [0] [1, 2, 3, 4, 5, 6, 7] [7, 0, 1, 2, 3, 4, 5, 6] rfl rfl rfl (by decide) 0 rfl rfl rfl rfl hl.1 (Nat.le_of_ble_eq_true rfl) dX6_sowByDraws_14 (Nat.zero_le _) (Nat.zero_le _) (fun H locs hP hD hS => ?_)
  have hP : va_P D vwCl ((wcX aX_0 aR_0 aG_0 aS_0 aP_0 aN_0 aI_0 aT_0 zX_6) ++ ((wcG ci aG_0 aG_1 aG_2 aG_3 aG_4 zG) ++ (wcS ci aS_0 aS_1 zS))) H := hP
  have hD : va_D A ((wcX aX_0 aR_0 aG_0 aS_0 aP_0 aN_0 aI_0 aT_0 zX_6) ++ ((wcG ci aG_0 aG_1 aG_2 aG_3 aG_4 zG) ++ (wcS ci aS_0 aS_1 zS))) := hD
  refine lv_istore_n (lv' := [(2, .int r_5), (1, .int r_1), (0, .ref aX_0)]) hx hb dX6_sowByDraws_17 rfl hl (by decide) rfl (fun ls hl => ?_)
  refine lv_aload_n hx hb dX6_sowByDraws_18 rfl (lv_at hl 2 rfl) ?_
  refine lv_aload_n hx hb dX6_sowByDraws_19 rfl (lv_at hl 2 rfl) ?_
  refine va_get (D := D) (ci := 6) (v := .ref aG_0) (C := RX6) (T := TX6) (N := 9) hx hb hts hin_RX6 hown hK hP 0 rfl rfl 1 (by decide) hk_0 (fun _ h9 => h9) rfl dX6_sowByDraws_20 ?_
  refine va_get (D := D) (ci := 0) (v := .ref aG_4) (C := RX0) (T := TX0) (N := 13) hx hb hts hin_RX0 hown hK hP 1 rfl rfl 12 (by decide) hk_4 (fun _ h9 => h9) rfl dX6_sowByDraws_23 ?_
  refine lv_iload_n hx hb dX6_sowByDraws_26 rfl (lv_at hl 1 rfl) ?_
  replace hF := ald_i hF
  obtain ⟨hin_9, hF⟩ := hF
  refine va_lald hx hb hK hP 5 1 rfl rfl hin_9 dX6_sowByDraws_27 ?_
  refine lv_topl (fun x_10 ex_10 => ?_)
  replace hF := nm_i hF ex_10
  replace hF := bnd hF
  obtain ⟨r_11, hc_12, hF⟩ := hF
  refine cl_Vi0 (As := [.long x_10]) (rest := []) ⟨hx, hb, hml, hown, hts⟩ (cwV 1 hts gX6_sowByDraws_X6_mayPlant rfl rfl rfl (by decide +kernel) ⟨Nat.le_of_ble_eq_true rfl, Nat.le_of_ble_eq_true rfl⟩) (c_X6_mayPlant l D ci aX_0 aR_0 aG_0 aS_0 aP_0 aN_0 aI_0 aT_0 aG_1 aG_2 aG_3 aG_4 aS_1 H.size zX_6 zG zS x_10 _ hc_12) hK hP hD hS hA 0 rfl rfl rfl rfl hl.1 (Nat.le_of_ble_eq_true rfl) dX6_sowByDraws_28 (Nat.zero_le _) (Nat.zero_le _) (fun H locs hP hD hS => ?_)
  have hP : va_P D vwCl ((wcX aX_0 aR_0 aG_0 aS_0 aP_0 aN_0 aI_0 aT_0 zX_6) ++ ((wcG ci aG_0 aG_1 aG_2 aG_3 aG_4 zG) ++ (wcS ci aS_0 aS_1 zS))) H := hP
  have hD : va_D A ((wcX aX_0 aR_0 aG_0 aS_0 aP_0 aN_0 aI_0 aT_0 zX_6) ++ ((wcG ci aG_0 aG_1 aG_2 aG_3 aG_4 zG) ++ (wcS ci aS_0 aS_1 zS))) := hD
  refine lv_if_eq (tgt := 53) hx hb dX6_sowByDraws_31 (by decide) (fun c_13 => ?_) (fun c_13 => ?_)
  · replace hF := if_i c_13 hF
    obtain rfl := Option.some.inj hF
    exact W.vret hx hb hr (fun t ht hW => ⟨⟨(), rfl, trivial, by rw [ht]; exact hP, va_K.moved hW.alike hK, hD⟩, hS.F ht⟩) hS.2.2 dX6_sowByDraws_53
  · replace hF := if_o c_13 hF
    refine lv_aload_n hx hb dX6_sowByDraws_34 rfl (lv_at hl 2 rfl) ?_
    refine va_get (D := D) (ci := 6) (v := .ref aS_0) (C := RX6) (T := TX6) (N := 9) hx hb hts hin_RX6 hown hK hP 0 rfl rfl 2 (by decide) hk_5 (fun _ h9 => h9) rfl dX6_sowByDraws_35 ?_
    refine lv_iload_n hx hb dX6_sowByDraws_38 rfl (lv_at hl 1 rfl) ?_
    refine lv_aload_n hx hb dX6_sowByDraws_39 rfl (lv_at hl 2 rfl) ?_
    refine va_get (D := D) (ci := 6) (v := .ref aG_0) (C := RX6) (T := TX6) (N := 9) hx hb hts hin_RX6 hown hK hP 0 rfl rfl 1 (by decide) hk_0 (fun _ h9 => h9) rfl dX6_sowByDraws_40 ?_
    refine va_get (D := D) (ci := 0) (v := .ref aG_4) (C := RX0) (T := TX0) (N := 13) hx hb hts hin_RX0 hown hK hP 1 rfl rfl 12 (by decide) hk_4 (fun _ h9 => h9) rfl dX6_sowByDraws_43 ?_
    refine lv_iload_n hx hb dX6_sowByDraws_46 rfl (lv_at hl 1 rfl) ?_
    replace hF := ald_i hF
    obtain ⟨hin_14, hF⟩ := hF
    refine va_lald hx hb hK hP 5 1 rfl rfl hin_14 dX6_sowByDraws_47 ?_
    refine lv_topl (fun x_15 ex_15 => ?_)
    replace hF := nm_i hF ex_15
    refine lv_iload_n hx hb dX6_sowByDraws_48 rfl (lv_at hl 0 rfl) ?_
    refine lv_iconst (v := 0) hx hb dX6_sowByDraws_49 (by decide) ?_
    replace hF := bnd hF
    obtain ⟨zS_16, hc_17, hF⟩ := hF
    refine cl_Vv (As := [.int r_1, .long x_15, .int r_5, .int 0]) (rest := []) (wc := (wcS ci aS_0 aS_1 zS)) (wr := ([0, 1, 2, 3, 4, 5].filterMap (fun i => ((wcX aX_0 aR_0 aG_0 aS_0 aP_0 aN_0 aI_0 aT_0 zX_6) ++ ((wcG ci aG_0 aG_1 aG_2 aG_3 aG_4 zG) ++ (wcS ci aS_0 aS_1 zS)))[i]?))) (w1 := (wcS ci aS_0 aS_1 zS_16)) (wn := ((wcX aX_0 aR_0 aG_0 aS_0 aP_0 aN_0 aI_0 aT_0 zX_6) ++ ((wcG ci aG_0 aG_1 aG_2 aG_3 aG_4 zG) ++ (wcS ci aS_0 aS_1 zS_16)))) ⟨hx, hb, hml, hown, hts⟩ (cwV 4 hts gX6_sowByDraws_X5_setHedge rfl rfl rfl (by decide +kernel) ⟨Nat.le_of_ble_eq_true rfl, Nat.le_of_ble_eq_true rfl⟩) (c_X5_setHedge l D ci aS_0 aS_1 H.size zS r_1 x_15 r_5 (0 : Int32) _ hc_17) hK hP hD hS hA [6, 7] [0, 1, 2, 3, 4, 5] [0, 1, 2, 3, 4, 5, 6, 7] rfl rfl rfl (by decide) 0 rfl rfl rfl rfl hl.1 (Nat.le_of_ble_eq_true rfl) dX6_sowByDraws_50 (Nat.zero_le _) (Nat.zero_le _) (fun H locs hP hD hS => ?_)
    have hP : va_P D vwCl ((wcX aX_0 aR_0 aG_0 aS_0 aP_0 aN_0 aI_0 aT_0 zX_6) ++ ((wcG ci aG_0 aG_1 aG_2 aG_3 aG_4 zG) ++ (wcS ci aS_0 aS_1 zS_16))) H := hP
    have hD : va_D A ((wcX aX_0 aR_0 aG_0 aS_0 aP_0 aN_0 aI_0 aT_0 zX_6) ++ ((wcG ci aG_0 aG_1 aG_2 aG_3 aG_4 zG) ++ (wcS ci aS_0 aS_1 zS_16))) := hD
    obtain rfl := Option.some.inj hF
    exact W.vret hx hb hr (fun t ht hW => ⟨⟨(), rfl, trivial, by rw [ht]; exact hP, va_K.moved hW.alike hK, hD⟩, hS.F ht⟩) hS.2.2 dX6_sowByDraws_53
noncomputable def f_X6_passOneYear (zX : XS) (zG : GS) (zS : SS) : Option (SS) := (f_X5_growOlder zG zS).bind fun zS_1 => (f_X5_shutEdges zG zS_1).bind fun r_3 => (f_X0_ownedAfterMarch zG r_3 (zS_1.1 1) (zS_1.2.1 3)).bind fun r_5 => nm ((zS_1.1, upd zS_1.2.1 3 r_5, zS_1.2.2) : SS) fun zS_7 => nm ((zS_7.2.1 4) + 1) fun f4_8 => nm ((zS_7.1, upd zS_7.2.1 4 f4_8, zS_7.2.2) : SS) fun zS_9 => some zS_9
set_option maxHeartbeats 4000000 in
set_option maxRecDepth 100000 in
theorem c_X6_passOneYear (l : Launch) (D : va_G) (ci : Nat → ClassId) (aX_0 : Nat) (aR_0 : Nat) (aG_0 : Nat) (aS_0 : Nat) (aP_0 : Nat) (aN_0 : Nat) (aI_0 : Nat) (aT_0 : Nat) (aG_1 : Nat) (aG_2 : Nat) (aG_3 : Nat) (aG_4 : Nat) (aS_1 : Nat) (sz : Nat) (zX : XS) (zG : GS) (zS : SS) (res : SS) (hF : f_X6_passOneYear zX zG zS = some res) : CtV l yX6_passOneYear wsX6_passOneYear { frames := 4, cells := 0, slots := 0, locals := 89 } [.ref aX_0] D ci ((wcX aX_0 aR_0 aG_0 aS_0 aP_0 aN_0 aI_0 aT_0 zX) ++ ((wcG ci aG_0 aG_1 aG_2 aG_3 aG_4 zG) ++ (wcS ci aS_0 aS_1 zS))) sz ((wcX aX_0 aR_0 aG_0 aS_0 aP_0 aN_0 aI_0 aT_0 zX) ++ ((wcG ci aG_0 aG_1 aG_2 aG_3 aG_4 zG) ++ (wcS ci aS_0 aS_1 res))) := by
  refine Met.ofW (cc := cX6_passOneYear) (maxL := 1) (ret := none) (by decide) rfl ?_
  intro p e s m args below meth c s₁ B hml hv
  obtain ⟨rfl, hsz, hP, hK, hD0⟩ := hv
  have hx := B.exec
  have hb := B.bytes
  have hr := B.returns
  have hts := atoms_spec (ws := wsX6_passOneYear) B.pre
  have hown : s.vm.findClass RX6 = some m.cls := findClass_of_methodNamed B.named
  have hlocks := B.notSynchronized
  subst hsz
  have hD := hD0.self (sz := s.heap.size)
  generalize hAe : va_A ((wcX aX_0 aR_0 aG_0 aS_0 aP_0 aN_0 aI_0 aT_0 zX) ++ ((wcG ci aG_0 aG_1 aG_2 aG_3 aG_4 zG) ++ (wcS ci aS_0 aS_1 zS))) s.heap.size = A at hD ⊢
  have hA : ∀ q : Nat, s.heap.size ≤ q → A q := fun q h => by rw [← hAe]; exact Or.inr h
  clear hD0 hAe
  have hl := lv_entry ([.ref aX_0]) (n := 1) (Nat.le_of_ble_eq_true rfl)
  rw [lg_entry_eq]
  generalize (lg_sl ([.ref aX_0]) ++ List.replicate (1 - (lg_sl ([.ref aX_0])).length) Slot.unset).toArray = ls at hl ⊢
  have hl : lv_has ls 1 [(0, .ref aX_0)] := hl
  have hP : va_P D vwCl ((wcX aX_0 aR_0 aG_0 aS_0 aP_0 aN_0 aI_0 aT_0 zX) ++ ((wcG ci aG_0 aG_1 aG_2 aG_3 aG_4 zG) ++ (wcS ci aS_0 aS_1 zS))) s.heap := hP
  generalize hH0 : s.heap = H at hP ⊢
  have hS : va_S A s.heap H [] := by rw [← hH0]; exact va_S.rf
  clear hH0
  generalize ([] : List Loc) = locs at hS ⊢
  have hk_0 := hts (.fieldLink RX6 26 "HedgeWar" "now" "LHedgeWar$Stand;") (by decide +kernel)
  have hin_RX6 : ∀ w ∈ wsX60, w ∈ wsX6_passOneYear := by decide +kernel
  have hk_2 := hts (.fieldLink RX6 19 "HedgeWar" "ground" "LHedgeWar$Ground;") (by decide +kernel)
  have hk_3 := hts (.fieldLink RX6 162 "HedgeWar$Stand" "ofOne" "J") (by decide +kernel)
  have hin_RX5 : ∀ w ∈ wsX50, w ∈ wsX6_passOneYear := by decide +kernel
  have hk_5 := hts (.fieldLink RX6 122 "HedgeWar$Stand" "ownedByOne" "I") (by decide +kernel)
  have hk_6 := hts (.fieldLink RX6 109 "HedgeWar$Stand" "years" "I") (by decide +kernel)
  unfold f_X6_passOneYear at hF
  refine lv_aload_n hx hb dX6_passOneYear_0 rfl (lv_at hl 0 rfl) ?_
  refine va_get (D := D) (ci := 6) (v := .ref aS_0) (C := RX6) (T := TX6) (N := 9) hx hb hts hin_RX6 hown hK hP 0 rfl rfl 2 (by decide) hk_0 (fun _ h9 => h9) rfl dX6_passOneYear_1 ?_
  refine lv_aload_n hx hb dX6_passOneYear_4 rfl (lv_at hl 0 rfl) ?_
  refine va_get (D := D) (ci := 6) (v := .ref aG_0) (C := RX6) (T := TX6) (N := 9) hx hb hts hin_RX6 hown hK hP 0 rfl rfl 1 (by decide) hk_2 (fun _ h9 => h9) rfl dX6_passOneYear_5 ?_
  replace hF := bnd hF
  obtain ⟨zS_1, hc_2, hF⟩ := hF
  refine cl_Vv (As := [.ref aG_0]) (rest := []) (wc := ((wcG ci aG_0 aG_1 aG_2 aG_3 aG_4 zG) ++ (wcS ci aS_0 aS_1 zS))) (wr := ([0].filterMap (fun i => ((wcX aX_0 aR_0 aG_0 aS_0 aP_0 aN_0 aI_0 aT_0 zX) ++ ((wcG ci aG_0 aG_1 aG_2 aG_3 aG_4 zG) ++ (wcS ci aS_0 aS_1 zS)))[i]?))) (w1 := ((wcG ci aG_0 aG_1 aG_2 aG_3 aG_4 zG) ++ (wcS ci aS_0 aS_1 zS_1))) (wn := ((wcX aX_0 aR_0 aG_0 aS_0 aP_0 aN_0 aI_0 aT_0 zX) ++ ((wcG ci aG_0 aG_1 aG_2 aG_3 aG_4 zG) ++ (wcS ci aS_0 aS_1 zS_1)))) ⟨hx, hb, hml, hown, hts⟩ (cwV 1 hts gX6_passOneYear_X5_growOlder rfl rfl rfl (by decide +kernel) ⟨Nat.le_of_ble_eq_true rfl, Nat.le_of_ble_eq_true rfl⟩) (c_X5_growOlder l D ci aG_0 aG_1 aG_2 aG_3 aG_4 aS_0 aS_1 H.size zG zS _ hc_2) hK hP hD hS hA [1, 2, 3, 4, 5, 6, 7] [0] [0, 1, 2, 3, 4, 5, 6, 7] rfl rfl rfl (by decide) 5 rfl rfl rfl rfl hl.1 (Nat.le_of_ble_eq_true rfl) dX6_passOneYear_8 (Nat.zero_le _) (Nat.zero_le _) (fun H locs hP hD hS => ?_)
  have hP : va_P D vwCl ((wcX aX_0 aR_0 aG_0 aS_0 aP_0 aN_0 aI_0 aT_0 zX) ++ ((wcG ci aG_0 aG_1 aG_2 aG_3 aG_4 zG) ++ (wcS ci aS_0 aS_1 zS_1))) H := hP
  have hD : va_D A ((wcX aX_0 aR_0 aG_0 aS_0 aP_0 aN_0 aI_0 aT_0 zX) ++ ((wcG ci aG_0 aG_1 aG_2 aG_3 aG_4 zG) ++ (wcS ci aS_0 aS_1 zS_1))) := hD
  refine lv_aload_n hx hb dX6_passOneYear_11 rfl (lv_at hl 0 rfl) ?_
  refine va_get (D := D) (ci := 6) (v := .ref aS_0) (C := RX6) (T := TX6) (N := 9) hx hb hts hin_RX6 hown hK hP 0 rfl rfl 2 (by decide) hk_0 (fun _ h9 => h9) rfl dX6_passOneYear_12 ?_
  refine lv_aload_n hx hb dX6_passOneYear_15 rfl (lv_at hl 0 rfl) ?_
  refine va_get (D := D) (ci := 6) (v := .ref aG_0) (C := RX6) (T := TX6) (N := 9) hx hb hts hin_RX6 hown hK hP 0 rfl rfl 1 (by decide) hk_2 (fun _ h9 => h9) rfl dX6_passOneYear_16 ?_
  refine lv_aload_n hx hb dX6_passOneYear_19 rfl (lv_at hl 0 rfl) ?_
  refine va_get (D := D) (ci := 6) (v := .ref aS_0) (C := RX6) (T := TX6) (N := 9) hx hb hts hin_RX6 hown hK hP 0 rfl rfl 2 (by decide) hk_0 (fun _ h9 => h9) rfl dX6_passOneYear_20 ?_
  refine lv_aload_n hx hb dX6_passOneYear_23 rfl (lv_at hl 0 rfl) ?_
  refine va_get (D := D) (ci := 6) (v := .ref aG_0) (C := RX6) (T := TX6) (N := 9) hx hb hts hin_RX6 hown hK hP 0 rfl rfl 1 (by decide) hk_2 (fun _ h9 => h9) rfl dX6_passOneYear_24 ?_
  replace hF := bnd hF
  obtain ⟨r_3, hc_4, hF⟩ := hF
  refine cl_Vl (As := [.ref aG_0]) (rest := [.ref aG_0, .ref aS_0]) (wc := ((wcG ci aG_0 aG_1 aG_2 aG_3 aG_4 zG) ++ (wcS ci aS_0 aS_1 zS_1))) (wr := ([0].filterMap (fun i => ((wcX aX_0 aR_0 aG_0 aS_0 aP_0 aN_0 aI_0 aT_0 zX) ++ ((wcG ci aG_0 aG_1 aG_2 aG_3 aG_4 zG) ++ (wcS ci aS_0 aS_1 zS_1)))[i]?))) (w1 := ((wcG ci aG_0 aG_1 aG_2 aG_3 aG_4 zG) ++ (wcS ci aS_0 aS_1 zS_1))) (wn := ((wcX aX_0 aR_0 aG_0 aS_0 aP_0 aN_0 aI_0 aT_0 zX) ++ ((wcG ci aG_0 aG_1 aG_2 aG_3 aG_4 zG) ++ (wcS ci aS_0 aS_1 zS_1)))) ⟨hx, hb, hml, hown, hts⟩ (cwV 1 hts gX6_passOneYear_X5_shutEdges rfl rfl rfl (by decide +kernel) ⟨Nat.le_of_ble_eq_true rfl, Nat.le_of_ble_eq_true rfl⟩) (c_X5_shutEdges l D ci aG_0 aG_1 aG_2 aG_3 aG_4 aS_0 aS_1 H.size zG zS_1 _ hc_4) hK hP hD hS hA [1, 2, 3, 4, 5, 6, 7] [0] [0, 1, 2, 3, 4, 5, 6, 7] rfl rfl rfl (by decide) 5 rfl rfl rfl rfl hl.1 (Nat.le_of_ble_eq_true rfl) dX6_passOneYear_27 (Nat.zero_le _) (Nat.zero_le _) (fun H locs hP hD hS => ?_)
  have hP : va_P D vwCl ((wcX aX_0 aR_0 aG_0 aS_0 aP_0 aN_0 aI_0 aT_0 zX) ++ ((wcG ci aG_0 aG_1 aG_2 aG_3 aG_4 zG) ++ (wcS ci aS_0 aS_1 zS_1))) H := hP
  have hD : va_D A ((wcX aX_0 aR_0 aG_0 aS_0 aP_0 aN_0 aI_0 aT_0 zX) ++ ((wcG ci aG_0 aG_1 aG_2 aG_3 aG_4 zG) ++ (wcS ci aS_0 aS_1 zS_1))) := hD
  refine lv_aload_n hx hb dX6_passOneYear_30 rfl (lv_at hl 0 rfl) ?_
  refine va_get (D := D) (ci := 6) (v := .ref aS_0) (C := RX6) (T := TX6) (N := 9) hx hb hts hin_RX6 hown hK hP 0 rfl rfl 2 (by decide) hk_0 (fun _ h9 => h9) rfl dX6_passOneYear_31 ?_
  refine va_get (D := D) (ci := 5) (v := .long (zS_1.1 1)) (C := RX5) (T := TX5) (N := 6) hx hb hts hin_RX5 hown hK hP 6 rfl rfl 1 (by decide) hk_3 (fun _ h9 => h9) rfl dX6_passOneYear_34 ?_
  refine lv_aload_n hx hb dX6_passOneYear_37 rfl (lv_at hl 0 rfl) ?_
  refine va_get (D := D) (ci := 6) (v := .ref aS_0) (C := RX6) (T := TX6) (N := 9) hx hb hts hin_RX6 hown hK hP 0 rfl rfl 2 (by decide) hk_0 (fun _ h9 => h9) rfl dX6_passOneYear_38 ?_
  refine va_get (D := D) (ci := 5) (v := .int (zS_1.2.1 3)) (C := RX5) (T := TX5) (N := 6) hx hb hts hin_RX5 hown hK hP 6 rfl rfl 3 (by decide) hk_5 (fun _ h9 => h9) rfl dX6_passOneYear_41 ?_
  replace hF := bnd hF
  obtain ⟨r_5, hc_6, hF⟩ := hF
  refine cl_Vi (As := [.long r_3, .long (zS_1.1 1), .int (zS_1.2.1 3)]) (rest := [.ref aS_0]) (wc := (wcG ci aG_0 aG_1 aG_2 aG_3 aG_4 zG)) (wr := ([0, 6, 7].filterMap (fun i => ((wcX aX_0 aR_0 aG_0 aS_0 aP_0 aN_0 aI_0 aT_0 zX) ++ ((wcG ci aG_0 aG_1 aG_2 aG_3 aG_4 zG) ++ (wcS ci aS_0 aS_1 zS_1)))[i]?))) (w1 := (wcG ci aG_0 aG_1 aG_2 aG_3 aG_4 zG)) (wn := ((wcX aX_0 aR_0 aG_0 aS_0 aP_0 aN_0 aI_0 aT_0 zX) ++ ((wcG ci aG_0 aG_1 aG_2 aG_3 aG_4 zG) ++ (wcS ci aS_0 aS_1 zS_1)))) ⟨hx, hb, hml, hown, hts⟩ (cwV 3 hts gX6_passOneYear_X0_ownedAfterMarch rfl rfl rfl (by decide +kernel) ⟨Nat.le_of_ble_eq_true rfl, Nat.le_of_ble_eq_true rfl⟩) (c_X0_ownedAfterMarch l D ci aG_0 aG_1 aG_2 aG_3 aG_4 H.size zG r_3 (zS_1.1 1) (zS_1.2.1 3) _ hc_6) hK hP hD hS hA [1, 2, 3, 4, 5] [0, 6, 7] [0, 3, 4, 5, 6, 7, 1, 2] rfl rfl rfl (by decide) 0 rfl rfl rfl rfl hl.1 (Nat.le_of_ble_eq_true rfl) dX6_passOneYear_44 (Nat.zero_le _) (Nat.zero_le _) (fun H locs hP hD hS => ?_)
  have hP : va_P D vwCl ((wcX aX_0 aR_0 aG_0 aS_0 aP_0 aN_0 aI_0 aT_0 zX) ++ ((wcG ci aG_0 aG_1 aG_2 aG_3 aG_4 zG) ++ (wcS ci aS_0 aS_1 zS_1))) H := hP
  have hD : va_D A ((wcX aX_0 aR_0 aG_0 aS_0 aP_0 aN_0 aI_0 aT_0 zX) ++ ((wcG ci aG_0 aG_1 aG_2 aG_3 aG_4 zG) ++ (wcS ci aS_0 aS_1 zS_1))) := hD
  refine va_put (D := D) (ci := 5) (v := .int r_5) (ty := .int) (C := RX5) (T := TX5) (N := 6) hx hb hts hin_RX5 tyX5 tyX5_ok nmX5 hown hK hP hD hS 6 rfl rfl 3 (by decide) hk_5 (fun _ h9 => h9) rfl (by decide +kernel) rfl rfl (Nat.le_of_ble_eq_true rfl) dX6_passOneYear_47 (fun H locs hP hD hS => ?_)
  obtain ⟨zS_7, ezS_7⟩ : ∃ y : SS, y = (zS_1.1, upd zS_1.2.1 3 r_5, zS_1.2.2) := ⟨_, rfl⟩
  replace hF := nm_i hF ezS_7
  have hP : va_P D vwCl ((wcX aX_0 aR_0 aG_0 aS_0 aP_0 aN_0 aI_0 aT_0 zX) ++ ((wcG ci aG_0 aG_1 aG_2 aG_3 aG_4 zG) ++ (wcS ci aS_0 aS_1 zS_7))) H := by rw [ezS_7]; exact hP
  have hD : va_D A ((wcX aX_0 aR_0 aG_0 aS_0 aP_0 aN_0 aI_0 aT_0 zX) ++ ((wcG ci aG_0 aG_1 aG_2 aG_3 aG_4 zG) ++ (wcS ci aS_0 aS_1 zS_7))) := by rw [ezS_7]; exact hD
  refine lv_aload_n hx hb dX6_passOneYear_50 rfl (lv_at hl 0 rfl) ?_
  refine va_get (D := D) (ci := 6) (v := .ref aS_0) (C := RX6) (T := TX6) (N := 9) hx hb hts hin_RX6 hown hK hP 0 rfl rfl 2 (by decide) hk_0 (fun _ h9 => h9) rfl dX6_passOneYear_51 ?_
  refine lv_dup hx hb dX6_passOneYear_54 rfl ?_
  refine va_get (D := D) (ci := 5) (v := .int (zS_7.2.1 4)) (C := RX5) (T := TX5) (N := 6) hx hb hts hin_RX5 hown hK hP 6 rfl rfl 4 (by decide) hk_6 (fun _ h9 => h9) rfl dX6_passOneYear_55 ?_
  refine lv_iconst (v := 1) hx hb dX6_passOneYear_58 (by decide) ?_
  refine lv_iadd hx hb dX6_passOneYear_59 ?_
  refine lv_topi (fun f4_8 ef4_8 => ?_)
  replace hF := nm_i hF ef4_8
  refine va_put (D := D) (ci := 5) (v := .int f4_8) (ty := .int) (C := RX5) (T := TX5) (N := 6) hx hb hts hin_RX5 tyX5 tyX5_ok nmX5 hown hK hP hD hS 6 rfl rfl 4 (by decide) hk_6 (fun _ h9 => h9) rfl (by decide +kernel) rfl rfl (Nat.le_of_ble_eq_true rfl) dX6_passOneYear_60 (fun H locs hP hD hS => ?_)
  obtain ⟨zS_9, ezS_9⟩ : ∃ y : SS, y = (zS_7.1, upd zS_7.2.1 4 f4_8, zS_7.2.2) := ⟨_, rfl⟩
  replace hF := nm_i hF ezS_9
  have hP : va_P D vwCl ((wcX aX_0 aR_0 aG_0 aS_0 aP_0 aN_0 aI_0 aT_0 zX) ++ ((wcG ci aG_0 aG_1 aG_2 aG_3 aG_4 zG) ++ (wcS ci aS_0 aS_1 zS_9))) H := by rw [ezS_9]; exact hP
  have hD : va_D A ((wcX aX_0 aR_0 aG_0 aS_0 aP_0 aN_0 aI_0 aT_0 zX) ++ ((wcG ci aG_0 aG_1 aG_2 aG_3 aG_4 zG) ++ (wcS ci aS_0 aS_1 zS_9))) := by rw [ezS_9]; exact hD
  obtain rfl := Option.some.inj hF
  exact W.vret hx hb hr (fun t ht hW => ⟨⟨(), rfl, trivial, by rw [ht]; exact hP, va_K.moved hW.alike hK, hD⟩, hS.F ht⟩) hS.2.2 dX6_passOneYear_63
noncomputable def L_X6_passYears_56 (zG : GS) (zP_5 : PS) (zQ_6 : QS) (p1 : Int32) (p2 : Int32) : Nat → Int32 → XS → SS → Option (Int32 × XS × SS)
  | 0, _, _, _ => none
  | n + 1, v3_10, zX_11, zS_12 => if p1 ≤ v3_10 then (some (v3_10, zX_11, zS_12)) else ((if p2 = 0 then (some ((zX_11 : XS), (zS_12 : SS))) else ((f_X6_sowByDraws zX_11 zG zS_12).bind fun q_31 => nm q_31.1 fun zX_28 => nm q_31.2 fun zS_29 => some ((zX_28 : XS), (zS_29 : SS))) : Option (XS × SS)).bind fun q_38 => nm q_38.1 fun zX_22 => nm q_38.2 fun zS_23 => (f_X6_passOneYear zX_22 zG zS_23).bind fun zS_35 => nm (v3_10 + 1) fun v3_37 => L_X6_passYears_56 zG zP_5 zQ_6 p1 p2 n v3_37 zX_22 zS_35)
noncomputable def f_X6_passYears (zX : XS) (zG : GS) (zS : SS) (zP : PS) (zQ : QS) (p1 : Int32) (p2 : Int32) : Option (Int32 × XS × SS × PS × QS) := if p1 < 1 then (some ((-1000000002 : Int32), zX, zS, zP, zQ)) else (if p1 ≤ 40 then (if (zG.1 2) = 0 then (some ((-1000000003 : Int32), zX, zS, zP, zQ)) else (if (zS.2.1 4) ≤ 9000 then ((f_X3_remember zS zP zQ).bind fun q_8 => nm q_8.1 fun zP_5 => nm q_8.2 fun zQ_6 => nm (0 : Int32) fun v3_9 => (L_X6_passYears_56 zG zP_5 zQ_6 p1 p2 3000 v3_9 zX zS).bind fun q_42 => nm q_42.1 fun v3_15 => nm q_42.2.1 fun zX_16 => nm q_42.2.2 fun zS_17 => (f_J6_bitCount_0f7a4 (zS_17.2.1 3)).bind fun r_40 => some (r_40, zX_16, zS_17, zP_5, zQ_6)) else (some ((-1000000004 : Int32), zX, zS, zP, zQ)))) else (some ((-1000000002 : Int32), zX, zS, zP, zQ)))
set_option maxHeartbeats 4000000 in
set_option maxRecDepth 100000 in
theorem c_X6_passYears (l : Launch) (D : va_G) (ci : Nat → ClassId) (aX_0 : Nat) (aR_0 : Nat) (aG_0 : Nat) (aS_0 : Nat) (aP_0 : Nat) (aN_0 : Nat) (aI_0 : Nat) (aT_0 : Nat) (aG_1 : Nat) (aG_2 : Nat) (aG_3 : Nat) (aG_4 : Nat) (aS_1 : Nat) (aP_1 : Nat) (aQ : Nat → Nat) (sz : Nat) (zX : XS) (zG : GS) (zS : SS) (zP : PS) (zQ : QS) (p1 : Int32) (p2 : Int32) (res : Int32 × XS × SS × PS × QS) (hF : f_X6_passYears zX zG zS zP zQ p1 p2 = some res) : CtI l yX6_passYears wsX6_passYears { frames := 5, cells := 0, slots := 0, locals := 109 } [.ref aX_0, .int p1, .int p2] D ci ((wcX aX_0 aR_0 aG_0 aS_0 aP_0 aN_0 aI_0 aT_0 zX) ++ ((wcG ci aG_0 aG_1 aG_2 aG_3 aG_4 zG) ++ ((wcS ci aS_0 aS_1 zS) ++ ((wcP ci aP_0 aP_1 aQ zP) ++ (wcQ ci aQ zQ))))) sz res.1 ((wcX aX_0 aR_0 aG_0 aS_0 aP_0 aN_0 aI_0 aT_0 res.2.1) ++ ((wcG ci aG_0 aG_1 aG_2 aG_3 aG_4 zG) ++ ((wcS ci aS_0 aS_1 res.2.2.1) ++ ((wcP ci aP_0 aP_1 aQ res.2.2.2.1) ++ (wcQ ci aQ res.2.2.2.2))))) := by
  refine Met.ofW (cc := cX6_passYears) (maxL := 4) (ret := (some .int)) (by decide) rfl ?_
  intro p e s m args below meth c s₁ B hml hv
  obtain ⟨rfl, hsz, hP, hK, hD0⟩ := hv
  have hx := B.exec
  have hb := B.bytes
  have hr := B.returns
  have hts := atoms_spec (ws := wsX6_passYears) B.pre
  have hown : s.vm.findClass RX6 = some m.cls := findClass_of_methodNamed B.named
  have hlocks := B.notSynchronized
  subst hsz
  have hD := hD0.self (sz := s.heap.size)
  generalize hAe : va_A ((wcX aX_0 aR_0 aG_0 aS_0 aP_0 aN_0 aI_0 aT_0 zX) ++ ((wcG ci aG_0 aG_1 aG_2 aG_3 aG_4 zG) ++ ((wcS ci aS_0 aS_1 zS) ++ ((wcP ci aP_0 aP_1 aQ zP) ++ (wcQ ci aQ zQ))))) s.heap.size = A at hD ⊢
  have hA : ∀ q : Nat, s.heap.size ≤ q → A q := fun q h => by rw [← hAe]; exact Or.inr h
  clear hD0 hAe
  have hl := lv_entry ([.ref aX_0, .int p1, .int p2]) (n := 4) (Nat.le_of_ble_eq_true rfl)
  rw [lg_entry_eq]
  generalize (lg_sl ([.ref aX_0, .int p1, .int p2]) ++ List.replicate (4 - (lg_sl ([.ref aX_0, .int p1, .int p2])).length) Slot.unset).toArray = ls at hl ⊢
  have hl : lv_has ls 4 [(0, .ref aX_0), (1, .int p1), (2, .int p2)] := hl
  have hP : va_P D vwCl ((wcX aX_0 aR_0 aG_0 aS_0 aP_0 aN_0 aI_0 aT_0 zX) ++ ((wcG ci aG_0 aG_1 aG_2 aG_3 aG_4 zG) ++ ((wcS ci aS_0 aS_1 zS) ++ ((wcP ci aP_0 aP_1 aQ zP) ++ (wcQ ci aQ zQ))))) s.heap := hP
  generalize hH0 : s.heap = H at hP ⊢
  have hS : va_S A s.heap H [] := by rw [← hH0]; exact va_S.rf
  clear hH0
  generalize ([] : List Loc) = locs at hS ⊢
  have hk_0 := hts (.constant RX6 62 (-1000000002)) (by decide +kernel)
  have hk_1 := hts (.fieldLink RX6 19 "HedgeWar" "ground" "LHedgeWar$Ground;") (by decide +kernel)
  have hin_RX6 : ∀ w ∈ wsX60, w ∈ wsX6_passYears := by decide +kernel
  have hk_3 := hts (.fieldLink RX6 97 "HedgeWar$Ground" "fields" "I") (by decide +kernel)
  have hin_RX0 : ∀ w ∈ wsX00, w ∈ wsX6_passYears := by decide +kernel
  have hk_5 := hts (.fieldLink RX6 26 "HedgeWar" "now" "LHedgeWar$Stand;") (by decide +kernel)
  have hk_6 := hts (.fieldLink RX6 109 "HedgeWar$Stand" "years" "I") (by decide +kernel)
  have hin_RX5 : ∀ w ∈ wsX50, w ∈ wsX6_passYears := by decide +kernel
  have hk_8 := hts (.fieldLink RX6 33 "HedgeWar" "past" "LHedgeWar$Past;") (by decide +kernel)
  have hk_9 := hts (.fieldLink RX6 122 "HedgeWar$Stand" "ownedByOne" "I") (by decide +kernel)
  have hk_10 := hts (.constant RX6 66 (-1000000004)) (by decide +kernel)
  have hk_11 := hts (.constant RX6 204 (-1000000003)) (by decide +kernel)
  unfold f_X6_passYears at hF
  refine lv_iload_n hx hb dX6_passYears_0 rfl (lv_at hl 1 rfl) ?_
  refine lv_iconst (v := 1) hx hb dX6_passYears_1 (by decide) ?_
  refine lv_icmp_lt (tgt := 11) hx hb dX6_passYears_2 (by decide) (fun c_1 => ?_) (fun c_1 => ?_)
  · replace hF := if_i c_1 hF
    refine lv_ldc (v := (-1000000002)) hx hb hown hk_0 dX6_passYears_11 ?_
    obtain rfl := Option.some.inj hF
    exact W.iret (v := (-1000000002)) hx hb hr (fun t ht hW => ⟨⟨_, (), rfl, rfl, by rw [ht]; exact hP, va_K.moved hW.alike hK, hD⟩, hS.F ht⟩) hS.2.2 dX6_passYears_13
  · replace hF := if_o c_1 hF
    refine lv_iload_n hx hb dX6_passYears_5 rfl (lv_at hl 1 rfl) ?_
    refine lv_bipush (v := 40) hx hb dX6_passYears_6 (by decide) ?_
    refine lv_icmp_le (tgt := 14) hx hb dX6_passYears_8 (by decide) (fun c_2 => ?_) (fun c_2 => ?_)
    · replace hF := if_i c_2 hF
      refine lv_aload_n hx hb dX6_passYears_14 rfl (lv_at hl 0 rfl) ?_
      refine va_get (D := D) (ci := 6) (v := .ref aG_0) (C := RX6) (T := TX6) (N := 9) hx hb hts hin_RX6 hown hK hP 0 rfl rfl 1 (by decide) hk_1 (fun _ h9 => h9) rfl dX6_passYears_15 ?_
      refine va_get (D := D) (ci := 0) (v := .int (zG.1 2)) (C := RX0) (T := TX0) (N := 13) hx hb hts hin_RX0 hown hK hP 1 rfl rfl 2 (by decide) hk_3 (fun _ h9 => h9) rfl dX6_passYears_18 ?_
      refine lv_if_ne (tgt := 27) hx hb dX6_passYears_21 (by decide) (fun c_3 => ?_) (fun c_3 => ?_)
      · replace hF := if_o c_3 hF
        refine lv_aload_n hx hb dX6_passYears_27 rfl (lv_at hl 0 rfl) ?_
        refine va_get (D := D) (ci := 6) (v := .ref aS_0) (C := RX6) (T := TX6) (N := 9) hx hb hts hin_RX6 hown hK hP 0 rfl rfl 2 (by decide) hk_5 (fun _ h9 => h9) rfl dX6_passYears_28 ?_
        refine va_get (D := D) (ci := 5) (v := .int (zS.2.1 4)) (C := RX5) (T := TX5) (N := 6) hx hb hts hin_RX5 hown hK hP 6 rfl rfl 4 (by decide) hk_6 (fun _ h9 => h9) rfl dX6_passYears_31 ?_
        refine lv_sipush (v := 9000) hx hb dX6_passYears_34 (by decide) ?_
        refine lv_icmp_le (tgt := 43) hx hb dX6_passYears_37 (by decide) (fun c_4 => ?_) (fun c_4 => ?_)
        · replace hF := if_i c_4 hF
          refine lv_aload_n hx hb dX6_passYears_43 rfl (lv_at hl 0 rfl) ?_
          refine va_get (D := D) (ci := 6) (v := .ref aP_0) (C := RX6) (T := TX6) (N := 9) hx hb hts hin_RX6 hown hK hP 0 rfl rfl 3 (by decide) hk_8 (fun _ h9 => h9) rfl dX6_passYears_44 ?_
          refine lv_aload_n hx hb dX6_passYears_47 rfl (lv_at hl 0 rfl) ?_
          refine va_get (D := D) (ci := 6) (v := .ref aS_0) (C := RX6) (T := TX6) (N := 9) hx hb hts hin_RX6 hown hK hP 0 rfl rfl 2 (by decide) hk_5 (fun _ h9 => h9) rfl dX6_passYears_48 ?_
          replace hF := bnd hF
          obtain ⟨q_8, hc_7, hF⟩ := hF
          obtain ⟨zP_5, ezP_5⟩ : ∃ y : PS, y = q_8.1 := ⟨_, rfl⟩
          replace hF := nm_i hF ezP_5
          obtain ⟨zQ_6, ezQ_6⟩ : ∃ y : QS, y = q_8.2 := ⟨_, rfl⟩
          replace hF := nm_i hF ezQ_6
          obtain rfl : q_8 = (zP_5, zQ_6) := by rw [ezP_5, ezQ_6]
          clear ezP_5
          clear ezQ_6
          refine cl_Vv (As := [.ref aS_0]) (rest := []) (wc := ((wcS ci aS_0 aS_1 zS) ++ ((wcP ci aP_0 aP_1 aQ zP) ++ (wcQ ci aQ zQ)))) (wr := ([0, 1, 2, 3, 4, 5].filterMap (fun i => ((wcX aX_0 aR_0 aG_0 aS_0 aP_0 aN_0 aI_0 aT_0 zX) ++ ((wcG ci aG_0 aG_1 aG_2 aG_3 aG_4 zG) ++ ((wcS ci aS_0 aS_1 zS) ++ ((wcP ci aP_0 aP_1 aQ zP) ++ (wcQ ci aQ zQ)))))[i]?))) (w1 := ((wcS ci aS_0 aS_1 zS) ++ ((wcP ci aP_0 aP_1 aQ zP_5) ++ (wcQ ci aQ zQ_6)))) (wn := ((wcX aX_0 aR_0 aG_0 aS_0 aP_0 aN_0 aI_0 aT_0 zX) ++ ((wcG ci aG_0 aG_1 aG_2 aG_3 aG_4 zG) ++ ((wcS ci aS_0 aS_1 zS) ++ ((wcP ci aP_0 aP_1 aQ zP_5) ++ (wcQ ci aQ zQ_6)))))) ⟨hx, hb, hml, hown, hts⟩ (cwV 1 hts gX6_passYears_X3_remember rfl rfl rfl (by decide +kernel) ⟨Nat.le_of_ble_eq_true rfl, Nat.le_of_ble_eq_true rfl⟩) (c_X3_remember l D ci aS_0 aS_1 aP_0 aP_1 aQ H.size zS zP zQ _ hc_7) hK hP hD hS hA [6, 7, 8, 9, 10, 11, 12, 13, 14, 15, 16, 17, 18, 19, 20, 21, 22, 23, 24, 25, 26, 27, 28, 29, 30, 31, 32, 33, 34, 35, 36, 37, 38, 39, 40, 41, 42, 43, 44, 45, 46, 47, 48, 49] [0, 1, 2, 3, 4, 5] [0, 1, 2, 3, 4, 5, 6, 7, 8, 9, 10, 11, 12, 13, 14, 15, 16, 17, 18, 19, 20, 21, 22, 23, 24, 25, 26, 27, 28, 29, 30, 31, 32, 33, 34, 35, 36, 37, 38, 39, 40, 41, 42, 43, 44, 45, 46, 47, 48, 49] rfl rfl rfl (by decide) 2 rfl rfl rfl rfl hl.1 (Nat.le_of_ble_eq_true rfl) dX6_passYears_51 (Nat.zero_le _) (Nat.zero_le _) (fun H locs hP hD hS => ?_)
          have hP : va_P D vwCl ((wcX aX_0 aR_0 aG_0 aS_0 aP_0 aN_0 aI_0 aT_0 zX) ++ ((wcG ci aG_0 aG_1 aG_2 aG_3 aG_4 zG) ++ ((wcS ci aS_0 aS_1 zS) ++ ((wcP ci aP_0 aP_1 aQ zP_5) ++ (wcQ ci aQ zQ_6))))) H := hP
          have hD : va_D A ((wcX aX_0 aR_0 aG_0 aS_0 aP_0 aN_0 aI_0 aT_0 zX) ++ ((wcG ci aG_0 aG_1 aG_2 aG_3 aG_4 zG) ++ ((wcS ci aS_0 aS_1 zS) ++ ((wcP ci aP_0 aP_1 aQ zP_5) ++ (wcQ ci aQ zQ_6))))) := hD
          refine lv_iconst (v := 0) hx hb dX6_passYears_54 (by decide) ?_
          refine lv_topi (fun v3_9 ev3_9 => ?_)
          replace hF := nm_i hF ev3_9
          refine lv_istore_n (lv' := [(3, .int v3_9), (0, .ref aX_0), (1, .int p1), (2, .int p2)]) hx hb dX6_passYears_55 rfl hl (by decide) rfl (fun ls hl => ?_)
          replace hF := bnd hF
          obtain ⟨q_42, hv_39, hF⟩ := hF
          obtain ⟨v3_15, ev3_15⟩ : ∃ y : Int32, y = q_42.1 := ⟨_, rfl⟩
          replace hF := nm_i hF ev3_15
          obtain ⟨zX_16, ezX_16⟩ : ∃ y : XS, y = q_42.2.1 := ⟨_, rfl⟩
          replace hF := nm_i hF ezX_16
          obtain ⟨zS_17, ezS_17⟩ : ∃ y : SS, y = q_42.2.2 := ⟨_, rfl⟩
          replace hF := nm_i hF ezS_17
          obtain rfl : q_42 = (v3_15, zX_16, zS_17) := by rw [ev3_15, ezX_16, ezS_17]
          clear ev3_15
          clear ezX_16
          clear ezS_17
          refine jn (P := fun H locs ls => va_P D vwCl ((wcX aX_0 aR_0 aG_0 aS_0 aP_0 aN_0 aI_0 aT_0 zX_16) ++ ((wcG ci aG_0 aG_1 aG_2 aG_3 aG_4 zG) ++ ((wcS ci aS_0 aS_1 zS_17) ++ ((wcP ci aP_0 aP_1 aQ zP_5) ++ (wcQ ci aQ zQ_6))))) H ∧ va_D A ((wcX aX_0 aR_0 aG_0 aS_0 aP_0 aN_0 aI_0 aT_0 zX_16) ++ ((wcG ci aG_0 aG_1 aG_2 aG_3 aG_4 zG) ++ ((wcS ci aS_0 aS_1 zS_17) ++ ((wcP ci aP_0 aP_1 aQ zP_5) ++ (wcQ ci aQ zQ_6))))) ∧ va_S A s.heap H locs ∧ lv_has ls 4 [(0, .ref aX_0), (1, .int p1), (2, .int p2), (3, .int v3_15)]) (pcJ := 79) (st := []) ?_ ?_
          · intro H locs ls hJ
            obtain ⟨hP, hD, hS, hl⟩ := hJ
            refine lv_aload_n hx hb dX6_passYears_79 rfl (lv_at hl 0 rfl) ?_
            refine va_get (D := D) (ci := 6) (v := .ref aS_0) (C := RX6) (T := TX6) (N := 9) hx hb hts hin_RX6 hown hK hP 0 rfl rfl 2 (by decide) hk_5 (fun _ h9 => h9) rfl dX6_passYears_80 ?_
            refine va_get (D := D) (ci := 5) (v := .int (zS_17.2.1 3)) (C := RX5) (T := TX5) (N := 6) hx hb hts hin_RX5 hown hK hP 6 rfl rfl 3 (by decide) hk_9 (fun _ h9 => h9) rfl dX6_passYears_83 ?_
            replace hF := bnd hF
            obtain ⟨r_40, hc_41, hF⟩ := hF
            refine cl_Sie (As := [.int (zS_17.2.1 3)]) (rest := []) ⟨hx, hb, hml, hown, hts⟩ (va_cwS 1 hts gX6_passYears_J6_bitCount_0f7a4 rfl rfl rfl (by decide +kernel) ⟨Nat.le_of_ble_eq_true rfl, Nat.le_of_ble_eq_true rfl⟩) (c_J6_bitCount_0f7a4 l D ci  H.size (zS_17.2.1 3) _ hc_41) hK hP hD hS hA rfl rfl hl.1 (Nat.le_of_ble_eq_true rfl) dX6_passYears_86 (Nat.zero_le _) (Nat.zero_le _) (fun H locs hP hD hS => ?_)
            have hP : va_P D vwCl ((wcX aX_0 aR_0 aG_0 aS_0 aP_0 aN_0 aI_0 aT_0 zX_16) ++ ((wcG ci aG_0 aG_1 aG_2 aG_3 aG_4 zG) ++ ((wcS ci aS_0 aS_1 zS_17) ++ ((wcP ci aP_0 aP_1 aQ zP_5) ++ (wcQ ci aQ zQ_6))))) H := hP
            have hD : va_D A ((wcX aX_0 aR_0 aG_0 aS_0 aP_0 aN_0 aI_0 aT_0 zX_16) ++ ((wcG ci aG_0 aG_1 aG_2 aG_3 aG_4 zG) ++ ((wcS ci aS_0 aS_1 zS_17) ++ ((wcP ci aP_0 aP_1 aQ zP_5) ++ (wcQ ci aQ zQ_6))))) := hD
            obtain rfl := Option.some.inj hF
            exact W.iret (v := r_40) hx hb hr (fun t ht hW => ⟨⟨_, (), rfl, rfl, by rw [ht]; exact hP, va_K.moved hW.alike hK, hD⟩, hS.F ht⟩) hS.2.2 dX6_passYears_89
          · intro J_14
            clear hF
            have hF := hv_39
            refine lpW (σ := Int32 × XS × SS) (I := fun n v H locs ls => L_X6_passYears_56 zG zP_5 zQ_6 p1 p2 n v.1 v.2.1 v.2.2 = some (v3_15, zX_16, zS_17) ∧ va_P D vwCl ((wcX aX_0 aR_0 aG_0 aS_0 aP_0 aN_0 aI_0 aT_0 v.2.1) ++ ((wcG ci aG_0 aG_1 aG_2 aG_3 aG_4 zG) ++ ((wcS ci aS_0 aS_1 v.2.2) ++ ((wcP ci aP_0 aP_1 aQ zP_5) ++ (wcQ ci aQ zQ_6))))) H ∧ va_D A ((wcX aX_0 aR_0 aG_0 aS_0 aP_0 aN_0 aI_0 aT_0 v.2.1) ++ ((wcG ci aG_0 aG_1 aG_2 aG_3 aG_4 zG) ++ ((wcS ci aS_0 aS_1 v.2.2) ++ ((wcP ci aP_0 aP_1 aQ zP_5) ++ (wcQ ci aQ zQ_6))))) ∧ va_S A s.heap H locs ∧ lv_has ls 4 [(0, .ref aX_0), (1, .int p1), (2, .int p2), (3, .int v.1)]) 3000 (v3_9, zX, zS) (fun _ _ _ _ h => no_none h.1) ⟨hF, hP, hD, hS, lv_sub hl [1, 2, 3, 0] rfl⟩ ?_
            clear hF hP hD hS hl
            intro n ih_13 vq H locs ls hI
            obtain ⟨v3_10, zX_11, zS_12⟩ := vq
            obtain ⟨hF, hP, hD, hS, hl⟩ := hI
            have hP : va_P D vwCl ((wcX aX_0 aR_0 aG_0 aS_0 aP_0 aN_0 aI_0 aT_0 zX_11) ++ ((wcG ci aG_0 aG_1 aG_2 aG_3 aG_4 zG) ++ ((wcS ci aS_0 aS_1 zS_12) ++ ((wcP ci aP_0 aP_1 aQ zP_5) ++ (wcQ ci aQ zQ_6))))) H := hP
            have hD : va_D A ((wcX aX_0 aR_0 aG_0 aS_0 aP_0 aN_0 aI_0 aT_0 zX_11) ++ ((wcG ci aG_0 aG_1 aG_2 aG_3 aG_4 zG) ++ ((wcS ci aS_0 aS_1 zS_12) ++ ((wcP ci aP_0 aP_1 aQ zP_5) ++ (wcQ ci aQ zQ_6))))) := hD
            have hl : lv_has ls 4 [(0, .ref aX_0), (1, .int p1), (2, .int p2), (3, .int v3_10)] := hl
            replace hF : L_X6_passYears_56 zG zP_5 zQ_6 p1 p2 (n + 1) v3_10 zX_11 zS_12 = some (v3_15, zX_16, zS_17) := hF
            rw [L_X6_passYears_56] at hF
            refine lv_iload_n hx hb dX6_passYears_56 rfl (lv_at hl 3 rfl) ?_
            refine lv_iload_n hx hb dX6_passYears_57 rfl (lv_at hl 1 rfl) ?_
            refine lv_icmp_ge (tgt := 79) hx hb dX6_passYears_58 (by decide) (fun c_18 => ?_) (fun c_18 => ?_)
            · replace hF := if_i c_18 hF
              obtain ⟨g_19, g_20, g_21⟩ : v3_10 = v3_15 ∧ zX_11 = zX_16 ∧ zS_12 = zS_17 := by have h9 := Option.some.inj hF; simpa only [Prod.mk.injEq] using h9
              subst g_19
              subst g_20
              subst g_21
              exact J_14 H locs ls ⟨hP, hD, hS, lv_sub hl [0, 1, 2, 3] rfl⟩
            · replace hF := if_o c_18 hF
              refine lv_iload_n hx hb dX6_passYears_61 rfl (lv_at hl 2 rfl) ?_
              replace hF := bnd hF
              obtain ⟨q_38, hv_34, hF⟩ := hF
              obtain ⟨zX_22, ezX_22⟩ : ∃ y : XS, y = q_38.1 := ⟨_, rfl⟩
              replace hF := nm_i hF ezX_22
              obtain ⟨zS_23, ezS_23⟩ : ∃ y : SS, y = q_38.2 := ⟨_, rfl⟩
              replace hF := nm_i hF ezS_23
              obtain rfl : q_38 = (zX_22, zS_23) := by rw [ezX_22, ezS_23]
              clear ezX_22
              clear ezS_23
              refine jn (P := fun H locs ls => va_P D vwCl ((wcX aX_0 aR_0 aG_0 aS_0 aP_0 aN_0 aI_0 aT_0 zX_22) ++ ((wcG ci aG_0 aG_1 aG_2 aG_3 aG_4 zG) ++ ((wcS ci aS_0 aS_1 zS_23) ++ ((wcP ci aP_0 aP_1 aQ zP_5) ++ (wcQ ci aQ zQ_6))))) H ∧ va_D A ((wcX aX_0 aR_0 aG_0 aS_0 aP_0 aN_0 aI_0 aT_0 zX_22) ++ ((wcG ci aG_0 aG_1 aG_2 aG_3 aG_4 zG) ++ ((wcS ci aS_0 aS_1 zS_23) ++ ((wcP ci aP_0 aP_1 aQ zP_5) ++ (wcQ ci aQ zQ_6))))) ∧ va_S A s.heap H locs ∧ lv_has ls 4 [(0, .ref aX_0), (1, .int p1), (2, .int p2), (3, .int v3_10)]) (pcJ := 69) (st := []) ?_ ?_
              · intro H locs ls hJ
                obtain ⟨hP, hD, hS, hl⟩ := hJ
                refine lv_aload_n hx hb dX6_passYears_69 rfl (lv_at hl 0 rfl) ?_
                replace hF := bnd hF
                obtain ⟨zS_35, hc_36, hF⟩ := hF
                refine cl_Vv (As := []) (rest := []) (wc := ((wcX aX_0 aR_0 aG_0 aS_0 aP_0 aN_0 aI_0 aT_0 zX_22) ++ ((wcG ci aG_0 aG_1 aG_2 aG_3 aG_4 zG) ++ (wcS ci aS_0 aS_1 zS_23)))) (wr := ([8, 9, 10, 11, 12, 13, 14, 15, 16, 17, 18, 19, 20, 21, 22, 23, 24, 25, 26, 27, 28, 29, 30, 31, 32, 33, 34, 35, 36, 37, 38, 39, 40, 41, 42, 43, 44, 45, 46, 47, 48, 49].filterMap (fun i => ((wcX aX_0 aR_0 aG_0 aS_0 aP_0 aN_0 aI_0 aT_0 zX_22) ++ ((wcG ci aG_0 aG_1 aG_2 aG_3 aG_4 zG) ++ ((wcS ci aS_0 aS_1 zS_23) ++ ((wcP ci aP_0 aP_1 aQ zP_5) ++ (wcQ ci aQ zQ_6)))))[i]?))) (w1 := ((wcX aX_0 aR_0 aG_0 aS_0 aP_0 aN_0 aI_0 aT_0 zX_22) ++ ((wcG ci aG_0 aG_1 aG_2 aG_3 aG_4 zG) ++ (wcS ci aS_0 aS_1 zS_35)))) (wn := ((wcX aX_0 aR_0 aG_0 aS_0 aP_0 aN_0 aI_0 aT_0 zX_22) ++ ((wcG ci aG_0 aG_1 aG_2 aG_3 aG_4 zG) ++ ((wcS ci aS_0 aS_1 zS_35) ++ ((wcP ci aP_0 aP_1 aQ zP_5) ++ (wcQ ci aQ zQ_6)))))) ⟨hx, hb, hml, hown, hts⟩ (cwV 0 hts gX6_passYears_X6_passOneYear rfl rfl rfl (by decide +kernel) ⟨Nat.le_of_ble_eq_true rfl, Nat.le_of_ble_eq_true rfl⟩) (c_X6_passOneYear l D ci aX_0 aR_0 aG_0 aS_0 aP_0 aN_0 aI_0 aT_0 aG_1 aG_2 aG_3 aG_4 aS_1 H.size zX_22 zG zS_23 _ hc_36) hK hP hD hS hA [0, 1, 2, 3, 4, 5, 6, 7] [8, 9, 10, 11, 12, 13, 14, 15, 16, 17, 18, 19, 20, 21, 22, 23, 24, 25, 26, 27, 28, 29, 30, 31, 32, 33, 34, 35, 36, 37, 38, 39, 40, 41, 42, 43, 44, 45, 46, 47, 48, 49] [42, 43, 44, 45, 46, 47, 48, 49, 0, 1, 2, 3, 4, 5, 6, 7, 8, 9, 10, 11, 12, 13, 14, 15, 16, 17, 18, 19, 20, 21, 22, 23, 24, 25, 26, 27, 28, 29, 30, 31, 32, 33, 34, 35, 36, 37, 38, 39, 40, 41] rfl rfl rfl (by decide) 0 rfl rfl rfl rfl hl.1 (Nat.le_of_ble_eq_true rfl) dX6_passYears_70 (Nat.zero_le _) (Nat.zero_le _) (fun H locs hP hD hS => ?_)
                have hP : va_P D vwCl ((wcX aX_0 aR_0 aG_0 aS_0 aP_0 aN_0 aI_0 aT_0 zX_22) ++ ((wcG ci aG_0 aG_1 aG_2 aG_3 aG_4 zG) ++ ((wcS ci aS_0 aS_1 zS_35) ++ ((wcP ci aP_0 aP_1 aQ zP_5) ++ (wcQ ci aQ zQ_6))))) H := hP
                have hD : va_D A ((wcX aX_0 aR_0 aG_0 aS_0 aP_0 aN_0 aI_0 aT_0 zX_22) ++ ((wcG ci aG_0 aG_1 aG_2 aG_3 aG_4 zG) ++ ((wcS ci aS_0 aS_1 zS_35) ++ ((wcP ci aP_0 aP_1 aQ zP_5) ++ (wcQ ci aQ zQ_6))))) := hD
                obtain ⟨v3_37, ev3_37⟩ : ∃ y : Int32, y = v3_10 + 1 := ⟨_, rfl⟩
                replace hF := nm_i hF ev3_37
                refine lv_iinc (v := v3_37) (lv' := [(3, .int v3_37), (0, .ref aX_0), (1, .int p1), (2, .int p2)]) hx hb dX6_passYears_73 hl (k := 3) rfl (by rw [ev3_37]; rfl) (by decide) rfl (fun ls hl => ?_)
                refine lv_goto (tgt := 56) hx hb dX6_passYears_76 (by decide) ?_
                exact ih_13 (v3_37, zX_22, zS_35) H locs ls ⟨hF, hP, hD, hS, lv_sub hl [1, 2, 3, 0] rfl⟩
              · intro J_24
                clear hF
                have hF := hv_34
                refine lv_if_eq (tgt := 69) hx hb dX6_passYears_62 (by decide) (fun c_25 => ?_) (fun c_25 => ?_)
                · replace hF := if_i c_25 hF
                  obtain ⟨g_26, g_27⟩ : (zX_11 : XS) = zX_22 ∧ (zS_12 : SS) = zS_23 := by have h9 := Option.some.inj hF; simpa only [Prod.mk.injEq] using h9
                  subst g_26
                  subst g_27
                  exact J_24 H locs ls ⟨hP, hD, hS, lv_sub hl [0, 1, 2, 3] rfl⟩
                · replace hF := if_o c_25 hF
                  refine lv_aload_n hx hb dX6_passYears_65 rfl (lv_at hl 0 rfl) ?_
                  replace hF := bnd hF
                  obtain ⟨q_31, hc_30, hF⟩ := hF
                  obtain ⟨zX_28, ezX_28⟩ : ∃ y : XS, y = q_31.1 := ⟨_, rfl⟩
                  replace hF := nm_i hF ezX_28
                  obtain ⟨zS_29, ezS_29⟩ : ∃ y : SS, y = q_31.2 := ⟨_, rfl⟩
                  replace hF := nm_i hF ezS_29
                  obtain rfl : q_31 = (zX_28, zS_29) := by rw [ezX_28, ezS_29]
                  clear ezX_28
                  clear ezS_29
                  refine cl_Vv (As := []) (rest := []) (wc := ((wcX aX_0 aR_0 aG_0 aS_0 aP_0 aN_0 aI_0 aT_0 zX_11) ++ ((wcG ci aG_0 aG_1 aG_2 aG_3 aG_4 zG) ++ (wcS ci aS_0 aS_1 zS_12)))) (wr := ([8, 9, 10, 11, 12, 13, 14, 15, 16, 17, 18, 19, 20, 21, 22, 23, 24, 25, 26, 27, 28, 29, 30, 31, 32, 33, 34, 35, 36, 37, 38, 39, 40, 41, 42, 43, 44, 45, 46, 47, 48, 49].filterMap (fun i => ((wcX aX_0 aR_0 aG_0 aS_0 aP_0 aN_0 aI_0 aT_0 zX_11) ++ ((wcG ci aG_0 aG_1 aG_2 aG_3 aG_4 zG) ++ ((wcS ci aS_0 aS_1 zS_12) ++ ((wcP ci aP_0 aP_1 aQ zP_5) ++ (wcQ ci aQ zQ_6)))))[i]?))) (w1 := ((wcX aX_0 aR_0 aG_0 aS_0 aP_0 aN_0 aI_0 aT_0 zX_28) ++ ((wcG ci aG_0 aG_1 aG_2 aG_3 aG_4 zG) ++ (wcS ci aS_0 aS_1 zS_29)))) (wn := ((wcX aX_0 aR_0 aG_0 aS_0 aP_0 aN_0 aI_0 aT_0 zX_28) ++ ((wcG ci aG_0 aG_1 aG_2 aG_3 aG_4 zG) ++ ((wcS ci aS_0 aS_1 zS_29) ++ ((wcP ci aP_0 aP_1 aQ zP_5) ++ (wcQ ci aQ zQ_6)))))) ⟨hx, hb, hml, hown, hts⟩ (cwV 0 hts gX6_passYears_X6_sowByDraws rfl rfl rfl (by decide +kernel) ⟨Nat.le_of_ble_eq_true rfl, Nat.le_of_ble_eq_true rfl⟩) (c_X6_sowByDraws l D ci aX_0 aR_0 aG_0 aS_0 aP_0 aN_0 aI_0 aT_0 aG_1 aG_2 aG_3 aG_4 aS_1 H.size zX_11 zG zS_12 _ hc_30) hK hP hD hS hA [0, 1, 2, 3, 4, 5, 6, 7] [8, 9, 10, 11, 12, 13, 14, 15, 16, 17, 18, 19, 20, 21, 22, 23, 24, 25, 26, 27, 28, 29, 30, 31, 32, 33, 34, 35, 36, 37, 38, 39, 40, 41, 42, 43, 44, 45, 46, 47, 48, 49] [42, 43, 44, 45, 46, 47, 48, 49, 0, 1, 2, 3, 4, 5, 6, 7, 8, 9, 10, 11, 12, 13, 14, 15, 16, 17, 18, 19, 20, 21, 22, 23, 24, 25, 26, 27, 28, 29, 30, 31, 32, 33, 34, 35, 36, 37, 38, 39, 40, 41] rfl rfl rfl (by decide) 0 rfl rfl rfl rfl hl.1 (Nat.le_of_ble_eq_true rfl) dX6_passYears_66 (Nat.zero_le _) (Nat.zero_le _) (fun H locs hP hD hS => ?_)
                  have hP : va_P D vwCl ((wcX aX_0 aR_0 aG_0 aS_0 aP_0 aN_0 aI_0 aT_0 zX_28) ++ ((wcG ci aG_0 aG_1 aG_2 aG_3 aG_4 zG) ++ ((wcS ci aS_0 aS_1 zS_29) ++ ((wcP ci aP_0 aP_1 aQ zP_5) ++ (wcQ ci aQ zQ_6))))) H := hP
                  have hD : va_D A ((wcX aX_0 aR_0 aG_0 aS_0 aP_0 aN_0 aI_0 aT_0 zX_28) ++ ((wcG ci aG_0 aG_1 aG_2 aG_3 aG_4 zG) ++ ((wcS ci aS_0 aS_1 zS_29) ++ ((wcP ci aP_0 aP_1 aQ zP_5) ++ (wcQ ci aQ zQ_6))))) := hD
                  obtain ⟨g_32, g_33⟩ : (zX_28 : XS) = zX_22 ∧ (zS_29 : SS) = zS_23 := by have h9 := Option.some.inj hF; simpa only [Prod.mk.injEq] using h9
                  subst g_32
                  subst g_33
                  exact J_24 H locs ls ⟨hP, hD, hS, lv_sub hl [0, 1, 2, 3] rfl⟩
        · replace hF := if_o c_4 hF
          refine lv_ldc (v := (-1000000004)) hx hb hown hk_10 dX6_passYears_40 ?_
          obtain rfl := Option.some.inj hF
          exact W.iret (v := (-1000000004)) hx hb hr (fun t ht hW => ⟨⟨_, (), rfl, rfl, by rw [ht]; exact hP, va_K.moved hW.alike hK, hD⟩, hS.F ht⟩) hS.2.2 dX6_passYears_42
      · replace hF := if_i c_3 hF
        refine lv_ldc (v := (-1000000003)) hx hb hown hk_11 dX6_passYears_24 ?_
        obtain rfl := Option.some.inj hF
        exact W.iret (v := (-1000000003)) hx hb hr (fun t ht hW => ⟨⟨_, (), rfl, rfl, by rw [ht]; exact hP, va_K.moved hW.alike hK, hD⟩, hS.F ht⟩) hS.2.2 dX6_passYears_26
    · replace hF := if_o c_2 hF
      refine lv_ldc (v := (-1000000002)) hx hb hown hk_0 dX6_passYears_11 ?_
      obtain rfl := Option.some.inj hF
      exact W.iret (v := (-1000000002)) hx hb hr (fun t ht hW => ⟨⟨_, (), rfl, rfl, by rw [ht]; exact hP, va_K.moved hW.alike hK, hD⟩, hS.F ht⟩) hS.2.2 dX6_passYears_13
noncomputable def f_X6_year (zX : XS) (zG : GS) (zS : SS) (zP : PS) (zQ : QS) (p1 : Int32) : Option (Int32 × XS × SS × PS × QS) := (f_X6_passYears zX zG zS zP zQ p1 (0 : Int32)).bind fun q_7 => nm q_7.1 fun r_1 => nm q_7.2.1 fun zX_2 => nm q_7.2.2.1 fun zS_3 => nm q_7.2.2.2.1 fun zP_4 => nm q_7.2.2.2.2 fun zQ_5 => some (r_1, zX_2, zS_3, zP_4, zQ_5)
set_option maxHeartbeats 4000000 in
set_option maxRecDepth 100000 in
theorem c_X6_year (l : Launch) (D : va_G) (ci : Nat → ClassId) (aX_0 : Nat) (aR_0 : Nat) (aG_0 : Nat) (aS_0 : Nat) (aP_0 : Nat) (aN_0 : Nat) (aI_0 : Nat) (aT_0 : Nat) (aG_1 : Nat) (aG_2 : Nat) (aG_3 : Nat) (aG_4 : Nat) (aS_1 : Nat) (aP_1 : Nat) (aQ : Nat → Nat) (sz : Nat) (zX : XS) (zG : GS) (zS : SS) (zP : PS) (zQ : QS) (p1 : Int32) (res : Int32 × XS × SS × PS × QS) (hF : f_X6_year zX zG zS zP zQ p1 = some res) : CtI l yX6_year wsX6_year { frames := 6, cells := 0, slots := 0, locals := 132 } [.ref aX_0, .int p1] D ci ((wcX aX_0 aR_0 aG_0 aS_0 aP_0 aN_0 aI_0 aT_0 zX) ++ ((wcG ci aG_0 aG_1 aG_2 aG_3 aG_4 zG) ++ ((wcS ci aS_0 aS_1 zS) ++ ((wcP ci aP_0 aP_1 aQ zP) ++ (wcQ ci aQ zQ))))) sz res.1 ((wcX aX_0 aR_0 aG_0 aS_0 aP_0 aN_0 aI_0 aT_0 res.2.1) ++ ((wcG ci aG_0 aG_1 aG_2 aG_3 aG_4 zG) ++ ((wcS ci aS_0 aS_1 res.2.2.1) ++ ((wcP ci aP_0 aP_1 aQ res.2.2.2.1) ++ (wcQ ci aQ res.2.2.2.2))))) := by
  refine Met.ofW (cc := cX6_year) (maxL := 2) (ret := (some .int)) (by decide) rfl ?_
  intro p e s m args below meth c s₁ B hml hv
  obtain ⟨rfl, hsz, hP, hK, hD0⟩ := hv
  have hx := B.exec
  have hb := B.bytes
  have hr := B.returns
  have hts := atoms_spec (ws := wsX6_year) B.pre
  have hown : s.vm.findClass RX6 = some m.cls := findClass_of_methodNamed B.named
  have hlocks := B.notSynchronized
  subst hsz
  have hD := hD0.self (sz := s.heap.size)
  generalize hAe : va_A ((wcX aX_0 aR_0 aG_0 aS_0 aP_0 aN_0 aI_0 aT_0 zX) ++ ((wcG ci aG_0 aG_1 aG_2 aG_3 aG_4 zG) ++ ((wcS ci aS_0 aS_1 zS) ++ ((wcP ci aP_0 aP_1 aQ zP) ++ (wcQ ci aQ zQ))))) s.heap.size = A at hD ⊢
  have hA : ∀ q : Nat, s.heap.size ≤ q → A q := fun q h => by rw [← hAe]; exact Or.inr h
  clear hD0 hAe
  have hl := lv_entry ([.ref aX_0, .int p1]) (n := 2) (Nat.le_of_ble_eq_true rfl)
  rw [lg_entry_eq]
  generalize (lg_sl ([.ref aX_0, .int p1]) ++ List.replicate (2 - (lg_sl ([.ref aX_0, .int p1])).length) Slot.unset).toArray = ls at hl ⊢
  have hl : lv_has ls 2 [(0, .ref aX_0), (1, .int p1)] := hl
  have hP : va_P D vwCl ((wcX aX_0 aR_0 aG_0 aS_0 aP_0 aN_0 aI_0 aT_0 zX) ++ ((wcG ci aG_0 aG_1 aG_2 aG_3 aG_4 zG) ++ ((wcS ci aS_0 aS_1 zS) ++ ((wcP ci aP_0 aP_1 aQ zP) ++ (wcQ ci aQ zQ))))) s.heap := hP
  generalize hH0 : s.heap = H at hP ⊢
  have hS : va_S A s.heap H [] := by rw [← hH0]; exact va_S.rf
  clear hH0
  generalize ([] : List Loc) = locs at hS ⊢
  unfold f_X6_year at hF
  refine lv_aload_n hx hb dX6_year_0 rfl (lv_at hl 0 rfl) ?_
  refine lv_iload_n hx hb dX6_year_1 rfl (lv_at hl 1 rfl) ?_
  refine lv_iconst (v := 0) hx hb dX6_year_2 (by decide) ?_
  replace hF := bnd hF
  obtain ⟨q_7, hc_6, hF⟩ := hF
  obtain ⟨r_1, er_1⟩ : ∃ y : Int32, y = q_7.1 := ⟨_, rfl⟩
  replace hF := nm_i hF er_1
  obtain ⟨zX_2, ezX_2⟩ : ∃ y : XS, y = q_7.2.1 := ⟨_, rfl⟩
  replace hF := nm_i hF ezX_2
  obtain ⟨zS_3, ezS_3⟩ : ∃ y : SS, y = q_7.2.2.1 := ⟨_, rfl⟩
  replace hF := nm_i hF ezS_3
  obtain ⟨zP_4, ezP_4⟩ : ∃ y : PS, y = q_7.2.2.2.1 := ⟨_, rfl⟩
  replace hF := nm_i hF ezP_4
  obtain ⟨zQ_5, ezQ_5⟩ : ∃ y : QS, y = q_7.2.2.2.2 := ⟨_, rfl⟩
  replace hF := nm_i hF ezQ_5
  obtain rfl : q_7 = (r_1, zX_2, zS_3, zP_4, zQ_5) := by rw [er_1, ezX_2, ezS_3, ezP_4, ezQ_5]
  clear er_1
  clear ezX_2
  clear ezS_3
  clear ezP_4
  clear ezQ_5
  refine cl_Vi0 (As := [.int p1, .int 0]) (rest := []) ⟨hx, hb, hml, hown, hts⟩ (cwV 2 hts gX6_year_X6_passYears rfl rfl rfl (by decide +kernel) ⟨Nat.le_of_ble_eq_true rfl, Nat.le_of_ble_eq_true rfl⟩) (c_X6_passYears l D ci aX_0 aR_0 aG_0 aS_0 aP_0 aN_0 aI_0 aT_0 aG_1 aG_2 aG_3 aG_4 aS_1 aP_1 aQ H.size zX zG zS zP zQ p1 (0 : Int32) _ hc_6) hK hP hD hS hA 0 rfl rfl rfl rfl hl.1 (Nat.le_of_ble_eq_true rfl) dX6_year_3 (Nat.zero_le _) (Nat.zero_le _) (fun H locs hP hD hS => ?_)
  have hP : va_P D vwCl ((wcX aX_0 aR_0 aG_0 aS_0 aP_0 aN_0 aI_0 aT_0 zX_2) ++ ((wcG ci aG_0 aG_1 aG_2 aG_3 aG_4 zG) ++ ((wcS ci aS_0 aS_1 zS_3) ++ ((wcP ci aP_0 aP_1 aQ zP_4) ++ (wcQ ci aQ zQ_5))))) H := hP
  have hD : va_D A ((wcX aX_0 aR_0 aG_0 aS_0 aP_0 aN_0 aI_0 aT_0 zX_2) ++ ((wcG ci aG_0 aG_1 aG_2 aG_3 aG_4 zG) ++ ((wcS ci aS_0 aS_1 zS_3) ++ ((wcP ci aP_0 aP_1 aQ zP_4) ++ (wcQ ci aQ zQ_5))))) := hD
  obtain rfl := Option.some.inj hF
  exact W.iret (v := r_1) hx hb hr (fun t ht hW => ⟨⟨_, (), rfl, rfl, by rw [ht]; exact hP, va_K.moved hW.alike hK, hD⟩, hS.F ht⟩) hS.2.2 dX6_year_6
noncomputable def f_X6_drift (zX : XS) (zG : GS) (zS : SS) (zP : PS) (zQ : QS) (p1 : Int32) : Option (Int32 × XS × SS × PS × QS) := (f_X6_passYears zX zG zS zP zQ p1 (1 : Int32)).bind fun q_7 => nm q_7.1 fun r_1 => nm q_7.2.1 fun zX_2 => nm q_7.2.2.1 fun zS_3 => nm q_7.2.2.2.1 fun zP_4 => nm q_7.2.2.2.2 fun zQ_5 => some (r_1, zX_2, zS_3, zP_4, zQ_5)
set_option maxHeartbeats 4000000 in
set_option maxRecDepth 100000 in
theorem c_X6_drift (l : Launch) (D : va_G) (ci : Nat → ClassId) (aX_0 : Nat) (aR_0 : Nat) (aG_0 : Nat) (aS_0 : Nat) (aP_0 : Nat) (aN_0 : Nat) (aI_0 : Nat) (aT_0 : Nat) (aG_1 : Nat) (aG_2 : Nat) (aG_3 : Nat) (aG_4 : Nat) (aS_1 : Nat) (aP_1 : Nat) (aQ : Nat → Nat) (sz : Nat) (zX : XS) (zG : GS) (zS : SS) (zP : PS) (zQ : QS) (p1 : Int32) (res : Int32 × XS × SS × PS × QS) (hF : f_X6_drift zX zG zS zP zQ p1 = some res) : CtI l yX6_drift wsX6_drift { frames := 6, cells := 0, slots := 0, locals := 132 } [.ref aX_0, .int p1] D ci ((wcX aX_0 aR_0 aG_0 aS_0 aP_0 aN_0 aI_0 aT_0 zX) ++ ((wcG ci aG_0 aG_1 aG_2 aG_3 aG_4 zG) ++ ((wcS ci aS_0 aS_1 zS) ++ ((wcP ci aP_0 aP_1 aQ zP) ++ (wcQ ci aQ zQ))))) sz res.1 ((wcX aX_0 aR_0 aG_0 aS_0 aP_0 aN_0 aI_0 aT_0 res.2.1) ++ ((wcG ci aG_0 aG_1 aG_2 aG_3 aG_4 zG) ++ ((wcS ci aS_0 aS_1 res.2.2.1) ++ ((wcP ci aP_0 aP_1 aQ res.2.2.2.1) ++ (wcQ ci aQ res.2.2.2.2))))) := by
  refine Met.ofW (cc := cX6_drift) (maxL := 2) (ret := (some .int)) (by decide) rfl ?_
  intro p e s m args below meth c s₁ B hml hv
  obtain ⟨rfl, hsz, hP, hK, hD0⟩ := hv
  have hx := B.exec
  have hb := B.bytes
  have hr := B.returns
  have hts := atoms_spec (ws := wsX6_drift) B.pre
  have hown : s.vm.findClass RX6 = some m.cls := findClass_of_methodNamed B.named
  have hlocks := B.notSynchronized
  subst hsz
  have hD := hD0.self (sz := s.heap.size)
  generalize hAe : va_A ((wcX aX_0 aR_0 aG_0 aS_0 aP_0 aN_0 aI_0 aT_0 zX) ++ ((wcG ci aG_0 aG_1 aG_2 aG_3 aG_4 zG) ++ ((wcS ci aS_0 aS_1 zS) ++ ((wcP ci aP_0 aP_1 aQ zP) ++ (wcQ ci aQ zQ))))) s.heap.size = A at hD ⊢
  have hA : ∀ q : Nat, s.heap.size ≤ q → A q := fun q h => by rw [← hAe]; exact Or.inr h
  clear hD0 hAe
  have hl := lv_entry ([.ref aX_0, .int p1]) (n := 2) (Nat.le_of_ble_eq_true rfl)
  rw [lg_entry_eq]
  generalize (lg_sl ([.ref aX_0, .int p1]) ++ List.replicate (2 - (lg_sl ([.ref aX_0, .int p1])).length) Slot.unset).toArray = ls at hl ⊢
  have hl : lv_has ls 2 [(0, .ref aX_0), (1, .int p1)] := hl
  have hP : va_P D vwCl ((wcX aX_0 aR_0 aG_0 aS_0 aP_0 aN_0 aI_0 aT_0 zX) ++ ((wcG ci aG_0 aG_1 aG_2 aG_3 aG_4 zG) ++ ((wcS ci aS_0 aS_1 zS) ++ ((wcP ci aP_0 aP_1 aQ zP) ++ (wcQ ci aQ zQ))))) s.heap := hP
  generalize hH0 : s.heap = H at hP ⊢
  have hS : va_S A s.heap H [] := by rw [← hH0]; exact va_S.rf
  clear hH0
  generalize ([] : List Loc) = locs at hS ⊢
  unfold f_X6_drift at hF
  refine lv_aload_n hx hb dX6_drift_0 rfl (lv_at hl 0 rfl) ?_
  refine lv_iload_n hx hb dX6_drift_1 rfl (lv_at hl 1 rfl) ?_
  refine lv_iconst (v := 1) hx hb dX6_drift_2 (by decide) ?_
  replace hF := bnd hF
  obtain ⟨q_7, hc_6, hF⟩ := hF
  obtain ⟨r_1, er_1⟩ : ∃ y : Int32, y = q_7.1 := ⟨_, rfl⟩
  replace hF := nm_i hF er_1
  obtain ⟨zX_2, ezX_2⟩ : ∃ y : XS, y = q_7.2.1 := ⟨_, rfl⟩
  replace hF := nm_i hF ezX_2
  obtain ⟨zS_3, ezS_3⟩ : ∃ y : SS, y = q_7.2.2.1 := ⟨_, rfl⟩
  replace hF := nm_i hF ezS_3
  obtain ⟨zP_4, ezP_4⟩ : ∃ y : PS, y = q_7.2.2.2.1 := ⟨_, rfl⟩
  replace hF := nm_i hF ezP_4
  obtain ⟨zQ_5, ezQ_5⟩ : ∃ y : QS, y = q_7.2.2.2.2 := ⟨_, rfl⟩
  replace hF := nm_i hF ezQ_5
  obtain rfl : q_7 = (r_1, zX_2, zS_3, zP_4, zQ_5) := by rw [er_1, ezX_2, ezS_3, ezP_4, ezQ_5]
  clear er_1
  clear ezX_2
  clear ezS_3
  clear ezP_4
  clear ezQ_5
  refine cl_Vi0 (As := [.int p1, .int 1]) (rest := []) ⟨hx, hb, hml, hown, hts⟩ (cwV 2 hts gX6_drift_X6_passYears rfl rfl rfl (by decide +kernel) ⟨Nat.le_of_ble_eq_true rfl, Nat.le_of_ble_eq_true rfl⟩) (c_X6_passYears l D ci aX_0 aR_0 aG_0 aS_0 aP_0 aN_0 aI_0 aT_0 aG_1 aG_2 aG_3 aG_4 aS_1 aP_1 aQ H.size zX zG zS zP zQ p1 (1 : Int32) _ hc_6) hK hP hD hS hA 0 rfl rfl rfl rfl hl.1 (Nat.le_of_ble_eq_true rfl) dX6_drift_3 (Nat.zero_le _) (Nat.zero_le _) (fun H locs hP hD hS => ?_)
  have hP : va_P D vwCl ((wcX aX_0 aR_0 aG_0 aS_0 aP_0 aN_0 aI_0 aT_0 zX_2) ++ ((wcG ci aG_0 aG_1 aG_2 aG_3 aG_4 zG) ++ ((wcS ci aS_0 aS_1 zS_3) ++ ((wcP ci aP_0 aP_1 aQ zP_4) ++ (wcQ ci aQ zQ_5))))) H := hP
  have hD : va_D A ((wcX aX_0 aR_0 aG_0 aS_0 aP_0 aN_0 aI_0 aT_0 zX_2) ++ ((wcG ci aG_0 aG_1 aG_2 aG_3 aG_4 zG) ++ ((wcS ci aS_0 aS_1 zS_3) ++ ((wcP ci aP_0 aP_1 aQ zP_4) ++ (wcQ ci aQ zQ_5))))) := hD
  obtain rfl := Option.some.inj hF
  exact W.iret (v := r_1) hx hb hr (fun t ht hW => ⟨⟨_, (), rfl, rfl, by rw [ht]; exact hP, va_K.moved hW.alike hK, hD⟩, hS.F ht⟩) hS.2.2 dX6_drift_6
noncomputable def f_X6_undo (zX : XS) (zS : SS) (zP : PS) (zQ : QS) : Option (Int32 × SS × PS) := if (zP 1) = 0 then (some ((-1000000003 : Int32), zS, zP)) else ((f_X3_recall zS zP zQ).bind fun q_5 => nm q_5.1 fun zS_2 => nm q_5.2 fun zP_3 => some ((zP_3 1), zS_2, zP_3))
set_option maxHeartbeats 4000000 in
set_option maxRecDepth 100000 in
theorem c_X6_undo (l : Launch) (D : va_G) (ci : Nat → ClassId) (aX_0 : Nat) (aR_0 : Nat) (aG_0 : Nat) (aS_0 : Nat) (aP_0 : Nat) (aN_0 : Nat) (aI_0 : Nat) (aT_0 : Nat) (aS_1 : Nat) (aP_1 : Nat) (aQ : Nat → Nat) (sz : Nat) (zX : XS) (zS : SS) (zP : PS) (zQ : QS) (res : Int32 × SS × PS) (hF : f_X6_undo zX zS zP zQ = some res) : CtI l yX6_undo wsX6_undo { frames := 3, cells := 0, slots := 0, locals := 82 } [.ref aX_0] D ci ((wcX aX_0 aR_0 aG_0 aS_0 aP_0 aN_0 aI_0 aT_0 zX) ++ ((wcS ci aS_0 aS_1 zS) ++ ((wcP ci aP_0 aP_1 aQ zP) ++ (wcQ ci aQ zQ)))) sz res.1 ((wcX aX_0 aR_0 aG_0 aS_0 aP_0 aN_0 aI_0 aT_0 zX) ++ ((wcS ci aS_0 aS_1 res.2.1) ++ ((wcP ci aP_0 aP_1 aQ res.2.2) ++ (wcQ ci aQ zQ)))) := by
  refine Met.ofW (cc := cX6_undo) (maxL := 1) (ret := (some .int)) (by decide) rfl ?_
  intro p e s m args below meth c s₁ B hml hv
  obtain ⟨rfl, hsz, hP, hK, hD0⟩ := hv
  have hx := B.exec
  have hb := B.bytes
  have hr := B.returns
  have hts := atoms_spec (ws := wsX6_undo) B.pre
  have hown : s.vm.findClass RX6 = some m.cls := findClass_of_methodNamed B.named
  have hlocks := B.notSynchronized
  subst hsz
  have hD := hD0.self (sz := s.heap.size)
  generalize hAe : va_A ((wcX aX_0 aR_0 aG_0 aS_0 aP_0 aN_0 aI_0 aT_0 zX) ++ ((wcS ci aS_0 aS_1 zS) ++ ((wcP ci aP_0 aP_1 aQ zP) ++ (wcQ ci aQ zQ)))) s.heap.size = A at hD ⊢
  have hA : ∀ q : Nat, s.heap.size ≤ q → A q := fun q h => by rw [← hAe]; exact Or.inr h
  clear hD0 hAe
  have hl := lv_entry ([.ref aX_0]) (n := 1) (Nat.le_of_ble_eq_true rfl)
  rw [lg_entry_eq]
  generalize (lg_sl ([.ref aX_0]) ++ List.replicate (1 - (lg_sl ([.ref aX_0])).length) Slot.unset).toArray = ls at hl ⊢
  have hl : lv_has ls 1 [(0, .ref aX_0)] := hl
  have hP : va_P D vwCl ((wcX aX_0 aR_0 aG_0 aS_0 aP_0 aN_0 aI_0 aT_0 zX) ++ ((wcS ci aS_0 aS_1 zS) ++ ((wcP ci aP_0 aP_1 aQ zP) ++ (wcQ ci aQ zQ)))) s.heap := hP
  generalize hH0 : s.heap = H at hP ⊢
  have hS : va_S A s.heap H [] := by rw [← hH0]; exact va_S.rf
  clear hH0
  generalize ([] : List Loc) = locs at hS ⊢
  have hk_0 := hts (.fieldLink RX6 33 "HedgeWar" "past" "LHedgeWar$Past;") (by decide +kernel)
  have hin_RX6 : ∀ w ∈ wsX60, w ∈ wsX6_undo := by decide +kernel
  have hk_2 := hts (.fieldLink RX6 140 "HedgeWar$Past" "count" "I") (by decide +kernel)
  have hin_RX3 : ∀ w ∈ wsX30, w ∈ wsX6_undo := by decide +kernel
  have hk_4 := hts (.fieldLink RX6 26 "HedgeWar" "now" "LHedgeWar$Stand;") (by decide +kernel)
  have hk_5 := hts (.constant RX6 204 (-1000000003)) (by decide +kernel)
  unfold f_X6_undo at hF
  refine lv_aload_n hx hb dX6_undo_0 rfl (lv_at hl 0 rfl) ?_
  refine va_get (D := D) (ci := 6) (v := .ref aP_0) (C := RX6) (T := TX6) (N := 9) hx hb hts hin_RX6 hown hK hP 0 rfl rfl 3 (by decide) hk_0 (fun _ h9 => h9) rfl dX6_undo_1 ?_
  refine va_get (D := D) (ci := 3) (v := .int (zP 1)) (C := RX3) (T := TX3) (N := 3) hx hb hts hin_RX3 hown hK hP 3 rfl rfl 1 (by decide) hk_2 (fun _ h9 => h9) rfl dX6_undo_4 ?_
  refine lv_if_ne (tgt := 13) hx hb dX6_undo_7 (by decide) (fun c_1 => ?_) (fun c_1 => ?_)
  · replace hF := if_o c_1 hF
    refine lv_aload_n hx hb dX6_undo_13 rfl (lv_at hl 0 rfl) ?_
    refine va_get (D := D) (ci := 6) (v := .ref aP_0) (C := RX6) (T := TX6) (N := 9) hx hb hts hin_RX6 hown hK hP 0 rfl rfl 3 (by decide) hk_0 (fun _ h9 => h9) rfl dX6_undo_14 ?_
    refine lv_aload_n hx hb dX6_undo_17 rfl (lv_at hl 0 rfl) ?_
    refine va_get (D := D) (ci := 6) (v := .ref aS_0) (C := RX6) (T := TX6) (N := 9) hx hb hts hin_RX6 hown hK hP 0 rfl rfl 2 (by decide) hk_4 (fun _ h9 => h9) rfl dX6_undo_18 ?_
    replace hF := bnd hF
    obtain ⟨q_5, hc_4, hF⟩ := hF
    obtain ⟨zS_2, ezS_2⟩ : ∃ y : SS, y = q_5.1 := ⟨_, rfl⟩
    replace hF := nm_i hF ezS_2
    obtain ⟨zP_3, ezP_3⟩ : ∃ y : PS, y = q_5.2 := ⟨_, rfl⟩
    replace hF := nm_i hF ezP_3
    obtain rfl : q_5 = (zS_2, zP_3) := by rw [ezS_2, ezP_3]
    clear ezS_2
    clear ezP_3
    refine cl_Vv (As := [.ref aS_0]) (rest := []) (wc := ((wcS ci aS_0 aS_1 zS) ++ ((wcP ci aP_0 aP_1 aQ zP) ++ (wcQ ci aQ zQ)))) (wr := ([0].filterMap (fun i => ((wcX aX_0 aR_0 aG_0 aS_0 aP_0 aN_0 aI_0 aT_0 zX) ++ ((wcS ci aS_0 aS_1 zS) ++ ((wcP ci aP_0 aP_1 aQ zP) ++ (wcQ ci aQ zQ))))[i]?))) (w1 := ((wcS ci aS_0 aS_1 zS_2) ++ ((wcP ci aP_0 aP_1 aQ zP_3) ++ (wcQ ci aQ zQ)))) (wn := ((wcX aX_0 aR_0 aG_0 aS_0 aP_0 aN_0 aI_0 aT_0 zX) ++ ((wcS ci aS_0 aS_1 zS_2) ++ ((wcP ci aP_0 aP_1 aQ zP_3) ++ (wcQ ci aQ zQ))))) ⟨hx, hb, hml, hown, hts⟩ (cwV 1 hts gX6_undo_X3_recall rfl rfl rfl (by decide +kernel) ⟨Nat.le_of_ble_eq_true rfl, Nat.le_of_ble_eq_true rfl⟩) (c_X3_recall l D ci aS_0 aS_1 aP_0 aP_1 aQ H.size zS zP zQ _ hc_4) hK hP hD hS hA [1, 2, 3, 4, 5, 6, 7, 8, 9, 10, 11, 12, 13, 14, 15, 16, 17, 18, 19, 20, 21, 22, 23, 24, 25, 26, 27, 28, 29, 30, 31, 32, 33, 34, 35, 36, 37, 38, 39, 40, 41, 42, 43, 44] [0] [0, 1, 2, 3, 4, 5, 6, 7, 8, 9, 10, 11, 12, 13, 14, 15, 16, 17, 18, 19, 20, 21, 22, 23, 24, 25, 26, 27, 28, 29, 30, 31, 32, 33, 34, 35, 36, 37, 38, 39, 40, 41, 42, 43, 44] rfl rfl rfl (by decide) 2 rfl rfl rfl rfl hl.1 (Nat.le_of_ble_eq_true rfl) dX6_undo_21 (Nat.zero_le _) (Nat.zero_le _) (fun H locs hP hD hS => ?_)
    have hP : va_P D vwCl ((wcX aX_0 aR_0 aG_0 aS_0 aP_0 aN_0 aI_0 aT_0 zX) ++ ((wcS ci aS_0 aS_1 zS_2) ++ ((wcP ci aP_0 aP_1 aQ zP_3) ++ (wcQ ci aQ zQ)))) H := hP
    have hD : va_D A ((wcX aX_0 aR_0 aG_0 aS_0 aP_0 aN_0 aI_0 aT_0 zX) ++ ((wcS ci aS_0 aS_1 zS_2) ++ ((wcP ci aP_0 aP_1 aQ zP_3) ++ (wcQ ci aQ zQ)))) := hD
    refine lv_aload_n hx hb dX6_undo_24 rfl (lv_at hl 0 rfl) ?_
    refine va_get (D := D) (ci := 6) (v := .ref aP_0) (C := RX6) (T := TX6) (N := 9) hx hb hts hin_RX6 hown hK hP 0 rfl rfl 3 (by decide) hk_0 (fun _ h9 => h9) rfl dX6_undo_25 ?_
    refine va_get (D := D) (ci := 3) (v := .int (zP_3 1)) (C := RX3) (T := TX3) (N := 3) hx hb hts hin_RX3 hown hK hP 3 rfl rfl 1 (by decide) hk_2 (fun _ h9 => h9) rfl dX6_undo_28 ?_
    obtain rfl := Option.some.inj hF
    exact W.iret (v := (zP_3 1)) hx hb hr (fun t ht hW => ⟨⟨_, (), rfl, rfl, by rw [ht]; exact hP, va_K.moved hW.alike hK, hD⟩, hS.F ht⟩) hS.2.2 dX6_undo_31
  · replace hF := if_i c_1 hF
    refine lv_ldc (v := (-1000000003)) hx hb hown hk_5 dX6_undo_10 ?_
    obtain rfl := Option.some.inj hF
    exact W.iret (v := (-1000000003)) hx hb hr (fun t ht hW => ⟨⟨_, (), rfl, rfl, by rw [ht]; exact hP, va_K.moved hW.alike hK, hD⟩, hS.F ht⟩) hS.2.2 dX6_undo_12

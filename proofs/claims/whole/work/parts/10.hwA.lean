noncomputable def f_X6_isEstate (p0 : Int32) : Option (Int32) := if p0 = 0 then (some (1 : Int32)) else (if p0 = 1 then (some (1 : Int32)) else (some (0 : Int32)))
set_option maxHeartbeats 4000000 in
set_option maxRecDepth 100000 in
theorem c_X6_isEstate (l : Launch) (D : va_G) (ci : Nat → ClassId) (sz : Nat) (p0 : Int32) (res : Int32) (hF : f_X6_isEstate p0 = some res) : CtI l yX6_isEstate wsX6_isEstate { frames := 0, cells := 0, slots := 0, locals := 0 } [.int p0] D ci [] sz res [] := by
  refine Met.ofW (cc := cX6_isEstate) (maxL := 1) (ret := (some .boolean)) (by decide) rfl ?_
  intro p e s m args below meth c s₁ B hml hv
  obtain ⟨rfl, hsz, hP, hK, hD0⟩ := hv
  have hx := B.exec
  have hb := B.bytes
  have hr := B.returns
  have hts := atoms_spec (ws := wsX6_isEstate) B.pre
  have hown : s.vm.findClass RX6 = some m.cls := findClass_of_methodNamed B.named
  have hlocks := B.notSynchronized
  subst hsz
  have hD := hD0.self (sz := s.heap.size)
  generalize hAe : va_A [] s.heap.size = A at hD ⊢
  have hA : ∀ q : Nat, s.heap.size ≤ q → A q := fun q h => by rw [← hAe]; exact Or.inr h
  clear hD0 hAe
  have hl := lv_entry ([.int p0]) (n := 1) (Nat.le_of_ble_eq_true rfl)
  rw [lg_entry_eq]
  generalize (lg_sl ([.int p0]) ++ List.replicate (1 - (lg_sl ([.int p0])).length) Slot.unset).toArray = ls at hl ⊢
  have hl : lv_has ls 1 [(0, .int p0)] := hl
  have hP : va_P D vwCl [] s.heap := hP
  generalize hH0 : s.heap = H at hP ⊢
  have hS : va_S A s.heap H [] := by rw [← hH0]; exact va_S.rf
  clear hH0
  generalize ([] : List Loc) = locs at hS ⊢
  unfold f_X6_isEstate at hF
  refine lv_iload_n hx hb dX6_isEstate_0 rfl (lv_at hl 0 rfl) ?_
  refine lv_if_eq (tgt := 9) hx hb dX6_isEstate_1 (by decide) (fun c_1 => ?_) (fun c_1 => ?_)
  · replace hF := if_i c_1 hF
    refine lv_iconst (v := 1) hx hb dX6_isEstate_9 (by decide) ?_
    refine lv_goto (tgt := 14) hx hb dX6_isEstate_10 (by decide) ?_
    obtain rfl := Option.some.inj hF
    exact W.zret (v := 1) (ty := .boolean) hx hb hr rfl (fun t ht hW => ⟨⟨_, (), rfl, rfl, by rw [ht]; exact hP, va_K.moved hW.alike hK, hD⟩, hS.F ht⟩) hS.2.2 dX6_isEstate_14
  · replace hF := if_o c_1 hF
    refine lv_iload_n hx hb dX6_isEstate_4 rfl (lv_at hl 0 rfl) ?_
    refine lv_iconst (v := 1) hx hb dX6_isEstate_5 (by decide) ?_
    refine lv_icmp_ne (tgt := 13) hx hb dX6_isEstate_6 (by decide) (fun c_2 => ?_) (fun c_2 => ?_)
    · replace hF := if_o c_2 hF
      refine lv_iconst (v := 0) hx hb dX6_isEstate_13 (by decide) ?_
      obtain rfl := Option.some.inj hF
      exact W.zret (v := 0) (ty := .boolean) hx hb hr rfl (fun t ht hW => ⟨⟨_, (), rfl, rfl, by rw [ht]; exact hP, va_K.moved hW.alike hK, hD⟩, hS.F ht⟩) hS.2.2 dX6_isEstate_14
    · replace hF := if_i c_2 hF
      refine lv_iconst (v := 1) hx hb dX6_isEstate_9 (by decide) ?_
      refine lv_goto (tgt := 14) hx hb dX6_isEstate_10 (by decide) ?_
      obtain rfl := Option.some.inj hF
      exact W.zret (v := 1) (ty := .boolean) hx hb hr rfl (fun t ht hW => ⟨⟨_, (), rfl, rfl, by rw [ht]; exact hP, va_K.moved hW.alike hK, hD⟩, hS.F ht⟩) hS.2.2 dX6_isEstate_14
noncomputable def f_X6_oneIf (p0 : Int32) : Option (Int32) := if p0 = 0 then (some (0 : Int32)) else (some (1 : Int32))
set_option maxHeartbeats 4000000 in
set_option maxRecDepth 100000 in
theorem c_X6_oneIf (l : Launch) (D : va_G) (ci : Nat → ClassId) (sz : Nat) (p0 : Int32) (res : Int32) (hF : f_X6_oneIf p0 = some res) : CtI l yX6_oneIf wsX6_oneIf { frames := 0, cells := 0, slots := 0, locals := 0 } [.int p0] D ci [] sz res [] := by
  refine Met.ofW (cc := cX6_oneIf) (maxL := 1) (ret := (some .int)) (by decide) rfl ?_
  intro p e s m args below meth c s₁ B hml hv
  obtain ⟨rfl, hsz, hP, hK, hD0⟩ := hv
  have hx := B.exec
  have hb := B.bytes
  have hr := B.returns
  have hts := atoms_spec (ws := wsX6_oneIf) B.pre
  have hown : s.vm.findClass RX6 = some m.cls := findClass_of_methodNamed B.named
  have hlocks := B.notSynchronized
  subst hsz
  have hD := hD0.self (sz := s.heap.size)
  generalize hAe : va_A [] s.heap.size = A at hD ⊢
  have hA : ∀ q : Nat, s.heap.size ≤ q → A q := fun q h => by rw [← hAe]; exact Or.inr h
  clear hD0 hAe
  have hl := lv_entry ([.int p0]) (n := 1) (Nat.le_of_ble_eq_true rfl)
  rw [lg_entry_eq]
  generalize (lg_sl ([.int p0]) ++ List.replicate (1 - (lg_sl ([.int p0])).length) Slot.unset).toArray = ls at hl ⊢
  have hl : lv_has ls 1 [(0, .int p0)] := hl
  have hP : va_P D vwCl [] s.heap := hP
  generalize hH0 : s.heap = H at hP ⊢
  have hS : va_S A s.heap H [] := by rw [← hH0]; exact va_S.rf
  clear hH0
  generalize ([] : List Loc) = locs at hS ⊢
  unfold f_X6_oneIf at hF
  refine lv_iload_n hx hb dX6_oneIf_0 rfl (lv_at hl 0 rfl) ?_
  refine lv_if_eq (tgt := 8) hx hb dX6_oneIf_1 (by decide) (fun c_1 => ?_) (fun c_1 => ?_)
  · replace hF := if_i c_1 hF
    refine lv_iconst (v := 0) hx hb dX6_oneIf_8 (by decide) ?_
    obtain rfl := Option.some.inj hF
    exact W.iret (v := 0) hx hb hr (fun t ht hW => ⟨⟨_, (), rfl, rfl, by rw [ht]; exact hP, va_K.moved hW.alike hK, hD⟩, hS.F ht⟩) hS.2.2 dX6_oneIf_9
  · replace hF := if_o c_1 hF
    refine lv_iconst (v := 1) hx hb dX6_oneIf_4 (by decide) ?_
    refine lv_goto (tgt := 9) hx hb dX6_oneIf_5 (by decide) ?_
    obtain rfl := Option.some.inj hF
    exact W.iret (v := 1) hx hb hr (fun t ht hW => ⟨⟨_, (), rfl, rfl, by rw [ht]; exact hP, va_K.moved hW.alike hK, hD⟩, hS.F ht⟩) hS.2.2 dX6_oneIf_9
noncomputable def f_X6_mayPlant (zX : XS) (zG : GS) (zS : SS) (p1 : Int64) : Option (Int32) := if (lg_cmp (((zS.1 0) ||| zG.2.1) &&& p1) 0) = 0 then (some (1 : Int32)) else (some (0 : Int32))
set_option maxHeartbeats 4000000 in
set_option maxRecDepth 100000 in
theorem c_X6_mayPlant (l : Launch) (D : va_G) (ci : Nat → ClassId) (aX_0 : Nat) (aR_0 : Nat) (aG_0 : Nat) (aS_0 : Nat) (aP_0 : Nat) (aN_0 : Nat) (aI_0 : Nat) (aT_0 : Nat) (aG_1 : Nat) (aG_2 : Nat) (aG_3 : Nat) (aG_4 : Nat) (aS_1 : Nat) (sz : Nat) (zX : XS) (zG : GS) (zS : SS) (p1 : Int64) (res : Int32) (hF : f_X6_mayPlant zX zG zS p1 = some res) : CtI l yX6_mayPlant wsX6_mayPlant { frames := 0, cells := 0, slots := 0, locals := 0 } [.ref aX_0, .long p1] D ci ((wcX aX_0 aR_0 aG_0 aS_0 aP_0 aN_0 aI_0 aT_0 zX) ++ ((wcG ci aG_0 aG_1 aG_2 aG_3 aG_4 zG) ++ (wcS ci aS_0 aS_1 zS))) sz res ((wcX aX_0 aR_0 aG_0 aS_0 aP_0 aN_0 aI_0 aT_0 zX) ++ ((wcG ci aG_0 aG_1 aG_2 aG_3 aG_4 zG) ++ (wcS ci aS_0 aS_1 zS))) := by
  refine Met.ofW (cc := cX6_mayPlant) (maxL := 3) (ret := (some .boolean)) (by decide) rfl ?_
  intro p e s m args below meth c s₁ B hml hv
  obtain ⟨rfl, hsz, hP, hK, hD0⟩ := hv
  have hx := B.exec
  have hb := B.bytes
  have hr := B.returns
  have hts := atoms_spec (ws := wsX6_mayPlant) B.pre
  have hown : s.vm.findClass RX6 = some m.cls := findClass_of_methodNamed B.named
  have hlocks := B.notSynchronized
  subst hsz
  have hD := hD0.self (sz := s.heap.size)
  generalize hAe : va_A ((wcX aX_0 aR_0 aG_0 aS_0 aP_0 aN_0 aI_0 aT_0 zX) ++ ((wcG ci aG_0 aG_1 aG_2 aG_3 aG_4 zG) ++ (wcS ci aS_0 aS_1 zS))) s.heap.size = A at hD ⊢
  have hA : ∀ q : Nat, s.heap.size ≤ q → A q := fun q h => by rw [← hAe]; exact Or.inr h
  clear hD0 hAe
  have hl := lv_entry ([.ref aX_0, .long p1]) (n := 3) (Nat.le_of_ble_eq_true rfl)
  rw [lg_entry_eq]
  generalize (lg_sl ([.ref aX_0, .long p1]) ++ List.replicate (3 - (lg_sl ([.ref aX_0, .long p1])).length) Slot.unset).toArray = ls at hl ⊢
  have hl : lv_has ls 3 [(0, .ref aX_0), (1, .long p1)] := hl
  have hP : va_P D vwCl ((wcX aX_0 aR_0 aG_0 aS_0 aP_0 aN_0 aI_0 aT_0 zX) ++ ((wcG ci aG_0 aG_1 aG_2 aG_3 aG_4 zG) ++ (wcS ci aS_0 aS_1 zS))) s.heap := hP
  generalize hH0 : s.heap = H at hP ⊢
  have hS : va_S A s.heap H [] := by rw [← hH0]; exact va_S.rf
  clear hH0
  generalize ([] : List Loc) = locs at hS ⊢
  have hk_0 := hts (.fieldLink RX6 26 "HedgeWar" "now" "LHedgeWar$Stand;") (by decide +kernel)
  have hin_RX6 : ∀ w ∈ wsX60, w ∈ wsX6_mayPlant := by decide +kernel
  have hk_2 := hts (.fieldLink RX6 112 "HedgeWar$Stand" "hedges" "J") (by decide +kernel)
  have hin_RX5 : ∀ w ∈ wsX50, w ∈ wsX6_mayPlant := by decide +kernel
  have hk_4 := hts (.fieldLink RX6 19 "HedgeWar" "ground" "LHedgeWar$Ground;") (by decide +kernel)
  have hk_5 := hts (.fieldLink RX6 194 "HedgeWar$Ground" "paths" "J") (by decide +kernel)
  have hin_RX0 : ∀ w ∈ wsX00, w ∈ wsX6_mayPlant := by decide +kernel
  unfold f_X6_mayPlant at hF
  refine lv_aload_n hx hb dX6_mayPlant_0 rfl (lv_at hl 0 rfl) ?_
  refine va_get (D := D) (ci := 6) (v := .ref aS_0) (C := RX6) (T := TX6) (N := 9) hx hb hts hin_RX6 hown hK hP 0 rfl rfl 2 (by decide) hk_0 (fun _ h9 => h9) rfl dX6_mayPlant_1 ?_
  refine va_get (D := D) (ci := 5) (v := .long (zS.1 0)) (C := RX5) (T := TX5) (N := 6) hx hb hts hin_RX5 hown hK hP 6 rfl rfl 0 (by decide) hk_2 (fun _ h9 => h9) rfl dX6_mayPlant_4 ?_
  refine lv_aload_n hx hb dX6_mayPlant_7 rfl (lv_at hl 0 rfl) ?_
  refine va_get (D := D) (ci := 6) (v := .ref aG_0) (C := RX6) (T := TX6) (N := 9) hx hb hts hin_RX6 hown hK hP 0 rfl rfl 1 (by decide) hk_4 (fun _ h9 => h9) rfl dX6_mayPlant_8 ?_
  refine va_get (D := D) (ci := 0) (v := .long zG.2.1) (C := RX0) (T := TX0) (N := 13) hx hb hts hin_RX0 hown hK hP 1 rfl rfl 8 (by decide) hk_5 (fun _ h9 => h9) rfl dX6_mayPlant_11 ?_
  refine lv_lor hx hb dX6_mayPlant_14 ?_
  refine lv_lload_n hx hb dX6_mayPlant_15 rfl (lv_at hl 1 rfl) ?_
  refine lv_land hx hb dX6_mayPlant_16 ?_
  refine lv_lconst (v := 0) hx hb dX6_mayPlant_17 (by decide) ?_
  refine W.lcmp hx hb dX6_mayPlant_18 ?_
  refine lv_if_ne (tgt := 26) hx hb dX6_mayPlant_19 (by decide) (fun c_1 => ?_) (fun c_1 => ?_)
  · replace hF := if_o c_1 hF
    refine lv_iconst (v := 0) hx hb dX6_mayPlant_26 (by decide) ?_
    obtain rfl := Option.some.inj hF
    exact W.zret (v := 0) (ty := .boolean) hx hb hr rfl (fun t ht hW => ⟨⟨_, (), rfl, rfl, by rw [ht]; exact hP, va_K.moved hW.alike hK, hD⟩, hS.F ht⟩) hS.2.2 dX6_mayPlant_27
  · replace hF := if_i c_1 hF
    refine lv_iconst (v := 1) hx hb dX6_mayPlant_22 (by decide) ?_
    refine lv_goto (tgt := 27) hx hb dX6_mayPlant_23 (by decide) ?_
    obtain rfl := Option.some.inj hF
    exact W.zret (v := 1) (ty := .boolean) hx hb hr rfl (fun t ht hW => ⟨⟨_, (), rfl, rfl, by rw [ht]; exact hP, va_K.moved hW.alike hK, hD⟩, hS.F ht⟩) hS.2.2 dX6_mayPlant_27
noncomputable def f_X6_feed (zX : XS) (zR : RS) (p1 : Int32) : Option (Int32 × RS) := if p1 < 0 then (some ((-1000000002 : Int32), zR)) else (if p1 ≤ 255 then (if (zR.1 3) < 240 then (ast 240 (zR.1 3) <| nm ((zR.1, (upd zR.2 (Int32.toNatClampNeg (zR.1 3)) p1)) : RS) fun zR_5 => nm ((zR_5.1 3) + 1) fun f3_6 => nm ((upd zR_5.1 3 f3_6, zR_5.2) : RS) fun zR_7 => some ((zR_7.1 3), zR_7)) else (some ((-1000000004 : Int32), zR))) else (some ((-1000000002 : Int32), zR)))
set_option maxHeartbeats 4000000 in
set_option maxRecDepth 100000 in
theorem c_X6_feed (l : Launch) (D : va_G) (ci : Nat → ClassId) (aX_0 : Nat) (aR_0 : Nat) (aG_0 : Nat) (aS_0 : Nat) (aP_0 : Nat) (aN_0 : Nat) (aI_0 : Nat) (aT_0 : Nat) (aR_1 : Nat) (aRG_0 : Nat) (aRS_0 : Nat) (sz : Nat) (zX : XS) (zR : RS) (p1 : Int32) (res : Int32 × RS) (hF : f_X6_feed zX zR p1 = some res) : CtI l yX6_feed wsX6_feed { frames := 0, cells := 0, slots := 0, locals := 0 } [.ref aX_0, .int p1] D ci ((wcX aX_0 aR_0 aG_0 aS_0 aP_0 aN_0 aI_0 aT_0 zX) ++ (wcR ci aR_0 aR_1 aRG_0 aRS_0 zR)) sz res.1 ((wcX aX_0 aR_0 aG_0 aS_0 aP_0 aN_0 aI_0 aT_0 zX) ++ (wcR ci aR_0 aR_1 aRG_0 aRS_0 res.2)) := by
  refine Met.ofW (cc := cX6_feed) (maxL := 2) (ret := (some .int)) (by decide) rfl ?_
  intro p e s m args below meth c s₁ B hml hv
  obtain ⟨rfl, hsz, hP, hK, hD0⟩ := hv
  have hx := B.exec
  have hb := B.bytes
  have hr := B.returns
  have hts := atoms_spec (ws := wsX6_feed) B.pre
  have hown : s.vm.findClass RX6 = some m.cls := findClass_of_methodNamed B.named
  have hlocks := B.notSynchronized
  subst hsz
  have hD := hD0.self (sz := s.heap.size)
  generalize hAe : va_A ((wcX aX_0 aR_0 aG_0 aS_0 aP_0 aN_0 aI_0 aT_0 zX) ++ (wcR ci aR_0 aR_1 aRG_0 aRS_0 zR)) s.heap.size = A at hD ⊢
  have hA : ∀ q : Nat, s.heap.size ≤ q → A q := fun q h => by rw [← hAe]; exact Or.inr h
  clear hD0 hAe
  have hl := lv_entry ([.ref aX_0, .int p1]) (n := 2) (Nat.le_of_ble_eq_true rfl)
  rw [lg_entry_eq]
  generalize (lg_sl ([.ref aX_0, .int p1]) ++ List.replicate (2 - (lg_sl ([.ref aX_0, .int p1])).length) Slot.unset).toArray = ls at hl ⊢
  have hl : lv_has ls 2 [(0, .ref aX_0), (1, .int p1)] := hl
  have hP : va_P D vwCl ((wcX aX_0 aR_0 aG_0 aS_0 aP_0 aN_0 aI_0 aT_0 zX) ++ (wcR ci aR_0 aR_1 aRG_0 aRS_0 zR)) s.heap := hP
  generalize hH0 : s.heap = H at hP ⊢
  have hS : va_S A s.heap H [] := by rw [← hH0]; exact va_S.rf
  clear hH0
  generalize ([] : List Loc) = locs at hS ⊢
  have hk_0 := hts (.constant RX6 62 (-1000000002)) (by decide +kernel)
  have hk_1 := hts (.fieldLink RX6 10 "HedgeWar" "reader" "LHedgeWar$Reader;") (by decide +kernel)
  have hin_RX6 : ∀ w ∈ wsX60, w ∈ wsX6_feed := by decide +kernel
  have hk_3 := hts (.fieldLink RX6 63 "HedgeWar$Reader" "letters" "I") (by decide +kernel)
  have hin_RX4 : ∀ w ∈ wsX40, w ∈ wsX6_feed := by decide +kernel
  have hk_5 := hts (.fieldLink RX6 67 "HedgeWar$Reader" "text" "[I") (by decide +kernel)
  have hk_6 := hts (.constant RX6 66 (-1000000004)) (by decide +kernel)
  unfold f_X6_feed at hF
  refine lv_iload_n hx hb dX6_feed_0 rfl (lv_at hl 1 rfl) ?_
  refine lv_if_lt (tgt := 11) hx hb dX6_feed_1 (by decide) (fun c_1 => ?_) (fun c_1 => ?_)
  · replace hF := if_i c_1 hF
    refine lv_ldc (v := (-1000000002)) hx hb hown hk_0 dX6_feed_11 ?_
    obtain rfl := Option.some.inj hF
    exact W.iret (v := (-1000000002)) hx hb hr (fun t ht hW => ⟨⟨_, (), rfl, rfl, by rw [ht]; exact hP, va_K.moved hW.alike hK, hD⟩, hS.F ht⟩) hS.2.2 dX6_feed_13
  · replace hF := if_o c_1 hF
    refine lv_iload_n hx hb dX6_feed_4 rfl (lv_at hl 1 rfl) ?_
    refine lv_sipush (v := 255) hx hb dX6_feed_5 (by decide) ?_
    refine lv_icmp_le (tgt := 14) hx hb dX6_feed_8 (by decide) (fun c_2 => ?_) (fun c_2 => ?_)
    · replace hF := if_i c_2 hF
      refine lv_aload_n hx hb dX6_feed_14 rfl (lv_at hl 0 rfl) ?_
      refine va_get (D := D) (ci := 6) (v := .ref aR_0) (C := RX6) (T := TX6) (N := 9) hx hb hts hin_RX6 hown hK hP 0 rfl rfl 0 (by decide) hk_1 (fun _ h9 => h9) rfl dX6_feed_15 ?_
      refine va_get (D := D) (ci := 4) (v := .int (zR.1 3)) (C := RX4) (T := TX4) (N := 8) hx hb hts hin_RX4 hown hK hP 1 rfl rfl 3 (by decide) hk_3 (fun _ h9 => h9) rfl dX6_feed_18 ?_
      refine lv_sipush (v := 240) hx hb dX6_feed_21 (by decide) ?_
      refine lv_icmp_lt (tgt := 30) hx hb dX6_feed_24 (by decide) (fun c_3 => ?_) (fun c_3 => ?_)
      · replace hF := if_i c_3 hF
        refine lv_aload_n hx hb dX6_feed_30 rfl (lv_at hl 0 rfl) ?_
        refine va_get (D := D) (ci := 6) (v := .ref aR_0) (C := RX6) (T := TX6) (N := 9) hx hb hts hin_RX6 hown hK hP 0 rfl rfl 0 (by decide) hk_1 (fun _ h9 => h9) rfl dX6_feed_31 ?_
        refine va_get (D := D) (ci := 4) (v := .ref aR_1) (C := RX4) (T := TX4) (N := 8) hx hb hts hin_RX4 hown hK hP 1 rfl rfl 0 (by decide) hk_5 (fun _ h9 => h9) rfl dX6_feed_34 ?_
        refine lv_aload_n hx hb dX6_feed_37 rfl (lv_at hl 0 rfl) ?_
        refine va_get (D := D) (ci := 6) (v := .ref aR_0) (C := RX6) (T := TX6) (N := 9) hx hb hts hin_RX6 hown hK hP 0 rfl rfl 0 (by decide) hk_1 (fun _ h9 => h9) rfl dX6_feed_38 ?_
        refine va_get (D := D) (ci := 4) (v := .int (zR.1 3)) (C := RX4) (T := TX4) (N := 8) hx hb hts hin_RX4 hown hK hP 1 rfl rfl 3 (by decide) hk_3 (fun _ h9 => h9) rfl dX6_feed_41 ?_
        refine lv_iload_n hx hb dX6_feed_44 rfl (lv_at hl 1 rfl) ?_
        replace hF := ast_i hF
        obtain ⟨hin_4, hF⟩ := hF
        refine va_iast (x := p1) hx hb hK hP hD hS 2 0 rfl rfl hin_4 dX6_feed_45 (fun H locs hP hD hS => ?_)
        obtain ⟨zR_5, ezR_5⟩ : ∃ y : RS, y = (zR.1, (upd zR.2 (Int32.toNatClampNeg (zR.1 3)) p1)) := ⟨_, rfl⟩
        replace hF := nm_i hF ezR_5
        have hP : va_P D vwCl ((wcX aX_0 aR_0 aG_0 aS_0 aP_0 aN_0 aI_0 aT_0 zX) ++ (wcR ci aR_0 aR_1 aRG_0 aRS_0 zR_5)) H := by rw [ezR_5]; exact hP
        have hD : va_D A ((wcX aX_0 aR_0 aG_0 aS_0 aP_0 aN_0 aI_0 aT_0 zX) ++ (wcR ci aR_0 aR_1 aRG_0 aRS_0 zR_5)) := by rw [ezR_5]; exact hD
        refine lv_aload_n hx hb dX6_feed_46 rfl (lv_at hl 0 rfl) ?_
        refine va_get (D := D) (ci := 6) (v := .ref aR_0) (C := RX6) (T := TX6) (N := 9) hx hb hts hin_RX6 hown hK hP 0 rfl rfl 0 (by decide) hk_1 (fun _ h9 => h9) rfl dX6_feed_47 ?_
        refine lv_dup hx hb dX6_feed_50 rfl ?_
        refine va_get (D := D) (ci := 4) (v := .int (zR_5.1 3)) (C := RX4) (T := TX4) (N := 8) hx hb hts hin_RX4 hown hK hP 1 rfl rfl 3 (by decide) hk_3 (fun _ h9 => h9) rfl dX6_feed_51 ?_
        refine lv_iconst (v := 1) hx hb dX6_feed_54 (by decide) ?_
        refine lv_iadd hx hb dX6_feed_55 ?_
        refine lv_topi (fun f3_6 ef3_6 => ?_)
        replace hF := nm_i hF ef3_6
        refine va_put (D := D) (ci := 4) (v := .int f3_6) (ty := .int) (C := RX4) (T := TX4) (N := 8) hx hb hts hin_RX4 tyX4 tyX4_ok nmX4 hown hK hP hD hS 1 rfl rfl 3 (by decide) hk_3 (fun _ h9 => h9) rfl (by decide +kernel) rfl rfl (Nat.le_of_ble_eq_true rfl) dX6_feed_56 (fun H locs hP hD hS => ?_)
        obtain ⟨zR_7, ezR_7⟩ : ∃ y : RS, y = (upd zR_5.1 3 f3_6, zR_5.2) := ⟨_, rfl⟩
        replace hF := nm_i hF ezR_7
        have hP : va_P D vwCl ((wcX aX_0 aR_0 aG_0 aS_0 aP_0 aN_0 aI_0 aT_0 zX) ++ (wcR ci aR_0 aR_1 aRG_0 aRS_0 zR_7)) H := by rw [ezR_7]; exact hP
        have hD : va_D A ((wcX aX_0 aR_0 aG_0 aS_0 aP_0 aN_0 aI_0 aT_0 zX) ++ (wcR ci aR_0 aR_1 aRG_0 aRS_0 zR_7)) := by rw [ezR_7]; exact hD
        refine lv_aload_n hx hb dX6_feed_59 rfl (lv_at hl 0 rfl) ?_
        refine va_get (D := D) (ci := 6) (v := .ref aR_0) (C := RX6) (T := TX6) (N := 9) hx hb hts hin_RX6 hown hK hP 0 rfl rfl 0 (by decide) hk_1 (fun _ h9 => h9) rfl dX6_feed_60 ?_
        refine va_get (D := D) (ci := 4) (v := .int (zR_7.1 3)) (C := RX4) (T := TX4) (N := 8) hx hb hts hin_RX4 hown hK hP 1 rfl rfl 3 (by decide) hk_3 (fun _ h9 => h9) rfl dX6_feed_63 ?_
        obtain rfl := Option.some.inj hF
        exact W.iret (v := (zR_7.1 3)) hx hb hr (fun t ht hW => ⟨⟨_, (), rfl, rfl, by rw [ht]; exact hP, va_K.moved hW.alike hK, hD⟩, hS.F ht⟩) hS.2.2 dX6_feed_66
      · replace hF := if_o c_3 hF
        refine lv_ldc (v := (-1000000004)) hx hb hown hk_6 dX6_feed_27 ?_
        obtain rfl := Option.some.inj hF
        exact W.iret (v := (-1000000004)) hx hb hr (fun t ht hW => ⟨⟨_, (), rfl, rfl, by rw [ht]; exact hP, va_K.moved hW.alike hK, hD⟩, hS.F ht⟩) hS.2.2 dX6_feed_29
    · replace hF := if_o c_2 hF
      refine lv_ldc (v := (-1000000002)) hx hb hown hk_0 dX6_feed_11 ?_
      obtain rfl := Option.some.inj hF
      exact W.iret (v := (-1000000002)) hx hb hr (fun t ht hW => ⟨⟨_, (), rfl, rfl, by rw [ht]; exact hP, va_K.moved hW.alike hK, hD⟩, hS.F ht⟩) hS.2.2 dX6_feed_13
noncomputable def f_X6_fault (zX : XS) : Option (Int32) := some (zX 7)
set_option maxHeartbeats 4000000 in
set_option maxRecDepth 100000 in
theorem c_X6_fault (l : Launch) (D : va_G) (ci : Nat → ClassId) (aX_0 : Nat) (aR_0 : Nat) (aG_0 : Nat) (aS_0 : Nat) (aP_0 : Nat) (aN_0 : Nat) (aI_0 : Nat) (aT_0 : Nat) (sz : Nat) (zX : XS) (res : Int32) (hF : f_X6_fault zX = some res) : CtI l yX6_fault wsX6_fault { frames := 0, cells := 0, slots := 0, locals := 0 } [.ref aX_0] D ci (wcX aX_0 aR_0 aG_0 aS_0 aP_0 aN_0 aI_0 aT_0 zX) sz res (wcX aX_0 aR_0 aG_0 aS_0 aP_0 aN_0 aI_0 aT_0 zX) := by
  refine Met.ofW (cc := cX6_fault) (maxL := 1) (ret := (some .int)) (by decide) rfl ?_
  intro p e s m args below meth c s₁ B hml hv
  obtain ⟨rfl, hsz, hP, hK, hD0⟩ := hv
  have hx := B.exec
  have hb := B.bytes
  have hr := B.returns
  have hts := atoms_spec (ws := wsX6_fault) B.pre
  have hown : s.vm.findClass RX6 = some m.cls := findClass_of_methodNamed B.named
  have hlocks := B.notSynchronized
  subst hsz
  have hD := hD0.self (sz := s.heap.size)
  generalize hAe : va_A (wcX aX_0 aR_0 aG_0 aS_0 aP_0 aN_0 aI_0 aT_0 zX) s.heap.size = A at hD ⊢
  have hA : ∀ q : Nat, s.heap.size ≤ q → A q := fun q h => by rw [← hAe]; exact Or.inr h
  clear hD0 hAe
  have hl := lv_entry ([.ref aX_0]) (n := 1) (Nat.le_of_ble_eq_true rfl)
  rw [lg_entry_eq]
  generalize (lg_sl ([.ref aX_0]) ++ List.replicate (1 - (lg_sl ([.ref aX_0])).length) Slot.unset).toArray = ls at hl ⊢
  have hl : lv_has ls 1 [(0, .ref aX_0)] := hl
  have hP : va_P D vwCl (wcX aX_0 aR_0 aG_0 aS_0 aP_0 aN_0 aI_0 aT_0 zX) s.heap := hP
  generalize hH0 : s.heap = H at hP ⊢
  have hS : va_S A s.heap H [] := by rw [← hH0]; exact va_S.rf
  clear hH0
  generalize ([] : List Loc) = locs at hS ⊢
  have hk_0 := hts (.fieldLink RX6 54 "HedgeWar" "faultPlace" "I") (by decide +kernel)
  have hin_RX6 : ∀ w ∈ wsX60, w ∈ wsX6_fault := by decide +kernel
  unfold f_X6_fault at hF
  refine lv_aload_n hx hb dX6_fault_0 rfl (lv_at hl 0 rfl) ?_
  refine va_get (D := D) (ci := 6) (v := .int (zX 7)) (C := RX6) (T := TX6) (N := 9) hx hb hts hin_RX6 hown hK hP 0 rfl rfl 7 (by decide) hk_0 (fun _ h9 => h9) rfl dX6_fault_1 ?_
  obtain rfl := Option.some.inj hF
  exact W.iret (v := (zX 7)) hx hb hr (fun t ht hW => ⟨⟨_, (), rfl, rfl, by rw [ht]; exact hP, va_K.moved hW.alike hK, hD⟩, hS.F ht⟩) hS.2.2 dX6_fault_4
noncomputable def f_X6_told (zX : XS) (zR : RS) (zG : GS) (zS : SS) (zP : PS) (zN : NS) (p1 : Int32) : Option (Int32) := if p1 < 0 then (some (-1000000002 : Int32)) else (if p1 ≤ 12 then (nm p1 fun k_3 => if k_3 = 0 then (some (zG.1 0)) else if k_3 = 1 then (some (zG.1 1)) else if k_3 = 2 then (some (zG.1 2)) else if k_3 = 3 then (some (zG.1 3)) else if k_3 = 4 then (some (zR.1 3)) else if k_3 = 5 then (some (zS.2.1 4)) else if k_3 = 6 then ((f_J13_bitCount_95d88 (zS.1 0)).bind fun r_11 => some r_11) else if k_3 = 7 then ((f_J6_bitCount_0f7a4 (zS.2.1 3)).bind fun r_14 => some ((zG.1 2) - r_14)) else if k_3 = 8 then ((f_J6_bitCount_0f7a4 (zS.2.1 3)).bind fun r_17 => some r_17) else if k_3 = 9 then ((f_X0_edgesRound zG (zS.2.1 3)).bind fun r_20 => (f_J13_bitCount_95d88 r_20).bind fun r_22 => some r_22) else if k_3 = 10 then (some (zN.1 0)) else if k_3 = 11 then (some (zN.1 1)) else (some (zP 1))) else (some (-1000000002 : Int32)))
set_option maxHeartbeats 4000000 in
set_option maxRecDepth 100000 in
theorem c_X6_told (l : Launch) (D : va_G) (ci : Nat → ClassId) (aX_0 : Nat) (aR_0 : Nat) (aG_0 : Nat) (aS_0 : Nat) (aP_0 : Nat) (aN_0 : Nat) (aI_0 : Nat) (aT_0 : Nat) (aR_1 : Nat) (aRG_0 : Nat) (aRS_0 : Nat) (aG_1 : Nat) (aG_2 : Nat) (aG_3 : Nat) (aG_4 : Nat) (aS_1 : Nat) (aP_1 : Nat) (aQ : Nat → Nat) (aN_1 : Nat) (aN_2 : Nat) (aN_3 : Nat) (aN_4 : Nat) (sz : Nat) (zX : XS) (zR : RS) (zG : GS) (zS : SS) (zP : PS) (zN : NS) (p1 : Int32) (res : Int32) (hF : f_X6_told zX zR zG zS zP zN p1 = some res) : CtI l yX6_told wsX6_told { frames := 1, cells := 0, slots := 0, locals := 23 } [.ref aX_0, .int p1] D ci ((wcX aX_0 aR_0 aG_0 aS_0 aP_0 aN_0 aI_0 aT_0 zX) ++ ((wcR ci aR_0 aR_1 aRG_0 aRS_0 zR) ++ ((wcG ci aG_0 aG_1 aG_2 aG_3 aG_4 zG) ++ ((wcS ci aS_0 aS_1 zS) ++ ((wcP ci aP_0 aP_1 aQ zP) ++ (wcN ci aN_0 aN_1 aN_2 aN_3 aN_4 zN)))))) sz res ((wcX aX_0 aR_0 aG_0 aS_0 aP_0 aN_0 aI_0 aT_0 zX) ++ ((wcR ci aR_0 aR_1 aRG_0 aRS_0 zR) ++ ((wcG ci aG_0 aG_1 aG_2 aG_3 aG_4 zG) ++ ((wcS ci aS_0 aS_1 zS) ++ ((wcP ci aP_0 aP_1 aQ zP) ++ (wcN ci aN_0 aN_1 aN_2 aN_3 aN_4 zN)))))) := by
  refine Met.ofW (cc := cX6_told) (maxL := 2) (ret := (some .int)) (by decide) rfl ?_
  intro p e s m args below meth c s₁ B hml hv
  obtain ⟨rfl, hsz, hP, hK, hD0⟩ := hv
  have hx := B.exec
  have hb := B.bytes
  have hr := B.returns
  have hts := atoms_spec (ws := wsX6_told) B.pre
  have hown : s.vm.findClass RX6 = some m.cls := findClass_of_methodNamed B.named
  have hlocks := B.notSynchronized
  subst hsz
  have hD := hD0.self (sz := s.heap.size)
  generalize hAe : va_A ((wcX aX_0 aR_0 aG_0 aS_0 aP_0 aN_0 aI_0 aT_0 zX) ++ ((wcR ci aR_0 aR_1 aRG_0 aRS_0 zR) ++ ((wcG ci aG_0 aG_1 aG_2 aG_3 aG_4 zG) ++ ((wcS ci aS_0 aS_1 zS) ++ ((wcP ci aP_0 aP_1 aQ zP) ++ (wcN ci aN_0 aN_1 aN_2 aN_3 aN_4 zN)))))) s.heap.size = A at hD ⊢
  have hA : ∀ q : Nat, s.heap.size ≤ q → A q := fun q h => by rw [← hAe]; exact Or.inr h
  clear hD0 hAe
  have hl := lv_entry ([.ref aX_0, .int p1]) (n := 2) (Nat.le_of_ble_eq_true rfl)
  rw [lg_entry_eq]
  generalize (lg_sl ([.ref aX_0, .int p1]) ++ List.replicate (2 - (lg_sl ([.ref aX_0, .int p1])).length) Slot.unset).toArray = ls at hl ⊢
  have hl : lv_has ls 2 [(0, .ref aX_0), (1, .int p1)] := hl
  have hP : va_P D vwCl ((wcX aX_0 aR_0 aG_0 aS_0 aP_0 aN_0 aI_0 aT_0 zX) ++ ((wcR ci aR_0 aR_1 aRG_0 aRS_0 zR) ++ ((wcG ci aG_0 aG_1 aG_2 aG_3 aG_4 zG) ++ ((wcS ci aS_0 aS_1 zS) ++ ((wcP ci aP_0 aP_1 aQ zP) ++ (wcN ci aN_0 aN_1 aN_2 aN_3 aN_4 zN)))))) s.heap := hP
  generalize hH0 : s.heap = H at hP ⊢
  have hS : va_S A s.heap H [] := by rw [← hH0]; exact va_S.rf
  clear hH0
  generalize ([] : List Loc) = locs at hS ⊢
  have hk_0 := hts (.constant RX6 62 (-1000000002)) (by decide +kernel)
  have hk_1 := hts (.fieldLink RX6 19 "HedgeWar" "ground" "LHedgeWar$Ground;") (by decide +kernel)
  have hin_RX6 : ∀ w ∈ wsX60, w ∈ wsX6_told := by decide +kernel
  have hk_3 := hts (.fieldLink RX6 100 "HedgeWar$Ground" "width" "I") (by decide +kernel)
  have hin_RX0 : ∀ w ∈ wsX00, w ∈ wsX6_told := by decide +kernel
  have hk_5 := hts (.fieldLink RX6 103 "HedgeWar$Ground" "height" "I") (by decide +kernel)
  have hk_6 := hts (.fieldLink RX6 97 "HedgeWar$Ground" "fields" "I") (by decide +kernel)
  have hk_7 := hts (.fieldLink RX6 106 "HedgeWar$Ground" "edges" "I") (by decide +kernel)
  have hk_8 := hts (.fieldLink RX6 10 "HedgeWar" "reader" "LHedgeWar$Reader;") (by decide +kernel)
  have hk_9 := hts (.fieldLink RX6 63 "HedgeWar$Reader" "letters" "I") (by decide +kernel)
  have hin_RX4 : ∀ w ∈ wsX40, w ∈ wsX6_told := by decide +kernel
  have hk_11 := hts (.fieldLink RX6 26 "HedgeWar" "now" "LHedgeWar$Stand;") (by decide +kernel)
  have hk_12 := hts (.fieldLink RX6 109 "HedgeWar$Stand" "years" "I") (by decide +kernel)
  have hin_RX5 : ∀ w ∈ wsX50, w ∈ wsX6_told := by decide +kernel
  have hk_14 := hts (.fieldLink RX6 112 "HedgeWar$Stand" "hedges" "J") (by decide +kernel)
  have hk_15 := hts (.fieldLink RX6 122 "HedgeWar$Stand" "ownedByOne" "I") (by decide +kernel)
  have hk_16 := hts (.fieldLink RX6 40 "HedgeWar" "notes" "LHedgeWar$Notes;") (by decide +kernel)
  have hk_17 := hts (.fieldLink RX6 134 "HedgeWar$Notes" "roots" "I") (by decide +kernel)
  have hin_RX2 : ∀ w ∈ wsX20, w ∈ wsX6_told := by decide +kernel
  have hk_19 := hts (.fieldLink RX6 137 "HedgeWar$Notes" "entries" "I") (by decide +kernel)
  have hk_20 := hts (.fieldLink RX6 33 "HedgeWar" "past" "LHedgeWar$Past;") (by decide +kernel)
  have hk_21 := hts (.fieldLink RX6 140 "HedgeWar$Past" "count" "I") (by decide +kernel)
  have hin_RX3 : ∀ w ∈ wsX30, w ∈ wsX6_told := by decide +kernel
  unfold f_X6_told at hF
  refine lv_iload_n hx hb dX6_told_0 rfl (lv_at hl 1 rfl) ?_
  refine lv_if_lt (tgt := 10) hx hb dX6_told_1 (by decide) (fun c_1 => ?_) (fun c_1 => ?_)
  · replace hF := if_i c_1 hF
    refine lv_ldc (v := (-1000000002)) hx hb hown hk_0 dX6_told_10 ?_
    obtain rfl := Option.some.inj hF
    exact W.iret (v := (-1000000002)) hx hb hr (fun t ht hW => ⟨⟨_, (), rfl, rfl, by rw [ht]; exact hP, va_K.moved hW.alike hK, hD⟩, hS.F ht⟩) hS.2.2 dX6_told_12
  · replace hF := if_o c_1 hF
    refine lv_iload_n hx hb dX6_told_4 rfl (lv_at hl 1 rfl) ?_
    refine lv_bipush (v := 12) hx hb dX6_told_5 (by decide) ?_
    refine lv_icmp_le (tgt := 13) hx hb dX6_told_7 (by decide) (fun c_2 => ?_) (fun c_2 => ?_)
    · replace hF := if_i c_2 hF
      refine lv_iload_n hx hb dX6_told_13 rfl (lv_at hl 1 rfl) ?_
      refine lv_topi (fun k_3 ek_3 => ?_)
      replace hF := nm_i hF ek_3
      by_cases c_4 : k_3 = 0
      · replace hF := if_i c_4 hF
        subst c_4
        refine lv_tableIn (tgt := 76) hx hb dX6_told_14 (by decide) (by decide) rfl (by decide) ?_
        refine lv_aload_n hx hb dX6_told_76 rfl (lv_at hl 0 rfl) ?_
        refine va_get (D := D) (ci := 6) (v := .ref aG_0) (C := RX6) (T := TX6) (N := 9) hx hb hts hin_RX6 hown hK hP 0 rfl rfl 1 (by decide) hk_1 (fun _ h9 => h9) rfl dX6_told_77 ?_
        refine va_get (D := D) (ci := 0) (v := .int (zG.1 0)) (C := RX0) (T := TX0) (N := 13) hx hb hts hin_RX0 hown hK hP 3 rfl rfl 0 (by decide) hk_3 (fun _ h9 => h9) rfl dX6_told_80 ?_
        obtain rfl := Option.some.inj hF
        exact W.iret (v := (zG.1 0)) hx hb hr (fun t ht hW => ⟨⟨_, (), rfl, rfl, by rw [ht]; exact hP, va_K.moved hW.alike hK, hD⟩, hS.F ht⟩) hS.2.2 dX6_told_83
      replace hF := if_o c_4 hF
      by_cases c_5 : k_3 = 1
      · replace hF := if_i c_5 hF
        subst c_5
        refine lv_tableIn (tgt := 84) hx hb dX6_told_14 (by decide) (by decide) rfl (by decide) ?_
        refine lv_aload_n hx hb dX6_told_84 rfl (lv_at hl 0 rfl) ?_
        refine va_get (D := D) (ci := 6) (v := .ref aG_0) (C := RX6) (T := TX6) (N := 9) hx hb hts hin_RX6 hown hK hP 0 rfl rfl 1 (by decide) hk_1 (fun _ h9 => h9) rfl dX6_told_85 ?_
        refine va_get (D := D) (ci := 0) (v := .int (zG.1 1)) (C := RX0) (T := TX0) (N := 13) hx hb hts hin_RX0 hown hK hP 3 rfl rfl 1 (by decide) hk_5 (fun _ h9 => h9) rfl dX6_told_88 ?_
        obtain rfl := Option.some.inj hF
        exact W.iret (v := (zG.1 1)) hx hb hr (fun t ht hW => ⟨⟨_, (), rfl, rfl, by rw [ht]; exact hP, va_K.moved hW.alike hK, hD⟩, hS.F ht⟩) hS.2.2 dX6_told_91
      replace hF := if_o c_5 hF
      by_cases c_6 : k_3 = 2
      · replace hF := if_i c_6 hF
        subst c_6
        refine lv_tableIn (tgt := 92) hx hb dX6_told_14 (by decide) (by decide) rfl (by decide) ?_
        refine lv_aload_n hx hb dX6_told_92 rfl (lv_at hl 0 rfl) ?_
        refine va_get (D := D) (ci := 6) (v := .ref aG_0) (C := RX6) (T := TX6) (N := 9) hx hb hts hin_RX6 hown hK hP 0 rfl rfl 1 (by decide) hk_1 (fun _ h9 => h9) rfl dX6_told_93 ?_
        refine va_get (D := D) (ci := 0) (v := .int (zG.1 2)) (C := RX0) (T := TX0) (N := 13) hx hb hts hin_RX0 hown hK hP 3 rfl rfl 2 (by decide) hk_6 (fun _ h9 => h9) rfl dX6_told_96 ?_
        obtain rfl := Option.some.inj hF
        exact W.iret (v := (zG.1 2)) hx hb hr (fun t ht hW => ⟨⟨_, (), rfl, rfl, by rw [ht]; exact hP, va_K.moved hW.alike hK, hD⟩, hS.F ht⟩) hS.2.2 dX6_told_99
      replace hF := if_o c_6 hF
      by_cases c_7 : k_3 = 3
      · replace hF := if_i c_7 hF
        subst c_7
        refine lv_tableIn (tgt := 100) hx hb dX6_told_14 (by decide) (by decide) rfl (by decide) ?_
        refine lv_aload_n hx hb dX6_told_100 rfl (lv_at hl 0 rfl) ?_
        refine va_get (D := D) (ci := 6) (v := .ref aG_0) (C := RX6) (T := TX6) (N := 9) hx hb hts hin_RX6 hown hK hP 0 rfl rfl 1 (by decide) hk_1 (fun _ h9 => h9) rfl dX6_told_101 ?_
        refine va_get (D := D) (ci := 0) (v := .int (zG.1 3)) (C := RX0) (T := TX0) (N := 13) hx hb hts hin_RX0 hown hK hP 3 rfl rfl 3 (by decide) hk_7 (fun _ h9 => h9) rfl dX6_told_104 ?_
        obtain rfl := Option.some.inj hF
        exact W.iret (v := (zG.1 3)) hx hb hr (fun t ht hW => ⟨⟨_, (), rfl, rfl, by rw [ht]; exact hP, va_K.moved hW.alike hK, hD⟩, hS.F ht⟩) hS.2.2 dX6_told_107
      replace hF := if_o c_7 hF
      by_cases c_8 : k_3 = 4
      · replace hF := if_i c_8 hF
        subst c_8
        refine lv_tableIn (tgt := 108) hx hb dX6_told_14 (by decide) (by decide) rfl (by decide) ?_
        refine lv_aload_n hx hb dX6_told_108 rfl (lv_at hl 0 rfl) ?_
        refine va_get (D := D) (ci := 6) (v := .ref aR_0) (C := RX6) (T := TX6) (N := 9) hx hb hts hin_RX6 hown hK hP 0 rfl rfl 0 (by decide) hk_8 (fun _ h9 => h9) rfl dX6_told_109 ?_
        refine va_get (D := D) (ci := 4) (v := .int (zR.1 3)) (C := RX4) (T := TX4) (N := 8) hx hb hts hin_RX4 hown hK hP 1 rfl rfl 3 (by decide) hk_9 (fun _ h9 => h9) rfl dX6_told_112 ?_
        obtain rfl := Option.some.inj hF
        exact W.iret (v := (zR.1 3)) hx hb hr (fun t ht hW => ⟨⟨_, (), rfl, rfl, by rw [ht]; exact hP, va_K.moved hW.alike hK, hD⟩, hS.F ht⟩) hS.2.2 dX6_told_115
      replace hF := if_o c_8 hF
      by_cases c_9 : k_3 = 5
      · replace hF := if_i c_9 hF
        subst c_9
        refine lv_tableIn (tgt := 116) hx hb dX6_told_14 (by decide) (by decide) rfl (by decide) ?_
        refine lv_aload_n hx hb dX6_told_116 rfl (lv_at hl 0 rfl) ?_
        refine va_get (D := D) (ci := 6) (v := .ref aS_0) (C := RX6) (T := TX6) (N := 9) hx hb hts hin_RX6 hown hK hP 0 rfl rfl 2 (by decide) hk_11 (fun _ h9 => h9) rfl dX6_told_117 ?_
        refine va_get (D := D) (ci := 5) (v := .int (zS.2.1 4)) (C := RX5) (T := TX5) (N := 6) hx hb hts hin_RX5 hown hK hP 8 rfl rfl 4 (by decide) hk_12 (fun _ h9 => h9) rfl dX6_told_120 ?_
        obtain rfl := Option.some.inj hF
        exact W.iret (v := (zS.2.1 4)) hx hb hr (fun t ht hW => ⟨⟨_, (), rfl, rfl, by rw [ht]; exact hP, va_K.moved hW.alike hK, hD⟩, hS.F ht⟩) hS.2.2 dX6_told_123
      replace hF := if_o c_9 hF
      by_cases c_10 : k_3 = 6
      · replace hF := if_i c_10 hF
        subst c_10
        refine lv_tableIn (tgt := 124) hx hb dX6_told_14 (by decide) (by decide) rfl (by decide) ?_
        refine lv_aload_n hx hb dX6_told_124 rfl (lv_at hl 0 rfl) ?_
        refine va_get (D := D) (ci := 6) (v := .ref aS_0) (C := RX6) (T := TX6) (N := 9) hx hb hts hin_RX6 hown hK hP 0 rfl rfl 2 (by decide) hk_11 (fun _ h9 => h9) rfl dX6_told_125 ?_
        refine va_get (D := D) (ci := 5) (v := .long (zS.1 0)) (C := RX5) (T := TX5) (N := 6) hx hb hts hin_RX5 hown hK hP 8 rfl rfl 0 (by decide) hk_14 (fun _ h9 => h9) rfl dX6_told_128 ?_
        replace hF := bnd hF
        obtain ⟨r_11, hc_12, hF⟩ := hF
        refine cl_Sie (As := [.long (zS.1 0)]) (rest := []) ⟨hx, hb, hml, hown, hts⟩ (va_cwS 1 hts gX6_told_J13_bitCount_95d88 rfl rfl rfl (by decide +kernel) ⟨Nat.le_of_ble_eq_true rfl, Nat.le_of_ble_eq_true rfl⟩) (c_J13_bitCount_95d88 l D ci  H.size (zS.1 0) _ hc_12) hK hP hD hS hA rfl rfl hl.1 (Nat.le_of_ble_eq_true rfl) dX6_told_131 (Nat.zero_le _) (Nat.zero_le _) (fun H locs hP hD hS => ?_)
        have hP : va_P D vwCl ((wcX aX_0 aR_0 aG_0 aS_0 aP_0 aN_0 aI_0 aT_0 zX) ++ ((wcR ci aR_0 aR_1 aRG_0 aRS_0 zR) ++ ((wcG ci aG_0 aG_1 aG_2 aG_3 aG_4 zG) ++ ((wcS ci aS_0 aS_1 zS) ++ ((wcP ci aP_0 aP_1 aQ zP) ++ (wcN ci aN_0 aN_1 aN_2 aN_3 aN_4 zN)))))) H := hP
        have hD : va_D A ((wcX aX_0 aR_0 aG_0 aS_0 aP_0 aN_0 aI_0 aT_0 zX) ++ ((wcR ci aR_0 aR_1 aRG_0 aRS_0 zR) ++ ((wcG ci aG_0 aG_1 aG_2 aG_3 aG_4 zG) ++ ((wcS ci aS_0 aS_1 zS) ++ ((wcP ci aP_0 aP_1 aQ zP) ++ (wcN ci aN_0 aN_1 aN_2 aN_3 aN_4 zN)))))) := hD
        obtain rfl := Option.some.inj hF
        exact W.iret (v := r_11) hx hb hr (fun t ht hW => ⟨⟨_, (), rfl, rfl, by rw [ht]; exact hP, va_K.moved hW.alike hK, hD⟩, hS.F ht⟩) hS.2.2 dX6_told_134
      replace hF := if_o c_10 hF
      by_cases c_13 : k_3 = 7
      · replace hF := if_i c_13 hF
        subst c_13
        refine lv_tableIn (tgt := 135) hx hb dX6_told_14 (by decide) (by decide) rfl (by decide) ?_
        refine lv_aload_n hx hb dX6_told_135 rfl (lv_at hl 0 rfl) ?_
        refine va_get (D := D) (ci := 6) (v := .ref aG_0) (C := RX6) (T := TX6) (N := 9) hx hb hts hin_RX6 hown hK hP 0 rfl rfl 1 (by decide) hk_1 (fun _ h9 => h9) rfl dX6_told_136 ?_
        refine va_get (D := D) (ci := 0) (v := .int (zG.1 2)) (C := RX0) (T := TX0) (N := 13) hx hb hts hin_RX0 hown hK hP 3 rfl rfl 2 (by decide) hk_6 (fun _ h9 => h9) rfl dX6_told_139 ?_
        refine lv_aload_n hx hb dX6_told_142 rfl (lv_at hl 0 rfl) ?_
        refine va_get (D := D) (ci := 6) (v := .ref aS_0) (C := RX6) (T := TX6) (N := 9) hx hb hts hin_RX6 hown hK hP 0 rfl rfl 2 (by decide) hk_11 (fun _ h9 => h9) rfl dX6_told_143 ?_
        refine va_get (D := D) (ci := 5) (v := .int (zS.2.1 3)) (C := RX5) (T := TX5) (N := 6) hx hb hts hin_RX5 hown hK hP 8 rfl rfl 3 (by decide) hk_15 (fun _ h9 => h9) rfl dX6_told_146 ?_
        replace hF := bnd hF
        obtain ⟨r_14, hc_15, hF⟩ := hF
        refine cl_Sie (As := [.int (zS.2.1 3)]) (rest := [.int (zG.1 2)]) ⟨hx, hb, hml, hown, hts⟩ (va_cwS 1 hts gX6_told_J6_bitCount_0f7a4 rfl rfl rfl (by decide +kernel) ⟨Nat.le_of_ble_eq_true rfl, Nat.le_of_ble_eq_true rfl⟩) (c_J6_bitCount_0f7a4 l D ci  H.size (zS.2.1 3) _ hc_15) hK hP hD hS hA rfl rfl hl.1 (Nat.le_of_ble_eq_true rfl) dX6_told_149 (Nat.zero_le _) (Nat.zero_le _) (fun H locs hP hD hS => ?_)
        have hP : va_P D vwCl ((wcX aX_0 aR_0 aG_0 aS_0 aP_0 aN_0 aI_0 aT_0 zX) ++ ((wcR ci aR_0 aR_1 aRG_0 aRS_0 zR) ++ ((wcG ci aG_0 aG_1 aG_2 aG_3 aG_4 zG) ++ ((wcS ci aS_0 aS_1 zS) ++ ((wcP ci aP_0 aP_1 aQ zP) ++ (wcN ci aN_0 aN_1 aN_2 aN_3 aN_4 zN)))))) H := hP
        have hD : va_D A ((wcX aX_0 aR_0 aG_0 aS_0 aP_0 aN_0 aI_0 aT_0 zX) ++ ((wcR ci aR_0 aR_1 aRG_0 aRS_0 zR) ++ ((wcG ci aG_0 aG_1 aG_2 aG_3 aG_4 zG) ++ ((wcS ci aS_0 aS_1 zS) ++ ((wcP ci aP_0 aP_1 aQ zP) ++ (wcN ci aN_0 aN_1 aN_2 aN_3 aN_4 zN)))))) := hD
        refine lv_isub hx hb dX6_told_152 ?_
        obtain rfl := Option.some.inj hF
        exact W.iret (v := ((zG.1 2) - r_14)) hx hb hr (fun t ht hW => ⟨⟨_, (), rfl, rfl, by rw [ht]; exact hP, va_K.moved hW.alike hK, hD⟩, hS.F ht⟩) hS.2.2 dX6_told_153
      replace hF := if_o c_13 hF
      by_cases c_16 : k_3 = 8
      · replace hF := if_i c_16 hF
        subst c_16
        refine lv_tableIn (tgt := 154) hx hb dX6_told_14 (by decide) (by decide) rfl (by decide) ?_
        refine lv_aload_n hx hb dX6_told_154 rfl (lv_at hl 0 rfl) ?_
        refine va_get (D := D) (ci := 6) (v := .ref aS_0) (C := RX6) (T := TX6) (N := 9) hx hb hts hin_RX6 hown hK hP 0 rfl rfl 2 (by decide) hk_11 (fun _ h9 => h9) rfl dX6_told_155 ?_
        refine va_get (D := D) (ci := 5) (v := .int (zS.2.1 3)) (C := RX5) (T := TX5) (N := 6) hx hb hts hin_RX5 hown hK hP 8 rfl rfl 3 (by decide) hk_15 (fun _ h9 => h9) rfl dX6_told_158 ?_
        replace hF := bnd hF
        obtain ⟨r_17, hc_18, hF⟩ := hF
        refine cl_Sie (As := [.int (zS.2.1 3)]) (rest := []) ⟨hx, hb, hml, hown, hts⟩ (va_cwS 1 hts gX6_told_J6_bitCount_0f7a4 rfl rfl rfl (by decide +kernel) ⟨Nat.le_of_ble_eq_true rfl, Nat.le_of_ble_eq_true rfl⟩) (c_J6_bitCount_0f7a4 l D ci  H.size (zS.2.1 3) _ hc_18) hK hP hD hS hA rfl rfl hl.1 (Nat.le_of_ble_eq_true rfl) dX6_told_161 (Nat.zero_le _) (Nat.zero_le _) (fun H locs hP hD hS => ?_)
        have hP : va_P D vwCl ((wcX aX_0 aR_0 aG_0 aS_0 aP_0 aN_0 aI_0 aT_0 zX) ++ ((wcR ci aR_0 aR_1 aRG_0 aRS_0 zR) ++ ((wcG ci aG_0 aG_1 aG_2 aG_3 aG_4 zG) ++ ((wcS ci aS_0 aS_1 zS) ++ ((wcP ci aP_0 aP_1 aQ zP) ++ (wcN ci aN_0 aN_1 aN_2 aN_3 aN_4 zN)))))) H := hP
        have hD : va_D A ((wcX aX_0 aR_0 aG_0 aS_0 aP_0 aN_0 aI_0 aT_0 zX) ++ ((wcR ci aR_0 aR_1 aRG_0 aRS_0 zR) ++ ((wcG ci aG_0 aG_1 aG_2 aG_3 aG_4 zG) ++ ((wcS ci aS_0 aS_1 zS) ++ ((wcP ci aP_0 aP_1 aQ zP) ++ (wcN ci aN_0 aN_1 aN_2 aN_3 aN_4 zN)))))) := hD
        obtain rfl := Option.some.inj hF
        exact W.iret (v := r_17) hx hb hr (fun t ht hW => ⟨⟨_, (), rfl, rfl, by rw [ht]; exact hP, va_K.moved hW.alike hK, hD⟩, hS.F ht⟩) hS.2.2 dX6_told_164
      replace hF := if_o c_16 hF
      by_cases c_19 : k_3 = 9
      · replace hF := if_i c_19 hF
        subst c_19
        refine lv_tableIn (tgt := 165) hx hb dX6_told_14 (by decide) (by decide) rfl (by decide) ?_
        refine lv_aload_n hx hb dX6_told_165 rfl (lv_at hl 0 rfl) ?_
        refine va_get (D := D) (ci := 6) (v := .ref aG_0) (C := RX6) (T := TX6) (N := 9) hx hb hts hin_RX6 hown hK hP 0 rfl rfl 1 (by decide) hk_1 (fun _ h9 => h9) rfl dX6_told_166 ?_
        refine lv_aload_n hx hb dX6_told_169 rfl (lv_at hl 0 rfl) ?_
        refine va_get (D := D) (ci := 6) (v := .ref aS_0) (C := RX6) (T := TX6) (N := 9) hx hb hts hin_RX6 hown hK hP 0 rfl rfl 2 (by decide) hk_11 (fun _ h9 => h9) rfl dX6_told_170 ?_
        refine va_get (D := D) (ci := 5) (v := .int (zS.2.1 3)) (C := RX5) (T := TX5) (N := 6) hx hb hts hin_RX5 hown hK hP 8 rfl rfl 3 (by decide) hk_15 (fun _ h9 => h9) rfl dX6_told_173 ?_
        replace hF := bnd hF
        obtain ⟨r_20, hc_21, hF⟩ := hF
        refine cl_Vl (As := [.int (zS.2.1 3)]) (rest := []) (wc := (wcG ci aG_0 aG_1 aG_2 aG_3 aG_4 zG)) (wr := ([0, 1, 2, 8, 9, 10, 11, 12, 13, 14, 15, 16].filterMap (fun i => ((wcX aX_0 aR_0 aG_0 aS_0 aP_0 aN_0 aI_0 aT_0 zX) ++ ((wcR ci aR_0 aR_1 aRG_0 aRS_0 zR) ++ ((wcG ci aG_0 aG_1 aG_2 aG_3 aG_4 zG) ++ ((wcS ci aS_0 aS_1 zS) ++ ((wcP ci aP_0 aP_1 aQ zP) ++ (wcN ci aN_0 aN_1 aN_2 aN_3 aN_4 zN))))))[i]?))) (w1 := (wcG ci aG_0 aG_1 aG_2 aG_3 aG_4 zG)) (wn := ((wcX aX_0 aR_0 aG_0 aS_0 aP_0 aN_0 aI_0 aT_0 zX) ++ ((wcR ci aR_0 aR_1 aRG_0 aRS_0 zR) ++ ((wcG ci aG_0 aG_1 aG_2 aG_3 aG_4 zG) ++ ((wcS ci aS_0 aS_1 zS) ++ ((wcP ci aP_0 aP_1 aQ zP) ++ (wcN ci aN_0 aN_1 aN_2 aN_3 aN_4 zN))))))) ⟨hx, hb, hml, hown, hts⟩ (cwV 1 hts gX6_told_X0_edgesRound rfl rfl rfl (by decide +kernel) ⟨Nat.le_of_ble_eq_true rfl, Nat.le_of_ble_eq_true rfl⟩) (c_X0_edgesRound l D ci aG_0 aG_1 aG_2 aG_3 aG_4 H.size zG (zS.2.1 3) _ hc_21) hK hP hD hS hA [3, 4, 5, 6, 7] [0, 1, 2, 8, 9, 10, 11, 12, 13, 14, 15, 16] [0, 1, 2, 12, 13, 14, 15, 16, 3, 4, 5, 6, 7, 8, 9, 10, 11] rfl rfl rfl (by decide) 0 rfl rfl rfl rfl hl.1 (Nat.le_of_ble_eq_true rfl) dX6_told_176 (Nat.zero_le _) (Nat.zero_le _) (fun H locs hP hD hS => ?_)
        have hP : va_P D vwCl ((wcX aX_0 aR_0 aG_0 aS_0 aP_0 aN_0 aI_0 aT_0 zX) ++ ((wcR ci aR_0 aR_1 aRG_0 aRS_0 zR) ++ ((wcG ci aG_0 aG_1 aG_2 aG_3 aG_4 zG) ++ ((wcS ci aS_0 aS_1 zS) ++ ((wcP ci aP_0 aP_1 aQ zP) ++ (wcN ci aN_0 aN_1 aN_2 aN_3 aN_4 zN)))))) H := hP
        have hD : va_D A ((wcX aX_0 aR_0 aG_0 aS_0 aP_0 aN_0 aI_0 aT_0 zX) ++ ((wcR ci aR_0 aR_1 aRG_0 aRS_0 zR) ++ ((wcG ci aG_0 aG_1 aG_2 aG_3 aG_4 zG) ++ ((wcS ci aS_0 aS_1 zS) ++ ((wcP ci aP_0 aP_1 aQ zP) ++ (wcN ci aN_0 aN_1 aN_2 aN_3 aN_4 zN)))))) := hD
        replace hF := bnd hF
        obtain ⟨r_22, hc_23, hF⟩ := hF
        refine cl_Sie (As := [.long r_20]) (rest := []) ⟨hx, hb, hml, hown, hts⟩ (va_cwS 1 hts gX6_told_J13_bitCount_95d88 rfl rfl rfl (by decide +kernel) ⟨Nat.le_of_ble_eq_true rfl, Nat.le_of_ble_eq_true rfl⟩) (c_J13_bitCount_95d88 l D ci  H.size r_20 _ hc_23) hK hP hD hS hA rfl rfl hl.1 (Nat.le_of_ble_eq_true rfl) dX6_told_179 (Nat.zero_le _) (Nat.zero_le _) (fun H locs hP hD hS => ?_)
        have hP : va_P D vwCl ((wcX aX_0 aR_0 aG_0 aS_0 aP_0 aN_0 aI_0 aT_0 zX) ++ ((wcR ci aR_0 aR_1 aRG_0 aRS_0 zR) ++ ((wcG ci aG_0 aG_1 aG_2 aG_3 aG_4 zG) ++ ((wcS ci aS_0 aS_1 zS) ++ ((wcP ci aP_0 aP_1 aQ zP) ++ (wcN ci aN_0 aN_1 aN_2 aN_3 aN_4 zN)))))) H := hP
        have hD : va_D A ((wcX aX_0 aR_0 aG_0 aS_0 aP_0 aN_0 aI_0 aT_0 zX) ++ ((wcR ci aR_0 aR_1 aRG_0 aRS_0 zR) ++ ((wcG ci aG_0 aG_1 aG_2 aG_3 aG_4 zG) ++ ((wcS ci aS_0 aS_1 zS) ++ ((wcP ci aP_0 aP_1 aQ zP) ++ (wcN ci aN_0 aN_1 aN_2 aN_3 aN_4 zN)))))) := hD
        obtain rfl := Option.some.inj hF
        exact W.iret (v := r_22) hx hb hr (fun t ht hW => ⟨⟨_, (), rfl, rfl, by rw [ht]; exact hP, va_K.moved hW.alike hK, hD⟩, hS.F ht⟩) hS.2.2 dX6_told_182
      replace hF := if_o c_19 hF
      by_cases c_24 : k_3 = 10
      · replace hF := if_i c_24 hF
        subst c_24
        refine lv_tableIn (tgt := 183) hx hb dX6_told_14 (by decide) (by decide) rfl (by decide) ?_
        refine lv_aload_n hx hb dX6_told_183 rfl (lv_at hl 0 rfl) ?_
        refine va_get (D := D) (ci := 6) (v := .ref aN_0) (C := RX6) (T := TX6) (N := 9) hx hb hts hin_RX6 hown hK hP 0 rfl rfl 4 (by decide) hk_16 (fun _ h9 => h9) rfl dX6_told_184 ?_
        refine va_get (D := D) (ci := 2) (v := .int (zN.1 0)) (C := RX2) (T := TX2) (N := 6) hx hb hts hin_RX2 hown hK hP 12 rfl rfl 0 (by decide) hk_17 (fun _ h9 => h9) rfl dX6_told_187 ?_
        obtain rfl := Option.some.inj hF
        exact W.iret (v := (zN.1 0)) hx hb hr (fun t ht hW => ⟨⟨_, (), rfl, rfl, by rw [ht]; exact hP, va_K.moved hW.alike hK, hD⟩, hS.F ht⟩) hS.2.2 dX6_told_190
      replace hF := if_o c_24 hF
      by_cases c_25 : k_3 = 11
      · replace hF := if_i c_25 hF
        subst c_25
        refine lv_tableIn (tgt := 191) hx hb dX6_told_14 (by decide) (by decide) rfl (by decide) ?_
        refine lv_aload_n hx hb dX6_told_191 rfl (lv_at hl 0 rfl) ?_
        refine va_get (D := D) (ci := 6) (v := .ref aN_0) (C := RX6) (T := TX6) (N := 9) hx hb hts hin_RX6 hown hK hP 0 rfl rfl 4 (by decide) hk_16 (fun _ h9 => h9) rfl dX6_told_192 ?_
        refine va_get (D := D) (ci := 2) (v := .int (zN.1 1)) (C := RX2) (T := TX2) (N := 6) hx hb hts hin_RX2 hown hK hP 12 rfl rfl 1 (by decide) hk_19 (fun _ h9 => h9) rfl dX6_told_195 ?_
        obtain rfl := Option.some.inj hF
        exact W.iret (v := (zN.1 1)) hx hb hr (fun t ht hW => ⟨⟨_, (), rfl, rfl, by rw [ht]; exact hP, va_K.moved hW.alike hK, hD⟩, hS.F ht⟩) hS.2.2 dX6_told_198
      replace hF := if_o c_25 hF
      have tc_4 := lv_neT c_4 (a := 0) (by decide)
      have tc_5 := lv_neT c_5 (a := 1) (by decide)
      have tc_6 := lv_neT c_6 (a := 2) (by decide)
      have tc_7 := lv_neT c_7 (a := 3) (by decide)
      have tc_8 := lv_neT c_8 (a := 4) (by decide)
      have tc_9 := lv_neT c_9 (a := 5) (by decide)
      have tc_10 := lv_neT c_10 (a := 6) (by decide)
      have tc_13 := lv_neT c_13 (a := 7) (by decide)
      have tc_16 := lv_neT c_16 (a := 8) (by decide)
      have tc_19 := lv_neT c_19 (a := 9) (by decide)
      have tc_24 := lv_neT c_24 (a := 10) (by decide)
      have tc_25 := lv_neT c_25 (a := 11) (by decide)
      refine lv_tableOut (tgt := 199) hx hb dX6_told_14 (by omega) (by decide) ?_
      refine lv_aload_n hx hb dX6_told_199 rfl (lv_at hl 0 rfl) ?_
      refine va_get (D := D) (ci := 6) (v := .ref aP_0) (C := RX6) (T := TX6) (N := 9) hx hb hts hin_RX6 hown hK hP 0 rfl rfl 3 (by decide) hk_20 (fun _ h9 => h9) rfl dX6_told_200 ?_
      refine va_get (D := D) (ci := 3) (v := .int (zP 1)) (C := RX3) (T := TX3) (N := 3) hx hb hts hin_RX3 hown hK hP 10 rfl rfl 1 (by decide) hk_21 (fun _ h9 => h9) rfl dX6_told_203 ?_
      obtain rfl := Option.some.inj hF
      exact W.iret (v := (zP 1)) hx hb hr (fun t ht hW => ⟨⟨_, (), rfl, rfl, by rw [ht]; exact hP, va_K.moved hW.alike hK, hD⟩, hS.F ht⟩) hS.2.2 dX6_told_206
    · replace hF := if_o c_2 hF
      refine lv_ldc (v := (-1000000002)) hx hb hown hk_0 dX6_told_10 ?_
      obtain rfl := Option.some.inj hF
      exact W.iret (v := (-1000000002)) hx hb hr (fun t ht hW => ⟨⟨_, (), rfl, rfl, by rw [ht]; exact hP, va_K.moved hW.alike hK, hD⟩, hS.F ht⟩) hS.2.2 dX6_told_12
noncomputable def f_X6_field (zX : XS) (zG : GS) (zS : SS) (p1 : Int32) (p2 : Int32) : Option (Int32) := (f_X0_hasField zG p1).bind fun r_1 => if r_1 = 0 then (some (-1000000001 : Int32)) else (if p2 < 0 then (some (-1000000002 : Int32)) else (if p2 ≤ 3 then (nm p2 fun k_6 => if k_6 = 0 then (ald 25 (zG.2.2.1 9) p1 fun x_9 => some x_9) else if k_6 = 1 then ((f_X5_ownerOf zS p1).bind fun r_11 => some r_11) else if k_6 = 2 then ((f_X5_shutEdges zG zS).bind fun r_14 => (f_X0_landFrom zG ((1 : Int32) <<< (p1 &&& 31)) r_14).bind fun r_16 => (f_J6_bitCount_0f7a4 r_16).bind fun r_18 => some r_18) else ((f_X5_shutEdges zG zS).bind fun r_20 => (f_X0_landFrom zG ((1 : Int32) <<< (p1 &&& 31)) r_20).bind fun r_22 => (f_X0_shutInBy zG r_22 (zS.1 1)).bind fun r_24 => some r_24)) else (some (-1000000002 : Int32))))
set_option maxHeartbeats 4000000 in
set_option maxRecDepth 100000 in
theorem c_X6_field (l : Launch) (D : va_G) (ci : Nat → ClassId) (aX_0 : Nat) (aR_0 : Nat) (aG_0 : Nat) (aS_0 : Nat) (aP_0 : Nat) (aN_0 : Nat) (aI_0 : Nat) (aT_0 : Nat) (aG_1 : Nat) (aG_2 : Nat) (aG_3 : Nat) (aG_4 : Nat) (aS_1 : Nat) (sz : Nat) (zX : XS) (zG : GS) (zS : SS) (p1 : Int32) (p2 : Int32) (res : Int32) (hF : f_X6_field zX zG zS p1 p2 = some res) : CtI l yX6_field wsX6_field { frames := 4, cells := 0, slots := 0, locals := 89 } [.ref aX_0, .int p1, .int p2] D ci ((wcX aX_0 aR_0 aG_0 aS_0 aP_0 aN_0 aI_0 aT_0 zX) ++ ((wcG ci aG_0 aG_1 aG_2 aG_3 aG_4 zG) ++ (wcS ci aS_0 aS_1 zS))) sz res ((wcX aX_0 aR_0 aG_0 aS_0 aP_0 aN_0 aI_0 aT_0 zX) ++ ((wcG ci aG_0 aG_1 aG_2 aG_3 aG_4 zG) ++ (wcS ci aS_0 aS_1 zS))) := by
  refine Met.ofW (cc := cX6_field) (maxL := 3) (ret := (some .int)) (by decide) rfl ?_
  intro p e s m args below meth c s₁ B hml hv
  obtain ⟨rfl, hsz, hP, hK, hD0⟩ := hv
  have hx := B.exec
  have hb := B.bytes
  have hr := B.returns
  have hts := atoms_spec (ws := wsX6_field) B.pre
  have hown : s.vm.findClass RX6 = some m.cls := findClass_of_methodNamed B.named
  have hlocks := B.notSynchronized
  subst hsz
  have hD := hD0.self (sz := s.heap.size)
  generalize hAe : va_A ((wcX aX_0 aR_0 aG_0 aS_0 aP_0 aN_0 aI_0 aT_0 zX) ++ ((wcG ci aG_0 aG_1 aG_2 aG_3 aG_4 zG) ++ (wcS ci aS_0 aS_1 zS))) s.heap.size = A at hD ⊢
  have hA : ∀ q : Nat, s.heap.size ≤ q → A q := fun q h => by rw [← hAe]; exact Or.inr h
  clear hD0 hAe
  have hl := lv_entry ([.ref aX_0, .int p1, .int p2]) (n := 3) (Nat.le_of_ble_eq_true rfl)
  rw [lg_entry_eq]
  generalize (lg_sl ([.ref aX_0, .int p1, .int p2]) ++ List.replicate (3 - (lg_sl ([.ref aX_0, .int p1, .int p2])).length) Slot.unset).toArray = ls at hl ⊢
  have hl : lv_has ls 3 [(0, .ref aX_0), (1, .int p1), (2, .int p2)] := hl
  have hP : va_P D vwCl ((wcX aX_0 aR_0 aG_0 aS_0 aP_0 aN_0 aI_0 aT_0 zX) ++ ((wcG ci aG_0 aG_1 aG_2 aG_3 aG_4 zG) ++ (wcS ci aS_0 aS_1 zS))) s.heap := hP
  generalize hH0 : s.heap = H at hP ⊢
  have hS : va_S A s.heap H [] := by rw [← hH0]; exact va_S.rf
  clear hH0
  generalize ([] : List Loc) = locs at hS ⊢
  have hk_0 := hts (.fieldLink RX6 19 "HedgeWar" "ground" "LHedgeWar$Ground;") (by decide +kernel)
  have hin_RX6 : ∀ w ∈ wsX60, w ∈ wsX6_field := by decide +kernel
  have hk_2 := hts (.constant RX6 62 (-1000000002)) (by decide +kernel)
  have hk_3 := hts (.fieldLink RX6 148 "HedgeWar$Ground" "soils" "[I") (by decide +kernel)
  have hin_RX0 : ∀ w ∈ wsX00, w ∈ wsX6_field := by decide +kernel
  have hk_5 := hts (.fieldLink RX6 26 "HedgeWar" "now" "LHedgeWar$Stand;") (by decide +kernel)
  have hk_6 := hts (.fieldLink RX6 162 "HedgeWar$Stand" "ofOne" "J") (by decide +kernel)
  have hin_RX5 : ∀ w ∈ wsX50, w ∈ wsX6_field := by decide +kernel
  have hk_8 := hts (.constant RX6 147 (-1000000001)) (by decide +kernel)
  unfold f_X6_field at hF
  refine lv_aload_n hx hb dX6_field_0 rfl (lv_at hl 0 rfl) ?_
  refine va_get (D := D) (ci := 6) (v := .ref aG_0) (C := RX6) (T := TX6) (N := 9) hx hb hts hin_RX6 hown hK hP 0 rfl rfl 1 (by decide) hk_0 (fun _ h9 => h9) rfl dX6_field_1 ?_
  refine lv_iload_n hx hb dX6_field_4 rfl (lv_at hl 1 rfl) ?_
  replace hF := bnd hF
  obtain ⟨r_1, hc_2, hF⟩ := hF
  refine cl_Vi (As := [.int p1]) (rest := []) (wc := (wcG ci aG_0 aG_1 aG_2 aG_3 aG_4 zG)) (wr := ([0, 6, 7].filterMap (fun i => ((wcX aX_0 aR_0 aG_0 aS_0 aP_0 aN_0 aI_0 aT_0 zX) ++ ((wcG ci aG_0 aG_1 aG_2 aG_3 aG_4 zG) ++ (wcS ci aS_0 aS_1 zS)))[i]?))) (w1 := (wcG ci aG_0 aG_1 aG_2 aG_3 aG_4 zG)) (wn := ((wcX aX_0 aR_0 aG_0 aS_0 aP_0 aN_0 aI_0 aT_0 zX) ++ ((wcG ci aG_0 aG_1 aG_2 aG_3 aG_4 zG) ++ (wcS ci aS_0 aS_1 zS)))) ⟨hx, hb, hml, hown, hts⟩ (cwV 1 hts gX6_field_X0_hasField rfl rfl rfl (by decide +kernel) ⟨Nat.le_of_ble_eq_true rfl, Nat.le_of_ble_eq_true rfl⟩) (c_X0_hasField l D ci aG_0 aG_1 aG_2 aG_3 aG_4 H.size zG p1 _ hc_2) hK hP hD hS hA [1, 2, 3, 4, 5] [0, 6, 7] [0, 3, 4, 5, 6, 7, 1, 2] rfl rfl rfl (by decide) 0 rfl rfl rfl rfl hl.1 (Nat.le_of_ble_eq_true rfl) dX6_field_5 (Nat.zero_le _) (Nat.zero_le _) (fun H locs hP hD hS => ?_)
  have hP : va_P D vwCl ((wcX aX_0 aR_0 aG_0 aS_0 aP_0 aN_0 aI_0 aT_0 zX) ++ ((wcG ci aG_0 aG_1 aG_2 aG_3 aG_4 zG) ++ (wcS ci aS_0 aS_1 zS))) H := hP
  have hD : va_D A ((wcX aX_0 aR_0 aG_0 aS_0 aP_0 aN_0 aI_0 aT_0 zX) ++ ((wcG ci aG_0 aG_1 aG_2 aG_3 aG_4 zG) ++ (wcS ci aS_0 aS_1 zS))) := hD
  refine lv_if_ne (tgt := 14) hx hb dX6_field_8 (by decide) (fun c_3 => ?_) (fun c_3 => ?_)
  · replace hF := if_o c_3 hF
    refine lv_iload_n hx hb dX6_field_14 rfl (lv_at hl 2 rfl) ?_
    refine lv_if_lt (tgt := 23) hx hb dX6_field_15 (by decide) (fun c_4 => ?_) (fun c_4 => ?_)
    · replace hF := if_i c_4 hF
      refine lv_ldc (v := (-1000000002)) hx hb hown hk_2 dX6_field_23 ?_
      obtain rfl := Option.some.inj hF
      exact W.iret (v := (-1000000002)) hx hb hr (fun t ht hW => ⟨⟨_, (), rfl, rfl, by rw [ht]; exact hP, va_K.moved hW.alike hK, hD⟩, hS.F ht⟩) hS.2.2 dX6_field_25
    · replace hF := if_o c_4 hF
      refine lv_iload_n hx hb dX6_field_18 rfl (lv_at hl 2 rfl) ?_
      refine lv_iconst (v := 3) hx hb dX6_field_19 (by decide) ?_
      refine lv_icmp_le (tgt := 26) hx hb dX6_field_20 (by decide) (fun c_5 => ?_) (fun c_5 => ?_)
      · replace hF := if_i c_5 hF
        refine lv_iload_n hx hb dX6_field_26 rfl (lv_at hl 2 rfl) ?_
        refine lv_topi (fun k_6 ek_6 => ?_)
        replace hF := nm_i hF ek_6
        by_cases c_7 : k_6 = 0
        · replace hF := if_i c_7 hF
          subst c_7
          refine lv_tableIn (tgt := 52) hx hb dX6_field_27 (by decide) (by decide) rfl (by decide) ?_
          refine lv_aload_n hx hb dX6_field_52 rfl (lv_at hl 0 rfl) ?_
          refine va_get (D := D) (ci := 6) (v := .ref aG_0) (C := RX6) (T := TX6) (N := 9) hx hb hts hin_RX6 hown hK hP 0 rfl rfl 1 (by decide) hk_0 (fun _ h9 => h9) rfl dX6_field_53 ?_
          refine va_get (D := D) (ci := 0) (v := .ref aG_1) (C := RX0) (T := TX0) (N := 13) hx hb hts hin_RX0 hown hK hP 1 rfl rfl 9 (by decide) hk_3 (fun _ h9 => h9) rfl dX6_field_56 ?_
          refine lv_iload_n hx hb dX6_field_59 rfl (lv_at hl 1 rfl) ?_
          replace hF := ald_i hF
          obtain ⟨hin_8, hF⟩ := hF
          refine va_iald hx hb hK hP 2 0 rfl rfl hin_8 dX6_field_60 ?_
          refine lv_topi (fun x_9 ex_9 => ?_)
          replace hF := nm_i hF ex_9
          obtain rfl := Option.some.inj hF
          exact W.iret (v := x_9) hx hb hr (fun t ht hW => ⟨⟨_, (), rfl, rfl, by rw [ht]; exact hP, va_K.moved hW.alike hK, hD⟩, hS.F ht⟩) hS.2.2 dX6_field_61
        replace hF := if_o c_7 hF
        by_cases c_10 : k_6 = 1
        · replace hF := if_i c_10 hF
          subst c_10
          refine lv_tableIn (tgt := 62) hx hb dX6_field_27 (by decide) (by decide) rfl (by decide) ?_
          refine lv_aload_n hx hb dX6_field_62 rfl (lv_at hl 0 rfl) ?_
          refine va_get (D := D) (ci := 6) (v := .ref aS_0) (C := RX6) (T := TX6) (N := 9) hx hb hts hin_RX6 hown hK hP 0 rfl rfl 2 (by decide) hk_5 (fun _ h9 => h9) rfl dX6_field_63 ?_
          refine lv_iload_n hx hb dX6_field_66 rfl (lv_at hl 1 rfl) ?_
          replace hF := bnd hF
          obtain ⟨r_11, hc_12, hF⟩ := hF
          refine cl_Vi (As := [.int p1]) (rest := []) (wc := (wcS ci aS_0 aS_1 zS)) (wr := ([0, 1, 2, 3, 4, 5].filterMap (fun i => ((wcX aX_0 aR_0 aG_0 aS_0 aP_0 aN_0 aI_0 aT_0 zX) ++ ((wcG ci aG_0 aG_1 aG_2 aG_3 aG_4 zG) ++ (wcS ci aS_0 aS_1 zS)))[i]?))) (w1 := (wcS ci aS_0 aS_1 zS)) (wn := ((wcX aX_0 aR_0 aG_0 aS_0 aP_0 aN_0 aI_0 aT_0 zX) ++ ((wcG ci aG_0 aG_1 aG_2 aG_3 aG_4 zG) ++ (wcS ci aS_0 aS_1 zS)))) ⟨hx, hb, hml, hown, hts⟩ (cwV 1 hts gX6_field_X5_ownerOf rfl rfl rfl (by decide +kernel) ⟨Nat.le_of_ble_eq_true rfl, Nat.le_of_ble_eq_true rfl⟩) (c_X5_ownerOf l D ci aS_0 aS_1 H.size zS p1 _ hc_12) hK hP hD hS hA [6, 7] [0, 1, 2, 3, 4, 5] [0, 1, 2, 3, 4, 5, 6, 7] rfl rfl rfl (by decide) 0 rfl rfl rfl rfl hl.1 (Nat.le_of_ble_eq_true rfl) dX6_field_67 (Nat.zero_le _) (Nat.zero_le _) (fun H locs hP hD hS => ?_)
          have hP : va_P D vwCl ((wcX aX_0 aR_0 aG_0 aS_0 aP_0 aN_0 aI_0 aT_0 zX) ++ ((wcG ci aG_0 aG_1 aG_2 aG_3 aG_4 zG) ++ (wcS ci aS_0 aS_1 zS))) H := hP
          have hD : va_D A ((wcX aX_0 aR_0 aG_0 aS_0 aP_0 aN_0 aI_0 aT_0 zX) ++ ((wcG ci aG_0 aG_1 aG_2 aG_3 aG_4 zG) ++ (wcS ci aS_0 aS_1 zS))) := hD
          obtain rfl := Option.some.inj hF
          exact W.iret (v := r_11) hx hb hr (fun t ht hW => ⟨⟨_, (), rfl, rfl, by rw [ht]; exact hP, va_K.moved hW.alike hK, hD⟩, hS.F ht⟩) hS.2.2 dX6_field_70
        replace hF := if_o c_10 hF
        by_cases c_13 : k_6 = 2
        · replace hF := if_i c_13 hF
          subst c_13
          refine lv_tableIn (tgt := 71) hx hb dX6_field_27 (by decide) (by decide) rfl (by decide) ?_
          refine lv_aload_n hx hb dX6_field_71 rfl (lv_at hl 0 rfl) ?_
          refine va_get (D := D) (ci := 6) (v := .ref aG_0) (C := RX6) (T := TX6) (N := 9) hx hb hts hin_RX6 hown hK hP 0 rfl rfl 1 (by decide) hk_0 (fun _ h9 => h9) rfl dX6_field_72 ?_
          refine lv_iconst (v := 1) hx hb dX6_field_75 (by decide) ?_
          refine lv_iload_n hx hb dX6_field_76 rfl (lv_at hl 1 rfl) ?_
          refine lv_ishl hx hb dX6_field_77 ?_
          refine lv_aload_n hx hb dX6_field_78 rfl (lv_at hl 0 rfl) ?_
          refine va_get (D := D) (ci := 6) (v := .ref aS_0) (C := RX6) (T := TX6) (N := 9) hx hb hts hin_RX6 hown hK hP 0 rfl rfl 2 (by decide) hk_5 (fun _ h9 => h9) rfl dX6_field_79 ?_
          refine lv_aload_n hx hb dX6_field_82 rfl (lv_at hl 0 rfl) ?_
          refine va_get (D := D) (ci := 6) (v := .ref aG_0) (C := RX6) (T := TX6) (N := 9) hx hb hts hin_RX6 hown hK hP 0 rfl rfl 1 (by decide) hk_0 (fun _ h9 => h9) rfl dX6_field_83 ?_
          replace hF := bnd hF
          obtain ⟨r_14, hc_15, hF⟩ := hF
          refine cl_Vl (As := [.ref aG_0]) (rest := [.int ((1 : Int32) <<< (p1 &&& 31)), .ref aG_0]) (wc := ((wcG ci aG_0 aG_1 aG_2 aG_3 aG_4 zG) ++ (wcS ci aS_0 aS_1 zS))) (wr := ([0].filterMap (fun i => ((wcX aX_0 aR_0 aG_0 aS_0 aP_0 aN_0 aI_0 aT_0 zX) ++ ((wcG ci aG_0 aG_1 aG_2 aG_3 aG_4 zG) ++ (wcS ci aS_0 aS_1 zS)))[i]?))) (w1 := ((wcG ci aG_0 aG_1 aG_2 aG_3 aG_4 zG) ++ (wcS ci aS_0 aS_1 zS))) (wn := ((wcX aX_0 aR_0 aG_0 aS_0 aP_0 aN_0 aI_0 aT_0 zX) ++ ((wcG ci aG_0 aG_1 aG_2 aG_3 aG_4 zG) ++ (wcS ci aS_0 aS_1 zS)))) ⟨hx, hb, hml, hown, hts⟩ (cwV 1 hts gX6_field_X5_shutEdges rfl rfl rfl (by decide +kernel) ⟨Nat.le_of_ble_eq_true rfl, Nat.le_of_ble_eq_true rfl⟩) (c_X5_shutEdges l D ci aG_0 aG_1 aG_2 aG_3 aG_4 aS_0 aS_1 H.size zG zS _ hc_15) hK hP hD hS hA [1, 2, 3, 4, 5, 6, 7] [0] [0, 1, 2, 3, 4, 5, 6, 7] rfl rfl rfl (by decide) 5 rfl rfl rfl rfl hl.1 (Nat.le_of_ble_eq_true rfl) dX6_field_86 (Nat.zero_le _) (Nat.zero_le _) (fun H locs hP hD hS => ?_)
          have hP : va_P D vwCl ((wcX aX_0 aR_0 aG_0 aS_0 aP_0 aN_0 aI_0 aT_0 zX) ++ ((wcG ci aG_0 aG_1 aG_2 aG_3 aG_4 zG) ++ (wcS ci aS_0 aS_1 zS))) H := hP
          have hD : va_D A ((wcX aX_0 aR_0 aG_0 aS_0 aP_0 aN_0 aI_0 aT_0 zX) ++ ((wcG ci aG_0 aG_1 aG_2 aG_3 aG_4 zG) ++ (wcS ci aS_0 aS_1 zS))) := hD
          replace hF := bnd hF
          obtain ⟨r_16, hc_17, hF⟩ := hF
          refine cl_Vi (As := [.int ((1 : Int32) <<< (p1 &&& 31)), .long r_14]) (rest := []) (wc := (wcG ci aG_0 aG_1 aG_2 aG_3 aG_4 zG)) (wr := ([0, 6, 7].filterMap (fun i => ((wcX aX_0 aR_0 aG_0 aS_0 aP_0 aN_0 aI_0 aT_0 zX) ++ ((wcG ci aG_0 aG_1 aG_2 aG_3 aG_4 zG) ++ (wcS ci aS_0 aS_1 zS)))[i]?))) (w1 := (wcG ci aG_0 aG_1 aG_2 aG_3 aG_4 zG)) (wn := ((wcX aX_0 aR_0 aG_0 aS_0 aP_0 aN_0 aI_0 aT_0 zX) ++ ((wcG ci aG_0 aG_1 aG_2 aG_3 aG_4 zG) ++ (wcS ci aS_0 aS_1 zS)))) ⟨hx, hb, hml, hown, hts⟩ (cwV 2 hts gX6_field_X0_landFrom rfl rfl rfl (by decide +kernel) ⟨Nat.le_of_ble_eq_true rfl, Nat.le_of_ble_eq_true rfl⟩) (c_X0_landFrom l D ci aG_0 aG_1 aG_2 aG_3 aG_4 H.size zG ((1 : Int32) <<< (p1 &&& 31)) r_14 _ hc_17) hK hP hD hS hA [1, 2, 3, 4, 5] [0, 6, 7] [0, 3, 4, 5, 6, 7, 1, 2] rfl rfl rfl (by decide) 0 rfl rfl rfl rfl hl.1 (Nat.le_of_ble_eq_true rfl) dX6_field_89 (Nat.zero_le _) (Nat.zero_le _) (fun H locs hP hD hS => ?_)
          have hP : va_P D vwCl ((wcX aX_0 aR_0 aG_0 aS_0 aP_0 aN_0 aI_0 aT_0 zX) ++ ((wcG ci aG_0 aG_1 aG_2 aG_3 aG_4 zG) ++ (wcS ci aS_0 aS_1 zS))) H := hP
          have hD : va_D A ((wcX aX_0 aR_0 aG_0 aS_0 aP_0 aN_0 aI_0 aT_0 zX) ++ ((wcG ci aG_0 aG_1 aG_2 aG_3 aG_4 zG) ++ (wcS ci aS_0 aS_1 zS))) := hD
          replace hF := bnd hF
          obtain ⟨r_18, hc_19, hF⟩ := hF
          refine cl_Sie (As := [.int r_16]) (rest := []) ⟨hx, hb, hml, hown, hts⟩ (va_cwS 1 hts gX6_field_J6_bitCount_0f7a4 rfl rfl rfl (by decide +kernel) ⟨Nat.le_of_ble_eq_true rfl, Nat.le_of_ble_eq_true rfl⟩) (c_J6_bitCount_0f7a4 l D ci  H.size r_16 _ hc_19) hK hP hD hS hA rfl rfl hl.1 (Nat.le_of_ble_eq_true rfl) dX6_field_92 (Nat.zero_le _) (Nat.zero_le _) (fun H locs hP hD hS => ?_)
          have hP : va_P D vwCl ((wcX aX_0 aR_0 aG_0 aS_0 aP_0 aN_0 aI_0 aT_0 zX) ++ ((wcG ci aG_0 aG_1 aG_2 aG_3 aG_4 zG) ++ (wcS ci aS_0 aS_1 zS))) H := hP
          have hD : va_D A ((wcX aX_0 aR_0 aG_0 aS_0 aP_0 aN_0 aI_0 aT_0 zX) ++ ((wcG ci aG_0 aG_1 aG_2 aG_3 aG_4 zG) ++ (wcS ci aS_0 aS_1 zS))) := hD
          obtain rfl := Option.some.inj hF
          exact W.iret (v := r_18) hx hb hr (fun t ht hW => ⟨⟨_, (), rfl, rfl, by rw [ht]; exact hP, va_K.moved hW.alike hK, hD⟩, hS.F ht⟩) hS.2.2 dX6_field_95
        replace hF := if_o c_13 hF
        have tc_7 := lv_neT c_7 (a := 0) (by decide)
        have tc_10 := lv_neT c_10 (a := 1) (by decide)
        have tc_13 := lv_neT c_13 (a := 2) (by decide)
        refine lv_tableOut (tgt := 96) hx hb dX6_field_27 (by omega) (by decide) ?_
        refine lv_aload_n hx hb dX6_field_96 rfl (lv_at hl 0 rfl) ?_
        refine va_get (D := D) (ci := 6) (v := .ref aG_0) (C := RX6) (T := TX6) (N := 9) hx hb hts hin_RX6 hown hK hP 0 rfl rfl 1 (by decide) hk_0 (fun _ h9 => h9) rfl dX6_field_97 ?_
        refine lv_aload_n hx hb dX6_field_100 rfl (lv_at hl 0 rfl) ?_
        refine va_get (D := D) (ci := 6) (v := .ref aG_0) (C := RX6) (T := TX6) (N := 9) hx hb hts hin_RX6 hown hK hP 0 rfl rfl 1 (by decide) hk_0 (fun _ h9 => h9) rfl dX6_field_101 ?_
        refine lv_iconst (v := 1) hx hb dX6_field_104 (by decide) ?_
        refine lv_iload_n hx hb dX6_field_105 rfl (lv_at hl 1 rfl) ?_
        refine lv_ishl hx hb dX6_field_106 ?_
        refine lv_aload_n hx hb dX6_field_107 rfl (lv_at hl 0 rfl) ?_
        refine va_get (D := D) (ci := 6) (v := .ref aS_0) (C := RX6) (T := TX6) (N := 9) hx hb hts hin_RX6 hown hK hP 0 rfl rfl 2 (by decide) hk_5 (fun _ h9 => h9) rfl dX6_field_108 ?_
        refine lv_aload_n hx hb dX6_field_111 rfl (lv_at hl 0 rfl) ?_
        refine va_get (D := D) (ci := 6) (v := .ref aG_0) (C := RX6) (T := TX6) (N := 9) hx hb hts hin_RX6 hown hK hP 0 rfl rfl 1 (by decide) hk_0 (fun _ h9 => h9) rfl dX6_field_112 ?_
        replace hF := bnd hF
        obtain ⟨r_20, hc_21, hF⟩ := hF
        refine cl_Vl (As := [.ref aG_0]) (rest := [.int ((1 : Int32) <<< (p1 &&& 31)), .ref aG_0, .ref aG_0]) (wc := ((wcG ci aG_0 aG_1 aG_2 aG_3 aG_4 zG) ++ (wcS ci aS_0 aS_1 zS))) (wr := ([0].filterMap (fun i => ((wcX aX_0 aR_0 aG_0 aS_0 aP_0 aN_0 aI_0 aT_0 zX) ++ ((wcG ci aG_0 aG_1 aG_2 aG_3 aG_4 zG) ++ (wcS ci aS_0 aS_1 zS)))[i]?))) (w1 := ((wcG ci aG_0 aG_1 aG_2 aG_3 aG_4 zG) ++ (wcS ci aS_0 aS_1 zS))) (wn := ((wcX aX_0 aR_0 aG_0 aS_0 aP_0 aN_0 aI_0 aT_0 zX) ++ ((wcG ci aG_0 aG_1 aG_2 aG_3 aG_4 zG) ++ (wcS ci aS_0 aS_1 zS)))) ⟨hx, hb, hml, hown, hts⟩ (cwV 1 hts gX6_field_X5_shutEdges rfl rfl rfl (by decide +kernel) ⟨Nat.le_of_ble_eq_true rfl, Nat.le_of_ble_eq_true rfl⟩) (c_X5_shutEdges l D ci aG_0 aG_1 aG_2 aG_3 aG_4 aS_0 aS_1 H.size zG zS _ hc_21) hK hP hD hS hA [1, 2, 3, 4, 5, 6, 7] [0] [0, 1, 2, 3, 4, 5, 6, 7] rfl rfl rfl (by decide) 5 rfl rfl rfl rfl hl.1 (Nat.le_of_ble_eq_true rfl) dX6_field_115 (Nat.zero_le _) (Nat.zero_le _) (fun H locs hP hD hS => ?_)
        have hP : va_P D vwCl ((wcX aX_0 aR_0 aG_0 aS_0 aP_0 aN_0 aI_0 aT_0 zX) ++ ((wcG ci aG_0 aG_1 aG_2 aG_3 aG_4 zG) ++ (wcS ci aS_0 aS_1 zS))) H := hP
        have hD : va_D A ((wcX aX_0 aR_0 aG_0 aS_0 aP_0 aN_0 aI_0 aT_0 zX) ++ ((wcG ci aG_0 aG_1 aG_2 aG_3 aG_4 zG) ++ (wcS ci aS_0 aS_1 zS))) := hD
        replace hF := bnd hF
        obtain ⟨r_22, hc_23, hF⟩ := hF
        refine cl_Vi (As := [.int ((1 : Int32) <<< (p1 &&& 31)), .long r_20]) (rest := [.ref aG_0]) (wc := (wcG ci aG_0 aG_1 aG_2 aG_3 aG_4 zG)) (wr := ([0, 6, 7].filterMap (fun i => ((wcX aX_0 aR_0 aG_0 aS_0 aP_0 aN_0 aI_0 aT_0 zX) ++ ((wcG ci aG_0 aG_1 aG_2 aG_3 aG_4 zG) ++ (wcS ci aS_0 aS_1 zS)))[i]?))) (w1 := (wcG ci aG_0 aG_1 aG_2 aG_3 aG_4 zG)) (wn := ((wcX aX_0 aR_0 aG_0 aS_0 aP_0 aN_0 aI_0 aT_0 zX) ++ ((wcG ci aG_0 aG_1 aG_2 aG_3 aG_4 zG) ++ (wcS ci aS_0 aS_1 zS)))) ⟨hx, hb, hml, hown, hts⟩ (cwV 2 hts gX6_field_X0_landFrom rfl rfl rfl (by decide +kernel) ⟨Nat.le_of_ble_eq_true rfl, Nat.le_of_ble_eq_true rfl⟩) (c_X0_landFrom l D ci aG_0 aG_1 aG_2 aG_3 aG_4 H.size zG ((1 : Int32) <<< (p1 &&& 31)) r_20 _ hc_23) hK hP hD hS hA [1, 2, 3, 4, 5] [0, 6, 7] [0, 3, 4, 5, 6, 7, 1, 2] rfl rfl rfl (by decide) 0 rfl rfl rfl rfl hl.1 (Nat.le_of_ble_eq_true rfl) dX6_field_118 (Nat.zero_le _) (Nat.zero_le _) (fun H locs hP hD hS => ?_)
        have hP : va_P D vwCl ((wcX aX_0 aR_0 aG_0 aS_0 aP_0 aN_0 aI_0 aT_0 zX) ++ ((wcG ci aG_0 aG_1 aG_2 aG_3 aG_4 zG) ++ (wcS ci aS_0 aS_1 zS))) H := hP
        have hD : va_D A ((wcX aX_0 aR_0 aG_0 aS_0 aP_0 aN_0 aI_0 aT_0 zX) ++ ((wcG ci aG_0 aG_1 aG_2 aG_3 aG_4 zG) ++ (wcS ci aS_0 aS_1 zS))) := hD
        refine lv_aload_n hx hb dX6_field_121 rfl (lv_at hl 0 rfl) ?_
        refine va_get (D := D) (ci := 6) (v := .ref aS_0) (C := RX6) (T := TX6) (N := 9) hx hb hts hin_RX6 hown hK hP 0 rfl rfl 2 (by decide) hk_5 (fun _ h9 => h9) rfl dX6_field_122 ?_
        refine va_get (D := D) (ci := 5) (v := .long (zS.1 1)) (C := RX5) (T := TX5) (N := 6) hx hb hts hin_RX5 hown hK hP 6 rfl rfl 1 (by decide) hk_6 (fun _ h9 => h9) rfl dX6_field_125 ?_
        replace hF := bnd hF
        obtain ⟨r_24, hc_25, hF⟩ := hF
        refine cl_Vi (As := [.int r_22, .long (zS.1 1)]) (rest := []) (wc := (wcG ci aG_0 aG_1 aG_2 aG_3 aG_4 zG)) (wr := ([0, 6, 7].filterMap (fun i => ((wcX aX_0 aR_0 aG_0 aS_0 aP_0 aN_0 aI_0 aT_0 zX) ++ ((wcG ci aG_0 aG_1 aG_2 aG_3 aG_4 zG) ++ (wcS ci aS_0 aS_1 zS)))[i]?))) (w1 := (wcG ci aG_0 aG_1 aG_2 aG_3 aG_4 zG)) (wn := ((wcX aX_0 aR_0 aG_0 aS_0 aP_0 aN_0 aI_0 aT_0 zX) ++ ((wcG ci aG_0 aG_1 aG_2 aG_3 aG_4 zG) ++ (wcS ci aS_0 aS_1 zS)))) ⟨hx, hb, hml, hown, hts⟩ (cwV 2 hts gX6_field_X0_shutInBy rfl rfl rfl (by decide +kernel) ⟨Nat.le_of_ble_eq_true rfl, Nat.le_of_ble_eq_true rfl⟩) (c_X0_shutInBy l D ci aG_0 aG_1 aG_2 aG_3 aG_4 H.size zG r_22 (zS.1 1) _ hc_25) hK hP hD hS hA [1, 2, 3, 4, 5] [0, 6, 7] [0, 3, 4, 5, 6, 7, 1, 2] rfl rfl rfl (by decide) 0 rfl rfl rfl rfl hl.1 (Nat.le_of_ble_eq_true rfl) dX6_field_128 (Nat.zero_le _) (Nat.zero_le _) (fun H locs hP hD hS => ?_)
        have hP : va_P D vwCl ((wcX aX_0 aR_0 aG_0 aS_0 aP_0 aN_0 aI_0 aT_0 zX) ++ ((wcG ci aG_0 aG_1 aG_2 aG_3 aG_4 zG) ++ (wcS ci aS_0 aS_1 zS))) H := hP
        have hD : va_D A ((wcX aX_0 aR_0 aG_0 aS_0 aP_0 aN_0 aI_0 aT_0 zX) ++ ((wcG ci aG_0 aG_1 aG_2 aG_3 aG_4 zG) ++ (wcS ci aS_0 aS_1 zS))) := hD
        obtain rfl := Option.some.inj hF
        exact W.iret (v := r_24) hx hb hr (fun t ht hW => ⟨⟨_, (), rfl, rfl, by rw [ht]; exact hP, va_K.moved hW.alike hK, hD⟩, hS.F ht⟩) hS.2.2 dX6_field_131
      · replace hF := if_o c_5 hF
        refine lv_ldc (v := (-1000000002)) hx hb hown hk_2 dX6_field_23 ?_
        obtain rfl := Option.some.inj hF
        exact W.iret (v := (-1000000002)) hx hb hr (fun t ht hW => ⟨⟨_, (), rfl, rfl, by rw [ht]; exact hP, va_K.moved hW.alike hK, hD⟩, hS.F ht⟩) hS.2.2 dX6_field_25
  · replace hF := if_i c_3 hF
    refine lv_ldc (v := (-1000000001)) hx hb hown hk_8 dX6_field_11 ?_
    obtain rfl := Option.some.inj hF
    exact W.iret (v := (-1000000001)) hx hb hr (fun t ht hW => ⟨⟨_, (), rfl, rfl, by rw [ht]; exact hP, va_K.moved hW.alike hK, hD⟩, hS.F ht⟩) hS.2.2 dX6_field_13
noncomputable def f_X6_edge (zX : XS) (zG : GS) (zS : SS) (p1 : Int32) (p2 : Int32) : Option (Int32) := (f_X0_hasEdge zG p1).bind fun r_1 => if r_1 = 0 then (some (-1000000001 : Int32)) else (if p2 < 0 then (some (-1000000002 : Int32)) else (if p2 ≤ 7 then (ald 40 zG.2.2.2 p1 fun x_7 => (if (lg_cmp ((zS.1 0) &&& x_7) 0) = 0 then (some (0 : Int32)) else (some (1 : Int32))).bind fun t_8 => nm p2 fun k_12 => if k_12 = 0 then (ald 40 (zG.2.2.1 10) p1 fun x_15 => some x_15) else if k_12 = 1 then (ald 40 (zG.2.2.1 11) p1 fun x_18 => some x_18) else if k_12 = 2 then (if t_8 = 0 then (some (-1 : Int32)) else ((if (lg_cmp ((zS.1 1) &&& x_7) 0) = 0 then (some (0 : Int32)) else (some (1 : Int32))).bind fun t_21 => (f_X6_oneIf t_21).bind fun r_25 => some r_25)) else if k_12 = 3 then (if t_8 = 0 then (some (-1 : Int32)) else (ald 40 zS.2.2 p1 fun x_30 => some x_30)) else if k_12 = 4 then (if t_8 = 0 then (some (0 : Int32)) else (ald 40 zS.2.2 p1 fun x_34 => (f_X0_heightOn zG p1 x_34).bind fun r_35 => some r_35)) else if k_12 = 5 then ((if (lg_cmp ((zS.1 2) &&& x_7) 0) = 0 then (some (0 : Int32)) else (some (1 : Int32))).bind fun t_38 => (f_X6_oneIf t_38).bind fun r_42 => some r_42) else if k_12 = 6 then ((if (lg_cmp (zG.2.1 &&& x_7) 0) = 0 then (some (0 : Int32)) else (some (1 : Int32))).bind fun t_45 => (f_X6_oneIf t_45).bind fun r_49 => some r_49) else ((f_X5_shutEdges zG zS).bind fun r_51 => (if (lg_cmp (r_51 &&& x_7) 0) = 0 then (some (0 : Int32)) else (some (1 : Int32))).bind fun t_53 => (f_X6_oneIf t_53).bind fun r_57 => some r_57)) else (some (-1000000002 : Int32))))
set_option maxHeartbeats 4000000 in
set_option maxRecDepth 100000 in
theorem c_X6_edge (l : Launch) (D : va_G) (ci : Nat → ClassId) (aX_0 : Nat) (aR_0 : Nat) (aG_0 : Nat) (aS_0 : Nat) (aP_0 : Nat) (aN_0 : Nat) (aI_0 : Nat) (aT_0 : Nat) (aG_1 : Nat) (aG_2 : Nat) (aG_3 : Nat) (aG_4 : Nat) (aS_1 : Nat) (sz : Nat) (zX : XS) (zG : GS) (zS : SS) (p1 : Int32) (p2 : Int32) (res : Int32) (hF : f_X6_edge zX zG zS p1 p2 = some res) : CtI l yX6_edge wsX6_edge { frames := 4, cells := 0, slots := 0, locals := 89 } [.ref aX_0, .int p1, .int p2] D ci ((wcX aX_0 aR_0 aG_0 aS_0 aP_0 aN_0 aI_0 aT_0 zX) ++ ((wcG ci aG_0 aG_1 aG_2 aG_3 aG_4 zG) ++ (wcS ci aS_0 aS_1 zS))) sz res ((wcX aX_0 aR_0 aG_0 aS_0 aP_0 aN_0 aI_0 aT_0 zX) ++ ((wcG ci aG_0 aG_1 aG_2 aG_3 aG_4 zG) ++ (wcS ci aS_0 aS_1 zS))) := by
  refine Met.ofW (cc := cX6_edge) (maxL := 6) (ret := (some .int)) (by decide) rfl ?_
  intro p e s m args below meth c s₁ B hml hv
  obtain ⟨rfl, hsz, hP, hK, hD0⟩ := hv
  have hx := B.exec
  have hb := B.bytes
  have hr := B.returns
  have hts := atoms_spec (ws := wsX6_edge) B.pre
  have hown : s.vm.findClass RX6 = some m.cls := findClass_of_methodNamed B.named
  have hlocks := B.notSynchronized
  subst hsz
  have hD := hD0.self (sz := s.heap.size)
  generalize hAe : va_A ((wcX aX_0 aR_0 aG_0 aS_0 aP_0 aN_0 aI_0 aT_0 zX) ++ ((wcG ci aG_0 aG_1 aG_2 aG_3 aG_4 zG) ++ (wcS ci aS_0 aS_1 zS))) s.heap.size = A at hD ⊢
  have hA : ∀ q : Nat, s.heap.size ≤ q → A q := fun q h => by rw [← hAe]; exact Or.inr h
  clear hD0 hAe
  have hl := lv_entry ([.ref aX_0, .int p1, .int p2]) (n := 6) (Nat.le_of_ble_eq_true rfl)
  rw [lg_entry_eq]
  generalize (lg_sl ([.ref aX_0, .int p1, .int p2]) ++ List.replicate (6 - (lg_sl ([.ref aX_0, .int p1, .int p2])).length) Slot.unset).toArray = ls at hl ⊢
  have hl : lv_has ls 6 [(0, .ref aX_0), (1, .int p1), (2, .int p2)] := hl
  have hP : va_P D vwCl ((wcX aX_0 aR_0 aG_0 aS_0 aP_0 aN_0 aI_0 aT_0 zX) ++ ((wcG ci aG_0 aG_1 aG_2 aG_3 aG_4 zG) ++ (wcS ci aS_0 aS_1 zS))) s.heap := hP
  generalize hH0 : s.heap = H at hP ⊢
  have hS : va_S A s.heap H [] := by rw [← hH0]; exact va_S.rf
  clear hH0
  generalize ([] : List Loc) = locs at hS ⊢
  have hk_0 := hts (.fieldLink RX6 19 "HedgeWar" "ground" "LHedgeWar$Ground;") (by decide +kernel)
  have hin_RX6 : ∀ w ∈ wsX60, w ∈ wsX6_edge := by decide +kernel
  have hk_2 := hts (.constant RX6 62 (-1000000002)) (by decide +kernel)
  have hk_3 := hts (.fieldLink RX6 171 "HedgeWar$Ground" "places" "[J") (by decide +kernel)
  have hin_RX0 : ∀ w ∈ wsX00, w ∈ wsX6_edge := by decide +kernel
  have hk_5 := hts (.fieldLink RX6 26 "HedgeWar" "now" "LHedgeWar$Stand;") (by decide +kernel)
  have hk_6 := hts (.fieldLink RX6 112 "HedgeWar$Stand" "hedges" "J") (by decide +kernel)
  have hin_RX5 : ∀ w ∈ wsX50, w ∈ wsX6_edge := by decide +kernel
  have hk_8 := hts (.fieldLink RX6 174 "HedgeWar$Ground" "lesser" "[I") (by decide +kernel)
  have hk_9 := hts (.fieldLink RX6 177 "HedgeWar$Ground" "greater" "[I") (by decide +kernel)
  have hk_10 := hts (.fieldLink RX6 162 "HedgeWar$Stand" "ofOne" "J") (by decide +kernel)
  have hk_11 := hts (.fieldLink RX6 184 "HedgeWar$Stand" "ages" "[I") (by decide +kernel)
  have hk_12 := hts (.fieldLink RX6 191 "HedgeWar$Stand" "gates" "J") (by decide +kernel)
  have hk_13 := hts (.fieldLink RX6 194 "HedgeWar$Ground" "paths" "J") (by decide +kernel)
  have hk_14 := hts (.constant RX6 147 (-1000000001)) (by decide +kernel)
  unfold f_X6_edge at hF
  refine lv_aload_n hx hb dX6_edge_0 rfl (lv_at hl 0 rfl) ?_
  refine va_get (D := D) (ci := 6) (v := .ref aG_0) (C := RX6) (T := TX6) (N := 9) hx hb hts hin_RX6 hown hK hP 0 rfl rfl 1 (by decide) hk_0 (fun _ h9 => h9) rfl dX6_edge_1 ?_
  refine lv_iload_n hx hb dX6_edge_4 rfl (lv_at hl 1 rfl) ?_
  replace hF := bnd hF
  obtain ⟨r_1, hc_2, hF⟩ := hF
  refine cl_Vi (As := [.int p1]) (rest := []) (wc := (wcG ci aG_0 aG_1 aG_2 aG_3 aG_4 zG)) (wr := ([0, 6, 7].filterMap (fun i => ((wcX aX_0 aR_0 aG_0 aS_0 aP_0 aN_0 aI_0 aT_0 zX) ++ ((wcG ci aG_0 aG_1 aG_2 aG_3 aG_4 zG) ++ (wcS ci aS_0 aS_1 zS)))[i]?))) (w1 := (wcG ci aG_0 aG_1 aG_2 aG_3 aG_4 zG)) (wn := ((wcX aX_0 aR_0 aG_0 aS_0 aP_0 aN_0 aI_0 aT_0 zX) ++ ((wcG ci aG_0 aG_1 aG_2 aG_3 aG_4 zG) ++ (wcS ci aS_0 aS_1 zS)))) ⟨hx, hb, hml, hown, hts⟩ (cwV 1 hts gX6_edge_X0_hasEdge rfl rfl rfl (by decide +kernel) ⟨Nat.le_of_ble_eq_true rfl, Nat.le_of_ble_eq_true rfl⟩) (c_X0_hasEdge l D ci aG_0 aG_1 aG_2 aG_3 aG_4 H.size zG p1 _ hc_2) hK hP hD hS hA [1, 2, 3, 4, 5] [0, 6, 7] [0, 3, 4, 5, 6, 7, 1, 2] rfl rfl rfl (by decide) 0 rfl rfl rfl rfl hl.1 (Nat.le_of_ble_eq_true rfl) dX6_edge_5 (Nat.zero_le _) (Nat.zero_le _) (fun H locs hP hD hS => ?_)
  have hP : va_P D vwCl ((wcX aX_0 aR_0 aG_0 aS_0 aP_0 aN_0 aI_0 aT_0 zX) ++ ((wcG ci aG_0 aG_1 aG_2 aG_3 aG_4 zG) ++ (wcS ci aS_0 aS_1 zS))) H := hP
  have hD : va_D A ((wcX aX_0 aR_0 aG_0 aS_0 aP_0 aN_0 aI_0 aT_0 zX) ++ ((wcG ci aG_0 aG_1 aG_2 aG_3 aG_4 zG) ++ (wcS ci aS_0 aS_1 zS))) := hD
  refine lv_if_ne (tgt := 14) hx hb dX6_edge_8 (by decide) (fun c_3 => ?_) (fun c_3 => ?_)
  · replace hF := if_o c_3 hF
    refine lv_iload_n hx hb dX6_edge_14 rfl (lv_at hl 2 rfl) ?_
    refine lv_if_lt (tgt := 24) hx hb dX6_edge_15 (by decide) (fun c_4 => ?_) (fun c_4 => ?_)
    · replace hF := if_i c_4 hF
      refine lv_ldc (v := (-1000000002)) hx hb hown hk_2 dX6_edge_24 ?_
      obtain rfl := Option.some.inj hF
      exact W.iret (v := (-1000000002)) hx hb hr (fun t ht hW => ⟨⟨_, (), rfl, rfl, by rw [ht]; exact hP, va_K.moved hW.alike hK, hD⟩, hS.F ht⟩) hS.2.2 dX6_edge_26
    · replace hF := if_o c_4 hF
      refine lv_iload_n hx hb dX6_edge_18 rfl (lv_at hl 2 rfl) ?_
      refine lv_bipush (v := 7) hx hb dX6_edge_19 (by decide) ?_
      refine lv_icmp_le (tgt := 27) hx hb dX6_edge_21 (by decide) (fun c_5 => ?_) (fun c_5 => ?_)
      · replace hF := if_i c_5 hF
        refine lv_aload_n hx hb dX6_edge_27 rfl (lv_at hl 0 rfl) ?_
        refine va_get (D := D) (ci := 6) (v := .ref aG_0) (C := RX6) (T := TX6) (N := 9) hx hb hts hin_RX6 hown hK hP 0 rfl rfl 1 (by decide) hk_0 (fun _ h9 => h9) rfl dX6_edge_28 ?_
        refine va_get (D := D) (ci := 0) (v := .ref aG_4) (C := RX0) (T := TX0) (N := 13) hx hb hts hin_RX0 hown hK hP 1 rfl rfl 12 (by decide) hk_3 (fun _ h9 => h9) rfl dX6_edge_31 ?_
        refine lv_iload_n hx hb dX6_edge_34 rfl (lv_at hl 1 rfl) ?_
        replace hF := ald_i hF
        obtain ⟨hin_6, hF⟩ := hF
        refine va_lald hx hb hK hP 5 1 rfl rfl hin_6 dX6_edge_35 ?_
        refine lv_topl (fun x_7 ex_7 => ?_)
        replace hF := nm_i hF ex_7
        refine lv_lstore_n (lv' := [(3, .long x_7), (0, .ref aX_0), (1, .int p1), (2, .int p2)]) hx hb dX6_edge_36 rfl hl (by decide) rfl (fun ls hl => ?_)
        refine lv_aload_n hx hb dX6_edge_37 rfl (lv_at hl 1 rfl) ?_
        refine va_get (D := D) (ci := 6) (v := .ref aS_0) (C := RX6) (T := TX6) (N := 9) hx hb hts hin_RX6 hown hK hP 0 rfl rfl 2 (by decide) hk_5 (fun _ h9 => h9) rfl dX6_edge_38 ?_
        refine va_get (D := D) (ci := 5) (v := .long (zS.1 0)) (C := RX5) (T := TX5) (N := 6) hx hb hts hin_RX5 hown hK hP 6 rfl rfl 0 (by decide) hk_6 (fun _ h9 => h9) rfl dX6_edge_41 ?_
        refine lv_lload_n hx hb dX6_edge_44 rfl (lv_at hl 0 rfl) ?_
        refine lv_land hx hb dX6_edge_45 ?_
        refine lv_lconst (v := 0) hx hb dX6_edge_46 (by decide) ?_
        refine W.lcmp hx hb dX6_edge_47 ?_
        replace hF := bnd hF
        obtain ⟨t_8, hv_11, hF⟩ := hF
        refine jn (P := fun H locs ls => va_P D vwCl ((wcX aX_0 aR_0 aG_0 aS_0 aP_0 aN_0 aI_0 aT_0 zX) ++ ((wcG ci aG_0 aG_1 aG_2 aG_3 aG_4 zG) ++ (wcS ci aS_0 aS_1 zS))) H ∧ va_D A ((wcX aX_0 aR_0 aG_0 aS_0 aP_0 aN_0 aI_0 aT_0 zX) ++ ((wcG ci aG_0 aG_1 aG_2 aG_3 aG_4 zG) ++ (wcS ci aS_0 aS_1 zS))) ∧ va_S A s.heap H locs ∧ lv_has ls 6 [(0, .ref aX_0), (1, .int p1), (2, .int p2), (3, .long x_7)]) (pcJ := 56) (st := [.int t_8]) ?_ ?_
        · intro H locs ls hJ
          obtain ⟨hP, hD, hS, hl⟩ := hJ
          refine lv_istore (lv' := [(5, .int t_8), (0, .ref aX_0), (1, .int p1), (2, .int p2), (3, .long x_7)]) hx hb dX6_edge_56 hl (by decide) rfl (fun ls hl => ?_)
          refine lv_iload_n hx hb dX6_edge_58 rfl (lv_at hl 3 rfl) ?_
          refine lv_topi (fun k_12 ek_12 => ?_)
          replace hF := nm_i hF ek_12
          by_cases c_13 : k_12 = 0
          · replace hF := if_i c_13 hF
            subst c_13
            refine lv_tableIn (tgt := 100) hx hb dX6_edge_59 (by decide) (by decide) rfl (by decide) ?_
            refine lv_aload_n hx hb dX6_edge_100 rfl (lv_at hl 1 rfl) ?_
            refine va_get (D := D) (ci := 6) (v := .ref aG_0) (C := RX6) (T := TX6) (N := 9) hx hb hts hin_RX6 hown hK hP 0 rfl rfl 1 (by decide) hk_0 (fun _ h9 => h9) rfl dX6_edge_101 ?_
            refine va_get (D := D) (ci := 0) (v := .ref aG_2) (C := RX0) (T := TX0) (N := 13) hx hb hts hin_RX0 hown hK hP 1 rfl rfl 10 (by decide) hk_8 (fun _ h9 => h9) rfl dX6_edge_104 ?_
            refine lv_iload_n hx hb dX6_edge_107 rfl (lv_at hl 2 rfl) ?_
            replace hF := ald_i hF
            obtain ⟨hin_14, hF⟩ := hF
            refine va_iald hx hb hK hP 3 0 rfl rfl hin_14 dX6_edge_108 ?_
            refine lv_topi (fun x_15 ex_15 => ?_)
            replace hF := nm_i hF ex_15
            obtain rfl := Option.some.inj hF
            exact W.iret (v := x_15) hx hb hr (fun t ht hW => ⟨⟨_, (), rfl, rfl, by rw [ht]; exact hP, va_K.moved hW.alike hK, hD⟩, hS.F ht⟩) hS.2.2 dX6_edge_109
          replace hF := if_o c_13 hF
          by_cases c_16 : k_12 = 1
          · replace hF := if_i c_16 hF
            subst c_16
            refine lv_tableIn (tgt := 110) hx hb dX6_edge_59 (by decide) (by decide) rfl (by decide) ?_
            refine lv_aload_n hx hb dX6_edge_110 rfl (lv_at hl 1 rfl) ?_
            refine va_get (D := D) (ci := 6) (v := .ref aG_0) (C := RX6) (T := TX6) (N := 9) hx hb hts hin_RX6 hown hK hP 0 rfl rfl 1 (by decide) hk_0 (fun _ h9 => h9) rfl dX6_edge_111 ?_
            refine va_get (D := D) (ci := 0) (v := .ref aG_3) (C := RX0) (T := TX0) (N := 13) hx hb hts hin_RX0 hown hK hP 1 rfl rfl 11 (by decide) hk_9 (fun _ h9 => h9) rfl dX6_edge_114 ?_
            refine lv_iload_n hx hb dX6_edge_117 rfl (lv_at hl 2 rfl) ?_
            replace hF := ald_i hF
            obtain ⟨hin_17, hF⟩ := hF
            refine va_iald hx hb hK hP 4 0 rfl rfl hin_17 dX6_edge_118 ?_
            refine lv_topi (fun x_18 ex_18 => ?_)
            replace hF := nm_i hF ex_18
            obtain rfl := Option.some.inj hF
            exact W.iret (v := x_18) hx hb hr (fun t ht hW => ⟨⟨_, (), rfl, rfl, by rw [ht]; exact hP, va_K.moved hW.alike hK, hD⟩, hS.F ht⟩) hS.2.2 dX6_edge_119
          replace hF := if_o c_16 hF
          by_cases c_19 : k_12 = 2
          · replace hF := if_i c_19 hF
            subst c_19
            refine lv_tableIn (tgt := 120) hx hb dX6_edge_59 (by decide) (by decide) rfl (by decide) ?_
            refine lv_iload hx hb dX6_edge_120 (lv_at hl 0 rfl) ?_
            refine lv_if_eq (tgt := 150) hx hb dX6_edge_122 (by decide) (fun c_20 => ?_) (fun c_20 => ?_)
            · replace hF := if_i c_20 hF
              refine lv_iconst (v := (-1)) hx hb dX6_edge_150 (by decide) ?_
              obtain rfl := Option.some.inj hF
              exact W.iret (v := (-1)) hx hb hr (fun t ht hW => ⟨⟨_, (), rfl, rfl, by rw [ht]; exact hP, va_K.moved hW.alike hK, hD⟩, hS.F ht⟩) hS.2.2 dX6_edge_151
            · replace hF := if_o c_20 hF
              refine lv_aload_n hx hb dX6_edge_125 rfl (lv_at hl 1 rfl) ?_
              refine va_get (D := D) (ci := 6) (v := .ref aS_0) (C := RX6) (T := TX6) (N := 9) hx hb hts hin_RX6 hown hK hP 0 rfl rfl 2 (by decide) hk_5 (fun _ h9 => h9) rfl dX6_edge_126 ?_
              refine va_get (D := D) (ci := 5) (v := .long (zS.1 1)) (C := RX5) (T := TX5) (N := 6) hx hb hts hin_RX5 hown hK hP 6 rfl rfl 1 (by decide) hk_10 (fun _ h9 => h9) rfl dX6_edge_129 ?_
              refine lv_lload_n hx hb dX6_edge_132 rfl (lv_at hl 4 rfl) ?_
              refine lv_land hx hb dX6_edge_133 ?_
              refine lv_lconst (v := 0) hx hb dX6_edge_134 (by decide) ?_
              refine W.lcmp hx hb dX6_edge_135 ?_
              replace hF := bnd hF
              obtain ⟨t_21, hv_24, hF⟩ := hF
              refine jn (P := fun H locs ls => va_P D vwCl ((wcX aX_0 aR_0 aG_0 aS_0 aP_0 aN_0 aI_0 aT_0 zX) ++ ((wcG ci aG_0 aG_1 aG_2 aG_3 aG_4 zG) ++ (wcS ci aS_0 aS_1 zS))) H ∧ va_D A ((wcX aX_0 aR_0 aG_0 aS_0 aP_0 aN_0 aI_0 aT_0 zX) ++ ((wcG ci aG_0 aG_1 aG_2 aG_3 aG_4 zG) ++ (wcS ci aS_0 aS_1 zS))) ∧ va_S A s.heap H locs ∧ lv_has ls 6 [(0, .ref aX_0), (1, .int p1), (2, .int p2), (3, .long x_7), (5, .int t_8)]) (pcJ := 144) (st := [.int t_21]) ?_ ?_
              · intro H locs ls hJ
                obtain ⟨hP, hD, hS, hl⟩ := hJ
                replace hF := bnd hF
                obtain ⟨r_25, hc_26, hF⟩ := hF
                refine cl_Sie (As := [.int t_21]) (rest := []) ⟨hx, hb, hml, hown, hts⟩ (va_cwS 1 hts gX6_edge_X6_oneIf rfl rfl rfl (by decide +kernel) ⟨Nat.le_of_ble_eq_true rfl, Nat.le_of_ble_eq_true rfl⟩) (c_X6_oneIf l D ci  H.size t_21 _ hc_26) hK hP hD hS hA rfl rfl hl.1 (Nat.le_of_ble_eq_true rfl) dX6_edge_144 (Nat.zero_le _) (Nat.zero_le _) (fun H locs hP hD hS => ?_)
                have hP : va_P D vwCl ((wcX aX_0 aR_0 aG_0 aS_0 aP_0 aN_0 aI_0 aT_0 zX) ++ ((wcG ci aG_0 aG_1 aG_2 aG_3 aG_4 zG) ++ (wcS ci aS_0 aS_1 zS))) H := hP
                have hD : va_D A ((wcX aX_0 aR_0 aG_0 aS_0 aP_0 aN_0 aI_0 aT_0 zX) ++ ((wcG ci aG_0 aG_1 aG_2 aG_3 aG_4 zG) ++ (wcS ci aS_0 aS_1 zS))) := hD
                refine lv_goto (tgt := 151) hx hb dX6_edge_147 (by decide) ?_
                obtain rfl := Option.some.inj hF
                exact W.iret (v := r_25) hx hb hr (fun t ht hW => ⟨⟨_, (), rfl, rfl, by rw [ht]; exact hP, va_K.moved hW.alike hK, hD⟩, hS.F ht⟩) hS.2.2 dX6_edge_151
              · intro J_22
                clear hF
                have hF := hv_24
                refine lv_if_eq (tgt := 143) hx hb dX6_edge_136 (by decide) (fun c_23 => ?_) (fun c_23 => ?_)
                · replace hF := if_i c_23 hF
                  refine lv_iconst (v := 0) hx hb dX6_edge_143 (by decide) ?_
                  obtain rfl := Option.some.inj hF
                  exact J_22 H locs ls ⟨hP, hD, hS, lv_sub hl [1, 2, 3, 4, 0] rfl⟩
                · replace hF := if_o c_23 hF
                  refine lv_iconst (v := 1) hx hb dX6_edge_139 (by decide) ?_
                  refine lv_goto (tgt := 144) hx hb dX6_edge_140 (by decide) ?_
                  obtain rfl := Option.some.inj hF
                  exact J_22 H locs ls ⟨hP, hD, hS, lv_sub hl [1, 2, 3, 4, 0] rfl⟩
          replace hF := if_o c_19 hF
          by_cases c_27 : k_12 = 3
          · replace hF := if_i c_27 hF
            subst c_27
            refine lv_tableIn (tgt := 152) hx hb dX6_edge_59 (by decide) (by decide) rfl (by decide) ?_
            refine lv_iload hx hb dX6_edge_152 (lv_at hl 0 rfl) ?_
            refine lv_if_eq (tgt := 169) hx hb dX6_edge_154 (by decide) (fun c_28 => ?_) (fun c_28 => ?_)
            · replace hF := if_i c_28 hF
              refine lv_iconst (v := (-1)) hx hb dX6_edge_169 (by decide) ?_
              obtain rfl := Option.some.inj hF
              exact W.iret (v := (-1)) hx hb hr (fun t ht hW => ⟨⟨_, (), rfl, rfl, by rw [ht]; exact hP, va_K.moved hW.alike hK, hD⟩, hS.F ht⟩) hS.2.2 dX6_edge_170
            · replace hF := if_o c_28 hF
              refine lv_aload_n hx hb dX6_edge_157 rfl (lv_at hl 1 rfl) ?_
              refine va_get (D := D) (ci := 6) (v := .ref aS_0) (C := RX6) (T := TX6) (N := 9) hx hb hts hin_RX6 hown hK hP 0 rfl rfl 2 (by decide) hk_5 (fun _ h9 => h9) rfl dX6_edge_158 ?_
              refine va_get (D := D) (ci := 5) (v := .ref aS_1) (C := RX5) (T := TX5) (N := 6) hx hb hts hin_RX5 hown hK hP 6 rfl rfl 5 (by decide) hk_11 (fun _ h9 => h9) rfl dX6_edge_161 ?_
              refine lv_iload_n hx hb dX6_edge_164 rfl (lv_at hl 2 rfl) ?_
              replace hF := ald_i hF
              obtain ⟨hin_29, hF⟩ := hF
              refine va_iald hx hb hK hP 7 0 rfl rfl hin_29 dX6_edge_165 ?_
              refine lv_topi (fun x_30 ex_30 => ?_)
              replace hF := nm_i hF ex_30
              refine lv_goto (tgt := 170) hx hb dX6_edge_166 (by decide) ?_
              obtain rfl := Option.some.inj hF
              exact W.iret (v := x_30) hx hb hr (fun t ht hW => ⟨⟨_, (), rfl, rfl, by rw [ht]; exact hP, va_K.moved hW.alike hK, hD⟩, hS.F ht⟩) hS.2.2 dX6_edge_170
          replace hF := if_o c_27 hF
          by_cases c_31 : k_12 = 4
          · replace hF := if_i c_31 hF
            subst c_31
            refine lv_tableIn (tgt := 171) hx hb dX6_edge_59 (by decide) (by decide) rfl (by decide) ?_
            refine lv_iload hx hb dX6_edge_171 (lv_at hl 0 rfl) ?_
            refine lv_if_eq (tgt := 196) hx hb dX6_edge_173 (by decide) (fun c_32 => ?_) (fun c_32 => ?_)
            · replace hF := if_i c_32 hF
              refine lv_iconst (v := 0) hx hb dX6_edge_196 (by decide) ?_
              obtain rfl := Option.some.inj hF
              exact W.iret (v := 0) hx hb hr (fun t ht hW => ⟨⟨_, (), rfl, rfl, by rw [ht]; exact hP, va_K.moved hW.alike hK, hD⟩, hS.F ht⟩) hS.2.2 dX6_edge_197
            · replace hF := if_o c_32 hF
              refine lv_aload_n hx hb dX6_edge_176 rfl (lv_at hl 1 rfl) ?_
              refine va_get (D := D) (ci := 6) (v := .ref aG_0) (C := RX6) (T := TX6) (N := 9) hx hb hts hin_RX6 hown hK hP 0 rfl rfl 1 (by decide) hk_0 (fun _ h9 => h9) rfl dX6_edge_177 ?_
              refine lv_iload_n hx hb dX6_edge_180 rfl (lv_at hl 2 rfl) ?_
              refine lv_aload_n hx hb dX6_edge_181 rfl (lv_at hl 1 rfl) ?_
              refine va_get (D := D) (ci := 6) (v := .ref aS_0) (C := RX6) (T := TX6) (N := 9) hx hb hts hin_RX6 hown hK hP 0 rfl rfl 2 (by decide) hk_5 (fun _ h9 => h9) rfl dX6_edge_182 ?_
              refine va_get (D := D) (ci := 5) (v := .ref aS_1) (C := RX5) (T := TX5) (N := 6) hx hb hts hin_RX5 hown hK hP 6 rfl rfl 5 (by decide) hk_11 (fun _ h9 => h9) rfl dX6_edge_185 ?_
              refine lv_iload_n hx hb dX6_edge_188 rfl (lv_at hl 2 rfl) ?_
              replace hF := ald_i hF
              obtain ⟨hin_33, hF⟩ := hF
              refine va_iald hx hb hK hP 7 0 rfl rfl hin_33 dX6_edge_189 ?_
              refine lv_topi (fun x_34 ex_34 => ?_)
              replace hF := nm_i hF ex_34
              replace hF := bnd hF
              obtain ⟨r_35, hc_36, hF⟩ := hF
              refine cl_Vi (As := [.int p1, .int x_34]) (rest := []) (wc := (wcG ci aG_0 aG_1 aG_2 aG_3 aG_4 zG)) (wr := ([0, 6, 7].filterMap (fun i => ((wcX aX_0 aR_0 aG_0 aS_0 aP_0 aN_0 aI_0 aT_0 zX) ++ ((wcG ci aG_0 aG_1 aG_2 aG_3 aG_4 zG) ++ (wcS ci aS_0 aS_1 zS)))[i]?))) (w1 := (wcG ci aG_0 aG_1 aG_2 aG_3 aG_4 zG)) (wn := ((wcX aX_0 aR_0 aG_0 aS_0 aP_0 aN_0 aI_0 aT_0 zX) ++ ((wcG ci aG_0 aG_1 aG_2 aG_3 aG_4 zG) ++ (wcS ci aS_0 aS_1 zS)))) ⟨hx, hb, hml, hown, hts⟩ (cwV 2 hts gX6_edge_X0_heightOn rfl rfl rfl (by decide +kernel) ⟨Nat.le_of_ble_eq_true rfl, Nat.le_of_ble_eq_true rfl⟩) (c_X0_heightOn l D ci aG_0 aG_1 aG_2 aG_3 aG_4 H.size zG p1 x_34 _ hc_36) hK hP hD hS hA [1, 2, 3, 4, 5] [0, 6, 7] [0, 3, 4, 5, 6, 7, 1, 2] rfl rfl rfl (by decide) 0 rfl rfl rfl rfl hl.1 (Nat.le_of_ble_eq_true rfl) dX6_edge_190 (Nat.zero_le _) (Nat.zero_le _) (fun H locs hP hD hS => ?_)
              have hP : va_P D vwCl ((wcX aX_0 aR_0 aG_0 aS_0 aP_0 aN_0 aI_0 aT_0 zX) ++ ((wcG ci aG_0 aG_1 aG_2 aG_3 aG_4 zG) ++ (wcS ci aS_0 aS_1 zS))) H := hP
              have hD : va_D A ((wcX aX_0 aR_0 aG_0 aS_0 aP_0 aN_0 aI_0 aT_0 zX) ++ ((wcG ci aG_0 aG_1 aG_2 aG_3 aG_4 zG) ++ (wcS ci aS_0 aS_1 zS))) := hD
              refine lv_goto (tgt := 197) hx hb dX6_edge_193 (by decide) ?_
              obtain rfl := Option.some.inj hF
              exact W.iret (v := r_35) hx hb hr (fun t ht hW => ⟨⟨_, (), rfl, rfl, by rw [ht]; exact hP, va_K.moved hW.alike hK, hD⟩, hS.F ht⟩) hS.2.2 dX6_edge_197
          replace hF := if_o c_31 hF
          by_cases c_37 : k_12 = 5
          · replace hF := if_i c_37 hF
            subst c_37
            refine lv_tableIn (tgt := 198) hx hb dX6_edge_59 (by decide) (by decide) rfl (by decide) ?_
            refine lv_aload_n hx hb dX6_edge_198 rfl (lv_at hl 1 rfl) ?_
            refine va_get (D := D) (ci := 6) (v := .ref aS_0) (C := RX6) (T := TX6) (N := 9) hx hb hts hin_RX6 hown hK hP 0 rfl rfl 2 (by decide) hk_5 (fun _ h9 => h9) rfl dX6_edge_199 ?_
            refine va_get (D := D) (ci := 5) (v := .long (zS.1 2)) (C := RX5) (T := TX5) (N := 6) hx hb hts hin_RX5 hown hK hP 6 rfl rfl 2 (by decide) hk_12 (fun _ h9 => h9) rfl dX6_edge_202 ?_
            refine lv_lload_n hx hb dX6_edge_205 rfl (lv_at hl 4 rfl) ?_
            refine lv_land hx hb dX6_edge_206 ?_
            refine lv_lconst (v := 0) hx hb dX6_edge_207 (by decide) ?_
            refine W.lcmp hx hb dX6_edge_208 ?_
            replace hF := bnd hF
            obtain ⟨t_38, hv_41, hF⟩ := hF
            refine jn (P := fun H locs ls => va_P D vwCl ((wcX aX_0 aR_0 aG_0 aS_0 aP_0 aN_0 aI_0 aT_0 zX) ++ ((wcG ci aG_0 aG_1 aG_2 aG_3 aG_4 zG) ++ (wcS ci aS_0 aS_1 zS))) H ∧ va_D A ((wcX aX_0 aR_0 aG_0 aS_0 aP_0 aN_0 aI_0 aT_0 zX) ++ ((wcG ci aG_0 aG_1 aG_2 aG_3 aG_4 zG) ++ (wcS ci aS_0 aS_1 zS))) ∧ va_S A s.heap H locs ∧ lv_has ls 6 [(0, .ref aX_0), (1, .int p1), (2, .int p2), (3, .long x_7), (5, .int t_8)]) (pcJ := 217) (st := [.int t_38]) ?_ ?_
            · intro H locs ls hJ
              obtain ⟨hP, hD, hS, hl⟩ := hJ
              replace hF := bnd hF
              obtain ⟨r_42, hc_43, hF⟩ := hF
              refine cl_Sie (As := [.int t_38]) (rest := []) ⟨hx, hb, hml, hown, hts⟩ (va_cwS 1 hts gX6_edge_X6_oneIf rfl rfl rfl (by decide +kernel) ⟨Nat.le_of_ble_eq_true rfl, Nat.le_of_ble_eq_true rfl⟩) (c_X6_oneIf l D ci  H.size t_38 _ hc_43) hK hP hD hS hA rfl rfl hl.1 (Nat.le_of_ble_eq_true rfl) dX6_edge_217 (Nat.zero_le _) (Nat.zero_le _) (fun H locs hP hD hS => ?_)
              have hP : va_P D vwCl ((wcX aX_0 aR_0 aG_0 aS_0 aP_0 aN_0 aI_0 aT_0 zX) ++ ((wcG ci aG_0 aG_1 aG_2 aG_3 aG_4 zG) ++ (wcS ci aS_0 aS_1 zS))) H := hP
              have hD : va_D A ((wcX aX_0 aR_0 aG_0 aS_0 aP_0 aN_0 aI_0 aT_0 zX) ++ ((wcG ci aG_0 aG_1 aG_2 aG_3 aG_4 zG) ++ (wcS ci aS_0 aS_1 zS))) := hD
              obtain rfl := Option.some.inj hF
              exact W.iret (v := r_42) hx hb hr (fun t ht hW => ⟨⟨_, (), rfl, rfl, by rw [ht]; exact hP, va_K.moved hW.alike hK, hD⟩, hS.F ht⟩) hS.2.2 dX6_edge_220
            · intro J_39
              clear hF
              have hF := hv_41
              refine lv_if_eq (tgt := 216) hx hb dX6_edge_209 (by decide) (fun c_40 => ?_) (fun c_40 => ?_)
              · replace hF := if_i c_40 hF
                refine lv_iconst (v := 0) hx hb dX6_edge_216 (by decide) ?_
                obtain rfl := Option.some.inj hF
                exact J_39 H locs ls ⟨hP, hD, hS, lv_sub hl [1, 2, 3, 4, 0] rfl⟩
              · replace hF := if_o c_40 hF
                refine lv_iconst (v := 1) hx hb dX6_edge_212 (by decide) ?_
                refine lv_goto (tgt := 217) hx hb dX6_edge_213 (by decide) ?_
                obtain rfl := Option.some.inj hF
                exact J_39 H locs ls ⟨hP, hD, hS, lv_sub hl [1, 2, 3, 4, 0] rfl⟩
          replace hF := if_o c_37 hF
          by_cases c_44 : k_12 = 6
          · replace hF := if_i c_44 hF
            subst c_44
            refine lv_tableIn (tgt := 221) hx hb dX6_edge_59 (by decide) (by decide) rfl (by decide) ?_
            refine lv_aload_n hx hb dX6_edge_221 rfl (lv_at hl 1 rfl) ?_
            refine va_get (D := D) (ci := 6) (v := .ref aG_0) (C := RX6) (T := TX6) (N := 9) hx hb hts hin_RX6 hown hK hP 0 rfl rfl 1 (by decide) hk_0 (fun _ h9 => h9) rfl dX6_edge_222 ?_
            refine va_get (D := D) (ci := 0) (v := .long zG.2.1) (C := RX0) (T := TX0) (N := 13) hx hb hts hin_RX0 hown hK hP 1 rfl rfl 8 (by decide) hk_13 (fun _ h9 => h9) rfl dX6_edge_225 ?_
            refine lv_lload_n hx hb dX6_edge_228 rfl (lv_at hl 4 rfl) ?_
            refine lv_land hx hb dX6_edge_229 ?_
            refine lv_lconst (v := 0) hx hb dX6_edge_230 (by decide) ?_
            refine W.lcmp hx hb dX6_edge_231 ?_
            replace hF := bnd hF
            obtain ⟨t_45, hv_48, hF⟩ := hF
            refine jn (P := fun H locs ls => va_P D vwCl ((wcX aX_0 aR_0 aG_0 aS_0 aP_0 aN_0 aI_0 aT_0 zX) ++ ((wcG ci aG_0 aG_1 aG_2 aG_3 aG_4 zG) ++ (wcS ci aS_0 aS_1 zS))) H ∧ va_D A ((wcX aX_0 aR_0 aG_0 aS_0 aP_0 aN_0 aI_0 aT_0 zX) ++ ((wcG ci aG_0 aG_1 aG_2 aG_3 aG_4 zG) ++ (wcS ci aS_0 aS_1 zS))) ∧ va_S A s.heap H locs ∧ lv_has ls 6 [(0, .ref aX_0), (1, .int p1), (2, .int p2), (3, .long x_7), (5, .int t_8)]) (pcJ := 240) (st := [.int t_45]) ?_ ?_
            · intro H locs ls hJ
              obtain ⟨hP, hD, hS, hl⟩ := hJ
              replace hF := bnd hF
              obtain ⟨r_49, hc_50, hF⟩ := hF
              refine cl_Sie (As := [.int t_45]) (rest := []) ⟨hx, hb, hml, hown, hts⟩ (va_cwS 1 hts gX6_edge_X6_oneIf rfl rfl rfl (by decide +kernel) ⟨Nat.le_of_ble_eq_true rfl, Nat.le_of_ble_eq_true rfl⟩) (c_X6_oneIf l D ci  H.size t_45 _ hc_50) hK hP hD hS hA rfl rfl hl.1 (Nat.le_of_ble_eq_true rfl) dX6_edge_240 (Nat.zero_le _) (Nat.zero_le _) (fun H locs hP hD hS => ?_)
              have hP : va_P D vwCl ((wcX aX_0 aR_0 aG_0 aS_0 aP_0 aN_0 aI_0 aT_0 zX) ++ ((wcG ci aG_0 aG_1 aG_2 aG_3 aG_4 zG) ++ (wcS ci aS_0 aS_1 zS))) H := hP
              have hD : va_D A ((wcX aX_0 aR_0 aG_0 aS_0 aP_0 aN_0 aI_0 aT_0 zX) ++ ((wcG ci aG_0 aG_1 aG_2 aG_3 aG_4 zG) ++ (wcS ci aS_0 aS_1 zS))) := hD
              obtain rfl := Option.some.inj hF
              exact W.iret (v := r_49) hx hb hr (fun t ht hW => ⟨⟨_, (), rfl, rfl, by rw [ht]; exact hP, va_K.moved hW.alike hK, hD⟩, hS.F ht⟩) hS.2.2 dX6_edge_243
            · intro J_46
              clear hF
              have hF := hv_48
              refine lv_if_eq (tgt := 239) hx hb dX6_edge_232 (by decide) (fun c_47 => ?_) (fun c_47 => ?_)
              · replace hF := if_i c_47 hF
                refine lv_iconst (v := 0) hx hb dX6_edge_239 (by decide) ?_
                obtain rfl := Option.some.inj hF
                exact J_46 H locs ls ⟨hP, hD, hS, lv_sub hl [1, 2, 3, 4, 0] rfl⟩
              · replace hF := if_o c_47 hF
                refine lv_iconst (v := 1) hx hb dX6_edge_235 (by decide) ?_
                refine lv_goto (tgt := 240) hx hb dX6_edge_236 (by decide) ?_
                obtain rfl := Option.some.inj hF
                exact J_46 H locs ls ⟨hP, hD, hS, lv_sub hl [1, 2, 3, 4, 0] rfl⟩
          replace hF := if_o c_44 hF
          have tc_13 := lv_neT c_13 (a := 0) (by decide)
          have tc_16 := lv_neT c_16 (a := 1) (by decide)
          have tc_19 := lv_neT c_19 (a := 2) (by decide)
          have tc_27 := lv_neT c_27 (a := 3) (by decide)
          have tc_31 := lv_neT c_31 (a := 4) (by decide)
          have tc_37 := lv_neT c_37 (a := 5) (by decide)
          have tc_44 := lv_neT c_44 (a := 6) (by decide)
          refine lv_tableOut (tgt := 244) hx hb dX6_edge_59 (by omega) (by decide) ?_
          refine lv_aload_n hx hb dX6_edge_244 rfl (lv_at hl 1 rfl) ?_
          refine va_get (D := D) (ci := 6) (v := .ref aS_0) (C := RX6) (T := TX6) (N := 9) hx hb hts hin_RX6 hown hK hP 0 rfl rfl 2 (by decide) hk_5 (fun _ h9 => h9) rfl dX6_edge_245 ?_
          refine lv_aload_n hx hb dX6_edge_248 rfl (lv_at hl 1 rfl) ?_
          refine va_get (D := D) (ci := 6) (v := .ref aG_0) (C := RX6) (T := TX6) (N := 9) hx hb hts hin_RX6 hown hK hP 0 rfl rfl 1 (by decide) hk_0 (fun _ h9 => h9) rfl dX6_edge_249 ?_
          replace hF := bnd hF
          obtain ⟨r_51, hc_52, hF⟩ := hF
          refine cl_Vl (As := [.ref aG_0]) (rest := []) (wc := ((wcG ci aG_0 aG_1 aG_2 aG_3 aG_4 zG) ++ (wcS ci aS_0 aS_1 zS))) (wr := ([0].filterMap (fun i => ((wcX aX_0 aR_0 aG_0 aS_0 aP_0 aN_0 aI_0 aT_0 zX) ++ ((wcG ci aG_0 aG_1 aG_2 aG_3 aG_4 zG) ++ (wcS ci aS_0 aS_1 zS)))[i]?))) (w1 := ((wcG ci aG_0 aG_1 aG_2 aG_3 aG_4 zG) ++ (wcS ci aS_0 aS_1 zS))) (wn := ((wcX aX_0 aR_0 aG_0 aS_0 aP_0 aN_0 aI_0 aT_0 zX) ++ ((wcG ci aG_0 aG_1 aG_2 aG_3 aG_4 zG) ++ (wcS ci aS_0 aS_1 zS)))) ⟨hx, hb, hml, hown, hts⟩ (cwV 1 hts gX6_edge_X5_shutEdges rfl rfl rfl (by decide +kernel) ⟨Nat.le_of_ble_eq_true rfl, Nat.le_of_ble_eq_true rfl⟩) (c_X5_shutEdges l D ci aG_0 aG_1 aG_2 aG_3 aG_4 aS_0 aS_1 H.size zG zS _ hc_52) hK hP hD hS hA [1, 2, 3, 4, 5, 6, 7] [0] [0, 1, 2, 3, 4, 5, 6, 7] rfl rfl rfl (by decide) 5 rfl rfl rfl rfl hl.1 (Nat.le_of_ble_eq_true rfl) dX6_edge_252 (Nat.zero_le _) (Nat.zero_le _) (fun H locs hP hD hS => ?_)
          have hP : va_P D vwCl ((wcX aX_0 aR_0 aG_0 aS_0 aP_0 aN_0 aI_0 aT_0 zX) ++ ((wcG ci aG_0 aG_1 aG_2 aG_3 aG_4 zG) ++ (wcS ci aS_0 aS_1 zS))) H := hP
          have hD : va_D A ((wcX aX_0 aR_0 aG_0 aS_0 aP_0 aN_0 aI_0 aT_0 zX) ++ ((wcG ci aG_0 aG_1 aG_2 aG_3 aG_4 zG) ++ (wcS ci aS_0 aS_1 zS))) := hD
          refine lv_lload_n hx hb dX6_edge_255 rfl (lv_at hl 4 rfl) ?_
          refine lv_land hx hb dX6_edge_256 ?_
          refine lv_lconst (v := 0) hx hb dX6_edge_257 (by decide) ?_
          refine W.lcmp hx hb dX6_edge_258 ?_
          replace hF := bnd hF
          obtain ⟨t_53, hv_56, hF⟩ := hF
          refine jn (P := fun H locs ls => va_P D vwCl ((wcX aX_0 aR_0 aG_0 aS_0 aP_0 aN_0 aI_0 aT_0 zX) ++ ((wcG ci aG_0 aG_1 aG_2 aG_3 aG_4 zG) ++ (wcS ci aS_0 aS_1 zS))) H ∧ va_D A ((wcX aX_0 aR_0 aG_0 aS_0 aP_0 aN_0 aI_0 aT_0 zX) ++ ((wcG ci aG_0 aG_1 aG_2 aG_3 aG_4 zG) ++ (wcS ci aS_0 aS_1 zS))) ∧ va_S A s.heap H locs ∧ lv_has ls 6 [(0, .ref aX_0), (1, .int p1), (2, .int p2), (3, .long x_7), (5, .int t_8)]) (pcJ := 267) (st := [.int t_53]) ?_ ?_
          · intro H locs ls hJ
            obtain ⟨hP, hD, hS, hl⟩ := hJ
            replace hF := bnd hF
            obtain ⟨r_57, hc_58, hF⟩ := hF
            refine cl_Sie (As := [.int t_53]) (rest := []) ⟨hx, hb, hml, hown, hts⟩ (va_cwS 1 hts gX6_edge_X6_oneIf rfl rfl rfl (by decide +kernel) ⟨Nat.le_of_ble_eq_true rfl, Nat.le_of_ble_eq_true rfl⟩) (c_X6_oneIf l D ci  H.size t_53 _ hc_58) hK hP hD hS hA rfl rfl hl.1 (Nat.le_of_ble_eq_true rfl) dX6_edge_267 (Nat.zero_le _) (Nat.zero_le _) (fun H locs hP hD hS => ?_)
            have hP : va_P D vwCl ((wcX aX_0 aR_0 aG_0 aS_0 aP_0 aN_0 aI_0 aT_0 zX) ++ ((wcG ci aG_0 aG_1 aG_2 aG_3 aG_4 zG) ++ (wcS ci aS_0 aS_1 zS))) H := hP
            have hD : va_D A ((wcX aX_0 aR_0 aG_0 aS_0 aP_0 aN_0 aI_0 aT_0 zX) ++ ((wcG ci aG_0 aG_1 aG_2 aG_3 aG_4 zG) ++ (wcS ci aS_0 aS_1 zS))) := hD
            obtain rfl := Option.some.inj hF
            exact W.iret (v := r_57) hx hb hr (fun t ht hW => ⟨⟨_, (), rfl, rfl, by rw [ht]; exact hP, va_K.moved hW.alike hK, hD⟩, hS.F ht⟩) hS.2.2 dX6_edge_270
          · intro J_54
            clear hF
            have hF := hv_56
            refine lv_if_eq (tgt := 266) hx hb dX6_edge_259 (by decide) (fun c_55 => ?_) (fun c_55 => ?_)
            · replace hF := if_i c_55 hF
              refine lv_iconst (v := 0) hx hb dX6_edge_266 (by decide) ?_
              obtain rfl := Option.some.inj hF
              exact J_54 H locs ls ⟨hP, hD, hS, lv_sub hl [1, 2, 3, 4, 0] rfl⟩
            · replace hF := if_o c_55 hF
              refine lv_iconst (v := 1) hx hb dX6_edge_262 (by decide) ?_
              refine lv_goto (tgt := 267) hx hb dX6_edge_263 (by decide) ?_
              obtain rfl := Option.some.inj hF
              exact J_54 H locs ls ⟨hP, hD, hS, lv_sub hl [1, 2, 3, 4, 0] rfl⟩
        · intro J_9
          clear hF
          have hF := hv_11
          refine lv_if_eq (tgt := 55) hx hb dX6_edge_48 (by decide) (fun c_10 => ?_) (fun c_10 => ?_)
          · replace hF := if_i c_10 hF
            refine lv_iconst (v := 0) hx hb dX6_edge_55 (by decide) ?_
            obtain rfl := Option.some.inj hF
            exact J_9 H locs ls ⟨hP, hD, hS, lv_sub hl [1, 2, 3, 0] rfl⟩
          · replace hF := if_o c_10 hF
            refine lv_iconst (v := 1) hx hb dX6_edge_51 (by decide) ?_
            refine lv_goto (tgt := 56) hx hb dX6_edge_52 (by decide) ?_
            obtain rfl := Option.some.inj hF
            exact J_9 H locs ls ⟨hP, hD, hS, lv_sub hl [1, 2, 3, 0] rfl⟩
      · replace hF := if_o c_5 hF
        refine lv_ldc (v := (-1000000002)) hx hb hown hk_2 dX6_edge_24 ?_
        obtain rfl := Option.some.inj hF
        exact W.iret (v := (-1000000002)) hx hb hr (fun t ht hW => ⟨⟨_, (), rfl, rfl, by rw [ht]; exact hP, va_K.moved hW.alike hK, hD⟩, hS.F ht⟩) hS.2.2 dX6_edge_26
  · replace hF := if_i c_3 hF
    refine lv_ldc (v := (-1000000001)) hx hb hown hk_14 dX6_edge_11 ?_
    obtain rfl := Option.some.inj hF
    exact W.iret (v := (-1000000001)) hx hb hr (fun t ht hW => ⟨⟨_, (), rfl, rfl, by rw [ht]; exact hP, va_K.moved hW.alike hK, hD⟩, hS.F ht⟩) hS.2.2 dX6_edge_13
noncomputable def f_X6_tallIn (zX : XS) (zG : GS) (zS : SS) (p1 : Int32) : Option (Int32) := (f_X0_hasEdge zG p1).bind fun r_1 => if r_1 = 0 then (some (-1000000001 : Int32)) else (ald 40 zG.2.2.2 p1 fun x_5 => if (lg_cmp (zG.2.1 &&& x_5) 0) = 0 then ((if (lg_cmp ((zS.1 0) &&& x_5) 0) = 0 then (some (0 : Int32)) else (ald 40 zS.2.2 p1 fun x_11 => some (x_11 : Int32))).bind fun t_7 => (f_X0_ageWhenTall zG p1).bind fun r_13 => some (imax 0 (r_13 - t_7))) else (some (-1 : Int32)))
set_option maxHeartbeats 4000000 in
set_option maxRecDepth 100000 in
theorem c_X6_tallIn (l : Launch) (D : va_G) (ci : Nat → ClassId) (aX_0 : Nat) (aR_0 : Nat) (aG_0 : Nat) (aS_0 : Nat) (aP_0 : Nat) (aN_0 : Nat) (aI_0 : Nat) (aT_0 : Nat) (aG_1 : Nat) (aG_2 : Nat) (aG_3 : Nat) (aG_4 : Nat) (aS_1 : Nat) (sz : Nat) (zX : XS) (zG : GS) (zS : SS) (p1 : Int32) (res : Int32) (hF : f_X6_tallIn zX zG zS p1 = some res) : CtI l yX6_tallIn wsX6_tallIn { frames := 2, cells := 0, slots := 0, locals := 44 } [.ref aX_0, .int p1] D ci ((wcX aX_0 aR_0 aG_0 aS_0 aP_0 aN_0 aI_0 aT_0 zX) ++ ((wcG ci aG_0 aG_1 aG_2 aG_3 aG_4 zG) ++ (wcS ci aS_0 aS_1 zS))) sz res ((wcX aX_0 aR_0 aG_0 aS_0 aP_0 aN_0 aI_0 aT_0 zX) ++ ((wcG ci aG_0 aG_1 aG_2 aG_3 aG_4 zG) ++ (wcS ci aS_0 aS_1 zS))) := by
  refine Met.ofW (cc := cX6_tallIn) (maxL := 5) (ret := (some .int)) (by decide) rfl ?_
  intro p e s m args below meth c s₁ B hml hv
  obtain ⟨rfl, hsz, hP, hK, hD0⟩ := hv
  have hx := B.exec
  have hb := B.bytes
  have hr := B.returns
  have hts := atoms_spec (ws := wsX6_tallIn) B.pre
  have hown : s.vm.findClass RX6 = some m.cls := findClass_of_methodNamed B.named
  have hlocks := B.notSynchronized
  subst hsz
  have hD := hD0.self (sz := s.heap.size)
  generalize hAe : va_A ((wcX aX_0 aR_0 aG_0 aS_0 aP_0 aN_0 aI_0 aT_0 zX) ++ ((wcG ci aG_0 aG_1 aG_2 aG_3 aG_4 zG) ++ (wcS ci aS_0 aS_1 zS))) s.heap.size = A at hD ⊢
  have hA : ∀ q : Nat, s.heap.size ≤ q → A q := fun q h => by rw [← hAe]; exact Or.inr h
  clear hD0 hAe
  have hl := lv_entry ([.ref aX_0, .int p1]) (n := 5) (Nat.le_of_ble_eq_true rfl)
  rw [lg_entry_eq]
  generalize (lg_sl ([.ref aX_0, .int p1]) ++ List.replicate (5 - (lg_sl ([.ref aX_0, .int p1])).length) Slot.unset).toArray = ls at hl ⊢
  have hl : lv_has ls 5 [(0, .ref aX_0), (1, .int p1)] := hl
  have hP : va_P D vwCl ((wcX aX_0 aR_0 aG_0 aS_0 aP_0 aN_0 aI_0 aT_0 zX) ++ ((wcG ci aG_0 aG_1 aG_2 aG_3 aG_4 zG) ++ (wcS ci aS_0 aS_1 zS))) s.heap := hP
  generalize hH0 : s.heap = H at hP ⊢
  have hS : va_S A s.heap H [] := by rw [← hH0]; exact va_S.rf
  clear hH0
  generalize ([] : List Loc) = locs at hS ⊢
  have hk_0 := hts (.fieldLink RX6 19 "HedgeWar" "ground" "LHedgeWar$Ground;") (by decide +kernel)
  have hin_RX6 : ∀ w ∈ wsX60, w ∈ wsX6_tallIn := by decide +kernel
  have hk_2 := hts (.fieldLink RX6 171 "HedgeWar$Ground" "places" "[J") (by decide +kernel)
  have hin_RX0 : ∀ w ∈ wsX00, w ∈ wsX6_tallIn := by decide +kernel
  have hk_4 := hts (.fieldLink RX6 194 "HedgeWar$Ground" "paths" "J") (by decide +kernel)
  have hk_5 := hts (.fieldLink RX6 26 "HedgeWar" "now" "LHedgeWar$Stand;") (by decide +kernel)
  have hk_6 := hts (.fieldLink RX6 112 "HedgeWar$Stand" "hedges" "J") (by decide +kernel)
  have hin_RX5 : ∀ w ∈ wsX50, w ∈ wsX6_tallIn := by decide +kernel
  have hk_8 := hts (.fieldLink RX6 184 "HedgeWar$Stand" "ages" "[I") (by decide +kernel)
  have hk_9 := hts (.methodLink RX6 243 Lib.Math.max.name) (by decide +kernel)
  have hk_10 := hts (.static Lib.Math.max.name) (by decide +kernel)
  have hk_11 := hts (.initialized "java/lang/Math") (by decide +kernel)
  have hk_12 := hts (.code Lib.Math.max.name Lib.Math.max.code 2 (some .int)) (by decide +kernel)
  have hk_13 := hts (.constant RX6 147 (-1000000001)) (by decide +kernel)
  unfold f_X6_tallIn at hF
  refine lv_aload_n hx hb dX6_tallIn_0 rfl (lv_at hl 0 rfl) ?_
  refine va_get (D := D) (ci := 6) (v := .ref aG_0) (C := RX6) (T := TX6) (N := 9) hx hb hts hin_RX6 hown hK hP 0 rfl rfl 1 (by decide) hk_0 (fun _ h9 => h9) rfl dX6_tallIn_1 ?_
  refine lv_iload_n hx hb dX6_tallIn_4 rfl (lv_at hl 1 rfl) ?_
  replace hF := bnd hF
  obtain ⟨r_1, hc_2, hF⟩ := hF
  refine cl_Vi (As := [.int p1]) (rest := []) (wc := (wcG ci aG_0 aG_1 aG_2 aG_3 aG_4 zG)) (wr := ([0, 6, 7].filterMap (fun i => ((wcX aX_0 aR_0 aG_0 aS_0 aP_0 aN_0 aI_0 aT_0 zX) ++ ((wcG ci aG_0 aG_1 aG_2 aG_3 aG_4 zG) ++ (wcS ci aS_0 aS_1 zS)))[i]?))) (w1 := (wcG ci aG_0 aG_1 aG_2 aG_3 aG_4 zG)) (wn := ((wcX aX_0 aR_0 aG_0 aS_0 aP_0 aN_0 aI_0 aT_0 zX) ++ ((wcG ci aG_0 aG_1 aG_2 aG_3 aG_4 zG) ++ (wcS ci aS_0 aS_1 zS)))) ⟨hx, hb, hml, hown, hts⟩ (cwV 1 hts gX6_tallIn_X0_hasEdge rfl rfl rfl (by decide +kernel) ⟨Nat.le_of_ble_eq_true rfl, Nat.le_of_ble_eq_true rfl⟩) (c_X0_hasEdge l D ci aG_0 aG_1 aG_2 aG_3 aG_4 H.size zG p1 _ hc_2) hK hP hD hS hA [1, 2, 3, 4, 5] [0, 6, 7] [0, 3, 4, 5, 6, 7, 1, 2] rfl rfl rfl (by decide) 0 rfl rfl rfl rfl hl.1 (Nat.le_of_ble_eq_true rfl) dX6_tallIn_5 (Nat.zero_le _) (Nat.zero_le _) (fun H locs hP hD hS => ?_)
  have hP : va_P D vwCl ((wcX aX_0 aR_0 aG_0 aS_0 aP_0 aN_0 aI_0 aT_0 zX) ++ ((wcG ci aG_0 aG_1 aG_2 aG_3 aG_4 zG) ++ (wcS ci aS_0 aS_1 zS))) H := hP
  have hD : va_D A ((wcX aX_0 aR_0 aG_0 aS_0 aP_0 aN_0 aI_0 aT_0 zX) ++ ((wcG ci aG_0 aG_1 aG_2 aG_3 aG_4 zG) ++ (wcS ci aS_0 aS_1 zS))) := hD
  refine lv_if_ne (tgt := 14) hx hb dX6_tallIn_8 (by decide) (fun c_3 => ?_) (fun c_3 => ?_)
  · replace hF := if_o c_3 hF
    refine lv_aload_n hx hb dX6_tallIn_14 rfl (lv_at hl 0 rfl) ?_
    refine va_get (D := D) (ci := 6) (v := .ref aG_0) (C := RX6) (T := TX6) (N := 9) hx hb hts hin_RX6 hown hK hP 0 rfl rfl 1 (by decide) hk_0 (fun _ h9 => h9) rfl dX6_tallIn_15 ?_
    refine va_get (D := D) (ci := 0) (v := .ref aG_4) (C := RX0) (T := TX0) (N := 13) hx hb hts hin_RX0 hown hK hP 1 rfl rfl 12 (by decide) hk_2 (fun _ h9 => h9) rfl dX6_tallIn_18 ?_
    refine lv_iload_n hx hb dX6_tallIn_21 rfl (lv_at hl 1 rfl) ?_
    replace hF := ald_i hF
    obtain ⟨hin_4, hF⟩ := hF
    refine va_lald hx hb hK hP 5 1 rfl rfl hin_4 dX6_tallIn_22 ?_
    refine lv_topl (fun x_5 ex_5 => ?_)
    replace hF := nm_i hF ex_5
    refine lv_lstore_n (lv' := [(2, .long x_5), (0, .ref aX_0), (1, .int p1)]) hx hb dX6_tallIn_23 rfl hl (by decide) rfl (fun ls hl => ?_)
    refine lv_aload_n hx hb dX6_tallIn_24 rfl (lv_at hl 1 rfl) ?_
    refine va_get (D := D) (ci := 6) (v := .ref aG_0) (C := RX6) (T := TX6) (N := 9) hx hb hts hin_RX6 hown hK hP 0 rfl rfl 1 (by decide) hk_0 (fun _ h9 => h9) rfl dX6_tallIn_25 ?_
    refine va_get (D := D) (ci := 0) (v := .long zG.2.1) (C := RX0) (T := TX0) (N := 13) hx hb hts hin_RX0 hown hK hP 1 rfl rfl 8 (by decide) hk_4 (fun _ h9 => h9) rfl dX6_tallIn_28 ?_
    refine lv_lload_n hx hb dX6_tallIn_31 rfl (lv_at hl 0 rfl) ?_
    refine lv_land hx hb dX6_tallIn_32 ?_
    refine lv_lconst (v := 0) hx hb dX6_tallIn_33 (by decide) ?_
    refine W.lcmp hx hb dX6_tallIn_34 ?_
    refine lv_if_eq (tgt := 40) hx hb dX6_tallIn_35 (by decide) (fun c_6 => ?_) (fun c_6 => ?_)
    · replace hF := if_i c_6 hF
      refine lv_aload_n hx hb dX6_tallIn_40 rfl (lv_at hl 1 rfl) ?_
      refine va_get (D := D) (ci := 6) (v := .ref aS_0) (C := RX6) (T := TX6) (N := 9) hx hb hts hin_RX6 hown hK hP 0 rfl rfl 2 (by decide) hk_5 (fun _ h9 => h9) rfl dX6_tallIn_41 ?_
      refine va_get (D := D) (ci := 5) (v := .long (zS.1 0)) (C := RX5) (T := TX5) (N := 6) hx hb hts hin_RX5 hown hK hP 6 rfl rfl 0 (by decide) hk_6 (fun _ h9 => h9) rfl dX6_tallIn_44 ?_
      refine lv_lload_n hx hb dX6_tallIn_47 rfl (lv_at hl 0 rfl) ?_
      refine lv_land hx hb dX6_tallIn_48 ?_
      refine lv_lconst (v := 0) hx hb dX6_tallIn_49 (by decide) ?_
      refine W.lcmp hx hb dX6_tallIn_50 ?_
      replace hF := bnd hF
      obtain ⟨t_7, hv_12, hF⟩ := hF
      refine jn (P := fun H locs ls => va_P D vwCl ((wcX aX_0 aR_0 aG_0 aS_0 aP_0 aN_0 aI_0 aT_0 zX) ++ ((wcG ci aG_0 aG_1 aG_2 aG_3 aG_4 zG) ++ (wcS ci aS_0 aS_1 zS))) H ∧ va_D A ((wcX aX_0 aR_0 aG_0 aS_0 aP_0 aN_0 aI_0 aT_0 zX) ++ ((wcG ci aG_0 aG_1 aG_2 aG_3 aG_4 zG) ++ (wcS ci aS_0 aS_1 zS))) ∧ va_S A s.heap H locs ∧ lv_has ls 5 [(0, .ref aX_0), (1, .int p1), (2, .long x_5)]) (pcJ := 67) (st := [.int t_7]) ?_ ?_
      · intro H locs ls hJ
        obtain ⟨hP, hD, hS, hl⟩ := hJ
        refine lv_istore (lv' := [(4, .int t_7), (0, .ref aX_0), (1, .int p1), (2, .long x_5)]) hx hb dX6_tallIn_67 hl (by decide) rfl (fun ls hl => ?_)
        refine lv_iconst (v := 0) hx hb dX6_tallIn_69 (by decide) ?_
        refine lv_aload_n hx hb dX6_tallIn_70 rfl (lv_at hl 1 rfl) ?_
        refine va_get (D := D) (ci := 6) (v := .ref aG_0) (C := RX6) (T := TX6) (N := 9) hx hb hts hin_RX6 hown hK hP 0 rfl rfl 1 (by decide) hk_0 (fun _ h9 => h9) rfl dX6_tallIn_71 ?_
        refine lv_iload_n hx hb dX6_tallIn_74 rfl (lv_at hl 2 rfl) ?_
        replace hF := bnd hF
        obtain ⟨r_13, hc_14, hF⟩ := hF
        refine cl_Vi (As := [.int p1]) (rest := [.int 0]) (wc := (wcG ci aG_0 aG_1 aG_2 aG_3 aG_4 zG)) (wr := ([0, 6, 7].filterMap (fun i => ((wcX aX_0 aR_0 aG_0 aS_0 aP_0 aN_0 aI_0 aT_0 zX) ++ ((wcG ci aG_0 aG_1 aG_2 aG_3 aG_4 zG) ++ (wcS ci aS_0 aS_1 zS)))[i]?))) (w1 := (wcG ci aG_0 aG_1 aG_2 aG_3 aG_4 zG)) (wn := ((wcX aX_0 aR_0 aG_0 aS_0 aP_0 aN_0 aI_0 aT_0 zX) ++ ((wcG ci aG_0 aG_1 aG_2 aG_3 aG_4 zG) ++ (wcS ci aS_0 aS_1 zS)))) ⟨hx, hb, hml, hown, hts⟩ (cwV 1 hts gX6_tallIn_X0_ageWhenTall rfl rfl rfl (by decide +kernel) ⟨Nat.le_of_ble_eq_true rfl, Nat.le_of_ble_eq_true rfl⟩) (c_X0_ageWhenTall l D ci aG_0 aG_1 aG_2 aG_3 aG_4 H.size zG p1 _ hc_14) hK hP hD hS hA [1, 2, 3, 4, 5] [0, 6, 7] [0, 3, 4, 5, 6, 7, 1, 2] rfl rfl rfl (by decide) 0 rfl rfl rfl rfl hl.1 (Nat.le_of_ble_eq_true rfl) dX6_tallIn_75 (Nat.zero_le _) (Nat.zero_le _) (fun H locs hP hD hS => ?_)
        have hP : va_P D vwCl ((wcX aX_0 aR_0 aG_0 aS_0 aP_0 aN_0 aI_0 aT_0 zX) ++ ((wcG ci aG_0 aG_1 aG_2 aG_3 aG_4 zG) ++ (wcS ci aS_0 aS_1 zS))) H := hP
        have hD : va_D A ((wcX aX_0 aR_0 aG_0 aS_0 aP_0 aN_0 aI_0 aT_0 zX) ++ ((wcG ci aG_0 aG_1 aG_2 aG_3 aG_4 zG) ++ (wcS ci aS_0 aS_1 zS))) := hD
        refine lv_iload hx hb dX6_tallIn_78 (lv_at hl 0 rfl) ?_
        refine lv_isub hx hb dX6_tallIn_80 ?_
        refine va_mmax hx hb (hml.trans hl.1.symm) hown hk_9 hk_10 hk_11 hk_12 (Nat.le_of_ble_eq_true rfl) (Nat.le_of_ble_eq_true rfl) (Nat.zero_le _) (Nat.zero_le _) dX6_tallIn_81 ?_
        refine W.eq (g2 := F0 m 84 ls [.int (imax 0 (r_13 - t_7))]) rfl ?_
        obtain rfl := Option.some.inj hF
        exact W.iret (v := (imax 0 (r_13 - t_7))) hx hb hr (fun t ht hW => ⟨⟨_, (), rfl, rfl, by rw [ht]; exact hP, va_K.moved hW.alike hK, hD⟩, hS.F ht⟩) hS.2.2 dX6_tallIn_84
      · intro J_8
        clear hF
        have hF := hv_12
        refine lv_if_eq (tgt := 66) hx hb dX6_tallIn_51 (by decide) (fun c_9 => ?_) (fun c_9 => ?_)
        · replace hF := if_i c_9 hF
          refine lv_iconst (v := 0) hx hb dX6_tallIn_66 (by decide) ?_
          obtain rfl := Option.some.inj hF
          exact J_8 H locs ls ⟨hP, hD, hS, lv_sub hl [1, 2, 0] rfl⟩
        · replace hF := if_o c_9 hF
          refine lv_aload_n hx hb dX6_tallIn_54 rfl (lv_at hl 1 rfl) ?_
          refine va_get (D := D) (ci := 6) (v := .ref aS_0) (C := RX6) (T := TX6) (N := 9) hx hb hts hin_RX6 hown hK hP 0 rfl rfl 2 (by decide) hk_5 (fun _ h9 => h9) rfl dX6_tallIn_55 ?_
          refine va_get (D := D) (ci := 5) (v := .ref aS_1) (C := RX5) (T := TX5) (N := 6) hx hb hts hin_RX5 hown hK hP 6 rfl rfl 5 (by decide) hk_8 (fun _ h9 => h9) rfl dX6_tallIn_58 ?_
          refine lv_iload_n hx hb dX6_tallIn_61 rfl (lv_at hl 2 rfl) ?_
          replace hF := ald_i hF
          obtain ⟨hin_10, hF⟩ := hF
          refine va_iald hx hb hK hP 7 0 rfl rfl hin_10 dX6_tallIn_62 ?_
          refine lv_topi (fun x_11 ex_11 => ?_)
          replace hF := nm_i hF ex_11
          refine lv_goto (tgt := 67) hx hb dX6_tallIn_63 (by decide) ?_
          obtain rfl := Option.some.inj hF
          exact J_8 H locs ls ⟨hP, hD, hS, lv_sub hl [1, 2, 0] rfl⟩
    · replace hF := if_o c_6 hF
      refine lv_iconst (v := (-1)) hx hb dX6_tallIn_38 (by decide) ?_
      obtain rfl := Option.some.inj hF
      exact W.iret (v := (-1)) hx hb hr (fun t ht hW => ⟨⟨_, (), rfl, rfl, by rw [ht]; exact hP, va_K.moved hW.alike hK, hD⟩, hS.F ht⟩) hS.2.2 dX6_tallIn_39
  · replace hF := if_i c_3 hF
    refine lv_ldc (v := (-1000000001)) hx hb hown hk_13 dX6_tallIn_11 ?_
    obtain rfl := Option.some.inj hF
    exact W.iret (v := (-1000000001)) hx hb hr (fun t ht hW => ⟨⟨_, (), rfl, rfl, by rw [ht]; exact hP, va_K.moved hW.alike hK, hD⟩, hS.F ht⟩) hS.2.2 dX6_tallIn_13
noncomputable def L_X6_walk_50 (zX : XS) (zG : GS) (zS : SS) (p1 : Int32) (p2 : Int32) (r_7 : Int64) (v5_9 : Int32) : Nat → Int32 → Int32 → Option (Int32)
  | 0, _, _ => none
  | n + 1, v6_12, v7_13 => if (25 : Int32) ≤ v7_13 then (some (-1 : Int32)) else (if (v6_12 &&& v5_9) = 0 then ((f_X0_oneStepFrom zG v6_12 r_7).bind fun r_18 => nm (v7_13 + 1) fun v7_20 => L_X6_walk_50 zX zG zS p1 p2 r_7 v5_9 n r_18 v7_20) else (some v7_13))
noncomputable def f_X6_walk (zX : XS) (zG : GS) (zS : SS) (p1 : Int32) (p2 : Int32) : Option (Int32) := (f_X0_hasField zG p1).bind fun r_1 => if r_1 = 0 then (some (-1000000001 : Int32)) else ((f_X0_hasField zG p2).bind fun r_4 => if r_4 = 0 then (some (-1000000001 : Int32)) else ((f_X5_shutEdges zG zS).bind fun r_7 => nm ((1 : Int32) <<< (p2 &&& 31)) fun v5_9 => nm ((1 : Int32) <<< (p1 &&& 31)) fun v6_10 => nm (0 : Int32) fun v7_11 => L_X6_walk_50 zX zG zS p1 p2 r_7 v5_9 3000 v6_10 v7_11))
set_option maxHeartbeats 4000000 in
set_option maxRecDepth 100000 in
theorem c_X6_walk (l : Launch) (D : va_G) (ci : Nat → ClassId) (aX_0 : Nat) (aR_0 : Nat) (aG_0 : Nat) (aS_0 : Nat) (aP_0 : Nat) (aN_0 : Nat) (aI_0 : Nat) (aT_0 : Nat) (aG_1 : Nat) (aG_2 : Nat) (aG_3 : Nat) (aG_4 : Nat) (aS_1 : Nat) (sz : Nat) (zX : XS) (zG : GS) (zS : SS) (p1 : Int32) (p2 : Int32) (res : Int32) (hF : f_X6_walk zX zG zS p1 p2 = some res) : CtI l yX6_walk wsX6_walk { frames := 4, cells := 0, slots := 0, locals := 89 } [.ref aX_0, .int p1, .int p2] D ci ((wcX aX_0 aR_0 aG_0 aS_0 aP_0 aN_0 aI_0 aT_0 zX) ++ ((wcG ci aG_0 aG_1 aG_2 aG_3 aG_4 zG) ++ (wcS ci aS_0 aS_1 zS))) sz res ((wcX aX_0 aR_0 aG_0 aS_0 aP_0 aN_0 aI_0 aT_0 zX) ++ ((wcG ci aG_0 aG_1 aG_2 aG_3 aG_4 zG) ++ (wcS ci aS_0 aS_1 zS))) := by
  refine Met.ofW (cc := cX6_walk) (maxL := 8) (ret := (some .int)) (by decide) rfl ?_
  intro p e s m args below meth c s₁ B hml hv
  obtain ⟨rfl, hsz, hP, hK, hD0⟩ := hv
  have hx := B.exec
  have hb := B.bytes
  have hr := B.returns
  have hts := atoms_spec (ws := wsX6_walk) B.pre
  have hown : s.vm.findClass RX6 = some m.cls := findClass_of_methodNamed B.named
  have hlocks := B.notSynchronized
  subst hsz
  have hD := hD0.self (sz := s.heap.size)
  generalize hAe : va_A ((wcX aX_0 aR_0 aG_0 aS_0 aP_0 aN_0 aI_0 aT_0 zX) ++ ((wcG ci aG_0 aG_1 aG_2 aG_3 aG_4 zG) ++ (wcS ci aS_0 aS_1 zS))) s.heap.size = A at hD ⊢
  have hA : ∀ q : Nat, s.heap.size ≤ q → A q := fun q h => by rw [← hAe]; exact Or.inr h
  clear hD0 hAe
  have hl := lv_entry ([.ref aX_0, .int p1, .int p2]) (n := 8) (Nat.le_of_ble_eq_true rfl)
  rw [lg_entry_eq]
  generalize (lg_sl ([.ref aX_0, .int p1, .int p2]) ++ List.replicate (8 - (lg_sl ([.ref aX_0, .int p1, .int p2])).length) Slot.unset).toArray = ls at hl ⊢
  have hl : lv_has ls 8 [(0, .ref aX_0), (1, .int p1), (2, .int p2)] := hl
  have hP : va_P D vwCl ((wcX aX_0 aR_0 aG_0 aS_0 aP_0 aN_0 aI_0 aT_0 zX) ++ ((wcG ci aG_0 aG_1 aG_2 aG_3 aG_4 zG) ++ (wcS ci aS_0 aS_1 zS))) s.heap := hP
  generalize hH0 : s.heap = H at hP ⊢
  have hS : va_S A s.heap H [] := by rw [← hH0]; exact va_S.rf
  clear hH0
  generalize ([] : List Loc) = locs at hS ⊢
  have hk_0 := hts (.fieldLink RX6 19 "HedgeWar" "ground" "LHedgeWar$Ground;") (by decide +kernel)
  have hin_RX6 : ∀ w ∈ wsX60, w ∈ wsX6_walk := by decide +kernel
  have hk_2 := hts (.constant RX6 147 (-1000000001)) (by decide +kernel)
  have hk_3 := hts (.fieldLink RX6 26 "HedgeWar" "now" "LHedgeWar$Stand;") (by decide +kernel)
  unfold f_X6_walk at hF
  refine lv_aload_n hx hb dX6_walk_0 rfl (lv_at hl 0 rfl) ?_
  refine va_get (D := D) (ci := 6) (v := .ref aG_0) (C := RX6) (T := TX6) (N := 9) hx hb hts hin_RX6 hown hK hP 0 rfl rfl 1 (by decide) hk_0 (fun _ h9 => h9) rfl dX6_walk_1 ?_
  refine lv_iload_n hx hb dX6_walk_4 rfl (lv_at hl 1 rfl) ?_
  replace hF := bnd hF
  obtain ⟨r_1, hc_2, hF⟩ := hF
  refine cl_Vi (As := [.int p1]) (rest := []) (wc := (wcG ci aG_0 aG_1 aG_2 aG_3 aG_4 zG)) (wr := ([0, 6, 7].filterMap (fun i => ((wcX aX_0 aR_0 aG_0 aS_0 aP_0 aN_0 aI_0 aT_0 zX) ++ ((wcG ci aG_0 aG_1 aG_2 aG_3 aG_4 zG) ++ (wcS ci aS_0 aS_1 zS)))[i]?))) (w1 := (wcG ci aG_0 aG_1 aG_2 aG_3 aG_4 zG)) (wn := ((wcX aX_0 aR_0 aG_0 aS_0 aP_0 aN_0 aI_0 aT_0 zX) ++ ((wcG ci aG_0 aG_1 aG_2 aG_3 aG_4 zG) ++ (wcS ci aS_0 aS_1 zS)))) ⟨hx, hb, hml, hown, hts⟩ (cwV 1 hts gX6_walk_X0_hasField rfl rfl rfl (by decide +kernel) ⟨Nat.le_of_ble_eq_true rfl, Nat.le_of_ble_eq_true rfl⟩) (c_X0_hasField l D ci aG_0 aG_1 aG_2 aG_3 aG_4 H.size zG p1 _ hc_2) hK hP hD hS hA [1, 2, 3, 4, 5] [0, 6, 7] [0, 3, 4, 5, 6, 7, 1, 2] rfl rfl rfl (by decide) 0 rfl rfl rfl rfl hl.1 (Nat.le_of_ble_eq_true rfl) dX6_walk_5 (Nat.zero_le _) (Nat.zero_le _) (fun H locs hP hD hS => ?_)
  have hP : va_P D vwCl ((wcX aX_0 aR_0 aG_0 aS_0 aP_0 aN_0 aI_0 aT_0 zX) ++ ((wcG ci aG_0 aG_1 aG_2 aG_3 aG_4 zG) ++ (wcS ci aS_0 aS_1 zS))) H := hP
  have hD : va_D A ((wcX aX_0 aR_0 aG_0 aS_0 aP_0 aN_0 aI_0 aT_0 zX) ++ ((wcG ci aG_0 aG_1 aG_2 aG_3 aG_4 zG) ++ (wcS ci aS_0 aS_1 zS))) := hD
  refine lv_if_eq (tgt := 22) hx hb dX6_walk_8 (by decide) (fun c_3 => ?_) (fun c_3 => ?_)
  · replace hF := if_i c_3 hF
    refine lv_ldc (v := (-1000000001)) hx hb hown hk_2 dX6_walk_22 ?_
    obtain rfl := Option.some.inj hF
    exact W.iret (v := (-1000000001)) hx hb hr (fun t ht hW => ⟨⟨_, (), rfl, rfl, by rw [ht]; exact hP, va_K.moved hW.alike hK, hD⟩, hS.F ht⟩) hS.2.2 dX6_walk_24
  · replace hF := if_o c_3 hF
    refine lv_aload_n hx hb dX6_walk_11 rfl (lv_at hl 0 rfl) ?_
    refine va_get (D := D) (ci := 6) (v := .ref aG_0) (C := RX6) (T := TX6) (N := 9) hx hb hts hin_RX6 hown hK hP 0 rfl rfl 1 (by decide) hk_0 (fun _ h9 => h9) rfl dX6_walk_12 ?_
    refine lv_iload_n hx hb dX6_walk_15 rfl (lv_at hl 2 rfl) ?_
    replace hF := bnd hF
    obtain ⟨r_4, hc_5, hF⟩ := hF
    refine cl_Vi (As := [.int p2]) (rest := []) (wc := (wcG ci aG_0 aG_1 aG_2 aG_3 aG_4 zG)) (wr := ([0, 6, 7].filterMap (fun i => ((wcX aX_0 aR_0 aG_0 aS_0 aP_0 aN_0 aI_0 aT_0 zX) ++ ((wcG ci aG_0 aG_1 aG_2 aG_3 aG_4 zG) ++ (wcS ci aS_0 aS_1 zS)))[i]?))) (w1 := (wcG ci aG_0 aG_1 aG_2 aG_3 aG_4 zG)) (wn := ((wcX aX_0 aR_0 aG_0 aS_0 aP_0 aN_0 aI_0 aT_0 zX) ++ ((wcG ci aG_0 aG_1 aG_2 aG_3 aG_4 zG) ++ (wcS ci aS_0 aS_1 zS)))) ⟨hx, hb, hml, hown, hts⟩ (cwV 1 hts gX6_walk_X0_hasField rfl rfl rfl (by decide +kernel) ⟨Nat.le_of_ble_eq_true rfl, Nat.le_of_ble_eq_true rfl⟩) (c_X0_hasField l D ci aG_0 aG_1 aG_2 aG_3 aG_4 H.size zG p2 _ hc_5) hK hP hD hS hA [1, 2, 3, 4, 5] [0, 6, 7] [0, 3, 4, 5, 6, 7, 1, 2] rfl rfl rfl (by decide) 0 rfl rfl rfl rfl hl.1 (Nat.le_of_ble_eq_true rfl) dX6_walk_16 (Nat.zero_le _) (Nat.zero_le _) (fun H locs hP hD hS => ?_)
    have hP : va_P D vwCl ((wcX aX_0 aR_0 aG_0 aS_0 aP_0 aN_0 aI_0 aT_0 zX) ++ ((wcG ci aG_0 aG_1 aG_2 aG_3 aG_4 zG) ++ (wcS ci aS_0 aS_1 zS))) H := hP
    have hD : va_D A ((wcX aX_0 aR_0 aG_0 aS_0 aP_0 aN_0 aI_0 aT_0 zX) ++ ((wcG ci aG_0 aG_1 aG_2 aG_3 aG_4 zG) ++ (wcS ci aS_0 aS_1 zS))) := hD
    refine lv_if_ne (tgt := 25) hx hb dX6_walk_19 (by decide) (fun c_6 => ?_) (fun c_6 => ?_)
    · replace hF := if_o c_6 hF
      refine lv_aload_n hx hb dX6_walk_25 rfl (lv_at hl 0 rfl) ?_
      refine va_get (D := D) (ci := 6) (v := .ref aS_0) (C := RX6) (T := TX6) (N := 9) hx hb hts hin_RX6 hown hK hP 0 rfl rfl 2 (by decide) hk_3 (fun _ h9 => h9) rfl dX6_walk_26 ?_
      refine lv_aload_n hx hb dX6_walk_29 rfl (lv_at hl 0 rfl) ?_
      refine va_get (D := D) (ci := 6) (v := .ref aG_0) (C := RX6) (T := TX6) (N := 9) hx hb hts hin_RX6 hown hK hP 0 rfl rfl 1 (by decide) hk_0 (fun _ h9 => h9) rfl dX6_walk_30 ?_
      replace hF := bnd hF
      obtain ⟨r_7, hc_8, hF⟩ := hF
      refine cl_Vl (As := [.ref aG_0]) (rest := []) (wc := ((wcG ci aG_0 aG_1 aG_2 aG_3 aG_4 zG) ++ (wcS ci aS_0 aS_1 zS))) (wr := ([0].filterMap (fun i => ((wcX aX_0 aR_0 aG_0 aS_0 aP_0 aN_0 aI_0 aT_0 zX) ++ ((wcG ci aG_0 aG_1 aG_2 aG_3 aG_4 zG) ++ (wcS ci aS_0 aS_1 zS)))[i]?))) (w1 := ((wcG ci aG_0 aG_1 aG_2 aG_3 aG_4 zG) ++ (wcS ci aS_0 aS_1 zS))) (wn := ((wcX aX_0 aR_0 aG_0 aS_0 aP_0 aN_0 aI_0 aT_0 zX) ++ ((wcG ci aG_0 aG_1 aG_2 aG_3 aG_4 zG) ++ (wcS ci aS_0 aS_1 zS)))) ⟨hx, hb, hml, hown, hts⟩ (cwV 1 hts gX6_walk_X5_shutEdges rfl rfl rfl (by decide +kernel) ⟨Nat.le_of_ble_eq_true rfl, Nat.le_of_ble_eq_true rfl⟩) (c_X5_shutEdges l D ci aG_0 aG_1 aG_2 aG_3 aG_4 aS_0 aS_1 H.size zG zS _ hc_8) hK hP hD hS hA [1, 2, 3, 4, 5, 6, 7] [0] [0, 1, 2, 3, 4, 5, 6, 7] rfl rfl rfl (by decide) 5 rfl rfl rfl rfl hl.1 (Nat.le_of_ble_eq_true rfl) dX6_walk_33 (Nat.zero_le _) (Nat.zero_le _) (fun H locs hP hD hS => ?_)
      have hP : va_P D vwCl ((wcX aX_0 aR_0 aG_0 aS_0 aP_0 aN_0 aI_0 aT_0 zX) ++ ((wcG ci aG_0 aG_1 aG_2 aG_3 aG_4 zG) ++ (wcS ci aS_0 aS_1 zS))) H := hP
      have hD : va_D A ((wcX aX_0 aR_0 aG_0 aS_0 aP_0 aN_0 aI_0 aT_0 zX) ++ ((wcG ci aG_0 aG_1 aG_2 aG_3 aG_4 zG) ++ (wcS ci aS_0 aS_1 zS))) := hD
      refine lv_lstore_n (lv' := [(3, .long r_7), (0, .ref aX_0), (1, .int p1), (2, .int p2)]) hx hb dX6_walk_36 rfl hl (by decide) rfl (fun ls hl => ?_)
      refine lv_iconst (v := 1) hx hb dX6_walk_37 (by decide) ?_
      refine lv_iload_n hx hb dX6_walk_38 rfl (lv_at hl 3 rfl) ?_
      refine lv_ishl hx hb dX6_walk_39 ?_
      refine lv_topi (fun v5_9 ev5_9 => ?_)
      replace hF := nm_i hF ev5_9
      refine lv_istore (lv' := [(5, .int v5_9), (3, .long r_7), (0, .ref aX_0), (1, .int p1), (2, .int p2)]) hx hb dX6_walk_40 hl (by decide) rfl (fun ls hl => ?_)
      refine lv_iconst (v := 1) hx hb dX6_walk_42 (by decide) ?_
      refine lv_iload_n hx hb dX6_walk_43 rfl (lv_at hl 3 rfl) ?_
      refine lv_ishl hx hb dX6_walk_44 ?_
      refine lv_topi (fun v6_10 ev6_10 => ?_)
      replace hF := nm_i hF ev6_10
      refine lv_istore (lv' := [(6, .int v6_10), (5, .int v5_9), (3, .long r_7), (0, .ref aX_0), (1, .int p1), (2, .int p2)]) hx hb dX6_walk_45 hl (by decide) rfl (fun ls hl => ?_)
      refine lv_iconst (v := 0) hx hb dX6_walk_47 (by decide) ?_
      refine lv_topi (fun v7_11 ev7_11 => ?_)
      replace hF := nm_i hF ev7_11
      refine lv_istore (lv' := [(7, .int v7_11), (6, .int v6_10), (5, .int v5_9), (3, .long r_7), (0, .ref aX_0), (1, .int p1), (2, .int p2)]) hx hb dX6_walk_48 hl (by decide) rfl (fun ls hl => ?_)
      refine lpW (σ := Int32 × Int32) (I := fun n v H locs ls => L_X6_walk_50 zX zG zS p1 p2 r_7 v5_9 n v.1 v.2 = some res ∧ va_P D vwCl ((wcX aX_0 aR_0 aG_0 aS_0 aP_0 aN_0 aI_0 aT_0 zX) ++ ((wcG ci aG_0 aG_1 aG_2 aG_3 aG_4 zG) ++ (wcS ci aS_0 aS_1 zS))) H ∧ va_D A ((wcX aX_0 aR_0 aG_0 aS_0 aP_0 aN_0 aI_0 aT_0 zX) ++ ((wcG ci aG_0 aG_1 aG_2 aG_3 aG_4 zG) ++ (wcS ci aS_0 aS_1 zS))) ∧ va_S A s.heap H locs ∧ lv_has ls 8 [(0, .ref aX_0), (1, .int p1), (2, .int p2), (3, .long r_7), (5, .int v5_9), (6, .int v.1), (7, .int v.2)]) 3000 (v6_10, v7_11) (fun _ _ _ _ h => no_none h.1) ⟨hF, hP, hD, hS, lv_sub hl [4, 5, 6, 3, 2, 1, 0] rfl⟩ ?_
      clear hF hP hD hS hl
      intro n ih_14 vq H locs ls hI
      obtain ⟨v6_12, v7_13⟩ := vq
      obtain ⟨hF, hP, hD, hS, hl⟩ := hI
      have hP : va_P D vwCl ((wcX aX_0 aR_0 aG_0 aS_0 aP_0 aN_0 aI_0 aT_0 zX) ++ ((wcG ci aG_0 aG_1 aG_2 aG_3 aG_4 zG) ++ (wcS ci aS_0 aS_1 zS))) H := hP
      have hD : va_D A ((wcX aX_0 aR_0 aG_0 aS_0 aP_0 aN_0 aI_0 aT_0 zX) ++ ((wcG ci aG_0 aG_1 aG_2 aG_3 aG_4 zG) ++ (wcS ci aS_0 aS_1 zS))) := hD
      have hl : lv_has ls 8 [(0, .ref aX_0), (1, .int p1), (2, .int p2), (3, .long r_7), (5, .int v5_9), (6, .int v6_12), (7, .int v7_13)] := hl
      replace hF : L_X6_walk_50 zX zG zS p1 p2 r_7 v5_9 (n + 1) v6_12 v7_13 = some res := hF
      rw [L_X6_walk_50] at hF
      refine lv_iload hx hb dX6_walk_50 (lv_at hl 6 rfl) ?_
      refine lv_bipush (v := 25) hx hb dX6_walk_52 (by decide) ?_
      refine lv_icmp_ge (tgt := 86) hx hb dX6_walk_54 (by decide) (fun c_16 => ?_) (fun c_16 => ?_)
      · replace hF := if_i c_16 hF
        refine lv_iconst (v := (-1)) hx hb dX6_walk_86 (by decide) ?_
        obtain rfl := Option.some.inj hF
        exact W.iret (v := (-1)) hx hb hr (fun t ht hW => ⟨⟨_, (), rfl, rfl, by rw [ht]; exact hP, va_K.moved hW.alike hK, hD⟩, hS.F ht⟩) hS.2.2 dX6_walk_87
      · replace hF := if_o c_16 hF
        refine lv_iload hx hb dX6_walk_57 (lv_at hl 5 rfl) ?_
        refine lv_iload hx hb dX6_walk_59 (lv_at hl 4 rfl) ?_
        refine lv_iand hx hb dX6_walk_61 ?_
        refine lv_if_eq (tgt := 68) hx hb dX6_walk_62 (by decide) (fun c_17 => ?_) (fun c_17 => ?_)
        · replace hF := if_i c_17 hF
          refine lv_aload_n hx hb dX6_walk_68 rfl (lv_at hl 0 rfl) ?_
          refine va_get (D := D) (ci := 6) (v := .ref aG_0) (C := RX6) (T := TX6) (N := 9) hx hb hts hin_RX6 hown hK hP 0 rfl rfl 1 (by decide) hk_0 (fun _ h9 => h9) rfl dX6_walk_69 ?_
          refine lv_iload hx hb dX6_walk_72 (lv_at hl 5 rfl) ?_
          refine lv_lload_n hx hb dX6_walk_74 rfl (lv_at hl 3 rfl) ?_
          replace hF := bnd hF
          obtain ⟨r_18, hc_19, hF⟩ := hF
          refine cl_Vi (As := [.int v6_12, .long r_7]) (rest := []) (wc := (wcG ci aG_0 aG_1 aG_2 aG_3 aG_4 zG)) (wr := ([0, 6, 7].filterMap (fun i => ((wcX aX_0 aR_0 aG_0 aS_0 aP_0 aN_0 aI_0 aT_0 zX) ++ ((wcG ci aG_0 aG_1 aG_2 aG_3 aG_4 zG) ++ (wcS ci aS_0 aS_1 zS)))[i]?))) (w1 := (wcG ci aG_0 aG_1 aG_2 aG_3 aG_4 zG)) (wn := ((wcX aX_0 aR_0 aG_0 aS_0 aP_0 aN_0 aI_0 aT_0 zX) ++ ((wcG ci aG_0 aG_1 aG_2 aG_3 aG_4 zG) ++ (wcS ci aS_0 aS_1 zS)))) ⟨hx, hb, hml, hown, hts⟩ (cwV 2 hts gX6_walk_X0_oneStepFrom rfl rfl rfl (by decide +kernel) ⟨Nat.le_of_ble_eq_true rfl, Nat.le_of_ble_eq_true rfl⟩) (c_X0_oneStepFrom l D ci aG_0 aG_1 aG_2 aG_3 aG_4 H.size zG v6_12 r_7 _ hc_19) hK hP hD hS hA [1, 2, 3, 4, 5] [0, 6, 7] [0, 3, 4, 5, 6, 7, 1, 2] rfl rfl rfl (by decide) 0 rfl rfl rfl rfl hl.1 (Nat.le_of_ble_eq_true rfl) dX6_walk_75 (Nat.zero_le _) (Nat.zero_le _) (fun H locs hP hD hS => ?_)
          have hP : va_P D vwCl ((wcX aX_0 aR_0 aG_0 aS_0 aP_0 aN_0 aI_0 aT_0 zX) ++ ((wcG ci aG_0 aG_1 aG_2 aG_3 aG_4 zG) ++ (wcS ci aS_0 aS_1 zS))) H := hP
          have hD : va_D A ((wcX aX_0 aR_0 aG_0 aS_0 aP_0 aN_0 aI_0 aT_0 zX) ++ ((wcG ci aG_0 aG_1 aG_2 aG_3 aG_4 zG) ++ (wcS ci aS_0 aS_1 zS))) := hD
          refine lv_istore (lv' := [(6, .int r_18), (0, .ref aX_0), (1, .int p1), (2, .int p2), (3, .long r_7), (5, .int v5_9), (7, .int v7_13)]) hx hb dX6_walk_78 hl (by decide) rfl (fun ls hl => ?_)
          obtain ⟨v7_20, ev7_20⟩ : ∃ y : Int32, y = v7_13 + 1 := ⟨_, rfl⟩
          replace hF := nm_i hF ev7_20
          refine lv_iinc (v := v7_20) (lv' := [(7, .int v7_20), (6, .int r_18), (0, .ref aX_0), (1, .int p1), (2, .int p2), (3, .long r_7), (5, .int v5_9)]) hx hb dX6_walk_80 hl (k := 6) rfl (by rw [ev7_20]; rfl) (by decide) rfl (fun ls hl => ?_)
          refine lv_goto (tgt := 50) hx hb dX6_walk_83 (by decide) ?_
          exact ih_14 (r_18, v7_20) H locs ls ⟨hF, hP, hD, hS, lv_sub hl [2, 3, 4, 5, 6, 1, 0] rfl⟩
        · replace hF := if_o c_17 hF
          refine lv_iload hx hb dX6_walk_65 (lv_at hl 6 rfl) ?_
          obtain rfl := Option.some.inj hF
          exact W.iret (v := v7_13) hx hb hr (fun t ht hW => ⟨⟨_, (), rfl, rfl, by rw [ht]; exact hP, va_K.moved hW.alike hK, hD⟩, hS.F ht⟩) hS.2.2 dX6_walk_67
    · replace hF := if_i c_6 hF
      refine lv_ldc (v := (-1000000001)) hx hb hown hk_2 dX6_walk_22 ?_
      obtain rfl := Option.some.inj hF
      exact W.iret (v := (-1000000001)) hx hb hr (fun t ht hW => ⟨⟨_, (), rfl, rfl, by rw [ht]; exact hP, va_K.moved hW.alike hK, hD⟩, hS.F ht⟩) hS.2.2 dX6_walk_24

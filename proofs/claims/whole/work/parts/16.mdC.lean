noncomputable def f_X7_factor (zM : MS) (p1 : Int32) : Option (Int32) := ald 40 (zM.2 5) p1 fun x_2 => ald 25 (zM.2 4) x_2 fun x_4 => ald 40 (zM.2 6) p1 fun x_6 => ald 25 (zM.2 4) x_6 fun x_8 => dvi (4 : Int32) <| some (2 + ((x_4 + x_8) / 4))
set_option maxHeartbeats 4000000 in
set_option maxRecDepth 100000 in
theorem c_X7_factor (l : Launch) (D : va_G) (ci : Nat → ClassId) (aM : Nat → Nat) (sz : Nat) (zM : MS) (p1 : Int32) (res : Int32) (hF : f_X7_factor zM p1 = some res) : CtI l yX7_factor wsX7_factor { frames := 0, cells := 0, slots := 0, locals := 0 } [.ref (aM 0), .int p1] D ci (wcM ci aM zM) sz res (wcM ci aM zM) := by
  refine Met.ofW (cc := cX7_factor) (maxL := 2) (ret := (some .int)) (by decide) rfl ?_
  intro p e s m args below meth c s₁ B hml hv
  obtain ⟨rfl, hsz, hP, hK, hD0⟩ := hv
  have hx := B.exec
  have hb := B.bytes
  have hr := B.returns
  have hts := atoms_spec (ws := wsX7_factor) B.pre
  have hown : s.vm.findClass RX7 = some m.cls := findClass_of_methodNamed B.named
  have hlocks := B.notSynchronized
  subst hsz
  have hD := hD0.self (sz := s.heap.size)
  generalize hAe : va_A (wcM ci aM zM) s.heap.size = A at hD ⊢
  have hA : ∀ q : Nat, s.heap.size ≤ q → A q := fun q h => by rw [← hAe]; exact Or.inr h
  clear hD0 hAe
  have hl := lv_entry ([.ref (aM 0), .int p1]) (n := 2) (Nat.le_of_ble_eq_true rfl)
  rw [lg_entry_eq]
  generalize (lg_sl ([.ref (aM 0), .int p1]) ++ List.replicate (2 - (lg_sl ([.ref (aM 0), .int p1])).length) Slot.unset).toArray = ls at hl ⊢
  have hl : lv_has ls 2 [(0, .ref (aM 0)), (1, .int p1)] := hl
  have hP : va_P D vwCl (wcM ci aM zM) s.heap := hP
  generalize hH0 : s.heap = H at hP ⊢
  have hS : va_S A s.heap H [] := by rw [← hH0]; exact va_S.rf
  clear hH0
  generalize ([] : List Loc) = locs at hS ⊢
  have hk_0 := hts (.fieldLink RX7 7 "HedgeWarModel" "soil" "[I") (by decide +kernel)
  have hin_RX7 : ∀ w ∈ wsX70, w ∈ wsX7_factor := by decide +kernel
  have hk_2 := hts (.fieldLink RX7 13 "HedgeWarModel" "edgeLow" "[I") (by decide +kernel)
  have hk_3 := hts (.fieldLink RX7 16 "HedgeWarModel" "edgeHigh" "[I") (by decide +kernel)
  unfold f_X7_factor at hF
  refine lv_iconst (v := 2) hx hb dX7_factor_0 (by decide) ?_
  refine lv_aload_n hx hb dX7_factor_1 rfl (lv_at hl 0 rfl) ?_
  refine va_get (D := D) (ci := 7) (v := .ref (aM 4)) (C := RX7) (T := TX7) (N := 38) hx hb hts hin_RX7 hown hK hP 0 rfl rfl 4 (by decide) hk_0 (fun _ h9 => h9) rfl dX7_factor_2 ?_
  refine lv_aload_n hx hb dX7_factor_5 rfl (lv_at hl 0 rfl) ?_
  refine va_get (D := D) (ci := 7) (v := .ref (aM 5)) (C := RX7) (T := TX7) (N := 38) hx hb hts hin_RX7 hown hK hP 0 rfl rfl 5 (by decide) hk_2 (fun _ h9 => h9) rfl dX7_factor_6 ?_
  refine lv_iload_n hx hb dX7_factor_9 rfl (lv_at hl 1 rfl) ?_
  replace hF := ald_i hF
  obtain ⟨hin_1, hF⟩ := hF
  refine va_iald hx hb hK hP 2 0 rfl rfl hin_1 dX7_factor_10 ?_
  refine lv_topi (fun x_2 ex_2 => ?_)
  replace hF := nm_i hF ex_2
  replace hF := ald_i hF
  obtain ⟨hin_3, hF⟩ := hF
  refine va_iald hx hb hK hP 1 0 rfl rfl hin_3 dX7_factor_11 ?_
  refine lv_topi (fun x_4 ex_4 => ?_)
  replace hF := nm_i hF ex_4
  refine lv_aload_n hx hb dX7_factor_12 rfl (lv_at hl 0 rfl) ?_
  refine va_get (D := D) (ci := 7) (v := .ref (aM 4)) (C := RX7) (T := TX7) (N := 38) hx hb hts hin_RX7 hown hK hP 0 rfl rfl 4 (by decide) hk_0 (fun _ h9 => h9) rfl dX7_factor_13 ?_
  refine lv_aload_n hx hb dX7_factor_16 rfl (lv_at hl 0 rfl) ?_
  refine va_get (D := D) (ci := 7) (v := .ref (aM 6)) (C := RX7) (T := TX7) (N := 38) hx hb hts hin_RX7 hown hK hP 0 rfl rfl 6 (by decide) hk_3 (fun _ h9 => h9) rfl dX7_factor_17 ?_
  refine lv_iload_n hx hb dX7_factor_20 rfl (lv_at hl 1 rfl) ?_
  replace hF := ald_i hF
  obtain ⟨hin_5, hF⟩ := hF
  refine va_iald hx hb hK hP 3 0 rfl rfl hin_5 dX7_factor_21 ?_
  refine lv_topi (fun x_6 ex_6 => ?_)
  replace hF := nm_i hF ex_6
  replace hF := ald_i hF
  obtain ⟨hin_7, hF⟩ := hF
  refine va_iald hx hb hK hP 1 0 rfl rfl hin_7 dX7_factor_22 ?_
  refine lv_topi (fun x_8 ex_8 => ?_)
  replace hF := nm_i hF ex_8
  refine lv_iadd hx hb dX7_factor_23 ?_
  refine lv_iconst (v := 4) hx hb dX7_factor_24 (by decide) ?_
  replace hF := dvi_i hF
  obtain ⟨hne_9, hF⟩ := hF
  refine lv_idiv hx hb dX7_factor_25 hne_9 ?_
  refine lv_iadd hx hb dX7_factor_26 ?_
  obtain rfl := Option.some.inj hF
  exact W.iret (v := (2 + ((x_4 + x_8) / 4))) hx hb hr (fun t ht hW => ⟨⟨_, (), rfl, rfl, by rw [ht]; exact hP, va_K.moved hW.alike hK, hD⟩, hS.F ht⟩) hS.2.2 dX7_factor_27
noncomputable def f_X7_heightBy (zM : MS) (p1 : Int32) (p2 : Int32) : Option (Int32) := (if (99 : Int32) ≤ p2 then (some (99 : Int32)) else (some (p2 : Int32))).bind fun t_1 => (f_X7_factor zM p1).bind fun r_5 => nm (t_1 * r_5) fun v4_7 => if (99 : Int32) ≤ v4_7 then (some (99 : Int32)) else (some v4_7)
set_option maxHeartbeats 4000000 in
set_option maxRecDepth 100000 in
theorem c_X7_heightBy (l : Launch) (D : va_G) (ci : Nat → ClassId) (aM : Nat → Nat) (sz : Nat) (zM : MS) (p1 : Int32) (p2 : Int32) (res : Int32) (hF : f_X7_heightBy zM p1 p2 = some res) : CtI l yX7_heightBy wsX7_heightBy { frames := 1, cells := 0, slots := 0, locals := 21 } [.ref (aM 0), .int p1, .int p2] D ci (wcM ci aM zM) sz res (wcM ci aM zM) := by
  refine Met.ofW (cc := cX7_heightBy) (maxL := 5) (ret := (some .int)) (by decide) rfl ?_
  intro p e s m args below meth c s₁ B hml hv
  obtain ⟨rfl, hsz, hP, hK, hD0⟩ := hv
  have hx := B.exec
  have hb := B.bytes
  have hr := B.returns
  have hts := atoms_spec (ws := wsX7_heightBy) B.pre
  have hown : s.vm.findClass RX7 = some m.cls := findClass_of_methodNamed B.named
  have hlocks := B.notSynchronized
  subst hsz
  have hD := hD0.self (sz := s.heap.size)
  generalize hAe : va_A (wcM ci aM zM) s.heap.size = A at hD ⊢
  have hA : ∀ q : Nat, s.heap.size ≤ q → A q := fun q h => by rw [← hAe]; exact Or.inr h
  clear hD0 hAe
  have hl := lv_entry ([.ref (aM 0), .int p1, .int p2]) (n := 5) (Nat.le_of_ble_eq_true rfl)
  rw [lg_entry_eq]
  generalize (lg_sl ([.ref (aM 0), .int p1, .int p2]) ++ List.replicate (5 - (lg_sl ([.ref (aM 0), .int p1, .int p2])).length) Slot.unset).toArray = ls at hl ⊢
  have hl : lv_has ls 5 [(0, .ref (aM 0)), (1, .int p1), (2, .int p2)] := hl
  have hP : va_P D vwCl (wcM ci aM zM) s.heap := hP
  generalize hH0 : s.heap = H at hP ⊢
  have hS : va_S A s.heap H [] := by rw [← hH0]; exact va_S.rf
  clear hH0
  generalize ([] : List Loc) = locs at hS ⊢
  unfold f_X7_heightBy at hF
  refine lv_iload_n hx hb dX7_heightBy_0 rfl (lv_at hl 2 rfl) ?_
  refine lv_bipush (v := 99) hx hb dX7_heightBy_1 (by decide) ?_
  replace hF := bnd hF
  obtain ⟨t_1, hv_4, hF⟩ := hF
  refine jn (P := fun H locs ls => va_P D vwCl (wcM ci aM zM) H ∧ va_D A (wcM ci aM zM) ∧ va_S A s.heap H locs ∧ lv_has ls 5 [(0, .ref (aM 0)), (1, .int p1), (2, .int p2)]) (pcJ := 12) (st := [.int t_1]) ?_ ?_
  · intro H locs ls hJ
    obtain ⟨hP, hD, hS, hl⟩ := hJ
    refine lv_istore_n (lv' := [(3, .int t_1), (0, .ref (aM 0)), (1, .int p1), (2, .int p2)]) hx hb dX7_heightBy_12 rfl hl (by decide) rfl (fun ls hl => ?_)
    refine lv_iload_n hx hb dX7_heightBy_13 rfl (lv_at hl 0 rfl) ?_
    refine lv_aload_n hx hb dX7_heightBy_14 rfl (lv_at hl 1 rfl) ?_
    refine lv_iload_n hx hb dX7_heightBy_15 rfl (lv_at hl 2 rfl) ?_
    replace hF := bnd hF
    obtain ⟨r_5, hc_6, hF⟩ := hF
    refine cl_Vi0 (As := [.int p1]) (rest := [.int t_1]) ⟨hx, hb, hml, hown, hts⟩ (cwV 1 hts gX7_heightBy_X7_factor rfl rfl rfl (by decide +kernel) ⟨Nat.le_of_ble_eq_true rfl, Nat.le_of_ble_eq_true rfl⟩) (c_X7_factor l D ci aM H.size zM p1 _ hc_6) hK hP hD hS hA 0 rfl rfl rfl rfl hl.1 (Nat.le_of_ble_eq_true rfl) dX7_heightBy_16 (Nat.zero_le _) (Nat.zero_le _) (fun H locs hP hD hS => ?_)
    have hP : va_P D vwCl (wcM ci aM zM) H := hP
    have hD : va_D A (wcM ci aM zM) := hD
    refine lv_imul hx hb dX7_heightBy_19 ?_
    refine lv_topi (fun v4_7 ev4_7 => ?_)
    replace hF := nm_i hF ev4_7
    refine lv_istore (lv' := [(4, .int v4_7), (3, .int t_1), (0, .ref (aM 0)), (1, .int p1), (2, .int p2)]) hx hb dX7_heightBy_20 hl (by decide) rfl (fun ls hl => ?_)
    refine lv_iload hx hb dX7_heightBy_22 (lv_at hl 0 rfl) ?_
    refine lv_bipush (v := 99) hx hb dX7_heightBy_24 (by decide) ?_
    refine lv_icmp_ge (tgt := 34) hx hb dX7_heightBy_26 (by decide) (fun c_8 => ?_) (fun c_8 => ?_)
    · replace hF := if_i c_8 hF
      refine lv_bipush (v := 99) hx hb dX7_heightBy_34 (by decide) ?_
      obtain rfl := Option.some.inj hF
      exact W.iret (v := 99) hx hb hr (fun t ht hW => ⟨⟨_, (), rfl, rfl, by rw [ht]; exact hP, va_K.moved hW.alike hK, hD⟩, hS.F ht⟩) hS.2.2 dX7_heightBy_36
    · replace hF := if_o c_8 hF
      refine lv_iload hx hb dX7_heightBy_29 (lv_at hl 0 rfl) ?_
      refine lv_goto (tgt := 36) hx hb dX7_heightBy_31 (by decide) ?_
      obtain rfl := Option.some.inj hF
      exact W.iret (v := v4_7) hx hb hr (fun t ht hW => ⟨⟨_, (), rfl, rfl, by rw [ht]; exact hP, va_K.moved hW.alike hK, hD⟩, hS.F ht⟩) hS.2.2 dX7_heightBy_36
  · intro J_2
    clear hF
    have hF := hv_4
    refine lv_icmp_ge (tgt := 10) hx hb dX7_heightBy_3 (by decide) (fun c_3 => ?_) (fun c_3 => ?_)
    · replace hF := if_i c_3 hF
      refine lv_bipush (v := 99) hx hb dX7_heightBy_10 (by decide) ?_
      obtain rfl := Option.some.inj hF
      exact J_2 H locs ls ⟨hP, hD, hS, lv_sub hl [0, 1, 2] rfl⟩
    · replace hF := if_o c_3 hF
      refine lv_iload_n hx hb dX7_heightBy_6 rfl (lv_at hl 2 rfl) ?_
      refine lv_goto (tgt := 12) hx hb dX7_heightBy_7 (by decide) ?_
      obtain rfl := Option.some.inj hF
      exact J_2 H locs ls ⟨hP, hD, hS, lv_sub hl [0, 1, 2] rfl⟩
noncomputable def f_X7_isShut (zM : MS) (p1 : Int32) : Option (Int32) := ald 122 (zM.2 8) p1 fun x_2 => if x_2 < 0 then (some (0 : Int32)) else (ald 122 (zM.2 8) (80 + p1) fun x_5 => if x_5 = 0 then (ald 122 (zM.2 8) (40 + p1) fun x_8 => (f_X7_heightBy zM p1 x_8).bind fun r_9 => if r_9 < 12 then (some (0 : Int32)) else (some (1 : Int32))) else (some (0 : Int32)))
set_option maxHeartbeats 4000000 in
set_option maxRecDepth 100000 in
theorem c_X7_isShut (l : Launch) (D : va_G) (ci : Nat → ClassId) (aM : Nat → Nat) (sz : Nat) (zM : MS) (p1 : Int32) (res : Int32) (hF : f_X7_isShut zM p1 = some res) : CtI l yX7_isShut wsX7_isShut { frames := 2, cells := 0, slots := 0, locals := 45 } [.ref (aM 0), .int p1] D ci (wcM ci aM zM) sz res (wcM ci aM zM) := by
  refine Met.ofW (cc := cX7_isShut) (maxL := 2) (ret := (some .boolean)) (by decide) rfl ?_
  intro p e s m args below meth c s₁ B hml hv
  obtain ⟨rfl, hsz, hP, hK, hD0⟩ := hv
  have hx := B.exec
  have hb := B.bytes
  have hr := B.returns
  have hts := atoms_spec (ws := wsX7_isShut) B.pre
  have hown : s.vm.findClass RX7 = some m.cls := findClass_of_methodNamed B.named
  have hlocks := B.notSynchronized
  subst hsz
  have hD := hD0.self (sz := s.heap.size)
  generalize hAe : va_A (wcM ci aM zM) s.heap.size = A at hD ⊢
  have hA : ∀ q : Nat, s.heap.size ≤ q → A q := fun q h => by rw [← hAe]; exact Or.inr h
  clear hD0 hAe
  have hl := lv_entry ([.ref (aM 0), .int p1]) (n := 2) (Nat.le_of_ble_eq_true rfl)
  rw [lg_entry_eq]
  generalize (lg_sl ([.ref (aM 0), .int p1]) ++ List.replicate (2 - (lg_sl ([.ref (aM 0), .int p1])).length) Slot.unset).toArray = ls at hl ⊢
  have hl : lv_has ls 2 [(0, .ref (aM 0)), (1, .int p1)] := hl
  have hP : va_P D vwCl (wcM ci aM zM) s.heap := hP
  generalize hH0 : s.heap = H at hP ⊢
  have hS : va_S A s.heap H [] := by rw [← hH0]; exact va_S.rf
  clear hH0
  generalize ([] : List Loc) = locs at hS ⊢
  have hk_0 := hts (.fieldLink RX7 23 "HedgeWarModel" "now" "[I") (by decide +kernel)
  have hin_RX7 : ∀ w ∈ wsX70, w ∈ wsX7_isShut := by decide +kernel
  unfold f_X7_isShut at hF
  refine lv_aload_n hx hb dX7_isShut_0 rfl (lv_at hl 0 rfl) ?_
  refine va_get (D := D) (ci := 7) (v := .ref (aM 8)) (C := RX7) (T := TX7) (N := 38) hx hb hts hin_RX7 hown hK hP 0 rfl rfl 8 (by decide) hk_0 (fun _ h9 => h9) rfl dX7_isShut_1 ?_
  refine lv_iload_n hx hb dX7_isShut_4 rfl (lv_at hl 1 rfl) ?_
  replace hF := ald_i hF
  obtain ⟨hin_1, hF⟩ := hF
  refine va_iald hx hb hK hP 5 0 rfl rfl hin_1 dX7_isShut_5 ?_
  refine lv_topi (fun x_2 ex_2 => ?_)
  replace hF := nm_i hF ex_2
  refine lv_if_lt (tgt := 44) hx hb dX7_isShut_6 (by decide) (fun c_3 => ?_) (fun c_3 => ?_)
  · replace hF := if_i c_3 hF
    refine lv_iconst (v := 0) hx hb dX7_isShut_44 (by decide) ?_
    obtain rfl := Option.some.inj hF
    exact W.zret (v := 0) (ty := .boolean) hx hb hr rfl (fun t ht hW => ⟨⟨_, (), rfl, rfl, by rw [ht]; exact hP, va_K.moved hW.alike hK, hD⟩, hS.F ht⟩) hS.2.2 dX7_isShut_45
  · replace hF := if_o c_3 hF
    refine lv_aload_n hx hb dX7_isShut_9 rfl (lv_at hl 0 rfl) ?_
    refine va_get (D := D) (ci := 7) (v := .ref (aM 8)) (C := RX7) (T := TX7) (N := 38) hx hb hts hin_RX7 hown hK hP 0 rfl rfl 8 (by decide) hk_0 (fun _ h9 => h9) rfl dX7_isShut_10 ?_
    refine lv_bipush (v := 80) hx hb dX7_isShut_13 (by decide) ?_
    refine lv_iload_n hx hb dX7_isShut_15 rfl (lv_at hl 1 rfl) ?_
    refine lv_iadd hx hb dX7_isShut_16 ?_
    replace hF := ald_i hF
    obtain ⟨hin_4, hF⟩ := hF
    refine va_iald hx hb hK hP 5 0 rfl rfl hin_4 dX7_isShut_17 ?_
    refine lv_topi (fun x_5 ex_5 => ?_)
    replace hF := nm_i hF ex_5
    refine lv_if_ne (tgt := 44) hx hb dX7_isShut_18 (by decide) (fun c_6 => ?_) (fun c_6 => ?_)
    · replace hF := if_o c_6 hF
      refine lv_iconst (v := 0) hx hb dX7_isShut_44 (by decide) ?_
      obtain rfl := Option.some.inj hF
      exact W.zret (v := 0) (ty := .boolean) hx hb hr rfl (fun t ht hW => ⟨⟨_, (), rfl, rfl, by rw [ht]; exact hP, va_K.moved hW.alike hK, hD⟩, hS.F ht⟩) hS.2.2 dX7_isShut_45
    · replace hF := if_i c_6 hF
      refine lv_aload_n hx hb dX7_isShut_21 rfl (lv_at hl 0 rfl) ?_
      refine lv_iload_n hx hb dX7_isShut_22 rfl (lv_at hl 1 rfl) ?_
      refine lv_aload_n hx hb dX7_isShut_23 rfl (lv_at hl 0 rfl) ?_
      refine va_get (D := D) (ci := 7) (v := .ref (aM 8)) (C := RX7) (T := TX7) (N := 38) hx hb hts hin_RX7 hown hK hP 0 rfl rfl 8 (by decide) hk_0 (fun _ h9 => h9) rfl dX7_isShut_24 ?_
      refine lv_bipush (v := 40) hx hb dX7_isShut_27 (by decide) ?_
      refine lv_iload_n hx hb dX7_isShut_29 rfl (lv_at hl 1 rfl) ?_
      refine lv_iadd hx hb dX7_isShut_30 ?_
      replace hF := ald_i hF
      obtain ⟨hin_7, hF⟩ := hF
      refine va_iald hx hb hK hP 5 0 rfl rfl hin_7 dX7_isShut_31 ?_
      refine lv_topi (fun x_8 ex_8 => ?_)
      replace hF := nm_i hF ex_8
      replace hF := bnd hF
      obtain ⟨r_9, hc_10, hF⟩ := hF
      refine cl_Vi0 (As := [.int p1, .int x_8]) (rest := []) ⟨hx, hb, hml, hown, hts⟩ (cwV 2 hts gX7_isShut_X7_heightBy rfl rfl rfl (by decide +kernel) ⟨Nat.le_of_ble_eq_true rfl, Nat.le_of_ble_eq_true rfl⟩) (c_X7_heightBy l D ci aM H.size zM p1 x_8 _ hc_10) hK hP hD hS hA 0 rfl rfl rfl rfl hl.1 (Nat.le_of_ble_eq_true rfl) dX7_isShut_32 (Nat.zero_le _) (Nat.zero_le _) (fun H locs hP hD hS => ?_)
      have hP : va_P D vwCl (wcM ci aM zM) H := hP
      have hD : va_D A (wcM ci aM zM) := hD
      refine lv_bipush (v := 12) hx hb dX7_isShut_35 (by decide) ?_
      refine lv_icmp_lt (tgt := 44) hx hb dX7_isShut_37 (by decide) (fun c_11 => ?_) (fun c_11 => ?_)
      · replace hF := if_i c_11 hF
        refine lv_iconst (v := 0) hx hb dX7_isShut_44 (by decide) ?_
        obtain rfl := Option.some.inj hF
        exact W.zret (v := 0) (ty := .boolean) hx hb hr rfl (fun t ht hW => ⟨⟨_, (), rfl, rfl, by rw [ht]; exact hP, va_K.moved hW.alike hK, hD⟩, hS.F ht⟩) hS.2.2 dX7_isShut_45
      · replace hF := if_o c_11 hF
        refine lv_iconst (v := 1) hx hb dX7_isShut_40 (by decide) ?_
        refine lv_goto (tgt := 45) hx hb dX7_isShut_41 (by decide) ?_
        obtain rfl := Option.some.inj hF
        exact W.zret (v := 1) (ty := .boolean) hx hb hr rfl (fun t ht hW => ⟨⟨_, (), rfl, rfl, by rw [ht]; exact hP, va_K.moved hW.alike hK, hD⟩, hS.F ht⟩) hS.2.2 dX7_isShut_45
noncomputable def f_X7_isRim (zM : MS) (p1 : Int32) : Option (Int32) := dvi (zM.1 0) <| nm (p1 - p1 / (zM.1 0) * (zM.1 0)) fun v2_2 => dvi (zM.1 0) <| nm (p1 / (zM.1 0)) fun v3_4 => if v2_2 = 0 then (some (1 : Int32)) else (if v3_4 = 0 then (some (1 : Int32)) else (if v2_2 = ((zM.1 0) - 1) then (some (1 : Int32)) else (if v3_4 = ((zM.1 1) - 1) then (some (1 : Int32)) else (some (0 : Int32)))))
set_option maxHeartbeats 4000000 in
set_option maxRecDepth 100000 in
theorem c_X7_isRim (l : Launch) (D : va_G) (ci : Nat → ClassId) (aM : Nat → Nat) (sz : Nat) (zM : MS) (p1 : Int32) (res : Int32) (hF : f_X7_isRim zM p1 = some res) : CtI l yX7_isRim wsX7_isRim { frames := 0, cells := 0, slots := 0, locals := 0 } [.ref (aM 0), .int p1] D ci (wcM ci aM zM) sz res (wcM ci aM zM) := by
  refine Met.ofW (cc := cX7_isRim) (maxL := 4) (ret := (some .boolean)) (by decide) rfl ?_
  intro p e s m args below meth c s₁ B hml hv
  obtain ⟨rfl, hsz, hP, hK, hD0⟩ := hv
  have hx := B.exec
  have hb := B.bytes
  have hr := B.returns
  have hts := atoms_spec (ws := wsX7_isRim) B.pre
  have hown : s.vm.findClass RX7 = some m.cls := findClass_of_methodNamed B.named
  have hlocks := B.notSynchronized
  subst hsz
  have hD := hD0.self (sz := s.heap.size)
  generalize hAe : va_A (wcM ci aM zM) s.heap.size = A at hD ⊢
  have hA : ∀ q : Nat, s.heap.size ≤ q → A q := fun q h => by rw [← hAe]; exact Or.inr h
  clear hD0 hAe
  have hl := lv_entry ([.ref (aM 0), .int p1]) (n := 4) (Nat.le_of_ble_eq_true rfl)
  rw [lg_entry_eq]
  generalize (lg_sl ([.ref (aM 0), .int p1]) ++ List.replicate (4 - (lg_sl ([.ref (aM 0), .int p1])).length) Slot.unset).toArray = ls at hl ⊢
  have hl : lv_has ls 4 [(0, .ref (aM 0)), (1, .int p1)] := hl
  have hP : va_P D vwCl (wcM ci aM zM) s.heap := hP
  generalize hH0 : s.heap = H at hP ⊢
  have hS : va_S A s.heap H [] := by rw [← hH0]; exact va_S.rf
  clear hH0
  generalize ([] : List Loc) = locs at hS ⊢
  have hk_0 := hts (.fieldLink RX7 160 "HedgeWarModel" "wide" "I") (by decide +kernel)
  have hin_RX7 : ∀ w ∈ wsX70, w ∈ wsX7_isRim := by decide +kernel
  have hk_2 := hts (.fieldLink RX7 163 "HedgeWarModel" "high" "I") (by decide +kernel)
  unfold f_X7_isRim at hF
  refine lv_iload_n hx hb dX7_isRim_0 rfl (lv_at hl 1 rfl) ?_
  refine lv_aload_n hx hb dX7_isRim_1 rfl (lv_at hl 0 rfl) ?_
  refine va_get (D := D) (ci := 7) (v := .int (zM.1 0)) (C := RX7) (T := TX7) (N := 38) hx hb hts hin_RX7 hown hK hP 0 rfl rfl 0 (by decide) hk_0 (fun _ h9 => h9) rfl dX7_isRim_2 ?_
  replace hF := dvi_i hF
  obtain ⟨hne_1, hF⟩ := hF
  refine lv_irem hx hb dX7_isRim_5 hne_1 ?_
  refine lv_topi (fun v2_2 ev2_2 => ?_)
  replace hF := nm_i hF ev2_2
  refine lv_istore_n (lv' := [(2, .int v2_2), (0, .ref (aM 0)), (1, .int p1)]) hx hb dX7_isRim_6 rfl hl (by decide) rfl (fun ls hl => ?_)
  refine lv_iload_n hx hb dX7_isRim_7 rfl (lv_at hl 2 rfl) ?_
  refine lv_aload_n hx hb dX7_isRim_8 rfl (lv_at hl 1 rfl) ?_
  refine va_get (D := D) (ci := 7) (v := .int (zM.1 0)) (C := RX7) (T := TX7) (N := 38) hx hb hts hin_RX7 hown hK hP 0 rfl rfl 0 (by decide) hk_0 (fun _ h9 => h9) rfl dX7_isRim_9 ?_
  replace hF := dvi_i hF
  obtain ⟨hne_3, hF⟩ := hF
  refine lv_idiv hx hb dX7_isRim_12 hne_3 ?_
  refine lv_topi (fun v3_4 ev3_4 => ?_)
  replace hF := nm_i hF ev3_4
  refine lv_istore_n (lv' := [(3, .int v3_4), (2, .int v2_2), (0, .ref (aM 0)), (1, .int p1)]) hx hb dX7_isRim_13 rfl hl (by decide) rfl (fun ls hl => ?_)
  refine lv_iload_n hx hb dX7_isRim_14 rfl (lv_at hl 1 rfl) ?_
  refine lv_if_eq (tgt := 42) hx hb dX7_isRim_15 (by decide) (fun c_5 => ?_) (fun c_5 => ?_)
  · replace hF := if_i c_5 hF
    refine lv_iconst (v := 1) hx hb dX7_isRim_42 (by decide) ?_
    refine lv_goto (tgt := 47) hx hb dX7_isRim_43 (by decide) ?_
    obtain rfl := Option.some.inj hF
    exact W.zret (v := 1) (ty := .boolean) hx hb hr rfl (fun t ht hW => ⟨⟨_, (), rfl, rfl, by rw [ht]; exact hP, va_K.moved hW.alike hK, hD⟩, hS.F ht⟩) hS.2.2 dX7_isRim_47
  · replace hF := if_o c_5 hF
    refine lv_iload_n hx hb dX7_isRim_18 rfl (lv_at hl 0 rfl) ?_
    refine lv_if_eq (tgt := 42) hx hb dX7_isRim_19 (by decide) (fun c_6 => ?_) (fun c_6 => ?_)
    · replace hF := if_i c_6 hF
      refine lv_iconst (v := 1) hx hb dX7_isRim_42 (by decide) ?_
      refine lv_goto (tgt := 47) hx hb dX7_isRim_43 (by decide) ?_
      obtain rfl := Option.some.inj hF
      exact W.zret (v := 1) (ty := .boolean) hx hb hr rfl (fun t ht hW => ⟨⟨_, (), rfl, rfl, by rw [ht]; exact hP, va_K.moved hW.alike hK, hD⟩, hS.F ht⟩) hS.2.2 dX7_isRim_47
    · replace hF := if_o c_6 hF
      refine lv_iload_n hx hb dX7_isRim_22 rfl (lv_at hl 1 rfl) ?_
      refine lv_aload_n hx hb dX7_isRim_23 rfl (lv_at hl 2 rfl) ?_
      refine va_get (D := D) (ci := 7) (v := .int (zM.1 0)) (C := RX7) (T := TX7) (N := 38) hx hb hts hin_RX7 hown hK hP 0 rfl rfl 0 (by decide) hk_0 (fun _ h9 => h9) rfl dX7_isRim_24 ?_
      refine lv_iconst (v := 1) hx hb dX7_isRim_27 (by decide) ?_
      refine lv_isub hx hb dX7_isRim_28 ?_
      refine lv_icmp_eq (tgt := 42) hx hb dX7_isRim_29 (by decide) (fun c_7 => ?_) (fun c_7 => ?_)
      · replace hF := if_i c_7 hF
        refine lv_iconst (v := 1) hx hb dX7_isRim_42 (by decide) ?_
        refine lv_goto (tgt := 47) hx hb dX7_isRim_43 (by decide) ?_
        obtain rfl := Option.some.inj hF
        exact W.zret (v := 1) (ty := .boolean) hx hb hr rfl (fun t ht hW => ⟨⟨_, (), rfl, rfl, by rw [ht]; exact hP, va_K.moved hW.alike hK, hD⟩, hS.F ht⟩) hS.2.2 dX7_isRim_47
      · replace hF := if_o c_7 hF
        refine lv_iload_n hx hb dX7_isRim_32 rfl (lv_at hl 0 rfl) ?_
        refine lv_aload_n hx hb dX7_isRim_33 rfl (lv_at hl 2 rfl) ?_
        refine va_get (D := D) (ci := 7) (v := .int (zM.1 1)) (C := RX7) (T := TX7) (N := 38) hx hb hts hin_RX7 hown hK hP 0 rfl rfl 1 (by decide) hk_2 (fun _ h9 => h9) rfl dX7_isRim_34 ?_
        refine lv_iconst (v := 1) hx hb dX7_isRim_37 (by decide) ?_
        refine lv_isub hx hb dX7_isRim_38 ?_
        refine lv_icmp_ne (tgt := 46) hx hb dX7_isRim_39 (by decide) (fun c_8 => ?_) (fun c_8 => ?_)
        · replace hF := if_o c_8 hF
          refine lv_iconst (v := 0) hx hb dX7_isRim_46 (by decide) ?_
          obtain rfl := Option.some.inj hF
          exact W.zret (v := 0) (ty := .boolean) hx hb hr rfl (fun t ht hW => ⟨⟨_, (), rfl, rfl, by rw [ht]; exact hP, va_K.moved hW.alike hK, hD⟩, hS.F ht⟩) hS.2.2 dX7_isRim_47
        · replace hF := if_i c_8 hF
          refine lv_iconst (v := 1) hx hb dX7_isRim_42 (by decide) ?_
          refine lv_goto (tgt := 47) hx hb dX7_isRim_43 (by decide) ?_
          obtain rfl := Option.some.inj hF
          exact W.zret (v := 1) (ty := .boolean) hx hb hr rfl (fun t ht hW => ⟨⟨_, (), rfl, rfl, by rw [ht]; exact hP, va_K.moved hW.alike hK, hD⟩, hS.F ht⟩) hS.2.2 dX7_isRim_47
noncomputable def L_X7_landOf_15 (zM : MS) (p1 : Int32) : Nat → Int32 → Int32 → Int32 → Option (Int32 × Int32 × Int32)
  | 0, _, _, _ => none
  | n + 1, v2_14, v3_15, v4_16 => if (zM.1 3) ≤ v4_16 then (some (v2_14, v3_15, v4_16)) else (ald 40 (zM.2 5) v4_16 fun x_27 => (f_X7_has v2_14 x_27).bind fun r_28 => ald 40 (zM.2 6) v4_16 fun x_31 => (f_X7_has v2_14 x_31).bind fun r_32 => if r_28 = r_32 then (nm (v4_16 + 1) fun v4_35 => L_X7_landOf_15 zM p1 n v2_14 v3_15 v4_35) else ((f_X7_isShut zM v4_16).bind fun r_36 => if r_36 = 0 then (ald 40 (zM.2 5) v4_16 fun x_41 => ald 40 (zM.2 6) v4_16 fun x_43 => nm (v2_14 ||| (((1 : Int32) <<< (x_41 &&& 31)) ||| ((1 : Int32) <<< (x_43 &&& 31)))) fun v2_44 => nm (1 : Int32) fun v3_45 => nm (v4_16 + 1) fun v4_46 => L_X7_landOf_15 zM p1 n v2_44 v3_45 v4_46) else (nm (v4_16 + 1) fun v4_39 => L_X7_landOf_15 zM p1 n v2_14 v3_15 v4_39)))
noncomputable def L_X7_landOf_6 (zM : MS) (p1 : Int32) : Nat → Int32 → Int32 → Option (Int32 × Int32)
  | 0, _, _ => none
  | n + 1, v2_3, v3_4 => if v3_4 = 0 then (some (v2_3, v3_4)) else (nm (0 : Int32) fun v3_12 => nm (0 : Int32) fun v4_13 => (L_X7_landOf_15 zM p1 3000 v2_3 v3_12 v4_13).bind fun q_48 => nm q_48.1 fun v2_19 => nm q_48.2.1 fun v3_20 => nm q_48.2.2 fun v4_21 => L_X7_landOf_6 zM p1 n v2_19 v3_20)
noncomputable def f_X7_landOf (zM : MS) (p1 : Int32) : Option (Int32) := nm ((1 : Int32) <<< (p1 &&& 31)) fun v2_1 => nm (1 : Int32) fun v3_2 => (L_X7_landOf_6 zM p1 3000 v2_1 v3_2).bind fun q_50 => nm q_50.1 fun v2_7 => nm q_50.2 fun v3_8 => some v2_7
set_option maxHeartbeats 4000000 in
set_option maxRecDepth 100000 in
theorem c_X7_landOf (l : Launch) (D : va_G) (ci : Nat → ClassId) (aM : Nat → Nat) (sz : Nat) (zM : MS) (p1 : Int32) (res : Int32) (hF : f_X7_landOf zM p1 = some res) : CtI l yX7_landOf wsX7_landOf { frames := 3, cells := 0, slots := 0, locals := 66 } [.ref (aM 0), .int p1] D ci (wcM ci aM zM) sz res (wcM ci aM zM) := by
  refine Met.ofW (cc := cX7_landOf) (maxL := 5) (ret := (some .int)) (by decide) rfl ?_
  intro p e s m args below meth c s₁ B hml hv
  obtain ⟨rfl, hsz, hP, hK, hD0⟩ := hv
  have hx := B.exec
  have hb := B.bytes
  have hr := B.returns
  have hts := atoms_spec (ws := wsX7_landOf) B.pre
  have hown : s.vm.findClass RX7 = some m.cls := findClass_of_methodNamed B.named
  have hlocks := B.notSynchronized
  subst hsz
  have hD := hD0.self (sz := s.heap.size)
  generalize hAe : va_A (wcM ci aM zM) s.heap.size = A at hD ⊢
  have hA : ∀ q : Nat, s.heap.size ≤ q → A q := fun q h => by rw [← hAe]; exact Or.inr h
  clear hD0 hAe
  have hl := lv_entry ([.ref (aM 0), .int p1]) (n := 5) (Nat.le_of_ble_eq_true rfl)
  rw [lg_entry_eq]
  generalize (lg_sl ([.ref (aM 0), .int p1]) ++ List.replicate (5 - (lg_sl ([.ref (aM 0), .int p1])).length) Slot.unset).toArray = ls at hl ⊢
  have hl : lv_has ls 5 [(0, .ref (aM 0)), (1, .int p1)] := hl
  have hP : va_P D vwCl (wcM ci aM zM) s.heap := hP
  generalize hH0 : s.heap = H at hP ⊢
  have hS : va_S A s.heap H [] := by rw [← hH0]; exact va_S.rf
  clear hH0
  generalize ([] : List Loc) = locs at hS ⊢
  have hk_0 := hts (.fieldLink RX7 91 "HedgeWarModel" "edges" "I") (by decide +kernel)
  have hin_RX7 : ∀ w ∈ wsX70, w ∈ wsX7_landOf := by decide +kernel
  have hk_2 := hts (.fieldLink RX7 13 "HedgeWarModel" "edgeLow" "[I") (by decide +kernel)
  have hk_3 := hts (.fieldLink RX7 16 "HedgeWarModel" "edgeHigh" "[I") (by decide +kernel)
  unfold f_X7_landOf at hF
  refine lv_iconst (v := 1) hx hb dX7_landOf_0 (by decide) ?_
  refine lv_iload_n hx hb dX7_landOf_1 rfl (lv_at hl 1 rfl) ?_
  refine lv_ishl hx hb dX7_landOf_2 ?_
  refine lv_topi (fun v2_1 ev2_1 => ?_)
  replace hF := nm_i hF ev2_1
  refine lv_istore_n (lv' := [(2, .int v2_1), (0, .ref (aM 0)), (1, .int p1)]) hx hb dX7_landOf_3 rfl hl (by decide) rfl (fun ls hl => ?_)
  refine lv_iconst (v := 1) hx hb dX7_landOf_4 (by decide) ?_
  refine lv_topi (fun v3_2 ev3_2 => ?_)
  replace hF := nm_i hF ev3_2
  refine lv_istore_n (lv' := [(3, .int v3_2), (2, .int v2_1), (0, .ref (aM 0)), (1, .int p1)]) hx hb dX7_landOf_5 rfl hl (by decide) rfl (fun ls hl => ?_)
  replace hF := bnd hF
  obtain ⟨q_50, hv_49, hF⟩ := hF
  obtain ⟨v2_7, ev2_7⟩ : ∃ y : Int32, y = q_50.1 := ⟨_, rfl⟩
  replace hF := nm_i hF ev2_7
  obtain ⟨v3_8, ev3_8⟩ : ∃ y : Int32, y = q_50.2 := ⟨_, rfl⟩
  replace hF := nm_i hF ev3_8
  obtain rfl : q_50 = (v2_7, v3_8) := by rw [ev2_7, ev3_8]
  clear ev2_7
  clear ev3_8
  refine jn (P := fun H locs ls => va_P D vwCl (wcM ci aM zM) H ∧ va_D A (wcM ci aM zM) ∧ va_S A s.heap H locs ∧ lv_has ls 5 [(0, .ref (aM 0)), (1, .int p1), (2, .int v2_7), (3, .int v3_8)]) (pcJ := 91) (st := []) ?_ ?_
  · intro H locs ls hJ
    obtain ⟨hP, hD, hS, hl⟩ := hJ
    refine lv_iload_n hx hb dX7_landOf_91 rfl (lv_at hl 2 rfl) ?_
    obtain rfl := Option.some.inj hF
    exact W.iret (v := v2_7) hx hb hr (fun t ht hW => ⟨⟨_, (), rfl, rfl, by rw [ht]; exact hP, va_K.moved hW.alike hK, hD⟩, hS.F ht⟩) hS.2.2 dX7_landOf_92
  · intro J_6
    clear hF
    have hF := hv_49
    refine lpW (σ := Int32 × Int32) (I := fun n v H locs ls => L_X7_landOf_6 zM p1 n v.1 v.2 = some (v2_7, v3_8) ∧ va_P D vwCl (wcM ci aM zM) H ∧ va_D A (wcM ci aM zM) ∧ va_S A s.heap H locs ∧ lv_has ls 5 [(0, .ref (aM 0)), (1, .int p1), (2, .int v.1), (3, .int v.2)]) 3000 (v2_1, v3_2) (fun _ _ _ _ h => no_none h.1) ⟨hF, hP, hD, hS, lv_sub hl [2, 3, 1, 0] rfl⟩ ?_
    clear hF hP hD hS hl
    intro n ih_5 vq H locs ls hI
    obtain ⟨v2_3, v3_4⟩ := vq
    obtain ⟨hF, hP, hD, hS, hl⟩ := hI
    have hP : va_P D vwCl (wcM ci aM zM) H := hP
    have hD : va_D A (wcM ci aM zM) := hD
    have hl : lv_has ls 5 [(0, .ref (aM 0)), (1, .int p1), (2, .int v2_3), (3, .int v3_4)] := hl
    replace hF : L_X7_landOf_6 zM p1 (n + 1) v2_3 v3_4 = some (v2_7, v3_8) := hF
    rw [L_X7_landOf_6] at hF
    refine lv_iload_n hx hb dX7_landOf_6 rfl (lv_at hl 3 rfl) ?_
    refine lv_if_eq (tgt := 91) hx hb dX7_landOf_7 (by decide) (fun c_9 => ?_) (fun c_9 => ?_)
    · replace hF := if_i c_9 hF
      obtain ⟨g_10, g_11⟩ : v2_3 = v2_7 ∧ v3_4 = v3_8 := by have h9 := Option.some.inj hF; simpa only [Prod.mk.injEq] using h9
      subst g_10
      subst g_11
      exact J_6 H locs ls ⟨hP, hD, hS, lv_sub hl [0, 1, 2, 3] rfl⟩
    · replace hF := if_o c_9 hF
      refine lv_iconst (v := 0) hx hb dX7_landOf_10 (by decide) ?_
      refine lv_topi (fun v3_12 ev3_12 => ?_)
      replace hF := nm_i hF ev3_12
      refine lv_istore_n (lv' := [(3, .int v3_12), (0, .ref (aM 0)), (1, .int p1), (2, .int v2_3)]) hx hb dX7_landOf_11 rfl hl (by decide) rfl (fun ls hl => ?_)
      refine lv_iconst (v := 0) hx hb dX7_landOf_12 (by decide) ?_
      refine lv_topi (fun v4_13 ev4_13 => ?_)
      replace hF := nm_i hF ev4_13
      refine lv_istore (lv' := [(4, .int v4_13), (3, .int v3_12), (0, .ref (aM 0)), (1, .int p1), (2, .int v2_3)]) hx hb dX7_landOf_13 hl (by decide) rfl (fun ls hl => ?_)
      replace hF := bnd hF
      obtain ⟨q_48, hv_47, hF⟩ := hF
      obtain ⟨v2_19, ev2_19⟩ : ∃ y : Int32, y = q_48.1 := ⟨_, rfl⟩
      replace hF := nm_i hF ev2_19
      obtain ⟨v3_20, ev3_20⟩ : ∃ y : Int32, y = q_48.2.1 := ⟨_, rfl⟩
      replace hF := nm_i hF ev3_20
      obtain ⟨v4_21, ev4_21⟩ : ∃ y : Int32, y = q_48.2.2 := ⟨_, rfl⟩
      replace hF := nm_i hF ev4_21
      obtain rfl : q_48 = (v2_19, v3_20, v4_21) := by rw [ev2_19, ev3_20, ev4_21]
      clear ev2_19
      clear ev3_20
      clear ev4_21
      refine jn (P := fun H locs ls => va_P D vwCl (wcM ci aM zM) H ∧ va_D A (wcM ci aM zM) ∧ va_S A s.heap H locs ∧ lv_has ls 5 [(0, .ref (aM 0)), (1, .int p1), (2, .int v2_19), (3, .int v3_20), (4, .int v4_21)]) (pcJ := 88) (st := []) ?_ ?_
      · intro H locs ls hJ
        obtain ⟨hP, hD, hS, hl⟩ := hJ
        refine lv_goto (tgt := 6) hx hb dX7_landOf_88 (by decide) ?_
        exact ih_5 (v2_19, v3_20) H locs ls ⟨hF, hP, hD, hS, lv_sub hl [0, 1, 2, 3] rfl⟩
      · intro J_18
        clear hF
        have hF := hv_47
        refine lpW (σ := Int32 × Int32 × Int32) (I := fun n v H locs ls => L_X7_landOf_15 zM p1 n v.1 v.2.1 v.2.2 = some (v2_19, v3_20, v4_21) ∧ va_P D vwCl (wcM ci aM zM) H ∧ va_D A (wcM ci aM zM) ∧ va_S A s.heap H locs ∧ lv_has ls 5 [(0, .ref (aM 0)), (1, .int p1), (2, .int v.1), (3, .int v.2.1), (4, .int v.2.2)]) 3000 (v2_3, v3_12, v4_13) (fun _ _ _ _ h => no_none h.1) ⟨hF, hP, hD, hS, lv_sub hl [2, 3, 4, 1, 0] rfl⟩ ?_
        clear hF hP hD hS hl
        intro n ih_17 vq H locs ls hI
        obtain ⟨v2_14, v3_15, v4_16⟩ := vq
        obtain ⟨hF, hP, hD, hS, hl⟩ := hI
        have hP : va_P D vwCl (wcM ci aM zM) H := hP
        have hD : va_D A (wcM ci aM zM) := hD
        have hl : lv_has ls 5 [(0, .ref (aM 0)), (1, .int p1), (2, .int v2_14), (3, .int v3_15), (4, .int v4_16)] := hl
        replace hF : L_X7_landOf_15 zM p1 (n + 1) v2_14 v3_15 v4_16 = some (v2_19, v3_20, v4_21) := hF
        rw [L_X7_landOf_15] at hF
        refine lv_iload hx hb dX7_landOf_15 (lv_at hl 4 rfl) ?_
        refine lv_aload_n hx hb dX7_landOf_17 rfl (lv_at hl 0 rfl) ?_
        refine va_get (D := D) (ci := 7) (v := .int (zM.1 3)) (C := RX7) (T := TX7) (N := 38) hx hb hts hin_RX7 hown hK hP 0 rfl rfl 3 (by decide) hk_0 (fun _ h9 => h9) rfl dX7_landOf_18 ?_
        refine lv_icmp_ge (tgt := 88) hx hb dX7_landOf_21 (by decide) (fun c_22 => ?_) (fun c_22 => ?_)
        · replace hF := if_i c_22 hF
          obtain ⟨g_23, g_24, g_25⟩ : v2_14 = v2_19 ∧ v3_15 = v3_20 ∧ v4_16 = v4_21 := by have h9 := Option.some.inj hF; simpa only [Prod.mk.injEq] using h9
          subst g_23
          subst g_24
          subst g_25
          exact J_18 H locs ls ⟨hP, hD, hS, lv_sub hl [0, 1, 2, 3, 4] rfl⟩
        · replace hF := if_o c_22 hF
          refine lv_iload_n hx hb dX7_landOf_24 rfl (lv_at hl 2 rfl) ?_
          refine lv_aload_n hx hb dX7_landOf_25 rfl (lv_at hl 0 rfl) ?_
          refine va_get (D := D) (ci := 7) (v := .ref (aM 5)) (C := RX7) (T := TX7) (N := 38) hx hb hts hin_RX7 hown hK hP 0 rfl rfl 5 (by decide) hk_2 (fun _ h9 => h9) rfl dX7_landOf_26 ?_
          refine lv_iload hx hb dX7_landOf_29 (lv_at hl 4 rfl) ?_
          replace hF := ald_i hF
          obtain ⟨hin_26, hF⟩ := hF
          refine va_iald hx hb hK hP 2 0 rfl rfl hin_26 dX7_landOf_31 ?_
          refine lv_topi (fun x_27 ex_27 => ?_)
          replace hF := nm_i hF ex_27
          replace hF := bnd hF
          obtain ⟨r_28, hc_29, hF⟩ := hF
          refine cl_Sie (As := [.int v2_14, .int x_27]) (rest := []) ⟨hx, hb, hml, hown, hts⟩ (va_cwS 2 hts gX7_landOf_X7_has rfl rfl rfl (by decide +kernel) ⟨Nat.le_of_ble_eq_true rfl, Nat.le_of_ble_eq_true rfl⟩) (c_X7_has l D ci  H.size v2_14 x_27 _ hc_29) hK hP hD hS hA rfl rfl hl.1 (Nat.le_of_ble_eq_true rfl) dX7_landOf_32 (Nat.zero_le _) (Nat.zero_le _) (fun H locs hP hD hS => ?_)
          have hP : va_P D vwCl (wcM ci aM zM) H := hP
          have hD : va_D A (wcM ci aM zM) := hD
          refine lv_iload_n hx hb dX7_landOf_35 rfl (lv_at hl 2 rfl) ?_
          refine lv_aload_n hx hb dX7_landOf_36 rfl (lv_at hl 0 rfl) ?_
          refine va_get (D := D) (ci := 7) (v := .ref (aM 6)) (C := RX7) (T := TX7) (N := 38) hx hb hts hin_RX7 hown hK hP 0 rfl rfl 6 (by decide) hk_3 (fun _ h9 => h9) rfl dX7_landOf_37 ?_
          refine lv_iload hx hb dX7_landOf_40 (lv_at hl 4 rfl) ?_
          replace hF := ald_i hF
          obtain ⟨hin_30, hF⟩ := hF
          refine va_iald hx hb hK hP 3 0 rfl rfl hin_30 dX7_landOf_42 ?_
          refine lv_topi (fun x_31 ex_31 => ?_)
          replace hF := nm_i hF ex_31
          replace hF := bnd hF
          obtain ⟨r_32, hc_33, hF⟩ := hF
          refine cl_Sie (As := [.int v2_14, .int x_31]) (rest := [.int r_28]) ⟨hx, hb, hml, hown, hts⟩ (va_cwS 2 hts gX7_landOf_X7_has rfl rfl rfl (by decide +kernel) ⟨Nat.le_of_ble_eq_true rfl, Nat.le_of_ble_eq_true rfl⟩) (c_X7_has l D ci  H.size v2_14 x_31 _ hc_33) hK hP hD hS hA rfl rfl hl.1 (Nat.le_of_ble_eq_true rfl) dX7_landOf_43 (Nat.zero_le _) (Nat.zero_le _) (fun H locs hP hD hS => ?_)
          have hP : va_P D vwCl (wcM ci aM zM) H := hP
          have hD : va_D A (wcM ci aM zM) := hD
          refine lv_icmp_eq (tgt := 82) hx hb dX7_landOf_46 (by decide) (fun c_34 => ?_) (fun c_34 => ?_)
          · replace hF := if_i c_34 hF
            obtain ⟨v4_35, ev4_35⟩ : ∃ y : Int32, y = v4_16 + 1 := ⟨_, rfl⟩
            replace hF := nm_i hF ev4_35
            refine lv_iinc (v := v4_35) (lv' := [(4, .int v4_35), (0, .ref (aM 0)), (1, .int p1), (2, .int v2_14), (3, .int v3_15)]) hx hb dX7_landOf_82 hl (k := 4) rfl (by rw [ev4_35]; rfl) (by decide) rfl (fun ls hl => ?_)
            refine lv_goto (tgt := 15) hx hb dX7_landOf_85 (by decide) ?_
            exact ih_17 (v2_14, v3_15, v4_35) H locs ls ⟨hF, hP, hD, hS, lv_sub hl [1, 2, 3, 4, 0] rfl⟩
          · replace hF := if_o c_34 hF
            refine lv_aload_n hx hb dX7_landOf_49 rfl (lv_at hl 0 rfl) ?_
            refine lv_iload hx hb dX7_landOf_50 (lv_at hl 4 rfl) ?_
            replace hF := bnd hF
            obtain ⟨r_36, hc_37, hF⟩ := hF
            refine cl_Vi0 (As := [.int v4_16]) (rest := []) ⟨hx, hb, hml, hown, hts⟩ (cwV 1 hts gX7_landOf_X7_isShut rfl rfl rfl (by decide +kernel) ⟨Nat.le_of_ble_eq_true rfl, Nat.le_of_ble_eq_true rfl⟩) (c_X7_isShut l D ci aM H.size zM v4_16 _ hc_37) hK hP hD hS hA 0 rfl rfl rfl rfl hl.1 (Nat.le_of_ble_eq_true rfl) dX7_landOf_52 (Nat.zero_le _) (Nat.zero_le _) (fun H locs hP hD hS => ?_)
            have hP : va_P D vwCl (wcM ci aM zM) H := hP
            have hD : va_D A (wcM ci aM zM) := hD
            refine lv_if_ne (tgt := 82) hx hb dX7_landOf_55 (by decide) (fun c_38 => ?_) (fun c_38 => ?_)
            · replace hF := if_o c_38 hF
              obtain ⟨v4_39, ev4_39⟩ : ∃ y : Int32, y = v4_16 + 1 := ⟨_, rfl⟩
              replace hF := nm_i hF ev4_39
              refine lv_iinc (v := v4_39) (lv' := [(4, .int v4_39), (0, .ref (aM 0)), (1, .int p1), (2, .int v2_14), (3, .int v3_15)]) hx hb dX7_landOf_82 hl (k := 4) rfl (by rw [ev4_39]; rfl) (by decide) rfl (fun ls hl => ?_)
              refine lv_goto (tgt := 15) hx hb dX7_landOf_85 (by decide) ?_
              exact ih_17 (v2_14, v3_15, v4_39) H locs ls ⟨hF, hP, hD, hS, lv_sub hl [1, 2, 3, 4, 0] rfl⟩
            · replace hF := if_i c_38 hF
              refine lv_iload_n hx hb dX7_landOf_58 rfl (lv_at hl 2 rfl) ?_
              refine lv_iconst (v := 1) hx hb dX7_landOf_59 (by decide) ?_
              refine lv_aload_n hx hb dX7_landOf_60 rfl (lv_at hl 0 rfl) ?_
              refine va_get (D := D) (ci := 7) (v := .ref (aM 5)) (C := RX7) (T := TX7) (N := 38) hx hb hts hin_RX7 hown hK hP 0 rfl rfl 5 (by decide) hk_2 (fun _ h9 => h9) rfl dX7_landOf_61 ?_
              refine lv_iload hx hb dX7_landOf_64 (lv_at hl 4 rfl) ?_
              replace hF := ald_i hF
              obtain ⟨hin_40, hF⟩ := hF
              refine va_iald hx hb hK hP 2 0 rfl rfl hin_40 dX7_landOf_66 ?_
              refine lv_topi (fun x_41 ex_41 => ?_)
              replace hF := nm_i hF ex_41
              refine lv_ishl hx hb dX7_landOf_67 ?_
              refine lv_iconst (v := 1) hx hb dX7_landOf_68 (by decide) ?_
              refine lv_aload_n hx hb dX7_landOf_69 rfl (lv_at hl 0 rfl) ?_
              refine va_get (D := D) (ci := 7) (v := .ref (aM 6)) (C := RX7) (T := TX7) (N := 38) hx hb hts hin_RX7 hown hK hP 0 rfl rfl 6 (by decide) hk_3 (fun _ h9 => h9) rfl dX7_landOf_70 ?_
              refine lv_iload hx hb dX7_landOf_73 (lv_at hl 4 rfl) ?_
              replace hF := ald_i hF
              obtain ⟨hin_42, hF⟩ := hF
              refine va_iald hx hb hK hP 3 0 rfl rfl hin_42 dX7_landOf_75 ?_
              refine lv_topi (fun x_43 ex_43 => ?_)
              replace hF := nm_i hF ex_43
              refine lv_ishl hx hb dX7_landOf_76 ?_
              refine lv_ior hx hb dX7_landOf_77 ?_
              refine lv_ior hx hb dX7_landOf_78 ?_
              refine lv_topi (fun v2_44 ev2_44 => ?_)
              replace hF := nm_i hF ev2_44
              refine lv_istore_n (lv' := [(2, .int v2_44), (0, .ref (aM 0)), (1, .int p1), (3, .int v3_15), (4, .int v4_16)]) hx hb dX7_landOf_79 rfl hl (by decide) rfl (fun ls hl => ?_)
              refine lv_iconst (v := 1) hx hb dX7_landOf_80 (by decide) ?_
              refine lv_topi (fun v3_45 ev3_45 => ?_)
              replace hF := nm_i hF ev3_45
              refine lv_istore_n (lv' := [(3, .int v3_45), (2, .int v2_44), (0, .ref (aM 0)), (1, .int p1), (4, .int v4_16)]) hx hb dX7_landOf_81 rfl hl (by decide) rfl (fun ls hl => ?_)
              obtain ⟨v4_46, ev4_46⟩ : ∃ y : Int32, y = v4_16 + 1 := ⟨_, rfl⟩
              replace hF := nm_i hF ev4_46
              refine lv_iinc (v := v4_46) (lv' := [(4, .int v4_46), (3, .int v3_45), (2, .int v2_44), (0, .ref (aM 0)), (1, .int p1)]) hx hb dX7_landOf_82 hl (k := 4) rfl (by rw [ev4_46]; rfl) (by decide) rfl (fun ls hl => ?_)
              refine lv_goto (tgt := 15) hx hb dX7_landOf_85 (by decide) ?_
              exact ih_17 (v2_44, v3_45, v4_46) H locs ls ⟨hF, hP, hD, hS, lv_sub hl [3, 4, 2, 1, 0] rfl⟩
noncomputable def L_X7_shutInBy_38 (zM : MS) (p1 : Int32) : Nat → Int32 → Int32 → Option (Int32)
  | 0, _, _ => none
  | n + 1, v2_8, v3_9 => if (zM.1 3) ≤ v3_9 then (some v2_8) else (ald 40 (zM.2 5) v3_9 fun x_14 => (f_X7_has p1 x_14).bind fun r_15 => ald 40 (zM.2 6) v3_9 fun x_18 => (f_X7_has p1 x_18).bind fun r_19 => if r_15 = r_19 then (nm (v3_9 + 1) fun v3_22 => L_X7_shutInBy_38 zM p1 n v2_8 v3_22) else (if v2_8 < 0 then (ald 122 (zM.2 8) v3_9 fun x_25 => nm (v3_9 + 1) fun v3_26 => L_X7_shutInBy_38 zM p1 n x_25 v3_26) else (ald 122 (zM.2 8) v3_9 fun x_28 => if x_28 = v2_8 then (ald 122 (zM.2 8) v3_9 fun x_31 => nm (v3_9 + 1) fun v3_32 => L_X7_shutInBy_38 zM p1 n x_31 v3_32) else (some (-1 : Int32)))))
noncomputable def L_X7_shutInBy_2 (zM : MS) (p1 : Int32) : Nat → Int32 → Option (Int32)
  | 0, _ => none
  | n + 1, v2_2 => if (zM.1 2) ≤ v2_2 then (nm (-1 : Int32) fun v2_6 => nm (0 : Int32) fun v3_7 => L_X7_shutInBy_38 zM p1 3000 v2_6 v3_7) else ((f_X7_has p1 v2_2).bind fun r_33 => if r_33 = 0 then (nm (v2_2 + 1) fun v2_36 => L_X7_shutInBy_2 zM p1 n v2_36) else ((f_X7_isRim zM v2_2).bind fun r_37 => if r_37 = 0 then (nm (v2_2 + 1) fun v2_40 => L_X7_shutInBy_2 zM p1 n v2_40) else (some (-1 : Int32))))
noncomputable def f_X7_shutInBy (zM : MS) (p1 : Int32) : Option (Int32) := nm (0 : Int32) fun v2_1 => L_X7_shutInBy_2 zM p1 3000 v2_1
set_option maxHeartbeats 4000000 in
set_option maxRecDepth 100000 in
theorem c_X7_shutInBy (l : Launch) (D : va_G) (ci : Nat → ClassId) (aM : Nat → Nat) (sz : Nat) (zM : MS) (p1 : Int32) (res : Int32) (hF : f_X7_shutInBy zM p1 = some res) : CtI l yX7_shutInBy wsX7_shutInBy { frames := 1, cells := 0, slots := 0, locals := 23 } [.ref (aM 0), .int p1] D ci (wcM ci aM zM) sz res (wcM ci aM zM) := by
  refine Met.ofW (cc := cX7_shutInBy) (maxL := 4) (ret := (some .int)) (by decide) rfl ?_
  intro p e s m args below meth c s₁ B hml hv
  obtain ⟨rfl, hsz, hP, hK, hD0⟩ := hv
  have hx := B.exec
  have hb := B.bytes
  have hr := B.returns
  have hts := atoms_spec (ws := wsX7_shutInBy) B.pre
  have hown : s.vm.findClass RX7 = some m.cls := findClass_of_methodNamed B.named
  have hlocks := B.notSynchronized
  subst hsz
  have hD := hD0.self (sz := s.heap.size)
  generalize hAe : va_A (wcM ci aM zM) s.heap.size = A at hD ⊢
  have hA : ∀ q : Nat, s.heap.size ≤ q → A q := fun q h => by rw [← hAe]; exact Or.inr h
  clear hD0 hAe
  have hl := lv_entry ([.ref (aM 0), .int p1]) (n := 4) (Nat.le_of_ble_eq_true rfl)
  rw [lg_entry_eq]
  generalize (lg_sl ([.ref (aM 0), .int p1]) ++ List.replicate (4 - (lg_sl ([.ref (aM 0), .int p1])).length) Slot.unset).toArray = ls at hl ⊢
  have hl : lv_has ls 4 [(0, .ref (aM 0)), (1, .int p1)] := hl
  have hP : va_P D vwCl (wcM ci aM zM) s.heap := hP
  generalize hH0 : s.heap = H at hP ⊢
  have hS : va_S A s.heap H [] := by rw [← hH0]; exact va_S.rf
  clear hH0
  generalize ([] : List Loc) = locs at hS ⊢
  have hk_0 := hts (.fieldLink RX7 84 "HedgeWarModel" "fields" "I") (by decide +kernel)
  have hin_RX7 : ∀ w ∈ wsX70, w ∈ wsX7_shutInBy := by decide +kernel
  have hk_2 := hts (.fieldLink RX7 91 "HedgeWarModel" "edges" "I") (by decide +kernel)
  have hk_3 := hts (.fieldLink RX7 13 "HedgeWarModel" "edgeLow" "[I") (by decide +kernel)
  have hk_4 := hts (.fieldLink RX7 16 "HedgeWarModel" "edgeHigh" "[I") (by decide +kernel)
  have hk_5 := hts (.fieldLink RX7 23 "HedgeWarModel" "now" "[I") (by decide +kernel)
  unfold f_X7_shutInBy at hF
  refine lv_iconst (v := 0) hx hb dX7_shutInBy_0 (by decide) ?_
  refine lv_topi (fun v2_1 ev2_1 => ?_)
  replace hF := nm_i hF ev2_1
  refine lv_istore_n (lv' := [(2, .int v2_1), (0, .ref (aM 0)), (1, .int p1)]) hx hb dX7_shutInBy_1 rfl hl (by decide) rfl (fun ls hl => ?_)
  refine lpW (σ := Int32) (I := fun n v H locs ls => L_X7_shutInBy_2 zM p1 n v = some res ∧ va_P D vwCl (wcM ci aM zM) H ∧ va_D A (wcM ci aM zM) ∧ va_S A s.heap H locs ∧ lv_has ls 4 [(0, .ref (aM 0)), (1, .int p1), (2, .int v)]) 3000 v2_1 (fun _ _ _ _ h => no_none h.1) ⟨hF, hP, hD, hS, lv_sub hl [1, 2, 0] rfl⟩ ?_
  clear hF hP hD hS hl
  intro n ih_3 vq H locs ls hI
  obtain ⟨v2_2, rfl⟩ : ∃ y, y = vq := ⟨_, rfl⟩
  obtain ⟨hF, hP, hD, hS, hl⟩ := hI
  have hP : va_P D vwCl (wcM ci aM zM) H := hP
  have hD : va_D A (wcM ci aM zM) := hD
  have hl : lv_has ls 4 [(0, .ref (aM 0)), (1, .int p1), (2, .int v2_2)] := hl
  replace hF : L_X7_shutInBy_2 zM p1 (n + 1) v2_2 = some res := hF
  rw [L_X7_shutInBy_2] at hF
  refine lv_iload_n hx hb dX7_shutInBy_2 rfl (lv_at hl 2 rfl) ?_
  refine lv_aload_n hx hb dX7_shutInBy_3 rfl (lv_at hl 0 rfl) ?_
  refine va_get (D := D) (ci := 7) (v := .int (zM.1 2)) (C := RX7) (T := TX7) (N := 38) hx hb hts hin_RX7 hown hK hP 0 rfl rfl 2 (by decide) hk_0 (fun _ h9 => h9) rfl dX7_shutInBy_4 ?_
  refine lv_icmp_ge (tgt := 34) hx hb dX7_shutInBy_7 (by decide) (fun c_5 => ?_) (fun c_5 => ?_)
  · replace hF := if_i c_5 hF
    refine lv_iconst (v := (-1)) hx hb dX7_shutInBy_34 (by decide) ?_
    refine lv_topi (fun v2_6 ev2_6 => ?_)
    replace hF := nm_i hF ev2_6
    refine lv_istore_n (lv' := [(2, .int v2_6), (0, .ref (aM 0)), (1, .int p1)]) hx hb dX7_shutInBy_35 rfl hl (by decide) rfl (fun ls hl => ?_)
    refine lv_iconst (v := 0) hx hb dX7_shutInBy_36 (by decide) ?_
    refine lv_topi (fun v3_7 ev3_7 => ?_)
    replace hF := nm_i hF ev3_7
    refine lv_istore_n (lv' := [(3, .int v3_7), (2, .int v2_6), (0, .ref (aM 0)), (1, .int p1)]) hx hb dX7_shutInBy_37 rfl hl (by decide) rfl (fun ls hl => ?_)
    refine lpW (σ := Int32 × Int32) (I := fun n v H locs ls => L_X7_shutInBy_38 zM p1 n v.1 v.2 = some res ∧ va_P D vwCl (wcM ci aM zM) H ∧ va_D A (wcM ci aM zM) ∧ va_S A s.heap H locs ∧ lv_has ls 4 [(0, .ref (aM 0)), (1, .int p1), (2, .int v.1), (3, .int v.2)]) 3000 (v2_6, v3_7) (fun _ _ _ _ h => no_none h.1) ⟨hF, hP, hD, hS, lv_sub hl [2, 3, 1, 0] rfl⟩ ?_
    clear hF hP hD hS hl
    intro n ih_10 vq H locs ls hI
    obtain ⟨v2_8, v3_9⟩ := vq
    obtain ⟨hF, hP, hD, hS, hl⟩ := hI
    have hP : va_P D vwCl (wcM ci aM zM) H := hP
    have hD : va_D A (wcM ci aM zM) := hD
    have hl : lv_has ls 4 [(0, .ref (aM 0)), (1, .int p1), (2, .int v2_8), (3, .int v3_9)] := hl
    replace hF : L_X7_shutInBy_38 zM p1 (n + 1) v2_8 v3_9 = some res := hF
    rw [L_X7_shutInBy_38] at hF
    refine lv_iload_n hx hb dX7_shutInBy_38 rfl (lv_at hl 3 rfl) ?_
    refine lv_aload_n hx hb dX7_shutInBy_39 rfl (lv_at hl 0 rfl) ?_
    refine va_get (D := D) (ci := 7) (v := .int (zM.1 3)) (C := RX7) (T := TX7) (N := 38) hx hb hts hin_RX7 hown hK hP 0 rfl rfl 3 (by decide) hk_2 (fun _ h9 => h9) rfl dX7_shutInBy_40 ?_
    refine lv_icmp_ge (tgt := 98) hx hb dX7_shutInBy_43 (by decide) (fun c_12 => ?_) (fun c_12 => ?_)
    · replace hF := if_i c_12 hF
      refine lv_iload_n hx hb dX7_shutInBy_98 rfl (lv_at hl 2 rfl) ?_
      obtain rfl := Option.some.inj hF
      exact W.iret (v := v2_8) hx hb hr (fun t ht hW => ⟨⟨_, (), rfl, rfl, by rw [ht]; exact hP, va_K.moved hW.alike hK, hD⟩, hS.F ht⟩) hS.2.2 dX7_shutInBy_99
    · replace hF := if_o c_12 hF
      refine lv_iload_n hx hb dX7_shutInBy_46 rfl (lv_at hl 1 rfl) ?_
      refine lv_aload_n hx hb dX7_shutInBy_47 rfl (lv_at hl 0 rfl) ?_
      refine va_get (D := D) (ci := 7) (v := .ref (aM 5)) (C := RX7) (T := TX7) (N := 38) hx hb hts hin_RX7 hown hK hP 0 rfl rfl 5 (by decide) hk_3 (fun _ h9 => h9) rfl dX7_shutInBy_48 ?_
      refine lv_iload_n hx hb dX7_shutInBy_51 rfl (lv_at hl 3 rfl) ?_
      replace hF := ald_i hF
      obtain ⟨hin_13, hF⟩ := hF
      refine va_iald hx hb hK hP 2 0 rfl rfl hin_13 dX7_shutInBy_52 ?_
      refine lv_topi (fun x_14 ex_14 => ?_)
      replace hF := nm_i hF ex_14
      replace hF := bnd hF
      obtain ⟨r_15, hc_16, hF⟩ := hF
      refine cl_Sie (As := [.int p1, .int x_14]) (rest := []) ⟨hx, hb, hml, hown, hts⟩ (va_cwS 2 hts gX7_shutInBy_X7_has rfl rfl rfl (by decide +kernel) ⟨Nat.le_of_ble_eq_true rfl, Nat.le_of_ble_eq_true rfl⟩) (c_X7_has l D ci  H.size p1 x_14 _ hc_16) hK hP hD hS hA rfl rfl hl.1 (Nat.le_of_ble_eq_true rfl) dX7_shutInBy_53 (Nat.zero_le _) (Nat.zero_le _) (fun H locs hP hD hS => ?_)
      have hP : va_P D vwCl (wcM ci aM zM) H := hP
      have hD : va_D A (wcM ci aM zM) := hD
      refine lv_iload_n hx hb dX7_shutInBy_56 rfl (lv_at hl 1 rfl) ?_
      refine lv_aload_n hx hb dX7_shutInBy_57 rfl (lv_at hl 0 rfl) ?_
      refine va_get (D := D) (ci := 7) (v := .ref (aM 6)) (C := RX7) (T := TX7) (N := 38) hx hb hts hin_RX7 hown hK hP 0 rfl rfl 6 (by decide) hk_4 (fun _ h9 => h9) rfl dX7_shutInBy_58 ?_
      refine lv_iload_n hx hb dX7_shutInBy_61 rfl (lv_at hl 3 rfl) ?_
      replace hF := ald_i hF
      obtain ⟨hin_17, hF⟩ := hF
      refine va_iald hx hb hK hP 3 0 rfl rfl hin_17 dX7_shutInBy_62 ?_
      refine lv_topi (fun x_18 ex_18 => ?_)
      replace hF := nm_i hF ex_18
      replace hF := bnd hF
      obtain ⟨r_19, hc_20, hF⟩ := hF
      refine cl_Sie (As := [.int p1, .int x_18]) (rest := [.int r_15]) ⟨hx, hb, hml, hown, hts⟩ (va_cwS 2 hts gX7_shutInBy_X7_has rfl rfl rfl (by decide +kernel) ⟨Nat.le_of_ble_eq_true rfl, Nat.le_of_ble_eq_true rfl⟩) (c_X7_has l D ci  H.size p1 x_18 _ hc_20) hK hP hD hS hA rfl rfl hl.1 (Nat.le_of_ble_eq_true rfl) dX7_shutInBy_63 (Nat.zero_le _) (Nat.zero_le _) (fun H locs hP hD hS => ?_)
      have hP : va_P D vwCl (wcM ci aM zM) H := hP
      have hD : va_D A (wcM ci aM zM) := hD
      refine lv_icmp_eq (tgt := 92) hx hb dX7_shutInBy_66 (by decide) (fun c_21 => ?_) (fun c_21 => ?_)
      · replace hF := if_i c_21 hF
        obtain ⟨v3_22, ev3_22⟩ : ∃ y : Int32, y = v3_9 + 1 := ⟨_, rfl⟩
        replace hF := nm_i hF ev3_22
        refine lv_iinc (v := v3_22) (lv' := [(3, .int v3_22), (0, .ref (aM 0)), (1, .int p1), (2, .int v2_8)]) hx hb dX7_shutInBy_92 hl (k := 3) rfl (by rw [ev3_22]; rfl) (by decide) rfl (fun ls hl => ?_)
        refine lv_goto (tgt := 38) hx hb dX7_shutInBy_95 (by decide) ?_
        exact ih_10 (v2_8, v3_22) H locs ls ⟨hF, hP, hD, hS, lv_sub hl [1, 2, 3, 0] rfl⟩
      · replace hF := if_o c_21 hF
        refine lv_iload_n hx hb dX7_shutInBy_69 rfl (lv_at hl 2 rfl) ?_
        refine lv_if_lt (tgt := 85) hx hb dX7_shutInBy_70 (by decide) (fun c_23 => ?_) (fun c_23 => ?_)
        · replace hF := if_i c_23 hF
          refine lv_aload_n hx hb dX7_shutInBy_85 rfl (lv_at hl 0 rfl) ?_
          refine va_get (D := D) (ci := 7) (v := .ref (aM 8)) (C := RX7) (T := TX7) (N := 38) hx hb hts hin_RX7 hown hK hP 0 rfl rfl 8 (by decide) hk_5 (fun _ h9 => h9) rfl dX7_shutInBy_86 ?_
          refine lv_iload_n hx hb dX7_shutInBy_89 rfl (lv_at hl 3 rfl) ?_
          replace hF := ald_i hF
          obtain ⟨hin_24, hF⟩ := hF
          refine va_iald hx hb hK hP 5 0 rfl rfl hin_24 dX7_shutInBy_90 ?_
          refine lv_topi (fun x_25 ex_25 => ?_)
          replace hF := nm_i hF ex_25
          refine lv_istore_n (lv' := [(2, .int x_25), (0, .ref (aM 0)), (1, .int p1), (3, .int v3_9)]) hx hb dX7_shutInBy_91 rfl hl (by decide) rfl (fun ls hl => ?_)
          obtain ⟨v3_26, ev3_26⟩ : ∃ y : Int32, y = v3_9 + 1 := ⟨_, rfl⟩
          replace hF := nm_i hF ev3_26
          refine lv_iinc (v := v3_26) (lv' := [(3, .int v3_26), (2, .int x_25), (0, .ref (aM 0)), (1, .int p1)]) hx hb dX7_shutInBy_92 hl (k := 3) rfl (by rw [ev3_26]; rfl) (by decide) rfl (fun ls hl => ?_)
          refine lv_goto (tgt := 38) hx hb dX7_shutInBy_95 (by decide) ?_
          exact ih_10 (x_25, v3_26) H locs ls ⟨hF, hP, hD, hS, lv_sub hl [2, 3, 1, 0] rfl⟩
        · replace hF := if_o c_23 hF
          refine lv_aload_n hx hb dX7_shutInBy_73 rfl (lv_at hl 0 rfl) ?_
          refine va_get (D := D) (ci := 7) (v := .ref (aM 8)) (C := RX7) (T := TX7) (N := 38) hx hb hts hin_RX7 hown hK hP 0 rfl rfl 8 (by decide) hk_5 (fun _ h9 => h9) rfl dX7_shutInBy_74 ?_
          refine lv_iload_n hx hb dX7_shutInBy_77 rfl (lv_at hl 3 rfl) ?_
          replace hF := ald_i hF
          obtain ⟨hin_27, hF⟩ := hF
          refine va_iald hx hb hK hP 5 0 rfl rfl hin_27 dX7_shutInBy_78 ?_
          refine lv_topi (fun x_28 ex_28 => ?_)
          replace hF := nm_i hF ex_28
          refine lv_iload_n hx hb dX7_shutInBy_79 rfl (lv_at hl 2 rfl) ?_
          refine lv_icmp_eq (tgt := 85) hx hb dX7_shutInBy_80 (by decide) (fun c_29 => ?_) (fun c_29 => ?_)
          · replace hF := if_i c_29 hF
            refine lv_aload_n hx hb dX7_shutInBy_85 rfl (lv_at hl 0 rfl) ?_
            refine va_get (D := D) (ci := 7) (v := .ref (aM 8)) (C := RX7) (T := TX7) (N := 38) hx hb hts hin_RX7 hown hK hP 0 rfl rfl 8 (by decide) hk_5 (fun _ h9 => h9) rfl dX7_shutInBy_86 ?_
            refine lv_iload_n hx hb dX7_shutInBy_89 rfl (lv_at hl 3 rfl) ?_
            replace hF := ald_i hF
            obtain ⟨hin_30, hF⟩ := hF
            refine va_iald hx hb hK hP 5 0 rfl rfl hin_30 dX7_shutInBy_90 ?_
            refine lv_topi (fun x_31 ex_31 => ?_)
            replace hF := nm_i hF ex_31
            refine lv_istore_n (lv' := [(2, .int x_31), (0, .ref (aM 0)), (1, .int p1), (3, .int v3_9)]) hx hb dX7_shutInBy_91 rfl hl (by decide) rfl (fun ls hl => ?_)
            obtain ⟨v3_32, ev3_32⟩ : ∃ y : Int32, y = v3_9 + 1 := ⟨_, rfl⟩
            replace hF := nm_i hF ev3_32
            refine lv_iinc (v := v3_32) (lv' := [(3, .int v3_32), (2, .int x_31), (0, .ref (aM 0)), (1, .int p1)]) hx hb dX7_shutInBy_92 hl (k := 3) rfl (by rw [ev3_32]; rfl) (by decide) rfl (fun ls hl => ?_)
            refine lv_goto (tgt := 38) hx hb dX7_shutInBy_95 (by decide) ?_
            exact ih_10 (x_31, v3_32) H locs ls ⟨hF, hP, hD, hS, lv_sub hl [2, 3, 1, 0] rfl⟩
          · replace hF := if_o c_29 hF
            refine lv_iconst (v := (-1)) hx hb dX7_shutInBy_83 (by decide) ?_
            obtain rfl := Option.some.inj hF
            exact W.iret (v := (-1)) hx hb hr (fun t ht hW => ⟨⟨_, (), rfl, rfl, by rw [ht]; exact hP, va_K.moved hW.alike hK, hD⟩, hS.F ht⟩) hS.2.2 dX7_shutInBy_84
  · replace hF := if_o c_5 hF
    refine lv_iload_n hx hb dX7_shutInBy_10 rfl (lv_at hl 1 rfl) ?_
    refine lv_iload_n hx hb dX7_shutInBy_11 rfl (lv_at hl 2 rfl) ?_
    replace hF := bnd hF
    obtain ⟨r_33, hc_34, hF⟩ := hF
    refine cl_Sie (As := [.int p1, .int v2_2]) (rest := []) ⟨hx, hb, hml, hown, hts⟩ (va_cwS 2 hts gX7_shutInBy_X7_has rfl rfl rfl (by decide +kernel) ⟨Nat.le_of_ble_eq_true rfl, Nat.le_of_ble_eq_true rfl⟩) (c_X7_has l D ci  H.size p1 v2_2 _ hc_34) hK hP hD hS hA rfl rfl hl.1 (Nat.le_of_ble_eq_true rfl) dX7_shutInBy_12 (Nat.zero_le _) (Nat.zero_le _) (fun H locs hP hD hS => ?_)
    have hP : va_P D vwCl (wcM ci aM zM) H := hP
    have hD : va_D A (wcM ci aM zM) := hD
    refine lv_if_eq (tgt := 28) hx hb dX7_shutInBy_15 (by decide) (fun c_35 => ?_) (fun c_35 => ?_)
    · replace hF := if_i c_35 hF
      obtain ⟨v2_36, ev2_36⟩ : ∃ y : Int32, y = v2_2 + 1 := ⟨_, rfl⟩
      replace hF := nm_i hF ev2_36
      refine lv_iinc (v := v2_36) (lv' := [(2, .int v2_36), (0, .ref (aM 0)), (1, .int p1)]) hx hb dX7_shutInBy_28 hl (k := 2) rfl (by rw [ev2_36]; rfl) (by decide) rfl (fun ls hl => ?_)
      refine lv_goto (tgt := 2) hx hb dX7_shutInBy_31 (by decide) ?_
      exact ih_3 v2_36 H locs ls ⟨hF, hP, hD, hS, lv_sub hl [1, 2, 0] rfl⟩
    · replace hF := if_o c_35 hF
      refine lv_aload_n hx hb dX7_shutInBy_18 rfl (lv_at hl 0 rfl) ?_
      refine lv_iload_n hx hb dX7_shutInBy_19 rfl (lv_at hl 2 rfl) ?_
      replace hF := bnd hF
      obtain ⟨r_37, hc_38, hF⟩ := hF
      refine cl_Vi0 (As := [.int v2_2]) (rest := []) ⟨hx, hb, hml, hown, hts⟩ (cwV 1 hts gX7_shutInBy_X7_isRim rfl rfl rfl (by decide +kernel) ⟨Nat.le_of_ble_eq_true rfl, Nat.le_of_ble_eq_true rfl⟩) (c_X7_isRim l D ci aM H.size zM v2_2 _ hc_38) hK hP hD hS hA 0 rfl rfl rfl rfl hl.1 (Nat.le_of_ble_eq_true rfl) dX7_shutInBy_20 (Nat.zero_le _) (Nat.zero_le _) (fun H locs hP hD hS => ?_)
      have hP : va_P D vwCl (wcM ci aM zM) H := hP
      have hD : va_D A (wcM ci aM zM) := hD
      refine lv_if_eq (tgt := 28) hx hb dX7_shutInBy_23 (by decide) (fun c_39 => ?_) (fun c_39 => ?_)
      · replace hF := if_i c_39 hF
        obtain ⟨v2_40, ev2_40⟩ : ∃ y : Int32, y = v2_2 + 1 := ⟨_, rfl⟩
        replace hF := nm_i hF ev2_40
        refine lv_iinc (v := v2_40) (lv' := [(2, .int v2_40), (0, .ref (aM 0)), (1, .int p1)]) hx hb dX7_shutInBy_28 hl (k := 2) rfl (by rw [ev2_40]; rfl) (by decide) rfl (fun ls hl => ?_)
        refine lv_goto (tgt := 2) hx hb dX7_shutInBy_31 (by decide) ?_
        exact ih_3 v2_40 H locs ls ⟨hF, hP, hD, hS, lv_sub hl [1, 2, 0] rfl⟩
      · replace hF := if_o c_39 hF
        refine lv_iconst (v := (-1)) hx hb dX7_shutInBy_26 (by decide) ?_
        obtain rfl := Option.some.inj hF
        exact W.iret (v := (-1)) hx hb hr (fun t ht hW => ⟨⟨_, (), rfl, rfl, by rw [ht]; exact hP, va_K.moved hW.alike hK, hD⟩, hS.F ht⟩) hS.2.2 dX7_shutInBy_27
noncomputable def L_X7_frontier_4 (zM : MS) : Nat → Int32 → Int32 → Option (Int32 × Int32)
  | 0, _, _ => none
  | n + 1, v1_3, v2_4 => if (zM.1 3) ≤ v2_4 then (some (v1_3, v2_4)) else (ald 122 (zM.2 8) (120 : Int32) fun x_13 => ald 40 (zM.2 5) v2_4 fun x_15 => (f_X7_has x_13 x_15).bind fun r_16 => ald 122 (zM.2 8) (120 : Int32) fun x_19 => ald 40 (zM.2 6) v2_4 fun x_21 => (f_X7_has x_19 x_21).bind fun r_22 => if r_16 = r_22 then (nm (v1_3 + 0) fun v1_25 => nm (v2_4 + 1) fun v2_26 => L_X7_frontier_4 zM n v1_25 v2_26) else (nm (v1_3 + 1) fun v1_27 => nm (v2_4 + 1) fun v2_28 => L_X7_frontier_4 zM n v1_27 v2_28))
noncomputable def f_X7_frontier (zM : MS) : Option (Int32) := nm (0 : Int32) fun v1_1 => nm (0 : Int32) fun v2_2 => (L_X7_frontier_4 zM 3000 v1_1 v2_2).bind fun q_30 => nm q_30.1 fun v1_7 => nm q_30.2 fun v2_8 => some v1_7
set_option maxHeartbeats 4000000 in
set_option maxRecDepth 100000 in
theorem c_X7_frontier (l : Launch) (D : va_G) (ci : Nat → ClassId) (aM : Nat → Nat) (sz : Nat) (zM : MS) (res : Int32) (hF : f_X7_frontier zM = some res) : CtI l yX7_frontier wsX7_frontier { frames := 1, cells := 0, slots := 0, locals := 21 } [.ref (aM 0)] D ci (wcM ci aM zM) sz res (wcM ci aM zM) := by
  refine Met.ofW (cc := cX7_frontier) (maxL := 3) (ret := (some .int)) (by decide) rfl ?_
  intro p e s m args below meth c s₁ B hml hv
  obtain ⟨rfl, hsz, hP, hK, hD0⟩ := hv
  have hx := B.exec
  have hb := B.bytes
  have hr := B.returns
  have hts := atoms_spec (ws := wsX7_frontier) B.pre
  have hown : s.vm.findClass RX7 = some m.cls := findClass_of_methodNamed B.named
  have hlocks := B.notSynchronized
  subst hsz
  have hD := hD0.self (sz := s.heap.size)
  generalize hAe : va_A (wcM ci aM zM) s.heap.size = A at hD ⊢
  have hA : ∀ q : Nat, s.heap.size ≤ q → A q := fun q h => by rw [← hAe]; exact Or.inr h
  clear hD0 hAe
  have hl := lv_entry ([.ref (aM 0)]) (n := 3) (Nat.le_of_ble_eq_true rfl)
  rw [lg_entry_eq]
  generalize (lg_sl ([.ref (aM 0)]) ++ List.replicate (3 - (lg_sl ([.ref (aM 0)])).length) Slot.unset).toArray = ls at hl ⊢
  have hl : lv_has ls 3 [(0, .ref (aM 0))] := hl
  have hP : va_P D vwCl (wcM ci aM zM) s.heap := hP
  generalize hH0 : s.heap = H at hP ⊢
  have hS : va_S A s.heap H [] := by rw [← hH0]; exact va_S.rf
  clear hH0
  generalize ([] : List Loc) = locs at hS ⊢
  have hk_0 := hts (.fieldLink RX7 91 "HedgeWarModel" "edges" "I") (by decide +kernel)
  have hin_RX7 : ∀ w ∈ wsX70, w ∈ wsX7_frontier := by decide +kernel
  have hk_2 := hts (.fieldLink RX7 23 "HedgeWarModel" "now" "[I") (by decide +kernel)
  have hk_3 := hts (.fieldLink RX7 13 "HedgeWarModel" "edgeLow" "[I") (by decide +kernel)
  have hk_4 := hts (.fieldLink RX7 16 "HedgeWarModel" "edgeHigh" "[I") (by decide +kernel)
  unfold f_X7_frontier at hF
  refine lv_iconst (v := 0) hx hb dX7_frontier_0 (by decide) ?_
  refine lv_topi (fun v1_1 ev1_1 => ?_)
  replace hF := nm_i hF ev1_1
  refine lv_istore_n (lv' := [(1, .int v1_1), (0, .ref (aM 0))]) hx hb dX7_frontier_1 rfl hl (by decide) rfl (fun ls hl => ?_)
  refine lv_iconst (v := 0) hx hb dX7_frontier_2 (by decide) ?_
  refine lv_topi (fun v2_2 ev2_2 => ?_)
  replace hF := nm_i hF ev2_2
  refine lv_istore_n (lv' := [(2, .int v2_2), (1, .int v1_1), (0, .ref (aM 0))]) hx hb dX7_frontier_3 rfl hl (by decide) rfl (fun ls hl => ?_)
  replace hF := bnd hF
  obtain ⟨q_30, hv_29, hF⟩ := hF
  obtain ⟨v1_7, ev1_7⟩ : ∃ y : Int32, y = q_30.1 := ⟨_, rfl⟩
  replace hF := nm_i hF ev1_7
  obtain ⟨v2_8, ev2_8⟩ : ∃ y : Int32, y = q_30.2 := ⟨_, rfl⟩
  replace hF := nm_i hF ev2_8
  obtain rfl : q_30 = (v1_7, v2_8) := by rw [ev1_7, ev2_8]
  clear ev1_7
  clear ev2_8
  refine jn (P := fun H locs ls => va_P D vwCl (wcM ci aM zM) H ∧ va_D A (wcM ci aM zM) ∧ va_S A s.heap H locs ∧ lv_has ls 3 [(0, .ref (aM 0)), (1, .int v1_7), (2, .int v2_8)]) (pcJ := 61) (st := []) ?_ ?_
  · intro H locs ls hJ
    obtain ⟨hP, hD, hS, hl⟩ := hJ
    refine lv_iload_n hx hb dX7_frontier_61 rfl (lv_at hl 1 rfl) ?_
    obtain rfl := Option.some.inj hF
    exact W.iret (v := v1_7) hx hb hr (fun t ht hW => ⟨⟨_, (), rfl, rfl, by rw [ht]; exact hP, va_K.moved hW.alike hK, hD⟩, hS.F ht⟩) hS.2.2 dX7_frontier_62
  · intro J_6
    clear hF
    have hF := hv_29
    refine lpW (σ := Int32 × Int32) (I := fun n v H locs ls => L_X7_frontier_4 zM n v.1 v.2 = some (v1_7, v2_8) ∧ va_P D vwCl (wcM ci aM zM) H ∧ va_D A (wcM ci aM zM) ∧ va_S A s.heap H locs ∧ lv_has ls 3 [(0, .ref (aM 0)), (1, .int v.1), (2, .int v.2)]) 3000 (v1_1, v2_2) (fun _ _ _ _ h => no_none h.1) ⟨hF, hP, hD, hS, lv_sub hl [2, 1, 0] rfl⟩ ?_
    clear hF hP hD hS hl
    intro n ih_5 vq H locs ls hI
    obtain ⟨v1_3, v2_4⟩ := vq
    obtain ⟨hF, hP, hD, hS, hl⟩ := hI
    have hP : va_P D vwCl (wcM ci aM zM) H := hP
    have hD : va_D A (wcM ci aM zM) := hD
    have hl : lv_has ls 3 [(0, .ref (aM 0)), (1, .int v1_3), (2, .int v2_4)] := hl
    replace hF : L_X7_frontier_4 zM (n + 1) v1_3 v2_4 = some (v1_7, v2_8) := hF
    rw [L_X7_frontier_4] at hF
    refine lv_iload_n hx hb dX7_frontier_4 rfl (lv_at hl 2 rfl) ?_
    refine lv_aload_n hx hb dX7_frontier_5 rfl (lv_at hl 0 rfl) ?_
    refine va_get (D := D) (ci := 7) (v := .int (zM.1 3)) (C := RX7) (T := TX7) (N := 38) hx hb hts hin_RX7 hown hK hP 0 rfl rfl 3 (by decide) hk_0 (fun _ h9 => h9) rfl dX7_frontier_6 ?_
    refine lv_icmp_ge (tgt := 61) hx hb dX7_frontier_9 (by decide) (fun c_9 => ?_) (fun c_9 => ?_)
    · replace hF := if_i c_9 hF
      obtain ⟨g_10, g_11⟩ : v1_3 = v1_7 ∧ v2_4 = v2_8 := by have h9 := Option.some.inj hF; simpa only [Prod.mk.injEq] using h9
      subst g_10
      subst g_11
      exact J_6 H locs ls ⟨hP, hD, hS, lv_sub hl [0, 1, 2] rfl⟩
    · replace hF := if_o c_9 hF
      refine lv_iload_n hx hb dX7_frontier_12 rfl (lv_at hl 1 rfl) ?_
      refine lv_aload_n hx hb dX7_frontier_13 rfl (lv_at hl 0 rfl) ?_
      refine va_get (D := D) (ci := 7) (v := .ref (aM 8)) (C := RX7) (T := TX7) (N := 38) hx hb hts hin_RX7 hown hK hP 0 rfl rfl 8 (by decide) hk_2 (fun _ h9 => h9) rfl dX7_frontier_14 ?_
      refine lv_bipush (v := 120) hx hb dX7_frontier_17 (by decide) ?_
      replace hF := ald_i hF
      obtain ⟨hin_12, hF⟩ := hF
      refine va_iald hx hb hK hP 5 0 rfl rfl hin_12 dX7_frontier_19 ?_
      refine lv_topi (fun x_13 ex_13 => ?_)
      replace hF := nm_i hF ex_13
      refine lv_aload_n hx hb dX7_frontier_20 rfl (lv_at hl 0 rfl) ?_
      refine va_get (D := D) (ci := 7) (v := .ref (aM 5)) (C := RX7) (T := TX7) (N := 38) hx hb hts hin_RX7 hown hK hP 0 rfl rfl 5 (by decide) hk_3 (fun _ h9 => h9) rfl dX7_frontier_21 ?_
      refine lv_iload_n hx hb dX7_frontier_24 rfl (lv_at hl 2 rfl) ?_
      replace hF := ald_i hF
      obtain ⟨hin_14, hF⟩ := hF
      refine va_iald hx hb hK hP 2 0 rfl rfl hin_14 dX7_frontier_25 ?_
      refine lv_topi (fun x_15 ex_15 => ?_)
      replace hF := nm_i hF ex_15
      replace hF := bnd hF
      obtain ⟨r_16, hc_17, hF⟩ := hF
      refine cl_Sie (As := [.int x_13, .int x_15]) (rest := [.int v1_3]) ⟨hx, hb, hml, hown, hts⟩ (va_cwS 2 hts gX7_frontier_X7_has rfl rfl rfl (by decide +kernel) ⟨Nat.le_of_ble_eq_true rfl, Nat.le_of_ble_eq_true rfl⟩) (c_X7_has l D ci  H.size x_13 x_15 _ hc_17) hK hP hD hS hA rfl rfl hl.1 (Nat.le_of_ble_eq_true rfl) dX7_frontier_26 (Nat.zero_le _) (Nat.zero_le _) (fun H locs hP hD hS => ?_)
      have hP : va_P D vwCl (wcM ci aM zM) H := hP
      have hD : va_D A (wcM ci aM zM) := hD
      refine lv_aload_n hx hb dX7_frontier_29 rfl (lv_at hl 0 rfl) ?_
      refine va_get (D := D) (ci := 7) (v := .ref (aM 8)) (C := RX7) (T := TX7) (N := 38) hx hb hts hin_RX7 hown hK hP 0 rfl rfl 8 (by decide) hk_2 (fun _ h9 => h9) rfl dX7_frontier_30 ?_
      refine lv_bipush (v := 120) hx hb dX7_frontier_33 (by decide) ?_
      replace hF := ald_i hF
      obtain ⟨hin_18, hF⟩ := hF
      refine va_iald hx hb hK hP 5 0 rfl rfl hin_18 dX7_frontier_35 ?_
      refine lv_topi (fun x_19 ex_19 => ?_)
      replace hF := nm_i hF ex_19
      refine lv_aload_n hx hb dX7_frontier_36 rfl (lv_at hl 0 rfl) ?_
      refine va_get (D := D) (ci := 7) (v := .ref (aM 6)) (C := RX7) (T := TX7) (N := 38) hx hb hts hin_RX7 hown hK hP 0 rfl rfl 6 (by decide) hk_4 (fun _ h9 => h9) rfl dX7_frontier_37 ?_
      refine lv_iload_n hx hb dX7_frontier_40 rfl (lv_at hl 2 rfl) ?_
      replace hF := ald_i hF
      obtain ⟨hin_20, hF⟩ := hF
      refine va_iald hx hb hK hP 3 0 rfl rfl hin_20 dX7_frontier_41 ?_
      refine lv_topi (fun x_21 ex_21 => ?_)
      replace hF := nm_i hF ex_21
      replace hF := bnd hF
      obtain ⟨r_22, hc_23, hF⟩ := hF
      refine cl_Sie (As := [.int x_19, .int x_21]) (rest := [.int r_16, .int v1_3]) ⟨hx, hb, hml, hown, hts⟩ (va_cwS 2 hts gX7_frontier_X7_has rfl rfl rfl (by decide +kernel) ⟨Nat.le_of_ble_eq_true rfl, Nat.le_of_ble_eq_true rfl⟩) (c_X7_has l D ci  H.size x_19 x_21 _ hc_23) hK hP hD hS hA rfl rfl hl.1 (Nat.le_of_ble_eq_true rfl) dX7_frontier_42 (Nat.zero_le _) (Nat.zero_le _) (fun H locs hP hD hS => ?_)
      have hP : va_P D vwCl (wcM ci aM zM) H := hP
      have hD : va_D A (wcM ci aM zM) := hD
      refine lv_icmp_eq (tgt := 52) hx hb dX7_frontier_45 (by decide) (fun c_24 => ?_) (fun c_24 => ?_)
      · replace hF := if_i c_24 hF
        refine lv_iconst (v := 0) hx hb dX7_frontier_52 (by decide) ?_
        refine lv_iadd hx hb dX7_frontier_53 ?_
        refine lv_topi (fun v1_25 ev1_25 => ?_)
        replace hF := nm_i hF ev1_25
        refine lv_istore_n (lv' := [(1, .int v1_25), (0, .ref (aM 0)), (2, .int v2_4)]) hx hb dX7_frontier_54 rfl hl (by decide) rfl (fun ls hl => ?_)
        obtain ⟨v2_26, ev2_26⟩ : ∃ y : Int32, y = v2_4 + 1 := ⟨_, rfl⟩
        replace hF := nm_i hF ev2_26
        refine lv_iinc (v := v2_26) (lv' := [(2, .int v2_26), (1, .int v1_25), (0, .ref (aM 0))]) hx hb dX7_frontier_55 hl (k := 2) rfl (by rw [ev2_26]; rfl) (by decide) rfl (fun ls hl => ?_)
        refine lv_goto (tgt := 4) hx hb dX7_frontier_58 (by decide) ?_
        exact ih_5 (v1_25, v2_26) H locs ls ⟨hF, hP, hD, hS, lv_sub hl [2, 1, 0] rfl⟩
      · replace hF := if_o c_24 hF
        refine lv_iconst (v := 1) hx hb dX7_frontier_48 (by decide) ?_
        refine lv_goto (tgt := 53) hx hb dX7_frontier_49 (by decide) ?_
        refine lv_iadd hx hb dX7_frontier_53 ?_
        refine lv_topi (fun v1_27 ev1_27 => ?_)
        replace hF := nm_i hF ev1_27
        refine lv_istore_n (lv' := [(1, .int v1_27), (0, .ref (aM 0)), (2, .int v2_4)]) hx hb dX7_frontier_54 rfl hl (by decide) rfl (fun ls hl => ?_)
        obtain ⟨v2_28, ev2_28⟩ : ∃ y : Int32, y = v2_4 + 1 := ⟨_, rfl⟩
        replace hF := nm_i hF ev2_28
        refine lv_iinc (v := v2_28) (lv' := [(2, .int v2_28), (1, .int v1_27), (0, .ref (aM 0))]) hx hb dX7_frontier_55 hl (k := 2) rfl (by rw [ev2_28]; rfl) (by decide) rfl (fun ls hl => ?_)
        refine lv_goto (tgt := 4) hx hb dX7_frontier_58 (by decide) ?_
        exact ih_5 (v1_27, v2_28) H locs ls ⟨hF, hP, hD, hS, lv_sub hl [2, 1, 0] rfl⟩
noncomputable def L_X7_hedges_4 (zM : MS) : Nat → Int32 → Int32 → Option (Int32 × Int32)
  | 0, _, _ => none
  | n + 1, v1_3, v2_4 => if (zM.1 3) ≤ v2_4 then (some (v1_3, v2_4)) else (ald 122 (zM.2 8) v2_4 fun x_13 => if x_13 < 0 then (nm (v1_3 + 0) fun v1_15 => nm (v2_4 + 1) fun v2_16 => L_X7_hedges_4 zM n v1_15 v2_16) else (nm (v1_3 + 1) fun v1_17 => nm (v2_4 + 1) fun v2_18 => L_X7_hedges_4 zM n v1_17 v2_18))
noncomputable def f_X7_hedges (zM : MS) : Option (Int32) := nm (0 : Int32) fun v1_1 => nm (0 : Int32) fun v2_2 => (L_X7_hedges_4 zM 3000 v1_1 v2_2).bind fun q_20 => nm q_20.1 fun v1_7 => nm q_20.2 fun v2_8 => some v1_7
set_option maxHeartbeats 4000000 in
set_option maxRecDepth 100000 in
theorem c_X7_hedges (l : Launch) (D : va_G) (ci : Nat → ClassId) (aM : Nat → Nat) (sz : Nat) (zM : MS) (res : Int32) (hF : f_X7_hedges zM = some res) : CtI l yX7_hedges wsX7_hedges { frames := 0, cells := 0, slots := 0, locals := 0 } [.ref (aM 0)] D ci (wcM ci aM zM) sz res (wcM ci aM zM) := by
  refine Met.ofW (cc := cX7_hedges) (maxL := 3) (ret := (some .int)) (by decide) rfl ?_
  intro p e s m args below meth c s₁ B hml hv
  obtain ⟨rfl, hsz, hP, hK, hD0⟩ := hv
  have hx := B.exec
  have hb := B.bytes
  have hr := B.returns
  have hts := atoms_spec (ws := wsX7_hedges) B.pre
  have hown : s.vm.findClass RX7 = some m.cls := findClass_of_methodNamed B.named
  have hlocks := B.notSynchronized
  subst hsz
  have hD := hD0.self (sz := s.heap.size)
  generalize hAe : va_A (wcM ci aM zM) s.heap.size = A at hD ⊢
  have hA : ∀ q : Nat, s.heap.size ≤ q → A q := fun q h => by rw [← hAe]; exact Or.inr h
  clear hD0 hAe
  have hl := lv_entry ([.ref (aM 0)]) (n := 3) (Nat.le_of_ble_eq_true rfl)
  rw [lg_entry_eq]
  generalize (lg_sl ([.ref (aM 0)]) ++ List.replicate (3 - (lg_sl ([.ref (aM 0)])).length) Slot.unset).toArray = ls at hl ⊢
  have hl : lv_has ls 3 [(0, .ref (aM 0))] := hl
  have hP : va_P D vwCl (wcM ci aM zM) s.heap := hP
  generalize hH0 : s.heap = H at hP ⊢
  have hS : va_S A s.heap H [] := by rw [← hH0]; exact va_S.rf
  clear hH0
  generalize ([] : List Loc) = locs at hS ⊢
  have hk_0 := hts (.fieldLink RX7 91 "HedgeWarModel" "edges" "I") (by decide +kernel)
  have hin_RX7 : ∀ w ∈ wsX70, w ∈ wsX7_hedges := by decide +kernel
  have hk_2 := hts (.fieldLink RX7 23 "HedgeWarModel" "now" "[I") (by decide +kernel)
  unfold f_X7_hedges at hF
  refine lv_iconst (v := 0) hx hb dX7_hedges_0 (by decide) ?_
  refine lv_topi (fun v1_1 ev1_1 => ?_)
  replace hF := nm_i hF ev1_1
  refine lv_istore_n (lv' := [(1, .int v1_1), (0, .ref (aM 0))]) hx hb dX7_hedges_1 rfl hl (by decide) rfl (fun ls hl => ?_)
  refine lv_iconst (v := 0) hx hb dX7_hedges_2 (by decide) ?_
  refine lv_topi (fun v2_2 ev2_2 => ?_)
  replace hF := nm_i hF ev2_2
  refine lv_istore_n (lv' := [(2, .int v2_2), (1, .int v1_1), (0, .ref (aM 0))]) hx hb dX7_hedges_3 rfl hl (by decide) rfl (fun ls hl => ?_)
  replace hF := bnd hF
  obtain ⟨q_20, hv_19, hF⟩ := hF
  obtain ⟨v1_7, ev1_7⟩ : ∃ y : Int32, y = q_20.1 := ⟨_, rfl⟩
  replace hF := nm_i hF ev1_7
  obtain ⟨v2_8, ev2_8⟩ : ∃ y : Int32, y = q_20.2 := ⟨_, rfl⟩
  replace hF := nm_i hF ev2_8
  obtain rfl : q_20 = (v1_7, v2_8) := by rw [ev1_7, ev2_8]
  clear ev1_7
  clear ev2_8
  refine jn (P := fun H locs ls => va_P D vwCl (wcM ci aM zM) H ∧ va_D A (wcM ci aM zM) ∧ va_S A s.heap H locs ∧ lv_has ls 3 [(0, .ref (aM 0)), (1, .int v1_7), (2, .int v2_8)]) (pcJ := 35) (st := []) ?_ ?_
  · intro H locs ls hJ
    obtain ⟨hP, hD, hS, hl⟩ := hJ
    refine lv_iload_n hx hb dX7_hedges_35 rfl (lv_at hl 1 rfl) ?_
    obtain rfl := Option.some.inj hF
    exact W.iret (v := v1_7) hx hb hr (fun t ht hW => ⟨⟨_, (), rfl, rfl, by rw [ht]; exact hP, va_K.moved hW.alike hK, hD⟩, hS.F ht⟩) hS.2.2 dX7_hedges_36
  · intro J_6
    clear hF
    have hF := hv_19
    refine lpW (σ := Int32 × Int32) (I := fun n v H locs ls => L_X7_hedges_4 zM n v.1 v.2 = some (v1_7, v2_8) ∧ va_P D vwCl (wcM ci aM zM) H ∧ va_D A (wcM ci aM zM) ∧ va_S A s.heap H locs ∧ lv_has ls 3 [(0, .ref (aM 0)), (1, .int v.1), (2, .int v.2)]) 3000 (v1_1, v2_2) (fun _ _ _ _ h => no_none h.1) ⟨hF, hP, hD, hS, lv_sub hl [2, 1, 0] rfl⟩ ?_
    clear hF hP hD hS hl
    intro n ih_5 vq H locs ls hI
    obtain ⟨v1_3, v2_4⟩ := vq
    obtain ⟨hF, hP, hD, hS, hl⟩ := hI
    have hP : va_P D vwCl (wcM ci aM zM) H := hP
    have hD : va_D A (wcM ci aM zM) := hD
    have hl : lv_has ls 3 [(0, .ref (aM 0)), (1, .int v1_3), (2, .int v2_4)] := hl
    replace hF : L_X7_hedges_4 zM (n + 1) v1_3 v2_4 = some (v1_7, v2_8) := hF
    rw [L_X7_hedges_4] at hF
    refine lv_iload_n hx hb dX7_hedges_4 rfl (lv_at hl 2 rfl) ?_
    refine lv_aload_n hx hb dX7_hedges_5 rfl (lv_at hl 0 rfl) ?_
    refine va_get (D := D) (ci := 7) (v := .int (zM.1 3)) (C := RX7) (T := TX7) (N := 38) hx hb hts hin_RX7 hown hK hP 0 rfl rfl 3 (by decide) hk_0 (fun _ h9 => h9) rfl dX7_hedges_6 ?_
    refine lv_icmp_ge (tgt := 35) hx hb dX7_hedges_9 (by decide) (fun c_9 => ?_) (fun c_9 => ?_)
    · replace hF := if_i c_9 hF
      obtain ⟨g_10, g_11⟩ : v1_3 = v1_7 ∧ v2_4 = v2_8 := by have h9 := Option.some.inj hF; simpa only [Prod.mk.injEq] using h9
      subst g_10
      subst g_11
      exact J_6 H locs ls ⟨hP, hD, hS, lv_sub hl [0, 1, 2] rfl⟩
    · replace hF := if_o c_9 hF
      refine lv_iload_n hx hb dX7_hedges_12 rfl (lv_at hl 1 rfl) ?_
      refine lv_aload_n hx hb dX7_hedges_13 rfl (lv_at hl 0 rfl) ?_
      refine va_get (D := D) (ci := 7) (v := .ref (aM 8)) (C := RX7) (T := TX7) (N := 38) hx hb hts hin_RX7 hown hK hP 0 rfl rfl 8 (by decide) hk_2 (fun _ h9 => h9) rfl dX7_hedges_14 ?_
      refine lv_iload_n hx hb dX7_hedges_17 rfl (lv_at hl 2 rfl) ?_
      replace hF := ald_i hF
      obtain ⟨hin_12, hF⟩ := hF
      refine va_iald hx hb hK hP 5 0 rfl rfl hin_12 dX7_hedges_18 ?_
      refine lv_topi (fun x_13 ex_13 => ?_)
      replace hF := nm_i hF ex_13
      refine lv_if_lt (tgt := 26) hx hb dX7_hedges_19 (by decide) (fun c_14 => ?_) (fun c_14 => ?_)
      · replace hF := if_i c_14 hF
        refine lv_iconst (v := 0) hx hb dX7_hedges_26 (by decide) ?_
        refine lv_iadd hx hb dX7_hedges_27 ?_
        refine lv_topi (fun v1_15 ev1_15 => ?_)
        replace hF := nm_i hF ev1_15
        refine lv_istore_n (lv' := [(1, .int v1_15), (0, .ref (aM 0)), (2, .int v2_4)]) hx hb dX7_hedges_28 rfl hl (by decide) rfl (fun ls hl => ?_)
        obtain ⟨v2_16, ev2_16⟩ : ∃ y : Int32, y = v2_4 + 1 := ⟨_, rfl⟩
        replace hF := nm_i hF ev2_16
        refine lv_iinc (v := v2_16) (lv' := [(2, .int v2_16), (1, .int v1_15), (0, .ref (aM 0))]) hx hb dX7_hedges_29 hl (k := 2) rfl (by rw [ev2_16]; rfl) (by decide) rfl (fun ls hl => ?_)
        refine lv_goto (tgt := 4) hx hb dX7_hedges_32 (by decide) ?_
        exact ih_5 (v1_15, v2_16) H locs ls ⟨hF, hP, hD, hS, lv_sub hl [2, 1, 0] rfl⟩
      · replace hF := if_o c_14 hF
        refine lv_iconst (v := 1) hx hb dX7_hedges_22 (by decide) ?_
        refine lv_goto (tgt := 27) hx hb dX7_hedges_23 (by decide) ?_
        refine lv_iadd hx hb dX7_hedges_27 ?_
        refine lv_topi (fun v1_17 ev1_17 => ?_)
        replace hF := nm_i hF ev1_17
        refine lv_istore_n (lv' := [(1, .int v1_17), (0, .ref (aM 0)), (2, .int v2_4)]) hx hb dX7_hedges_28 rfl hl (by decide) rfl (fun ls hl => ?_)
        obtain ⟨v2_18, ev2_18⟩ : ∃ y : Int32, y = v2_4 + 1 := ⟨_, rfl⟩
        replace hF := nm_i hF ev2_18
        refine lv_iinc (v := v2_18) (lv' := [(2, .int v2_18), (1, .int v1_17), (0, .ref (aM 0))]) hx hb dX7_hedges_29 hl (k := 2) rfl (by rw [ev2_18]; rfl) (by decide) rfl (fun ls hl => ?_)
        refine lv_goto (tgt := 4) hx hb dX7_hedges_32 (by decide) ?_
        exact ih_5 (v1_17, v2_18) H locs ls ⟨hF, hP, hD, hS, lv_sub hl [2, 1, 0] rfl⟩
noncomputable def f_X7_told (zM : MS) (p1 : Int32) : Option (Int32) := nm p1 fun k_1 => if k_1 = 0 then (some (zM.1 0)) else if k_1 = 1 then (some (zM.1 1)) else if k_1 = 2 then (some (zM.1 2)) else if k_1 = 3 then (some (zM.1 3)) else if k_1 = 4 then (some (zM.1 11)) else if k_1 = 5 then (ald 122 (zM.2 8) (121 : Int32) fun x_9 => some x_9) else if k_1 = 6 then ((f_X7_hedges zM).bind fun r_11 => some r_11) else if k_1 = 7 then (ald 122 (zM.2 8) (120 : Int32) fun x_15 => (f_X7_bits x_15).bind fun r_16 => some ((zM.1 2) - r_16)) else if k_1 = 8 then (ald 122 (zM.2 8) (120 : Int32) fun x_20 => (f_X7_bits x_20).bind fun r_21 => some r_21) else if k_1 = 9 then ((f_X7_frontier zM).bind fun r_24 => some r_24) else if k_1 = 10 then (some (zM.1 29)) else if k_1 = 11 then (some (zM.1 33)) else if k_1 = 12 then (some (zM.1 22)) else (some (-1000000002 : Int32))
set_option maxHeartbeats 4000000 in
set_option maxRecDepth 100000 in
theorem c_X7_told (l : Launch) (D : va_G) (ci : Nat → ClassId) (aM : Nat → Nat) (sz : Nat) (zM : MS) (p1 : Int32) (res : Int32) (hF : f_X7_told zM p1 = some res) : CtI l yX7_told wsX7_told { frames := 2, cells := 0, slots := 0, locals := 43 } [.ref (aM 0), .int p1] D ci (wcM ci aM zM) sz res (wcM ci aM zM) := by
  refine Met.ofW (cc := cX7_told) (maxL := 2) (ret := (some .int)) (by decide) rfl ?_
  intro p e s m args below meth c s₁ B hml hv
  obtain ⟨rfl, hsz, hP, hK, hD0⟩ := hv
  have hx := B.exec
  have hb := B.bytes
  have hr := B.returns
  have hts := atoms_spec (ws := wsX7_told) B.pre
  have hown : s.vm.findClass RX7 = some m.cls := findClass_of_methodNamed B.named
  have hlocks := B.notSynchronized
  subst hsz
  have hD := hD0.self (sz := s.heap.size)
  generalize hAe : va_A (wcM ci aM zM) s.heap.size = A at hD ⊢
  have hA : ∀ q : Nat, s.heap.size ≤ q → A q := fun q h => by rw [← hAe]; exact Or.inr h
  clear hD0 hAe
  have hl := lv_entry ([.ref (aM 0), .int p1]) (n := 2) (Nat.le_of_ble_eq_true rfl)
  rw [lg_entry_eq]
  generalize (lg_sl ([.ref (aM 0), .int p1]) ++ List.replicate (2 - (lg_sl ([.ref (aM 0), .int p1])).length) Slot.unset).toArray = ls at hl ⊢
  have hl : lv_has ls 2 [(0, .ref (aM 0)), (1, .int p1)] := hl
  have hP : va_P D vwCl (wcM ci aM zM) s.heap := hP
  generalize hH0 : s.heap = H at hP ⊢
  have hS : va_S A s.heap H [] := by rw [← hH0]; exact va_S.rf
  clear hH0
  generalize ([] : List Loc) = locs at hS ⊢
  have hk_0 := hts (.fieldLink RX7 160 "HedgeWarModel" "wide" "I") (by decide +kernel)
  have hin_RX7 : ∀ w ∈ wsX70, w ∈ wsX7_told := by decide +kernel
  have hk_2 := hts (.fieldLink RX7 163 "HedgeWarModel" "high" "I") (by decide +kernel)
  have hk_3 := hts (.fieldLink RX7 84 "HedgeWarModel" "fields" "I") (by decide +kernel)
  have hk_4 := hts (.fieldLink RX7 91 "HedgeWarModel" "edges" "I") (by decide +kernel)
  have hk_5 := hts (.fieldLink RX7 97 "HedgeWarModel" "texted" "I") (by decide +kernel)
  have hk_6 := hts (.fieldLink RX7 23 "HedgeWarModel" "now" "[I") (by decide +kernel)
  have hk_7 := hts (.fieldLink RX7 175 "HedgeWarModel" "roots" "I") (by decide +kernel)
  have hk_8 := hts (.fieldLink RX7 178 "HedgeWarModel" "booked" "I") (by decide +kernel)
  have hk_9 := hts (.fieldLink RX7 181 "HedgeWarModel" "undos" "I") (by decide +kernel)
  have hk_10 := hts (.constant RX7 96 (-1000000002)) (by decide +kernel)
  unfold f_X7_told at hF
  refine lv_iload_n hx hb dX7_told_0 rfl (lv_at hl 1 rfl) ?_
  refine lv_topi (fun k_1 ek_1 => ?_)
  replace hF := nm_i hF ek_1
  by_cases c_2 : k_1 = 0
  · replace hF := if_i c_2 hF
    subst c_2
    refine lv_tableIn (tgt := 68) hx hb dX7_told_1 (by decide) (by decide) rfl (by decide) ?_
    refine lv_aload_n hx hb dX7_told_68 rfl (lv_at hl 0 rfl) ?_
    refine va_get (D := D) (ci := 7) (v := .int (zM.1 0)) (C := RX7) (T := TX7) (N := 38) hx hb hts hin_RX7 hown hK hP 0 rfl rfl 0 (by decide) hk_0 (fun _ h9 => h9) rfl dX7_told_69 ?_
    obtain rfl := Option.some.inj hF
    exact W.iret (v := (zM.1 0)) hx hb hr (fun t ht hW => ⟨⟨_, (), rfl, rfl, by rw [ht]; exact hP, va_K.moved hW.alike hK, hD⟩, hS.F ht⟩) hS.2.2 dX7_told_72
  replace hF := if_o c_2 hF
  by_cases c_3 : k_1 = 1
  · replace hF := if_i c_3 hF
    subst c_3
    refine lv_tableIn (tgt := 73) hx hb dX7_told_1 (by decide) (by decide) rfl (by decide) ?_
    refine lv_aload_n hx hb dX7_told_73 rfl (lv_at hl 0 rfl) ?_
    refine va_get (D := D) (ci := 7) (v := .int (zM.1 1)) (C := RX7) (T := TX7) (N := 38) hx hb hts hin_RX7 hown hK hP 0 rfl rfl 1 (by decide) hk_2 (fun _ h9 => h9) rfl dX7_told_74 ?_
    obtain rfl := Option.some.inj hF
    exact W.iret (v := (zM.1 1)) hx hb hr (fun t ht hW => ⟨⟨_, (), rfl, rfl, by rw [ht]; exact hP, va_K.moved hW.alike hK, hD⟩, hS.F ht⟩) hS.2.2 dX7_told_77
  replace hF := if_o c_3 hF
  by_cases c_4 : k_1 = 2
  · replace hF := if_i c_4 hF
    subst c_4
    refine lv_tableIn (tgt := 78) hx hb dX7_told_1 (by decide) (by decide) rfl (by decide) ?_
    refine lv_aload_n hx hb dX7_told_78 rfl (lv_at hl 0 rfl) ?_
    refine va_get (D := D) (ci := 7) (v := .int (zM.1 2)) (C := RX7) (T := TX7) (N := 38) hx hb hts hin_RX7 hown hK hP 0 rfl rfl 2 (by decide) hk_3 (fun _ h9 => h9) rfl dX7_told_79 ?_
    obtain rfl := Option.some.inj hF
    exact W.iret (v := (zM.1 2)) hx hb hr (fun t ht hW => ⟨⟨_, (), rfl, rfl, by rw [ht]; exact hP, va_K.moved hW.alike hK, hD⟩, hS.F ht⟩) hS.2.2 dX7_told_82
  replace hF := if_o c_4 hF
  by_cases c_5 : k_1 = 3
  · replace hF := if_i c_5 hF
    subst c_5
    refine lv_tableIn (tgt := 83) hx hb dX7_told_1 (by decide) (by decide) rfl (by decide) ?_
    refine lv_aload_n hx hb dX7_told_83 rfl (lv_at hl 0 rfl) ?_
    refine va_get (D := D) (ci := 7) (v := .int (zM.1 3)) (C := RX7) (T := TX7) (N := 38) hx hb hts hin_RX7 hown hK hP 0 rfl rfl 3 (by decide) hk_4 (fun _ h9 => h9) rfl dX7_told_84 ?_
    obtain rfl := Option.some.inj hF
    exact W.iret (v := (zM.1 3)) hx hb hr (fun t ht hW => ⟨⟨_, (), rfl, rfl, by rw [ht]; exact hP, va_K.moved hW.alike hK, hD⟩, hS.F ht⟩) hS.2.2 dX7_told_87
  replace hF := if_o c_5 hF
  by_cases c_6 : k_1 = 4
  · replace hF := if_i c_6 hF
    subst c_6
    refine lv_tableIn (tgt := 88) hx hb dX7_told_1 (by decide) (by decide) rfl (by decide) ?_
    refine lv_aload_n hx hb dX7_told_88 rfl (lv_at hl 0 rfl) ?_
    refine va_get (D := D) (ci := 7) (v := .int (zM.1 11)) (C := RX7) (T := TX7) (N := 38) hx hb hts hin_RX7 hown hK hP 0 rfl rfl 11 (by decide) hk_5 (fun _ h9 => h9) rfl dX7_told_89 ?_
    obtain rfl := Option.some.inj hF
    exact W.iret (v := (zM.1 11)) hx hb hr (fun t ht hW => ⟨⟨_, (), rfl, rfl, by rw [ht]; exact hP, va_K.moved hW.alike hK, hD⟩, hS.F ht⟩) hS.2.2 dX7_told_92
  replace hF := if_o c_6 hF
  by_cases c_7 : k_1 = 5
  · replace hF := if_i c_7 hF
    subst c_7
    refine lv_tableIn (tgt := 93) hx hb dX7_told_1 (by decide) (by decide) rfl (by decide) ?_
    refine lv_aload_n hx hb dX7_told_93 rfl (lv_at hl 0 rfl) ?_
    refine va_get (D := D) (ci := 7) (v := .ref (aM 8)) (C := RX7) (T := TX7) (N := 38) hx hb hts hin_RX7 hown hK hP 0 rfl rfl 8 (by decide) hk_6 (fun _ h9 => h9) rfl dX7_told_94 ?_
    refine lv_bipush (v := 121) hx hb dX7_told_97 (by decide) ?_
    replace hF := ald_i hF
    obtain ⟨hin_8, hF⟩ := hF
    refine va_iald hx hb hK hP 5 0 rfl rfl hin_8 dX7_told_99 ?_
    refine lv_topi (fun x_9 ex_9 => ?_)
    replace hF := nm_i hF ex_9
    obtain rfl := Option.some.inj hF
    exact W.iret (v := x_9) hx hb hr (fun t ht hW => ⟨⟨_, (), rfl, rfl, by rw [ht]; exact hP, va_K.moved hW.alike hK, hD⟩, hS.F ht⟩) hS.2.2 dX7_told_100
  replace hF := if_o c_7 hF
  by_cases c_10 : k_1 = 6
  · replace hF := if_i c_10 hF
    subst c_10
    refine lv_tableIn (tgt := 101) hx hb dX7_told_1 (by decide) (by decide) rfl (by decide) ?_
    refine lv_aload_n hx hb dX7_told_101 rfl (lv_at hl 0 rfl) ?_
    replace hF := bnd hF
    obtain ⟨r_11, hc_12, hF⟩ := hF
    refine cl_Vi0 (As := []) (rest := []) ⟨hx, hb, hml, hown, hts⟩ (cwV 0 hts gX7_told_X7_hedges rfl rfl rfl (by decide +kernel) ⟨Nat.le_of_ble_eq_true rfl, Nat.le_of_ble_eq_true rfl⟩) (c_X7_hedges l D ci aM H.size zM _ hc_12) hK hP hD hS hA 0 rfl rfl rfl rfl hl.1 (Nat.le_of_ble_eq_true rfl) dX7_told_102 (Nat.zero_le _) (Nat.zero_le _) (fun H locs hP hD hS => ?_)
    have hP : va_P D vwCl (wcM ci aM zM) H := hP
    have hD : va_D A (wcM ci aM zM) := hD
    obtain rfl := Option.some.inj hF
    exact W.iret (v := r_11) hx hb hr (fun t ht hW => ⟨⟨_, (), rfl, rfl, by rw [ht]; exact hP, va_K.moved hW.alike hK, hD⟩, hS.F ht⟩) hS.2.2 dX7_told_105
  replace hF := if_o c_10 hF
  by_cases c_13 : k_1 = 7
  · replace hF := if_i c_13 hF
    subst c_13
    refine lv_tableIn (tgt := 106) hx hb dX7_told_1 (by decide) (by decide) rfl (by decide) ?_
    refine lv_aload_n hx hb dX7_told_106 rfl (lv_at hl 0 rfl) ?_
    refine va_get (D := D) (ci := 7) (v := .int (zM.1 2)) (C := RX7) (T := TX7) (N := 38) hx hb hts hin_RX7 hown hK hP 0 rfl rfl 2 (by decide) hk_3 (fun _ h9 => h9) rfl dX7_told_107 ?_
    refine lv_aload_n hx hb dX7_told_110 rfl (lv_at hl 0 rfl) ?_
    refine va_get (D := D) (ci := 7) (v := .ref (aM 8)) (C := RX7) (T := TX7) (N := 38) hx hb hts hin_RX7 hown hK hP 0 rfl rfl 8 (by decide) hk_6 (fun _ h9 => h9) rfl dX7_told_111 ?_
    refine lv_bipush (v := 120) hx hb dX7_told_114 (by decide) ?_
    replace hF := ald_i hF
    obtain ⟨hin_14, hF⟩ := hF
    refine va_iald hx hb hK hP 5 0 rfl rfl hin_14 dX7_told_116 ?_
    refine lv_topi (fun x_15 ex_15 => ?_)
    replace hF := nm_i hF ex_15
    replace hF := bnd hF
    obtain ⟨r_16, hc_17, hF⟩ := hF
    refine cl_Sie (As := [.int x_15]) (rest := [.int (zM.1 2)]) ⟨hx, hb, hml, hown, hts⟩ (va_cwS 1 hts gX7_told_X7_bits rfl rfl rfl (by decide +kernel) ⟨Nat.le_of_ble_eq_true rfl, Nat.le_of_ble_eq_true rfl⟩) (c_X7_bits l D ci  H.size x_15 _ hc_17) hK hP hD hS hA rfl rfl hl.1 (Nat.le_of_ble_eq_true rfl) dX7_told_117 (Nat.zero_le _) (Nat.zero_le _) (fun H locs hP hD hS => ?_)
    have hP : va_P D vwCl (wcM ci aM zM) H := hP
    have hD : va_D A (wcM ci aM zM) := hD
    refine lv_isub hx hb dX7_told_120 ?_
    obtain rfl := Option.some.inj hF
    exact W.iret (v := ((zM.1 2) - r_16)) hx hb hr (fun t ht hW => ⟨⟨_, (), rfl, rfl, by rw [ht]; exact hP, va_K.moved hW.alike hK, hD⟩, hS.F ht⟩) hS.2.2 dX7_told_121
  replace hF := if_o c_13 hF
  by_cases c_18 : k_1 = 8
  · replace hF := if_i c_18 hF
    subst c_18
    refine lv_tableIn (tgt := 122) hx hb dX7_told_1 (by decide) (by decide) rfl (by decide) ?_
    refine lv_aload_n hx hb dX7_told_122 rfl (lv_at hl 0 rfl) ?_
    refine va_get (D := D) (ci := 7) (v := .ref (aM 8)) (C := RX7) (T := TX7) (N := 38) hx hb hts hin_RX7 hown hK hP 0 rfl rfl 8 (by decide) hk_6 (fun _ h9 => h9) rfl dX7_told_123 ?_
    refine lv_bipush (v := 120) hx hb dX7_told_126 (by decide) ?_
    replace hF := ald_i hF
    obtain ⟨hin_19, hF⟩ := hF
    refine va_iald hx hb hK hP 5 0 rfl rfl hin_19 dX7_told_128 ?_
    refine lv_topi (fun x_20 ex_20 => ?_)
    replace hF := nm_i hF ex_20
    replace hF := bnd hF
    obtain ⟨r_21, hc_22, hF⟩ := hF
    refine cl_Sie (As := [.int x_20]) (rest := []) ⟨hx, hb, hml, hown, hts⟩ (va_cwS 1 hts gX7_told_X7_bits rfl rfl rfl (by decide +kernel) ⟨Nat.le_of_ble_eq_true rfl, Nat.le_of_ble_eq_true rfl⟩) (c_X7_bits l D ci  H.size x_20 _ hc_22) hK hP hD hS hA rfl rfl hl.1 (Nat.le_of_ble_eq_true rfl) dX7_told_129 (Nat.zero_le _) (Nat.zero_le _) (fun H locs hP hD hS => ?_)
    have hP : va_P D vwCl (wcM ci aM zM) H := hP
    have hD : va_D A (wcM ci aM zM) := hD
    obtain rfl := Option.some.inj hF
    exact W.iret (v := r_21) hx hb hr (fun t ht hW => ⟨⟨_, (), rfl, rfl, by rw [ht]; exact hP, va_K.moved hW.alike hK, hD⟩, hS.F ht⟩) hS.2.2 dX7_told_132
  replace hF := if_o c_18 hF
  by_cases c_23 : k_1 = 9
  · replace hF := if_i c_23 hF
    subst c_23
    refine lv_tableIn (tgt := 133) hx hb dX7_told_1 (by decide) (by decide) rfl (by decide) ?_
    refine lv_aload_n hx hb dX7_told_133 rfl (lv_at hl 0 rfl) ?_
    replace hF := bnd hF
    obtain ⟨r_24, hc_25, hF⟩ := hF
    refine cl_Vi0 (As := []) (rest := []) ⟨hx, hb, hml, hown, hts⟩ (cwV 0 hts gX7_told_X7_frontier rfl rfl rfl (by decide +kernel) ⟨Nat.le_of_ble_eq_true rfl, Nat.le_of_ble_eq_true rfl⟩) (c_X7_frontier l D ci aM H.size zM _ hc_25) hK hP hD hS hA 0 rfl rfl rfl rfl hl.1 (Nat.le_of_ble_eq_true rfl) dX7_told_134 (Nat.zero_le _) (Nat.zero_le _) (fun H locs hP hD hS => ?_)
    have hP : va_P D vwCl (wcM ci aM zM) H := hP
    have hD : va_D A (wcM ci aM zM) := hD
    obtain rfl := Option.some.inj hF
    exact W.iret (v := r_24) hx hb hr (fun t ht hW => ⟨⟨_, (), rfl, rfl, by rw [ht]; exact hP, va_K.moved hW.alike hK, hD⟩, hS.F ht⟩) hS.2.2 dX7_told_137
  replace hF := if_o c_23 hF
  by_cases c_26 : k_1 = 10
  · replace hF := if_i c_26 hF
    subst c_26
    refine lv_tableIn (tgt := 138) hx hb dX7_told_1 (by decide) (by decide) rfl (by decide) ?_
    refine lv_aload_n hx hb dX7_told_138 rfl (lv_at hl 0 rfl) ?_
    refine va_get (D := D) (ci := 7) (v := .int (zM.1 29)) (C := RX7) (T := TX7) (N := 38) hx hb hts hin_RX7 hown hK hP 0 rfl rfl 29 (by decide) hk_7 (fun _ h9 => h9) rfl dX7_told_139 ?_
    obtain rfl := Option.some.inj hF
    exact W.iret (v := (zM.1 29)) hx hb hr (fun t ht hW => ⟨⟨_, (), rfl, rfl, by rw [ht]; exact hP, va_K.moved hW.alike hK, hD⟩, hS.F ht⟩) hS.2.2 dX7_told_142
  replace hF := if_o c_26 hF
  by_cases c_27 : k_1 = 11
  · replace hF := if_i c_27 hF
    subst c_27
    refine lv_tableIn (tgt := 143) hx hb dX7_told_1 (by decide) (by decide) rfl (by decide) ?_
    refine lv_aload_n hx hb dX7_told_143 rfl (lv_at hl 0 rfl) ?_
    refine va_get (D := D) (ci := 7) (v := .int (zM.1 33)) (C := RX7) (T := TX7) (N := 38) hx hb hts hin_RX7 hown hK hP 0 rfl rfl 33 (by decide) hk_8 (fun _ h9 => h9) rfl dX7_told_144 ?_
    obtain rfl := Option.some.inj hF
    exact W.iret (v := (zM.1 33)) hx hb hr (fun t ht hW => ⟨⟨_, (), rfl, rfl, by rw [ht]; exact hP, va_K.moved hW.alike hK, hD⟩, hS.F ht⟩) hS.2.2 dX7_told_147
  replace hF := if_o c_27 hF
  by_cases c_28 : k_1 = 12
  · replace hF := if_i c_28 hF
    subst c_28
    refine lv_tableIn (tgt := 148) hx hb dX7_told_1 (by decide) (by decide) rfl (by decide) ?_
    refine lv_aload_n hx hb dX7_told_148 rfl (lv_at hl 0 rfl) ?_
    refine va_get (D := D) (ci := 7) (v := .int (zM.1 22)) (C := RX7) (T := TX7) (N := 38) hx hb hts hin_RX7 hown hK hP 0 rfl rfl 22 (by decide) hk_9 (fun _ h9 => h9) rfl dX7_told_149 ?_
    obtain rfl := Option.some.inj hF
    exact W.iret (v := (zM.1 22)) hx hb hr (fun t ht hW => ⟨⟨_, (), rfl, rfl, by rw [ht]; exact hP, va_K.moved hW.alike hK, hD⟩, hS.F ht⟩) hS.2.2 dX7_told_152
  replace hF := if_o c_28 hF
  have tc_2 := lv_neT c_2 (a := 0) (by decide)
  have tc_3 := lv_neT c_3 (a := 1) (by decide)
  have tc_4 := lv_neT c_4 (a := 2) (by decide)
  have tc_5 := lv_neT c_5 (a := 3) (by decide)
  have tc_6 := lv_neT c_6 (a := 4) (by decide)
  have tc_7 := lv_neT c_7 (a := 5) (by decide)
  have tc_10 := lv_neT c_10 (a := 6) (by decide)
  have tc_13 := lv_neT c_13 (a := 7) (by decide)
  have tc_18 := lv_neT c_18 (a := 8) (by decide)
  have tc_23 := lv_neT c_23 (a := 9) (by decide)
  have tc_26 := lv_neT c_26 (a := 10) (by decide)
  have tc_27 := lv_neT c_27 (a := 11) (by decide)
  have tc_28 := lv_neT c_28 (a := 12) (by decide)
  refine lv_tableOut (tgt := 153) hx hb dX7_told_1 (by omega) (by decide) ?_
  refine lv_ldc (v := (-1000000002)) hx hb hown hk_10 dX7_told_153 ?_
  obtain rfl := Option.some.inj hF
  exact W.iret (v := (-1000000002)) hx hb hr (fun t ht hW => ⟨⟨_, (), rfl, rfl, by rw [ht]; exact hP, va_K.moved hW.alike hK, hD⟩, hS.F ht⟩) hS.2.2 dX7_told_155
noncomputable def f_X7_field (zM : MS) (p1 : Int32) (p2 : Int32) : Option (Int32) := (f_X7_isField zM p1).bind fun r_1 => if r_1 = 0 then (some (-1000000001 : Int32)) else (nm p2 fun k_4 => if k_4 = 0 then (ald 25 (zM.2 4) p1 fun x_7 => some x_7) else if k_4 = 1 then (ald 122 (zM.2 8) (120 : Int32) fun x_10 => some ((x_10 >>> (p1 &&& 31)) &&& 1)) else if k_4 = 2 then ((f_X7_landOf zM p1).bind fun r_12 => (f_X7_bits r_12).bind fun r_14 => some r_14) else if k_4 = 3 then ((f_X7_landOf zM p1).bind fun r_17 => (f_X7_shutInBy zM r_17).bind fun r_19 => some r_19) else (some (-1000000002 : Int32)))
set_option maxHeartbeats 4000000 in
set_option maxRecDepth 100000 in
theorem c_X7_field (l : Launch) (D : va_G) (ci : Nat → ClassId) (aM : Nat → Nat) (sz : Nat) (zM : MS) (p1 : Int32) (p2 : Int32) (res : Int32) (hF : f_X7_field zM p1 p2 = some res) : CtI l yX7_field wsX7_field { frames := 4, cells := 0, slots := 0, locals := 90 } [.ref (aM 0), .int p1, .int p2] D ci (wcM ci aM zM) sz res (wcM ci aM zM) := by
  refine Met.ofW (cc := cX7_field) (maxL := 3) (ret := (some .int)) (by decide) rfl ?_
  intro p e s m args below meth c s₁ B hml hv
  obtain ⟨rfl, hsz, hP, hK, hD0⟩ := hv
  have hx := B.exec
  have hb := B.bytes
  have hr := B.returns
  have hts := atoms_spec (ws := wsX7_field) B.pre
  have hown : s.vm.findClass RX7 = some m.cls := findClass_of_methodNamed B.named
  have hlocks := B.notSynchronized
  subst hsz
  have hD := hD0.self (sz := s.heap.size)
  generalize hAe : va_A (wcM ci aM zM) s.heap.size = A at hD ⊢
  have hA : ∀ q : Nat, s.heap.size ≤ q → A q := fun q h => by rw [← hAe]; exact Or.inr h
  clear hD0 hAe
  have hl := lv_entry ([.ref (aM 0), .int p1, .int p2]) (n := 3) (Nat.le_of_ble_eq_true rfl)
  rw [lg_entry_eq]
  generalize (lg_sl ([.ref (aM 0), .int p1, .int p2]) ++ List.replicate (3 - (lg_sl ([.ref (aM 0), .int p1, .int p2])).length) Slot.unset).toArray = ls at hl ⊢
  have hl : lv_has ls 3 [(0, .ref (aM 0)), (1, .int p1), (2, .int p2)] := hl
  have hP : va_P D vwCl (wcM ci aM zM) s.heap := hP
  generalize hH0 : s.heap = H at hP ⊢
  have hS : va_S A s.heap H [] := by rw [← hH0]; exact va_S.rf
  clear hH0
  generalize ([] : List Loc) = locs at hS ⊢
  have hk_0 := hts (.fieldLink RX7 7 "HedgeWarModel" "soil" "[I") (by decide +kernel)
  have hin_RX7 : ∀ w ∈ wsX70, w ∈ wsX7_field := by decide +kernel
  have hk_2 := hts (.fieldLink RX7 23 "HedgeWarModel" "now" "[I") (by decide +kernel)
  have hk_3 := hts (.constant RX7 96 (-1000000002)) (by decide +kernel)
  have hk_4 := hts (.constant RX7 210 (-1000000001)) (by decide +kernel)
  unfold f_X7_field at hF
  refine lv_aload_n hx hb dX7_field_0 rfl (lv_at hl 0 rfl) ?_
  refine lv_iload_n hx hb dX7_field_1 rfl (lv_at hl 1 rfl) ?_
  replace hF := bnd hF
  obtain ⟨r_1, hc_2, hF⟩ := hF
  refine cl_Vi0 (As := [.int p1]) (rest := []) ⟨hx, hb, hml, hown, hts⟩ (cwV 1 hts gX7_field_X7_isField rfl rfl rfl (by decide +kernel) ⟨Nat.le_of_ble_eq_true rfl, Nat.le_of_ble_eq_true rfl⟩) (c_X7_isField l D ci aM H.size zM p1 _ hc_2) hK hP hD hS hA 0 rfl rfl rfl rfl hl.1 (Nat.le_of_ble_eq_true rfl) dX7_field_2 (Nat.zero_le _) (Nat.zero_le _) (fun H locs hP hD hS => ?_)
  have hP : va_P D vwCl (wcM ci aM zM) H := hP
  have hD : va_D A (wcM ci aM zM) := hD
  refine lv_if_ne (tgt := 11) hx hb dX7_field_5 (by decide) (fun c_3 => ?_) (fun c_3 => ?_)
  · replace hF := if_o c_3 hF
    refine lv_iload_n hx hb dX7_field_11 rfl (lv_at hl 2 rfl) ?_
    refine lv_topi (fun k_4 ek_4 => ?_)
    replace hF := nm_i hF ek_4
    by_cases c_5 : k_4 = 0
    · replace hF := if_i c_5 hF
      subst c_5
      refine lv_tableIn (tgt := 44) hx hb dX7_field_12 (by decide) (by decide) rfl (by decide) ?_
      refine lv_aload_n hx hb dX7_field_44 rfl (lv_at hl 0 rfl) ?_
      refine va_get (D := D) (ci := 7) (v := .ref (aM 4)) (C := RX7) (T := TX7) (N := 38) hx hb hts hin_RX7 hown hK hP 0 rfl rfl 4 (by decide) hk_0 (fun _ h9 => h9) rfl dX7_field_45 ?_
      refine lv_iload_n hx hb dX7_field_48 rfl (lv_at hl 1 rfl) ?_
      replace hF := ald_i hF
      obtain ⟨hin_6, hF⟩ := hF
      refine va_iald hx hb hK hP 1 0 rfl rfl hin_6 dX7_field_49 ?_
      refine lv_topi (fun x_7 ex_7 => ?_)
      replace hF := nm_i hF ex_7
      obtain rfl := Option.some.inj hF
      exact W.iret (v := x_7) hx hb hr (fun t ht hW => ⟨⟨_, (), rfl, rfl, by rw [ht]; exact hP, va_K.moved hW.alike hK, hD⟩, hS.F ht⟩) hS.2.2 dX7_field_50
    replace hF := if_o c_5 hF
    by_cases c_8 : k_4 = 1
    · replace hF := if_i c_8 hF
      subst c_8
      refine lv_tableIn (tgt := 51) hx hb dX7_field_12 (by decide) (by decide) rfl (by decide) ?_
      refine lv_aload_n hx hb dX7_field_51 rfl (lv_at hl 0 rfl) ?_
      refine va_get (D := D) (ci := 7) (v := .ref (aM 8)) (C := RX7) (T := TX7) (N := 38) hx hb hts hin_RX7 hown hK hP 0 rfl rfl 8 (by decide) hk_2 (fun _ h9 => h9) rfl dX7_field_52 ?_
      refine lv_bipush (v := 120) hx hb dX7_field_55 (by decide) ?_
      replace hF := ald_i hF
      obtain ⟨hin_9, hF⟩ := hF
      refine va_iald hx hb hK hP 5 0 rfl rfl hin_9 dX7_field_57 ?_
      refine lv_topi (fun x_10 ex_10 => ?_)
      replace hF := nm_i hF ex_10
      refine lv_iload_n hx hb dX7_field_58 rfl (lv_at hl 1 rfl) ?_
      refine lv_ishr hx hb dX7_field_59 ?_
      refine lv_iconst (v := 1) hx hb dX7_field_60 (by decide) ?_
      refine lv_iand hx hb dX7_field_61 ?_
      obtain rfl := Option.some.inj hF
      exact W.iret (v := ((x_10 >>> (p1 &&& 31)) &&& 1)) hx hb hr (fun t ht hW => ⟨⟨_, (), rfl, rfl, by rw [ht]; exact hP, va_K.moved hW.alike hK, hD⟩, hS.F ht⟩) hS.2.2 dX7_field_62
    replace hF := if_o c_8 hF
    by_cases c_11 : k_4 = 2
    · replace hF := if_i c_11 hF
      subst c_11
      refine lv_tableIn (tgt := 63) hx hb dX7_field_12 (by decide) (by decide) rfl (by decide) ?_
      refine lv_aload_n hx hb dX7_field_63 rfl (lv_at hl 0 rfl) ?_
      refine lv_iload_n hx hb dX7_field_64 rfl (lv_at hl 1 rfl) ?_
      replace hF := bnd hF
      obtain ⟨r_12, hc_13, hF⟩ := hF
      refine cl_Vi0 (As := [.int p1]) (rest := []) ⟨hx, hb, hml, hown, hts⟩ (cwV 1 hts gX7_field_X7_landOf rfl rfl rfl (by decide +kernel) ⟨Nat.le_of_ble_eq_true rfl, Nat.le_of_ble_eq_true rfl⟩) (c_X7_landOf l D ci aM H.size zM p1 _ hc_13) hK hP hD hS hA 0 rfl rfl rfl rfl hl.1 (Nat.le_of_ble_eq_true rfl) dX7_field_65 (Nat.zero_le _) (Nat.zero_le _) (fun H locs hP hD hS => ?_)
      have hP : va_P D vwCl (wcM ci aM zM) H := hP
      have hD : va_D A (wcM ci aM zM) := hD
      replace hF := bnd hF
      obtain ⟨r_14, hc_15, hF⟩ := hF
      refine cl_Sie (As := [.int r_12]) (rest := []) ⟨hx, hb, hml, hown, hts⟩ (va_cwS 1 hts gX7_field_X7_bits rfl rfl rfl (by decide +kernel) ⟨Nat.le_of_ble_eq_true rfl, Nat.le_of_ble_eq_true rfl⟩) (c_X7_bits l D ci  H.size r_12 _ hc_15) hK hP hD hS hA rfl rfl hl.1 (Nat.le_of_ble_eq_true rfl) dX7_field_68 (Nat.zero_le _) (Nat.zero_le _) (fun H locs hP hD hS => ?_)
      have hP : va_P D vwCl (wcM ci aM zM) H := hP
      have hD : va_D A (wcM ci aM zM) := hD
      obtain rfl := Option.some.inj hF
      exact W.iret (v := r_14) hx hb hr (fun t ht hW => ⟨⟨_, (), rfl, rfl, by rw [ht]; exact hP, va_K.moved hW.alike hK, hD⟩, hS.F ht⟩) hS.2.2 dX7_field_71
    replace hF := if_o c_11 hF
    by_cases c_16 : k_4 = 3
    · replace hF := if_i c_16 hF
      subst c_16
      refine lv_tableIn (tgt := 72) hx hb dX7_field_12 (by decide) (by decide) rfl (by decide) ?_
      refine lv_aload_n hx hb dX7_field_72 rfl (lv_at hl 0 rfl) ?_
      refine lv_aload_n hx hb dX7_field_73 rfl (lv_at hl 0 rfl) ?_
      refine lv_iload_n hx hb dX7_field_74 rfl (lv_at hl 1 rfl) ?_
      replace hF := bnd hF
      obtain ⟨r_17, hc_18, hF⟩ := hF
      refine cl_Vi0 (As := [.int p1]) (rest := [.ref (aM 0)]) ⟨hx, hb, hml, hown, hts⟩ (cwV 1 hts gX7_field_X7_landOf rfl rfl rfl (by decide +kernel) ⟨Nat.le_of_ble_eq_true rfl, Nat.le_of_ble_eq_true rfl⟩) (c_X7_landOf l D ci aM H.size zM p1 _ hc_18) hK hP hD hS hA 0 rfl rfl rfl rfl hl.1 (Nat.le_of_ble_eq_true rfl) dX7_field_75 (Nat.zero_le _) (Nat.zero_le _) (fun H locs hP hD hS => ?_)
      have hP : va_P D vwCl (wcM ci aM zM) H := hP
      have hD : va_D A (wcM ci aM zM) := hD
      replace hF := bnd hF
      obtain ⟨r_19, hc_20, hF⟩ := hF
      refine cl_Vi0 (As := [.int r_17]) (rest := []) ⟨hx, hb, hml, hown, hts⟩ (cwV 1 hts gX7_field_X7_shutInBy rfl rfl rfl (by decide +kernel) ⟨Nat.le_of_ble_eq_true rfl, Nat.le_of_ble_eq_true rfl⟩) (c_X7_shutInBy l D ci aM H.size zM r_17 _ hc_20) hK hP hD hS hA 0 rfl rfl rfl rfl hl.1 (Nat.le_of_ble_eq_true rfl) dX7_field_78 (Nat.zero_le _) (Nat.zero_le _) (fun H locs hP hD hS => ?_)
      have hP : va_P D vwCl (wcM ci aM zM) H := hP
      have hD : va_D A (wcM ci aM zM) := hD
      obtain rfl := Option.some.inj hF
      exact W.iret (v := r_19) hx hb hr (fun t ht hW => ⟨⟨_, (), rfl, rfl, by rw [ht]; exact hP, va_K.moved hW.alike hK, hD⟩, hS.F ht⟩) hS.2.2 dX7_field_81
    replace hF := if_o c_16 hF
    have tc_5 := lv_neT c_5 (a := 0) (by decide)
    have tc_8 := lv_neT c_8 (a := 1) (by decide)
    have tc_11 := lv_neT c_11 (a := 2) (by decide)
    have tc_16 := lv_neT c_16 (a := 3) (by decide)
    refine lv_tableOut (tgt := 82) hx hb dX7_field_12 (by omega) (by decide) ?_
    refine lv_ldc (v := (-1000000002)) hx hb hown hk_3 dX7_field_82 ?_
    obtain rfl := Option.some.inj hF
    exact W.iret (v := (-1000000002)) hx hb hr (fun t ht hW => ⟨⟨_, (), rfl, rfl, by rw [ht]; exact hP, va_K.moved hW.alike hK, hD⟩, hS.F ht⟩) hS.2.2 dX7_field_84
  · replace hF := if_i c_3 hF
    refine lv_ldc (v := (-1000000001)) hx hb hown hk_4 dX7_field_8 ?_
    obtain rfl := Option.some.inj hF
    exact W.iret (v := (-1000000001)) hx hb hr (fun t ht hW => ⟨⟨_, (), rfl, rfl, by rw [ht]; exact hP, va_K.moved hW.alike hK, hD⟩, hS.F ht⟩) hS.2.2 dX7_field_10
noncomputable def f_X7_edge (zM : MS) (p1 : Int32) (p2 : Int32) : Option (Int32) := (f_X7_isEdge zM p1).bind fun r_1 => if r_1 = 0 then (some (-1000000001 : Int32)) else (nm p2 fun k_4 => if k_4 = 0 then (ald 40 (zM.2 5) p1 fun x_7 => some x_7) else if k_4 = 1 then (ald 40 (zM.2 6) p1 fun x_10 => some x_10) else if k_4 = 2 then (ald 122 (zM.2 8) p1 fun x_13 => some x_13) else if k_4 = 3 then (ald 122 (zM.2 8) p1 fun x_16 => if (0 : Int32) ≤ x_16 then (ald 122 (zM.2 8) (40 + p1) fun x_19 => some x_19) else (some (-1 : Int32))) else if k_4 = 4 then (ald 122 (zM.2 8) p1 fun x_22 => if (0 : Int32) ≤ x_22 then (ald 122 (zM.2 8) (40 + p1) fun x_25 => (f_X7_heightBy zM p1 x_25).bind fun r_26 => some r_26) else (some (0 : Int32))) else if k_4 = 5 then (ald 122 (zM.2 8) (80 + p1) fun x_30 => some x_30) else if k_4 = 6 then (ald 40 (zM.2 7) p1 fun x_33 => if x_33 = 0 then (some (0 : Int32)) else (some (1 : Int32))) else if k_4 = 7 then ((f_X7_isShut zM p1).bind fun r_36 => if r_36 = 0 then (some (0 : Int32)) else (some (1 : Int32))) else (some (-1000000002 : Int32)))
set_option maxHeartbeats 4000000 in
set_option maxRecDepth 100000 in
theorem c_X7_edge (l : Launch) (D : va_G) (ci : Nat → ClassId) (aM : Nat → Nat) (sz : Nat) (zM : MS) (p1 : Int32) (p2 : Int32) (res : Int32) (hF : f_X7_edge zM p1 p2 = some res) : CtI l yX7_edge wsX7_edge { frames := 3, cells := 0, slots := 0, locals := 66 } [.ref (aM 0), .int p1, .int p2] D ci (wcM ci aM zM) sz res (wcM ci aM zM) := by
  refine Met.ofW (cc := cX7_edge) (maxL := 3) (ret := (some .int)) (by decide) rfl ?_
  intro p e s m args below meth c s₁ B hml hv
  obtain ⟨rfl, hsz, hP, hK, hD0⟩ := hv
  have hx := B.exec
  have hb := B.bytes
  have hr := B.returns
  have hts := atoms_spec (ws := wsX7_edge) B.pre
  have hown : s.vm.findClass RX7 = some m.cls := findClass_of_methodNamed B.named
  have hlocks := B.notSynchronized
  subst hsz
  have hD := hD0.self (sz := s.heap.size)
  generalize hAe : va_A (wcM ci aM zM) s.heap.size = A at hD ⊢
  have hA : ∀ q : Nat, s.heap.size ≤ q → A q := fun q h => by rw [← hAe]; exact Or.inr h
  clear hD0 hAe
  have hl := lv_entry ([.ref (aM 0), .int p1, .int p2]) (n := 3) (Nat.le_of_ble_eq_true rfl)
  rw [lg_entry_eq]
  generalize (lg_sl ([.ref (aM 0), .int p1, .int p2]) ++ List.replicate (3 - (lg_sl ([.ref (aM 0), .int p1, .int p2])).length) Slot.unset).toArray = ls at hl ⊢
  have hl : lv_has ls 3 [(0, .ref (aM 0)), (1, .int p1), (2, .int p2)] := hl
  have hP : va_P D vwCl (wcM ci aM zM) s.heap := hP
  generalize hH0 : s.heap = H at hP ⊢
  have hS : va_S A s.heap H [] := by rw [← hH0]; exact va_S.rf
  clear hH0
  generalize ([] : List Loc) = locs at hS ⊢
  have hk_0 := hts (.fieldLink RX7 13 "HedgeWarModel" "edgeLow" "[I") (by decide +kernel)
  have hin_RX7 : ∀ w ∈ wsX70, w ∈ wsX7_edge := by decide +kernel
  have hk_2 := hts (.fieldLink RX7 16 "HedgeWarModel" "edgeHigh" "[I") (by decide +kernel)
  have hk_3 := hts (.fieldLink RX7 23 "HedgeWarModel" "now" "[I") (by decide +kernel)
  have hk_4 := hts (.fieldLink RX7 19 "HedgeWarModel" "path" "[Z") (by decide +kernel)
  have hk_5 := hts (.constant RX7 96 (-1000000002)) (by decide +kernel)
  have hk_6 := hts (.constant RX7 210 (-1000000001)) (by decide +kernel)
  unfold f_X7_edge at hF
  refine lv_aload_n hx hb dX7_edge_0 rfl (lv_at hl 0 rfl) ?_
  refine lv_iload_n hx hb dX7_edge_1 rfl (lv_at hl 1 rfl) ?_
  replace hF := bnd hF
  obtain ⟨r_1, hc_2, hF⟩ := hF
  refine cl_Vi0 (As := [.int p1]) (rest := []) ⟨hx, hb, hml, hown, hts⟩ (cwV 1 hts gX7_edge_X7_isEdge rfl rfl rfl (by decide +kernel) ⟨Nat.le_of_ble_eq_true rfl, Nat.le_of_ble_eq_true rfl⟩) (c_X7_isEdge l D ci aM H.size zM p1 _ hc_2) hK hP hD hS hA 0 rfl rfl rfl rfl hl.1 (Nat.le_of_ble_eq_true rfl) dX7_edge_2 (Nat.zero_le _) (Nat.zero_le _) (fun H locs hP hD hS => ?_)
  have hP : va_P D vwCl (wcM ci aM zM) H := hP
  have hD : va_D A (wcM ci aM zM) := hD
  refine lv_if_ne (tgt := 11) hx hb dX7_edge_5 (by decide) (fun c_3 => ?_) (fun c_3 => ?_)
  · replace hF := if_o c_3 hF
    refine lv_iload_n hx hb dX7_edge_11 rfl (lv_at hl 2 rfl) ?_
    refine lv_topi (fun k_4 ek_4 => ?_)
    replace hF := nm_i hF ek_4
    by_cases c_5 : k_4 = 0
    · replace hF := if_i c_5 hF
      subst c_5
      refine lv_tableIn (tgt := 60) hx hb dX7_edge_12 (by decide) (by decide) rfl (by decide) ?_
      refine lv_aload_n hx hb dX7_edge_60 rfl (lv_at hl 0 rfl) ?_
      refine va_get (D := D) (ci := 7) (v := .ref (aM 5)) (C := RX7) (T := TX7) (N := 38) hx hb hts hin_RX7 hown hK hP 0 rfl rfl 5 (by decide) hk_0 (fun _ h9 => h9) rfl dX7_edge_61 ?_
      refine lv_iload_n hx hb dX7_edge_64 rfl (lv_at hl 1 rfl) ?_
      replace hF := ald_i hF
      obtain ⟨hin_6, hF⟩ := hF
      refine va_iald hx hb hK hP 2 0 rfl rfl hin_6 dX7_edge_65 ?_
      refine lv_topi (fun x_7 ex_7 => ?_)
      replace hF := nm_i hF ex_7
      obtain rfl := Option.some.inj hF
      exact W.iret (v := x_7) hx hb hr (fun t ht hW => ⟨⟨_, (), rfl, rfl, by rw [ht]; exact hP, va_K.moved hW.alike hK, hD⟩, hS.F ht⟩) hS.2.2 dX7_edge_66
    replace hF := if_o c_5 hF
    by_cases c_8 : k_4 = 1
    · replace hF := if_i c_8 hF
      subst c_8
      refine lv_tableIn (tgt := 67) hx hb dX7_edge_12 (by decide) (by decide) rfl (by decide) ?_
      refine lv_aload_n hx hb dX7_edge_67 rfl (lv_at hl 0 rfl) ?_
      refine va_get (D := D) (ci := 7) (v := .ref (aM 6)) (C := RX7) (T := TX7) (N := 38) hx hb hts hin_RX7 hown hK hP 0 rfl rfl 6 (by decide) hk_2 (fun _ h9 => h9) rfl dX7_edge_68 ?_
      refine lv_iload_n hx hb dX7_edge_71 rfl (lv_at hl 1 rfl) ?_
      replace hF := ald_i hF
      obtain ⟨hin_9, hF⟩ := hF
      refine va_iald hx hb hK hP 3 0 rfl rfl hin_9 dX7_edge_72 ?_
      refine lv_topi (fun x_10 ex_10 => ?_)
      replace hF := nm_i hF ex_10
      obtain rfl := Option.some.inj hF
      exact W.iret (v := x_10) hx hb hr (fun t ht hW => ⟨⟨_, (), rfl, rfl, by rw [ht]; exact hP, va_K.moved hW.alike hK, hD⟩, hS.F ht⟩) hS.2.2 dX7_edge_73
    replace hF := if_o c_8 hF
    by_cases c_11 : k_4 = 2
    · replace hF := if_i c_11 hF
      subst c_11
      refine lv_tableIn (tgt := 74) hx hb dX7_edge_12 (by decide) (by decide) rfl (by decide) ?_
      refine lv_aload_n hx hb dX7_edge_74 rfl (lv_at hl 0 rfl) ?_
      refine va_get (D := D) (ci := 7) (v := .ref (aM 8)) (C := RX7) (T := TX7) (N := 38) hx hb hts hin_RX7 hown hK hP 0 rfl rfl 8 (by decide) hk_3 (fun _ h9 => h9) rfl dX7_edge_75 ?_
      refine lv_iload_n hx hb dX7_edge_78 rfl (lv_at hl 1 rfl) ?_
      replace hF := ald_i hF
      obtain ⟨hin_12, hF⟩ := hF
      refine va_iald hx hb hK hP 5 0 rfl rfl hin_12 dX7_edge_79 ?_
      refine lv_topi (fun x_13 ex_13 => ?_)
      replace hF := nm_i hF ex_13
      obtain rfl := Option.some.inj hF
      exact W.iret (v := x_13) hx hb hr (fun t ht hW => ⟨⟨_, (), rfl, rfl, by rw [ht]; exact hP, va_K.moved hW.alike hK, hD⟩, hS.F ht⟩) hS.2.2 dX7_edge_80
    replace hF := if_o c_11 hF
    by_cases c_14 : k_4 = 3
    · replace hF := if_i c_14 hF
      subst c_14
      refine lv_tableIn (tgt := 81) hx hb dX7_edge_12 (by decide) (by decide) rfl (by decide) ?_
      refine lv_aload_n hx hb dX7_edge_81 rfl (lv_at hl 0 rfl) ?_
      refine va_get (D := D) (ci := 7) (v := .ref (aM 8)) (C := RX7) (T := TX7) (N := 38) hx hb hts hin_RX7 hown hK hP 0 rfl rfl 8 (by decide) hk_3 (fun _ h9 => h9) rfl dX7_edge_82 ?_
      refine lv_iload_n hx hb dX7_edge_85 rfl (lv_at hl 1 rfl) ?_
      replace hF := ald_i hF
      obtain ⟨hin_15, hF⟩ := hF
      refine va_iald hx hb hK hP 5 0 rfl rfl hin_15 dX7_edge_86 ?_
      refine lv_topi (fun x_16 ex_16 => ?_)
      replace hF := nm_i hF ex_16
      refine lv_if_ge (tgt := 94) hx hb dX7_edge_87 (by decide) (fun c_17 => ?_) (fun c_17 => ?_)
      · replace hF := if_i c_17 hF
        refine lv_aload_n hx hb dX7_edge_94 rfl (lv_at hl 0 rfl) ?_
        refine va_get (D := D) (ci := 7) (v := .ref (aM 8)) (C := RX7) (T := TX7) (N := 38) hx hb hts hin_RX7 hown hK hP 0 rfl rfl 8 (by decide) hk_3 (fun _ h9 => h9) rfl dX7_edge_95 ?_
        refine lv_bipush (v := 40) hx hb dX7_edge_98 (by decide) ?_
        refine lv_iload_n hx hb dX7_edge_100 rfl (lv_at hl 1 rfl) ?_
        refine lv_iadd hx hb dX7_edge_101 ?_
        replace hF := ald_i hF
        obtain ⟨hin_18, hF⟩ := hF
        refine va_iald hx hb hK hP 5 0 rfl rfl hin_18 dX7_edge_102 ?_
        refine lv_topi (fun x_19 ex_19 => ?_)
        replace hF := nm_i hF ex_19
        obtain rfl := Option.some.inj hF
        exact W.iret (v := x_19) hx hb hr (fun t ht hW => ⟨⟨_, (), rfl, rfl, by rw [ht]; exact hP, va_K.moved hW.alike hK, hD⟩, hS.F ht⟩) hS.2.2 dX7_edge_103
      · replace hF := if_o c_17 hF
        refine lv_iconst (v := (-1)) hx hb dX7_edge_90 (by decide) ?_
        refine lv_goto (tgt := 103) hx hb dX7_edge_91 (by decide) ?_
        obtain rfl := Option.some.inj hF
        exact W.iret (v := (-1)) hx hb hr (fun t ht hW => ⟨⟨_, (), rfl, rfl, by rw [ht]; exact hP, va_K.moved hW.alike hK, hD⟩, hS.F ht⟩) hS.2.2 dX7_edge_103
    replace hF := if_o c_14 hF
    by_cases c_20 : k_4 = 4
    · replace hF := if_i c_20 hF
      subst c_20
      refine lv_tableIn (tgt := 104) hx hb dX7_edge_12 (by decide) (by decide) rfl (by decide) ?_
      refine lv_aload_n hx hb dX7_edge_104 rfl (lv_at hl 0 rfl) ?_
      refine va_get (D := D) (ci := 7) (v := .ref (aM 8)) (C := RX7) (T := TX7) (N := 38) hx hb hts hin_RX7 hown hK hP 0 rfl rfl 8 (by decide) hk_3 (fun _ h9 => h9) rfl dX7_edge_105 ?_
      refine lv_iload_n hx hb dX7_edge_108 rfl (lv_at hl 1 rfl) ?_
      replace hF := ald_i hF
      obtain ⟨hin_21, hF⟩ := hF
      refine va_iald hx hb hK hP 5 0 rfl rfl hin_21 dX7_edge_109 ?_
      refine lv_topi (fun x_22 ex_22 => ?_)
      replace hF := nm_i hF ex_22
      refine lv_if_ge (tgt := 117) hx hb dX7_edge_110 (by decide) (fun c_23 => ?_) (fun c_23 => ?_)
      · replace hF := if_i c_23 hF
        refine lv_aload_n hx hb dX7_edge_117 rfl (lv_at hl 0 rfl) ?_
        refine lv_iload_n hx hb dX7_edge_118 rfl (lv_at hl 1 rfl) ?_
        refine lv_aload_n hx hb dX7_edge_119 rfl (lv_at hl 0 rfl) ?_
        refine va_get (D := D) (ci := 7) (v := .ref (aM 8)) (C := RX7) (T := TX7) (N := 38) hx hb hts hin_RX7 hown hK hP 0 rfl rfl 8 (by decide) hk_3 (fun _ h9 => h9) rfl dX7_edge_120 ?_
        refine lv_bipush (v := 40) hx hb dX7_edge_123 (by decide) ?_
        refine lv_iload_n hx hb dX7_edge_125 rfl (lv_at hl 1 rfl) ?_
        refine lv_iadd hx hb dX7_edge_126 ?_
        replace hF := ald_i hF
        obtain ⟨hin_24, hF⟩ := hF
        refine va_iald hx hb hK hP 5 0 rfl rfl hin_24 dX7_edge_127 ?_
        refine lv_topi (fun x_25 ex_25 => ?_)
        replace hF := nm_i hF ex_25
        replace hF := bnd hF
        obtain ⟨r_26, hc_27, hF⟩ := hF
        refine cl_Vi0 (As := [.int p1, .int x_25]) (rest := []) ⟨hx, hb, hml, hown, hts⟩ (cwV 2 hts gX7_edge_X7_heightBy rfl rfl rfl (by decide +kernel) ⟨Nat.le_of_ble_eq_true rfl, Nat.le_of_ble_eq_true rfl⟩) (c_X7_heightBy l D ci aM H.size zM p1 x_25 _ hc_27) hK hP hD hS hA 0 rfl rfl rfl rfl hl.1 (Nat.le_of_ble_eq_true rfl) dX7_edge_128 (Nat.zero_le _) (Nat.zero_le _) (fun H locs hP hD hS => ?_)
        have hP : va_P D vwCl (wcM ci aM zM) H := hP
        have hD : va_D A (wcM ci aM zM) := hD
        obtain rfl := Option.some.inj hF
        exact W.iret (v := r_26) hx hb hr (fun t ht hW => ⟨⟨_, (), rfl, rfl, by rw [ht]; exact hP, va_K.moved hW.alike hK, hD⟩, hS.F ht⟩) hS.2.2 dX7_edge_131
      · replace hF := if_o c_23 hF
        refine lv_iconst (v := 0) hx hb dX7_edge_113 (by decide) ?_
        refine lv_goto (tgt := 131) hx hb dX7_edge_114 (by decide) ?_
        obtain rfl := Option.some.inj hF
        exact W.iret (v := 0) hx hb hr (fun t ht hW => ⟨⟨_, (), rfl, rfl, by rw [ht]; exact hP, va_K.moved hW.alike hK, hD⟩, hS.F ht⟩) hS.2.2 dX7_edge_131
    replace hF := if_o c_20 hF
    by_cases c_28 : k_4 = 5
    · replace hF := if_i c_28 hF
      subst c_28
      refine lv_tableIn (tgt := 132) hx hb dX7_edge_12 (by decide) (by decide) rfl (by decide) ?_
      refine lv_aload_n hx hb dX7_edge_132 rfl (lv_at hl 0 rfl) ?_
      refine va_get (D := D) (ci := 7) (v := .ref (aM 8)) (C := RX7) (T := TX7) (N := 38) hx hb hts hin_RX7 hown hK hP 0 rfl rfl 8 (by decide) hk_3 (fun _ h9 => h9) rfl dX7_edge_133 ?_
      refine lv_bipush (v := 80) hx hb dX7_edge_136 (by decide) ?_
      refine lv_iload_n hx hb dX7_edge_138 rfl (lv_at hl 1 rfl) ?_
      refine lv_iadd hx hb dX7_edge_139 ?_
      replace hF := ald_i hF
      obtain ⟨hin_29, hF⟩ := hF
      refine va_iald hx hb hK hP 5 0 rfl rfl hin_29 dX7_edge_140 ?_
      refine lv_topi (fun x_30 ex_30 => ?_)
      replace hF := nm_i hF ex_30
      obtain rfl := Option.some.inj hF
      exact W.iret (v := x_30) hx hb hr (fun t ht hW => ⟨⟨_, (), rfl, rfl, by rw [ht]; exact hP, va_K.moved hW.alike hK, hD⟩, hS.F ht⟩) hS.2.2 dX7_edge_141
    replace hF := if_o c_28 hF
    by_cases c_31 : k_4 = 6
    · replace hF := if_i c_31 hF
      subst c_31
      refine lv_tableIn (tgt := 142) hx hb dX7_edge_12 (by decide) (by decide) rfl (by decide) ?_
      refine lv_aload_n hx hb dX7_edge_142 rfl (lv_at hl 0 rfl) ?_
      refine va_get (D := D) (ci := 7) (v := .ref (aM 7)) (C := RX7) (T := TX7) (N := 38) hx hb hts hin_RX7 hown hK hP 0 rfl rfl 7 (by decide) hk_4 (fun _ h9 => h9) rfl dX7_edge_143 ?_
      refine lv_iload_n hx hb dX7_edge_146 rfl (lv_at hl 1 rfl) ?_
      replace hF := ald_i hF
      obtain ⟨hin_32, hF⟩ := hF
      refine va_zald hx hb hK hP 4 2 rfl rfl hin_32 dX7_edge_147 ?_
      refine lv_topi (fun x_33 ex_33 => ?_)
      replace hF := nm_i hF ex_33
      refine lv_if_eq (tgt := 155) hx hb dX7_edge_148 (by decide) (fun c_34 => ?_) (fun c_34 => ?_)
      · replace hF := if_i c_34 hF
        refine lv_iconst (v := 0) hx hb dX7_edge_155 (by decide) ?_
        obtain rfl := Option.some.inj hF
        exact W.iret (v := 0) hx hb hr (fun t ht hW => ⟨⟨_, (), rfl, rfl, by rw [ht]; exact hP, va_K.moved hW.alike hK, hD⟩, hS.F ht⟩) hS.2.2 dX7_edge_156
      · replace hF := if_o c_34 hF
        refine lv_iconst (v := 1) hx hb dX7_edge_151 (by decide) ?_
        refine lv_goto (tgt := 156) hx hb dX7_edge_152 (by decide) ?_
        obtain rfl := Option.some.inj hF
        exact W.iret (v := 1) hx hb hr (fun t ht hW => ⟨⟨_, (), rfl, rfl, by rw [ht]; exact hP, va_K.moved hW.alike hK, hD⟩, hS.F ht⟩) hS.2.2 dX7_edge_156
    replace hF := if_o c_31 hF
    by_cases c_35 : k_4 = 7
    · replace hF := if_i c_35 hF
      subst c_35
      refine lv_tableIn (tgt := 157) hx hb dX7_edge_12 (by decide) (by decide) rfl (by decide) ?_
      refine lv_aload_n hx hb dX7_edge_157 rfl (lv_at hl 0 rfl) ?_
      refine lv_iload_n hx hb dX7_edge_158 rfl (lv_at hl 1 rfl) ?_
      replace hF := bnd hF
      obtain ⟨r_36, hc_37, hF⟩ := hF
      refine cl_Vi0 (As := [.int p1]) (rest := []) ⟨hx, hb, hml, hown, hts⟩ (cwV 1 hts gX7_edge_X7_isShut rfl rfl rfl (by decide +kernel) ⟨Nat.le_of_ble_eq_true rfl, Nat.le_of_ble_eq_true rfl⟩) (c_X7_isShut l D ci aM H.size zM p1 _ hc_37) hK hP hD hS hA 0 rfl rfl rfl rfl hl.1 (Nat.le_of_ble_eq_true rfl) dX7_edge_159 (Nat.zero_le _) (Nat.zero_le _) (fun H locs hP hD hS => ?_)
      have hP : va_P D vwCl (wcM ci aM zM) H := hP
      have hD : va_D A (wcM ci aM zM) := hD
      refine lv_if_eq (tgt := 169) hx hb dX7_edge_162 (by decide) (fun c_38 => ?_) (fun c_38 => ?_)
      · replace hF := if_i c_38 hF
        refine lv_iconst (v := 0) hx hb dX7_edge_169 (by decide) ?_
        obtain rfl := Option.some.inj hF
        exact W.iret (v := 0) hx hb hr (fun t ht hW => ⟨⟨_, (), rfl, rfl, by rw [ht]; exact hP, va_K.moved hW.alike hK, hD⟩, hS.F ht⟩) hS.2.2 dX7_edge_170
      · replace hF := if_o c_38 hF
        refine lv_iconst (v := 1) hx hb dX7_edge_165 (by decide) ?_
        refine lv_goto (tgt := 170) hx hb dX7_edge_166 (by decide) ?_
        obtain rfl := Option.some.inj hF
        exact W.iret (v := 1) hx hb hr (fun t ht hW => ⟨⟨_, (), rfl, rfl, by rw [ht]; exact hP, va_K.moved hW.alike hK, hD⟩, hS.F ht⟩) hS.2.2 dX7_edge_170
    replace hF := if_o c_35 hF
    have tc_5 := lv_neT c_5 (a := 0) (by decide)
    have tc_8 := lv_neT c_8 (a := 1) (by decide)
    have tc_11 := lv_neT c_11 (a := 2) (by decide)
    have tc_14 := lv_neT c_14 (a := 3) (by decide)
    have tc_20 := lv_neT c_20 (a := 4) (by decide)
    have tc_28 := lv_neT c_28 (a := 5) (by decide)
    have tc_31 := lv_neT c_31 (a := 6) (by decide)
    have tc_35 := lv_neT c_35 (a := 7) (by decide)
    refine lv_tableOut (tgt := 171) hx hb dX7_edge_12 (by omega) (by decide) ?_
    refine lv_ldc (v := (-1000000002)) hx hb hown hk_5 dX7_edge_171 ?_
    obtain rfl := Option.some.inj hF
    exact W.iret (v := (-1000000002)) hx hb hr (fun t ht hW => ⟨⟨_, (), rfl, rfl, by rw [ht]; exact hP, va_K.moved hW.alike hK, hD⟩, hS.F ht⟩) hS.2.2 dX7_edge_173
  · replace hF := if_i c_3 hF
    refine lv_ldc (v := (-1000000001)) hx hb hown hk_6 dX7_edge_8 ?_
    obtain rfl := Option.some.inj hF
    exact W.iret (v := (-1000000001)) hx hb hr (fun t ht hW => ⟨⟨_, (), rfl, rfl, by rw [ht]; exact hP, va_K.moved hW.alike hK, hD⟩, hS.F ht⟩) hS.2.2 dX7_edge_10
noncomputable def L_X7_remember_12 : Nat → Int32 → MS → Option (Int32 × MS)
  | 0, _, _ => none
  | n + 1, v1_5, zM_6 => if (2440 : Int32) ≤ v1_5 then (some (v1_5, zM_6)) else (ald 2440 (zM_6.2 23) v1_5 fun x_15 => ast 2440 (v1_5 - 122) <| nm ((zM_6.1, va_up zM_6.2 23 (upd (zM_6.2 23) (Int32.toNatClampNeg (v1_5 - 122)) x_15)) : MS) fun zM_17 => nm (v1_5 + 1) fun v1_18 => L_X7_remember_12 n v1_18 zM_17)
noncomputable def L_X7_remember_52 : Nat → Int32 → MS → Option (Int32 × MS)
  | 0, _, _ => none
  | n + 1, v1_25, zM_26 => if (122 : Int32) ≤ v1_25 then (some (v1_25, zM_26)) else (ald 122 (zM_26.2 8) v1_25 fun x_35 => ast 2440 ((122 * (zM_26.1 22)) + v1_25) <| nm ((zM_26.1, va_up zM_26.2 23 (upd (zM_26.2 23) (Int32.toNatClampNeg ((122 * (zM_26.1 22)) + v1_25)) x_35)) : MS) fun zM_37 => nm (v1_25 + 1) fun v1_38 => L_X7_remember_52 n v1_38 zM_37)
noncomputable def f_X7_remember (zM : MS) : Option (MS) := (if (zM.1 22) = 20 then (nm (122 : Int32) fun v1_4 => (L_X7_remember_12 3000 v1_4 zM).bind fun q_22 => nm q_22.1 fun v1_9 => nm q_22.2 fun zM_10 => nm ((zM_10.1 22) - 1) fun f22_20 => nm ((upd zM_10.1 22 f22_20, zM_10.2) : MS) fun zM_21 => some (zM_21 : MS)) else (some (zM : MS))).bind fun zM_1 => nm (0 : Int32) fun v1_24 => (L_X7_remember_52 3000 v1_24 zM_1).bind fun q_42 => nm q_42.1 fun v1_29 => nm q_42.2 fun zM_30 => nm ((zM_30.1 22) + 1) fun f22_40 => nm ((upd zM_30.1 22 f22_40, zM_30.2) : MS) fun zM_41 => some zM_41
set_option maxHeartbeats 4000000 in
set_option maxRecDepth 100000 in
theorem c_X7_remember (l : Launch) (D : va_G) (ci : Nat → ClassId) (aM : Nat → Nat) (sz : Nat) (zM : MS) (res : MS) (hF : f_X7_remember zM = some res) : CtV l yX7_remember wsX7_remember { frames := 0, cells := 0, slots := 0, locals := 0 } [.ref (aM 0)] D ci (wcM ci aM zM) sz (wcM ci aM res) := by
  refine Met.ofW (cc := cX7_remember) (maxL := 2) (ret := none) (by decide) rfl ?_
  intro p e s m args below meth c s₁ B hml hv
  obtain ⟨rfl, hsz, hP, hK, hD0⟩ := hv
  have hx := B.exec
  have hb := B.bytes
  have hr := B.returns
  have hts := atoms_spec (ws := wsX7_remember) B.pre
  have hown : s.vm.findClass RX7 = some m.cls := findClass_of_methodNamed B.named
  have hlocks := B.notSynchronized
  subst hsz
  have hD := hD0.self (sz := s.heap.size)
  generalize hAe : va_A (wcM ci aM zM) s.heap.size = A at hD ⊢
  have hA : ∀ q : Nat, s.heap.size ≤ q → A q := fun q h => by rw [← hAe]; exact Or.inr h
  clear hD0 hAe
  have hl := lv_entry ([.ref (aM 0)]) (n := 2) (Nat.le_of_ble_eq_true rfl)
  rw [lg_entry_eq]
  generalize (lg_sl ([.ref (aM 0)]) ++ List.replicate (2 - (lg_sl ([.ref (aM 0)])).length) Slot.unset).toArray = ls at hl ⊢
  have hl : lv_has ls 2 [(0, .ref (aM 0))] := hl
  have hP : va_P D vwCl (wcM ci aM zM) s.heap := hP
  generalize hH0 : s.heap = H at hP ⊢
  have hS : va_S A s.heap H [] := by rw [← hH0]; exact va_S.rf
  clear hH0
  generalize ([] : List Loc) = locs at hS ⊢
  have hk_0 := hts (.fieldLink RX7 181 "HedgeWarModel" "undos" "I") (by decide +kernel)
  have hin_RX7 : ∀ w ∈ wsX70, w ∈ wsX7_remember := by decide +kernel
  have hk_2 := hts (.fieldLink RX7 48 "HedgeWarModel" "past" "[I") (by decide +kernel)
  have hk_3 := hts (.fieldLink RX7 23 "HedgeWarModel" "now" "[I") (by decide +kernel)
  unfold f_X7_remember at hF
  refine lv_aload_n hx hb dX7_remember_0 rfl (lv_at hl 0 rfl) ?_
  refine va_get (D := D) (ci := 7) (v := .int (zM.1 22)) (C := RX7) (T := TX7) (N := 38) hx hb hts hin_RX7 hown hK hP 0 rfl rfl 22 (by decide) hk_0 (fun _ h9 => h9) rfl dX7_remember_1 ?_
  refine lv_bipush (v := 20) hx hb dX7_remember_4 (by decide) ?_
  replace hF := bnd hF
  obtain ⟨zM_1, hv_23, hF⟩ := hF
  refine jn (P := fun H locs ls => va_P D vwCl (wcM ci aM zM_1) H ∧ va_D A (wcM ci aM zM_1) ∧ va_S A s.heap H locs ∧ lv_has ls 2 [(0, .ref (aM 0))]) (pcJ := 50) (st := []) ?_ ?_
  · intro H locs ls hJ
    obtain ⟨hP, hD, hS, hl⟩ := hJ
    refine lv_iconst (v := 0) hx hb dX7_remember_50 (by decide) ?_
    refine lv_topi (fun v1_24 ev1_24 => ?_)
    replace hF := nm_i hF ev1_24
    refine lv_istore_n (lv' := [(1, .int v1_24), (0, .ref (aM 0))]) hx hb dX7_remember_51 rfl hl (by decide) rfl (fun ls hl => ?_)
    replace hF := bnd hF
    obtain ⟨q_42, hv_39, hF⟩ := hF
    obtain ⟨v1_29, ev1_29⟩ : ∃ y : Int32, y = q_42.1 := ⟨_, rfl⟩
    replace hF := nm_i hF ev1_29
    obtain ⟨zM_30, ezM_30⟩ : ∃ y : MS, y = q_42.2 := ⟨_, rfl⟩
    replace hF := nm_i hF ezM_30
    obtain rfl : q_42 = (v1_29, zM_30) := by rw [ev1_29, ezM_30]
    clear ev1_29
    clear ezM_30
    refine jn (P := fun H locs ls => va_P D vwCl (wcM ci aM zM_30) H ∧ va_D A (wcM ci aM zM_30) ∧ va_S A s.heap H locs ∧ lv_has ls 2 [(0, .ref (aM 0)), (1, .int v1_29)]) (pcJ := 84) (st := []) ?_ ?_
    · intro H locs ls hJ
      obtain ⟨hP, hD, hS, hl⟩ := hJ
      refine lv_aload_n hx hb dX7_remember_84 rfl (lv_at hl 0 rfl) ?_
      refine lv_dup hx hb dX7_remember_85 rfl ?_
      refine va_get (D := D) (ci := 7) (v := .int (zM_30.1 22)) (C := RX7) (T := TX7) (N := 38) hx hb hts hin_RX7 hown hK hP 0 rfl rfl 22 (by decide) hk_0 (fun _ h9 => h9) rfl dX7_remember_86 ?_
      refine lv_iconst (v := 1) hx hb dX7_remember_89 (by decide) ?_
      refine lv_iadd hx hb dX7_remember_90 ?_
      refine lv_topi (fun f22_40 ef22_40 => ?_)
      replace hF := nm_i hF ef22_40
      refine va_put (D := D) (ci := 7) (v := .int f22_40) (ty := .int) (C := RX7) (T := TX7) (N := 38) hx hb hts hin_RX7 tyX7 tyX7_ok nmX7 hown hK hP hD hS 0 rfl rfl 22 (by decide) hk_0 (fun _ h9 => h9) rfl (by decide +kernel) rfl rfl (Nat.le_of_ble_eq_true rfl) dX7_remember_91 (fun H locs hP hD hS => ?_)
      obtain ⟨zM_41, ezM_41⟩ : ∃ y : MS, y = (upd zM_30.1 22 f22_40, zM_30.2) := ⟨_, rfl⟩
      replace hF := nm_i hF ezM_41
      have hP : va_P D vwCl (wcM ci aM zM_41) H := by rw [ezM_41]; exact hP
      have hD : va_D A (wcM ci aM zM_41) := by rw [ezM_41]; exact hD
      obtain rfl := Option.some.inj hF
      exact W.vret hx hb hr (fun t ht hW => ⟨⟨(), rfl, trivial, by rw [ht]; exact hP, va_K.moved hW.alike hK, hD⟩, hS.F ht⟩) hS.2.2 dX7_remember_94
    · intro J_28
      clear hF
      have hF := hv_39
      refine lpW (σ := Int32 × MS) (I := fun n v H locs ls => L_X7_remember_52 n v.1 v.2 = some (v1_29, zM_30) ∧ va_P D vwCl (wcM ci aM v.2) H ∧ va_D A (wcM ci aM v.2) ∧ va_S A s.heap H locs ∧ lv_has ls 2 [(0, .ref (aM 0)), (1, .int v.1)]) 3000 (v1_24, zM_1) (fun _ _ _ _ h => no_none h.1) ⟨hF, hP, hD, hS, lv_sub hl [1, 0] rfl⟩ ?_
      clear hF hP hD hS hl
      intro n ih_27 vq H locs ls hI
      obtain ⟨v1_25, zM_26⟩ := vq
      obtain ⟨hF, hP, hD, hS, hl⟩ := hI
      have hP : va_P D vwCl (wcM ci aM zM_26) H := hP
      have hD : va_D A (wcM ci aM zM_26) := hD
      have hl : lv_has ls 2 [(0, .ref (aM 0)), (1, .int v1_25)] := hl
      replace hF : L_X7_remember_52 (n + 1) v1_25 zM_26 = some (v1_29, zM_30) := hF
      rw [L_X7_remember_52] at hF
      refine lv_iload_n hx hb dX7_remember_52 rfl (lv_at hl 1 rfl) ?_
      refine lv_bipush (v := 122) hx hb dX7_remember_53 (by decide) ?_
      refine lv_icmp_ge (tgt := 84) hx hb dX7_remember_55 (by decide) (fun c_31 => ?_) (fun c_31 => ?_)
      · replace hF := if_i c_31 hF
        obtain ⟨g_32, g_33⟩ : v1_25 = v1_29 ∧ zM_26 = zM_30 := by have h9 := Option.some.inj hF; simpa only [Prod.mk.injEq] using h9
        subst g_32
        subst g_33
        exact J_28 H locs ls ⟨hP, hD, hS, lv_sub hl [0, 1] rfl⟩
      · replace hF := if_o c_31 hF
        refine lv_aload_n hx hb dX7_remember_58 rfl (lv_at hl 0 rfl) ?_
        refine va_get (D := D) (ci := 7) (v := .ref (aM 23)) (C := RX7) (T := TX7) (N := 38) hx hb hts hin_RX7 hown hK hP 0 rfl rfl 23 (by decide) hk_2 (fun _ h9 => h9) rfl dX7_remember_59 ?_
        refine lv_bipush (v := 122) hx hb dX7_remember_62 (by decide) ?_
        refine lv_aload_n hx hb dX7_remember_64 rfl (lv_at hl 0 rfl) ?_
        refine va_get (D := D) (ci := 7) (v := .int (zM_26.1 22)) (C := RX7) (T := TX7) (N := 38) hx hb hts hin_RX7 hown hK hP 0 rfl rfl 22 (by decide) hk_0 (fun _ h9 => h9) rfl dX7_remember_65 ?_
        refine lv_imul hx hb dX7_remember_68 ?_
        refine lv_iload_n hx hb dX7_remember_69 rfl (lv_at hl 1 rfl) ?_
        refine lv_iadd hx hb dX7_remember_70 ?_
        refine lv_aload_n hx hb dX7_remember_71 rfl (lv_at hl 0 rfl) ?_
        refine va_get (D := D) (ci := 7) (v := .ref (aM 8)) (C := RX7) (T := TX7) (N := 38) hx hb hts hin_RX7 hown hK hP 0 rfl rfl 8 (by decide) hk_3 (fun _ h9 => h9) rfl dX7_remember_72 ?_
        refine lv_iload_n hx hb dX7_remember_75 rfl (lv_at hl 1 rfl) ?_
        replace hF := ald_i hF
        obtain ⟨hin_34, hF⟩ := hF
        refine va_iald hx hb hK hP 5 0 rfl rfl hin_34 dX7_remember_76 ?_
        refine lv_topi (fun x_35 ex_35 => ?_)
        replace hF := nm_i hF ex_35
        replace hF := ast_i hF
        obtain ⟨hin_36, hF⟩ := hF
        refine va_iast (x := x_35) hx hb hK hP hD hS 12 0 rfl rfl hin_36 dX7_remember_77 (fun H locs hP hD hS => ?_)
        obtain ⟨zM_37, ezM_37⟩ : ∃ y : MS, y = (zM_26.1, va_up zM_26.2 23 (upd (zM_26.2 23) (Int32.toNatClampNeg ((122 * (zM_26.1 22)) + v1_25)) x_35)) := ⟨_, rfl⟩
        replace hF := nm_i hF ezM_37
        have hP : va_P D vwCl (wcM ci aM zM_37) H := by rw [ezM_37]; exact hP
        have hD : va_D A (wcM ci aM zM_37) := by rw [ezM_37]; exact hD
        obtain ⟨v1_38, ev1_38⟩ : ∃ y : Int32, y = v1_25 + 1 := ⟨_, rfl⟩
        replace hF := nm_i hF ev1_38
        refine lv_iinc (v := v1_38) (lv' := [(1, .int v1_38), (0, .ref (aM 0))]) hx hb dX7_remember_78 hl (k := 1) rfl (by rw [ev1_38]; rfl) (by decide) rfl (fun ls hl => ?_)
        refine lv_goto (tgt := 52) hx hb dX7_remember_81 (by decide) ?_
        exact ih_27 (v1_38, zM_37) H locs ls ⟨hF, hP, hD, hS, lv_sub hl [1, 0] rfl⟩
  · intro J_2
    clear hF
    have hF := hv_23
    refine lv_icmp_ne (tgt := 50) hx hb dX7_remember_6 (by decide) (fun c_3 => ?_) (fun c_3 => ?_)
    · replace hF := if_o c_3 hF
      obtain rfl := Option.some.inj hF
      exact J_2 H locs ls ⟨hP, hD, hS, lv_sub hl [0] rfl⟩
    · replace hF := if_i c_3 hF
      refine lv_bipush (v := 122) hx hb dX7_remember_9 (by decide) ?_
      refine lv_topi (fun v1_4 ev1_4 => ?_)
      replace hF := nm_i hF ev1_4
      refine lv_istore_n (lv' := [(1, .int v1_4), (0, .ref (aM 0))]) hx hb dX7_remember_11 rfl hl (by decide) rfl (fun ls hl => ?_)
      replace hF := bnd hF
      obtain ⟨q_22, hv_19, hF⟩ := hF
      obtain ⟨v1_9, ev1_9⟩ : ∃ y : Int32, y = q_22.1 := ⟨_, rfl⟩
      replace hF := nm_i hF ev1_9
      obtain ⟨zM_10, ezM_10⟩ : ∃ y : MS, y = q_22.2 := ⟨_, rfl⟩
      replace hF := nm_i hF ezM_10
      obtain rfl : q_22 = (v1_9, zM_10) := by rw [ev1_9, ezM_10]
      clear ev1_9
      clear ezM_10
      refine jn (P := fun H locs ls => va_P D vwCl (wcM ci aM zM_10) H ∧ va_D A (wcM ci aM zM_10) ∧ va_S A s.heap H locs ∧ lv_has ls 2 [(0, .ref (aM 0)), (1, .int v1_9)]) (pcJ := 40) (st := []) ?_ ?_
      · intro H locs ls hJ
        obtain ⟨hP, hD, hS, hl⟩ := hJ
        refine lv_aload_n hx hb dX7_remember_40 rfl (lv_at hl 0 rfl) ?_
        refine lv_dup hx hb dX7_remember_41 rfl ?_
        refine va_get (D := D) (ci := 7) (v := .int (zM_10.1 22)) (C := RX7) (T := TX7) (N := 38) hx hb hts hin_RX7 hown hK hP 0 rfl rfl 22 (by decide) hk_0 (fun _ h9 => h9) rfl dX7_remember_42 ?_
        refine lv_iconst (v := 1) hx hb dX7_remember_45 (by decide) ?_
        refine lv_isub hx hb dX7_remember_46 ?_
        refine lv_topi (fun f22_20 ef22_20 => ?_)
        replace hF := nm_i hF ef22_20
        refine va_put (D := D) (ci := 7) (v := .int f22_20) (ty := .int) (C := RX7) (T := TX7) (N := 38) hx hb hts hin_RX7 tyX7 tyX7_ok nmX7 hown hK hP hD hS 0 rfl rfl 22 (by decide) hk_0 (fun _ h9 => h9) rfl (by decide +kernel) rfl rfl (Nat.le_of_ble_eq_true rfl) dX7_remember_47 (fun H locs hP hD hS => ?_)
        obtain ⟨zM_21, ezM_21⟩ : ∃ y : MS, y = (upd zM_10.1 22 f22_20, zM_10.2) := ⟨_, rfl⟩
        replace hF := nm_i hF ezM_21
        have hP : va_P D vwCl (wcM ci aM zM_21) H := by rw [ezM_21]; exact hP
        have hD : va_D A (wcM ci aM zM_21) := by rw [ezM_21]; exact hD
        obtain rfl := Option.some.inj hF
        exact J_2 H locs ls ⟨hP, hD, hS, lv_sub hl [0] rfl⟩
      · intro J_8
        clear hF
        have hF := hv_19
        refine lpW (σ := Int32 × MS) (I := fun n v H locs ls => L_X7_remember_12 n v.1 v.2 = some (v1_9, zM_10) ∧ va_P D vwCl (wcM ci aM v.2) H ∧ va_D A (wcM ci aM v.2) ∧ va_S A s.heap H locs ∧ lv_has ls 2 [(0, .ref (aM 0)), (1, .int v.1)]) 3000 (v1_4, zM) (fun _ _ _ _ h => no_none h.1) ⟨hF, hP, hD, hS, lv_sub hl [1, 0] rfl⟩ ?_
        clear hF hP hD hS hl
        intro n ih_7 vq H locs ls hI
        obtain ⟨v1_5, zM_6⟩ := vq
        obtain ⟨hF, hP, hD, hS, hl⟩ := hI
        have hP : va_P D vwCl (wcM ci aM zM_6) H := hP
        have hD : va_D A (wcM ci aM zM_6) := hD
        have hl : lv_has ls 2 [(0, .ref (aM 0)), (1, .int v1_5)] := hl
        replace hF : L_X7_remember_12 (n + 1) v1_5 zM_6 = some (v1_9, zM_10) := hF
        rw [L_X7_remember_12] at hF
        refine lv_iload_n hx hb dX7_remember_12 rfl (lv_at hl 1 rfl) ?_
        refine lv_sipush (v := 2440) hx hb dX7_remember_13 (by decide) ?_
        refine lv_icmp_ge (tgt := 40) hx hb dX7_remember_16 (by decide) (fun c_11 => ?_) (fun c_11 => ?_)
        · replace hF := if_i c_11 hF
          obtain ⟨g_12, g_13⟩ : v1_5 = v1_9 ∧ zM_6 = zM_10 := by have h9 := Option.some.inj hF; simpa only [Prod.mk.injEq] using h9
          subst g_12
          subst g_13
          exact J_8 H locs ls ⟨hP, hD, hS, lv_sub hl [0, 1] rfl⟩
        · replace hF := if_o c_11 hF
          refine lv_aload_n hx hb dX7_remember_19 rfl (lv_at hl 0 rfl) ?_
          refine va_get (D := D) (ci := 7) (v := .ref (aM 23)) (C := RX7) (T := TX7) (N := 38) hx hb hts hin_RX7 hown hK hP 0 rfl rfl 23 (by decide) hk_2 (fun _ h9 => h9) rfl dX7_remember_20 ?_
          refine lv_iload_n hx hb dX7_remember_23 rfl (lv_at hl 1 rfl) ?_
          refine lv_bipush (v := 122) hx hb dX7_remember_24 (by decide) ?_
          refine lv_isub hx hb dX7_remember_26 ?_
          refine lv_aload_n hx hb dX7_remember_27 rfl (lv_at hl 0 rfl) ?_
          refine va_get (D := D) (ci := 7) (v := .ref (aM 23)) (C := RX7) (T := TX7) (N := 38) hx hb hts hin_RX7 hown hK hP 0 rfl rfl 23 (by decide) hk_2 (fun _ h9 => h9) rfl dX7_remember_28 ?_
          refine lv_iload_n hx hb dX7_remember_31 rfl (lv_at hl 1 rfl) ?_
          replace hF := ald_i hF
          obtain ⟨hin_14, hF⟩ := hF
          refine va_iald hx hb hK hP 12 0 rfl rfl hin_14 dX7_remember_32 ?_
          refine lv_topi (fun x_15 ex_15 => ?_)
          replace hF := nm_i hF ex_15
          replace hF := ast_i hF
          obtain ⟨hin_16, hF⟩ := hF
          refine va_iast (x := x_15) hx hb hK hP hD hS 12 0 rfl rfl hin_16 dX7_remember_33 (fun H locs hP hD hS => ?_)
          obtain ⟨zM_17, ezM_17⟩ : ∃ y : MS, y = (zM_6.1, va_up zM_6.2 23 (upd (zM_6.2 23) (Int32.toNatClampNeg (v1_5 - 122)) x_15)) := ⟨_, rfl⟩
          replace hF := nm_i hF ezM_17
          have hP : va_P D vwCl (wcM ci aM zM_17) H := by rw [ezM_17]; exact hP
          have hD : va_D A (wcM ci aM zM_17) := by rw [ezM_17]; exact hD
          obtain ⟨v1_18, ev1_18⟩ : ∃ y : Int32, y = v1_5 + 1 := ⟨_, rfl⟩
          replace hF := nm_i hF ev1_18
          refine lv_iinc (v := v1_18) (lv' := [(1, .int v1_18), (0, .ref (aM 0))]) hx hb dX7_remember_34 hl (k := 1) rfl (by rw [ev1_18]; rfl) (by decide) rfl (fun ls hl => ?_)
          refine lv_goto (tgt := 12) hx hb dX7_remember_37 (by decide) ?_
          exact ih_7 (v1_18, zM_17) H locs ls ⟨hF, hP, hD, hS, lv_sub hl [1, 0] rfl⟩
noncomputable def f_X7_mayPlant (zM : MS) (p1 : Int32) : Option (Int32) := ald 122 (zM.2 8) p1 fun x_2 => if (0 : Int32) ≤ x_2 then (some (0 : Int32)) else (ald 40 (zM.2 7) p1 fun x_5 => if x_5 = 0 then (some (1 : Int32)) else (some (0 : Int32)))
set_option maxHeartbeats 4000000 in
set_option maxRecDepth 100000 in
theorem c_X7_mayPlant (l : Launch) (D : va_G) (ci : Nat → ClassId) (aM : Nat → Nat) (sz : Nat) (zM : MS) (p1 : Int32) (res : Int32) (hF : f_X7_mayPlant zM p1 = some res) : CtI l yX7_mayPlant wsX7_mayPlant { frames := 0, cells := 0, slots := 0, locals := 0 } [.ref (aM 0), .int p1] D ci (wcM ci aM zM) sz res (wcM ci aM zM) := by
  refine Met.ofW (cc := cX7_mayPlant) (maxL := 2) (ret := (some .boolean)) (by decide) rfl ?_
  intro p e s m args below meth c s₁ B hml hv
  obtain ⟨rfl, hsz, hP, hK, hD0⟩ := hv
  have hx := B.exec
  have hb := B.bytes
  have hr := B.returns
  have hts := atoms_spec (ws := wsX7_mayPlant) B.pre
  have hown : s.vm.findClass RX7 = some m.cls := findClass_of_methodNamed B.named
  have hlocks := B.notSynchronized
  subst hsz
  have hD := hD0.self (sz := s.heap.size)
  generalize hAe : va_A (wcM ci aM zM) s.heap.size = A at hD ⊢
  have hA : ∀ q : Nat, s.heap.size ≤ q → A q := fun q h => by rw [← hAe]; exact Or.inr h
  clear hD0 hAe
  have hl := lv_entry ([.ref (aM 0), .int p1]) (n := 2) (Nat.le_of_ble_eq_true rfl)
  rw [lg_entry_eq]
  generalize (lg_sl ([.ref (aM 0), .int p1]) ++ List.replicate (2 - (lg_sl ([.ref (aM 0), .int p1])).length) Slot.unset).toArray = ls at hl ⊢
  have hl : lv_has ls 2 [(0, .ref (aM 0)), (1, .int p1)] := hl
  have hP : va_P D vwCl (wcM ci aM zM) s.heap := hP
  generalize hH0 : s.heap = H at hP ⊢
  have hS : va_S A s.heap H [] := by rw [← hH0]; exact va_S.rf
  clear hH0
  generalize ([] : List Loc) = locs at hS ⊢
  have hk_0 := hts (.fieldLink RX7 23 "HedgeWarModel" "now" "[I") (by decide +kernel)
  have hin_RX7 : ∀ w ∈ wsX70, w ∈ wsX7_mayPlant := by decide +kernel
  have hk_2 := hts (.fieldLink RX7 19 "HedgeWarModel" "path" "[Z") (by decide +kernel)
  unfold f_X7_mayPlant at hF
  refine lv_aload_n hx hb dX7_mayPlant_0 rfl (lv_at hl 0 rfl) ?_
  refine va_get (D := D) (ci := 7) (v := .ref (aM 8)) (C := RX7) (T := TX7) (N := 38) hx hb hts hin_RX7 hown hK hP 0 rfl rfl 8 (by decide) hk_0 (fun _ h9 => h9) rfl dX7_mayPlant_1 ?_
  refine lv_iload_n hx hb dX7_mayPlant_4 rfl (lv_at hl 1 rfl) ?_
  replace hF := ald_i hF
  obtain ⟨hin_1, hF⟩ := hF
  refine va_iald hx hb hK hP 5 0 rfl rfl hin_1 dX7_mayPlant_5 ?_
  refine lv_topi (fun x_2 ex_2 => ?_)
  replace hF := nm_i hF ex_2
  refine lv_if_ge (tgt := 22) hx hb dX7_mayPlant_6 (by decide) (fun c_3 => ?_) (fun c_3 => ?_)
  · replace hF := if_i c_3 hF
    refine lv_iconst (v := 0) hx hb dX7_mayPlant_22 (by decide) ?_
    obtain rfl := Option.some.inj hF
    exact W.zret (v := 0) (ty := .boolean) hx hb hr rfl (fun t ht hW => ⟨⟨_, (), rfl, rfl, by rw [ht]; exact hP, va_K.moved hW.alike hK, hD⟩, hS.F ht⟩) hS.2.2 dX7_mayPlant_23
  · replace hF := if_o c_3 hF
    refine lv_aload_n hx hb dX7_mayPlant_9 rfl (lv_at hl 0 rfl) ?_
    refine va_get (D := D) (ci := 7) (v := .ref (aM 7)) (C := RX7) (T := TX7) (N := 38) hx hb hts hin_RX7 hown hK hP 0 rfl rfl 7 (by decide) hk_2 (fun _ h9 => h9) rfl dX7_mayPlant_10 ?_
    refine lv_iload_n hx hb dX7_mayPlant_13 rfl (lv_at hl 1 rfl) ?_
    replace hF := ald_i hF
    obtain ⟨hin_4, hF⟩ := hF
    refine va_zald hx hb hK hP 4 2 rfl rfl hin_4 dX7_mayPlant_14 ?_
    refine lv_topi (fun x_5 ex_5 => ?_)
    replace hF := nm_i hF ex_5
    refine lv_if_ne (tgt := 22) hx hb dX7_mayPlant_15 (by decide) (fun c_6 => ?_) (fun c_6 => ?_)
    · replace hF := if_o c_6 hF
      refine lv_iconst (v := 0) hx hb dX7_mayPlant_22 (by decide) ?_
      obtain rfl := Option.some.inj hF
      exact W.zret (v := 0) (ty := .boolean) hx hb hr rfl (fun t ht hW => ⟨⟨_, (), rfl, rfl, by rw [ht]; exact hP, va_K.moved hW.alike hK, hD⟩, hS.F ht⟩) hS.2.2 dX7_mayPlant_23
    · replace hF := if_i c_6 hF
      refine lv_iconst (v := 1) hx hb dX7_mayPlant_18 (by decide) ?_
      refine lv_goto (tgt := 23) hx hb dX7_mayPlant_19 (by decide) ?_
      obtain rfl := Option.some.inj hF
      exact W.zret (v := 1) (ty := .boolean) hx hb hr rfl (fun t ht hW => ⟨⟨_, (), rfl, rfl, by rw [ht]; exact hP, va_K.moved hW.alike hK, hD⟩, hS.F ht⟩) hS.2.2 dX7_mayPlant_23
noncomputable def f_X7_plantNow (zM : MS) (p1 : Int32) (p2 : Int32) : Option (MS) := ast 122 p1 <| nm ((zM.1, va_up zM.2 8 (upd (zM.2 8) (Int32.toNatClampNeg p1) p2)) : MS) fun zM_2 => ast 122 (40 + p1) <| nm ((zM_2.1, va_up zM_2.2 8 (upd (zM_2.2 8) (Int32.toNatClampNeg (40 + p1)) 0)) : MS) fun zM_4 => ast 122 (80 + p1) <| nm ((zM_4.1, va_up zM_4.2 8 (upd (zM_4.2 8) (Int32.toNatClampNeg (80 + p1)) 0)) : MS) fun zM_6 => some zM_6
set_option maxHeartbeats 4000000 in
set_option maxRecDepth 100000 in
theorem c_X7_plantNow (l : Launch) (D : va_G) (ci : Nat → ClassId) (aM : Nat → Nat) (sz : Nat) (zM : MS) (p1 : Int32) (p2 : Int32) (res : MS) (hF : f_X7_plantNow zM p1 p2 = some res) : CtV l yX7_plantNow wsX7_plantNow { frames := 0, cells := 0, slots := 0, locals := 0 } [.ref (aM 0), .int p1, .int p2] D ci (wcM ci aM zM) sz (wcM ci aM res) := by
  refine Met.ofW (cc := cX7_plantNow) (maxL := 3) (ret := none) (by decide) rfl ?_
  intro p e s m args below meth c s₁ B hml hv
  obtain ⟨rfl, hsz, hP, hK, hD0⟩ := hv
  have hx := B.exec
  have hb := B.bytes
  have hr := B.returns
  have hts := atoms_spec (ws := wsX7_plantNow) B.pre
  have hown : s.vm.findClass RX7 = some m.cls := findClass_of_methodNamed B.named
  have hlocks := B.notSynchronized
  subst hsz
  have hD := hD0.self (sz := s.heap.size)
  generalize hAe : va_A (wcM ci aM zM) s.heap.size = A at hD ⊢
  have hA : ∀ q : Nat, s.heap.size ≤ q → A q := fun q h => by rw [← hAe]; exact Or.inr h
  clear hD0 hAe
  have hl := lv_entry ([.ref (aM 0), .int p1, .int p2]) (n := 3) (Nat.le_of_ble_eq_true rfl)
  rw [lg_entry_eq]
  generalize (lg_sl ([.ref (aM 0), .int p1, .int p2]) ++ List.replicate (3 - (lg_sl ([.ref (aM 0), .int p1, .int p2])).length) Slot.unset).toArray = ls at hl ⊢
  have hl : lv_has ls 3 [(0, .ref (aM 0)), (1, .int p1), (2, .int p2)] := hl
  have hP : va_P D vwCl (wcM ci aM zM) s.heap := hP
  generalize hH0 : s.heap = H at hP ⊢
  have hS : va_S A s.heap H [] := by rw [← hH0]; exact va_S.rf
  clear hH0
  generalize ([] : List Loc) = locs at hS ⊢
  have hk_0 := hts (.fieldLink RX7 23 "HedgeWarModel" "now" "[I") (by decide +kernel)
  have hin_RX7 : ∀ w ∈ wsX70, w ∈ wsX7_plantNow := by decide +kernel
  unfold f_X7_plantNow at hF
  refine lv_aload_n hx hb dX7_plantNow_0 rfl (lv_at hl 0 rfl) ?_
  refine va_get (D := D) (ci := 7) (v := .ref (aM 8)) (C := RX7) (T := TX7) (N := 38) hx hb hts hin_RX7 hown hK hP 0 rfl rfl 8 (by decide) hk_0 (fun _ h9 => h9) rfl dX7_plantNow_1 ?_
  refine lv_iload_n hx hb dX7_plantNow_4 rfl (lv_at hl 1 rfl) ?_
  refine lv_iload_n hx hb dX7_plantNow_5 rfl (lv_at hl 2 rfl) ?_
  replace hF := ast_i hF
  obtain ⟨hin_1, hF⟩ := hF
  refine va_iast (x := p2) hx hb hK hP hD hS 5 0 rfl rfl hin_1 dX7_plantNow_6 (fun H locs hP hD hS => ?_)
  obtain ⟨zM_2, ezM_2⟩ : ∃ y : MS, y = (zM.1, va_up zM.2 8 (upd (zM.2 8) (Int32.toNatClampNeg p1) p2)) := ⟨_, rfl⟩
  replace hF := nm_i hF ezM_2
  have hP : va_P D vwCl (wcM ci aM zM_2) H := by rw [ezM_2]; exact hP
  have hD : va_D A (wcM ci aM zM_2) := by rw [ezM_2]; exact hD
  refine lv_aload_n hx hb dX7_plantNow_7 rfl (lv_at hl 0 rfl) ?_
  refine va_get (D := D) (ci := 7) (v := .ref (aM 8)) (C := RX7) (T := TX7) (N := 38) hx hb hts hin_RX7 hown hK hP 0 rfl rfl 8 (by decide) hk_0 (fun _ h9 => h9) rfl dX7_plantNow_8 ?_
  refine lv_bipush (v := 40) hx hb dX7_plantNow_11 (by decide) ?_
  refine lv_iload_n hx hb dX7_plantNow_13 rfl (lv_at hl 1 rfl) ?_
  refine lv_iadd hx hb dX7_plantNow_14 ?_
  refine lv_iconst (v := 0) hx hb dX7_plantNow_15 (by decide) ?_
  replace hF := ast_i hF
  obtain ⟨hin_3, hF⟩ := hF
  refine va_iast (x := 0) hx hb hK hP hD hS 5 0 rfl rfl hin_3 dX7_plantNow_16 (fun H locs hP hD hS => ?_)
  obtain ⟨zM_4, ezM_4⟩ : ∃ y : MS, y = (zM_2.1, va_up zM_2.2 8 (upd (zM_2.2 8) (Int32.toNatClampNeg (40 + p1)) 0)) := ⟨_, rfl⟩
  replace hF := nm_i hF ezM_4
  have hP : va_P D vwCl (wcM ci aM zM_4) H := by rw [ezM_4]; exact hP
  have hD : va_D A (wcM ci aM zM_4) := by rw [ezM_4]; exact hD
  refine lv_aload_n hx hb dX7_plantNow_17 rfl (lv_at hl 0 rfl) ?_
  refine va_get (D := D) (ci := 7) (v := .ref (aM 8)) (C := RX7) (T := TX7) (N := 38) hx hb hts hin_RX7 hown hK hP 0 rfl rfl 8 (by decide) hk_0 (fun _ h9 => h9) rfl dX7_plantNow_18 ?_
  refine lv_bipush (v := 80) hx hb dX7_plantNow_21 (by decide) ?_
  refine lv_iload_n hx hb dX7_plantNow_23 rfl (lv_at hl 1 rfl) ?_
  refine lv_iadd hx hb dX7_plantNow_24 ?_
  refine lv_iconst (v := 0) hx hb dX7_plantNow_25 (by decide) ?_
  replace hF := ast_i hF
  obtain ⟨hin_5, hF⟩ := hF
  refine va_iast (x := 0) hx hb hK hP hD hS 5 0 rfl rfl hin_5 dX7_plantNow_26 (fun H locs hP hD hS => ?_)
  obtain ⟨zM_6, ezM_6⟩ : ∃ y : MS, y = (zM_4.1, va_up zM_4.2 8 (upd (zM_4.2 8) (Int32.toNatClampNeg (80 + p1)) 0)) := ⟨_, rfl⟩
  replace hF := nm_i hF ezM_6
  have hP : va_P D vwCl (wcM ci aM zM_6) H := by rw [ezM_6]; exact hP
  have hD : va_D A (wcM ci aM zM_6) := by rw [ezM_6]; exact hD
  obtain rfl := Option.some.inj hF
  exact W.vret hx hb hr (fun t ht hW => ⟨⟨(), rfl, trivial, by rw [ht]; exact hP, va_K.moved hW.alike hK, hD⟩, hS.F ht⟩) hS.2.2 dX7_plantNow_27
noncomputable def f_X7_plant (zM : MS) (p1 : Int32) (p2 : Int32) : Option (Int32 × MS) := (f_X7_isEdge zM p1).bind fun r_1 => if r_1 = 0 then (some ((-1000000001 : Int32), zM)) else ((f_X7_isEstate p2).bind fun r_4 => if r_4 = 0 then (some ((-1000000001 : Int32), zM)) else ((f_X7_mayPlant zM p1).bind fun r_7 => if r_7 = 0 then (some ((-1000000003 : Int32), zM)) else ((f_X7_remember zM).bind fun zM_10 => (f_X7_plantNow zM_10 p1 p2).bind fun zM_12 => (f_X7_hedges zM_12).bind fun r_14 => some (r_14, zM_12))))
set_option maxHeartbeats 4000000 in
set_option maxRecDepth 100000 in
theorem c_X7_plant (l : Launch) (D : va_G) (ci : Nat → ClassId) (aM : Nat → Nat) (sz : Nat) (zM : MS) (p1 : Int32) (p2 : Int32) (res : Int32 × MS) (hF : f_X7_plant zM p1 p2 = some res) : CtI l yX7_plant wsX7_plant { frames := 2, cells := 0, slots := 0, locals := 46 } [.ref (aM 0), .int p1, .int p2] D ci (wcM ci aM zM) sz res.1 (wcM ci aM res.2) := by
  refine Met.ofW (cc := cX7_plant) (maxL := 3) (ret := (some .int)) (by decide) rfl ?_
  intro p e s m args below meth c s₁ B hml hv
  obtain ⟨rfl, hsz, hP, hK, hD0⟩ := hv
  have hx := B.exec
  have hb := B.bytes
  have hr := B.returns
  have hts := atoms_spec (ws := wsX7_plant) B.pre
  have hown : s.vm.findClass RX7 = some m.cls := findClass_of_methodNamed B.named
  have hlocks := B.notSynchronized
  subst hsz
  have hD := hD0.self (sz := s.heap.size)
  generalize hAe : va_A (wcM ci aM zM) s.heap.size = A at hD ⊢
  have hA : ∀ q : Nat, s.heap.size ≤ q → A q := fun q h => by rw [← hAe]; exact Or.inr h
  clear hD0 hAe
  have hl := lv_entry ([.ref (aM 0), .int p1, .int p2]) (n := 3) (Nat.le_of_ble_eq_true rfl)
  rw [lg_entry_eq]
  generalize (lg_sl ([.ref (aM 0), .int p1, .int p2]) ++ List.replicate (3 - (lg_sl ([.ref (aM 0), .int p1, .int p2])).length) Slot.unset).toArray = ls at hl ⊢
  have hl : lv_has ls 3 [(0, .ref (aM 0)), (1, .int p1), (2, .int p2)] := hl
  have hP : va_P D vwCl (wcM ci aM zM) s.heap := hP
  generalize hH0 : s.heap = H at hP ⊢
  have hS : va_S A s.heap H [] := by rw [← hH0]; exact va_S.rf
  clear hH0
  generalize ([] : List Loc) = locs at hS ⊢
  have hk_0 := hts (.constant RX7 210 (-1000000001)) (by decide +kernel)
  have hk_1 := hts (.constant RX7 226 (-1000000003)) (by decide +kernel)
  unfold f_X7_plant at hF
  refine lv_aload_n hx hb dX7_plant_0 rfl (lv_at hl 0 rfl) ?_
  refine lv_iload_n hx hb dX7_plant_1 rfl (lv_at hl 1 rfl) ?_
  replace hF := bnd hF
  obtain ⟨r_1, hc_2, hF⟩ := hF
  refine cl_Vi0 (As := [.int p1]) (rest := []) ⟨hx, hb, hml, hown, hts⟩ (cwV 1 hts gX7_plant_X7_isEdge rfl rfl rfl (by decide +kernel) ⟨Nat.le_of_ble_eq_true rfl, Nat.le_of_ble_eq_true rfl⟩) (c_X7_isEdge l D ci aM H.size zM p1 _ hc_2) hK hP hD hS hA 0 rfl rfl rfl rfl hl.1 (Nat.le_of_ble_eq_true rfl) dX7_plant_2 (Nat.zero_le _) (Nat.zero_le _) (fun H locs hP hD hS => ?_)
  have hP : va_P D vwCl (wcM ci aM zM) H := hP
  have hD : va_D A (wcM ci aM zM) := hD
  refine lv_if_eq (tgt := 15) hx hb dX7_plant_5 (by decide) (fun c_3 => ?_) (fun c_3 => ?_)
  · replace hF := if_i c_3 hF
    refine lv_ldc (v := (-1000000001)) hx hb hown hk_0 dX7_plant_15 ?_
    obtain rfl := Option.some.inj hF
    exact W.iret (v := (-1000000001)) hx hb hr (fun t ht hW => ⟨⟨_, (), rfl, rfl, by rw [ht]; exact hP, va_K.moved hW.alike hK, hD⟩, hS.F ht⟩) hS.2.2 dX7_plant_17
  · replace hF := if_o c_3 hF
    refine lv_iload_n hx hb dX7_plant_8 rfl (lv_at hl 2 rfl) ?_
    replace hF := bnd hF
    obtain ⟨r_4, hc_5, hF⟩ := hF
    refine cl_Sie (As := [.int p2]) (rest := []) ⟨hx, hb, hml, hown, hts⟩ (va_cwS 1 hts gX7_plant_X7_isEstate rfl rfl rfl (by decide +kernel) ⟨Nat.le_of_ble_eq_true rfl, Nat.le_of_ble_eq_true rfl⟩) (c_X7_isEstate l D ci  H.size p2 _ hc_5) hK hP hD hS hA rfl rfl hl.1 (Nat.le_of_ble_eq_true rfl) dX7_plant_9 (Nat.zero_le _) (Nat.zero_le _) (fun H locs hP hD hS => ?_)
    have hP : va_P D vwCl (wcM ci aM zM) H := hP
    have hD : va_D A (wcM ci aM zM) := hD
    refine lv_if_ne (tgt := 18) hx hb dX7_plant_12 (by decide) (fun c_6 => ?_) (fun c_6 => ?_)
    · replace hF := if_o c_6 hF
      refine lv_aload_n hx hb dX7_plant_18 rfl (lv_at hl 0 rfl) ?_
      refine lv_iload_n hx hb dX7_plant_19 rfl (lv_at hl 1 rfl) ?_
      replace hF := bnd hF
      obtain ⟨r_7, hc_8, hF⟩ := hF
      refine cl_Vi0 (As := [.int p1]) (rest := []) ⟨hx, hb, hml, hown, hts⟩ (cwV 1 hts gX7_plant_X7_mayPlant rfl rfl rfl (by decide +kernel) ⟨Nat.le_of_ble_eq_true rfl, Nat.le_of_ble_eq_true rfl⟩) (c_X7_mayPlant l D ci aM H.size zM p1 _ hc_8) hK hP hD hS hA 0 rfl rfl rfl rfl hl.1 (Nat.le_of_ble_eq_true rfl) dX7_plant_20 (Nat.zero_le _) (Nat.zero_le _) (fun H locs hP hD hS => ?_)
      have hP : va_P D vwCl (wcM ci aM zM) H := hP
      have hD : va_D A (wcM ci aM zM) := hD
      refine lv_if_ne (tgt := 29) hx hb dX7_plant_23 (by decide) (fun c_9 => ?_) (fun c_9 => ?_)
      · replace hF := if_o c_9 hF
        refine lv_aload_n hx hb dX7_plant_29 rfl (lv_at hl 0 rfl) ?_
        replace hF := bnd hF
        obtain ⟨zM_10, hc_11, hF⟩ := hF
        refine cl_Vv0 (As := []) (rest := []) ⟨hx, hb, hml, hown, hts⟩ (cwV 0 hts gX7_plant_X7_remember rfl rfl rfl (by decide +kernel) ⟨Nat.le_of_ble_eq_true rfl, Nat.le_of_ble_eq_true rfl⟩) (c_X7_remember l D ci aM H.size zM _ hc_11) hK hP hD hS hA 0 rfl rfl rfl rfl hl.1 (Nat.le_of_ble_eq_true rfl) dX7_plant_30 (Nat.zero_le _) (Nat.zero_le _) (fun H locs hP hD hS => ?_)
        have hP : va_P D vwCl (wcM ci aM zM_10) H := hP
        have hD : va_D A (wcM ci aM zM_10) := hD
        refine lv_aload_n hx hb dX7_plant_33 rfl (lv_at hl 0 rfl) ?_
        refine lv_iload_n hx hb dX7_plant_34 rfl (lv_at hl 1 rfl) ?_
        refine lv_iload_n hx hb dX7_plant_35 rfl (lv_at hl 2 rfl) ?_
        replace hF := bnd hF
        obtain ⟨zM_12, hc_13, hF⟩ := hF
        refine cl_Vv0 (As := [.int p1, .int p2]) (rest := []) ⟨hx, hb, hml, hown, hts⟩ (cwV 2 hts gX7_plant_X7_plantNow rfl rfl rfl (by decide +kernel) ⟨Nat.le_of_ble_eq_true rfl, Nat.le_of_ble_eq_true rfl⟩) (c_X7_plantNow l D ci aM H.size zM_10 p1 p2 _ hc_13) hK hP hD hS hA 0 rfl rfl rfl rfl hl.1 (Nat.le_of_ble_eq_true rfl) dX7_plant_36 (Nat.zero_le _) (Nat.zero_le _) (fun H locs hP hD hS => ?_)
        have hP : va_P D vwCl (wcM ci aM zM_12) H := hP
        have hD : va_D A (wcM ci aM zM_12) := hD
        refine lv_aload_n hx hb dX7_plant_39 rfl (lv_at hl 0 rfl) ?_
        replace hF := bnd hF
        obtain ⟨r_14, hc_15, hF⟩ := hF
        refine cl_Vi0 (As := []) (rest := []) ⟨hx, hb, hml, hown, hts⟩ (cwV 0 hts gX7_plant_X7_hedges rfl rfl rfl (by decide +kernel) ⟨Nat.le_of_ble_eq_true rfl, Nat.le_of_ble_eq_true rfl⟩) (c_X7_hedges l D ci aM H.size zM_12 _ hc_15) hK hP hD hS hA 0 rfl rfl rfl rfl hl.1 (Nat.le_of_ble_eq_true rfl) dX7_plant_40 (Nat.zero_le _) (Nat.zero_le _) (fun H locs hP hD hS => ?_)
        have hP : va_P D vwCl (wcM ci aM zM_12) H := hP
        have hD : va_D A (wcM ci aM zM_12) := hD
        obtain rfl := Option.some.inj hF
        exact W.iret (v := r_14) hx hb hr (fun t ht hW => ⟨⟨_, (), rfl, rfl, by rw [ht]; exact hP, va_K.moved hW.alike hK, hD⟩, hS.F ht⟩) hS.2.2 dX7_plant_43
      · replace hF := if_i c_9 hF
        refine lv_ldc (v := (-1000000003)) hx hb hown hk_1 dX7_plant_26 ?_
        obtain rfl := Option.some.inj hF
        exact W.iret (v := (-1000000003)) hx hb hr (fun t ht hW => ⟨⟨_, (), rfl, rfl, by rw [ht]; exact hP, va_K.moved hW.alike hK, hD⟩, hS.F ht⟩) hS.2.2 dX7_plant_28
    · replace hF := if_i c_6 hF
      refine lv_ldc (v := (-1000000001)) hx hb hown hk_0 dX7_plant_15 ?_
      obtain rfl := Option.some.inj hF
      exact W.iret (v := (-1000000001)) hx hb hr (fun t ht hW => ⟨⟨_, (), rfl, rfl, by rw [ht]; exact hP, va_K.moved hW.alike hK, hD⟩, hS.F ht⟩) hS.2.2 dX7_plant_17
noncomputable def f_X7_graze (zM : MS) (p1 : Int32) : Option (Int32 × MS) := (f_X7_isEdge zM p1).bind fun r_1 => if r_1 = 0 then (some ((-1000000001 : Int32), zM)) else (ald 122 (zM.2 8) p1 fun x_5 => if (0 : Int32) ≤ x_5 then ((f_X7_remember zM).bind fun zM_7 => ald 122 (zM_7.2 8) (40 + p1) fun x_10 => (f_X7_plantNow zM_7 p1 (-1 : Int32)).bind fun zM_11 => some (x_10, zM_11)) else (some ((-1000000003 : Int32), zM)))
set_option maxHeartbeats 4000000 in
set_option maxRecDepth 100000 in
theorem c_X7_graze (l : Launch) (D : va_G) (ci : Nat → ClassId) (aM : Nat → Nat) (sz : Nat) (zM : MS) (p1 : Int32) (res : Int32 × MS) (hF : f_X7_graze zM p1 = some res) : CtI l yX7_graze wsX7_graze { frames := 2, cells := 0, slots := 0, locals := 46 } [.ref (aM 0), .int p1] D ci (wcM ci aM zM) sz res.1 (wcM ci aM res.2) := by
  refine Met.ofW (cc := cX7_graze) (maxL := 3) (ret := (some .int)) (by decide) rfl ?_
  intro p e s m args below meth c s₁ B hml hv
  obtain ⟨rfl, hsz, hP, hK, hD0⟩ := hv
  have hx := B.exec
  have hb := B.bytes
  have hr := B.returns
  have hts := atoms_spec (ws := wsX7_graze) B.pre
  have hown : s.vm.findClass RX7 = some m.cls := findClass_of_methodNamed B.named
  have hlocks := B.notSynchronized
  subst hsz
  have hD := hD0.self (sz := s.heap.size)
  generalize hAe : va_A (wcM ci aM zM) s.heap.size = A at hD ⊢
  have hA : ∀ q : Nat, s.heap.size ≤ q → A q := fun q h => by rw [← hAe]; exact Or.inr h
  clear hD0 hAe
  have hl := lv_entry ([.ref (aM 0), .int p1]) (n := 3) (Nat.le_of_ble_eq_true rfl)
  rw [lg_entry_eq]
  generalize (lg_sl ([.ref (aM 0), .int p1]) ++ List.replicate (3 - (lg_sl ([.ref (aM 0), .int p1])).length) Slot.unset).toArray = ls at hl ⊢
  have hl : lv_has ls 3 [(0, .ref (aM 0)), (1, .int p1)] := hl
  have hP : va_P D vwCl (wcM ci aM zM) s.heap := hP
  generalize hH0 : s.heap = H at hP ⊢
  have hS : va_S A s.heap H [] := by rw [← hH0]; exact va_S.rf
  clear hH0
  generalize ([] : List Loc) = locs at hS ⊢
  have hk_0 := hts (.fieldLink RX7 23 "HedgeWarModel" "now" "[I") (by decide +kernel)
  have hin_RX7 : ∀ w ∈ wsX70, w ∈ wsX7_graze := by decide +kernel
  have hk_2 := hts (.constant RX7 226 (-1000000003)) (by decide +kernel)
  have hk_3 := hts (.constant RX7 210 (-1000000001)) (by decide +kernel)
  unfold f_X7_graze at hF
  refine lv_aload_n hx hb dX7_graze_0 rfl (lv_at hl 0 rfl) ?_
  refine lv_iload_n hx hb dX7_graze_1 rfl (lv_at hl 1 rfl) ?_
  replace hF := bnd hF
  obtain ⟨r_1, hc_2, hF⟩ := hF
  refine cl_Vi0 (As := [.int p1]) (rest := []) ⟨hx, hb, hml, hown, hts⟩ (cwV 1 hts gX7_graze_X7_isEdge rfl rfl rfl (by decide +kernel) ⟨Nat.le_of_ble_eq_true rfl, Nat.le_of_ble_eq_true rfl⟩) (c_X7_isEdge l D ci aM H.size zM p1 _ hc_2) hK hP hD hS hA 0 rfl rfl rfl rfl hl.1 (Nat.le_of_ble_eq_true rfl) dX7_graze_2 (Nat.zero_le _) (Nat.zero_le _) (fun H locs hP hD hS => ?_)
  have hP : va_P D vwCl (wcM ci aM zM) H := hP
  have hD : va_D A (wcM ci aM zM) := hD
  refine lv_if_ne (tgt := 11) hx hb dX7_graze_5 (by decide) (fun c_3 => ?_) (fun c_3 => ?_)
  · replace hF := if_o c_3 hF
    refine lv_aload_n hx hb dX7_graze_11 rfl (lv_at hl 0 rfl) ?_
    refine va_get (D := D) (ci := 7) (v := .ref (aM 8)) (C := RX7) (T := TX7) (N := 38) hx hb hts hin_RX7 hown hK hP 0 rfl rfl 8 (by decide) hk_0 (fun _ h9 => h9) rfl dX7_graze_12 ?_
    refine lv_iload_n hx hb dX7_graze_15 rfl (lv_at hl 1 rfl) ?_
    replace hF := ald_i hF
    obtain ⟨hin_4, hF⟩ := hF
    refine va_iald hx hb hK hP 5 0 rfl rfl hin_4 dX7_graze_16 ?_
    refine lv_topi (fun x_5 ex_5 => ?_)
    replace hF := nm_i hF ex_5
    refine lv_if_ge (tgt := 23) hx hb dX7_graze_17 (by decide) (fun c_6 => ?_) (fun c_6 => ?_)
    · replace hF := if_i c_6 hF
      refine lv_aload_n hx hb dX7_graze_23 rfl (lv_at hl 0 rfl) ?_
      replace hF := bnd hF
      obtain ⟨zM_7, hc_8, hF⟩ := hF
      refine cl_Vv0 (As := []) (rest := []) ⟨hx, hb, hml, hown, hts⟩ (cwV 0 hts gX7_graze_X7_remember rfl rfl rfl (by decide +kernel) ⟨Nat.le_of_ble_eq_true rfl, Nat.le_of_ble_eq_true rfl⟩) (c_X7_remember l D ci aM H.size zM _ hc_8) hK hP hD hS hA 0 rfl rfl rfl rfl hl.1 (Nat.le_of_ble_eq_true rfl) dX7_graze_24 (Nat.zero_le _) (Nat.zero_le _) (fun H locs hP hD hS => ?_)
      have hP : va_P D vwCl (wcM ci aM zM_7) H := hP
      have hD : va_D A (wcM ci aM zM_7) := hD
      refine lv_aload_n hx hb dX7_graze_27 rfl (lv_at hl 0 rfl) ?_
      refine va_get (D := D) (ci := 7) (v := .ref (aM 8)) (C := RX7) (T := TX7) (N := 38) hx hb hts hin_RX7 hown hK hP 0 rfl rfl 8 (by decide) hk_0 (fun _ h9 => h9) rfl dX7_graze_28 ?_
      refine lv_bipush (v := 40) hx hb dX7_graze_31 (by decide) ?_
      refine lv_iload_n hx hb dX7_graze_33 rfl (lv_at hl 1 rfl) ?_
      refine lv_iadd hx hb dX7_graze_34 ?_
      replace hF := ald_i hF
      obtain ⟨hin_9, hF⟩ := hF
      refine va_iald hx hb hK hP 5 0 rfl rfl hin_9 dX7_graze_35 ?_
      refine lv_topi (fun x_10 ex_10 => ?_)
      replace hF := nm_i hF ex_10
      refine lv_istore_n (lv' := [(2, .int x_10), (0, .ref (aM 0)), (1, .int p1)]) hx hb dX7_graze_36 rfl hl (by decide) rfl (fun ls hl => ?_)
      refine lv_aload_n hx hb dX7_graze_37 rfl (lv_at hl 1 rfl) ?_
      refine lv_iload_n hx hb dX7_graze_38 rfl (lv_at hl 2 rfl) ?_
      refine lv_iconst (v := (-1)) hx hb dX7_graze_39 (by decide) ?_
      replace hF := bnd hF
      obtain ⟨zM_11, hc_12, hF⟩ := hF
      refine cl_Vv0 (As := [.int p1, .int (-1)]) (rest := []) ⟨hx, hb, hml, hown, hts⟩ (cwV 2 hts gX7_graze_X7_plantNow rfl rfl rfl (by decide +kernel) ⟨Nat.le_of_ble_eq_true rfl, Nat.le_of_ble_eq_true rfl⟩) (c_X7_plantNow l D ci aM H.size zM_7 p1 (-1 : Int32) _ hc_12) hK hP hD hS hA 0 rfl rfl rfl rfl hl.1 (Nat.le_of_ble_eq_true rfl) dX7_graze_40 (Nat.zero_le _) (Nat.zero_le _) (fun H locs hP hD hS => ?_)
      have hP : va_P D vwCl (wcM ci aM zM_11) H := hP
      have hD : va_D A (wcM ci aM zM_11) := hD
      refine lv_iload_n hx hb dX7_graze_43 rfl (lv_at hl 0 rfl) ?_
      obtain rfl := Option.some.inj hF
      exact W.iret (v := x_10) hx hb hr (fun t ht hW => ⟨⟨_, (), rfl, rfl, by rw [ht]; exact hP, va_K.moved hW.alike hK, hD⟩, hS.F ht⟩) hS.2.2 dX7_graze_44
    · replace hF := if_o c_6 hF
      refine lv_ldc (v := (-1000000003)) hx hb hown hk_2 dX7_graze_20 ?_
      obtain rfl := Option.some.inj hF
      exact W.iret (v := (-1000000003)) hx hb hr (fun t ht hW => ⟨⟨_, (), rfl, rfl, by rw [ht]; exact hP, va_K.moved hW.alike hK, hD⟩, hS.F ht⟩) hS.2.2 dX7_graze_22
  · replace hF := if_i c_3 hF
    refine lv_ldc (v := (-1000000001)) hx hb hown hk_3 dX7_graze_8 ?_
    obtain rfl := Option.some.inj hF
    exact W.iret (v := (-1000000001)) hx hb hr (fun t ht hW => ⟨⟨_, (), rfl, rfl, by rw [ht]; exact hP, va_K.moved hW.alike hK, hD⟩, hS.F ht⟩) hS.2.2 dX7_graze_10
noncomputable def f_X7_gate (zM : MS) (p1 : Int32) (p2 : Int32) : Option (Int32 × MS) := (f_X7_isEdge zM p1).bind fun r_1 => if r_1 = 0 then (some ((-1000000001 : Int32), zM)) else (ald 122 (zM.2 8) p1 fun x_5 => if (0 : Int32) ≤ x_5 then ((f_X7_remember zM).bind fun zM_7 => ald 122 (zM_7.2 8) (80 + p1) fun x_10 => (if p2 = 0 then (some (0 : Int32)) else (some (1 : Int32))).bind fun t_11 => ast 122 (80 + p1) <| nm ((zM_7.1, va_up zM_7.2 8 (upd (zM_7.2 8) (Int32.toNatClampNeg (80 + p1)) t_11)) : MS) fun zM_16 => some (x_10, zM_16)) else (some ((-1000000003 : Int32), zM)))
set_option maxHeartbeats 4000000 in
set_option maxRecDepth 100000 in
theorem c_X7_gate (l : Launch) (D : va_G) (ci : Nat → ClassId) (aM : Nat → Nat) (sz : Nat) (zM : MS) (p1 : Int32) (p2 : Int32) (res : Int32 × MS) (hF : f_X7_gate zM p1 p2 = some res) : CtI l yX7_gate wsX7_gate { frames := 2, cells := 0, slots := 0, locals := 46 } [.ref (aM 0), .int p1, .int p2] D ci (wcM ci aM zM) sz res.1 (wcM ci aM res.2) := by
  refine Met.ofW (cc := cX7_gate) (maxL := 4) (ret := (some .int)) (by decide) rfl ?_
  intro p e s m args below meth c s₁ B hml hv
  obtain ⟨rfl, hsz, hP, hK, hD0⟩ := hv
  have hx := B.exec
  have hb := B.bytes
  have hr := B.returns
  have hts := atoms_spec (ws := wsX7_gate) B.pre
  have hown : s.vm.findClass RX7 = some m.cls := findClass_of_methodNamed B.named
  have hlocks := B.notSynchronized
  subst hsz
  have hD := hD0.self (sz := s.heap.size)
  generalize hAe : va_A (wcM ci aM zM) s.heap.size = A at hD ⊢
  have hA : ∀ q : Nat, s.heap.size ≤ q → A q := fun q h => by rw [← hAe]; exact Or.inr h
  clear hD0 hAe
  have hl := lv_entry ([.ref (aM 0), .int p1, .int p2]) (n := 4) (Nat.le_of_ble_eq_true rfl)
  rw [lg_entry_eq]
  generalize (lg_sl ([.ref (aM 0), .int p1, .int p2]) ++ List.replicate (4 - (lg_sl ([.ref (aM 0), .int p1, .int p2])).length) Slot.unset).toArray = ls at hl ⊢
  have hl : lv_has ls 4 [(0, .ref (aM 0)), (1, .int p1), (2, .int p2)] := hl
  have hP : va_P D vwCl (wcM ci aM zM) s.heap := hP
  generalize hH0 : s.heap = H at hP ⊢
  have hS : va_S A s.heap H [] := by rw [← hH0]; exact va_S.rf
  clear hH0
  generalize ([] : List Loc) = locs at hS ⊢
  have hk_0 := hts (.fieldLink RX7 23 "HedgeWarModel" "now" "[I") (by decide +kernel)
  have hin_RX7 : ∀ w ∈ wsX70, w ∈ wsX7_gate := by decide +kernel
  have hk_2 := hts (.constant RX7 226 (-1000000003)) (by decide +kernel)
  have hk_3 := hts (.constant RX7 210 (-1000000001)) (by decide +kernel)
  unfold f_X7_gate at hF
  refine lv_aload_n hx hb dX7_gate_0 rfl (lv_at hl 0 rfl) ?_
  refine lv_iload_n hx hb dX7_gate_1 rfl (lv_at hl 1 rfl) ?_
  replace hF := bnd hF
  obtain ⟨r_1, hc_2, hF⟩ := hF
  refine cl_Vi0 (As := [.int p1]) (rest := []) ⟨hx, hb, hml, hown, hts⟩ (cwV 1 hts gX7_gate_X7_isEdge rfl rfl rfl (by decide +kernel) ⟨Nat.le_of_ble_eq_true rfl, Nat.le_of_ble_eq_true rfl⟩) (c_X7_isEdge l D ci aM H.size zM p1 _ hc_2) hK hP hD hS hA 0 rfl rfl rfl rfl hl.1 (Nat.le_of_ble_eq_true rfl) dX7_gate_2 (Nat.zero_le _) (Nat.zero_le _) (fun H locs hP hD hS => ?_)
  have hP : va_P D vwCl (wcM ci aM zM) H := hP
  have hD : va_D A (wcM ci aM zM) := hD
  refine lv_if_ne (tgt := 11) hx hb dX7_gate_5 (by decide) (fun c_3 => ?_) (fun c_3 => ?_)
  · replace hF := if_o c_3 hF
    refine lv_aload_n hx hb dX7_gate_11 rfl (lv_at hl 0 rfl) ?_
    refine va_get (D := D) (ci := 7) (v := .ref (aM 8)) (C := RX7) (T := TX7) (N := 38) hx hb hts hin_RX7 hown hK hP 0 rfl rfl 8 (by decide) hk_0 (fun _ h9 => h9) rfl dX7_gate_12 ?_
    refine lv_iload_n hx hb dX7_gate_15 rfl (lv_at hl 1 rfl) ?_
    replace hF := ald_i hF
    obtain ⟨hin_4, hF⟩ := hF
    refine va_iald hx hb hK hP 5 0 rfl rfl hin_4 dX7_gate_16 ?_
    refine lv_topi (fun x_5 ex_5 => ?_)
    replace hF := nm_i hF ex_5
    refine lv_if_ge (tgt := 23) hx hb dX7_gate_17 (by decide) (fun c_6 => ?_) (fun c_6 => ?_)
    · replace hF := if_i c_6 hF
      refine lv_aload_n hx hb dX7_gate_23 rfl (lv_at hl 0 rfl) ?_
      replace hF := bnd hF
      obtain ⟨zM_7, hc_8, hF⟩ := hF
      refine cl_Vv0 (As := []) (rest := []) ⟨hx, hb, hml, hown, hts⟩ (cwV 0 hts gX7_gate_X7_remember rfl rfl rfl (by decide +kernel) ⟨Nat.le_of_ble_eq_true rfl, Nat.le_of_ble_eq_true rfl⟩) (c_X7_remember l D ci aM H.size zM _ hc_8) hK hP hD hS hA 0 rfl rfl rfl rfl hl.1 (Nat.le_of_ble_eq_true rfl) dX7_gate_24 (Nat.zero_le _) (Nat.zero_le _) (fun H locs hP hD hS => ?_)
      have hP : va_P D vwCl (wcM ci aM zM_7) H := hP
      have hD : va_D A (wcM ci aM zM_7) := hD
      refine lv_aload_n hx hb dX7_gate_27 rfl (lv_at hl 0 rfl) ?_
      refine va_get (D := D) (ci := 7) (v := .ref (aM 8)) (C := RX7) (T := TX7) (N := 38) hx hb hts hin_RX7 hown hK hP 0 rfl rfl 8 (by decide) hk_0 (fun _ h9 => h9) rfl dX7_gate_28 ?_
      refine lv_bipush (v := 80) hx hb dX7_gate_31 (by decide) ?_
      refine lv_iload_n hx hb dX7_gate_33 rfl (lv_at hl 1 rfl) ?_
      refine lv_iadd hx hb dX7_gate_34 ?_
      replace hF := ald_i hF
      obtain ⟨hin_9, hF⟩ := hF
      refine va_iald hx hb hK hP 5 0 rfl rfl hin_9 dX7_gate_35 ?_
      refine lv_topi (fun x_10 ex_10 => ?_)
      replace hF := nm_i hF ex_10
      refine lv_istore_n (lv' := [(3, .int x_10), (0, .ref (aM 0)), (1, .int p1), (2, .int p2)]) hx hb dX7_gate_36 rfl hl (by decide) rfl (fun ls hl => ?_)
      refine lv_aload_n hx hb dX7_gate_37 rfl (lv_at hl 1 rfl) ?_
      refine va_get (D := D) (ci := 7) (v := .ref (aM 8)) (C := RX7) (T := TX7) (N := 38) hx hb hts hin_RX7 hown hK hP 0 rfl rfl 8 (by decide) hk_0 (fun _ h9 => h9) rfl dX7_gate_38 ?_
      refine lv_bipush (v := 80) hx hb dX7_gate_41 (by decide) ?_
      refine lv_iload_n hx hb dX7_gate_43 rfl (lv_at hl 2 rfl) ?_
      refine lv_iadd hx hb dX7_gate_44 ?_
      refine lv_iload_n hx hb dX7_gate_45 rfl (lv_at hl 3 rfl) ?_
      replace hF := bnd hF
      obtain ⟨t_11, hv_14, hF⟩ := hF
      refine jn (P := fun H locs ls => va_P D vwCl (wcM ci aM zM_7) H ∧ va_D A (wcM ci aM zM_7) ∧ va_S A s.heap H locs ∧ lv_has ls 4 [(0, .ref (aM 0)), (1, .int p1), (2, .int p2), (3, .int x_10)]) (pcJ := 54) (st := [.int t_11, .int (80 + p1), .ref (aM 8)]) ?_ ?_
      · intro H locs ls hJ
        obtain ⟨hP, hD, hS, hl⟩ := hJ
        replace hF := ast_i hF
        obtain ⟨hin_15, hF⟩ := hF
        refine va_iast (x := t_11) hx hb hK hP hD hS 5 0 rfl rfl hin_15 dX7_gate_54 (fun H locs hP hD hS => ?_)
        obtain ⟨zM_16, ezM_16⟩ : ∃ y : MS, y = (zM_7.1, va_up zM_7.2 8 (upd (zM_7.2 8) (Int32.toNatClampNeg (80 + p1)) t_11)) := ⟨_, rfl⟩
        replace hF := nm_i hF ezM_16
        have hP : va_P D vwCl (wcM ci aM zM_16) H := by rw [ezM_16]; exact hP
        have hD : va_D A (wcM ci aM zM_16) := by rw [ezM_16]; exact hD
        refine lv_iload_n hx hb dX7_gate_55 rfl (lv_at hl 3 rfl) ?_
        obtain rfl := Option.some.inj hF
        exact W.iret (v := x_10) hx hb hr (fun t ht hW => ⟨⟨_, (), rfl, rfl, by rw [ht]; exact hP, va_K.moved hW.alike hK, hD⟩, hS.F ht⟩) hS.2.2 dX7_gate_56
      · intro J_12
        clear hF
        have hF := hv_14
        refine lv_if_eq (tgt := 53) hx hb dX7_gate_46 (by decide) (fun c_13 => ?_) (fun c_13 => ?_)
        · replace hF := if_i c_13 hF
          refine lv_iconst (v := 0) hx hb dX7_gate_53 (by decide) ?_
          obtain rfl := Option.some.inj hF
          exact J_12 H locs ls ⟨hP, hD, hS, lv_sub hl [1, 2, 3, 0] rfl⟩
        · replace hF := if_o c_13 hF
          refine lv_iconst (v := 1) hx hb dX7_gate_49 (by decide) ?_
          refine lv_goto (tgt := 54) hx hb dX7_gate_50 (by decide) ?_
          obtain rfl := Option.some.inj hF
          exact J_12 H locs ls ⟨hP, hD, hS, lv_sub hl [1, 2, 3, 0] rfl⟩
    · replace hF := if_o c_6 hF
      refine lv_ldc (v := (-1000000003)) hx hb hown hk_2 dX7_gate_20 ?_
      obtain rfl := Option.some.inj hF
      exact W.iret (v := (-1000000003)) hx hb hr (fun t ht hW => ⟨⟨_, (), rfl, rfl, by rw [ht]; exact hP, va_K.moved hW.alike hK, hD⟩, hS.F ht⟩) hS.2.2 dX7_gate_22
  · replace hF := if_i c_3 hF
    refine lv_ldc (v := (-1000000001)) hx hb hown hk_3 dX7_gate_8 ?_
    obtain rfl := Option.some.inj hF
    exact W.iret (v := (-1000000001)) hx hb hr (fun t ht hW => ⟨⟨_, (), rfl, rfl, by rw [ht]; exact hP, va_K.moved hW.alike hK, hD⟩, hS.F ht⟩) hS.2.2 dX7_gate_10

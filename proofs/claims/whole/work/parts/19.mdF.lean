noncomputable def f_X7_root (zM : MS) (p1 : Int32) (p2 : Int32) : Option (Int32 × MS) := (f_X7_isEdge zM p1).bind fun r_1 => if r_1 = 0 then (some ((-1000000001 : Int32), zM)) else ((f_X7_in (Int32.toInt64 p2) (0 : Int64) (99 : Int64)).bind fun r_4 => if r_4 = 0 then (some ((-1000000002 : Int32), zM)) else (if (zM.1 29) = 6 then (some ((-1000000004 : Int32), zM)) else (ast 6 (zM.1 29) <| nm ((zM.1, va_up zM.2 30 (upd (zM.2 30) (Int32.toNatClampNeg (zM.1 29)) p1)) : MS) fun zM_9 => ast 6 (zM_9.1 29) <| nm ((zM_9.1, va_up zM_9.2 31 (upd (zM_9.2 31) (Int32.toNatClampNeg (zM_9.1 29)) p2)) : MS) fun zM_11 => nm ((zM_11.1 29) + 1) fun f29_12 => nm ((upd zM_11.1 29 f29_12, zM_11.2) : MS) fun zM_13 => some ((zM_13.1 29), zM_13))))
set_option maxHeartbeats 4000000 in
set_option maxRecDepth 100000 in
theorem c_X7_root (l : Launch) (D : va_G) (ci : Nat → ClassId) (aM : Nat → Nat) (sz : Nat) (zM : MS) (p1 : Int32) (p2 : Int32) (res : Int32 × MS) (hF : f_X7_root zM p1 p2 = some res) : CtI l yX7_root wsX7_root { frames := 2, cells := 0, slots := 0, locals := 46 } [.ref (aM 0), .int p1, .int p2] D ci (wcM ci aM zM) sz res.1 (wcM ci aM res.2) := by
  refine Met.ofW (cc := cX7_root) (maxL := 3) (ret := (some .int)) (by decide) rfl ?_
  intro p e s m args below meth c s₁ B hml hv
  obtain ⟨rfl, hsz, hP, hK, hD0⟩ := hv
  have hx := B.exec
  have hb := B.bytes
  have hr := B.returns
  have hts := atoms_spec (ws := wsX7_root) B.pre
  have hown : s.vm.findClass RX7 = some m.cls := findClass_of_methodNamed B.named
  have hlocks := B.notSynchronized
  subst hsz
  have hD := hD0.self (sz := s.heap.size)
  generalize hAe : va_A (wcM ci aM zM) s.heap.size = A at hD ⊢
  have hA : ∀ q : Nat, s.heap.size ≤ q → A q := fun q h => by rw [← hAe]; exact Or.inr h
  clear hD0 hAe
  have hl := lv_entry ([.ref (aM 0), .int p1, .int p2]) (n := 3) (Nat.le_of_ble_eq_true rfl)
  rw [lg_entry_eq]
  generalize (lg_sl ([.ref (aM 0), .int p1, .int p2]) ++ List.replicate (3 - (lg_sl ([.ref (aM 0), .int p1, .int p2])).length) Slot.unset).toArray = ls at hl ⊢
  have hl : lv_has ls 3 [(0, .ref (aM 0)), (1, .int p1), (2, .int p2)] := hl
  have hP : va_P D vwCl (wcM ci aM zM) s.heap := hP
  generalize hH0 : s.heap = H at hP ⊢
  have hS : va_S A s.heap H [] := by rw [← hH0]; exact va_S.rf
  clear hH0
  generalize ([] : List Loc) = locs at hS ⊢
  have hk_0 := hts (.constantLong RX7 290 (99)) (by decide +kernel)
  have hk_1 := hts (.fieldLink RX7 175 "HedgeWarModel" "roots" "I") (by decide +kernel)
  have hin_RX7 : ∀ w ∈ wsX70, w ∈ wsX7_root := by decide +kernel
  have hk_3 := hts (.fieldLink RX7 63 "HedgeWarModel" "rootAt" "[I") (by decide +kernel)
  have hk_4 := hts (.fieldLink RX7 66 "HedgeWarModel" "rootHigh" "[I") (by decide +kernel)
  have hk_5 := hts (.constant RX7 100 (-1000000004)) (by decide +kernel)
  have hk_6 := hts (.constant RX7 96 (-1000000002)) (by decide +kernel)
  have hk_7 := hts (.constant RX7 210 (-1000000001)) (by decide +kernel)
  unfold f_X7_root at hF
  refine lv_aload_n hx hb dX7_root_0 rfl (lv_at hl 0 rfl) ?_
  refine lv_iload_n hx hb dX7_root_1 rfl (lv_at hl 1 rfl) ?_
  replace hF := bnd hF
  obtain ⟨r_1, hc_2, hF⟩ := hF
  refine cl_Vi0 (As := [.int p1]) (rest := []) ⟨hx, hb, hml, hown, hts⟩ (cwV 1 hts gX7_root_X7_isEdge rfl rfl rfl (by decide +kernel) ⟨Nat.le_of_ble_eq_true rfl, Nat.le_of_ble_eq_true rfl⟩) (c_X7_isEdge l D ci aM H.size zM p1 _ hc_2) hK hP hD hS hA 0 rfl rfl rfl rfl hl.1 (Nat.le_of_ble_eq_true rfl) dX7_root_2 (Nat.zero_le _) (Nat.zero_le _) (fun H locs hP hD hS => ?_)
  have hP : va_P D vwCl (wcM ci aM zM) H := hP
  have hD : va_D A (wcM ci aM zM) := hD
  refine lv_if_ne (tgt := 11) hx hb dX7_root_5 (by decide) (fun c_3 => ?_) (fun c_3 => ?_)
  · replace hF := if_o c_3 hF
    refine lv_iload_n hx hb dX7_root_11 rfl (lv_at hl 2 rfl) ?_
    refine lv_i2l (v := (Int32.toInt64 p2)) hx hb dX7_root_12 rfl ?_
    refine lv_lconst (v := 0) hx hb dX7_root_13 (by decide) ?_
    refine lv_ldc2 (v := 99) hx hb hown hk_0 dX7_root_14 ?_
    replace hF := bnd hF
    obtain ⟨r_4, hc_5, hF⟩ := hF
    refine cl_Sie (As := [.long (Int32.toInt64 p2), .long 0, .long 99]) (rest := []) ⟨hx, hb, hml, hown, hts⟩ (va_cwS 3 hts gX7_root_X7_in rfl rfl rfl (by decide +kernel) ⟨Nat.le_of_ble_eq_true rfl, Nat.le_of_ble_eq_true rfl⟩) (c_X7_in l D ci  H.size (Int32.toInt64 p2) (0 : Int64) (99 : Int64) _ hc_5) hK hP hD hS hA rfl rfl hl.1 (Nat.le_of_ble_eq_true rfl) dX7_root_17 (Nat.zero_le _) (Nat.zero_le _) (fun H locs hP hD hS => ?_)
    have hP : va_P D vwCl (wcM ci aM zM) H := hP
    have hD : va_D A (wcM ci aM zM) := hD
    refine lv_if_ne (tgt := 26) hx hb dX7_root_20 (by decide) (fun c_6 => ?_) (fun c_6 => ?_)
    · replace hF := if_o c_6 hF
      refine lv_aload_n hx hb dX7_root_26 rfl (lv_at hl 0 rfl) ?_
      refine va_get (D := D) (ci := 7) (v := .int (zM.1 29)) (C := RX7) (T := TX7) (N := 38) hx hb hts hin_RX7 hown hK hP 0 rfl rfl 29 (by decide) hk_1 (fun _ h9 => h9) rfl dX7_root_27 ?_
      refine lv_bipush (v := 6) hx hb dX7_root_30 (by decide) ?_
      refine lv_icmp_ne (tgt := 38) hx hb dX7_root_32 (by decide) (fun c_7 => ?_) (fun c_7 => ?_)
      · replace hF := if_o c_7 hF
        refine lv_aload_n hx hb dX7_root_38 rfl (lv_at hl 0 rfl) ?_
        refine va_get (D := D) (ci := 7) (v := .ref (aM 30)) (C := RX7) (T := TX7) (N := 38) hx hb hts hin_RX7 hown hK hP 0 rfl rfl 30 (by decide) hk_3 (fun _ h9 => h9) rfl dX7_root_39 ?_
        refine lv_aload_n hx hb dX7_root_42 rfl (lv_at hl 0 rfl) ?_
        refine va_get (D := D) (ci := 7) (v := .int (zM.1 29)) (C := RX7) (T := TX7) (N := 38) hx hb hts hin_RX7 hown hK hP 0 rfl rfl 29 (by decide) hk_1 (fun _ h9 => h9) rfl dX7_root_43 ?_
        refine lv_iload_n hx hb dX7_root_46 rfl (lv_at hl 1 rfl) ?_
        replace hF := ast_i hF
        obtain ⟨hin_8, hF⟩ := hF
        refine va_iast (x := p1) hx hb hK hP hD hS 17 0 rfl rfl hin_8 dX7_root_47 (fun H locs hP hD hS => ?_)
        obtain ⟨zM_9, ezM_9⟩ : ∃ y : MS, y = (zM.1, va_up zM.2 30 (upd (zM.2 30) (Int32.toNatClampNeg (zM.1 29)) p1)) := ⟨_, rfl⟩
        replace hF := nm_i hF ezM_9
        have hP : va_P D vwCl (wcM ci aM zM_9) H := by rw [ezM_9]; exact hP
        have hD : va_D A (wcM ci aM zM_9) := by rw [ezM_9]; exact hD
        refine lv_aload_n hx hb dX7_root_48 rfl (lv_at hl 0 rfl) ?_
        refine va_get (D := D) (ci := 7) (v := .ref (aM 31)) (C := RX7) (T := TX7) (N := 38) hx hb hts hin_RX7 hown hK hP 0 rfl rfl 31 (by decide) hk_4 (fun _ h9 => h9) rfl dX7_root_49 ?_
        refine lv_aload_n hx hb dX7_root_52 rfl (lv_at hl 0 rfl) ?_
        refine va_get (D := D) (ci := 7) (v := .int (zM_9.1 29)) (C := RX7) (T := TX7) (N := 38) hx hb hts hin_RX7 hown hK hP 0 rfl rfl 29 (by decide) hk_1 (fun _ h9 => h9) rfl dX7_root_53 ?_
        refine lv_iload_n hx hb dX7_root_56 rfl (lv_at hl 2 rfl) ?_
        replace hF := ast_i hF
        obtain ⟨hin_10, hF⟩ := hF
        refine va_iast (x := p2) hx hb hK hP hD hS 18 0 rfl rfl hin_10 dX7_root_57 (fun H locs hP hD hS => ?_)
        obtain ⟨zM_11, ezM_11⟩ : ∃ y : MS, y = (zM_9.1, va_up zM_9.2 31 (upd (zM_9.2 31) (Int32.toNatClampNeg (zM_9.1 29)) p2)) := ⟨_, rfl⟩
        replace hF := nm_i hF ezM_11
        have hP : va_P D vwCl (wcM ci aM zM_11) H := by rw [ezM_11]; exact hP
        have hD : va_D A (wcM ci aM zM_11) := by rw [ezM_11]; exact hD
        refine lv_aload_n hx hb dX7_root_58 rfl (lv_at hl 0 rfl) ?_
        refine lv_dup hx hb dX7_root_59 rfl ?_
        refine va_get (D := D) (ci := 7) (v := .int (zM_11.1 29)) (C := RX7) (T := TX7) (N := 38) hx hb hts hin_RX7 hown hK hP 0 rfl rfl 29 (by decide) hk_1 (fun _ h9 => h9) rfl dX7_root_60 ?_
        refine lv_iconst (v := 1) hx hb dX7_root_63 (by decide) ?_
        refine lv_iadd hx hb dX7_root_64 ?_
        refine lv_topi (fun f29_12 ef29_12 => ?_)
        replace hF := nm_i hF ef29_12
        refine va_put (D := D) (ci := 7) (v := .int f29_12) (ty := .int) (C := RX7) (T := TX7) (N := 38) hx hb hts hin_RX7 tyX7 tyX7_ok nmX7 hown hK hP hD hS 0 rfl rfl 29 (by decide) hk_1 (fun _ h9 => h9) rfl (by decide +kernel) rfl rfl (Nat.le_of_ble_eq_true rfl) dX7_root_65 (fun H locs hP hD hS => ?_)
        obtain ⟨zM_13, ezM_13⟩ : ∃ y : MS, y = (upd zM_11.1 29 f29_12, zM_11.2) := ⟨_, rfl⟩
        replace hF := nm_i hF ezM_13
        have hP : va_P D vwCl (wcM ci aM zM_13) H := by rw [ezM_13]; exact hP
        have hD : va_D A (wcM ci aM zM_13) := by rw [ezM_13]; exact hD
        refine lv_aload_n hx hb dX7_root_68 rfl (lv_at hl 0 rfl) ?_
        refine va_get (D := D) (ci := 7) (v := .int (zM_13.1 29)) (C := RX7) (T := TX7) (N := 38) hx hb hts hin_RX7 hown hK hP 0 rfl rfl 29 (by decide) hk_1 (fun _ h9 => h9) rfl dX7_root_69 ?_
        obtain rfl := Option.some.inj hF
        exact W.iret (v := (zM_13.1 29)) hx hb hr (fun t ht hW => ⟨⟨_, (), rfl, rfl, by rw [ht]; exact hP, va_K.moved hW.alike hK, hD⟩, hS.F ht⟩) hS.2.2 dX7_root_72
      · replace hF := if_i c_7 hF
        refine lv_ldc (v := (-1000000004)) hx hb hown hk_5 dX7_root_35 ?_
        obtain rfl := Option.some.inj hF
        exact W.iret (v := (-1000000004)) hx hb hr (fun t ht hW => ⟨⟨_, (), rfl, rfl, by rw [ht]; exact hP, va_K.moved hW.alike hK, hD⟩, hS.F ht⟩) hS.2.2 dX7_root_37
    · replace hF := if_i c_6 hF
      refine lv_ldc (v := (-1000000002)) hx hb hown hk_6 dX7_root_23 ?_
      obtain rfl := Option.some.inj hF
      exact W.iret (v := (-1000000002)) hx hb hr (fun t ht hW => ⟨⟨_, (), rfl, rfl, by rw [ht]; exact hP, va_K.moved hW.alike hK, hD⟩, hS.F ht⟩) hS.2.2 dX7_root_25
  · replace hF := if_i c_3 hF
    refine lv_ldc (v := (-1000000001)) hx hb hown hk_7 dX7_root_8 ?_
    obtain rfl := Option.some.inj hF
    exact W.iret (v := (-1000000001)) hx hb hr (fun t ht hW => ⟨⟨_, (), rfl, rfl, by rw [ht]; exact hP, va_K.moved hW.alike hK, hD⟩, hS.F ht⟩) hS.2.2 dX7_root_10
noncomputable def L_X7_yearsAgo_15 (zM : MS) (v1_3 : Int32) (v2_4 : Int32) : Nat → Int32 → Int32 → Option (Int32 × Int32)
  | 0, _, _ => none
  | n + 1, v3_14, v4_15 => if (zM.1 29) ≤ v4_15 then (some (v3_14, v4_15)) else (if v3_14 = 0 then (nm (0 : Int32) fun v3_24 => nm (v4_15 + 1) fun v4_25 => L_X7_yearsAgo_15 zM v1_3 v2_4 n v3_24 v4_25) else (ald 6 (zM.2 30) v4_15 fun x_27 => (f_X7_heightBy zM x_27 v2_4).bind fun r_28 => ald 6 (zM.2 31) v4_15 fun x_31 => if r_28 = x_31 then (nm (1 : Int32) fun v3_35 => nm (v4_15 + 1) fun v4_36 => L_X7_yearsAgo_15 zM v1_3 v2_4 n v3_35 v4_36) else (nm (0 : Int32) fun v3_33 => nm (v4_15 + 1) fun v4_34 => L_X7_yearsAgo_15 zM v1_3 v2_4 n v3_33 v4_34)))
noncomputable def L_X7_yearsAgo_4 (zM : MS) : Nat → Int32 → Int32 → Option (Int32 × Int32)
  | 0, _, _ => none
  | n + 1, v1_3, v2_4 => if (21 : Int32) ≤ v2_4 then (some (v1_3, v2_4)) else (nm (1 : Int32) fun v3_12 => nm (0 : Int32) fun v4_13 => (L_X7_yearsAgo_15 zM v1_3 v2_4 3000 v3_12 v4_13).bind fun q_43 => nm q_43.1 fun v3_18 => nm q_43.2 fun v4_19 => if v3_18 = 0 then (nm (v1_3 ||| 0) fun v1_39 => nm (v2_4 + 1) fun v2_40 => L_X7_yearsAgo_4 zM n v1_39 v2_40) else (nm (v1_3 ||| ((1 : Int32) <<< (v2_4 &&& 31))) fun v1_41 => nm (v2_4 + 1) fun v2_42 => L_X7_yearsAgo_4 zM n v1_41 v2_42))
noncomputable def f_X7_yearsAgo (zM : MS) : Option (Int32) := nm (0 : Int32) fun v1_1 => nm (0 : Int32) fun v2_2 => (L_X7_yearsAgo_4 zM 3000 v1_1 v2_2).bind fun q_45 => nm q_45.1 fun v1_7 => nm q_45.2 fun v2_8 => some v1_7
set_option maxHeartbeats 4000000 in
set_option maxRecDepth 100000 in
theorem c_X7_yearsAgo (l : Launch) (D : va_G) (ci : Nat → ClassId) (aM : Nat → Nat) (sz : Nat) (zM : MS) (res : Int32) (hF : f_X7_yearsAgo zM = some res) : CtI l yX7_yearsAgo wsX7_yearsAgo { frames := 2, cells := 0, slots := 0, locals := 45 } [.ref (aM 0)] D ci (wcM ci aM zM) sz res (wcM ci aM zM) := by
  refine Met.ofW (cc := cX7_yearsAgo) (maxL := 5) (ret := (some .int)) (by decide) rfl ?_
  intro p e s m args below meth c s₁ B hml hv
  obtain ⟨rfl, hsz, hP, hK, hD0⟩ := hv
  have hx := B.exec
  have hb := B.bytes
  have hr := B.returns
  have hts := atoms_spec (ws := wsX7_yearsAgo) B.pre
  have hown : s.vm.findClass RX7 = some m.cls := findClass_of_methodNamed B.named
  have hlocks := B.notSynchronized
  subst hsz
  have hD := hD0.self (sz := s.heap.size)
  generalize hAe : va_A (wcM ci aM zM) s.heap.size = A at hD ⊢
  have hA : ∀ q : Nat, s.heap.size ≤ q → A q := fun q h => by rw [← hAe]; exact Or.inr h
  clear hD0 hAe
  have hl := lv_entry ([.ref (aM 0)]) (n := 5) (Nat.le_of_ble_eq_true rfl)
  rw [lg_entry_eq]
  generalize (lg_sl ([.ref (aM 0)]) ++ List.replicate (5 - (lg_sl ([.ref (aM 0)])).length) Slot.unset).toArray = ls at hl ⊢
  have hl : lv_has ls 5 [(0, .ref (aM 0))] := hl
  have hP : va_P D vwCl (wcM ci aM zM) s.heap := hP
  generalize hH0 : s.heap = H at hP ⊢
  have hS : va_S A s.heap H [] := by rw [← hH0]; exact va_S.rf
  clear hH0
  generalize ([] : List Loc) = locs at hS ⊢
  have hk_0 := hts (.fieldLink RX7 175 "HedgeWarModel" "roots" "I") (by decide +kernel)
  have hin_RX7 : ∀ w ∈ wsX70, w ∈ wsX7_yearsAgo := by decide +kernel
  have hk_2 := hts (.fieldLink RX7 63 "HedgeWarModel" "rootAt" "[I") (by decide +kernel)
  have hk_3 := hts (.fieldLink RX7 66 "HedgeWarModel" "rootHigh" "[I") (by decide +kernel)
  unfold f_X7_yearsAgo at hF
  refine lv_iconst (v := 0) hx hb dX7_yearsAgo_0 (by decide) ?_
  refine lv_topi (fun v1_1 ev1_1 => ?_)
  replace hF := nm_i hF ev1_1
  refine lv_istore_n (lv' := [(1, .int v1_1), (0, .ref (aM 0))]) hx hb dX7_yearsAgo_1 rfl hl (by decide) rfl (fun ls hl => ?_)
  refine lv_iconst (v := 0) hx hb dX7_yearsAgo_2 (by decide) ?_
  refine lv_topi (fun v2_2 ev2_2 => ?_)
  replace hF := nm_i hF ev2_2
  refine lv_istore_n (lv' := [(2, .int v2_2), (1, .int v1_1), (0, .ref (aM 0))]) hx hb dX7_yearsAgo_3 rfl hl (by decide) rfl (fun ls hl => ?_)
  replace hF := bnd hF
  obtain ⟨q_45, hv_44, hF⟩ := hF
  obtain ⟨v1_7, ev1_7⟩ : ∃ y : Int32, y = q_45.1 := ⟨_, rfl⟩
  replace hF := nm_i hF ev1_7
  obtain ⟨v2_8, ev2_8⟩ : ∃ y : Int32, y = q_45.2 := ⟨_, rfl⟩
  replace hF := nm_i hF ev2_8
  obtain rfl : q_45 = (v1_7, v2_8) := by rw [ev1_7, ev2_8]
  clear ev1_7
  clear ev2_8
  refine jn (P := fun H locs ls => va_P D vwCl (wcM ci aM zM) H ∧ va_D A (wcM ci aM zM) ∧ va_S A s.heap H locs ∧ lv_has ls 5 [(0, .ref (aM 0)), (1, .int v1_7), (2, .int v2_8)]) (pcJ := 82) (st := []) ?_ ?_
  · intro H locs ls hJ
    obtain ⟨hP, hD, hS, hl⟩ := hJ
    refine lv_iload_n hx hb dX7_yearsAgo_82 rfl (lv_at hl 1 rfl) ?_
    obtain rfl := Option.some.inj hF
    exact W.iret (v := v1_7) hx hb hr (fun t ht hW => ⟨⟨_, (), rfl, rfl, by rw [ht]; exact hP, va_K.moved hW.alike hK, hD⟩, hS.F ht⟩) hS.2.2 dX7_yearsAgo_83
  · intro J_6
    clear hF
    have hF := hv_44
    refine lpW (σ := Int32 × Int32) (I := fun n v H locs ls => L_X7_yearsAgo_4 zM n v.1 v.2 = some (v1_7, v2_8) ∧ va_P D vwCl (wcM ci aM zM) H ∧ va_D A (wcM ci aM zM) ∧ va_S A s.heap H locs ∧ lv_has ls 5 [(0, .ref (aM 0)), (1, .int v.1), (2, .int v.2)]) 3000 (v1_1, v2_2) (fun _ _ _ _ h => no_none h.1) ⟨hF, hP, hD, hS, lv_sub hl [2, 1, 0] rfl⟩ ?_
    clear hF hP hD hS hl
    intro n ih_5 vq H locs ls hI
    obtain ⟨v1_3, v2_4⟩ := vq
    obtain ⟨hF, hP, hD, hS, hl⟩ := hI
    have hP : va_P D vwCl (wcM ci aM zM) H := hP
    have hD : va_D A (wcM ci aM zM) := hD
    have hl : lv_has ls 5 [(0, .ref (aM 0)), (1, .int v1_3), (2, .int v2_4)] := hl
    replace hF : L_X7_yearsAgo_4 zM (n + 1) v1_3 v2_4 = some (v1_7, v2_8) := hF
    rw [L_X7_yearsAgo_4] at hF
    refine lv_iload_n hx hb dX7_yearsAgo_4 rfl (lv_at hl 2 rfl) ?_
    refine lv_bipush (v := 21) hx hb dX7_yearsAgo_5 (by decide) ?_
    refine lv_icmp_ge (tgt := 82) hx hb dX7_yearsAgo_7 (by decide) (fun c_9 => ?_) (fun c_9 => ?_)
    · replace hF := if_i c_9 hF
      obtain ⟨g_10, g_11⟩ : v1_3 = v1_7 ∧ v2_4 = v2_8 := by have h9 := Option.some.inj hF; simpa only [Prod.mk.injEq] using h9
      subst g_10
      subst g_11
      exact J_6 H locs ls ⟨hP, hD, hS, lv_sub hl [0, 1, 2] rfl⟩
    · replace hF := if_o c_9 hF
      refine lv_iconst (v := 1) hx hb dX7_yearsAgo_10 (by decide) ?_
      refine lv_topi (fun v3_12 ev3_12 => ?_)
      replace hF := nm_i hF ev3_12
      refine lv_istore_n (lv' := [(3, .int v3_12), (0, .ref (aM 0)), (1, .int v1_3), (2, .int v2_4)]) hx hb dX7_yearsAgo_11 rfl hl (by decide) rfl (fun ls hl => ?_)
      refine lv_iconst (v := 0) hx hb dX7_yearsAgo_12 (by decide) ?_
      refine lv_topi (fun v4_13 ev4_13 => ?_)
      replace hF := nm_i hF ev4_13
      refine lv_istore (lv' := [(4, .int v4_13), (3, .int v3_12), (0, .ref (aM 0)), (1, .int v1_3), (2, .int v2_4)]) hx hb dX7_yearsAgo_13 hl (by decide) rfl (fun ls hl => ?_)
      replace hF := bnd hF
      obtain ⟨q_43, hv_37, hF⟩ := hF
      obtain ⟨v3_18, ev3_18⟩ : ∃ y : Int32, y = q_43.1 := ⟨_, rfl⟩
      replace hF := nm_i hF ev3_18
      obtain ⟨v4_19, ev4_19⟩ : ∃ y : Int32, y = q_43.2 := ⟨_, rfl⟩
      replace hF := nm_i hF ev4_19
      obtain rfl : q_43 = (v3_18, v4_19) := by rw [ev3_18, ev4_19]
      clear ev3_18
      clear ev4_19
      refine jn (P := fun H locs ls => va_P D vwCl (wcM ci aM zM) H ∧ va_D A (wcM ci aM zM) ∧ va_S A s.heap H locs ∧ lv_has ls 5 [(0, .ref (aM 0)), (1, .int v1_3), (2, .int v2_4), (3, .int v3_18), (4, .int v4_19)]) (pcJ := 62) (st := []) ?_ ?_
      · intro H locs ls hJ
        obtain ⟨hP, hD, hS, hl⟩ := hJ
        refine lv_iload_n hx hb dX7_yearsAgo_62 rfl (lv_at hl 1 rfl) ?_
        refine lv_iload_n hx hb dX7_yearsAgo_63 rfl (lv_at hl 3 rfl) ?_
        refine lv_if_eq (tgt := 73) hx hb dX7_yearsAgo_64 (by decide) (fun c_38 => ?_) (fun c_38 => ?_)
        · replace hF := if_i c_38 hF
          refine lv_iconst (v := 0) hx hb dX7_yearsAgo_73 (by decide) ?_
          refine lv_ior hx hb dX7_yearsAgo_74 ?_
          refine lv_topi (fun v1_39 ev1_39 => ?_)
          replace hF := nm_i hF ev1_39
          refine lv_istore_n (lv' := [(1, .int v1_39), (0, .ref (aM 0)), (2, .int v2_4), (3, .int v3_18), (4, .int v4_19)]) hx hb dX7_yearsAgo_75 rfl hl (by decide) rfl (fun ls hl => ?_)
          obtain ⟨v2_40, ev2_40⟩ : ∃ y : Int32, y = v2_4 + 1 := ⟨_, rfl⟩
          replace hF := nm_i hF ev2_40
          refine lv_iinc (v := v2_40) (lv' := [(2, .int v2_40), (1, .int v1_39), (0, .ref (aM 0)), (3, .int v3_18), (4, .int v4_19)]) hx hb dX7_yearsAgo_76 hl (k := 2) rfl (by rw [ev2_40]; rfl) (by decide) rfl (fun ls hl => ?_)
          refine lv_goto (tgt := 4) hx hb dX7_yearsAgo_79 (by decide) ?_
          exact ih_5 (v1_39, v2_40) H locs ls ⟨hF, hP, hD, hS, lv_sub hl [2, 1, 0] rfl⟩
        · replace hF := if_o c_38 hF
          refine lv_iconst (v := 1) hx hb dX7_yearsAgo_67 (by decide) ?_
          refine lv_iload_n hx hb dX7_yearsAgo_68 rfl (lv_at hl 2 rfl) ?_
          refine lv_ishl hx hb dX7_yearsAgo_69 ?_
          refine lv_goto (tgt := 74) hx hb dX7_yearsAgo_70 (by decide) ?_
          refine lv_ior hx hb dX7_yearsAgo_74 ?_
          refine lv_topi (fun v1_41 ev1_41 => ?_)
          replace hF := nm_i hF ev1_41
          refine lv_istore_n (lv' := [(1, .int v1_41), (0, .ref (aM 0)), (2, .int v2_4), (3, .int v3_18), (4, .int v4_19)]) hx hb dX7_yearsAgo_75 rfl hl (by decide) rfl (fun ls hl => ?_)
          obtain ⟨v2_42, ev2_42⟩ : ∃ y : Int32, y = v2_4 + 1 := ⟨_, rfl⟩
          replace hF := nm_i hF ev2_42
          refine lv_iinc (v := v2_42) (lv' := [(2, .int v2_42), (1, .int v1_41), (0, .ref (aM 0)), (3, .int v3_18), (4, .int v4_19)]) hx hb dX7_yearsAgo_76 hl (k := 2) rfl (by rw [ev2_42]; rfl) (by decide) rfl (fun ls hl => ?_)
          refine lv_goto (tgt := 4) hx hb dX7_yearsAgo_79 (by decide) ?_
          exact ih_5 (v1_41, v2_42) H locs ls ⟨hF, hP, hD, hS, lv_sub hl [2, 1, 0] rfl⟩
      · intro J_17
        clear hF
        have hF := hv_37
        refine lpW (σ := Int32 × Int32) (I := fun n v H locs ls => L_X7_yearsAgo_15 zM v1_3 v2_4 n v.1 v.2 = some (v3_18, v4_19) ∧ va_P D vwCl (wcM ci aM zM) H ∧ va_D A (wcM ci aM zM) ∧ va_S A s.heap H locs ∧ lv_has ls 5 [(0, .ref (aM 0)), (1, .int v1_3), (2, .int v2_4), (3, .int v.1), (4, .int v.2)]) 3000 (v3_12, v4_13) (fun _ _ _ _ h => no_none h.1) ⟨hF, hP, hD, hS, lv_sub hl [2, 3, 4, 1, 0] rfl⟩ ?_
        clear hF hP hD hS hl
        intro n ih_16 vq H locs ls hI
        obtain ⟨v3_14, v4_15⟩ := vq
        obtain ⟨hF, hP, hD, hS, hl⟩ := hI
        have hP : va_P D vwCl (wcM ci aM zM) H := hP
        have hD : va_D A (wcM ci aM zM) := hD
        have hl : lv_has ls 5 [(0, .ref (aM 0)), (1, .int v1_3), (2, .int v2_4), (3, .int v3_14), (4, .int v4_15)] := hl
        replace hF : L_X7_yearsAgo_15 zM v1_3 v2_4 (n + 1) v3_14 v4_15 = some (v3_18, v4_19) := hF
        rw [L_X7_yearsAgo_15] at hF
        refine lv_iload hx hb dX7_yearsAgo_15 (lv_at hl 4 rfl) ?_
        refine lv_aload_n hx hb dX7_yearsAgo_17 rfl (lv_at hl 0 rfl) ?_
        refine va_get (D := D) (ci := 7) (v := .int (zM.1 29)) (C := RX7) (T := TX7) (N := 38) hx hb hts hin_RX7 hown hK hP 0 rfl rfl 29 (by decide) hk_0 (fun _ h9 => h9) rfl dX7_yearsAgo_18 ?_
        refine lv_icmp_ge (tgt := 62) hx hb dX7_yearsAgo_21 (by decide) (fun c_20 => ?_) (fun c_20 => ?_)
        · replace hF := if_i c_20 hF
          obtain ⟨g_21, g_22⟩ : v3_14 = v3_18 ∧ v4_15 = v4_19 := by have h9 := Option.some.inj hF; simpa only [Prod.mk.injEq] using h9
          subst g_21
          subst g_22
          exact J_17 H locs ls ⟨hP, hD, hS, lv_sub hl [0, 1, 2, 3, 4] rfl⟩
        · replace hF := if_o c_20 hF
          refine lv_iload_n hx hb dX7_yearsAgo_24 rfl (lv_at hl 3 rfl) ?_
          refine lv_if_eq (tgt := 54) hx hb dX7_yearsAgo_25 (by decide) (fun c_23 => ?_) (fun c_23 => ?_)
          · replace hF := if_i c_23 hF
            refine lv_iconst (v := 0) hx hb dX7_yearsAgo_54 (by decide) ?_
            refine lv_topi (fun v3_24 ev3_24 => ?_)
            replace hF := nm_i hF ev3_24
            refine lv_istore_n (lv' := [(3, .int v3_24), (0, .ref (aM 0)), (1, .int v1_3), (2, .int v2_4), (4, .int v4_15)]) hx hb dX7_yearsAgo_55 rfl hl (by decide) rfl (fun ls hl => ?_)
            obtain ⟨v4_25, ev4_25⟩ : ∃ y : Int32, y = v4_15 + 1 := ⟨_, rfl⟩
            replace hF := nm_i hF ev4_25
            refine lv_iinc (v := v4_25) (lv' := [(4, .int v4_25), (3, .int v3_24), (0, .ref (aM 0)), (1, .int v1_3), (2, .int v2_4)]) hx hb dX7_yearsAgo_56 hl (k := 4) rfl (by rw [ev4_25]; rfl) (by decide) rfl (fun ls hl => ?_)
            refine lv_goto (tgt := 15) hx hb dX7_yearsAgo_59 (by decide) ?_
            exact ih_16 (v3_24, v4_25) H locs ls ⟨hF, hP, hD, hS, lv_sub hl [2, 3, 4, 1, 0] rfl⟩
          · replace hF := if_o c_23 hF
            refine lv_aload_n hx hb dX7_yearsAgo_28 rfl (lv_at hl 0 rfl) ?_
            refine lv_aload_n hx hb dX7_yearsAgo_29 rfl (lv_at hl 0 rfl) ?_
            refine va_get (D := D) (ci := 7) (v := .ref (aM 30)) (C := RX7) (T := TX7) (N := 38) hx hb hts hin_RX7 hown hK hP 0 rfl rfl 30 (by decide) hk_2 (fun _ h9 => h9) rfl dX7_yearsAgo_30 ?_
            refine lv_iload hx hb dX7_yearsAgo_33 (lv_at hl 4 rfl) ?_
            replace hF := ald_i hF
            obtain ⟨hin_26, hF⟩ := hF
            refine va_iald hx hb hK hP 17 0 rfl rfl hin_26 dX7_yearsAgo_35 ?_
            refine lv_topi (fun x_27 ex_27 => ?_)
            replace hF := nm_i hF ex_27
            refine lv_iload_n hx hb dX7_yearsAgo_36 rfl (lv_at hl 2 rfl) ?_
            replace hF := bnd hF
            obtain ⟨r_28, hc_29, hF⟩ := hF
            refine cl_Vi0 (As := [.int x_27, .int v2_4]) (rest := []) ⟨hx, hb, hml, hown, hts⟩ (cwV 2 hts gX7_yearsAgo_X7_heightBy rfl rfl rfl (by decide +kernel) ⟨Nat.le_of_ble_eq_true rfl, Nat.le_of_ble_eq_true rfl⟩) (c_X7_heightBy l D ci aM H.size zM x_27 v2_4 _ hc_29) hK hP hD hS hA 0 rfl rfl rfl rfl hl.1 (Nat.le_of_ble_eq_true rfl) dX7_yearsAgo_37 (Nat.zero_le _) (Nat.zero_le _) (fun H locs hP hD hS => ?_)
            have hP : va_P D vwCl (wcM ci aM zM) H := hP
            have hD : va_D A (wcM ci aM zM) := hD
            refine lv_aload_n hx hb dX7_yearsAgo_40 rfl (lv_at hl 0 rfl) ?_
            refine va_get (D := D) (ci := 7) (v := .ref (aM 31)) (C := RX7) (T := TX7) (N := 38) hx hb hts hin_RX7 hown hK hP 0 rfl rfl 31 (by decide) hk_3 (fun _ h9 => h9) rfl dX7_yearsAgo_41 ?_
            refine lv_iload hx hb dX7_yearsAgo_44 (lv_at hl 4 rfl) ?_
            replace hF := ald_i hF
            obtain ⟨hin_30, hF⟩ := hF
            refine va_iald hx hb hK hP 18 0 rfl rfl hin_30 dX7_yearsAgo_46 ?_
            refine lv_topi (fun x_31 ex_31 => ?_)
            replace hF := nm_i hF ex_31
            refine lv_icmp_ne (tgt := 54) hx hb dX7_yearsAgo_47 (by decide) (fun c_32 => ?_) (fun c_32 => ?_)
            · replace hF := if_o c_32 hF
              refine lv_iconst (v := 0) hx hb dX7_yearsAgo_54 (by decide) ?_
              refine lv_topi (fun v3_33 ev3_33 => ?_)
              replace hF := nm_i hF ev3_33
              refine lv_istore_n (lv' := [(3, .int v3_33), (0, .ref (aM 0)), (1, .int v1_3), (2, .int v2_4), (4, .int v4_15)]) hx hb dX7_yearsAgo_55 rfl hl (by decide) rfl (fun ls hl => ?_)
              obtain ⟨v4_34, ev4_34⟩ : ∃ y : Int32, y = v4_15 + 1 := ⟨_, rfl⟩
              replace hF := nm_i hF ev4_34
              refine lv_iinc (v := v4_34) (lv' := [(4, .int v4_34), (3, .int v3_33), (0, .ref (aM 0)), (1, .int v1_3), (2, .int v2_4)]) hx hb dX7_yearsAgo_56 hl (k := 4) rfl (by rw [ev4_34]; rfl) (by decide) rfl (fun ls hl => ?_)
              refine lv_goto (tgt := 15) hx hb dX7_yearsAgo_59 (by decide) ?_
              exact ih_16 (v3_33, v4_34) H locs ls ⟨hF, hP, hD, hS, lv_sub hl [2, 3, 4, 1, 0] rfl⟩
            · replace hF := if_i c_32 hF
              refine lv_iconst (v := 1) hx hb dX7_yearsAgo_50 (by decide) ?_
              refine lv_goto (tgt := 55) hx hb dX7_yearsAgo_51 (by decide) ?_
              refine lv_topi (fun v3_35 ev3_35 => ?_)
              replace hF := nm_i hF ev3_35
              refine lv_istore_n (lv' := [(3, .int v3_35), (0, .ref (aM 0)), (1, .int v1_3), (2, .int v2_4), (4, .int v4_15)]) hx hb dX7_yearsAgo_55 rfl hl (by decide) rfl (fun ls hl => ?_)
              obtain ⟨v4_36, ev4_36⟩ : ∃ y : Int32, y = v4_15 + 1 := ⟨_, rfl⟩
              replace hF := nm_i hF ev4_36
              refine lv_iinc (v := v4_36) (lv' := [(4, .int v4_36), (3, .int v3_35), (0, .ref (aM 0)), (1, .int v1_3), (2, .int v2_4)]) hx hb dX7_yearsAgo_56 hl (k := 4) rfl (by rw [ev4_36]; rfl) (by decide) rfl (fun ls hl => ?_)
              refine lv_goto (tgt := 15) hx hb dX7_yearsAgo_59 (by decide) ?_
              exact ih_16 (v3_35, v4_36) H locs ls ⟨hF, hP, hD, hS, lv_sub hl [2, 3, 4, 1, 0] rfl⟩
noncomputable def f_X7_plantedAgo (zM : MS) : Option (Int32) := (f_X7_yearsAgo zM).bind fun r_1 => some r_1
set_option maxHeartbeats 4000000 in
set_option maxRecDepth 100000 in
theorem c_X7_plantedAgo (l : Launch) (D : va_G) (ci : Nat → ClassId) (aM : Nat → Nat) (sz : Nat) (zM : MS) (res : Int32) (hF : f_X7_plantedAgo zM = some res) : CtI l yX7_plantedAgo wsX7_plantedAgo { frames := 3, cells := 0, slots := 0, locals := 69 } [.ref (aM 0)] D ci (wcM ci aM zM) sz res (wcM ci aM zM) := by
  refine Met.ofW (cc := cX7_plantedAgo) (maxL := 1) (ret := (some .int)) (by decide) rfl ?_
  intro p e s m args below meth c s₁ B hml hv
  obtain ⟨rfl, hsz, hP, hK, hD0⟩ := hv
  have hx := B.exec
  have hb := B.bytes
  have hr := B.returns
  have hts := atoms_spec (ws := wsX7_plantedAgo) B.pre
  have hown : s.vm.findClass RX7 = some m.cls := findClass_of_methodNamed B.named
  have hlocks := B.notSynchronized
  subst hsz
  have hD := hD0.self (sz := s.heap.size)
  generalize hAe : va_A (wcM ci aM zM) s.heap.size = A at hD ⊢
  have hA : ∀ q : Nat, s.heap.size ≤ q → A q := fun q h => by rw [← hAe]; exact Or.inr h
  clear hD0 hAe
  have hl := lv_entry ([.ref (aM 0)]) (n := 1) (Nat.le_of_ble_eq_true rfl)
  rw [lg_entry_eq]
  generalize (lg_sl ([.ref (aM 0)]) ++ List.replicate (1 - (lg_sl ([.ref (aM 0)])).length) Slot.unset).toArray = ls at hl ⊢
  have hl : lv_has ls 1 [(0, .ref (aM 0))] := hl
  have hP : va_P D vwCl (wcM ci aM zM) s.heap := hP
  generalize hH0 : s.heap = H at hP ⊢
  have hS : va_S A s.heap H [] := by rw [← hH0]; exact va_S.rf
  clear hH0
  generalize ([] : List Loc) = locs at hS ⊢
  unfold f_X7_plantedAgo at hF
  refine lv_aload_n hx hb dX7_plantedAgo_0 rfl (lv_at hl 0 rfl) ?_
  replace hF := bnd hF
  obtain ⟨r_1, hc_2, hF⟩ := hF
  refine cl_Vi0 (As := []) (rest := []) ⟨hx, hb, hml, hown, hts⟩ (cwV 0 hts gX7_plantedAgo_X7_yearsAgo rfl rfl rfl (by decide +kernel) ⟨Nat.le_of_ble_eq_true rfl, Nat.le_of_ble_eq_true rfl⟩) (c_X7_yearsAgo l D ci aM H.size zM _ hc_2) hK hP hD hS hA 0 rfl rfl rfl rfl hl.1 (Nat.le_of_ble_eq_true rfl) dX7_plantedAgo_1 (Nat.zero_le _) (Nat.zero_le _) (fun H locs hP hD hS => ?_)
  have hP : va_P D vwCl (wcM ci aM zM) H := hP
  have hD : va_D A (wcM ci aM zM) := hD
  obtain rfl := Option.some.inj hF
  exact W.iret (v := r_1) hx hb hr (fun t ht hW => ⟨⟨_, (), rfl, rfl, by rw [ht]; exact hP, va_K.moved hW.alike hK, hD⟩, hS.F ht⟩) hS.2.2 dX7_plantedAgo_4
noncomputable def L_X7_greatestPart_2 (p1 : Int32) (p2 : Int32) : Nat → Int32 → MS → Option (Int32 × MS)
  | 0, _, _ => none
  | n + 1, v3_2, zM_3 => if (100 : Int32) ≤ v3_2 then (some (v3_2, zM_3)) else (ast 100 v3_2 <| nm ((zM_3.1, va_up zM_3.2 32 (upd (zM_3.2 32) (Int32.toNatClampNeg v3_2) 0)) : MS) fun zM_12 => nm (v3_2 + 1) fun v3_13 => L_X7_greatestPart_2 p1 p2 n v3_13 zM_12)
noncomputable def L_X7_greatestPart_26 (p1 : Int32) (p2 : Int32) : Nat → Int32 → Int32 → MS → Option (Int32 × Int32 × MS)
  | 0, _, _, _ => none
  | n + 1, v3_17, v4_18, zM_19 => if (21 : Int32) ≤ v4_18 then (some (v3_17, v4_18, zM_19)) else ((f_X7_has p2 v4_18).bind fun r_29 => if r_29 = 0 then (nm (v4_18 + 1) fun v4_32 => L_X7_greatestPart_26 p1 p2 n v3_17 v4_32 zM_19) else ((f_X7_heightBy zM_19 p1 v4_18).bind fun r_33 => ald 100 (zM_19.2 32) r_33 fun x_36 => nm (x_36 + 1) fun y_38 => ast 100 r_33 <| nm ((zM_19.1, va_up zM_19.2 32 (upd (zM_19.2 32) (Int32.toNatClampNeg r_33) y_38)) : MS) fun zM_39 => ald 100 (zM_39.2 32) r_33 fun x_41 => if x_41 ≤ v3_17 then (nm (v4_18 + 1) fun v4_43 => L_X7_greatestPart_26 p1 p2 n v3_17 v4_43 zM_39) else (ald 100 (zM_39.2 32) r_33 fun x_45 => nm (v4_18 + 1) fun v4_46 => L_X7_greatestPart_26 p1 p2 n x_45 v4_46 zM_39)))
noncomputable def f_X7_greatestPart (zM : MS) (p1 : Int32) (p2 : Int32) : Option (Int32 × MS) := nm (0 : Int32) fun v3_1 => (L_X7_greatestPart_2 p1 p2 3000 v3_1 zM).bind fun q_49 => nm q_49.1 fun v3_6 => nm q_49.2 fun zM_7 => nm (0 : Int32) fun v3_15 => nm (0 : Int32) fun v4_16 => (L_X7_greatestPart_26 p1 p2 3000 v3_15 v4_16 zM_7).bind fun q_48 => nm q_48.1 fun v3_22 => nm q_48.2.1 fun v4_23 => nm q_48.2.2 fun zM_24 => some (v3_22, zM_24)
set_option maxHeartbeats 4000000 in
set_option maxRecDepth 100000 in
theorem c_X7_greatestPart (l : Launch) (D : va_G) (ci : Nat → ClassId) (aM : Nat → Nat) (sz : Nat) (zM : MS) (p1 : Int32) (p2 : Int32) (res : Int32 × MS) (hF : f_X7_greatestPart zM p1 p2 = some res) : CtI l yX7_greatestPart wsX7_greatestPart { frames := 2, cells := 0, slots := 0, locals := 45 } [.ref (aM 0), .int p1, .int p2] D ci (wcM ci aM zM) sz res.1 (wcM ci aM res.2) := by
  refine Met.ofW (cc := cX7_greatestPart) (maxL := 6) (ret := (some .int)) (by decide) rfl ?_
  intro p e s m args below meth c s₁ B hml hv
  obtain ⟨rfl, hsz, hP, hK, hD0⟩ := hv
  have hx := B.exec
  have hb := B.bytes
  have hr := B.returns
  have hts := atoms_spec (ws := wsX7_greatestPart) B.pre
  have hown : s.vm.findClass RX7 = some m.cls := findClass_of_methodNamed B.named
  have hlocks := B.notSynchronized
  subst hsz
  have hD := hD0.self (sz := s.heap.size)
  generalize hAe : va_A (wcM ci aM zM) s.heap.size = A at hD ⊢
  have hA : ∀ q : Nat, s.heap.size ≤ q → A q := fun q h => by rw [← hAe]; exact Or.inr h
  clear hD0 hAe
  have hl := lv_entry ([.ref (aM 0), .int p1, .int p2]) (n := 6) (Nat.le_of_ble_eq_true rfl)
  rw [lg_entry_eq]
  generalize (lg_sl ([.ref (aM 0), .int p1, .int p2]) ++ List.replicate (6 - (lg_sl ([.ref (aM 0), .int p1, .int p2])).length) Slot.unset).toArray = ls at hl ⊢
  have hl : lv_has ls 6 [(0, .ref (aM 0)), (1, .int p1), (2, .int p2)] := hl
  have hP : va_P D vwCl (wcM ci aM zM) s.heap := hP
  generalize hH0 : s.heap = H at hP ⊢
  have hS : va_S A s.heap H [] := by rw [← hH0]; exact va_S.rf
  clear hH0
  generalize ([] : List Loc) = locs at hS ⊢
  have hk_0 := hts (.fieldLink RX7 69 "HedgeWarModel" "parts" "[I") (by decide +kernel)
  have hin_RX7 : ∀ w ∈ wsX70, w ∈ wsX7_greatestPart := by decide +kernel
  unfold f_X7_greatestPart at hF
  refine lv_iconst (v := 0) hx hb dX7_greatestPart_0 (by decide) ?_
  refine lv_topi (fun v3_1 ev3_1 => ?_)
  replace hF := nm_i hF ev3_1
  refine lv_istore_n (lv' := [(3, .int v3_1), (0, .ref (aM 0)), (1, .int p1), (2, .int p2)]) hx hb dX7_greatestPart_1 rfl hl (by decide) rfl (fun ls hl => ?_)
  replace hF := bnd hF
  obtain ⟨q_49, hv_14, hF⟩ := hF
  obtain ⟨v3_6, ev3_6⟩ : ∃ y : Int32, y = q_49.1 := ⟨_, rfl⟩
  replace hF := nm_i hF ev3_6
  obtain ⟨zM_7, ezM_7⟩ : ∃ y : MS, y = q_49.2 := ⟨_, rfl⟩
  replace hF := nm_i hF ezM_7
  obtain rfl : q_49 = (v3_6, zM_7) := by rw [ev3_6, ezM_7]
  clear ev3_6
  clear ezM_7
  refine jn (P := fun H locs ls => va_P D vwCl (wcM ci aM zM_7) H ∧ va_D A (wcM ci aM zM_7) ∧ va_S A s.heap H locs ∧ lv_has ls 6 [(0, .ref (aM 0)), (1, .int p1), (2, .int p2), (3, .int v3_6)]) (pcJ := 21) (st := []) ?_ ?_
  · intro H locs ls hJ
    obtain ⟨hP, hD, hS, hl⟩ := hJ
    refine lv_iconst (v := 0) hx hb dX7_greatestPart_21 (by decide) ?_
    refine lv_topi (fun v3_15 ev3_15 => ?_)
    replace hF := nm_i hF ev3_15
    refine lv_istore_n (lv' := [(3, .int v3_15), (0, .ref (aM 0)), (1, .int p1), (2, .int p2)]) hx hb dX7_greatestPart_22 rfl hl (by decide) rfl (fun ls hl => ?_)
    refine lv_iconst (v := 0) hx hb dX7_greatestPart_23 (by decide) ?_
    refine lv_topi (fun v4_16 ev4_16 => ?_)
    replace hF := nm_i hF ev4_16
    refine lv_istore (lv' := [(4, .int v4_16), (3, .int v3_15), (0, .ref (aM 0)), (1, .int p1), (2, .int p2)]) hx hb dX7_greatestPart_24 hl (by decide) rfl (fun ls hl => ?_)
    replace hF := bnd hF
    obtain ⟨q_48, hv_47, hF⟩ := hF
    obtain ⟨v3_22, ev3_22⟩ : ∃ y : Int32, y = q_48.1 := ⟨_, rfl⟩
    replace hF := nm_i hF ev3_22
    obtain ⟨v4_23, ev4_23⟩ : ∃ y : Int32, y = q_48.2.1 := ⟨_, rfl⟩
    replace hF := nm_i hF ev4_23
    obtain ⟨zM_24, ezM_24⟩ : ∃ y : MS, y = q_48.2.2 := ⟨_, rfl⟩
    replace hF := nm_i hF ezM_24
    obtain rfl : q_48 = (v3_22, v4_23, zM_24) := by rw [ev3_22, ev4_23, ezM_24]
    clear ev3_22
    clear ev4_23
    clear ezM_24
    refine jn (P := fun H locs ls => va_P D vwCl (wcM ci aM zM_24) H ∧ va_D A (wcM ci aM zM_24) ∧ va_S A s.heap H locs ∧ lv_has ls 6 [(0, .ref (aM 0)), (1, .int p1), (2, .int p2), (3, .int v3_22), (4, .int v4_23)]) (pcJ := 91) (st := []) ?_ ?_
    · intro H locs ls hJ
      obtain ⟨hP, hD, hS, hl⟩ := hJ
      refine lv_iload_n hx hb dX7_greatestPart_91 rfl (lv_at hl 3 rfl) ?_
      obtain rfl := Option.some.inj hF
      exact W.iret (v := v3_22) hx hb hr (fun t ht hW => ⟨⟨_, (), rfl, rfl, by rw [ht]; exact hP, va_K.moved hW.alike hK, hD⟩, hS.F ht⟩) hS.2.2 dX7_greatestPart_92
    · intro J_21
      clear hF
      have hF := hv_47
      refine lpW (σ := Int32 × Int32 × MS) (I := fun n v H locs ls => L_X7_greatestPart_26 p1 p2 n v.1 v.2.1 v.2.2 = some (v3_22, v4_23, zM_24) ∧ va_P D vwCl (wcM ci aM v.2.2) H ∧ va_D A (wcM ci aM v.2.2) ∧ va_S A s.heap H locs ∧ lv_has ls 6 [(0, .ref (aM 0)), (1, .int p1), (2, .int p2), (3, .int v.1), (4, .int v.2.1)]) 3000 (v3_15, v4_16, zM_7) (fun _ _ _ _ h => no_none h.1) ⟨hF, hP, hD, hS, lv_sub hl [2, 3, 4, 1, 0] rfl⟩ ?_
      clear hF hP hD hS hl
      intro n ih_20 vq H locs ls hI
      obtain ⟨v3_17, v4_18, zM_19⟩ := vq
      obtain ⟨hF, hP, hD, hS, hl⟩ := hI
      have hP : va_P D vwCl (wcM ci aM zM_19) H := hP
      have hD : va_D A (wcM ci aM zM_19) := hD
      have hl : lv_has ls 6 [(0, .ref (aM 0)), (1, .int p1), (2, .int p2), (3, .int v3_17), (4, .int v4_18)] := hl
      replace hF : L_X7_greatestPart_26 p1 p2 (n + 1) v3_17 v4_18 zM_19 = some (v3_22, v4_23, zM_24) := hF
      rw [L_X7_greatestPart_26] at hF
      refine lv_iload hx hb dX7_greatestPart_26 (lv_at hl 4 rfl) ?_
      refine lv_bipush (v := 21) hx hb dX7_greatestPart_28 (by decide) ?_
      refine lv_icmp_ge (tgt := 91) hx hb dX7_greatestPart_30 (by decide) (fun c_25 => ?_) (fun c_25 => ?_)
      · replace hF := if_i c_25 hF
        obtain ⟨g_26, g_27, g_28⟩ : v3_17 = v3_22 ∧ v4_18 = v4_23 ∧ zM_19 = zM_24 := by have h9 := Option.some.inj hF; simpa only [Prod.mk.injEq] using h9
        subst g_26
        subst g_27
        subst g_28
        exact J_21 H locs ls ⟨hP, hD, hS, lv_sub hl [0, 1, 2, 3, 4] rfl⟩
      · replace hF := if_o c_25 hF
        refine lv_iload_n hx hb dX7_greatestPart_33 rfl (lv_at hl 2 rfl) ?_
        refine lv_iload hx hb dX7_greatestPart_34 (lv_at hl 4 rfl) ?_
        replace hF := bnd hF
        obtain ⟨r_29, hc_30, hF⟩ := hF
        refine cl_Sie (As := [.int p2, .int v4_18]) (rest := []) ⟨hx, hb, hml, hown, hts⟩ (va_cwS 2 hts gX7_greatestPart_X7_has rfl rfl rfl (by decide +kernel) ⟨Nat.le_of_ble_eq_true rfl, Nat.le_of_ble_eq_true rfl⟩) (c_X7_has l D ci  H.size p2 v4_18 _ hc_30) hK hP hD hS hA rfl rfl hl.1 (Nat.le_of_ble_eq_true rfl) dX7_greatestPart_36 (Nat.zero_le _) (Nat.zero_le _) (fun H locs hP hD hS => ?_)
        have hP : va_P D vwCl (wcM ci aM zM_19) H := hP
        have hD : va_D A (wcM ci aM zM_19) := hD
        refine lv_if_eq (tgt := 85) hx hb dX7_greatestPart_39 (by decide) (fun c_31 => ?_) (fun c_31 => ?_)
        · replace hF := if_i c_31 hF
          obtain ⟨v4_32, ev4_32⟩ : ∃ y : Int32, y = v4_18 + 1 := ⟨_, rfl⟩
          replace hF := nm_i hF ev4_32
          refine lv_iinc (v := v4_32) (lv' := [(4, .int v4_32), (0, .ref (aM 0)), (1, .int p1), (2, .int p2), (3, .int v3_17)]) hx hb dX7_greatestPart_85 hl (k := 4) rfl (by rw [ev4_32]; rfl) (by decide) rfl (fun ls hl => ?_)
          refine lv_goto (tgt := 26) hx hb dX7_greatestPart_88 (by decide) ?_
          exact ih_20 (v3_17, v4_32, zM_19) H locs ls ⟨hF, hP, hD, hS, lv_sub hl [1, 2, 3, 4, 0] rfl⟩
        · replace hF := if_o c_31 hF
          refine lv_aload_n hx hb dX7_greatestPart_42 rfl (lv_at hl 0 rfl) ?_
          refine lv_iload_n hx hb dX7_greatestPart_43 rfl (lv_at hl 1 rfl) ?_
          refine lv_iload hx hb dX7_greatestPart_44 (lv_at hl 4 rfl) ?_
          replace hF := bnd hF
          obtain ⟨r_33, hc_34, hF⟩ := hF
          refine cl_Vi0 (As := [.int p1, .int v4_18]) (rest := []) ⟨hx, hb, hml, hown, hts⟩ (cwV 2 hts gX7_greatestPart_X7_heightBy rfl rfl rfl (by decide +kernel) ⟨Nat.le_of_ble_eq_true rfl, Nat.le_of_ble_eq_true rfl⟩) (c_X7_heightBy l D ci aM H.size zM_19 p1 v4_18 _ hc_34) hK hP hD hS hA 0 rfl rfl rfl rfl hl.1 (Nat.le_of_ble_eq_true rfl) dX7_greatestPart_46 (Nat.zero_le _) (Nat.zero_le _) (fun H locs hP hD hS => ?_)
          have hP : va_P D vwCl (wcM ci aM zM_19) H := hP
          have hD : va_D A (wcM ci aM zM_19) := hD
          refine lv_istore (lv' := [(5, .int r_33), (0, .ref (aM 0)), (1, .int p1), (2, .int p2), (3, .int v3_17), (4, .int v4_18)]) hx hb dX7_greatestPart_49 hl (by decide) rfl (fun ls hl => ?_)
          refine lv_aload_n hx hb dX7_greatestPart_51 rfl (lv_at hl 1 rfl) ?_
          refine va_get (D := D) (ci := 7) (v := .ref (aM 32)) (C := RX7) (T := TX7) (N := 38) hx hb hts hin_RX7 hown hK hP 0 rfl rfl 32 (by decide) hk_0 (fun _ h9 => h9) rfl dX7_greatestPart_52 ?_
          refine lv_iload hx hb dX7_greatestPart_55 (lv_at hl 0 rfl) ?_
          refine lv_dup2_11 hx hb dX7_greatestPart_57 rfl rfl ?_
          replace hF := ald_i hF
          obtain ⟨hin_35, hF⟩ := hF
          refine va_iald hx hb hK hP 19 0 rfl rfl hin_35 dX7_greatestPart_58 ?_
          refine lv_topi (fun x_36 ex_36 => ?_)
          replace hF := nm_i hF ex_36
          refine lv_iconst (v := 1) hx hb dX7_greatestPart_59 (by decide) ?_
          refine lv_iadd hx hb dX7_greatestPart_60 ?_
          refine lv_topi (fun y_38 ey_38 => ?_)
          replace hF := nm_i hF ey_38
          replace hF := ast_i hF
          obtain ⟨hin_37, hF⟩ := hF
          refine va_iast (x := y_38) hx hb hK hP hD hS 19 0 rfl rfl hin_37 dX7_greatestPart_61 (fun H locs hP hD hS => ?_)
          obtain ⟨zM_39, ezM_39⟩ : ∃ y : MS, y = (zM_19.1, va_up zM_19.2 32 (upd (zM_19.2 32) (Int32.toNatClampNeg r_33) y_38)) := ⟨_, rfl⟩
          replace hF := nm_i hF ezM_39
          have hP : va_P D vwCl (wcM ci aM zM_39) H := by rw [ezM_39]; exact hP
          have hD : va_D A (wcM ci aM zM_39) := by rw [ezM_39]; exact hD
          refine lv_aload_n hx hb dX7_greatestPart_62 rfl (lv_at hl 1 rfl) ?_
          refine va_get (D := D) (ci := 7) (v := .ref (aM 32)) (C := RX7) (T := TX7) (N := 38) hx hb hts hin_RX7 hown hK hP 0 rfl rfl 32 (by decide) hk_0 (fun _ h9 => h9) rfl dX7_greatestPart_63 ?_
          refine lv_iload hx hb dX7_greatestPart_66 (lv_at hl 0 rfl) ?_
          replace hF := ald_i hF
          obtain ⟨hin_40, hF⟩ := hF
          refine va_iald hx hb hK hP 19 0 rfl rfl hin_40 dX7_greatestPart_68 ?_
          refine lv_topi (fun x_41 ex_41 => ?_)
          replace hF := nm_i hF ex_41
          refine lv_iload_n hx hb dX7_greatestPart_69 rfl (lv_at hl 4 rfl) ?_
          refine lv_icmp_le (tgt := 83) hx hb dX7_greatestPart_70 (by decide) (fun c_42 => ?_) (fun c_42 => ?_)
          · replace hF := if_i c_42 hF
            refine lv_iload_n hx hb dX7_greatestPart_83 rfl (lv_at hl 4 rfl) ?_
            refine lv_istore_n (lv' := [(3, .int v3_17), (5, .int r_33), (0, .ref (aM 0)), (1, .int p1), (2, .int p2), (4, .int v4_18)]) hx hb dX7_greatestPart_84 rfl hl (by decide) rfl (fun ls hl => ?_)
            obtain ⟨v4_43, ev4_43⟩ : ∃ y : Int32, y = v4_18 + 1 := ⟨_, rfl⟩
            replace hF := nm_i hF ev4_43
            refine lv_iinc (v := v4_43) (lv' := [(4, .int v4_43), (3, .int v3_17), (5, .int r_33), (0, .ref (aM 0)), (1, .int p1), (2, .int p2)]) hx hb dX7_greatestPart_85 hl (k := 5) rfl (by rw [ev4_43]; rfl) (by decide) rfl (fun ls hl => ?_)
            refine lv_goto (tgt := 26) hx hb dX7_greatestPart_88 (by decide) ?_
            exact ih_20 (v3_17, v4_43, zM_39) H locs ls ⟨hF, hP, hD, hS, lv_sub hl [3, 4, 5, 1, 0] rfl⟩
          · replace hF := if_o c_42 hF
            refine lv_aload_n hx hb dX7_greatestPart_73 rfl (lv_at hl 1 rfl) ?_
            refine va_get (D := D) (ci := 7) (v := .ref (aM 32)) (C := RX7) (T := TX7) (N := 38) hx hb hts hin_RX7 hown hK hP 0 rfl rfl 32 (by decide) hk_0 (fun _ h9 => h9) rfl dX7_greatestPart_74 ?_
            refine lv_iload hx hb dX7_greatestPart_77 (lv_at hl 0 rfl) ?_
            replace hF := ald_i hF
            obtain ⟨hin_44, hF⟩ := hF
            refine va_iald hx hb hK hP 19 0 rfl rfl hin_44 dX7_greatestPart_79 ?_
            refine lv_topi (fun x_45 ex_45 => ?_)
            replace hF := nm_i hF ex_45
            refine lv_goto (tgt := 84) hx hb dX7_greatestPart_80 (by decide) ?_
            refine lv_istore_n (lv' := [(3, .int x_45), (5, .int r_33), (0, .ref (aM 0)), (1, .int p1), (2, .int p2), (4, .int v4_18)]) hx hb dX7_greatestPart_84 rfl hl (by decide) rfl (fun ls hl => ?_)
            obtain ⟨v4_46, ev4_46⟩ : ∃ y : Int32, y = v4_18 + 1 := ⟨_, rfl⟩
            replace hF := nm_i hF ev4_46
            refine lv_iinc (v := v4_46) (lv' := [(4, .int v4_46), (3, .int x_45), (5, .int r_33), (0, .ref (aM 0)), (1, .int p1), (2, .int p2)]) hx hb dX7_greatestPart_85 hl (k := 5) rfl (by rw [ev4_46]; rfl) (by decide) rfl (fun ls hl => ?_)
            refine lv_goto (tgt := 26) hx hb dX7_greatestPart_88 (by decide) ?_
            exact ih_20 (x_45, v4_46, zM_39) H locs ls ⟨hF, hP, hD, hS, lv_sub hl [3, 4, 5, 1, 0] rfl⟩
  · intro J_5
    clear hF
    have hF := hv_14
    refine lpW (σ := Int32 × MS) (I := fun n v H locs ls => L_X7_greatestPart_2 p1 p2 n v.1 v.2 = some (v3_6, zM_7) ∧ va_P D vwCl (wcM ci aM v.2) H ∧ va_D A (wcM ci aM v.2) ∧ va_S A s.heap H locs ∧ lv_has ls 6 [(0, .ref (aM 0)), (1, .int p1), (2, .int p2), (3, .int v.1)]) 3000 (v3_1, zM) (fun _ _ _ _ h => no_none h.1) ⟨hF, hP, hD, hS, lv_sub hl [1, 2, 3, 0] rfl⟩ ?_
    clear hF hP hD hS hl
    intro n ih_4 vq H locs ls hI
    obtain ⟨v3_2, zM_3⟩ := vq
    obtain ⟨hF, hP, hD, hS, hl⟩ := hI
    have hP : va_P D vwCl (wcM ci aM zM_3) H := hP
    have hD : va_D A (wcM ci aM zM_3) := hD
    have hl : lv_has ls 6 [(0, .ref (aM 0)), (1, .int p1), (2, .int p2), (3, .int v3_2)] := hl
    replace hF : L_X7_greatestPart_2 p1 p2 (n + 1) v3_2 zM_3 = some (v3_6, zM_7) := hF
    rw [L_X7_greatestPart_2] at hF
    refine lv_iload_n hx hb dX7_greatestPart_2 rfl (lv_at hl 3 rfl) ?_
    refine lv_bipush (v := 100) hx hb dX7_greatestPart_3 (by decide) ?_
    refine lv_icmp_ge (tgt := 21) hx hb dX7_greatestPart_5 (by decide) (fun c_8 => ?_) (fun c_8 => ?_)
    · replace hF := if_i c_8 hF
      obtain ⟨g_9, g_10⟩ : v3_2 = v3_6 ∧ zM_3 = zM_7 := by have h9 := Option.some.inj hF; simpa only [Prod.mk.injEq] using h9
      subst g_9
      subst g_10
      exact J_5 H locs ls ⟨hP, hD, hS, lv_sub hl [0, 1, 2, 3] rfl⟩
    · replace hF := if_o c_8 hF
      refine lv_aload_n hx hb dX7_greatestPart_8 rfl (lv_at hl 0 rfl) ?_
      refine va_get (D := D) (ci := 7) (v := .ref (aM 32)) (C := RX7) (T := TX7) (N := 38) hx hb hts hin_RX7 hown hK hP 0 rfl rfl 32 (by decide) hk_0 (fun _ h9 => h9) rfl dX7_greatestPart_9 ?_
      refine lv_iload_n hx hb dX7_greatestPart_12 rfl (lv_at hl 3 rfl) ?_
      refine lv_iconst (v := 0) hx hb dX7_greatestPart_13 (by decide) ?_
      replace hF := ast_i hF
      obtain ⟨hin_11, hF⟩ := hF
      refine va_iast (x := 0) hx hb hK hP hD hS 19 0 rfl rfl hin_11 dX7_greatestPart_14 (fun H locs hP hD hS => ?_)
      obtain ⟨zM_12, ezM_12⟩ : ∃ y : MS, y = (zM_3.1, va_up zM_3.2 32 (upd (zM_3.2 32) (Int32.toNatClampNeg v3_2) 0)) := ⟨_, rfl⟩
      replace hF := nm_i hF ezM_12
      have hP : va_P D vwCl (wcM ci aM zM_12) H := by rw [ezM_12]; exact hP
      have hD : va_D A (wcM ci aM zM_12) := by rw [ezM_12]; exact hD
      obtain ⟨v3_13, ev3_13⟩ : ∃ y : Int32, y = v3_2 + 1 := ⟨_, rfl⟩
      replace hF := nm_i hF ev3_13
      refine lv_iinc (v := v3_13) (lv' := [(3, .int v3_13), (0, .ref (aM 0)), (1, .int p1), (2, .int p2)]) hx hb dX7_greatestPart_15 hl (k := 3) rfl (by rw [ev3_13]; rfl) (by decide) rfl (fun ls hl => ?_)
      refine lv_goto (tgt := 2) hx hb dX7_greatestPart_18 (by decide) ?_
      exact ih_4 (v3_13, zM_12) H locs ls ⟨hF, hP, hD, hS, lv_sub hl [1, 2, 3, 0] rfl⟩
noncomputable def L_X7_lookAt_15 (r_1 : Int32) : Nat → Int32 → Int32 → Int32 → MS → Option (Int32 × Int32 × Int32 × MS)
  | 0, _, _, _, _ => none
  | n + 1, v2_7, v3_8, v4_9, zM_10 => if (zM_10.1 3) ≤ v4_9 then (some (v2_7, v3_8, v4_9, zM_10)) else ((f_X7_greatestPart zM_10 v4_9 r_1).bind fun q_25 => nm q_25.1 fun r_22 => nm q_25.2 fun zM_23 => (if v3_8 ≤ r_22 then (some (v2_7 : Int32)) else (some (v4_9 : Int32))).bind fun t_26 => if v3_8 ≤ r_22 then (nm (v4_9 + 1) fun v4_31 => L_X7_lookAt_15 r_1 n t_26 v3_8 v4_31 zM_23) else (nm (v4_9 + 1) fun v4_32 => L_X7_lookAt_15 r_1 n t_26 r_22 v4_32 zM_23))
noncomputable def f_X7_lookAt (zM : MS) : Option (Int32 × MS) := (f_X7_yearsAgo zM).bind fun r_1 => nm (-1 : Int32) fun v2_3 => (f_X7_bits r_1).bind fun r_4 => nm (0 : Int32) fun v4_6 => (L_X7_lookAt_15 r_1 3000 v2_3 r_4 v4_6 zM).bind fun q_34 => nm q_34.1 fun v2_13 => nm q_34.2.1 fun v3_14 => nm q_34.2.2.1 fun v4_15 => nm q_34.2.2.2 fun zM_16 => some (v2_13, zM_16)
set_option maxHeartbeats 4000000 in
set_option maxRecDepth 100000 in
theorem c_X7_lookAt (l : Launch) (D : va_G) (ci : Nat → ClassId) (aM : Nat → Nat) (sz : Nat) (zM : MS) (res : Int32 × MS) (hF : f_X7_lookAt zM = some res) : CtI l yX7_lookAt wsX7_lookAt { frames := 3, cells := 0, slots := 0, locals := 70 } [.ref (aM 0)] D ci (wcM ci aM zM) sz res.1 (wcM ci aM res.2) := by
  refine Met.ofW (cc := cX7_lookAt) (maxL := 6) (ret := (some .int)) (by decide) rfl ?_
  intro p e s m args below meth c s₁ B hml hv
  obtain ⟨rfl, hsz, hP, hK, hD0⟩ := hv
  have hx := B.exec
  have hb := B.bytes
  have hr := B.returns
  have hts := atoms_spec (ws := wsX7_lookAt) B.pre
  have hown : s.vm.findClass RX7 = some m.cls := findClass_of_methodNamed B.named
  have hlocks := B.notSynchronized
  subst hsz
  have hD := hD0.self (sz := s.heap.size)
  generalize hAe : va_A (wcM ci aM zM) s.heap.size = A at hD ⊢
  have hA : ∀ q : Nat, s.heap.size ≤ q → A q := fun q h => by rw [← hAe]; exact Or.inr h
  clear hD0 hAe
  have hl := lv_entry ([.ref (aM 0)]) (n := 6) (Nat.le_of_ble_eq_true rfl)
  rw [lg_entry_eq]
  generalize (lg_sl ([.ref (aM 0)]) ++ List.replicate (6 - (lg_sl ([.ref (aM 0)])).length) Slot.unset).toArray = ls at hl ⊢
  have hl : lv_has ls 6 [(0, .ref (aM 0))] := hl
  have hP : va_P D vwCl (wcM ci aM zM) s.heap := hP
  generalize hH0 : s.heap = H at hP ⊢
  have hS : va_S A s.heap H [] := by rw [← hH0]; exact va_S.rf
  clear hH0
  generalize ([] : List Loc) = locs at hS ⊢
  have hk_0 := hts (.fieldLink RX7 91 "HedgeWarModel" "edges" "I") (by decide +kernel)
  have hin_RX7 : ∀ w ∈ wsX70, w ∈ wsX7_lookAt := by decide +kernel
  unfold f_X7_lookAt at hF
  refine lv_aload_n hx hb dX7_lookAt_0 rfl (lv_at hl 0 rfl) ?_
  replace hF := bnd hF
  obtain ⟨r_1, hc_2, hF⟩ := hF
  refine cl_Vi0 (As := []) (rest := []) ⟨hx, hb, hml, hown, hts⟩ (cwV 0 hts gX7_lookAt_X7_yearsAgo rfl rfl rfl (by decide +kernel) ⟨Nat.le_of_ble_eq_true rfl, Nat.le_of_ble_eq_true rfl⟩) (c_X7_yearsAgo l D ci aM H.size zM _ hc_2) hK hP hD hS hA 0 rfl rfl rfl rfl hl.1 (Nat.le_of_ble_eq_true rfl) dX7_lookAt_1 (Nat.zero_le _) (Nat.zero_le _) (fun H locs hP hD hS => ?_)
  have hP : va_P D vwCl (wcM ci aM zM) H := hP
  have hD : va_D A (wcM ci aM zM) := hD
  refine lv_istore_n (lv' := [(1, .int r_1), (0, .ref (aM 0))]) hx hb dX7_lookAt_4 rfl hl (by decide) rfl (fun ls hl => ?_)
  refine lv_iconst (v := (-1)) hx hb dX7_lookAt_5 (by decide) ?_
  refine lv_topi (fun v2_3 ev2_3 => ?_)
  replace hF := nm_i hF ev2_3
  refine lv_istore_n (lv' := [(2, .int v2_3), (1, .int r_1), (0, .ref (aM 0))]) hx hb dX7_lookAt_6 rfl hl (by decide) rfl (fun ls hl => ?_)
  refine lv_iload_n hx hb dX7_lookAt_7 rfl (lv_at hl 1 rfl) ?_
  replace hF := bnd hF
  obtain ⟨r_4, hc_5, hF⟩ := hF
  refine cl_Sie (As := [.int r_1]) (rest := []) ⟨hx, hb, hml, hown, hts⟩ (va_cwS 1 hts gX7_lookAt_X7_bits rfl rfl rfl (by decide +kernel) ⟨Nat.le_of_ble_eq_true rfl, Nat.le_of_ble_eq_true rfl⟩) (c_X7_bits l D ci  H.size r_1 _ hc_5) hK hP hD hS hA rfl rfl hl.1 (Nat.le_of_ble_eq_true rfl) dX7_lookAt_8 (Nat.zero_le _) (Nat.zero_le _) (fun H locs hP hD hS => ?_)
  have hP : va_P D vwCl (wcM ci aM zM) H := hP
  have hD : va_D A (wcM ci aM zM) := hD
  refine lv_istore_n (lv' := [(3, .int r_4), (2, .int v2_3), (1, .int r_1), (0, .ref (aM 0))]) hx hb dX7_lookAt_11 rfl hl (by decide) rfl (fun ls hl => ?_)
  refine lv_iconst (v := 0) hx hb dX7_lookAt_12 (by decide) ?_
  refine lv_topi (fun v4_6 ev4_6 => ?_)
  replace hF := nm_i hF ev4_6
  refine lv_istore (lv' := [(4, .int v4_6), (3, .int r_4), (2, .int v2_3), (1, .int r_1), (0, .ref (aM 0))]) hx hb dX7_lookAt_13 hl (by decide) rfl (fun ls hl => ?_)
  replace hF := bnd hF
  obtain ⟨q_34, hv_33, hF⟩ := hF
  obtain ⟨v2_13, ev2_13⟩ : ∃ y : Int32, y = q_34.1 := ⟨_, rfl⟩
  replace hF := nm_i hF ev2_13
  obtain ⟨v3_14, ev3_14⟩ : ∃ y : Int32, y = q_34.2.1 := ⟨_, rfl⟩
  replace hF := nm_i hF ev3_14
  obtain ⟨v4_15, ev4_15⟩ : ∃ y : Int32, y = q_34.2.2.1 := ⟨_, rfl⟩
  replace hF := nm_i hF ev4_15
  obtain ⟨zM_16, ezM_16⟩ : ∃ y : MS, y = q_34.2.2.2 := ⟨_, rfl⟩
  replace hF := nm_i hF ezM_16
  obtain rfl : q_34 = (v2_13, v3_14, v4_15, zM_16) := by rw [ev2_13, ev3_14, ev4_15, ezM_16]
  clear ev2_13
  clear ev3_14
  clear ev4_15
  clear ezM_16
  refine jn (P := fun H locs ls => va_P D vwCl (wcM ci aM zM_16) H ∧ va_D A (wcM ci aM zM_16) ∧ va_S A s.heap H locs ∧ lv_has ls 6 [(0, .ref (aM 0)), (1, .int r_1), (2, .int v2_13), (3, .int v3_14), (4, .int v4_15)]) (pcJ := 65) (st := []) ?_ ?_
  · intro H locs ls hJ
    obtain ⟨hP, hD, hS, hl⟩ := hJ
    refine lv_iload_n hx hb dX7_lookAt_65 rfl (lv_at hl 2 rfl) ?_
    obtain rfl := Option.some.inj hF
    exact W.iret (v := v2_13) hx hb hr (fun t ht hW => ⟨⟨_, (), rfl, rfl, by rw [ht]; exact hP, va_K.moved hW.alike hK, hD⟩, hS.F ht⟩) hS.2.2 dX7_lookAt_66
  · intro J_12
    clear hF
    have hF := hv_33
    refine lpW (σ := Int32 × Int32 × Int32 × MS) (I := fun n v H locs ls => L_X7_lookAt_15 r_1 n v.1 v.2.1 v.2.2.1 v.2.2.2 = some (v2_13, v3_14, v4_15, zM_16) ∧ va_P D vwCl (wcM ci aM v.2.2.2) H ∧ va_D A (wcM ci aM v.2.2.2) ∧ va_S A s.heap H locs ∧ lv_has ls 6 [(0, .ref (aM 0)), (1, .int r_1), (2, .int v.1), (3, .int v.2.1), (4, .int v.2.2.1)]) 3000 (v2_3, r_4, v4_6, zM) (fun _ _ _ _ h => no_none h.1) ⟨hF, hP, hD, hS, lv_sub hl [4, 3, 2, 1, 0] rfl⟩ ?_
    clear hF hP hD hS hl
    intro n ih_11 vq H locs ls hI
    obtain ⟨v2_7, v3_8, v4_9, zM_10⟩ := vq
    obtain ⟨hF, hP, hD, hS, hl⟩ := hI
    have hP : va_P D vwCl (wcM ci aM zM_10) H := hP
    have hD : va_D A (wcM ci aM zM_10) := hD
    have hl : lv_has ls 6 [(0, .ref (aM 0)), (1, .int r_1), (2, .int v2_7), (3, .int v3_8), (4, .int v4_9)] := hl
    replace hF : L_X7_lookAt_15 r_1 (n + 1) v2_7 v3_8 v4_9 zM_10 = some (v2_13, v3_14, v4_15, zM_16) := hF
    rw [L_X7_lookAt_15] at hF
    refine lv_iload hx hb dX7_lookAt_15 (lv_at hl 4 rfl) ?_
    refine lv_aload_n hx hb dX7_lookAt_17 rfl (lv_at hl 0 rfl) ?_
    refine va_get (D := D) (ci := 7) (v := .int (zM_10.1 3)) (C := RX7) (T := TX7) (N := 38) hx hb hts hin_RX7 hown hK hP 0 rfl rfl 3 (by decide) hk_0 (fun _ h9 => h9) rfl dX7_lookAt_18 ?_
    refine lv_icmp_ge (tgt := 65) hx hb dX7_lookAt_21 (by decide) (fun c_17 => ?_) (fun c_17 => ?_)
    · replace hF := if_i c_17 hF
      obtain ⟨g_18, g_19, g_20, g_21⟩ : v2_7 = v2_13 ∧ v3_8 = v3_14 ∧ v4_9 = v4_15 ∧ zM_10 = zM_16 := by have h9 := Option.some.inj hF; simpa only [Prod.mk.injEq] using h9
      subst g_18
      subst g_19
      subst g_20
      subst g_21
      exact J_12 H locs ls ⟨hP, hD, hS, lv_sub hl [0, 1, 2, 3, 4] rfl⟩
    · replace hF := if_o c_17 hF
      refine lv_aload_n hx hb dX7_lookAt_24 rfl (lv_at hl 0 rfl) ?_
      refine lv_iload hx hb dX7_lookAt_25 (lv_at hl 4 rfl) ?_
      refine lv_iload_n hx hb dX7_lookAt_27 rfl (lv_at hl 1 rfl) ?_
      replace hF := bnd hF
      obtain ⟨q_25, hc_24, hF⟩ := hF
      obtain ⟨r_22, er_22⟩ : ∃ y : Int32, y = q_25.1 := ⟨_, rfl⟩
      replace hF := nm_i hF er_22
      obtain ⟨zM_23, ezM_23⟩ : ∃ y : MS, y = q_25.2 := ⟨_, rfl⟩
      replace hF := nm_i hF ezM_23
      obtain rfl : q_25 = (r_22, zM_23) := by rw [er_22, ezM_23]
      clear er_22
      clear ezM_23
      refine cl_Vi0 (As := [.int v4_9, .int r_1]) (rest := []) ⟨hx, hb, hml, hown, hts⟩ (cwV 2 hts gX7_lookAt_X7_greatestPart rfl rfl rfl (by decide +kernel) ⟨Nat.le_of_ble_eq_true rfl, Nat.le_of_ble_eq_true rfl⟩) (c_X7_greatestPart l D ci aM H.size zM_10 v4_9 r_1 _ hc_24) hK hP hD hS hA 0 rfl rfl rfl rfl hl.1 (Nat.le_of_ble_eq_true rfl) dX7_lookAt_28 (Nat.zero_le _) (Nat.zero_le _) (fun H locs hP hD hS => ?_)
      have hP : va_P D vwCl (wcM ci aM zM_23) H := hP
      have hD : va_D A (wcM ci aM zM_23) := hD
      refine lv_istore (lv' := [(5, .int r_22), (0, .ref (aM 0)), (1, .int r_1), (2, .int v2_7), (3, .int v3_8), (4, .int v4_9)]) hx hb dX7_lookAt_31 hl (by decide) rfl (fun ls hl => ?_)
      refine lv_iload hx hb dX7_lookAt_33 (lv_at hl 0 rfl) ?_
      refine lv_iload_n hx hb dX7_lookAt_35 rfl (lv_at hl 4 rfl) ?_
      replace hF := bnd hF
      obtain ⟨t_26, hv_29, hF⟩ := hF
      refine jn (P := fun H locs ls => va_P D vwCl (wcM ci aM zM_23) H ∧ va_D A (wcM ci aM zM_23) ∧ va_S A s.heap H locs ∧ lv_has ls 6 [(0, .ref (aM 0)), (1, .int r_1), (2, .int v2_7), (3, .int v3_8), (4, .int v4_9), (5, .int r_22)]) (pcJ := 45) (st := [.int t_26]) ?_ ?_
      · intro H locs ls hJ
        obtain ⟨hP, hD, hS, hl⟩ := hJ
        refine lv_istore_n (lv' := [(2, .int t_26), (0, .ref (aM 0)), (1, .int r_1), (3, .int v3_8), (4, .int v4_9), (5, .int r_22)]) hx hb dX7_lookAt_45 rfl hl (by decide) rfl (fun ls hl => ?_)
        refine lv_iload hx hb dX7_lookAt_46 (lv_at hl 5 rfl) ?_
        refine lv_iload_n hx hb dX7_lookAt_48 rfl (lv_at hl 3 rfl) ?_
        refine lv_icmp_ge (tgt := 57) hx hb dX7_lookAt_49 (by decide) (fun c_30 => ?_) (fun c_30 => ?_)
        · replace hF := if_i c_30 hF
          refine lv_iload_n hx hb dX7_lookAt_57 rfl (lv_at hl 3 rfl) ?_
          refine lv_istore_n (lv' := [(3, .int v3_8), (2, .int t_26), (0, .ref (aM 0)), (1, .int r_1), (4, .int v4_9), (5, .int r_22)]) hx hb dX7_lookAt_58 rfl hl (by decide) rfl (fun ls hl => ?_)
          obtain ⟨v4_31, ev4_31⟩ : ∃ y : Int32, y = v4_9 + 1 := ⟨_, rfl⟩
          replace hF := nm_i hF ev4_31
          refine lv_iinc (v := v4_31) (lv' := [(4, .int v4_31), (3, .int v3_8), (2, .int t_26), (0, .ref (aM 0)), (1, .int r_1), (5, .int r_22)]) hx hb dX7_lookAt_59 hl (k := 4) rfl (by rw [ev4_31]; rfl) (by decide) rfl (fun ls hl => ?_)
          refine lv_goto (tgt := 15) hx hb dX7_lookAt_62 (by decide) ?_
          exact ih_11 (t_26, v3_8, v4_31, zM_23) H locs ls ⟨hF, hP, hD, hS, lv_sub hl [3, 4, 2, 1, 0] rfl⟩
        · replace hF := if_o c_30 hF
          refine lv_iload hx hb dX7_lookAt_52 (lv_at hl 5 rfl) ?_
          refine lv_goto (tgt := 58) hx hb dX7_lookAt_54 (by decide) ?_
          refine lv_istore_n (lv' := [(3, .int r_22), (2, .int t_26), (0, .ref (aM 0)), (1, .int r_1), (4, .int v4_9), (5, .int r_22)]) hx hb dX7_lookAt_58 rfl hl (by decide) rfl (fun ls hl => ?_)
          obtain ⟨v4_32, ev4_32⟩ : ∃ y : Int32, y = v4_9 + 1 := ⟨_, rfl⟩
          replace hF := nm_i hF ev4_32
          refine lv_iinc (v := v4_32) (lv' := [(4, .int v4_32), (3, .int r_22), (2, .int t_26), (0, .ref (aM 0)), (1, .int r_1), (5, .int r_22)]) hx hb dX7_lookAt_59 hl (k := 4) rfl (by rw [ev4_32]; rfl) (by decide) rfl (fun ls hl => ?_)
          refine lv_goto (tgt := 15) hx hb dX7_lookAt_62 (by decide) ?_
          exact ih_11 (t_26, r_22, v4_32, zM_23) H locs ls ⟨hF, hP, hD, hS, lv_sub hl [3, 4, 2, 1, 0] rfl⟩
      · intro J_27
        clear hF
        have hF := hv_29
        refine lv_icmp_ge (tgt := 44) hx hb dX7_lookAt_36 (by decide) (fun c_28 => ?_) (fun c_28 => ?_)
        · replace hF := if_i c_28 hF
          refine lv_iload_n hx hb dX7_lookAt_44 rfl (lv_at hl 3 rfl) ?_
          obtain rfl := Option.some.inj hF
          exact J_27 H locs ls ⟨hP, hD, hS, lv_sub hl [1, 2, 3, 4, 5, 0] rfl⟩
        · replace hF := if_o c_28 hF
          refine lv_iload hx hb dX7_lookAt_39 (lv_at hl 5 rfl) ?_
          refine lv_goto (tgt := 45) hx hb dX7_lookAt_41 (by decide) ?_
          obtain rfl := Option.some.inj hF
          exact J_27 H locs ls ⟨hP, hD, hS, lv_sub hl [1, 2, 3, 4, 5, 0] rfl⟩
noncomputable def f_X7_write (zM : MS) (p1 : Int32) (p2 : Int32) : Option (Int32 × MS) := (f_X7_isField zM p1).bind fun r_1 => if r_1 = 0 then (some ((-1000000001 : Int32), zM)) else ((f_X7_isEstate p2).bind fun r_4 => if r_4 = 0 then (some ((-1000000001 : Int32), zM)) else (if (zM.1 33) = 15 then (some ((-1000000004 : Int32), zM)) else (ast 15 (zM.1 33) <| nm ((zM.1, va_up zM.2 34 (upd (zM.2 34) (Int32.toNatClampNeg (zM.1 33)) p1)) : MS) fun zM_9 => ast 15 (zM_9.1 33) <| nm ((zM_9.1, va_up zM_9.2 35 (upd (zM_9.2 35) (Int32.toNatClampNeg (zM_9.1 33)) p2)) : MS) fun zM_11 => nm ((zM_11.1 33) + 1) fun f33_12 => nm ((upd zM_11.1 33 f33_12, zM_11.2) : MS) fun zM_13 => some ((zM_13.1 33), zM_13))))
set_option maxHeartbeats 4000000 in
set_option maxRecDepth 100000 in
theorem c_X7_write (l : Launch) (D : va_G) (ci : Nat → ClassId) (aM : Nat → Nat) (sz : Nat) (zM : MS) (p1 : Int32) (p2 : Int32) (res : Int32 × MS) (hF : f_X7_write zM p1 p2 = some res) : CtI l yX7_write wsX7_write { frames := 2, cells := 0, slots := 0, locals := 46 } [.ref (aM 0), .int p1, .int p2] D ci (wcM ci aM zM) sz res.1 (wcM ci aM res.2) := by
  refine Met.ofW (cc := cX7_write) (maxL := 3) (ret := (some .int)) (by decide) rfl ?_
  intro p e s m args below meth c s₁ B hml hv
  obtain ⟨rfl, hsz, hP, hK, hD0⟩ := hv
  have hx := B.exec
  have hb := B.bytes
  have hr := B.returns
  have hts := atoms_spec (ws := wsX7_write) B.pre
  have hown : s.vm.findClass RX7 = some m.cls := findClass_of_methodNamed B.named
  have hlocks := B.notSynchronized
  subst hsz
  have hD := hD0.self (sz := s.heap.size)
  generalize hAe : va_A (wcM ci aM zM) s.heap.size = A at hD ⊢
  have hA : ∀ q : Nat, s.heap.size ≤ q → A q := fun q h => by rw [← hAe]; exact Or.inr h
  clear hD0 hAe
  have hl := lv_entry ([.ref (aM 0), .int p1, .int p2]) (n := 3) (Nat.le_of_ble_eq_true rfl)
  rw [lg_entry_eq]
  generalize (lg_sl ([.ref (aM 0), .int p1, .int p2]) ++ List.replicate (3 - (lg_sl ([.ref (aM 0), .int p1, .int p2])).length) Slot.unset).toArray = ls at hl ⊢
  have hl : lv_has ls 3 [(0, .ref (aM 0)), (1, .int p1), (2, .int p2)] := hl
  have hP : va_P D vwCl (wcM ci aM zM) s.heap := hP
  generalize hH0 : s.heap = H at hP ⊢
  have hS : va_S A s.heap H [] := by rw [← hH0]; exact va_S.rf
  clear hH0
  generalize ([] : List Loc) = locs at hS ⊢
  have hk_0 := hts (.constant RX7 210 (-1000000001)) (by decide +kernel)
  have hk_1 := hts (.fieldLink RX7 178 "HedgeWarModel" "booked" "I") (by decide +kernel)
  have hin_RX7 : ∀ w ∈ wsX70, w ∈ wsX7_write := by decide +kernel
  have hk_3 := hts (.fieldLink RX7 72 "HedgeWarModel" "bookField" "[I") (by decide +kernel)
  have hk_4 := hts (.fieldLink RX7 75 "HedgeWarModel" "bookWhose" "[I") (by decide +kernel)
  have hk_5 := hts (.constant RX7 100 (-1000000004)) (by decide +kernel)
  unfold f_X7_write at hF
  refine lv_aload_n hx hb dX7_write_0 rfl (lv_at hl 0 rfl) ?_
  refine lv_iload_n hx hb dX7_write_1 rfl (lv_at hl 1 rfl) ?_
  replace hF := bnd hF
  obtain ⟨r_1, hc_2, hF⟩ := hF
  refine cl_Vi0 (As := [.int p1]) (rest := []) ⟨hx, hb, hml, hown, hts⟩ (cwV 1 hts gX7_write_X7_isField rfl rfl rfl (by decide +kernel) ⟨Nat.le_of_ble_eq_true rfl, Nat.le_of_ble_eq_true rfl⟩) (c_X7_isField l D ci aM H.size zM p1 _ hc_2) hK hP hD hS hA 0 rfl rfl rfl rfl hl.1 (Nat.le_of_ble_eq_true rfl) dX7_write_2 (Nat.zero_le _) (Nat.zero_le _) (fun H locs hP hD hS => ?_)
  have hP : va_P D vwCl (wcM ci aM zM) H := hP
  have hD : va_D A (wcM ci aM zM) := hD
  refine lv_if_eq (tgt := 15) hx hb dX7_write_5 (by decide) (fun c_3 => ?_) (fun c_3 => ?_)
  · replace hF := if_i c_3 hF
    refine lv_ldc (v := (-1000000001)) hx hb hown hk_0 dX7_write_15 ?_
    obtain rfl := Option.some.inj hF
    exact W.iret (v := (-1000000001)) hx hb hr (fun t ht hW => ⟨⟨_, (), rfl, rfl, by rw [ht]; exact hP, va_K.moved hW.alike hK, hD⟩, hS.F ht⟩) hS.2.2 dX7_write_17
  · replace hF := if_o c_3 hF
    refine lv_iload_n hx hb dX7_write_8 rfl (lv_at hl 2 rfl) ?_
    replace hF := bnd hF
    obtain ⟨r_4, hc_5, hF⟩ := hF
    refine cl_Sie (As := [.int p2]) (rest := []) ⟨hx, hb, hml, hown, hts⟩ (va_cwS 1 hts gX7_write_X7_isEstate rfl rfl rfl (by decide +kernel) ⟨Nat.le_of_ble_eq_true rfl, Nat.le_of_ble_eq_true rfl⟩) (c_X7_isEstate l D ci  H.size p2 _ hc_5) hK hP hD hS hA rfl rfl hl.1 (Nat.le_of_ble_eq_true rfl) dX7_write_9 (Nat.zero_le _) (Nat.zero_le _) (fun H locs hP hD hS => ?_)
    have hP : va_P D vwCl (wcM ci aM zM) H := hP
    have hD : va_D A (wcM ci aM zM) := hD
    refine lv_if_ne (tgt := 18) hx hb dX7_write_12 (by decide) (fun c_6 => ?_) (fun c_6 => ?_)
    · replace hF := if_o c_6 hF
      refine lv_aload_n hx hb dX7_write_18 rfl (lv_at hl 0 rfl) ?_
      refine va_get (D := D) (ci := 7) (v := .int (zM.1 33)) (C := RX7) (T := TX7) (N := 38) hx hb hts hin_RX7 hown hK hP 0 rfl rfl 33 (by decide) hk_1 (fun _ h9 => h9) rfl dX7_write_19 ?_
      refine lv_bipush (v := 15) hx hb dX7_write_22 (by decide) ?_
      refine lv_icmp_ne (tgt := 30) hx hb dX7_write_24 (by decide) (fun c_7 => ?_) (fun c_7 => ?_)
      · replace hF := if_o c_7 hF
        refine lv_aload_n hx hb dX7_write_30 rfl (lv_at hl 0 rfl) ?_
        refine va_get (D := D) (ci := 7) (v := .ref (aM 34)) (C := RX7) (T := TX7) (N := 38) hx hb hts hin_RX7 hown hK hP 0 rfl rfl 34 (by decide) hk_3 (fun _ h9 => h9) rfl dX7_write_31 ?_
        refine lv_aload_n hx hb dX7_write_34 rfl (lv_at hl 0 rfl) ?_
        refine va_get (D := D) (ci := 7) (v := .int (zM.1 33)) (C := RX7) (T := TX7) (N := 38) hx hb hts hin_RX7 hown hK hP 0 rfl rfl 33 (by decide) hk_1 (fun _ h9 => h9) rfl dX7_write_35 ?_
        refine lv_iload_n hx hb dX7_write_38 rfl (lv_at hl 1 rfl) ?_
        replace hF := ast_i hF
        obtain ⟨hin_8, hF⟩ := hF
        refine va_iast (x := p1) hx hb hK hP hD hS 20 0 rfl rfl hin_8 dX7_write_39 (fun H locs hP hD hS => ?_)
        obtain ⟨zM_9, ezM_9⟩ : ∃ y : MS, y = (zM.1, va_up zM.2 34 (upd (zM.2 34) (Int32.toNatClampNeg (zM.1 33)) p1)) := ⟨_, rfl⟩
        replace hF := nm_i hF ezM_9
        have hP : va_P D vwCl (wcM ci aM zM_9) H := by rw [ezM_9]; exact hP
        have hD : va_D A (wcM ci aM zM_9) := by rw [ezM_9]; exact hD
        refine lv_aload_n hx hb dX7_write_40 rfl (lv_at hl 0 rfl) ?_
        refine va_get (D := D) (ci := 7) (v := .ref (aM 35)) (C := RX7) (T := TX7) (N := 38) hx hb hts hin_RX7 hown hK hP 0 rfl rfl 35 (by decide) hk_4 (fun _ h9 => h9) rfl dX7_write_41 ?_
        refine lv_aload_n hx hb dX7_write_44 rfl (lv_at hl 0 rfl) ?_
        refine va_get (D := D) (ci := 7) (v := .int (zM_9.1 33)) (C := RX7) (T := TX7) (N := 38) hx hb hts hin_RX7 hown hK hP 0 rfl rfl 33 (by decide) hk_1 (fun _ h9 => h9) rfl dX7_write_45 ?_
        refine lv_iload_n hx hb dX7_write_48 rfl (lv_at hl 2 rfl) ?_
        replace hF := ast_i hF
        obtain ⟨hin_10, hF⟩ := hF
        refine va_iast (x := p2) hx hb hK hP hD hS 21 0 rfl rfl hin_10 dX7_write_49 (fun H locs hP hD hS => ?_)
        obtain ⟨zM_11, ezM_11⟩ : ∃ y : MS, y = (zM_9.1, va_up zM_9.2 35 (upd (zM_9.2 35) (Int32.toNatClampNeg (zM_9.1 33)) p2)) := ⟨_, rfl⟩
        replace hF := nm_i hF ezM_11
        have hP : va_P D vwCl (wcM ci aM zM_11) H := by rw [ezM_11]; exact hP
        have hD : va_D A (wcM ci aM zM_11) := by rw [ezM_11]; exact hD
        refine lv_aload_n hx hb dX7_write_50 rfl (lv_at hl 0 rfl) ?_
        refine lv_dup hx hb dX7_write_51 rfl ?_
        refine va_get (D := D) (ci := 7) (v := .int (zM_11.1 33)) (C := RX7) (T := TX7) (N := 38) hx hb hts hin_RX7 hown hK hP 0 rfl rfl 33 (by decide) hk_1 (fun _ h9 => h9) rfl dX7_write_52 ?_
        refine lv_iconst (v := 1) hx hb dX7_write_55 (by decide) ?_
        refine lv_iadd hx hb dX7_write_56 ?_
        refine lv_topi (fun f33_12 ef33_12 => ?_)
        replace hF := nm_i hF ef33_12
        refine va_put (D := D) (ci := 7) (v := .int f33_12) (ty := .int) (C := RX7) (T := TX7) (N := 38) hx hb hts hin_RX7 tyX7 tyX7_ok nmX7 hown hK hP hD hS 0 rfl rfl 33 (by decide) hk_1 (fun _ h9 => h9) rfl (by decide +kernel) rfl rfl (Nat.le_of_ble_eq_true rfl) dX7_write_57 (fun H locs hP hD hS => ?_)
        obtain ⟨zM_13, ezM_13⟩ : ∃ y : MS, y = (upd zM_11.1 33 f33_12, zM_11.2) := ⟨_, rfl⟩
        replace hF := nm_i hF ezM_13
        have hP : va_P D vwCl (wcM ci aM zM_13) H := by rw [ezM_13]; exact hP
        have hD : va_D A (wcM ci aM zM_13) := by rw [ezM_13]; exact hD
        refine lv_aload_n hx hb dX7_write_60 rfl (lv_at hl 0 rfl) ?_
        refine va_get (D := D) (ci := 7) (v := .int (zM_13.1 33)) (C := RX7) (T := TX7) (N := 38) hx hb hts hin_RX7 hown hK hP 0 rfl rfl 33 (by decide) hk_1 (fun _ h9 => h9) rfl dX7_write_61 ?_
        obtain rfl := Option.some.inj hF
        exact W.iret (v := (zM_13.1 33)) hx hb hr (fun t ht hW => ⟨⟨_, (), rfl, rfl, by rw [ht]; exact hP, va_K.moved hW.alike hK, hD⟩, hS.F ht⟩) hS.2.2 dX7_write_64
      · replace hF := if_i c_7 hF
        refine lv_ldc (v := (-1000000004)) hx hb hown hk_5 dX7_write_27 ?_
        obtain rfl := Option.some.inj hF
        exact W.iret (v := (-1000000004)) hx hb hr (fun t ht hW => ⟨⟨_, (), rfl, rfl, by rw [ht]; exact hP, va_K.moved hW.alike hK, hD⟩, hS.F ht⟩) hS.2.2 dX7_write_29
    · replace hF := if_i c_6 hF
      refine lv_ldc (v := (-1000000001)) hx hb hown hk_0 dX7_write_15 ?_
      obtain rfl := Option.some.inj hF
      exact W.iret (v := (-1000000001)) hx hb hr (fun t ht hW => ⟨⟨_, (), rfl, rfl, by rw [ht]; exact hP, va_K.moved hW.alike hK, hD⟩, hS.F ht⟩) hS.2.2 dX7_write_17
noncomputable def f_X7_tear (zM : MS) : Option (Int32 × MS) := nm ((zM.1 29) + (zM.1 33)) fun v1_1 => nm ((upd zM.1 29 0, zM.2) : MS) fun zM_2 => nm ((upd zM_2.1 33 0, zM_2.2) : MS) fun zM_3 => some (v1_1, zM_3)
set_option maxHeartbeats 4000000 in
set_option maxRecDepth 100000 in
theorem c_X7_tear (l : Launch) (D : va_G) (ci : Nat → ClassId) (aM : Nat → Nat) (sz : Nat) (zM : MS) (res : Int32 × MS) (hF : f_X7_tear zM = some res) : CtI l yX7_tear wsX7_tear { frames := 0, cells := 0, slots := 0, locals := 0 } [.ref (aM 0)] D ci (wcM ci aM zM) sz res.1 (wcM ci aM res.2) := by
  refine Met.ofW (cc := cX7_tear) (maxL := 2) (ret := (some .int)) (by decide) rfl ?_
  intro p e s m args below meth c s₁ B hml hv
  obtain ⟨rfl, hsz, hP, hK, hD0⟩ := hv
  have hx := B.exec
  have hb := B.bytes
  have hr := B.returns
  have hts := atoms_spec (ws := wsX7_tear) B.pre
  have hown : s.vm.findClass RX7 = some m.cls := findClass_of_methodNamed B.named
  have hlocks := B.notSynchronized
  subst hsz
  have hD := hD0.self (sz := s.heap.size)
  generalize hAe : va_A (wcM ci aM zM) s.heap.size = A at hD ⊢
  have hA : ∀ q : Nat, s.heap.size ≤ q → A q := fun q h => by rw [← hAe]; exact Or.inr h
  clear hD0 hAe
  have hl := lv_entry ([.ref (aM 0)]) (n := 2) (Nat.le_of_ble_eq_true rfl)
  rw [lg_entry_eq]
  generalize (lg_sl ([.ref (aM 0)]) ++ List.replicate (2 - (lg_sl ([.ref (aM 0)])).length) Slot.unset).toArray = ls at hl ⊢
  have hl : lv_has ls 2 [(0, .ref (aM 0))] := hl
  have hP : va_P D vwCl (wcM ci aM zM) s.heap := hP
  generalize hH0 : s.heap = H at hP ⊢
  have hS : va_S A s.heap H [] := by rw [← hH0]; exact va_S.rf
  clear hH0
  generalize ([] : List Loc) = locs at hS ⊢
  have hk_0 := hts (.fieldLink RX7 175 "HedgeWarModel" "roots" "I") (by decide +kernel)
  have hin_RX7 : ∀ w ∈ wsX70, w ∈ wsX7_tear := by decide +kernel
  have hk_2 := hts (.fieldLink RX7 178 "HedgeWarModel" "booked" "I") (by decide +kernel)
  unfold f_X7_tear at hF
  refine lv_aload_n hx hb dX7_tear_0 rfl (lv_at hl 0 rfl) ?_
  refine va_get (D := D) (ci := 7) (v := .int (zM.1 29)) (C := RX7) (T := TX7) (N := 38) hx hb hts hin_RX7 hown hK hP 0 rfl rfl 29 (by decide) hk_0 (fun _ h9 => h9) rfl dX7_tear_1 ?_
  refine lv_aload_n hx hb dX7_tear_4 rfl (lv_at hl 0 rfl) ?_
  refine va_get (D := D) (ci := 7) (v := .int (zM.1 33)) (C := RX7) (T := TX7) (N := 38) hx hb hts hin_RX7 hown hK hP 0 rfl rfl 33 (by decide) hk_2 (fun _ h9 => h9) rfl dX7_tear_5 ?_
  refine lv_iadd hx hb dX7_tear_8 ?_
  refine lv_topi (fun v1_1 ev1_1 => ?_)
  replace hF := nm_i hF ev1_1
  refine lv_istore_n (lv' := [(1, .int v1_1), (0, .ref (aM 0))]) hx hb dX7_tear_9 rfl hl (by decide) rfl (fun ls hl => ?_)
  refine lv_aload_n hx hb dX7_tear_10 rfl (lv_at hl 1 rfl) ?_
  refine lv_iconst (v := 0) hx hb dX7_tear_11 (by decide) ?_
  refine va_put (D := D) (ci := 7) (v := .int 0) (ty := .int) (C := RX7) (T := TX7) (N := 38) hx hb hts hin_RX7 tyX7 tyX7_ok nmX7 hown hK hP hD hS 0 rfl rfl 29 (by decide) hk_0 (fun _ h9 => h9) rfl (by decide +kernel) rfl rfl (Nat.le_of_ble_eq_true rfl) dX7_tear_12 (fun H locs hP hD hS => ?_)
  obtain ⟨zM_2, ezM_2⟩ : ∃ y : MS, y = (upd zM.1 29 0, zM.2) := ⟨_, rfl⟩
  replace hF := nm_i hF ezM_2
  have hP : va_P D vwCl (wcM ci aM zM_2) H := by rw [ezM_2]; exact hP
  have hD : va_D A (wcM ci aM zM_2) := by rw [ezM_2]; exact hD
  refine lv_aload_n hx hb dX7_tear_15 rfl (lv_at hl 1 rfl) ?_
  refine lv_iconst (v := 0) hx hb dX7_tear_16 (by decide) ?_
  refine va_put (D := D) (ci := 7) (v := .int 0) (ty := .int) (C := RX7) (T := TX7) (N := 38) hx hb hts hin_RX7 tyX7 tyX7_ok nmX7 hown hK hP hD hS 0 rfl rfl 33 (by decide) hk_2 (fun _ h9 => h9) rfl (by decide +kernel) rfl rfl (Nat.le_of_ble_eq_true rfl) dX7_tear_17 (fun H locs hP hD hS => ?_)
  obtain ⟨zM_3, ezM_3⟩ : ∃ y : MS, y = (upd zM_2.1 33 0, zM_2.2) := ⟨_, rfl⟩
  replace hF := nm_i hF ezM_3
  have hP : va_P D vwCl (wcM ci aM zM_3) H := by rw [ezM_3]; exact hP
  have hD : va_D A (wcM ci aM zM_3) := by rw [ezM_3]; exact hD
  refine lv_iload_n hx hb dX7_tear_20 rfl (lv_at hl 0 rfl) ?_
  obtain rfl := Option.some.inj hF
  exact W.iret (v := v1_1) hx hb hr (fun t ht hW => ⟨⟨_, (), rfl, rfl, by rw [ht]; exact hP, va_K.moved hW.alike hK, hD⟩, hS.F ht⟩) hS.2.2 dX7_tear_21
noncomputable def L_X7_judge_2 (zM : MS) : Nat → Int32 → Option (Int32)
  | 0, _ => none
  | n + 1, v1_2 => if (zM.1 33) ≤ v1_2 then (some (-1 : Int32)) else (ald 122 (zM.2 8) (120 : Int32) fun x_7 => ald 15 (zM.2 34) v1_2 fun x_9 => ald 15 (zM.2 35) v1_2 fun x_11 => if ((x_7 >>> (x_9 &&& 31)) &&& 1) = x_11 then (nm (v1_2 + 1) fun v1_13 => L_X7_judge_2 zM n v1_13) else (some v1_2))
noncomputable def f_X7_judge (zM : MS) : Option (Int32) := nm (0 : Int32) fun v1_1 => L_X7_judge_2 zM 3000 v1_1
set_option maxHeartbeats 4000000 in
set_option maxRecDepth 100000 in
theorem c_X7_judge (l : Launch) (D : va_G) (ci : Nat → ClassId) (aM : Nat → Nat) (sz : Nat) (zM : MS) (res : Int32) (hF : f_X7_judge zM = some res) : CtI l yX7_judge wsX7_judge { frames := 0, cells := 0, slots := 0, locals := 0 } [.ref (aM 0)] D ci (wcM ci aM zM) sz res (wcM ci aM zM) := by
  refine Met.ofW (cc := cX7_judge) (maxL := 2) (ret := (some .int)) (by decide) rfl ?_
  intro p e s m args below meth c s₁ B hml hv
  obtain ⟨rfl, hsz, hP, hK, hD0⟩ := hv
  have hx := B.exec
  have hb := B.bytes
  have hr := B.returns
  have hts := atoms_spec (ws := wsX7_judge) B.pre
  have hown : s.vm.findClass RX7 = some m.cls := findClass_of_methodNamed B.named
  have hlocks := B.notSynchronized
  subst hsz
  have hD := hD0.self (sz := s.heap.size)
  generalize hAe : va_A (wcM ci aM zM) s.heap.size = A at hD ⊢
  have hA : ∀ q : Nat, s.heap.size ≤ q → A q := fun q h => by rw [← hAe]; exact Or.inr h
  clear hD0 hAe
  have hl := lv_entry ([.ref (aM 0)]) (n := 2) (Nat.le_of_ble_eq_true rfl)
  rw [lg_entry_eq]
  generalize (lg_sl ([.ref (aM 0)]) ++ List.replicate (2 - (lg_sl ([.ref (aM 0)])).length) Slot.unset).toArray = ls at hl ⊢
  have hl : lv_has ls 2 [(0, .ref (aM 0))] := hl
  have hP : va_P D vwCl (wcM ci aM zM) s.heap := hP
  generalize hH0 : s.heap = H at hP ⊢
  have hS : va_S A s.heap H [] := by rw [← hH0]; exact va_S.rf
  clear hH0
  generalize ([] : List Loc) = locs at hS ⊢
  have hk_0 := hts (.fieldLink RX7 178 "HedgeWarModel" "booked" "I") (by decide +kernel)
  have hin_RX7 : ∀ w ∈ wsX70, w ∈ wsX7_judge := by decide +kernel
  have hk_2 := hts (.fieldLink RX7 23 "HedgeWarModel" "now" "[I") (by decide +kernel)
  have hk_3 := hts (.fieldLink RX7 72 "HedgeWarModel" "bookField" "[I") (by decide +kernel)
  have hk_4 := hts (.fieldLink RX7 75 "HedgeWarModel" "bookWhose" "[I") (by decide +kernel)
  unfold f_X7_judge at hF
  refine lv_iconst (v := 0) hx hb dX7_judge_0 (by decide) ?_
  refine lv_topi (fun v1_1 ev1_1 => ?_)
  replace hF := nm_i hF ev1_1
  refine lv_istore_n (lv' := [(1, .int v1_1), (0, .ref (aM 0))]) hx hb dX7_judge_1 rfl hl (by decide) rfl (fun ls hl => ?_)
  refine lpW (σ := Int32) (I := fun n v H locs ls => L_X7_judge_2 zM n v = some res ∧ va_P D vwCl (wcM ci aM zM) H ∧ va_D A (wcM ci aM zM) ∧ va_S A s.heap H locs ∧ lv_has ls 2 [(0, .ref (aM 0)), (1, .int v)]) 3000 v1_1 (fun _ _ _ _ h => no_none h.1) ⟨hF, hP, hD, hS, lv_sub hl [1, 0] rfl⟩ ?_
  clear hF hP hD hS hl
  intro n ih_3 vq H locs ls hI
  obtain ⟨v1_2, rfl⟩ : ∃ y, y = vq := ⟨_, rfl⟩
  obtain ⟨hF, hP, hD, hS, hl⟩ := hI
  have hP : va_P D vwCl (wcM ci aM zM) H := hP
  have hD : va_D A (wcM ci aM zM) := hD
  have hl : lv_has ls 2 [(0, .ref (aM 0)), (1, .int v1_2)] := hl
  replace hF : L_X7_judge_2 zM (n + 1) v1_2 = some res := hF
  rw [L_X7_judge_2] at hF
  refine lv_iload_n hx hb dX7_judge_2 rfl (lv_at hl 1 rfl) ?_
  refine lv_aload_n hx hb dX7_judge_3 rfl (lv_at hl 0 rfl) ?_
  refine va_get (D := D) (ci := 7) (v := .int (zM.1 33)) (C := RX7) (T := TX7) (N := 38) hx hb hts hin_RX7 hown hK hP 0 rfl rfl 33 (by decide) hk_0 (fun _ h9 => h9) rfl dX7_judge_4 ?_
  refine lv_icmp_ge (tgt := 43) hx hb dX7_judge_7 (by decide) (fun c_5 => ?_) (fun c_5 => ?_)
  · replace hF := if_i c_5 hF
    refine lv_iconst (v := (-1)) hx hb dX7_judge_43 (by decide) ?_
    obtain rfl := Option.some.inj hF
    exact W.iret (v := (-1)) hx hb hr (fun t ht hW => ⟨⟨_, (), rfl, rfl, by rw [ht]; exact hP, va_K.moved hW.alike hK, hD⟩, hS.F ht⟩) hS.2.2 dX7_judge_44
  · replace hF := if_o c_5 hF
    refine lv_aload_n hx hb dX7_judge_10 rfl (lv_at hl 0 rfl) ?_
    refine va_get (D := D) (ci := 7) (v := .ref (aM 8)) (C := RX7) (T := TX7) (N := 38) hx hb hts hin_RX7 hown hK hP 0 rfl rfl 8 (by decide) hk_2 (fun _ h9 => h9) rfl dX7_judge_11 ?_
    refine lv_bipush (v := 120) hx hb dX7_judge_14 (by decide) ?_
    replace hF := ald_i hF
    obtain ⟨hin_6, hF⟩ := hF
    refine va_iald hx hb hK hP 5 0 rfl rfl hin_6 dX7_judge_16 ?_
    refine lv_topi (fun x_7 ex_7 => ?_)
    replace hF := nm_i hF ex_7
    refine lv_aload_n hx hb dX7_judge_17 rfl (lv_at hl 0 rfl) ?_
    refine va_get (D := D) (ci := 7) (v := .ref (aM 34)) (C := RX7) (T := TX7) (N := 38) hx hb hts hin_RX7 hown hK hP 0 rfl rfl 34 (by decide) hk_3 (fun _ h9 => h9) rfl dX7_judge_18 ?_
    refine lv_iload_n hx hb dX7_judge_21 rfl (lv_at hl 1 rfl) ?_
    replace hF := ald_i hF
    obtain ⟨hin_8, hF⟩ := hF
    refine va_iald hx hb hK hP 20 0 rfl rfl hin_8 dX7_judge_22 ?_
    refine lv_topi (fun x_9 ex_9 => ?_)
    replace hF := nm_i hF ex_9
    refine lv_ishr hx hb dX7_judge_23 ?_
    refine lv_iconst (v := 1) hx hb dX7_judge_24 (by decide) ?_
    refine lv_iand hx hb dX7_judge_25 ?_
    refine lv_aload_n hx hb dX7_judge_26 rfl (lv_at hl 0 rfl) ?_
    refine va_get (D := D) (ci := 7) (v := .ref (aM 35)) (C := RX7) (T := TX7) (N := 38) hx hb hts hin_RX7 hown hK hP 0 rfl rfl 35 (by decide) hk_4 (fun _ h9 => h9) rfl dX7_judge_27 ?_
    refine lv_iload_n hx hb dX7_judge_30 rfl (lv_at hl 1 rfl) ?_
    replace hF := ald_i hF
    obtain ⟨hin_10, hF⟩ := hF
    refine va_iald hx hb hK hP 21 0 rfl rfl hin_10 dX7_judge_31 ?_
    refine lv_topi (fun x_11 ex_11 => ?_)
    replace hF := nm_i hF ex_11
    refine lv_icmp_eq (tgt := 37) hx hb dX7_judge_32 (by decide) (fun c_12 => ?_) (fun c_12 => ?_)
    · replace hF := if_i c_12 hF
      obtain ⟨v1_13, ev1_13⟩ : ∃ y : Int32, y = v1_2 + 1 := ⟨_, rfl⟩
      replace hF := nm_i hF ev1_13
      refine lv_iinc (v := v1_13) (lv' := [(1, .int v1_13), (0, .ref (aM 0))]) hx hb dX7_judge_37 hl (k := 1) rfl (by rw [ev1_13]; rfl) (by decide) rfl (fun ls hl => ?_)
      refine lv_goto (tgt := 2) hx hb dX7_judge_40 (by decide) ?_
      exact ih_3 v1_13 H locs ls ⟨hF, hP, hD, hS, lv_sub hl [1, 0] rfl⟩
    · replace hF := if_o c_12 hF
      refine lv_iload_n hx hb dX7_judge_35 rfl (lv_at hl 1 rfl) ?_
      obtain rfl := Option.some.inj hF
      exact W.iret (v := v1_2) hx hb hr (fun t ht hW => ⟨⟨_, (), rfl, rfl, by rw [ht]; exact hP, va_K.moved hW.alike hK, hD⟩, hS.F ht⟩) hS.2.2 dX7_judge_36
noncomputable def f_X7_seed (zM : MS) (p1 : Int32) : Option (Int32 × MS) := if (0 : Int32) ≤ p1 then (nm (zM.1 9) fun v2_2 => nm ((upd zM.1 9 p1, zM.2) : MS) fun zM_3 => some (v2_2, zM_3)) else (some ((-1000000002 : Int32), zM))
set_option maxHeartbeats 4000000 in
set_option maxRecDepth 100000 in
theorem c_X7_seed (l : Launch) (D : va_G) (ci : Nat → ClassId) (aM : Nat → Nat) (sz : Nat) (zM : MS) (p1 : Int32) (res : Int32 × MS) (hF : f_X7_seed zM p1 = some res) : CtI l yX7_seed wsX7_seed { frames := 0, cells := 0, slots := 0, locals := 0 } [.ref (aM 0), .int p1] D ci (wcM ci aM zM) sz res.1 (wcM ci aM res.2) := by
  refine Met.ofW (cc := cX7_seed) (maxL := 3) (ret := (some .int)) (by decide) rfl ?_
  intro p e s m args below meth c s₁ B hml hv
  obtain ⟨rfl, hsz, hP, hK, hD0⟩ := hv
  have hx := B.exec
  have hb := B.bytes
  have hr := B.returns
  have hts := atoms_spec (ws := wsX7_seed) B.pre
  have hown : s.vm.findClass RX7 = some m.cls := findClass_of_methodNamed B.named
  have hlocks := B.notSynchronized
  subst hsz
  have hD := hD0.self (sz := s.heap.size)
  generalize hAe : va_A (wcM ci aM zM) s.heap.size = A at hD ⊢
  have hA : ∀ q : Nat, s.heap.size ≤ q → A q := fun q h => by rw [← hAe]; exact Or.inr h
  clear hD0 hAe
  have hl := lv_entry ([.ref (aM 0), .int p1]) (n := 3) (Nat.le_of_ble_eq_true rfl)
  rw [lg_entry_eq]
  generalize (lg_sl ([.ref (aM 0), .int p1]) ++ List.replicate (3 - (lg_sl ([.ref (aM 0), .int p1])).length) Slot.unset).toArray = ls at hl ⊢
  have hl : lv_has ls 3 [(0, .ref (aM 0)), (1, .int p1)] := hl
  have hP : va_P D vwCl (wcM ci aM zM) s.heap := hP
  generalize hH0 : s.heap = H at hP ⊢
  have hS : va_S A s.heap H [] := by rw [← hH0]; exact va_S.rf
  clear hH0
  generalize ([] : List Loc) = locs at hS ⊢
  have hk_0 := hts (.fieldLink RX7 242 "HedgeWarModel" "seed" "I") (by decide +kernel)
  have hin_RX7 : ∀ w ∈ wsX70, w ∈ wsX7_seed := by decide +kernel
  have hk_2 := hts (.constant RX7 96 (-1000000002)) (by decide +kernel)
  unfold f_X7_seed at hF
  refine lv_iload_n hx hb dX7_seed_0 rfl (lv_at hl 1 rfl) ?_
  refine lv_if_ge (tgt := 7) hx hb dX7_seed_1 (by decide) (fun c_1 => ?_) (fun c_1 => ?_)
  · replace hF := if_i c_1 hF
    refine lv_aload_n hx hb dX7_seed_7 rfl (lv_at hl 0 rfl) ?_
    refine va_get (D := D) (ci := 7) (v := .int (zM.1 9)) (C := RX7) (T := TX7) (N := 38) hx hb hts hin_RX7 hown hK hP 0 rfl rfl 9 (by decide) hk_0 (fun _ h9 => h9) rfl dX7_seed_8 ?_
    refine lv_topi (fun v2_2 ev2_2 => ?_)
    replace hF := nm_i hF ev2_2
    refine lv_istore_n (lv' := [(2, .int v2_2), (0, .ref (aM 0)), (1, .int p1)]) hx hb dX7_seed_11 rfl hl (by decide) rfl (fun ls hl => ?_)
    refine lv_aload_n hx hb dX7_seed_12 rfl (lv_at hl 1 rfl) ?_
    refine lv_iload_n hx hb dX7_seed_13 rfl (lv_at hl 2 rfl) ?_
    refine va_put (D := D) (ci := 7) (v := .int p1) (ty := .int) (C := RX7) (T := TX7) (N := 38) hx hb hts hin_RX7 tyX7 tyX7_ok nmX7 hown hK hP hD hS 0 rfl rfl 9 (by decide) hk_0 (fun _ h9 => h9) rfl (by decide +kernel) rfl rfl (Nat.le_of_ble_eq_true rfl) dX7_seed_14 (fun H locs hP hD hS => ?_)
    obtain ⟨zM_3, ezM_3⟩ : ∃ y : MS, y = (upd zM.1 9 p1, zM.2) := ⟨_, rfl⟩
    replace hF := nm_i hF ezM_3
    have hP : va_P D vwCl (wcM ci aM zM_3) H := by rw [ezM_3]; exact hP
    have hD : va_D A (wcM ci aM zM_3) := by rw [ezM_3]; exact hD
    refine lv_iload_n hx hb dX7_seed_17 rfl (lv_at hl 0 rfl) ?_
    obtain rfl := Option.some.inj hF
    exact W.iret (v := v2_2) hx hb hr (fun t ht hW => ⟨⟨_, (), rfl, rfl, by rw [ht]; exact hP, va_K.moved hW.alike hK, hD⟩, hS.F ht⟩) hS.2.2 dX7_seed_18
  · replace hF := if_o c_1 hF
    refine lv_ldc (v := (-1000000002)) hx hb hown hk_2 dX7_seed_4 ?_
    obtain rfl := Option.some.inj hF
    exact W.iret (v := (-1000000002)) hx hb hr (fun t ht hW => ⟨⟨_, (), rfl, rfl, by rw [ht]; exact hP, va_K.moved hW.alike hK, hD⟩, hS.F ht⟩) hS.2.2 dX7_seed_6
noncomputable def L_X7_keep_15 (p1 : Int32) : Nat → Int32 → MS → Option (Int32 × MS)
  | 0, _, _ => none
  | n + 1, v2_5, zM_6 => if (122 : Int32) ≤ v2_5 then (some (v2_5, zM_6)) else (ald 122 (zM_6.2 8) v2_5 fun x_15 => ast 246 ((123 * p1) + v2_5) <| nm ((zM_6.1, va_up zM_6.2 36 (upd (zM_6.2 36) (Int32.toNatClampNeg ((123 * p1) + v2_5)) x_15)) : MS) fun zM_17 => nm (v2_5 + 1) fun v2_18 => L_X7_keep_15 p1 n v2_18 zM_17)
noncomputable def f_X7_keep (zM : MS) (p1 : Int32) : Option (Int32 × MS) := (f_X7_in (Int32.toInt64 p1) (0 : Int64) (1 : Int64)).bind fun r_1 => if r_1 = 0 then (some ((-1000000001 : Int32), zM)) else (nm (0 : Int32) fun v2_4 => (L_X7_keep_15 p1 3000 v2_4 zM).bind fun q_26 => nm q_26.1 fun v2_9 => nm q_26.2 fun zM_10 => nm (zM_10.1 9) fun y_21 => ast 246 ((123 * p1) + 122) <| nm ((zM_10.1, va_up zM_10.2 36 (upd (zM_10.2 36) (Int32.toNatClampNeg ((123 * p1) + 122)) y_21)) : MS) fun zM_22 => ast 2 p1 <| nm ((zM_22.1, va_up zM_22.2 37 (upd (zM_22.2 37) (Int32.toNatClampNeg p1) (vp_nar .boolean 1))) : MS) fun zM_24 => nm ((upd zM_24.1 22 0, zM_24.2) : MS) fun zM_25 => some ((1 : Int32), zM_25))
set_option maxHeartbeats 4000000 in
set_option maxRecDepth 100000 in
theorem c_X7_keep (l : Launch) (D : va_G) (ci : Nat → ClassId) (aM : Nat → Nat) (sz : Nat) (zM : MS) (p1 : Int32) (res : Int32 × MS) (hF : f_X7_keep zM p1 = some res) : CtI l yX7_keep wsX7_keep { frames := 1, cells := 0, slots := 0, locals := 25 } [.ref (aM 0), .int p1] D ci (wcM ci aM zM) sz res.1 (wcM ci aM res.2) := by
  refine Met.ofW (cc := cX7_keep) (maxL := 3) (ret := (some .int)) (by decide) rfl ?_
  intro p e s m args below meth c s₁ B hml hv
  obtain ⟨rfl, hsz, hP, hK, hD0⟩ := hv
  have hx := B.exec
  have hb := B.bytes
  have hr := B.returns
  have hts := atoms_spec (ws := wsX7_keep) B.pre
  have hown : s.vm.findClass RX7 = some m.cls := findClass_of_methodNamed B.named
  have hlocks := B.notSynchronized
  subst hsz
  have hD := hD0.self (sz := s.heap.size)
  generalize hAe : va_A (wcM ci aM zM) s.heap.size = A at hD ⊢
  have hA : ∀ q : Nat, s.heap.size ≤ q → A q := fun q h => by rw [← hAe]; exact Or.inr h
  clear hD0 hAe
  have hl := lv_entry ([.ref (aM 0), .int p1]) (n := 3) (Nat.le_of_ble_eq_true rfl)
  rw [lg_entry_eq]
  generalize (lg_sl ([.ref (aM 0), .int p1]) ++ List.replicate (3 - (lg_sl ([.ref (aM 0), .int p1])).length) Slot.unset).toArray = ls at hl ⊢
  have hl : lv_has ls 3 [(0, .ref (aM 0)), (1, .int p1)] := hl
  have hP : va_P D vwCl (wcM ci aM zM) s.heap := hP
  generalize hH0 : s.heap = H at hP ⊢
  have hS : va_S A s.heap H [] := by rw [← hH0]; exact va_S.rf
  clear hH0
  generalize ([] : List Loc) = locs at hS ⊢
  have hk_0 := hts (.fieldLink RX7 78 "HedgeWarModel" "images" "[I") (by decide +kernel)
  have hin_RX7 : ∀ w ∈ wsX70, w ∈ wsX7_keep := by decide +kernel
  have hk_2 := hts (.fieldLink RX7 23 "HedgeWarModel" "now" "[I") (by decide +kernel)
  have hk_3 := hts (.fieldLink RX7 242 "HedgeWarModel" "seed" "I") (by decide +kernel)
  have hk_4 := hts (.fieldLink RX7 81 "HedgeWarModel" "isKept" "[Z") (by decide +kernel)
  have hk_5 := hts (.fieldLink RX7 181 "HedgeWarModel" "undos" "I") (by decide +kernel)
  have hk_6 := hts (.constant RX7 210 (-1000000001)) (by decide +kernel)
  unfold f_X7_keep at hF
  refine lv_iload_n hx hb dX7_keep_0 rfl (lv_at hl 1 rfl) ?_
  refine lv_i2l (v := (Int32.toInt64 p1)) hx hb dX7_keep_1 rfl ?_
  refine lv_lconst (v := 0) hx hb dX7_keep_2 (by decide) ?_
  refine lv_lconst (v := 1) hx hb dX7_keep_3 (by decide) ?_
  replace hF := bnd hF
  obtain ⟨r_1, hc_2, hF⟩ := hF
  refine cl_Sie (As := [.long (Int32.toInt64 p1), .long 0, .long 1]) (rest := []) ⟨hx, hb, hml, hown, hts⟩ (va_cwS 3 hts gX7_keep_X7_in rfl rfl rfl (by decide +kernel) ⟨Nat.le_of_ble_eq_true rfl, Nat.le_of_ble_eq_true rfl⟩) (c_X7_in l D ci  H.size (Int32.toInt64 p1) (0 : Int64) (1 : Int64) _ hc_2) hK hP hD hS hA rfl rfl hl.1 (Nat.le_of_ble_eq_true rfl) dX7_keep_4 (Nat.zero_le _) (Nat.zero_le _) (fun H locs hP hD hS => ?_)
  have hP : va_P D vwCl (wcM ci aM zM) H := hP
  have hD : va_D A (wcM ci aM zM) := hD
  refine lv_if_ne (tgt := 13) hx hb dX7_keep_7 (by decide) (fun c_3 => ?_) (fun c_3 => ?_)
  · replace hF := if_o c_3 hF
    refine lv_iconst (v := 0) hx hb dX7_keep_13 (by decide) ?_
    refine lv_topi (fun v2_4 ev2_4 => ?_)
    replace hF := nm_i hF ev2_4
    refine lv_istore_n (lv' := [(2, .int v2_4), (0, .ref (aM 0)), (1, .int p1)]) hx hb dX7_keep_14 rfl hl (by decide) rfl (fun ls hl => ?_)
    replace hF := bnd hF
    obtain ⟨q_26, hv_19, hF⟩ := hF
    obtain ⟨v2_9, ev2_9⟩ : ∃ y : Int32, y = q_26.1 := ⟨_, rfl⟩
    replace hF := nm_i hF ev2_9
    obtain ⟨zM_10, ezM_10⟩ : ∃ y : MS, y = q_26.2 := ⟨_, rfl⟩
    replace hF := nm_i hF ezM_10
    obtain rfl : q_26 = (v2_9, zM_10) := by rw [ev2_9, ezM_10]
    clear ev2_9
    clear ezM_10
    refine jn (P := fun H locs ls => va_P D vwCl (wcM ci aM zM_10) H ∧ va_D A (wcM ci aM zM_10) ∧ va_S A s.heap H locs ∧ lv_has ls 3 [(0, .ref (aM 0)), (1, .int p1), (2, .int v2_9)]) (pcJ := 44) (st := []) ?_ ?_
    · intro H locs ls hJ
      obtain ⟨hP, hD, hS, hl⟩ := hJ
      refine lv_aload_n hx hb dX7_keep_44 rfl (lv_at hl 0 rfl) ?_
      refine va_get (D := D) (ci := 7) (v := .ref (aM 36)) (C := RX7) (T := TX7) (N := 38) hx hb hts hin_RX7 hown hK hP 0 rfl rfl 36 (by decide) hk_0 (fun _ h9 => h9) rfl dX7_keep_45 ?_
      refine lv_bipush (v := 123) hx hb dX7_keep_48 (by decide) ?_
      refine lv_iload_n hx hb dX7_keep_50 rfl (lv_at hl 1 rfl) ?_
      refine lv_imul hx hb dX7_keep_51 ?_
      refine lv_bipush (v := 122) hx hb dX7_keep_52 (by decide) ?_
      refine lv_iadd hx hb dX7_keep_54 ?_
      refine lv_aload_n hx hb dX7_keep_55 rfl (lv_at hl 0 rfl) ?_
      refine va_get (D := D) (ci := 7) (v := .int (zM_10.1 9)) (C := RX7) (T := TX7) (N := 38) hx hb hts hin_RX7 hown hK hP 0 rfl rfl 9 (by decide) hk_3 (fun _ h9 => h9) rfl dX7_keep_56 ?_
      refine lv_topi (fun y_21 ey_21 => ?_)
      replace hF := nm_i hF ey_21
      replace hF := ast_i hF
      obtain ⟨hin_20, hF⟩ := hF
      refine va_iast (x := y_21) hx hb hK hP hD hS 22 0 rfl rfl hin_20 dX7_keep_59 (fun H locs hP hD hS => ?_)
      obtain ⟨zM_22, ezM_22⟩ : ∃ y : MS, y = (zM_10.1, va_up zM_10.2 36 (upd (zM_10.2 36) (Int32.toNatClampNeg ((123 * p1) + 122)) y_21)) := ⟨_, rfl⟩
      replace hF := nm_i hF ezM_22
      have hP : va_P D vwCl (wcM ci aM zM_22) H := by rw [ezM_22]; exact hP
      have hD : va_D A (wcM ci aM zM_22) := by rw [ezM_22]; exact hD
      refine lv_aload_n hx hb dX7_keep_60 rfl (lv_at hl 0 rfl) ?_
      refine va_get (D := D) (ci := 7) (v := .ref (aM 37)) (C := RX7) (T := TX7) (N := 38) hx hb hts hin_RX7 hown hK hP 0 rfl rfl 37 (by decide) hk_4 (fun _ h9 => h9) rfl dX7_keep_61 ?_
      refine lv_iload_n hx hb dX7_keep_64 rfl (lv_at hl 1 rfl) ?_
      refine lv_iconst (v := 1) hx hb dX7_keep_65 (by decide) ?_
      replace hF := ast_i hF
      obtain ⟨hin_23, hF⟩ := hF
      refine va_zast (x := 1) hx hb hK hP hD hS 23 2 rfl rfl hin_23 dX7_keep_66 (fun H locs hP hD hS => ?_)
      obtain ⟨zM_24, ezM_24⟩ : ∃ y : MS, y = (zM_22.1, va_up zM_22.2 37 (upd (zM_22.2 37) (Int32.toNatClampNeg p1) (vp_nar .boolean 1))) := ⟨_, rfl⟩
      replace hF := nm_i hF ezM_24
      have hP : va_P D vwCl (wcM ci aM zM_24) H := by rw [ezM_24]; exact hP
      have hD : va_D A (wcM ci aM zM_24) := by rw [ezM_24]; exact hD
      refine lv_aload_n hx hb dX7_keep_67 rfl (lv_at hl 0 rfl) ?_
      refine lv_iconst (v := 0) hx hb dX7_keep_68 (by decide) ?_
      refine va_put (D := D) (ci := 7) (v := .int 0) (ty := .int) (C := RX7) (T := TX7) (N := 38) hx hb hts hin_RX7 tyX7 tyX7_ok nmX7 hown hK hP hD hS 0 rfl rfl 22 (by decide) hk_5 (fun _ h9 => h9) rfl (by decide +kernel) rfl rfl (Nat.le_of_ble_eq_true rfl) dX7_keep_69 (fun H locs hP hD hS => ?_)
      obtain ⟨zM_25, ezM_25⟩ : ∃ y : MS, y = (upd zM_24.1 22 0, zM_24.2) := ⟨_, rfl⟩
      replace hF := nm_i hF ezM_25
      have hP : va_P D vwCl (wcM ci aM zM_25) H := by rw [ezM_25]; exact hP
      have hD : va_D A (wcM ci aM zM_25) := by rw [ezM_25]; exact hD
      refine lv_iconst (v := 1) hx hb dX7_keep_72 (by decide) ?_
      obtain rfl := Option.some.inj hF
      exact W.iret (v := 1) hx hb hr (fun t ht hW => ⟨⟨_, (), rfl, rfl, by rw [ht]; exact hP, va_K.moved hW.alike hK, hD⟩, hS.F ht⟩) hS.2.2 dX7_keep_73
    · intro J_8
      clear hF
      have hF := hv_19
      refine lpW (σ := Int32 × MS) (I := fun n v H locs ls => L_X7_keep_15 p1 n v.1 v.2 = some (v2_9, zM_10) ∧ va_P D vwCl (wcM ci aM v.2) H ∧ va_D A (wcM ci aM v.2) ∧ va_S A s.heap H locs ∧ lv_has ls 3 [(0, .ref (aM 0)), (1, .int p1), (2, .int v.1)]) 3000 (v2_4, zM) (fun _ _ _ _ h => no_none h.1) ⟨hF, hP, hD, hS, lv_sub hl [1, 2, 0] rfl⟩ ?_
      clear hF hP hD hS hl
      intro n ih_7 vq H locs ls hI
      obtain ⟨v2_5, zM_6⟩ := vq
      obtain ⟨hF, hP, hD, hS, hl⟩ := hI
      have hP : va_P D vwCl (wcM ci aM zM_6) H := hP
      have hD : va_D A (wcM ci aM zM_6) := hD
      have hl : lv_has ls 3 [(0, .ref (aM 0)), (1, .int p1), (2, .int v2_5)] := hl
      replace hF : L_X7_keep_15 p1 (n + 1) v2_5 zM_6 = some (v2_9, zM_10) := hF
      rw [L_X7_keep_15] at hF
      refine lv_iload_n hx hb dX7_keep_15 rfl (lv_at hl 2 rfl) ?_
      refine lv_bipush (v := 122) hx hb dX7_keep_16 (by decide) ?_
      refine lv_icmp_ge (tgt := 44) hx hb dX7_keep_18 (by decide) (fun c_11 => ?_) (fun c_11 => ?_)
      · replace hF := if_i c_11 hF
        obtain ⟨g_12, g_13⟩ : v2_5 = v2_9 ∧ zM_6 = zM_10 := by have h9 := Option.some.inj hF; simpa only [Prod.mk.injEq] using h9
        subst g_12
        subst g_13
        exact J_8 H locs ls ⟨hP, hD, hS, lv_sub hl [0, 1, 2] rfl⟩
      · replace hF := if_o c_11 hF
        refine lv_aload_n hx hb dX7_keep_21 rfl (lv_at hl 0 rfl) ?_
        refine va_get (D := D) (ci := 7) (v := .ref (aM 36)) (C := RX7) (T := TX7) (N := 38) hx hb hts hin_RX7 hown hK hP 0 rfl rfl 36 (by decide) hk_0 (fun _ h9 => h9) rfl dX7_keep_22 ?_
        refine lv_bipush (v := 123) hx hb dX7_keep_25 (by decide) ?_
        refine lv_iload_n hx hb dX7_keep_27 rfl (lv_at hl 1 rfl) ?_
        refine lv_imul hx hb dX7_keep_28 ?_
        refine lv_iload_n hx hb dX7_keep_29 rfl (lv_at hl 2 rfl) ?_
        refine lv_iadd hx hb dX7_keep_30 ?_
        refine lv_aload_n hx hb dX7_keep_31 rfl (lv_at hl 0 rfl) ?_
        refine va_get (D := D) (ci := 7) (v := .ref (aM 8)) (C := RX7) (T := TX7) (N := 38) hx hb hts hin_RX7 hown hK hP 0 rfl rfl 8 (by decide) hk_2 (fun _ h9 => h9) rfl dX7_keep_32 ?_
        refine lv_iload_n hx hb dX7_keep_35 rfl (lv_at hl 2 rfl) ?_
        replace hF := ald_i hF
        obtain ⟨hin_14, hF⟩ := hF
        refine va_iald hx hb hK hP 5 0 rfl rfl hin_14 dX7_keep_36 ?_
        refine lv_topi (fun x_15 ex_15 => ?_)
        replace hF := nm_i hF ex_15
        replace hF := ast_i hF
        obtain ⟨hin_16, hF⟩ := hF
        refine va_iast (x := x_15) hx hb hK hP hD hS 22 0 rfl rfl hin_16 dX7_keep_37 (fun H locs hP hD hS => ?_)
        obtain ⟨zM_17, ezM_17⟩ : ∃ y : MS, y = (zM_6.1, va_up zM_6.2 36 (upd (zM_6.2 36) (Int32.toNatClampNeg ((123 * p1) + v2_5)) x_15)) := ⟨_, rfl⟩
        replace hF := nm_i hF ezM_17
        have hP : va_P D vwCl (wcM ci aM zM_17) H := by rw [ezM_17]; exact hP
        have hD : va_D A (wcM ci aM zM_17) := by rw [ezM_17]; exact hD
        obtain ⟨v2_18, ev2_18⟩ : ∃ y : Int32, y = v2_5 + 1 := ⟨_, rfl⟩
        replace hF := nm_i hF ev2_18
        refine lv_iinc (v := v2_18) (lv' := [(2, .int v2_18), (0, .ref (aM 0)), (1, .int p1)]) hx hb dX7_keep_38 hl (k := 2) rfl (by rw [ev2_18]; rfl) (by decide) rfl (fun ls hl => ?_)
        refine lv_goto (tgt := 15) hx hb dX7_keep_41 (by decide) ?_
        exact ih_7 (v2_18, zM_17) H locs ls ⟨hF, hP, hD, hS, lv_sub hl [1, 2, 0] rfl⟩
  · replace hF := if_i c_3 hF
    refine lv_ldc (v := (-1000000001)) hx hb hown hk_6 dX7_keep_10 ?_
    obtain rfl := Option.some.inj hF
    exact W.iret (v := (-1000000001)) hx hb hr (fun t ht hW => ⟨⟨_, (), rfl, rfl, by rw [ht]; exact hP, va_K.moved hW.alike hK, hD⟩, hS.F ht⟩) hS.2.2 dX7_keep_12
noncomputable def L_X7_goBack_27 (p1 : Int32) : Nat → Int32 → MS → Option (Int32 × MS)
  | 0, _, _ => none
  | n + 1, v2_8, zM_9 => if (122 : Int32) ≤ v2_8 then (some (v2_8, zM_9)) else (ald 246 (zM_9.2 36) ((123 * p1) + v2_8) fun x_18 => ast 122 v2_8 <| nm ((zM_9.1, va_up zM_9.2 8 (upd (zM_9.2 8) (Int32.toNatClampNeg v2_8) x_18)) : MS) fun zM_20 => nm (v2_8 + 1) fun v2_21 => L_X7_goBack_27 p1 n v2_21 zM_20)
noncomputable def f_X7_goBack (zM : MS) (p1 : Int32) : Option (Int32 × MS) := (f_X7_in (Int32.toInt64 p1) (0 : Int64) (1 : Int64)).bind fun r_1 => if r_1 = 0 then (some ((-1000000001 : Int32), zM)) else (ald 2 (zM.2 37) p1 fun x_5 => if x_5 = 0 then (some ((-1000000003 : Int32), zM)) else (nm (0 : Int32) fun v2_7 => (L_X7_goBack_27 p1 3000 v2_7 zM).bind fun q_27 => nm q_27.1 fun v2_12 => nm q_27.2 fun zM_13 => ald 246 (zM_13.2 36) ((123 * p1) + 122) fun x_24 => nm ((upd zM_13.1 9 x_24, zM_13.2) : MS) fun zM_25 => nm ((upd zM_25.1 22 0, zM_25.2) : MS) fun zM_26 => some ((1 : Int32), zM_26)))
set_option maxHeartbeats 4000000 in
set_option maxRecDepth 100000 in
theorem c_X7_goBack (l : Launch) (D : va_G) (ci : Nat → ClassId) (aM : Nat → Nat) (sz : Nat) (zM : MS) (p1 : Int32) (res : Int32 × MS) (hF : f_X7_goBack zM p1 = some res) : CtI l yX7_goBack wsX7_goBack { frames := 1, cells := 0, slots := 0, locals := 25 } [.ref (aM 0), .int p1] D ci (wcM ci aM zM) sz res.1 (wcM ci aM res.2) := by
  refine Met.ofW (cc := cX7_goBack) (maxL := 3) (ret := (some .int)) (by decide) rfl ?_
  intro p e s m args below meth c s₁ B hml hv
  obtain ⟨rfl, hsz, hP, hK, hD0⟩ := hv
  have hx := B.exec
  have hb := B.bytes
  have hr := B.returns
  have hts := atoms_spec (ws := wsX7_goBack) B.pre
  have hown : s.vm.findClass RX7 = some m.cls := findClass_of_methodNamed B.named
  have hlocks := B.notSynchronized
  subst hsz
  have hD := hD0.self (sz := s.heap.size)
  generalize hAe : va_A (wcM ci aM zM) s.heap.size = A at hD ⊢
  have hA : ∀ q : Nat, s.heap.size ≤ q → A q := fun q h => by rw [← hAe]; exact Or.inr h
  clear hD0 hAe
  have hl := lv_entry ([.ref (aM 0), .int p1]) (n := 3) (Nat.le_of_ble_eq_true rfl)
  rw [lg_entry_eq]
  generalize (lg_sl ([.ref (aM 0), .int p1]) ++ List.replicate (3 - (lg_sl ([.ref (aM 0), .int p1])).length) Slot.unset).toArray = ls at hl ⊢
  have hl : lv_has ls 3 [(0, .ref (aM 0)), (1, .int p1)] := hl
  have hP : va_P D vwCl (wcM ci aM zM) s.heap := hP
  generalize hH0 : s.heap = H at hP ⊢
  have hS : va_S A s.heap H [] := by rw [← hH0]; exact va_S.rf
  clear hH0
  generalize ([] : List Loc) = locs at hS ⊢
  have hk_0 := hts (.fieldLink RX7 81 "HedgeWarModel" "isKept" "[Z") (by decide +kernel)
  have hin_RX7 : ∀ w ∈ wsX70, w ∈ wsX7_goBack := by decide +kernel
  have hk_2 := hts (.fieldLink RX7 23 "HedgeWarModel" "now" "[I") (by decide +kernel)
  have hk_3 := hts (.fieldLink RX7 78 "HedgeWarModel" "images" "[I") (by decide +kernel)
  have hk_4 := hts (.fieldLink RX7 242 "HedgeWarModel" "seed" "I") (by decide +kernel)
  have hk_5 := hts (.fieldLink RX7 181 "HedgeWarModel" "undos" "I") (by decide +kernel)
  have hk_6 := hts (.constant RX7 226 (-1000000003)) (by decide +kernel)
  have hk_7 := hts (.constant RX7 210 (-1000000001)) (by decide +kernel)
  unfold f_X7_goBack at hF
  refine lv_iload_n hx hb dX7_goBack_0 rfl (lv_at hl 1 rfl) ?_
  refine lv_i2l (v := (Int32.toInt64 p1)) hx hb dX7_goBack_1 rfl ?_
  refine lv_lconst (v := 0) hx hb dX7_goBack_2 (by decide) ?_
  refine lv_lconst (v := 1) hx hb dX7_goBack_3 (by decide) ?_
  replace hF := bnd hF
  obtain ⟨r_1, hc_2, hF⟩ := hF
  refine cl_Sie (As := [.long (Int32.toInt64 p1), .long 0, .long 1]) (rest := []) ⟨hx, hb, hml, hown, hts⟩ (va_cwS 3 hts gX7_goBack_X7_in rfl rfl rfl (by decide +kernel) ⟨Nat.le_of_ble_eq_true rfl, Nat.le_of_ble_eq_true rfl⟩) (c_X7_in l D ci  H.size (Int32.toInt64 p1) (0 : Int64) (1 : Int64) _ hc_2) hK hP hD hS hA rfl rfl hl.1 (Nat.le_of_ble_eq_true rfl) dX7_goBack_4 (Nat.zero_le _) (Nat.zero_le _) (fun H locs hP hD hS => ?_)
  have hP : va_P D vwCl (wcM ci aM zM) H := hP
  have hD : va_D A (wcM ci aM zM) := hD
  refine lv_if_ne (tgt := 13) hx hb dX7_goBack_7 (by decide) (fun c_3 => ?_) (fun c_3 => ?_)
  · replace hF := if_o c_3 hF
    refine lv_aload_n hx hb dX7_goBack_13 rfl (lv_at hl 0 rfl) ?_
    refine va_get (D := D) (ci := 7) (v := .ref (aM 37)) (C := RX7) (T := TX7) (N := 38) hx hb hts hin_RX7 hown hK hP 0 rfl rfl 37 (by decide) hk_0 (fun _ h9 => h9) rfl dX7_goBack_14 ?_
    refine lv_iload_n hx hb dX7_goBack_17 rfl (lv_at hl 1 rfl) ?_
    replace hF := ald_i hF
    obtain ⟨hin_4, hF⟩ := hF
    refine va_zald hx hb hK hP 23 2 rfl rfl hin_4 dX7_goBack_18 ?_
    refine lv_topi (fun x_5 ex_5 => ?_)
    replace hF := nm_i hF ex_5
    refine lv_if_ne (tgt := 25) hx hb dX7_goBack_19 (by decide) (fun c_6 => ?_) (fun c_6 => ?_)
    · replace hF := if_o c_6 hF
      refine lv_iconst (v := 0) hx hb dX7_goBack_25 (by decide) ?_
      refine lv_topi (fun v2_7 ev2_7 => ?_)
      replace hF := nm_i hF ev2_7
      refine lv_istore_n (lv' := [(2, .int v2_7), (0, .ref (aM 0)), (1, .int p1)]) hx hb dX7_goBack_26 rfl hl (by decide) rfl (fun ls hl => ?_)
      replace hF := bnd hF
      obtain ⟨q_27, hv_22, hF⟩ := hF
      obtain ⟨v2_12, ev2_12⟩ : ∃ y : Int32, y = q_27.1 := ⟨_, rfl⟩
      replace hF := nm_i hF ev2_12
      obtain ⟨zM_13, ezM_13⟩ : ∃ y : MS, y = q_27.2 := ⟨_, rfl⟩
      replace hF := nm_i hF ezM_13
      obtain rfl : q_27 = (v2_12, zM_13) := by rw [ev2_12, ezM_13]
      clear ev2_12
      clear ezM_13
      refine jn (P := fun H locs ls => va_P D vwCl (wcM ci aM zM_13) H ∧ va_D A (wcM ci aM zM_13) ∧ va_S A s.heap H locs ∧ lv_has ls 3 [(0, .ref (aM 0)), (1, .int p1), (2, .int v2_12)]) (pcJ := 56) (st := []) ?_ ?_
      · intro H locs ls hJ
        obtain ⟨hP, hD, hS, hl⟩ := hJ
        refine lv_aload_n hx hb dX7_goBack_56 rfl (lv_at hl 0 rfl) ?_
        refine lv_aload_n hx hb dX7_goBack_57 rfl (lv_at hl 0 rfl) ?_
        refine va_get (D := D) (ci := 7) (v := .ref (aM 36)) (C := RX7) (T := TX7) (N := 38) hx hb hts hin_RX7 hown hK hP 0 rfl rfl 36 (by decide) hk_3 (fun _ h9 => h9) rfl dX7_goBack_58 ?_
        refine lv_bipush (v := 123) hx hb dX7_goBack_61 (by decide) ?_
        refine lv_iload_n hx hb dX7_goBack_63 rfl (lv_at hl 1 rfl) ?_
        refine lv_imul hx hb dX7_goBack_64 ?_
        refine lv_bipush (v := 122) hx hb dX7_goBack_65 (by decide) ?_
        refine lv_iadd hx hb dX7_goBack_67 ?_
        replace hF := ald_i hF
        obtain ⟨hin_23, hF⟩ := hF
        refine va_iald hx hb hK hP 22 0 rfl rfl hin_23 dX7_goBack_68 ?_
        refine lv_topi (fun x_24 ex_24 => ?_)
        replace hF := nm_i hF ex_24
        refine va_put (D := D) (ci := 7) (v := .int x_24) (ty := .int) (C := RX7) (T := TX7) (N := 38) hx hb hts hin_RX7 tyX7 tyX7_ok nmX7 hown hK hP hD hS 0 rfl rfl 9 (by decide) hk_4 (fun _ h9 => h9) rfl (by decide +kernel) rfl rfl (Nat.le_of_ble_eq_true rfl) dX7_goBack_69 (fun H locs hP hD hS => ?_)
        obtain ⟨zM_25, ezM_25⟩ : ∃ y : MS, y = (upd zM_13.1 9 x_24, zM_13.2) := ⟨_, rfl⟩
        replace hF := nm_i hF ezM_25
        have hP : va_P D vwCl (wcM ci aM zM_25) H := by rw [ezM_25]; exact hP
        have hD : va_D A (wcM ci aM zM_25) := by rw [ezM_25]; exact hD
        refine lv_aload_n hx hb dX7_goBack_72 rfl (lv_at hl 0 rfl) ?_
        refine lv_iconst (v := 0) hx hb dX7_goBack_73 (by decide) ?_
        refine va_put (D := D) (ci := 7) (v := .int 0) (ty := .int) (C := RX7) (T := TX7) (N := 38) hx hb hts hin_RX7 tyX7 tyX7_ok nmX7 hown hK hP hD hS 0 rfl rfl 22 (by decide) hk_5 (fun _ h9 => h9) rfl (by decide +kernel) rfl rfl (Nat.le_of_ble_eq_true rfl) dX7_goBack_74 (fun H locs hP hD hS => ?_)
        obtain ⟨zM_26, ezM_26⟩ : ∃ y : MS, y = (upd zM_25.1 22 0, zM_25.2) := ⟨_, rfl⟩
        replace hF := nm_i hF ezM_26
        have hP : va_P D vwCl (wcM ci aM zM_26) H := by rw [ezM_26]; exact hP
        have hD : va_D A (wcM ci aM zM_26) := by rw [ezM_26]; exact hD
        refine lv_iconst (v := 1) hx hb dX7_goBack_77 (by decide) ?_
        obtain rfl := Option.some.inj hF
        exact W.iret (v := 1) hx hb hr (fun t ht hW => ⟨⟨_, (), rfl, rfl, by rw [ht]; exact hP, va_K.moved hW.alike hK, hD⟩, hS.F ht⟩) hS.2.2 dX7_goBack_78
      · intro J_11
        clear hF
        have hF := hv_22
        refine lpW (σ := Int32 × MS) (I := fun n v H locs ls => L_X7_goBack_27 p1 n v.1 v.2 = some (v2_12, zM_13) ∧ va_P D vwCl (wcM ci aM v.2) H ∧ va_D A (wcM ci aM v.2) ∧ va_S A s.heap H locs ∧ lv_has ls 3 [(0, .ref (aM 0)), (1, .int p1), (2, .int v.1)]) 3000 (v2_7, zM) (fun _ _ _ _ h => no_none h.1) ⟨hF, hP, hD, hS, lv_sub hl [1, 2, 0] rfl⟩ ?_
        clear hF hP hD hS hl
        intro n ih_10 vq H locs ls hI
        obtain ⟨v2_8, zM_9⟩ := vq
        obtain ⟨hF, hP, hD, hS, hl⟩ := hI
        have hP : va_P D vwCl (wcM ci aM zM_9) H := hP
        have hD : va_D A (wcM ci aM zM_9) := hD
        have hl : lv_has ls 3 [(0, .ref (aM 0)), (1, .int p1), (2, .int v2_8)] := hl
        replace hF : L_X7_goBack_27 p1 (n + 1) v2_8 zM_9 = some (v2_12, zM_13) := hF
        rw [L_X7_goBack_27] at hF
        refine lv_iload_n hx hb dX7_goBack_27 rfl (lv_at hl 2 rfl) ?_
        refine lv_bipush (v := 122) hx hb dX7_goBack_28 (by decide) ?_
        refine lv_icmp_ge (tgt := 56) hx hb dX7_goBack_30 (by decide) (fun c_14 => ?_) (fun c_14 => ?_)
        · replace hF := if_i c_14 hF
          obtain ⟨g_15, g_16⟩ : v2_8 = v2_12 ∧ zM_9 = zM_13 := by have h9 := Option.some.inj hF; simpa only [Prod.mk.injEq] using h9
          subst g_15
          subst g_16
          exact J_11 H locs ls ⟨hP, hD, hS, lv_sub hl [0, 1, 2] rfl⟩
        · replace hF := if_o c_14 hF
          refine lv_aload_n hx hb dX7_goBack_33 rfl (lv_at hl 0 rfl) ?_
          refine va_get (D := D) (ci := 7) (v := .ref (aM 8)) (C := RX7) (T := TX7) (N := 38) hx hb hts hin_RX7 hown hK hP 0 rfl rfl 8 (by decide) hk_2 (fun _ h9 => h9) rfl dX7_goBack_34 ?_
          refine lv_iload_n hx hb dX7_goBack_37 rfl (lv_at hl 2 rfl) ?_
          refine lv_aload_n hx hb dX7_goBack_38 rfl (lv_at hl 0 rfl) ?_
          refine va_get (D := D) (ci := 7) (v := .ref (aM 36)) (C := RX7) (T := TX7) (N := 38) hx hb hts hin_RX7 hown hK hP 0 rfl rfl 36 (by decide) hk_3 (fun _ h9 => h9) rfl dX7_goBack_39 ?_
          refine lv_bipush (v := 123) hx hb dX7_goBack_42 (by decide) ?_
          refine lv_iload_n hx hb dX7_goBack_44 rfl (lv_at hl 1 rfl) ?_
          refine lv_imul hx hb dX7_goBack_45 ?_
          refine lv_iload_n hx hb dX7_goBack_46 rfl (lv_at hl 2 rfl) ?_
          refine lv_iadd hx hb dX7_goBack_47 ?_
          replace hF := ald_i hF
          obtain ⟨hin_17, hF⟩ := hF
          refine va_iald hx hb hK hP 22 0 rfl rfl hin_17 dX7_goBack_48 ?_
          refine lv_topi (fun x_18 ex_18 => ?_)
          replace hF := nm_i hF ex_18
          replace hF := ast_i hF
          obtain ⟨hin_19, hF⟩ := hF
          refine va_iast (x := x_18) hx hb hK hP hD hS 5 0 rfl rfl hin_19 dX7_goBack_49 (fun H locs hP hD hS => ?_)
          obtain ⟨zM_20, ezM_20⟩ : ∃ y : MS, y = (zM_9.1, va_up zM_9.2 8 (upd (zM_9.2 8) (Int32.toNatClampNeg v2_8) x_18)) := ⟨_, rfl⟩
          replace hF := nm_i hF ezM_20
          have hP : va_P D vwCl (wcM ci aM zM_20) H := by rw [ezM_20]; exact hP
          have hD : va_D A (wcM ci aM zM_20) := by rw [ezM_20]; exact hD
          obtain ⟨v2_21, ev2_21⟩ : ∃ y : Int32, y = v2_8 + 1 := ⟨_, rfl⟩
          replace hF := nm_i hF ev2_21
          refine lv_iinc (v := v2_21) (lv' := [(2, .int v2_21), (0, .ref (aM 0)), (1, .int p1)]) hx hb dX7_goBack_50 hl (k := 2) rfl (by rw [ev2_21]; rfl) (by decide) rfl (fun ls hl => ?_)
          refine lv_goto (tgt := 27) hx hb dX7_goBack_53 (by decide) ?_
          exact ih_10 (v2_21, zM_20) H locs ls ⟨hF, hP, hD, hS, lv_sub hl [1, 2, 0] rfl⟩
    · replace hF := if_i c_6 hF
      refine lv_ldc (v := (-1000000003)) hx hb hown hk_6 dX7_goBack_22 ?_
      obtain rfl := Option.some.inj hF
      exact W.iret (v := (-1000000003)) hx hb hr (fun t ht hW => ⟨⟨_, (), rfl, rfl, by rw [ht]; exact hP, va_K.moved hW.alike hK, hD⟩, hS.F ht⟩) hS.2.2 dX7_goBack_24
  · replace hF := if_i c_3 hF
    refine lv_ldc (v := (-1000000001)) hx hb hown hk_7 dX7_goBack_10 ?_
    obtain rfl := Option.some.inj hF
    exact W.iret (v := (-1000000001)) hx hb hr (fun t ht hW => ⟨⟨_, (), rfl, rfl, by rw [ht]; exact hP, va_K.moved hW.alike hK, hD⟩, hS.F ht⟩) hS.2.2 dX7_goBack_12

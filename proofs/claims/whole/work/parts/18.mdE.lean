noncomputable def f_X7_wouldDecide (zM : MS) (p1 : Int32) (p2 : Int32) : Option (Int32 × MS) := ald 122 (zM.2 8) p1 fun x_2 => if x_2 < 0 then (some ((0 : Int32), zM)) else (ald 122 (zM.2 8) (80 + p1) fun x_5 => if x_5 = 0 then (some ((0 : Int32), zM)) else (ast 122 (80 + p1) <| nm ((zM.1, va_up zM.2 8 (upd (zM.2 8) (Int32.toNatClampNeg (80 + p1)) 0)) : MS) fun zM_8 => (f_X7_isShut zM_8 p1).bind fun r_9 => (if r_9 = 0 then (some (0 : Int32)) else ((f_X7_landOf zM_8 p2).bind fun r_14 => (f_X7_shutInBy zM_8 r_14).bind fun r_16 => if r_16 < 0 then (some (0 : Int32)) else (some (1 : Int32)))).bind fun t_11 => ast 122 (80 + p1) <| nm ((zM_8.1, va_up zM_8.2 8 (upd (zM_8.2 8) (Int32.toNatClampNeg (80 + p1)) 1)) : MS) fun zM_21 => bz t_11 <| some (t_11, zM_21)))
set_option maxHeartbeats 4000000 in
set_option maxRecDepth 100000 in
theorem c_X7_wouldDecide (l : Launch) (D : va_G) (ci : Nat → ClassId) (aM : Nat → Nat) (sz : Nat) (zM : MS) (p1 : Int32) (p2 : Int32) (res : Int32 × MS) (hF : f_X7_wouldDecide zM p1 p2 = some res) : CtI l yX7_wouldDecide wsX7_wouldDecide { frames := 4, cells := 0, slots := 0, locals := 90 } [.ref (aM 0), .int p1, .int p2] D ci (wcM ci aM zM) sz res.1 (wcM ci aM res.2) := by
  refine Met.ofW (cc := cX7_wouldDecide) (maxL := 4) (ret := (some .boolean)) (by decide) rfl ?_
  intro p e s m args below meth c s₁ B hml hv
  obtain ⟨rfl, hsz, hP, hK, hD0⟩ := hv
  have hx := B.exec
  have hb := B.bytes
  have hr := B.returns
  have hts := atoms_spec (ws := wsX7_wouldDecide) B.pre
  have hown : s.vm.findClass RX7 = some m.cls := findClass_of_methodNamed B.named
  have hlocks := B.notSynchronized
  subst hsz
  have hD := hD0.self (sz := s.heap.size)
  generalize hAe : va_A (wcM ci aM zM) s.heap.size = A at hD ⊢
  have hA : ∀ q : Nat, s.heap.size ≤ q → A q := fun q h => by rw [← hAe]; exact Or.inr h
  clear hD0 hAe
  have hl := lv_entry ([.ref (aM 0), .int p1, .int p2]) (n := 4) (Nat.le_of_ble_eq_true rfl)
  rw [lg_entry_eq]
  generalize (lg_sl ([.ref (aM 0), .int p1, .int p2]) ++ List.replicate (4 - (lg_sl ([.ref (aM 0), .int p1, .int p2])).length) Slot.unset).toArray = ls at hl ⊢
  have hl : lv_has ls 4 [(0, .ref (aM 0)), (1, .int p1), (2, .int p2)] := hl
  have hP : va_P D vwCl (wcM ci aM zM) s.heap := hP
  generalize hH0 : s.heap = H at hP ⊢
  have hS : va_S A s.heap H [] := by rw [← hH0]; exact va_S.rf
  clear hH0
  generalize ([] : List Loc) = locs at hS ⊢
  have hk_0 := hts (.fieldLink RX7 23 "HedgeWarModel" "now" "[I") (by decide +kernel)
  have hin_RX7 : ∀ w ∈ wsX70, w ∈ wsX7_wouldDecide := by decide +kernel
  unfold f_X7_wouldDecide at hF
  refine lv_aload_n hx hb dX7_wouldDecide_0 rfl (lv_at hl 0 rfl) ?_
  refine va_get (D := D) (ci := 7) (v := .ref (aM 8)) (C := RX7) (T := TX7) (N := 38) hx hb hts hin_RX7 hown hK hP 0 rfl rfl 8 (by decide) hk_0 (fun _ h9 => h9) rfl dX7_wouldDecide_1 ?_
  refine lv_iload_n hx hb dX7_wouldDecide_4 rfl (lv_at hl 1 rfl) ?_
  replace hF := ald_i hF
  obtain ⟨hin_1, hF⟩ := hF
  refine va_iald hx hb hK hP 5 0 rfl rfl hin_1 dX7_wouldDecide_5 ?_
  refine lv_topi (fun x_2 ex_2 => ?_)
  replace hF := nm_i hF ex_2
  refine lv_if_lt (tgt := 21) hx hb dX7_wouldDecide_6 (by decide) (fun c_3 => ?_) (fun c_3 => ?_)
  · replace hF := if_i c_3 hF
    refine lv_iconst (v := 0) hx hb dX7_wouldDecide_21 (by decide) ?_
    obtain rfl := Option.some.inj hF
    exact W.zret (v := 0) (ty := .boolean) hx hb hr rfl (fun t ht hW => ⟨⟨_, (), rfl, rfl, by rw [ht]; exact hP, va_K.moved hW.alike hK, hD⟩, hS.F ht⟩) hS.2.2 dX7_wouldDecide_22
  · replace hF := if_o c_3 hF
    refine lv_aload_n hx hb dX7_wouldDecide_9 rfl (lv_at hl 0 rfl) ?_
    refine va_get (D := D) (ci := 7) (v := .ref (aM 8)) (C := RX7) (T := TX7) (N := 38) hx hb hts hin_RX7 hown hK hP 0 rfl rfl 8 (by decide) hk_0 (fun _ h9 => h9) rfl dX7_wouldDecide_10 ?_
    refine lv_bipush (v := 80) hx hb dX7_wouldDecide_13 (by decide) ?_
    refine lv_iload_n hx hb dX7_wouldDecide_15 rfl (lv_at hl 1 rfl) ?_
    refine lv_iadd hx hb dX7_wouldDecide_16 ?_
    replace hF := ald_i hF
    obtain ⟨hin_4, hF⟩ := hF
    refine va_iald hx hb hK hP 5 0 rfl rfl hin_4 dX7_wouldDecide_17 ?_
    refine lv_topi (fun x_5 ex_5 => ?_)
    replace hF := nm_i hF ex_5
    refine lv_if_ne (tgt := 23) hx hb dX7_wouldDecide_18 (by decide) (fun c_6 => ?_) (fun c_6 => ?_)
    · replace hF := if_o c_6 hF
      refine lv_aload_n hx hb dX7_wouldDecide_23 rfl (lv_at hl 0 rfl) ?_
      refine va_get (D := D) (ci := 7) (v := .ref (aM 8)) (C := RX7) (T := TX7) (N := 38) hx hb hts hin_RX7 hown hK hP 0 rfl rfl 8 (by decide) hk_0 (fun _ h9 => h9) rfl dX7_wouldDecide_24 ?_
      refine lv_bipush (v := 80) hx hb dX7_wouldDecide_27 (by decide) ?_
      refine lv_iload_n hx hb dX7_wouldDecide_29 rfl (lv_at hl 1 rfl) ?_
      refine lv_iadd hx hb dX7_wouldDecide_30 ?_
      refine lv_iconst (v := 0) hx hb dX7_wouldDecide_31 (by decide) ?_
      replace hF := ast_i hF
      obtain ⟨hin_7, hF⟩ := hF
      refine va_iast (x := 0) hx hb hK hP hD hS 5 0 rfl rfl hin_7 dX7_wouldDecide_32 (fun H locs hP hD hS => ?_)
      obtain ⟨zM_8, ezM_8⟩ : ∃ y : MS, y = (zM.1, va_up zM.2 8 (upd (zM.2 8) (Int32.toNatClampNeg (80 + p1)) 0)) := ⟨_, rfl⟩
      replace hF := nm_i hF ezM_8
      have hP : va_P D vwCl (wcM ci aM zM_8) H := by rw [ezM_8]; exact hP
      have hD : va_D A (wcM ci aM zM_8) := by rw [ezM_8]; exact hD
      refine lv_aload_n hx hb dX7_wouldDecide_33 rfl (lv_at hl 0 rfl) ?_
      refine lv_iload_n hx hb dX7_wouldDecide_34 rfl (lv_at hl 1 rfl) ?_
      replace hF := bnd hF
      obtain ⟨r_9, hc_10, hF⟩ := hF
      refine cl_Vi0 (As := [.int p1]) (rest := []) ⟨hx, hb, hml, hown, hts⟩ (cwV 1 hts gX7_wouldDecide_X7_isShut rfl rfl rfl (by decide +kernel) ⟨Nat.le_of_ble_eq_true rfl, Nat.le_of_ble_eq_true rfl⟩) (c_X7_isShut l D ci aM H.size zM_8 p1 _ hc_10) hK hP hD hS hA 0 rfl rfl rfl rfl hl.1 (Nat.le_of_ble_eq_true rfl) dX7_wouldDecide_35 (Nat.zero_le _) (Nat.zero_le _) (fun H locs hP hD hS => ?_)
      have hP : va_P D vwCl (wcM ci aM zM_8) H := hP
      have hD : va_D A (wcM ci aM zM_8) := hD
      replace hF := bnd hF
      obtain ⟨t_11, hv_19, hF⟩ := hF
      refine jn (P := fun H locs ls => va_P D vwCl (wcM ci aM zM_8) H ∧ va_D A (wcM ci aM zM_8) ∧ va_S A s.heap H locs ∧ lv_has ls 4 [(0, .ref (aM 0)), (1, .int p1), (2, .int p2)]) (pcJ := 58) (st := [.int t_11]) ?_ ?_
      · intro H locs ls hJ
        obtain ⟨hP, hD, hS, hl⟩ := hJ
        refine lv_istore_n (lv' := [(3, .int t_11), (0, .ref (aM 0)), (1, .int p1), (2, .int p2)]) hx hb dX7_wouldDecide_58 rfl hl (by decide) rfl (fun ls hl => ?_)
        refine lv_aload_n hx hb dX7_wouldDecide_59 rfl (lv_at hl 1 rfl) ?_
        refine va_get (D := D) (ci := 7) (v := .ref (aM 8)) (C := RX7) (T := TX7) (N := 38) hx hb hts hin_RX7 hown hK hP 0 rfl rfl 8 (by decide) hk_0 (fun _ h9 => h9) rfl dX7_wouldDecide_60 ?_
        refine lv_bipush (v := 80) hx hb dX7_wouldDecide_63 (by decide) ?_
        refine lv_iload_n hx hb dX7_wouldDecide_65 rfl (lv_at hl 2 rfl) ?_
        refine lv_iadd hx hb dX7_wouldDecide_66 ?_
        refine lv_iconst (v := 1) hx hb dX7_wouldDecide_67 (by decide) ?_
        replace hF := ast_i hF
        obtain ⟨hin_20, hF⟩ := hF
        refine va_iast (x := 1) hx hb hK hP hD hS 5 0 rfl rfl hin_20 dX7_wouldDecide_68 (fun H locs hP hD hS => ?_)
        obtain ⟨zM_21, ezM_21⟩ : ∃ y : MS, y = (zM_8.1, va_up zM_8.2 8 (upd (zM_8.2 8) (Int32.toNatClampNeg (80 + p1)) 1)) := ⟨_, rfl⟩
        replace hF := nm_i hF ezM_21
        have hP : va_P D vwCl (wcM ci aM zM_21) H := by rw [ezM_21]; exact hP
        have hD : va_D A (wcM ci aM zM_21) := by rw [ezM_21]; exact hD
        refine lv_iload_n hx hb dX7_wouldDecide_69 rfl (lv_at hl 0 rfl) ?_
        replace hF := bz_i hF
        obtain ⟨hz_22, hF⟩ := hF
        obtain rfl := Option.some.inj hF
        exact W.zret (v := t_11) (ty := .boolean) hx hb hr hz_22 (fun t ht hW => ⟨⟨_, (), rfl, rfl, by rw [ht]; exact hP, va_K.moved hW.alike hK, hD⟩, hS.F ht⟩) hS.2.2 dX7_wouldDecide_70
      · intro J_12
        clear hF
        have hF := hv_19
        refine lv_if_eq (tgt := 57) hx hb dX7_wouldDecide_38 (by decide) (fun c_13 => ?_) (fun c_13 => ?_)
        · replace hF := if_i c_13 hF
          refine lv_iconst (v := 0) hx hb dX7_wouldDecide_57 (by decide) ?_
          obtain rfl := Option.some.inj hF
          exact J_12 H locs ls ⟨hP, hD, hS, lv_sub hl [0, 1, 2] rfl⟩
        · replace hF := if_o c_13 hF
          refine lv_aload_n hx hb dX7_wouldDecide_41 rfl (lv_at hl 0 rfl) ?_
          refine lv_aload_n hx hb dX7_wouldDecide_42 rfl (lv_at hl 0 rfl) ?_
          refine lv_iload_n hx hb dX7_wouldDecide_43 rfl (lv_at hl 2 rfl) ?_
          replace hF := bnd hF
          obtain ⟨r_14, hc_15, hF⟩ := hF
          refine cl_Vi0 (As := [.int p2]) (rest := [.ref (aM 0)]) ⟨hx, hb, hml, hown, hts⟩ (cwV 1 hts gX7_wouldDecide_X7_landOf rfl rfl rfl (by decide +kernel) ⟨Nat.le_of_ble_eq_true rfl, Nat.le_of_ble_eq_true rfl⟩) (c_X7_landOf l D ci aM H.size zM_8 p2 _ hc_15) hK hP hD hS hA 0 rfl rfl rfl rfl hl.1 (Nat.le_of_ble_eq_true rfl) dX7_wouldDecide_44 (Nat.zero_le _) (Nat.zero_le _) (fun H locs hP hD hS => ?_)
          have hP : va_P D vwCl (wcM ci aM zM_8) H := hP
          have hD : va_D A (wcM ci aM zM_8) := hD
          replace hF := bnd hF
          obtain ⟨r_16, hc_17, hF⟩ := hF
          refine cl_Vi0 (As := [.int r_14]) (rest := []) ⟨hx, hb, hml, hown, hts⟩ (cwV 1 hts gX7_wouldDecide_X7_shutInBy rfl rfl rfl (by decide +kernel) ⟨Nat.le_of_ble_eq_true rfl, Nat.le_of_ble_eq_true rfl⟩) (c_X7_shutInBy l D ci aM H.size zM_8 r_14 _ hc_17) hK hP hD hS hA 0 rfl rfl rfl rfl hl.1 (Nat.le_of_ble_eq_true rfl) dX7_wouldDecide_47 (Nat.zero_le _) (Nat.zero_le _) (fun H locs hP hD hS => ?_)
          have hP : va_P D vwCl (wcM ci aM zM_8) H := hP
          have hD : va_D A (wcM ci aM zM_8) := hD
          refine lv_if_lt (tgt := 57) hx hb dX7_wouldDecide_50 (by decide) (fun c_18 => ?_) (fun c_18 => ?_)
          · replace hF := if_i c_18 hF
            refine lv_iconst (v := 0) hx hb dX7_wouldDecide_57 (by decide) ?_
            obtain rfl := Option.some.inj hF
            exact J_12 H locs ls ⟨hP, hD, hS, lv_sub hl [0, 1, 2] rfl⟩
          · replace hF := if_o c_18 hF
            refine lv_iconst (v := 1) hx hb dX7_wouldDecide_53 (by decide) ?_
            refine lv_goto (tgt := 58) hx hb dX7_wouldDecide_54 (by decide) ?_
            obtain rfl := Option.some.inj hF
            exact J_12 H locs ls ⟨hP, hD, hS, lv_sub hl [0, 1, 2] rfl⟩
    · replace hF := if_i c_6 hF
      refine lv_iconst (v := 0) hx hb dX7_wouldDecide_21 (by decide) ?_
      obtain rfl := Option.some.inj hF
      exact W.zret (v := 0) (ty := .boolean) hx hb hr rfl (fun t ht hW => ⟨⟨_, (), rfl, rfl, by rw [ht]; exact hP, va_K.moved hW.alike hK, hD⟩, hS.F ht⟩) hS.2.2 dX7_wouldDecide_22
noncomputable def L_X7_decides_16 (p1 : Int32) (p2 : Int32) : Nat → Int32 → Int32 → MS → Option (Int32 × MS)
  | 0, _, _, _ => none
  | n + 1, v3_6, v4_7, zM_8 => if (zM_8.1 3) ≤ v4_7 then (if p2 = (-1) then (some (v3_6, zM_8)) else (some ((-1 : Int32), zM_8))) else ((f_X7_wouldDecide zM_8 v4_7 p1).bind fun q_16 => nm q_16.1 fun r_13 => nm q_16.2 fun zM_14 => if r_13 = 0 then (nm (v4_7 + 1) fun v4_18 => L_X7_decides_16 p1 p2 n v3_6 v4_18 zM_14) else (if v3_6 = p2 then (some (v4_7, zM_14)) else (nm (v3_6 + 1) fun v3_20 => nm (v4_7 + 1) fun v4_21 => L_X7_decides_16 p1 p2 n v3_20 v4_21 zM_14)))
noncomputable def f_X7_decides (zM : MS) (p1 : Int32) (p2 : Int32) : Option (Int32 × MS) := (f_X7_isField zM p1).bind fun r_1 => if r_1 = 0 then (some ((-1000000001 : Int32), zM)) else (nm (0 : Int32) fun v3_4 => nm (0 : Int32) fun v4_5 => L_X7_decides_16 p1 p2 3000 v3_4 v4_5 zM)
set_option maxHeartbeats 4000000 in
set_option maxRecDepth 100000 in
theorem c_X7_decides (l : Launch) (D : va_G) (ci : Nat → ClassId) (aM : Nat → Nat) (sz : Nat) (zM : MS) (p1 : Int32) (p2 : Int32) (res : Int32 × MS) (hF : f_X7_decides zM p1 p2 = some res) : CtI l yX7_decides wsX7_decides { frames := 5, cells := 0, slots := 0, locals := 113 } [.ref (aM 0), .int p1, .int p2] D ci (wcM ci aM zM) sz res.1 (wcM ci aM res.2) := by
  refine Met.ofW (cc := cX7_decides) (maxL := 5) (ret := (some .int)) (by decide) rfl ?_
  intro p e s m args below meth c s₁ B hml hv
  obtain ⟨rfl, hsz, hP, hK, hD0⟩ := hv
  have hx := B.exec
  have hb := B.bytes
  have hr := B.returns
  have hts := atoms_spec (ws := wsX7_decides) B.pre
  have hown : s.vm.findClass RX7 = some m.cls := findClass_of_methodNamed B.named
  have hlocks := B.notSynchronized
  subst hsz
  have hD := hD0.self (sz := s.heap.size)
  generalize hAe : va_A (wcM ci aM zM) s.heap.size = A at hD ⊢
  have hA : ∀ q : Nat, s.heap.size ≤ q → A q := fun q h => by rw [← hAe]; exact Or.inr h
  clear hD0 hAe
  have hl := lv_entry ([.ref (aM 0), .int p1, .int p2]) (n := 5) (Nat.le_of_ble_eq_true rfl)
  rw [lg_entry_eq]
  generalize (lg_sl ([.ref (aM 0), .int p1, .int p2]) ++ List.replicate (5 - (lg_sl ([.ref (aM 0), .int p1, .int p2])).length) Slot.unset).toArray = ls at hl ⊢
  have hl : lv_has ls 5 [(0, .ref (aM 0)), (1, .int p1), (2, .int p2)] := hl
  have hP : va_P D vwCl (wcM ci aM zM) s.heap := hP
  generalize hH0 : s.heap = H at hP ⊢
  have hS : va_S A s.heap H [] := by rw [← hH0]; exact va_S.rf
  clear hH0
  generalize ([] : List Loc) = locs at hS ⊢
  have hk_0 := hts (.fieldLink RX7 91 "HedgeWarModel" "edges" "I") (by decide +kernel)
  have hin_RX7 : ∀ w ∈ wsX70, w ∈ wsX7_decides := by decide +kernel
  have hk_2 := hts (.constant RX7 210 (-1000000001)) (by decide +kernel)
  unfold f_X7_decides at hF
  refine lv_aload_n hx hb dX7_decides_0 rfl (lv_at hl 0 rfl) ?_
  refine lv_iload_n hx hb dX7_decides_1 rfl (lv_at hl 1 rfl) ?_
  replace hF := bnd hF
  obtain ⟨r_1, hc_2, hF⟩ := hF
  refine cl_Vi0 (As := [.int p1]) (rest := []) ⟨hx, hb, hml, hown, hts⟩ (cwV 1 hts gX7_decides_X7_isField rfl rfl rfl (by decide +kernel) ⟨Nat.le_of_ble_eq_true rfl, Nat.le_of_ble_eq_true rfl⟩) (c_X7_isField l D ci aM H.size zM p1 _ hc_2) hK hP hD hS hA 0 rfl rfl rfl rfl hl.1 (Nat.le_of_ble_eq_true rfl) dX7_decides_2 (Nat.zero_le _) (Nat.zero_le _) (fun H locs hP hD hS => ?_)
  have hP : va_P D vwCl (wcM ci aM zM) H := hP
  have hD : va_D A (wcM ci aM zM) := hD
  refine lv_if_ne (tgt := 11) hx hb dX7_decides_5 (by decide) (fun c_3 => ?_) (fun c_3 => ?_)
  · replace hF := if_o c_3 hF
    refine lv_iconst (v := 0) hx hb dX7_decides_11 (by decide) ?_
    refine lv_topi (fun v3_4 ev3_4 => ?_)
    replace hF := nm_i hF ev3_4
    refine lv_istore_n (lv' := [(3, .int v3_4), (0, .ref (aM 0)), (1, .int p1), (2, .int p2)]) hx hb dX7_decides_12 rfl hl (by decide) rfl (fun ls hl => ?_)
    refine lv_iconst (v := 0) hx hb dX7_decides_13 (by decide) ?_
    refine lv_topi (fun v4_5 ev4_5 => ?_)
    replace hF := nm_i hF ev4_5
    refine lv_istore (lv' := [(4, .int v4_5), (3, .int v3_4), (0, .ref (aM 0)), (1, .int p1), (2, .int p2)]) hx hb dX7_decides_14 hl (by decide) rfl (fun ls hl => ?_)
    refine lpW (σ := Int32 × Int32 × MS) (I := fun n v H locs ls => L_X7_decides_16 p1 p2 n v.1 v.2.1 v.2.2 = some res ∧ va_P D vwCl (wcM ci aM v.2.2) H ∧ va_D A (wcM ci aM v.2.2) ∧ va_S A s.heap H locs ∧ lv_has ls 5 [(0, .ref (aM 0)), (1, .int p1), (2, .int p2), (3, .int v.1), (4, .int v.2.1)]) 3000 (v3_4, v4_5, zM) (fun _ _ _ _ h => no_none h.1) ⟨hF, hP, hD, hS, lv_sub hl [2, 3, 4, 1, 0] rfl⟩ ?_
    clear hF hP hD hS hl
    intro n ih_9 vq H locs ls hI
    obtain ⟨v3_6, v4_7, zM_8⟩ := vq
    obtain ⟨hF, hP, hD, hS, hl⟩ := hI
    have hP : va_P D vwCl (wcM ci aM zM_8) H := hP
    have hD : va_D A (wcM ci aM zM_8) := hD
    have hl : lv_has ls 5 [(0, .ref (aM 0)), (1, .int p1), (2, .int p2), (3, .int v3_6), (4, .int v4_7)] := hl
    replace hF : L_X7_decides_16 p1 p2 (n + 1) v3_6 v4_7 zM_8 = some res := hF
    rw [L_X7_decides_16] at hF
    refine lv_iload hx hb dX7_decides_16 (lv_at hl 4 rfl) ?_
    refine lv_aload_n hx hb dX7_decides_18 rfl (lv_at hl 0 rfl) ?_
    refine va_get (D := D) (ci := 7) (v := .int (zM_8.1 3)) (C := RX7) (T := TX7) (N := 38) hx hb hts hin_RX7 hown hK hP 0 rfl rfl 3 (by decide) hk_0 (fun _ h9 => h9) rfl dX7_decides_19 ?_
    refine lv_icmp_ge (tgt := 52) hx hb dX7_decides_22 (by decide) (fun c_11 => ?_) (fun c_11 => ?_)
    · replace hF := if_i c_11 hF
      refine lv_iload_n hx hb dX7_decides_52 rfl (lv_at hl 2 rfl) ?_
      refine lv_iconst (v := (-1)) hx hb dX7_decides_53 (by decide) ?_
      refine lv_icmp_ne (tgt := 61) hx hb dX7_decides_54 (by decide) (fun c_12 => ?_) (fun c_12 => ?_)
      · replace hF := if_o c_12 hF
        refine lv_iconst (v := (-1)) hx hb dX7_decides_61 (by decide) ?_
        obtain rfl := Option.some.inj hF
        exact W.iret (v := (-1)) hx hb hr (fun t ht hW => ⟨⟨_, (), rfl, rfl, by rw [ht]; exact hP, va_K.moved hW.alike hK, hD⟩, hS.F ht⟩) hS.2.2 dX7_decides_62
      · replace hF := if_i c_12 hF
        refine lv_iload_n hx hb dX7_decides_57 rfl (lv_at hl 3 rfl) ?_
        refine lv_goto (tgt := 62) hx hb dX7_decides_58 (by decide) ?_
        obtain rfl := Option.some.inj hF
        exact W.iret (v := v3_6) hx hb hr (fun t ht hW => ⟨⟨_, (), rfl, rfl, by rw [ht]; exact hP, va_K.moved hW.alike hK, hD⟩, hS.F ht⟩) hS.2.2 dX7_decides_62
    · replace hF := if_o c_11 hF
      refine lv_aload_n hx hb dX7_decides_25 rfl (lv_at hl 0 rfl) ?_
      refine lv_iload hx hb dX7_decides_26 (lv_at hl 4 rfl) ?_
      refine lv_iload_n hx hb dX7_decides_28 rfl (lv_at hl 1 rfl) ?_
      replace hF := bnd hF
      obtain ⟨q_16, hc_15, hF⟩ := hF
      obtain ⟨r_13, er_13⟩ : ∃ y : Int32, y = q_16.1 := ⟨_, rfl⟩
      replace hF := nm_i hF er_13
      obtain ⟨zM_14, ezM_14⟩ : ∃ y : MS, y = q_16.2 := ⟨_, rfl⟩
      replace hF := nm_i hF ezM_14
      obtain rfl : q_16 = (r_13, zM_14) := by rw [er_13, ezM_14]
      clear er_13
      clear ezM_14
      refine cl_Vi0 (As := [.int v4_7, .int p1]) (rest := []) ⟨hx, hb, hml, hown, hts⟩ (cwV 2 hts gX7_decides_X7_wouldDecide rfl rfl rfl (by decide +kernel) ⟨Nat.le_of_ble_eq_true rfl, Nat.le_of_ble_eq_true rfl⟩) (c_X7_wouldDecide l D ci aM H.size zM_8 v4_7 p1 _ hc_15) hK hP hD hS hA 0 rfl rfl rfl rfl hl.1 (Nat.le_of_ble_eq_true rfl) dX7_decides_29 (Nat.zero_le _) (Nat.zero_le _) (fun H locs hP hD hS => ?_)
      have hP : va_P D vwCl (wcM ci aM zM_14) H := hP
      have hD : va_D A (wcM ci aM zM_14) := hD
      refine lv_if_eq (tgt := 46) hx hb dX7_decides_32 (by decide) (fun c_17 => ?_) (fun c_17 => ?_)
      · replace hF := if_i c_17 hF
        obtain ⟨v4_18, ev4_18⟩ : ∃ y : Int32, y = v4_7 + 1 := ⟨_, rfl⟩
        replace hF := nm_i hF ev4_18
        refine lv_iinc (v := v4_18) (lv' := [(4, .int v4_18), (0, .ref (aM 0)), (1, .int p1), (2, .int p2), (3, .int v3_6)]) hx hb dX7_decides_46 hl (k := 4) rfl (by rw [ev4_18]; rfl) (by decide) rfl (fun ls hl => ?_)
        refine lv_goto (tgt := 16) hx hb dX7_decides_49 (by decide) ?_
        exact ih_9 (v3_6, v4_18, zM_14) H locs ls ⟨hF, hP, hD, hS, lv_sub hl [1, 2, 3, 4, 0] rfl⟩
      · replace hF := if_o c_17 hF
        refine lv_iload_n hx hb dX7_decides_35 rfl (lv_at hl 3 rfl) ?_
        refine lv_iload_n hx hb dX7_decides_36 rfl (lv_at hl 2 rfl) ?_
        refine lv_icmp_ne (tgt := 43) hx hb dX7_decides_37 (by decide) (fun c_19 => ?_) (fun c_19 => ?_)
        · replace hF := if_o c_19 hF
          obtain ⟨v3_20, ev3_20⟩ : ∃ y : Int32, y = v3_6 + 1 := ⟨_, rfl⟩
          replace hF := nm_i hF ev3_20
          refine lv_iinc (v := v3_20) (lv' := [(3, .int v3_20), (0, .ref (aM 0)), (1, .int p1), (2, .int p2), (4, .int v4_7)]) hx hb dX7_decides_43 hl (k := 3) rfl (by rw [ev3_20]; rfl) (by decide) rfl (fun ls hl => ?_)
          obtain ⟨v4_21, ev4_21⟩ : ∃ y : Int32, y = v4_7 + 1 := ⟨_, rfl⟩
          replace hF := nm_i hF ev4_21
          refine lv_iinc (v := v4_21) (lv' := [(4, .int v4_21), (3, .int v3_20), (0, .ref (aM 0)), (1, .int p1), (2, .int p2)]) hx hb dX7_decides_46 hl (k := 4) rfl (by rw [ev4_21]; rfl) (by decide) rfl (fun ls hl => ?_)
          refine lv_goto (tgt := 16) hx hb dX7_decides_49 (by decide) ?_
          exact ih_9 (v3_20, v4_21, zM_14) H locs ls ⟨hF, hP, hD, hS, lv_sub hl [2, 3, 4, 1, 0] rfl⟩
        · replace hF := if_i c_19 hF
          refine lv_iload hx hb dX7_decides_40 (lv_at hl 4 rfl) ?_
          obtain rfl := Option.some.inj hF
          exact W.iret (v := v4_7) hx hb hr (fun t ht hW => ⟨⟨_, (), rfl, rfl, by rw [ht]; exact hP, va_K.moved hW.alike hK, hD⟩, hS.F ht⟩) hS.2.2 dX7_decides_42
  · replace hF := if_i c_3 hF
    refine lv_ldc (v := (-1000000001)) hx hb hown hk_2 dX7_decides_8 ?_
    obtain rfl := Option.some.inj hF
    exact W.iret (v := (-1000000001)) hx hb hr (fun t ht hW => ⟨⟨_, (), rfl, rfl, by rw [ht]; exact hP, va_K.moved hW.alike hK, hD⟩, hS.F ht⟩) hS.2.2 dX7_decides_10
noncomputable def L_X7_tallIn_47 (zM : MS) (p1 : Int32) (t_9 : Int32) : Nat → Int32 → Option (Int32)
  | 0, _ => none
  | n + 1, v3_16 => (f_X7_heightBy zM p1 (t_9 + v3_16)).bind fun r_20 => if (12 : Int32) ≤ r_20 then (some v3_16) else (nm (v3_16 + 1) fun v3_23 => L_X7_tallIn_47 zM p1 t_9 n v3_23)
noncomputable def f_X7_tallIn (zM : MS) (p1 : Int32) : Option (Int32) := (f_X7_isEdge zM p1).bind fun r_1 => if r_1 = 0 then (some (-1000000001 : Int32)) else (ald 40 (zM.2 7) p1 fun x_5 => if x_5 = 0 then (ald 122 (zM.2 8) p1 fun x_8 => (if (0 : Int32) ≤ x_8 then (ald 122 (zM.2 8) (40 + p1) fun x_13 => some (x_13 : Int32)) else (some (0 : Int32))).bind fun t_9 => nm (0 : Int32) fun v3_15 => (L_X7_tallIn_47 zM p1 t_9 3000 v3_15).bind fun v3_19 => some v3_19) else (some (-1 : Int32)))
set_option maxHeartbeats 4000000 in
set_option maxRecDepth 100000 in
theorem c_X7_tallIn (l : Launch) (D : va_G) (ci : Nat → ClassId) (aM : Nat → Nat) (sz : Nat) (zM : MS) (p1 : Int32) (res : Int32) (hF : f_X7_tallIn zM p1 = some res) : CtI l yX7_tallIn wsX7_tallIn { frames := 2, cells := 0, slots := 0, locals := 46 } [.ref (aM 0), .int p1] D ci (wcM ci aM zM) sz res (wcM ci aM zM) := by
  refine Met.ofW (cc := cX7_tallIn) (maxL := 4) (ret := (some .int)) (by decide) rfl ?_
  intro p e s m args below meth c s₁ B hml hv
  obtain ⟨rfl, hsz, hP, hK, hD0⟩ := hv
  have hx := B.exec
  have hb := B.bytes
  have hr := B.returns
  have hts := atoms_spec (ws := wsX7_tallIn) B.pre
  have hown : s.vm.findClass RX7 = some m.cls := findClass_of_methodNamed B.named
  have hlocks := B.notSynchronized
  subst hsz
  have hD := hD0.self (sz := s.heap.size)
  generalize hAe : va_A (wcM ci aM zM) s.heap.size = A at hD ⊢
  have hA : ∀ q : Nat, s.heap.size ≤ q → A q := fun q h => by rw [← hAe]; exact Or.inr h
  clear hD0 hAe
  have hl := lv_entry ([.ref (aM 0), .int p1]) (n := 4) (Nat.le_of_ble_eq_true rfl)
  rw [lg_entry_eq]
  generalize (lg_sl ([.ref (aM 0), .int p1]) ++ List.replicate (4 - (lg_sl ([.ref (aM 0), .int p1])).length) Slot.unset).toArray = ls at hl ⊢
  have hl : lv_has ls 4 [(0, .ref (aM 0)), (1, .int p1)] := hl
  have hP : va_P D vwCl (wcM ci aM zM) s.heap := hP
  generalize hH0 : s.heap = H at hP ⊢
  have hS : va_S A s.heap H [] := by rw [← hH0]; exact va_S.rf
  clear hH0
  generalize ([] : List Loc) = locs at hS ⊢
  have hk_0 := hts (.fieldLink RX7 19 "HedgeWarModel" "path" "[Z") (by decide +kernel)
  have hin_RX7 : ∀ w ∈ wsX70, w ∈ wsX7_tallIn := by decide +kernel
  have hk_2 := hts (.fieldLink RX7 23 "HedgeWarModel" "now" "[I") (by decide +kernel)
  have hk_3 := hts (.constant RX7 210 (-1000000001)) (by decide +kernel)
  unfold f_X7_tallIn at hF
  refine lv_aload_n hx hb dX7_tallIn_0 rfl (lv_at hl 0 rfl) ?_
  refine lv_iload_n hx hb dX7_tallIn_1 rfl (lv_at hl 1 rfl) ?_
  replace hF := bnd hF
  obtain ⟨r_1, hc_2, hF⟩ := hF
  refine cl_Vi0 (As := [.int p1]) (rest := []) ⟨hx, hb, hml, hown, hts⟩ (cwV 1 hts gX7_tallIn_X7_isEdge rfl rfl rfl (by decide +kernel) ⟨Nat.le_of_ble_eq_true rfl, Nat.le_of_ble_eq_true rfl⟩) (c_X7_isEdge l D ci aM H.size zM p1 _ hc_2) hK hP hD hS hA 0 rfl rfl rfl rfl hl.1 (Nat.le_of_ble_eq_true rfl) dX7_tallIn_2 (Nat.zero_le _) (Nat.zero_le _) (fun H locs hP hD hS => ?_)
  have hP : va_P D vwCl (wcM ci aM zM) H := hP
  have hD : va_D A (wcM ci aM zM) := hD
  refine lv_if_ne (tgt := 11) hx hb dX7_tallIn_5 (by decide) (fun c_3 => ?_) (fun c_3 => ?_)
  · replace hF := if_o c_3 hF
    refine lv_aload_n hx hb dX7_tallIn_11 rfl (lv_at hl 0 rfl) ?_
    refine va_get (D := D) (ci := 7) (v := .ref (aM 7)) (C := RX7) (T := TX7) (N := 38) hx hb hts hin_RX7 hown hK hP 0 rfl rfl 7 (by decide) hk_0 (fun _ h9 => h9) rfl dX7_tallIn_12 ?_
    refine lv_iload_n hx hb dX7_tallIn_15 rfl (lv_at hl 1 rfl) ?_
    replace hF := ald_i hF
    obtain ⟨hin_4, hF⟩ := hF
    refine va_zald hx hb hK hP 4 2 rfl rfl hin_4 dX7_tallIn_16 ?_
    refine lv_topi (fun x_5 ex_5 => ?_)
    replace hF := nm_i hF ex_5
    refine lv_if_eq (tgt := 22) hx hb dX7_tallIn_17 (by decide) (fun c_6 => ?_) (fun c_6 => ?_)
    · replace hF := if_i c_6 hF
      refine lv_aload_n hx hb dX7_tallIn_22 rfl (lv_at hl 0 rfl) ?_
      refine va_get (D := D) (ci := 7) (v := .ref (aM 8)) (C := RX7) (T := TX7) (N := 38) hx hb hts hin_RX7 hown hK hP 0 rfl rfl 8 (by decide) hk_2 (fun _ h9 => h9) rfl dX7_tallIn_23 ?_
      refine lv_iload_n hx hb dX7_tallIn_26 rfl (lv_at hl 1 rfl) ?_
      replace hF := ald_i hF
      obtain ⟨hin_7, hF⟩ := hF
      refine va_iald hx hb hK hP 5 0 rfl rfl hin_7 dX7_tallIn_27 ?_
      refine lv_topi (fun x_8 ex_8 => ?_)
      replace hF := nm_i hF ex_8
      replace hF := bnd hF
      obtain ⟨t_9, hv_14, hF⟩ := hF
      refine jn (P := fun H locs ls => va_P D vwCl (wcM ci aM zM) H ∧ va_D A (wcM ci aM zM) ∧ va_S A s.heap H locs ∧ lv_has ls 4 [(0, .ref (aM 0)), (1, .int p1)]) (pcJ := 44) (st := [.int t_9]) ?_ ?_
      · intro H locs ls hJ
        obtain ⟨hP, hD, hS, hl⟩ := hJ
        refine lv_istore_n (lv' := [(2, .int t_9), (0, .ref (aM 0)), (1, .int p1)]) hx hb dX7_tallIn_44 rfl hl (by decide) rfl (fun ls hl => ?_)
        refine lv_iconst (v := 0) hx hb dX7_tallIn_45 (by decide) ?_
        refine lv_topi (fun v3_15 ev3_15 => ?_)
        replace hF := nm_i hF ev3_15
        refine lv_istore_n (lv' := [(3, .int v3_15), (2, .int t_9), (0, .ref (aM 0)), (1, .int p1)]) hx hb dX7_tallIn_46 rfl hl (by decide) rfl (fun ls hl => ?_)
        replace hF := bnd hF
        obtain ⟨v3_19, hv_24, hF⟩ := hF
        refine jn (P := fun H locs ls => va_P D vwCl (wcM ci aM zM) H ∧ va_D A (wcM ci aM zM) ∧ va_S A s.heap H locs ∧ lv_has ls 4 [(0, .ref (aM 0)), (1, .int p1), (2, .int t_9), (3, .int v3_19)]) (pcJ := 66) (st := []) ?_ ?_
        · intro H locs ls hJ
          obtain ⟨hP, hD, hS, hl⟩ := hJ
          refine lv_iload_n hx hb dX7_tallIn_66 rfl (lv_at hl 3 rfl) ?_
          obtain rfl := Option.some.inj hF
          exact W.iret (v := v3_19) hx hb hr (fun t ht hW => ⟨⟨_, (), rfl, rfl, by rw [ht]; exact hP, va_K.moved hW.alike hK, hD⟩, hS.F ht⟩) hS.2.2 dX7_tallIn_67
        · intro J_18
          clear hF
          have hF := hv_24
          refine lpW (σ := Int32) (I := fun n v H locs ls => L_X7_tallIn_47 zM p1 t_9 n v = some v3_19 ∧ va_P D vwCl (wcM ci aM zM) H ∧ va_D A (wcM ci aM zM) ∧ va_S A s.heap H locs ∧ lv_has ls 4 [(0, .ref (aM 0)), (1, .int p1), (2, .int t_9), (3, .int v)]) 3000 v3_15 (fun _ _ _ _ h => no_none h.1) ⟨hF, hP, hD, hS, lv_sub hl [2, 3, 1, 0] rfl⟩ ?_
          clear hF hP hD hS hl
          intro n ih_17 vq H locs ls hI
          obtain ⟨v3_16, rfl⟩ : ∃ y, y = vq := ⟨_, rfl⟩
          obtain ⟨hF, hP, hD, hS, hl⟩ := hI
          have hP : va_P D vwCl (wcM ci aM zM) H := hP
          have hD : va_D A (wcM ci aM zM) := hD
          have hl : lv_has ls 4 [(0, .ref (aM 0)), (1, .int p1), (2, .int t_9), (3, .int v3_16)] := hl
          replace hF : L_X7_tallIn_47 zM p1 t_9 (n + 1) v3_16 = some v3_19 := hF
          rw [L_X7_tallIn_47] at hF
          refine lv_aload_n hx hb dX7_tallIn_47 rfl (lv_at hl 0 rfl) ?_
          refine lv_iload_n hx hb dX7_tallIn_48 rfl (lv_at hl 1 rfl) ?_
          refine lv_iload_n hx hb dX7_tallIn_49 rfl (lv_at hl 2 rfl) ?_
          refine lv_iload_n hx hb dX7_tallIn_50 rfl (lv_at hl 3 rfl) ?_
          refine lv_iadd hx hb dX7_tallIn_51 ?_
          replace hF := bnd hF
          obtain ⟨r_20, hc_21, hF⟩ := hF
          refine cl_Vi0 (As := [.int p1, .int (t_9 + v3_16)]) (rest := []) ⟨hx, hb, hml, hown, hts⟩ (cwV 2 hts gX7_tallIn_X7_heightBy rfl rfl rfl (by decide +kernel) ⟨Nat.le_of_ble_eq_true rfl, Nat.le_of_ble_eq_true rfl⟩) (c_X7_heightBy l D ci aM H.size zM p1 (t_9 + v3_16) _ hc_21) hK hP hD hS hA 0 rfl rfl rfl rfl hl.1 (Nat.le_of_ble_eq_true rfl) dX7_tallIn_52 (Nat.zero_le _) (Nat.zero_le _) (fun H locs hP hD hS => ?_)
          have hP : va_P D vwCl (wcM ci aM zM) H := hP
          have hD : va_D A (wcM ci aM zM) := hD
          refine lv_bipush (v := 12) hx hb dX7_tallIn_55 (by decide) ?_
          refine lv_icmp_ge (tgt := 66) hx hb dX7_tallIn_57 (by decide) (fun c_22 => ?_) (fun c_22 => ?_)
          · replace hF := if_i c_22 hF
            obtain rfl := Option.some.inj hF
            exact J_18 H locs ls ⟨hP, hD, hS, lv_sub hl [0, 1, 2, 3] rfl⟩
          · replace hF := if_o c_22 hF
            obtain ⟨v3_23, ev3_23⟩ : ∃ y : Int32, y = v3_16 + 1 := ⟨_, rfl⟩
            replace hF := nm_i hF ev3_23
            refine lv_iinc (v := v3_23) (lv' := [(3, .int v3_23), (0, .ref (aM 0)), (1, .int p1), (2, .int t_9)]) hx hb dX7_tallIn_60 hl (k := 3) rfl (by rw [ev3_23]; rfl) (by decide) rfl (fun ls hl => ?_)
            refine lv_goto (tgt := 47) hx hb dX7_tallIn_63 (by decide) ?_
            exact ih_17 v3_23 H locs ls ⟨hF, hP, hD, hS, lv_sub hl [1, 2, 3, 0] rfl⟩
      · intro J_10
        clear hF
        have hF := hv_14
        refine lv_if_ge (tgt := 35) hx hb dX7_tallIn_28 (by decide) (fun c_11 => ?_) (fun c_11 => ?_)
        · replace hF := if_i c_11 hF
          refine lv_aload_n hx hb dX7_tallIn_35 rfl (lv_at hl 0 rfl) ?_
          refine va_get (D := D) (ci := 7) (v := .ref (aM 8)) (C := RX7) (T := TX7) (N := 38) hx hb hts hin_RX7 hown hK hP 0 rfl rfl 8 (by decide) hk_2 (fun _ h9 => h9) rfl dX7_tallIn_36 ?_
          refine lv_bipush (v := 40) hx hb dX7_tallIn_39 (by decide) ?_
          refine lv_iload_n hx hb dX7_tallIn_41 rfl (lv_at hl 1 rfl) ?_
          refine lv_iadd hx hb dX7_tallIn_42 ?_
          replace hF := ald_i hF
          obtain ⟨hin_12, hF⟩ := hF
          refine va_iald hx hb hK hP 5 0 rfl rfl hin_12 dX7_tallIn_43 ?_
          refine lv_topi (fun x_13 ex_13 => ?_)
          replace hF := nm_i hF ex_13
          obtain rfl := Option.some.inj hF
          exact J_10 H locs ls ⟨hP, hD, hS, lv_sub hl [0, 1] rfl⟩
        · replace hF := if_o c_11 hF
          refine lv_iconst (v := 0) hx hb dX7_tallIn_31 (by decide) ?_
          refine lv_goto (tgt := 44) hx hb dX7_tallIn_32 (by decide) ?_
          obtain rfl := Option.some.inj hF
          exact J_10 H locs ls ⟨hP, hD, hS, lv_sub hl [0, 1] rfl⟩
    · replace hF := if_o c_6 hF
      refine lv_iconst (v := (-1)) hx hb dX7_tallIn_20 (by decide) ?_
      obtain rfl := Option.some.inj hF
      exact W.iret (v := (-1)) hx hb hr (fun t ht hW => ⟨⟨_, (), rfl, rfl, by rw [ht]; exact hP, va_K.moved hW.alike hK, hD⟩, hS.F ht⟩) hS.2.2 dX7_tallIn_21
  · replace hF := if_i c_3 hF
    refine lv_ldc (v := (-1000000001)) hx hb hown hk_3 dX7_tallIn_8 ?_
    obtain rfl := Option.some.inj hF
    exact W.iret (v := (-1000000001)) hx hb hr (fun t ht hW => ⟨⟨_, (), rfl, rfl, by rw [ht]; exact hP, va_K.moved hW.alike hK, hD⟩, hS.F ht⟩) hS.2.2 dX7_tallIn_10
noncomputable def L_X7_walk_52 (zM : MS) (p1 : Int32) (p2 : Int32) (v3_9 : Int32) (v4_10 : Int32) : Nat → Int32 → Int32 → Option (Int32 × Int32)
  | 0, _, _ => none
  | n + 1, v5_18, v6_19 => if (zM.1 3) ≤ v6_19 then (some (v5_18, v6_19)) else ((f_X7_isShut zM v6_19).bind fun r_27 => if r_27 = 0 then (ald 40 (zM.2 5) v6_19 fun x_32 => (f_X7_has v3_9 x_32).bind fun r_33 => ald 40 (zM.2 6) v6_19 fun x_36 => (f_X7_has v3_9 x_36).bind fun r_37 => if r_33 = r_37 then (nm (v6_19 + 1) fun v6_40 => L_X7_walk_52 zM p1 p2 v3_9 v4_10 n v5_18 v6_40) else (ald 40 (zM.2 5) v6_19 fun x_42 => ald 40 (zM.2 6) v6_19 fun x_44 => nm (v5_18 ||| (((1 : Int32) <<< (x_42 &&& 31)) ||| ((1 : Int32) <<< (x_44 &&& 31)))) fun v5_45 => nm (v6_19 + 1) fun v6_46 => L_X7_walk_52 zM p1 p2 v3_9 v4_10 n v5_45 v6_46)) else (nm (v6_19 + 1) fun v6_30 => L_X7_walk_52 zM p1 p2 v3_9 v4_10 n v5_18 v6_30))
noncomputable def L_X7_walk_26 (zM : MS) (p1 : Int32) (p2 : Int32) : Nat → Int32 → Int32 → Option (Int32)
  | 0, _, _ => none
  | n + 1, v3_9, v4_10 => if (zM.1 2) < v4_10 then (some (-1 : Int32)) else ((f_X7_has v3_9 p2).bind fun r_14 => if r_14 = 0 then (nm (0 : Int32) fun v6_17 => (L_X7_walk_52 zM p1 p2 v3_9 v4_10 3000 v3_9 v6_17).bind fun q_49 => nm q_49.1 fun v5_22 => nm q_49.2 fun v6_23 => nm (v4_10 + 1) fun v4_48 => L_X7_walk_26 zM p1 p2 n v5_22 v4_48) else (some v4_10))
noncomputable def f_X7_walk (zM : MS) (p1 : Int32) (p2 : Int32) : Option (Int32) := (f_X7_isField zM p1).bind fun r_1 => if r_1 = 0 then (some (-1000000001 : Int32)) else ((f_X7_isField zM p2).bind fun r_4 => if r_4 = 0 then (some (-1000000001 : Int32)) else (nm ((1 : Int32) <<< (p1 &&& 31)) fun v3_7 => nm (0 : Int32) fun v4_8 => L_X7_walk_26 zM p1 p2 3000 v3_7 v4_8))
set_option maxHeartbeats 4000000 in
set_option maxRecDepth 100000 in
theorem c_X7_walk (l : Launch) (D : va_G) (ci : Nat → ClassId) (aM : Nat → Nat) (sz : Nat) (zM : MS) (p1 : Int32) (p2 : Int32) (res : Int32) (hF : f_X7_walk zM p1 p2 = some res) : CtI l yX7_walk wsX7_walk { frames := 3, cells := 0, slots := 0, locals := 66 } [.ref (aM 0), .int p1, .int p2] D ci (wcM ci aM zM) sz res (wcM ci aM zM) := by
  refine Met.ofW (cc := cX7_walk) (maxL := 7) (ret := (some .int)) (by decide) rfl ?_
  intro p e s m args below meth c s₁ B hml hv
  obtain ⟨rfl, hsz, hP, hK, hD0⟩ := hv
  have hx := B.exec
  have hb := B.bytes
  have hr := B.returns
  have hts := atoms_spec (ws := wsX7_walk) B.pre
  have hown : s.vm.findClass RX7 = some m.cls := findClass_of_methodNamed B.named
  have hlocks := B.notSynchronized
  subst hsz
  have hD := hD0.self (sz := s.heap.size)
  generalize hAe : va_A (wcM ci aM zM) s.heap.size = A at hD ⊢
  have hA : ∀ q : Nat, s.heap.size ≤ q → A q := fun q h => by rw [← hAe]; exact Or.inr h
  clear hD0 hAe
  have hl := lv_entry ([.ref (aM 0), .int p1, .int p2]) (n := 7) (Nat.le_of_ble_eq_true rfl)
  rw [lg_entry_eq]
  generalize (lg_sl ([.ref (aM 0), .int p1, .int p2]) ++ List.replicate (7 - (lg_sl ([.ref (aM 0), .int p1, .int p2])).length) Slot.unset).toArray = ls at hl ⊢
  have hl : lv_has ls 7 [(0, .ref (aM 0)), (1, .int p1), (2, .int p2)] := hl
  have hP : va_P D vwCl (wcM ci aM zM) s.heap := hP
  generalize hH0 : s.heap = H at hP ⊢
  have hS : va_S A s.heap H [] := by rw [← hH0]; exact va_S.rf
  clear hH0
  generalize ([] : List Loc) = locs at hS ⊢
  have hk_0 := hts (.constant RX7 210 (-1000000001)) (by decide +kernel)
  have hk_1 := hts (.fieldLink RX7 84 "HedgeWarModel" "fields" "I") (by decide +kernel)
  have hin_RX7 : ∀ w ∈ wsX70, w ∈ wsX7_walk := by decide +kernel
  have hk_3 := hts (.fieldLink RX7 91 "HedgeWarModel" "edges" "I") (by decide +kernel)
  have hk_4 := hts (.fieldLink RX7 13 "HedgeWarModel" "edgeLow" "[I") (by decide +kernel)
  have hk_5 := hts (.fieldLink RX7 16 "HedgeWarModel" "edgeHigh" "[I") (by decide +kernel)
  unfold f_X7_walk at hF
  refine lv_aload_n hx hb dX7_walk_0 rfl (lv_at hl 0 rfl) ?_
  refine lv_iload_n hx hb dX7_walk_1 rfl (lv_at hl 1 rfl) ?_
  replace hF := bnd hF
  obtain ⟨r_1, hc_2, hF⟩ := hF
  refine cl_Vi0 (As := [.int p1]) (rest := []) ⟨hx, hb, hml, hown, hts⟩ (cwV 1 hts gX7_walk_X7_isField rfl rfl rfl (by decide +kernel) ⟨Nat.le_of_ble_eq_true rfl, Nat.le_of_ble_eq_true rfl⟩) (c_X7_isField l D ci aM H.size zM p1 _ hc_2) hK hP hD hS hA 0 rfl rfl rfl rfl hl.1 (Nat.le_of_ble_eq_true rfl) dX7_walk_2 (Nat.zero_le _) (Nat.zero_le _) (fun H locs hP hD hS => ?_)
  have hP : va_P D vwCl (wcM ci aM zM) H := hP
  have hD : va_D A (wcM ci aM zM) := hD
  refine lv_if_eq (tgt := 16) hx hb dX7_walk_5 (by decide) (fun c_3 => ?_) (fun c_3 => ?_)
  · replace hF := if_i c_3 hF
    refine lv_ldc (v := (-1000000001)) hx hb hown hk_0 dX7_walk_16 ?_
    obtain rfl := Option.some.inj hF
    exact W.iret (v := (-1000000001)) hx hb hr (fun t ht hW => ⟨⟨_, (), rfl, rfl, by rw [ht]; exact hP, va_K.moved hW.alike hK, hD⟩, hS.F ht⟩) hS.2.2 dX7_walk_18
  · replace hF := if_o c_3 hF
    refine lv_aload_n hx hb dX7_walk_8 rfl (lv_at hl 0 rfl) ?_
    refine lv_iload_n hx hb dX7_walk_9 rfl (lv_at hl 2 rfl) ?_
    replace hF := bnd hF
    obtain ⟨r_4, hc_5, hF⟩ := hF
    refine cl_Vi0 (As := [.int p2]) (rest := []) ⟨hx, hb, hml, hown, hts⟩ (cwV 1 hts gX7_walk_X7_isField rfl rfl rfl (by decide +kernel) ⟨Nat.le_of_ble_eq_true rfl, Nat.le_of_ble_eq_true rfl⟩) (c_X7_isField l D ci aM H.size zM p2 _ hc_5) hK hP hD hS hA 0 rfl rfl rfl rfl hl.1 (Nat.le_of_ble_eq_true rfl) dX7_walk_10 (Nat.zero_le _) (Nat.zero_le _) (fun H locs hP hD hS => ?_)
    have hP : va_P D vwCl (wcM ci aM zM) H := hP
    have hD : va_D A (wcM ci aM zM) := hD
    refine lv_if_ne (tgt := 19) hx hb dX7_walk_13 (by decide) (fun c_6 => ?_) (fun c_6 => ?_)
    · replace hF := if_o c_6 hF
      refine lv_iconst (v := 1) hx hb dX7_walk_19 (by decide) ?_
      refine lv_iload_n hx hb dX7_walk_20 rfl (lv_at hl 1 rfl) ?_
      refine lv_ishl hx hb dX7_walk_21 ?_
      refine lv_topi (fun v3_7 ev3_7 => ?_)
      replace hF := nm_i hF ev3_7
      refine lv_istore_n (lv' := [(3, .int v3_7), (0, .ref (aM 0)), (1, .int p1), (2, .int p2)]) hx hb dX7_walk_22 rfl hl (by decide) rfl (fun ls hl => ?_)
      refine lv_iconst (v := 0) hx hb dX7_walk_23 (by decide) ?_
      refine lv_topi (fun v4_8 ev4_8 => ?_)
      replace hF := nm_i hF ev4_8
      refine lv_istore (lv' := [(4, .int v4_8), (3, .int v3_7), (0, .ref (aM 0)), (1, .int p1), (2, .int p2)]) hx hb dX7_walk_24 hl (by decide) rfl (fun ls hl => ?_)
      refine lpW (σ := Int32 × Int32) (I := fun n v H locs ls => L_X7_walk_26 zM p1 p2 n v.1 v.2 = some res ∧ va_P D vwCl (wcM ci aM zM) H ∧ va_D A (wcM ci aM zM) ∧ va_S A s.heap H locs ∧ lv_has ls 7 [(0, .ref (aM 0)), (1, .int p1), (2, .int p2), (3, .int v.1), (4, .int v.2)]) 3000 (v3_7, v4_8) (fun _ _ _ _ h => no_none h.1) ⟨hF, hP, hD, hS, lv_sub hl [2, 3, 4, 1, 0] rfl⟩ ?_
      clear hF hP hD hS hl
      intro n ih_11 vq H locs ls hI
      obtain ⟨v3_9, v4_10⟩ := vq
      obtain ⟨hF, hP, hD, hS, hl⟩ := hI
      have hP : va_P D vwCl (wcM ci aM zM) H := hP
      have hD : va_D A (wcM ci aM zM) := hD
      have hl : lv_has ls 7 [(0, .ref (aM 0)), (1, .int p1), (2, .int p2), (3, .int v3_9), (4, .int v4_10)] := hl
      replace hF : L_X7_walk_26 zM p1 p2 (n + 1) v3_9 v4_10 = some res := hF
      rw [L_X7_walk_26] at hF
      refine lv_iload hx hb dX7_walk_26 (lv_at hl 4 rfl) ?_
      refine lv_aload_n hx hb dX7_walk_28 rfl (lv_at hl 0 rfl) ?_
      refine va_get (D := D) (ci := 7) (v := .int (zM.1 2)) (C := RX7) (T := TX7) (N := 38) hx hb hts hin_RX7 hown hK hP 0 rfl rfl 2 (by decide) hk_1 (fun _ h9 => h9) rfl dX7_walk_29 ?_
      refine lv_icmp_gt (tgt := 134) hx hb dX7_walk_32 (by decide) (fun c_13 => ?_) (fun c_13 => ?_)
      · replace hF := if_i c_13 hF
        refine lv_iconst (v := (-1)) hx hb dX7_walk_134 (by decide) ?_
        obtain rfl := Option.some.inj hF
        exact W.iret (v := (-1)) hx hb hr (fun t ht hW => ⟨⟨_, (), rfl, rfl, by rw [ht]; exact hP, va_K.moved hW.alike hK, hD⟩, hS.F ht⟩) hS.2.2 dX7_walk_135
      · replace hF := if_o c_13 hF
        refine lv_iload_n hx hb dX7_walk_35 rfl (lv_at hl 3 rfl) ?_
        refine lv_iload_n hx hb dX7_walk_36 rfl (lv_at hl 2 rfl) ?_
        replace hF := bnd hF
        obtain ⟨r_14, hc_15, hF⟩ := hF
        refine cl_Sie (As := [.int v3_9, .int p2]) (rest := []) ⟨hx, hb, hml, hown, hts⟩ (va_cwS 2 hts gX7_walk_X7_has rfl rfl rfl (by decide +kernel) ⟨Nat.le_of_ble_eq_true rfl, Nat.le_of_ble_eq_true rfl⟩) (c_X7_has l D ci  H.size v3_9 p2 _ hc_15) hK hP hD hS hA rfl rfl hl.1 (Nat.le_of_ble_eq_true rfl) dX7_walk_37 (Nat.zero_le _) (Nat.zero_le _) (fun H locs hP hD hS => ?_)
        have hP : va_P D vwCl (wcM ci aM zM) H := hP
        have hD : va_D A (wcM ci aM zM) := hD
        refine lv_if_eq (tgt := 46) hx hb dX7_walk_40 (by decide) (fun c_16 => ?_) (fun c_16 => ?_)
        · replace hF := if_i c_16 hF
          refine lv_iload_n hx hb dX7_walk_46 rfl (lv_at hl 3 rfl) ?_
          refine lv_istore (lv' := [(5, .int v3_9), (0, .ref (aM 0)), (1, .int p1), (2, .int p2), (3, .int v3_9), (4, .int v4_10)]) hx hb dX7_walk_47 hl (by decide) rfl (fun ls hl => ?_)
          refine lv_iconst (v := 0) hx hb dX7_walk_49 (by decide) ?_
          refine lv_topi (fun v6_17 ev6_17 => ?_)
          replace hF := nm_i hF ev6_17
          refine lv_istore (lv' := [(6, .int v6_17), (5, .int v3_9), (0, .ref (aM 0)), (1, .int p1), (2, .int p2), (3, .int v3_9), (4, .int v4_10)]) hx hb dX7_walk_50 hl (by decide) rfl (fun ls hl => ?_)
          replace hF := bnd hF
          obtain ⟨q_49, hv_47, hF⟩ := hF
          obtain ⟨v5_22, ev5_22⟩ : ∃ y : Int32, y = q_49.1 := ⟨_, rfl⟩
          replace hF := nm_i hF ev5_22
          obtain ⟨v6_23, ev6_23⟩ : ∃ y : Int32, y = q_49.2 := ⟨_, rfl⟩
          replace hF := nm_i hF ev6_23
          obtain rfl : q_49 = (v5_22, v6_23) := by rw [ev5_22, ev6_23]
          clear ev5_22
          clear ev6_23
          refine jn (P := fun H locs ls => va_P D vwCl (wcM ci aM zM) H ∧ va_D A (wcM ci aM zM) ∧ va_S A s.heap H locs ∧ lv_has ls 7 [(0, .ref (aM 0)), (1, .int p1), (2, .int p2), (3, .int v3_9), (4, .int v4_10), (5, .int v5_22), (6, .int v6_23)]) (pcJ := 125) (st := []) ?_ ?_
          · intro H locs ls hJ
            obtain ⟨hP, hD, hS, hl⟩ := hJ
            refine lv_iload hx hb dX7_walk_125 (lv_at hl 5 rfl) ?_
            refine lv_istore_n (lv' := [(3, .int v5_22), (0, .ref (aM 0)), (1, .int p1), (2, .int p2), (4, .int v4_10), (5, .int v5_22), (6, .int v6_23)]) hx hb dX7_walk_127 rfl hl (by decide) rfl (fun ls hl => ?_)
            obtain ⟨v4_48, ev4_48⟩ : ∃ y : Int32, y = v4_10 + 1 := ⟨_, rfl⟩
            replace hF := nm_i hF ev4_48
            refine lv_iinc (v := v4_48) (lv' := [(4, .int v4_48), (3, .int v5_22), (0, .ref (aM 0)), (1, .int p1), (2, .int p2), (5, .int v5_22), (6, .int v6_23)]) hx hb dX7_walk_128 hl (k := 4) rfl (by rw [ev4_48]; rfl) (by decide) rfl (fun ls hl => ?_)
            refine lv_goto (tgt := 26) hx hb dX7_walk_131 (by decide) ?_
            exact ih_11 (v5_22, v4_48) H locs ls ⟨hF, hP, hD, hS, lv_sub hl [2, 3, 4, 1, 0] rfl⟩
          · intro J_21
            clear hF
            have hF := hv_47
            refine lpW (σ := Int32 × Int32) (I := fun n v H locs ls => L_X7_walk_52 zM p1 p2 v3_9 v4_10 n v.1 v.2 = some (v5_22, v6_23) ∧ va_P D vwCl (wcM ci aM zM) H ∧ va_D A (wcM ci aM zM) ∧ va_S A s.heap H locs ∧ lv_has ls 7 [(0, .ref (aM 0)), (1, .int p1), (2, .int p2), (3, .int v3_9), (4, .int v4_10), (5, .int v.1), (6, .int v.2)]) 3000 (v3_9, v6_17) (fun _ _ _ _ h => no_none h.1) ⟨hF, hP, hD, hS, lv_sub hl [2, 3, 4, 5, 6, 1, 0] rfl⟩ ?_
            clear hF hP hD hS hl
            intro n ih_20 vq H locs ls hI
            obtain ⟨v5_18, v6_19⟩ := vq
            obtain ⟨hF, hP, hD, hS, hl⟩ := hI
            have hP : va_P D vwCl (wcM ci aM zM) H := hP
            have hD : va_D A (wcM ci aM zM) := hD
            have hl : lv_has ls 7 [(0, .ref (aM 0)), (1, .int p1), (2, .int p2), (3, .int v3_9), (4, .int v4_10), (5, .int v5_18), (6, .int v6_19)] := hl
            replace hF : L_X7_walk_52 zM p1 p2 v3_9 v4_10 (n + 1) v5_18 v6_19 = some (v5_22, v6_23) := hF
            rw [L_X7_walk_52] at hF
            refine lv_iload hx hb dX7_walk_52 (lv_at hl 6 rfl) ?_
            refine lv_aload_n hx hb dX7_walk_54 rfl (lv_at hl 0 rfl) ?_
            refine va_get (D := D) (ci := 7) (v := .int (zM.1 3)) (C := RX7) (T := TX7) (N := 38) hx hb hts hin_RX7 hown hK hP 0 rfl rfl 3 (by decide) hk_3 (fun _ h9 => h9) rfl dX7_walk_55 ?_
            refine lv_icmp_ge (tgt := 125) hx hb dX7_walk_58 (by decide) (fun c_24 => ?_) (fun c_24 => ?_)
            · replace hF := if_i c_24 hF
              obtain ⟨g_25, g_26⟩ : v5_18 = v5_22 ∧ v6_19 = v6_23 := by have h9 := Option.some.inj hF; simpa only [Prod.mk.injEq] using h9
              subst g_25
              subst g_26
              exact J_21 H locs ls ⟨hP, hD, hS, lv_sub hl [0, 1, 2, 3, 4, 5, 6] rfl⟩
            · replace hF := if_o c_24 hF
              refine lv_aload_n hx hb dX7_walk_61 rfl (lv_at hl 0 rfl) ?_
              refine lv_iload hx hb dX7_walk_62 (lv_at hl 6 rfl) ?_
              replace hF := bnd hF
              obtain ⟨r_27, hc_28, hF⟩ := hF
              refine cl_Vi0 (As := [.int v6_19]) (rest := []) ⟨hx, hb, hml, hown, hts⟩ (cwV 1 hts gX7_walk_X7_isShut rfl rfl rfl (by decide +kernel) ⟨Nat.le_of_ble_eq_true rfl, Nat.le_of_ble_eq_true rfl⟩) (c_X7_isShut l D ci aM H.size zM v6_19 _ hc_28) hK hP hD hS hA 0 rfl rfl rfl rfl hl.1 (Nat.le_of_ble_eq_true rfl) dX7_walk_64 (Nat.zero_le _) (Nat.zero_le _) (fun H locs hP hD hS => ?_)
              have hP : va_P D vwCl (wcM ci aM zM) H := hP
              have hD : va_D A (wcM ci aM zM) := hD
              refine lv_if_ne (tgt := 119) hx hb dX7_walk_67 (by decide) (fun c_29 => ?_) (fun c_29 => ?_)
              · replace hF := if_o c_29 hF
                obtain ⟨v6_30, ev6_30⟩ : ∃ y : Int32, y = v6_19 + 1 := ⟨_, rfl⟩
                replace hF := nm_i hF ev6_30
                refine lv_iinc (v := v6_30) (lv' := [(6, .int v6_30), (0, .ref (aM 0)), (1, .int p1), (2, .int p2), (3, .int v3_9), (4, .int v4_10), (5, .int v5_18)]) hx hb dX7_walk_119 hl (k := 6) rfl (by rw [ev6_30]; rfl) (by decide) rfl (fun ls hl => ?_)
                refine lv_goto (tgt := 52) hx hb dX7_walk_122 (by decide) ?_
                exact ih_20 (v5_18, v6_30) H locs ls ⟨hF, hP, hD, hS, lv_sub hl [1, 2, 3, 4, 5, 6, 0] rfl⟩
              · replace hF := if_i c_29 hF
                refine lv_iload_n hx hb dX7_walk_70 rfl (lv_at hl 3 rfl) ?_
                refine lv_aload_n hx hb dX7_walk_71 rfl (lv_at hl 0 rfl) ?_
                refine va_get (D := D) (ci := 7) (v := .ref (aM 5)) (C := RX7) (T := TX7) (N := 38) hx hb hts hin_RX7 hown hK hP 0 rfl rfl 5 (by decide) hk_4 (fun _ h9 => h9) rfl dX7_walk_72 ?_
                refine lv_iload hx hb dX7_walk_75 (lv_at hl 6 rfl) ?_
                replace hF := ald_i hF
                obtain ⟨hin_31, hF⟩ := hF
                refine va_iald hx hb hK hP 2 0 rfl rfl hin_31 dX7_walk_77 ?_
                refine lv_topi (fun x_32 ex_32 => ?_)
                replace hF := nm_i hF ex_32
                replace hF := bnd hF
                obtain ⟨r_33, hc_34, hF⟩ := hF
                refine cl_Sie (As := [.int v3_9, .int x_32]) (rest := []) ⟨hx, hb, hml, hown, hts⟩ (va_cwS 2 hts gX7_walk_X7_has rfl rfl rfl (by decide +kernel) ⟨Nat.le_of_ble_eq_true rfl, Nat.le_of_ble_eq_true rfl⟩) (c_X7_has l D ci  H.size v3_9 x_32 _ hc_34) hK hP hD hS hA rfl rfl hl.1 (Nat.le_of_ble_eq_true rfl) dX7_walk_78 (Nat.zero_le _) (Nat.zero_le _) (fun H locs hP hD hS => ?_)
                have hP : va_P D vwCl (wcM ci aM zM) H := hP
                have hD : va_D A (wcM ci aM zM) := hD
                refine lv_iload_n hx hb dX7_walk_81 rfl (lv_at hl 3 rfl) ?_
                refine lv_aload_n hx hb dX7_walk_82 rfl (lv_at hl 0 rfl) ?_
                refine va_get (D := D) (ci := 7) (v := .ref (aM 6)) (C := RX7) (T := TX7) (N := 38) hx hb hts hin_RX7 hown hK hP 0 rfl rfl 6 (by decide) hk_5 (fun _ h9 => h9) rfl dX7_walk_83 ?_
                refine lv_iload hx hb dX7_walk_86 (lv_at hl 6 rfl) ?_
                replace hF := ald_i hF
                obtain ⟨hin_35, hF⟩ := hF
                refine va_iald hx hb hK hP 3 0 rfl rfl hin_35 dX7_walk_88 ?_
                refine lv_topi (fun x_36 ex_36 => ?_)
                replace hF := nm_i hF ex_36
                replace hF := bnd hF
                obtain ⟨r_37, hc_38, hF⟩ := hF
                refine cl_Sie (As := [.int v3_9, .int x_36]) (rest := [.int r_33]) ⟨hx, hb, hml, hown, hts⟩ (va_cwS 2 hts gX7_walk_X7_has rfl rfl rfl (by decide +kernel) ⟨Nat.le_of_ble_eq_true rfl, Nat.le_of_ble_eq_true rfl⟩) (c_X7_has l D ci  H.size v3_9 x_36 _ hc_38) hK hP hD hS hA rfl rfl hl.1 (Nat.le_of_ble_eq_true rfl) dX7_walk_89 (Nat.zero_le _) (Nat.zero_le _) (fun H locs hP hD hS => ?_)
                have hP : va_P D vwCl (wcM ci aM zM) H := hP
                have hD : va_D A (wcM ci aM zM) := hD
                refine lv_icmp_eq (tgt := 119) hx hb dX7_walk_92 (by decide) (fun c_39 => ?_) (fun c_39 => ?_)
                · replace hF := if_i c_39 hF
                  obtain ⟨v6_40, ev6_40⟩ : ∃ y : Int32, y = v6_19 + 1 := ⟨_, rfl⟩
                  replace hF := nm_i hF ev6_40
                  refine lv_iinc (v := v6_40) (lv' := [(6, .int v6_40), (0, .ref (aM 0)), (1, .int p1), (2, .int p2), (3, .int v3_9), (4, .int v4_10), (5, .int v5_18)]) hx hb dX7_walk_119 hl (k := 6) rfl (by rw [ev6_40]; rfl) (by decide) rfl (fun ls hl => ?_)
                  refine lv_goto (tgt := 52) hx hb dX7_walk_122 (by decide) ?_
                  exact ih_20 (v5_18, v6_40) H locs ls ⟨hF, hP, hD, hS, lv_sub hl [1, 2, 3, 4, 5, 6, 0] rfl⟩
                · replace hF := if_o c_39 hF
                  refine lv_iload hx hb dX7_walk_95 (lv_at hl 5 rfl) ?_
                  refine lv_iconst (v := 1) hx hb dX7_walk_97 (by decide) ?_
                  refine lv_aload_n hx hb dX7_walk_98 rfl (lv_at hl 0 rfl) ?_
                  refine va_get (D := D) (ci := 7) (v := .ref (aM 5)) (C := RX7) (T := TX7) (N := 38) hx hb hts hin_RX7 hown hK hP 0 rfl rfl 5 (by decide) hk_4 (fun _ h9 => h9) rfl dX7_walk_99 ?_
                  refine lv_iload hx hb dX7_walk_102 (lv_at hl 6 rfl) ?_
                  replace hF := ald_i hF
                  obtain ⟨hin_41, hF⟩ := hF
                  refine va_iald hx hb hK hP 2 0 rfl rfl hin_41 dX7_walk_104 ?_
                  refine lv_topi (fun x_42 ex_42 => ?_)
                  replace hF := nm_i hF ex_42
                  refine lv_ishl hx hb dX7_walk_105 ?_
                  refine lv_iconst (v := 1) hx hb dX7_walk_106 (by decide) ?_
                  refine lv_aload_n hx hb dX7_walk_107 rfl (lv_at hl 0 rfl) ?_
                  refine va_get (D := D) (ci := 7) (v := .ref (aM 6)) (C := RX7) (T := TX7) (N := 38) hx hb hts hin_RX7 hown hK hP 0 rfl rfl 6 (by decide) hk_5 (fun _ h9 => h9) rfl dX7_walk_108 ?_
                  refine lv_iload hx hb dX7_walk_111 (lv_at hl 6 rfl) ?_
                  replace hF := ald_i hF
                  obtain ⟨hin_43, hF⟩ := hF
                  refine va_iald hx hb hK hP 3 0 rfl rfl hin_43 dX7_walk_113 ?_
                  refine lv_topi (fun x_44 ex_44 => ?_)
                  replace hF := nm_i hF ex_44
                  refine lv_ishl hx hb dX7_walk_114 ?_
                  refine lv_ior hx hb dX7_walk_115 ?_
                  refine lv_ior hx hb dX7_walk_116 ?_
                  refine lv_topi (fun v5_45 ev5_45 => ?_)
                  replace hF := nm_i hF ev5_45
                  refine lv_istore (lv' := [(5, .int v5_45), (0, .ref (aM 0)), (1, .int p1), (2, .int p2), (3, .int v3_9), (4, .int v4_10), (6, .int v6_19)]) hx hb dX7_walk_117 hl (by decide) rfl (fun ls hl => ?_)
                  obtain ⟨v6_46, ev6_46⟩ : ∃ y : Int32, y = v6_19 + 1 := ⟨_, rfl⟩
                  replace hF := nm_i hF ev6_46
                  refine lv_iinc (v := v6_46) (lv' := [(6, .int v6_46), (5, .int v5_45), (0, .ref (aM 0)), (1, .int p1), (2, .int p2), (3, .int v3_9), (4, .int v4_10)]) hx hb dX7_walk_119 hl (k := 6) rfl (by rw [ev6_46]; rfl) (by decide) rfl (fun ls hl => ?_)
                  refine lv_goto (tgt := 52) hx hb dX7_walk_122 (by decide) ?_
                  exact ih_20 (v5_45, v6_46) H locs ls ⟨hF, hP, hD, hS, lv_sub hl [2, 3, 4, 5, 6, 1, 0] rfl⟩
        · replace hF := if_o c_16 hF
          refine lv_iload hx hb dX7_walk_43 (lv_at hl 4 rfl) ?_
          obtain rfl := Option.some.inj hF
          exact W.iret (v := v4_10) hx hb hr (fun t ht hW => ⟨⟨_, (), rfl, rfl, by rw [ht]; exact hP, va_K.moved hW.alike hK, hD⟩, hS.F ht⟩) hS.2.2 dX7_walk_45
    · replace hF := if_i c_6 hF
      refine lv_ldc (v := (-1000000001)) hx hb hown hk_0 dX7_walk_16 ?_
      obtain rfl := Option.some.inj hF
      exact W.iret (v := (-1000000001)) hx hb hr (fun t ht hW => ⟨⟨_, (), rfl, rfl, by rw [ht]; exact hP, va_K.moved hW.alike hK, hD⟩, hS.F ht⟩) hS.2.2 dX7_walk_18
noncomputable def L_X7_putBack_2 : Nat → Int32 → MS → Option (Int32 × MS)
  | 0, _, _ => none
  | n + 1, v1_2, zM_3 => if (122 : Int32) ≤ v1_2 then (some (v1_2, zM_3)) else (ald 122 (zM_3.2 28) v1_2 fun x_12 => ast 122 v1_2 <| nm ((zM_3.1, va_up zM_3.2 8 (upd (zM_3.2 8) (Int32.toNatClampNeg v1_2) x_12)) : MS) fun zM_14 => nm (v1_2 + 1) fun v1_15 => L_X7_putBack_2 n v1_15 zM_14)
noncomputable def f_X7_putBack (zM : MS) : Option (MS) := nm (0 : Int32) fun v1_1 => (L_X7_putBack_2 3000 v1_1 zM).bind fun q_17 => nm q_17.1 fun v1_6 => nm q_17.2 fun zM_7 => some zM_7
set_option maxHeartbeats 4000000 in
set_option maxRecDepth 100000 in
theorem c_X7_putBack (l : Launch) (D : va_G) (ci : Nat → ClassId) (aM : Nat → Nat) (sz : Nat) (zM : MS) (res : MS) (hF : f_X7_putBack zM = some res) : CtV l yX7_putBack wsX7_putBack { frames := 0, cells := 0, slots := 0, locals := 0 } [.ref (aM 0)] D ci (wcM ci aM zM) sz (wcM ci aM res) := by
  refine Met.ofW (cc := cX7_putBack) (maxL := 2) (ret := none) (by decide) rfl ?_
  intro p e s m args below meth c s₁ B hml hv
  obtain ⟨rfl, hsz, hP, hK, hD0⟩ := hv
  have hx := B.exec
  have hb := B.bytes
  have hr := B.returns
  have hts := atoms_spec (ws := wsX7_putBack) B.pre
  have hown : s.vm.findClass RX7 = some m.cls := findClass_of_methodNamed B.named
  have hlocks := B.notSynchronized
  subst hsz
  have hD := hD0.self (sz := s.heap.size)
  generalize hAe : va_A (wcM ci aM zM) s.heap.size = A at hD ⊢
  have hA : ∀ q : Nat, s.heap.size ≤ q → A q := fun q h => by rw [← hAe]; exact Or.inr h
  clear hD0 hAe
  have hl := lv_entry ([.ref (aM 0)]) (n := 2) (Nat.le_of_ble_eq_true rfl)
  rw [lg_entry_eq]
  generalize (lg_sl ([.ref (aM 0)]) ++ List.replicate (2 - (lg_sl ([.ref (aM 0)])).length) Slot.unset).toArray = ls at hl ⊢
  have hl : lv_has ls 2 [(0, .ref (aM 0))] := hl
  have hP : va_P D vwCl (wcM ci aM zM) s.heap := hP
  generalize hH0 : s.heap = H at hP ⊢
  have hS : va_S A s.heap H [] := by rw [← hH0]; exact va_S.rf
  clear hH0
  generalize ([] : List Loc) = locs at hS ⊢
  have hk_0 := hts (.fieldLink RX7 23 "HedgeWarModel" "now" "[I") (by decide +kernel)
  have hin_RX7 : ∀ w ∈ wsX70, w ∈ wsX7_putBack := by decide +kernel
  have hk_2 := hts (.fieldLink RX7 60 "HedgeWarModel" "was" "[I") (by decide +kernel)
  unfold f_X7_putBack at hF
  refine lv_iconst (v := 0) hx hb dX7_putBack_0 (by decide) ?_
  refine lv_topi (fun v1_1 ev1_1 => ?_)
  replace hF := nm_i hF ev1_1
  refine lv_istore_n (lv' := [(1, .int v1_1), (0, .ref (aM 0))]) hx hb dX7_putBack_1 rfl hl (by decide) rfl (fun ls hl => ?_)
  replace hF := bnd hF
  obtain ⟨q_17, hv_16, hF⟩ := hF
  obtain ⟨v1_6, ev1_6⟩ : ∃ y : Int32, y = q_17.1 := ⟨_, rfl⟩
  replace hF := nm_i hF ev1_6
  obtain ⟨zM_7, ezM_7⟩ : ∃ y : MS, y = q_17.2 := ⟨_, rfl⟩
  replace hF := nm_i hF ezM_7
  obtain rfl : q_17 = (v1_6, zM_7) := by rw [ev1_6, ezM_7]
  clear ev1_6
  clear ezM_7
  refine jn (P := fun H locs ls => va_P D vwCl (wcM ci aM zM_7) H ∧ va_D A (wcM ci aM zM_7) ∧ va_S A s.heap H locs ∧ lv_has ls 2 [(0, .ref (aM 0)), (1, .int v1_6)]) (pcJ := 26) (st := []) ?_ ?_
  · intro H locs ls hJ
    obtain ⟨hP, hD, hS, hl⟩ := hJ
    obtain rfl := Option.some.inj hF
    exact W.vret hx hb hr (fun t ht hW => ⟨⟨(), rfl, trivial, by rw [ht]; exact hP, va_K.moved hW.alike hK, hD⟩, hS.F ht⟩) hS.2.2 dX7_putBack_26
  · intro J_5
    clear hF
    have hF := hv_16
    refine lpW (σ := Int32 × MS) (I := fun n v H locs ls => L_X7_putBack_2 n v.1 v.2 = some (v1_6, zM_7) ∧ va_P D vwCl (wcM ci aM v.2) H ∧ va_D A (wcM ci aM v.2) ∧ va_S A s.heap H locs ∧ lv_has ls 2 [(0, .ref (aM 0)), (1, .int v.1)]) 3000 (v1_1, zM) (fun _ _ _ _ h => no_none h.1) ⟨hF, hP, hD, hS, lv_sub hl [1, 0] rfl⟩ ?_
    clear hF hP hD hS hl
    intro n ih_4 vq H locs ls hI
    obtain ⟨v1_2, zM_3⟩ := vq
    obtain ⟨hF, hP, hD, hS, hl⟩ := hI
    have hP : va_P D vwCl (wcM ci aM zM_3) H := hP
    have hD : va_D A (wcM ci aM zM_3) := hD
    have hl : lv_has ls 2 [(0, .ref (aM 0)), (1, .int v1_2)] := hl
    replace hF : L_X7_putBack_2 (n + 1) v1_2 zM_3 = some (v1_6, zM_7) := hF
    rw [L_X7_putBack_2] at hF
    refine lv_iload_n hx hb dX7_putBack_2 rfl (lv_at hl 1 rfl) ?_
    refine lv_bipush (v := 122) hx hb dX7_putBack_3 (by decide) ?_
    refine lv_icmp_ge (tgt := 26) hx hb dX7_putBack_5 (by decide) (fun c_8 => ?_) (fun c_8 => ?_)
    · replace hF := if_i c_8 hF
      obtain ⟨g_9, g_10⟩ : v1_2 = v1_6 ∧ zM_3 = zM_7 := by have h9 := Option.some.inj hF; simpa only [Prod.mk.injEq] using h9
      subst g_9
      subst g_10
      exact J_5 H locs ls ⟨hP, hD, hS, lv_sub hl [0, 1] rfl⟩
    · replace hF := if_o c_8 hF
      refine lv_aload_n hx hb dX7_putBack_8 rfl (lv_at hl 0 rfl) ?_
      refine va_get (D := D) (ci := 7) (v := .ref (aM 8)) (C := RX7) (T := TX7) (N := 38) hx hb hts hin_RX7 hown hK hP 0 rfl rfl 8 (by decide) hk_0 (fun _ h9 => h9) rfl dX7_putBack_9 ?_
      refine lv_iload_n hx hb dX7_putBack_12 rfl (lv_at hl 1 rfl) ?_
      refine lv_aload_n hx hb dX7_putBack_13 rfl (lv_at hl 0 rfl) ?_
      refine va_get (D := D) (ci := 7) (v := .ref (aM 28)) (C := RX7) (T := TX7) (N := 38) hx hb hts hin_RX7 hown hK hP 0 rfl rfl 28 (by decide) hk_2 (fun _ h9 => h9) rfl dX7_putBack_14 ?_
      refine lv_iload_n hx hb dX7_putBack_17 rfl (lv_at hl 1 rfl) ?_
      replace hF := ald_i hF
      obtain ⟨hin_11, hF⟩ := hF
      refine va_iald hx hb hK hP 16 0 rfl rfl hin_11 dX7_putBack_18 ?_
      refine lv_topi (fun x_12 ex_12 => ?_)
      replace hF := nm_i hF ex_12
      replace hF := ast_i hF
      obtain ⟨hin_13, hF⟩ := hF
      refine va_iast (x := x_12) hx hb hK hP hD hS 5 0 rfl rfl hin_13 dX7_putBack_19 (fun H locs hP hD hS => ?_)
      obtain ⟨zM_14, ezM_14⟩ : ∃ y : MS, y = (zM_3.1, va_up zM_3.2 8 (upd (zM_3.2 8) (Int32.toNatClampNeg v1_2) x_12)) := ⟨_, rfl⟩
      replace hF := nm_i hF ezM_14
      have hP : va_P D vwCl (wcM ci aM zM_14) H := by rw [ezM_14]; exact hP
      have hD : va_D A (wcM ci aM zM_14) := by rw [ezM_14]; exact hD
      obtain ⟨v1_15, ev1_15⟩ : ∃ y : Int32, y = v1_2 + 1 := ⟨_, rfl⟩
      replace hF := nm_i hF ev1_15
      refine lv_iinc (v := v1_15) (lv' := [(1, .int v1_15), (0, .ref (aM 0))]) hx hb dX7_putBack_20 hl (k := 1) rfl (by rw [ev1_15]; rfl) (by decide) rfl (fun ls hl => ?_)
      refine lv_goto (tgt := 2) hx hb dX7_putBack_23 (by decide) ?_
      exact ih_4 (v1_15, zM_14) H locs ls ⟨hF, hP, hD, hS, lv_sub hl [1, 0] rfl⟩
noncomputable def L_X7_fieldsBy_92 (p1 : Int32) (p2 : Int32) (p3 : Int32) (p4 : Int32) (t_1 : Int32) : Nat → Int32 → MS → Option (Int32 × MS)
  | 0, _, _ => none
  | n + 1, v6_38, zM_39 => if p4 ≤ v6_38 then (some (v6_38, zM_39)) else ((f_X7_pass zM_39).bind fun zM_47 => nm (v6_38 + 1) fun v6_49 => L_X7_fieldsBy_92 p1 p2 p3 p4 t_1 n v6_49 zM_47)
noncomputable def f_X7_fieldsBy (zM : MS) (p1 : Int32) (p2 : Int32) (p3 : Int32) (p4 : Int32) : Option (Int32 × MS) := (if p2 = (zM.1 3) then (if p3 = (zM.1 3) then (if p3 = (zM.1 3) then (some (1 : Int32)) else (if p3 = p2 then (some (0 : Int32)) else (some (1 : Int32)))) else ((f_X7_mayPlant zM p3).bind fun r_7 => if r_7 = 0 then (some (0 : Int32)) else (if p3 = (zM.1 3) then (some (1 : Int32)) else (if p3 = p2 then (some (0 : Int32)) else (some (1 : Int32)))))) else ((f_X7_mayPlant zM p2).bind fun r_12 => if r_12 = 0 then (some (0 : Int32)) else (if p3 = (zM.1 3) then (if p3 = (zM.1 3) then (some (1 : Int32)) else (if p3 = p2 then (some (0 : Int32)) else (some (1 : Int32)))) else ((f_X7_mayPlant zM p3).bind fun r_18 => if r_18 = 0 then (some (0 : Int32)) else (if p3 = (zM.1 3) then (some (1 : Int32)) else (if p3 = p2 then (some (0 : Int32)) else (some (1 : Int32)))))))).bind fun t_1 => if t_1 = 0 then (some ((-1 : Int32), zM)) else ((if (zM.1 3) ≤ p2 then (some (zM : MS)) else ((f_X7_plantNow zM p2 p1).bind fun zM_28 => some (zM_28 : MS))).bind fun zM_25 => (if (zM_25.1 3) ≤ p3 then (some (zM_25 : MS)) else ((f_X7_plantNow zM_25 p3 (1 - p1)).bind fun zM_34 => some (zM_34 : MS))).bind fun zM_31 => nm (0 : Int32) fun v6_37 => (L_X7_fieldsBy_92 p1 p2 p3 p4 t_1 3000 v6_37 zM_31).bind fun q_65 => nm q_65.1 fun v6_42 => nm q_65.2 fun zM_43 => (if p1 = 1 then (ald 122 (zM_43.2 8) (120 : Int32) fun x_59 => (f_X7_bits x_59).bind fun r_60 => some (r_60 : Int32)) else (ald 122 (zM_43.2 8) (120 : Int32) fun x_55 => (f_X7_bits x_55).bind fun r_56 => some (((zM_43.1 2) - r_56) : Int32))).bind fun t_51 => (f_X7_putBack zM_43).bind fun zM_63 => some (t_51, zM_63))
set_option maxHeartbeats 4000000 in
set_option maxRecDepth 100000 in
theorem c_X7_fieldsBy (l : Launch) (D : va_G) (ci : Nat → ClassId) (aM : Nat → Nat) (sz : Nat) (zM : MS) (p1 : Int32) (p2 : Int32) (p3 : Int32) (p4 : Int32) (res : Int32 × MS) (hF : f_X7_fieldsBy zM p1 p2 p3 p4 = some res) : CtI l yX7_fieldsBy wsX7_fieldsBy { frames := 5, cells := 0, slots := 0, locals := 115 } [.ref (aM 0), .int p1, .int p2, .int p3, .int p4] D ci (wcM ci aM zM) sz res.1 (wcM ci aM res.2) := by
  refine Met.ofW (cc := cX7_fieldsBy) (maxL := 7) (ret := (some .int)) (by decide) rfl ?_
  intro p e s m args below meth c s₁ B hml hv
  obtain ⟨rfl, hsz, hP, hK, hD0⟩ := hv
  have hx := B.exec
  have hb := B.bytes
  have hr := B.returns
  have hts := atoms_spec (ws := wsX7_fieldsBy) B.pre
  have hown : s.vm.findClass RX7 = some m.cls := findClass_of_methodNamed B.named
  have hlocks := B.notSynchronized
  subst hsz
  have hD := hD0.self (sz := s.heap.size)
  generalize hAe : va_A (wcM ci aM zM) s.heap.size = A at hD ⊢
  have hA : ∀ q : Nat, s.heap.size ≤ q → A q := fun q h => by rw [← hAe]; exact Or.inr h
  clear hD0 hAe
  have hl := lv_entry ([.ref (aM 0), .int p1, .int p2, .int p3, .int p4]) (n := 7) (Nat.le_of_ble_eq_true rfl)
  rw [lg_entry_eq]
  generalize (lg_sl ([.ref (aM 0), .int p1, .int p2, .int p3, .int p4]) ++ List.replicate (7 - (lg_sl ([.ref (aM 0), .int p1, .int p2, .int p3, .int p4])).length) Slot.unset).toArray = ls at hl ⊢
  have hl : lv_has ls 7 [(0, .ref (aM 0)), (1, .int p1), (2, .int p2), (3, .int p3), (4, .int p4)] := hl
  have hP : va_P D vwCl (wcM ci aM zM) s.heap := hP
  generalize hH0 : s.heap = H at hP ⊢
  have hS : va_S A s.heap H [] := by rw [← hH0]; exact va_S.rf
  clear hH0
  generalize ([] : List Loc) = locs at hS ⊢
  have hk_0 := hts (.fieldLink RX7 91 "HedgeWarModel" "edges" "I") (by decide +kernel)
  have hin_RX7 : ∀ w ∈ wsX70, w ∈ wsX7_fieldsBy := by decide +kernel
  have hk_2 := hts (.fieldLink RX7 84 "HedgeWarModel" "fields" "I") (by decide +kernel)
  have hk_3 := hts (.fieldLink RX7 23 "HedgeWarModel" "now" "[I") (by decide +kernel)
  unfold f_X7_fieldsBy at hF
  refine lv_iload_n hx hb dX7_fieldsBy_0 rfl (lv_at hl 2 rfl) ?_
  refine lv_aload_n hx hb dX7_fieldsBy_1 rfl (lv_at hl 0 rfl) ?_
  refine va_get (D := D) (ci := 7) (v := .int (zM.1 3)) (C := RX7) (T := TX7) (N := 38) hx hb hts hin_RX7 hown hK hP 0 rfl rfl 3 (by decide) hk_0 (fun _ h9 => h9) rfl dX7_fieldsBy_2 ?_
  replace hF := bnd hF
  obtain ⟨t_1, hv_23, hF⟩ := hF
  refine jn (P := fun H locs ls => va_P D vwCl (wcM ci aM zM) H ∧ va_D A (wcM ci aM zM) ∧ va_S A s.heap H locs ∧ lv_has ls 7 [(0, .ref (aM 0)), (1, .int p1), (2, .int p2), (3, .int p3), (4, .int p4)]) (pcJ := 50) (st := [.int t_1]) ?_ ?_
  · intro H locs ls hJ
    obtain ⟨hP, hD, hS, hl⟩ := hJ
    refine lv_istore (lv' := [(5, .int t_1), (0, .ref (aM 0)), (1, .int p1), (2, .int p2), (3, .int p3), (4, .int p4)]) hx hb dX7_fieldsBy_50 hl (by decide) rfl (fun ls hl => ?_)
    refine lv_iload hx hb dX7_fieldsBy_52 (lv_at hl 0 rfl) ?_
    refine lv_if_ne (tgt := 59) hx hb dX7_fieldsBy_54 (by decide) (fun c_24 => ?_) (fun c_24 => ?_)
    · replace hF := if_o c_24 hF
      refine lv_iload_n hx hb dX7_fieldsBy_59 rfl (lv_at hl 3 rfl) ?_
      refine lv_aload_n hx hb dX7_fieldsBy_60 rfl (lv_at hl 1 rfl) ?_
      refine va_get (D := D) (ci := 7) (v := .int (zM.1 3)) (C := RX7) (T := TX7) (N := 38) hx hb hts hin_RX7 hown hK hP 0 rfl rfl 3 (by decide) hk_0 (fun _ h9 => h9) rfl dX7_fieldsBy_61 ?_
      replace hF := bnd hF
      obtain ⟨zM_25, hv_30, hF⟩ := hF
      refine jn (P := fun H locs ls => va_P D vwCl (wcM ci aM zM_25) H ∧ va_D A (wcM ci aM zM_25) ∧ va_S A s.heap H locs ∧ lv_has ls 7 [(0, .ref (aM 0)), (1, .int p1), (2, .int p2), (3, .int p3), (4, .int p4), (5, .int t_1)]) (pcJ := 73) (st := []) ?_ ?_
      · intro H locs ls hJ
        obtain ⟨hP, hD, hS, hl⟩ := hJ
        refine lv_iload_n hx hb dX7_fieldsBy_73 rfl (lv_at hl 3 rfl) ?_
        refine lv_aload_n hx hb dX7_fieldsBy_74 rfl (lv_at hl 0 rfl) ?_
        refine va_get (D := D) (ci := 7) (v := .int (zM_25.1 3)) (C := RX7) (T := TX7) (N := 38) hx hb hts hin_RX7 hown hK hP 0 rfl rfl 3 (by decide) hk_0 (fun _ h9 => h9) rfl dX7_fieldsBy_75 ?_
        replace hF := bnd hF
        obtain ⟨zM_31, hv_36, hF⟩ := hF
        refine jn (P := fun H locs ls => va_P D vwCl (wcM ci aM zM_31) H ∧ va_D A (wcM ci aM zM_31) ∧ va_S A s.heap H locs ∧ lv_has ls 7 [(0, .ref (aM 0)), (1, .int p1), (2, .int p2), (3, .int p3), (4, .int p4), (5, .int t_1)]) (pcJ := 89) (st := []) ?_ ?_
        · intro H locs ls hJ
          obtain ⟨hP, hD, hS, hl⟩ := hJ
          refine lv_iconst (v := 0) hx hb dX7_fieldsBy_89 (by decide) ?_
          refine lv_topi (fun v6_37 ev6_37 => ?_)
          replace hF := nm_i hF ev6_37
          refine lv_istore (lv' := [(6, .int v6_37), (0, .ref (aM 0)), (1, .int p1), (2, .int p2), (3, .int p3), (4, .int p4), (5, .int t_1)]) hx hb dX7_fieldsBy_90 hl (by decide) rfl (fun ls hl => ?_)
          replace hF := bnd hF
          obtain ⟨q_65, hv_50, hF⟩ := hF
          obtain ⟨v6_42, ev6_42⟩ : ∃ y : Int32, y = q_65.1 := ⟨_, rfl⟩
          replace hF := nm_i hF ev6_42
          obtain ⟨zM_43, ezM_43⟩ : ∃ y : MS, y = q_65.2 := ⟨_, rfl⟩
          replace hF := nm_i hF ezM_43
          obtain rfl : q_65 = (v6_42, zM_43) := by rw [ev6_42, ezM_43]
          clear ev6_42
          clear ezM_43
          refine jn (P := fun H locs ls => va_P D vwCl (wcM ci aM zM_43) H ∧ va_D A (wcM ci aM zM_43) ∧ va_S A s.heap H locs ∧ lv_has ls 7 [(0, .ref (aM 0)), (1, .int p1), (2, .int p2), (3, .int p3), (4, .int p4), (5, .int t_1), (6, .int v6_42)]) (pcJ := 109) (st := []) ?_ ?_
          · intro H locs ls hJ
            obtain ⟨hP, hD, hS, hl⟩ := hJ
            refine lv_iload_n hx hb dX7_fieldsBy_109 rfl (lv_at hl 1 rfl) ?_
            refine lv_iconst (v := 1) hx hb dX7_fieldsBy_110 (by decide) ?_
            replace hF := bnd hF
            obtain ⟨t_51, hv_62, hF⟩ := hF
            refine jn (P := fun H locs ls => va_P D vwCl (wcM ci aM zM_43) H ∧ va_D A (wcM ci aM zM_43) ∧ va_S A s.heap H locs ∧ lv_has ls 7 [(0, .ref (aM 0)), (1, .int p1), (2, .int p2), (3, .int p3), (4, .int p4), (5, .int t_1), (6, .int v6_42)]) (pcJ := 142) (st := [.int t_51]) ?_ ?_
            · intro H locs ls hJ
              obtain ⟨hP, hD, hS, hl⟩ := hJ
              refine lv_istore (lv' := [(6, .int t_51), (0, .ref (aM 0)), (1, .int p1), (2, .int p2), (3, .int p3), (4, .int p4), (5, .int t_1)]) hx hb dX7_fieldsBy_142 hl (by decide) rfl (fun ls hl => ?_)
              refine lv_aload_n hx hb dX7_fieldsBy_144 rfl (lv_at hl 1 rfl) ?_
              replace hF := bnd hF
              obtain ⟨zM_63, hc_64, hF⟩ := hF
              refine cl_Vv0 (As := []) (rest := []) ⟨hx, hb, hml, hown, hts⟩ (cwV 0 hts gX7_fieldsBy_X7_putBack rfl rfl rfl (by decide +kernel) ⟨Nat.le_of_ble_eq_true rfl, Nat.le_of_ble_eq_true rfl⟩) (c_X7_putBack l D ci aM H.size zM_43 _ hc_64) hK hP hD hS hA 0 rfl rfl rfl rfl hl.1 (Nat.le_of_ble_eq_true rfl) dX7_fieldsBy_145 (Nat.zero_le _) (Nat.zero_le _) (fun H locs hP hD hS => ?_)
              have hP : va_P D vwCl (wcM ci aM zM_63) H := hP
              have hD : va_D A (wcM ci aM zM_63) := hD
              refine lv_iload hx hb dX7_fieldsBy_148 (lv_at hl 0 rfl) ?_
              obtain rfl := Option.some.inj hF
              exact W.iret (v := t_51) hx hb hr (fun t ht hW => ⟨⟨_, (), rfl, rfl, by rw [ht]; exact hP, va_K.moved hW.alike hK, hD⟩, hS.F ht⟩) hS.2.2 dX7_fieldsBy_150
            · intro J_52
              clear hF
              have hF := hv_62
              refine lv_icmp_ne (tgt := 127) hx hb dX7_fieldsBy_111 (by decide) (fun c_53 => ?_) (fun c_53 => ?_)
              · replace hF := if_o c_53 hF
                refine lv_aload_n hx hb dX7_fieldsBy_127 rfl (lv_at hl 0 rfl) ?_
                refine va_get (D := D) (ci := 7) (v := .int (zM_43.1 2)) (C := RX7) (T := TX7) (N := 38) hx hb hts hin_RX7 hown hK hP 0 rfl rfl 2 (by decide) hk_2 (fun _ h9 => h9) rfl dX7_fieldsBy_128 ?_
                refine lv_aload_n hx hb dX7_fieldsBy_131 rfl (lv_at hl 0 rfl) ?_
                refine va_get (D := D) (ci := 7) (v := .ref (aM 8)) (C := RX7) (T := TX7) (N := 38) hx hb hts hin_RX7 hown hK hP 0 rfl rfl 8 (by decide) hk_3 (fun _ h9 => h9) rfl dX7_fieldsBy_132 ?_
                refine lv_bipush (v := 120) hx hb dX7_fieldsBy_135 (by decide) ?_
                replace hF := ald_i hF
                obtain ⟨hin_54, hF⟩ := hF
                refine va_iald hx hb hK hP 5 0 rfl rfl hin_54 dX7_fieldsBy_137 ?_
                refine lv_topi (fun x_55 ex_55 => ?_)
                replace hF := nm_i hF ex_55
                replace hF := bnd hF
                obtain ⟨r_56, hc_57, hF⟩ := hF
                refine cl_Sie (As := [.int x_55]) (rest := [.int (zM_43.1 2)]) ⟨hx, hb, hml, hown, hts⟩ (va_cwS 1 hts gX7_fieldsBy_X7_bits rfl rfl rfl (by decide +kernel) ⟨Nat.le_of_ble_eq_true rfl, Nat.le_of_ble_eq_true rfl⟩) (c_X7_bits l D ci  H.size x_55 _ hc_57) hK hP hD hS hA rfl rfl hl.1 (Nat.le_of_ble_eq_true rfl) dX7_fieldsBy_138 (Nat.zero_le _) (Nat.zero_le _) (fun H locs hP hD hS => ?_)
                have hP : va_P D vwCl (wcM ci aM zM_43) H := hP
                have hD : va_D A (wcM ci aM zM_43) := hD
                refine lv_isub hx hb dX7_fieldsBy_141 ?_
                obtain rfl := Option.some.inj hF
                exact J_52 H locs ls ⟨hP, hD, hS, lv_sub hl [0, 1, 2, 3, 4, 5, 6] rfl⟩
              · replace hF := if_i c_53 hF
                refine lv_aload_n hx hb dX7_fieldsBy_114 rfl (lv_at hl 0 rfl) ?_
                refine va_get (D := D) (ci := 7) (v := .ref (aM 8)) (C := RX7) (T := TX7) (N := 38) hx hb hts hin_RX7 hown hK hP 0 rfl rfl 8 (by decide) hk_3 (fun _ h9 => h9) rfl dX7_fieldsBy_115 ?_
                refine lv_bipush (v := 120) hx hb dX7_fieldsBy_118 (by decide) ?_
                replace hF := ald_i hF
                obtain ⟨hin_58, hF⟩ := hF
                refine va_iald hx hb hK hP 5 0 rfl rfl hin_58 dX7_fieldsBy_120 ?_
                refine lv_topi (fun x_59 ex_59 => ?_)
                replace hF := nm_i hF ex_59
                replace hF := bnd hF
                obtain ⟨r_60, hc_61, hF⟩ := hF
                refine cl_Sie (As := [.int x_59]) (rest := []) ⟨hx, hb, hml, hown, hts⟩ (va_cwS 1 hts gX7_fieldsBy_X7_bits rfl rfl rfl (by decide +kernel) ⟨Nat.le_of_ble_eq_true rfl, Nat.le_of_ble_eq_true rfl⟩) (c_X7_bits l D ci  H.size x_59 _ hc_61) hK hP hD hS hA rfl rfl hl.1 (Nat.le_of_ble_eq_true rfl) dX7_fieldsBy_121 (Nat.zero_le _) (Nat.zero_le _) (fun H locs hP hD hS => ?_)
                have hP : va_P D vwCl (wcM ci aM zM_43) H := hP
                have hD : va_D A (wcM ci aM zM_43) := hD
                refine lv_goto (tgt := 142) hx hb dX7_fieldsBy_124 (by decide) ?_
                obtain rfl := Option.some.inj hF
                exact J_52 H locs ls ⟨hP, hD, hS, lv_sub hl [0, 1, 2, 3, 4, 5, 6] rfl⟩
          · intro J_41
            clear hF
            have hF := hv_50
            refine lpW (σ := Int32 × MS) (I := fun n v H locs ls => L_X7_fieldsBy_92 p1 p2 p3 p4 t_1 n v.1 v.2 = some (v6_42, zM_43) ∧ va_P D vwCl (wcM ci aM v.2) H ∧ va_D A (wcM ci aM v.2) ∧ va_S A s.heap H locs ∧ lv_has ls 7 [(0, .ref (aM 0)), (1, .int p1), (2, .int p2), (3, .int p3), (4, .int p4), (5, .int t_1), (6, .int v.1)]) 3000 (v6_37, zM_31) (fun _ _ _ _ h => no_none h.1) ⟨hF, hP, hD, hS, lv_sub hl [1, 2, 3, 4, 5, 6, 0] rfl⟩ ?_
            clear hF hP hD hS hl
            intro n ih_40 vq H locs ls hI
            obtain ⟨v6_38, zM_39⟩ := vq
            obtain ⟨hF, hP, hD, hS, hl⟩ := hI
            have hP : va_P D vwCl (wcM ci aM zM_39) H := hP
            have hD : va_D A (wcM ci aM zM_39) := hD
            have hl : lv_has ls 7 [(0, .ref (aM 0)), (1, .int p1), (2, .int p2), (3, .int p3), (4, .int p4), (5, .int t_1), (6, .int v6_38)] := hl
            replace hF : L_X7_fieldsBy_92 p1 p2 p3 p4 t_1 (n + 1) v6_38 zM_39 = some (v6_42, zM_43) := hF
            rw [L_X7_fieldsBy_92] at hF
            refine lv_iload hx hb dX7_fieldsBy_92 (lv_at hl 6 rfl) ?_
            refine lv_iload hx hb dX7_fieldsBy_94 (lv_at hl 4 rfl) ?_
            refine lv_icmp_ge (tgt := 109) hx hb dX7_fieldsBy_96 (by decide) (fun c_44 => ?_) (fun c_44 => ?_)
            · replace hF := if_i c_44 hF
              obtain ⟨g_45, g_46⟩ : v6_38 = v6_42 ∧ zM_39 = zM_43 := by have h9 := Option.some.inj hF; simpa only [Prod.mk.injEq] using h9
              subst g_45
              subst g_46
              exact J_41 H locs ls ⟨hP, hD, hS, lv_sub hl [0, 1, 2, 3, 4, 5, 6] rfl⟩
            · replace hF := if_o c_44 hF
              refine lv_aload_n hx hb dX7_fieldsBy_99 rfl (lv_at hl 0 rfl) ?_
              replace hF := bnd hF
              obtain ⟨zM_47, hc_48, hF⟩ := hF
              refine cl_Vv0 (As := []) (rest := []) ⟨hx, hb, hml, hown, hts⟩ (cwV 0 hts gX7_fieldsBy_X7_pass rfl rfl rfl (by decide +kernel) ⟨Nat.le_of_ble_eq_true rfl, Nat.le_of_ble_eq_true rfl⟩) (c_X7_pass l D ci aM H.size zM_39 _ hc_48) hK hP hD hS hA 0 rfl rfl rfl rfl hl.1 (Nat.le_of_ble_eq_true rfl) dX7_fieldsBy_100 (Nat.zero_le _) (Nat.zero_le _) (fun H locs hP hD hS => ?_)
              have hP : va_P D vwCl (wcM ci aM zM_47) H := hP
              have hD : va_D A (wcM ci aM zM_47) := hD
              obtain ⟨v6_49, ev6_49⟩ : ∃ y : Int32, y = v6_38 + 1 := ⟨_, rfl⟩
              replace hF := nm_i hF ev6_49
              refine lv_iinc (v := v6_49) (lv' := [(6, .int v6_49), (0, .ref (aM 0)), (1, .int p1), (2, .int p2), (3, .int p3), (4, .int p4), (5, .int t_1)]) hx hb dX7_fieldsBy_103 hl (k := 6) rfl (by rw [ev6_49]; rfl) (by decide) rfl (fun ls hl => ?_)
              refine lv_goto (tgt := 92) hx hb dX7_fieldsBy_106 (by decide) ?_
              exact ih_40 (v6_49, zM_47) H locs ls ⟨hF, hP, hD, hS, lv_sub hl [1, 2, 3, 4, 5, 6, 0] rfl⟩
        · intro J_32
          clear hF
          have hF := hv_36
          refine lv_icmp_ge (tgt := 89) hx hb dX7_fieldsBy_78 (by decide) (fun c_33 => ?_) (fun c_33 => ?_)
          · replace hF := if_i c_33 hF
            obtain rfl := Option.some.inj hF
            exact J_32 H locs ls ⟨hP, hD, hS, lv_sub hl [0, 1, 2, 3, 4, 5] rfl⟩
          · replace hF := if_o c_33 hF
            refine lv_aload_n hx hb dX7_fieldsBy_81 rfl (lv_at hl 0 rfl) ?_
            refine lv_iload_n hx hb dX7_fieldsBy_82 rfl (lv_at hl 3 rfl) ?_
            refine lv_iconst (v := 1) hx hb dX7_fieldsBy_83 (by decide) ?_
            refine lv_iload_n hx hb dX7_fieldsBy_84 rfl (lv_at hl 1 rfl) ?_
            refine lv_isub hx hb dX7_fieldsBy_85 ?_
            replace hF := bnd hF
            obtain ⟨zM_34, hc_35, hF⟩ := hF
            refine cl_Vv0 (As := [.int p3, .int (1 - p1)]) (rest := []) ⟨hx, hb, hml, hown, hts⟩ (cwV 2 hts gX7_fieldsBy_X7_plantNow rfl rfl rfl (by decide +kernel) ⟨Nat.le_of_ble_eq_true rfl, Nat.le_of_ble_eq_true rfl⟩) (c_X7_plantNow l D ci aM H.size zM_25 p3 (1 - p1) _ hc_35) hK hP hD hS hA 0 rfl rfl rfl rfl hl.1 (Nat.le_of_ble_eq_true rfl) dX7_fieldsBy_86 (Nat.zero_le _) (Nat.zero_le _) (fun H locs hP hD hS => ?_)
            have hP : va_P D vwCl (wcM ci aM zM_34) H := hP
            have hD : va_D A (wcM ci aM zM_34) := hD
            obtain rfl := Option.some.inj hF
            exact J_32 H locs ls ⟨hP, hD, hS, lv_sub hl [0, 1, 2, 3, 4, 5] rfl⟩
      · intro J_26
        clear hF
        have hF := hv_30
        refine lv_icmp_ge (tgt := 73) hx hb dX7_fieldsBy_64 (by decide) (fun c_27 => ?_) (fun c_27 => ?_)
        · replace hF := if_i c_27 hF
          obtain rfl := Option.some.inj hF
          exact J_26 H locs ls ⟨hP, hD, hS, lv_sub hl [1, 2, 3, 4, 5, 0] rfl⟩
        · replace hF := if_o c_27 hF
          refine lv_aload_n hx hb dX7_fieldsBy_67 rfl (lv_at hl 1 rfl) ?_
          refine lv_iload_n hx hb dX7_fieldsBy_68 rfl (lv_at hl 3 rfl) ?_
          refine lv_iload_n hx hb dX7_fieldsBy_69 rfl (lv_at hl 2 rfl) ?_
          replace hF := bnd hF
          obtain ⟨zM_28, hc_29, hF⟩ := hF
          refine cl_Vv0 (As := [.int p2, .int p1]) (rest := []) ⟨hx, hb, hml, hown, hts⟩ (cwV 2 hts gX7_fieldsBy_X7_plantNow rfl rfl rfl (by decide +kernel) ⟨Nat.le_of_ble_eq_true rfl, Nat.le_of_ble_eq_true rfl⟩) (c_X7_plantNow l D ci aM H.size zM p2 p1 _ hc_29) hK hP hD hS hA 0 rfl rfl rfl rfl hl.1 (Nat.le_of_ble_eq_true rfl) dX7_fieldsBy_70 (Nat.zero_le _) (Nat.zero_le _) (fun H locs hP hD hS => ?_)
          have hP : va_P D vwCl (wcM ci aM zM_28) H := hP
          have hD : va_D A (wcM ci aM zM_28) := hD
          obtain rfl := Option.some.inj hF
          exact J_26 H locs ls ⟨hP, hD, hS, lv_sub hl [1, 2, 3, 4, 5, 0] rfl⟩
    · replace hF := if_i c_24 hF
      refine lv_iconst (v := (-1)) hx hb dX7_fieldsBy_57 (by decide) ?_
      obtain rfl := Option.some.inj hF
      exact W.iret (v := (-1)) hx hb hr (fun t ht hW => ⟨⟨_, (), rfl, rfl, by rw [ht]; exact hP, va_K.moved hW.alike hK, hD⟩, hS.F ht⟩) hS.2.2 dX7_fieldsBy_58
  · intro J_2
    clear hF
    have hF := hv_23
    refine lv_icmp_eq (tgt := 16) hx hb dX7_fieldsBy_5 (by decide) (fun c_3 => ?_) (fun c_3 => ?_)
    · replace hF := if_i c_3 hF
      refine lv_iload_n hx hb dX7_fieldsBy_16 rfl (lv_at hl 3 rfl) ?_
      refine lv_aload_n hx hb dX7_fieldsBy_17 rfl (lv_at hl 0 rfl) ?_
      refine va_get (D := D) (ci := 7) (v := .int (zM.1 3)) (C := RX7) (T := TX7) (N := 38) hx hb hts hin_RX7 hown hK hP 0 rfl rfl 3 (by decide) hk_0 (fun _ h9 => h9) rfl dX7_fieldsBy_18 ?_
      refine lv_icmp_eq (tgt := 32) hx hb dX7_fieldsBy_21 (by decide) (fun c_4 => ?_) (fun c_4 => ?_)
      · replace hF := if_i c_4 hF
        refine lv_iload_n hx hb dX7_fieldsBy_32 rfl (lv_at hl 3 rfl) ?_
        refine lv_aload_n hx hb dX7_fieldsBy_33 rfl (lv_at hl 0 rfl) ?_
        refine va_get (D := D) (ci := 7) (v := .int (zM.1 3)) (C := RX7) (T := TX7) (N := 38) hx hb hts hin_RX7 hown hK hP 0 rfl rfl 3 (by decide) hk_0 (fun _ h9 => h9) rfl dX7_fieldsBy_34 ?_
        refine lv_icmp_eq (tgt := 45) hx hb dX7_fieldsBy_37 (by decide) (fun c_5 => ?_) (fun c_5 => ?_)
        · replace hF := if_i c_5 hF
          refine lv_iconst (v := 1) hx hb dX7_fieldsBy_45 (by decide) ?_
          refine lv_goto (tgt := 50) hx hb dX7_fieldsBy_46 (by decide) ?_
          obtain rfl := Option.some.inj hF
          exact J_2 H locs ls ⟨hP, hD, hS, lv_sub hl [0, 1, 2, 3, 4] rfl⟩
        · replace hF := if_o c_5 hF
          refine lv_iload_n hx hb dX7_fieldsBy_40 rfl (lv_at hl 3 rfl) ?_
          refine lv_iload_n hx hb dX7_fieldsBy_41 rfl (lv_at hl 2 rfl) ?_
          refine lv_icmp_eq (tgt := 49) hx hb dX7_fieldsBy_42 (by decide) (fun c_6 => ?_) (fun c_6 => ?_)
          · replace hF := if_i c_6 hF
            refine lv_iconst (v := 0) hx hb dX7_fieldsBy_49 (by decide) ?_
            obtain rfl := Option.some.inj hF
            exact J_2 H locs ls ⟨hP, hD, hS, lv_sub hl [0, 1, 2, 3, 4] rfl⟩
          · replace hF := if_o c_6 hF
            refine lv_iconst (v := 1) hx hb dX7_fieldsBy_45 (by decide) ?_
            refine lv_goto (tgt := 50) hx hb dX7_fieldsBy_46 (by decide) ?_
            obtain rfl := Option.some.inj hF
            exact J_2 H locs ls ⟨hP, hD, hS, lv_sub hl [0, 1, 2, 3, 4] rfl⟩
      · replace hF := if_o c_4 hF
        refine lv_aload_n hx hb dX7_fieldsBy_24 rfl (lv_at hl 0 rfl) ?_
        refine lv_iload_n hx hb dX7_fieldsBy_25 rfl (lv_at hl 3 rfl) ?_
        replace hF := bnd hF
        obtain ⟨r_7, hc_8, hF⟩ := hF
        refine cl_Vi0 (As := [.int p3]) (rest := []) ⟨hx, hb, hml, hown, hts⟩ (cwV 1 hts gX7_fieldsBy_X7_mayPlant rfl rfl rfl (by decide +kernel) ⟨Nat.le_of_ble_eq_true rfl, Nat.le_of_ble_eq_true rfl⟩) (c_X7_mayPlant l D ci aM H.size zM p3 _ hc_8) hK hP hD hS hA 0 rfl rfl rfl rfl hl.1 (Nat.le_of_ble_eq_true rfl) dX7_fieldsBy_26 (Nat.zero_le _) (Nat.zero_le _) (fun H locs hP hD hS => ?_)
        have hP : va_P D vwCl (wcM ci aM zM) H := hP
        have hD : va_D A (wcM ci aM zM) := hD
        refine lv_if_eq (tgt := 49) hx hb dX7_fieldsBy_29 (by decide) (fun c_9 => ?_) (fun c_9 => ?_)
        · replace hF := if_i c_9 hF
          refine lv_iconst (v := 0) hx hb dX7_fieldsBy_49 (by decide) ?_
          obtain rfl := Option.some.inj hF
          exact J_2 H locs ls ⟨hP, hD, hS, lv_sub hl [0, 1, 2, 3, 4] rfl⟩
        · replace hF := if_o c_9 hF
          refine lv_iload_n hx hb dX7_fieldsBy_32 rfl (lv_at hl 3 rfl) ?_
          refine lv_aload_n hx hb dX7_fieldsBy_33 rfl (lv_at hl 0 rfl) ?_
          refine va_get (D := D) (ci := 7) (v := .int (zM.1 3)) (C := RX7) (T := TX7) (N := 38) hx hb hts hin_RX7 hown hK hP 0 rfl rfl 3 (by decide) hk_0 (fun _ h9 => h9) rfl dX7_fieldsBy_34 ?_
          refine lv_icmp_eq (tgt := 45) hx hb dX7_fieldsBy_37 (by decide) (fun c_10 => ?_) (fun c_10 => ?_)
          · replace hF := if_i c_10 hF
            refine lv_iconst (v := 1) hx hb dX7_fieldsBy_45 (by decide) ?_
            refine lv_goto (tgt := 50) hx hb dX7_fieldsBy_46 (by decide) ?_
            obtain rfl := Option.some.inj hF
            exact J_2 H locs ls ⟨hP, hD, hS, lv_sub hl [0, 1, 2, 3, 4] rfl⟩
          · replace hF := if_o c_10 hF
            refine lv_iload_n hx hb dX7_fieldsBy_40 rfl (lv_at hl 3 rfl) ?_
            refine lv_iload_n hx hb dX7_fieldsBy_41 rfl (lv_at hl 2 rfl) ?_
            refine lv_icmp_eq (tgt := 49) hx hb dX7_fieldsBy_42 (by decide) (fun c_11 => ?_) (fun c_11 => ?_)
            · replace hF := if_i c_11 hF
              refine lv_iconst (v := 0) hx hb dX7_fieldsBy_49 (by decide) ?_
              obtain rfl := Option.some.inj hF
              exact J_2 H locs ls ⟨hP, hD, hS, lv_sub hl [0, 1, 2, 3, 4] rfl⟩
            · replace hF := if_o c_11 hF
              refine lv_iconst (v := 1) hx hb dX7_fieldsBy_45 (by decide) ?_
              refine lv_goto (tgt := 50) hx hb dX7_fieldsBy_46 (by decide) ?_
              obtain rfl := Option.some.inj hF
              exact J_2 H locs ls ⟨hP, hD, hS, lv_sub hl [0, 1, 2, 3, 4] rfl⟩
    · replace hF := if_o c_3 hF
      refine lv_aload_n hx hb dX7_fieldsBy_8 rfl (lv_at hl 0 rfl) ?_
      refine lv_iload_n hx hb dX7_fieldsBy_9 rfl (lv_at hl 2 rfl) ?_
      replace hF := bnd hF
      obtain ⟨r_12, hc_13, hF⟩ := hF
      refine cl_Vi0 (As := [.int p2]) (rest := []) ⟨hx, hb, hml, hown, hts⟩ (cwV 1 hts gX7_fieldsBy_X7_mayPlant rfl rfl rfl (by decide +kernel) ⟨Nat.le_of_ble_eq_true rfl, Nat.le_of_ble_eq_true rfl⟩) (c_X7_mayPlant l D ci aM H.size zM p2 _ hc_13) hK hP hD hS hA 0 rfl rfl rfl rfl hl.1 (Nat.le_of_ble_eq_true rfl) dX7_fieldsBy_10 (Nat.zero_le _) (Nat.zero_le _) (fun H locs hP hD hS => ?_)
      have hP : va_P D vwCl (wcM ci aM zM) H := hP
      have hD : va_D A (wcM ci aM zM) := hD
      refine lv_if_eq (tgt := 49) hx hb dX7_fieldsBy_13 (by decide) (fun c_14 => ?_) (fun c_14 => ?_)
      · replace hF := if_i c_14 hF
        refine lv_iconst (v := 0) hx hb dX7_fieldsBy_49 (by decide) ?_
        obtain rfl := Option.some.inj hF
        exact J_2 H locs ls ⟨hP, hD, hS, lv_sub hl [0, 1, 2, 3, 4] rfl⟩
      · replace hF := if_o c_14 hF
        refine lv_iload_n hx hb dX7_fieldsBy_16 rfl (lv_at hl 3 rfl) ?_
        refine lv_aload_n hx hb dX7_fieldsBy_17 rfl (lv_at hl 0 rfl) ?_
        refine va_get (D := D) (ci := 7) (v := .int (zM.1 3)) (C := RX7) (T := TX7) (N := 38) hx hb hts hin_RX7 hown hK hP 0 rfl rfl 3 (by decide) hk_0 (fun _ h9 => h9) rfl dX7_fieldsBy_18 ?_
        refine lv_icmp_eq (tgt := 32) hx hb dX7_fieldsBy_21 (by decide) (fun c_15 => ?_) (fun c_15 => ?_)
        · replace hF := if_i c_15 hF
          refine lv_iload_n hx hb dX7_fieldsBy_32 rfl (lv_at hl 3 rfl) ?_
          refine lv_aload_n hx hb dX7_fieldsBy_33 rfl (lv_at hl 0 rfl) ?_
          refine va_get (D := D) (ci := 7) (v := .int (zM.1 3)) (C := RX7) (T := TX7) (N := 38) hx hb hts hin_RX7 hown hK hP 0 rfl rfl 3 (by decide) hk_0 (fun _ h9 => h9) rfl dX7_fieldsBy_34 ?_
          refine lv_icmp_eq (tgt := 45) hx hb dX7_fieldsBy_37 (by decide) (fun c_16 => ?_) (fun c_16 => ?_)
          · replace hF := if_i c_16 hF
            refine lv_iconst (v := 1) hx hb dX7_fieldsBy_45 (by decide) ?_
            refine lv_goto (tgt := 50) hx hb dX7_fieldsBy_46 (by decide) ?_
            obtain rfl := Option.some.inj hF
            exact J_2 H locs ls ⟨hP, hD, hS, lv_sub hl [0, 1, 2, 3, 4] rfl⟩
          · replace hF := if_o c_16 hF
            refine lv_iload_n hx hb dX7_fieldsBy_40 rfl (lv_at hl 3 rfl) ?_
            refine lv_iload_n hx hb dX7_fieldsBy_41 rfl (lv_at hl 2 rfl) ?_
            refine lv_icmp_eq (tgt := 49) hx hb dX7_fieldsBy_42 (by decide) (fun c_17 => ?_) (fun c_17 => ?_)
            · replace hF := if_i c_17 hF
              refine lv_iconst (v := 0) hx hb dX7_fieldsBy_49 (by decide) ?_
              obtain rfl := Option.some.inj hF
              exact J_2 H locs ls ⟨hP, hD, hS, lv_sub hl [0, 1, 2, 3, 4] rfl⟩
            · replace hF := if_o c_17 hF
              refine lv_iconst (v := 1) hx hb dX7_fieldsBy_45 (by decide) ?_
              refine lv_goto (tgt := 50) hx hb dX7_fieldsBy_46 (by decide) ?_
              obtain rfl := Option.some.inj hF
              exact J_2 H locs ls ⟨hP, hD, hS, lv_sub hl [0, 1, 2, 3, 4] rfl⟩
        · replace hF := if_o c_15 hF
          refine lv_aload_n hx hb dX7_fieldsBy_24 rfl (lv_at hl 0 rfl) ?_
          refine lv_iload_n hx hb dX7_fieldsBy_25 rfl (lv_at hl 3 rfl) ?_
          replace hF := bnd hF
          obtain ⟨r_18, hc_19, hF⟩ := hF
          refine cl_Vi0 (As := [.int p3]) (rest := []) ⟨hx, hb, hml, hown, hts⟩ (cwV 1 hts gX7_fieldsBy_X7_mayPlant rfl rfl rfl (by decide +kernel) ⟨Nat.le_of_ble_eq_true rfl, Nat.le_of_ble_eq_true rfl⟩) (c_X7_mayPlant l D ci aM H.size zM p3 _ hc_19) hK hP hD hS hA 0 rfl rfl rfl rfl hl.1 (Nat.le_of_ble_eq_true rfl) dX7_fieldsBy_26 (Nat.zero_le _) (Nat.zero_le _) (fun H locs hP hD hS => ?_)
          have hP : va_P D vwCl (wcM ci aM zM) H := hP
          have hD : va_D A (wcM ci aM zM) := hD
          refine lv_if_eq (tgt := 49) hx hb dX7_fieldsBy_29 (by decide) (fun c_20 => ?_) (fun c_20 => ?_)
          · replace hF := if_i c_20 hF
            refine lv_iconst (v := 0) hx hb dX7_fieldsBy_49 (by decide) ?_
            obtain rfl := Option.some.inj hF
            exact J_2 H locs ls ⟨hP, hD, hS, lv_sub hl [0, 1, 2, 3, 4] rfl⟩
          · replace hF := if_o c_20 hF
            refine lv_iload_n hx hb dX7_fieldsBy_32 rfl (lv_at hl 3 rfl) ?_
            refine lv_aload_n hx hb dX7_fieldsBy_33 rfl (lv_at hl 0 rfl) ?_
            refine va_get (D := D) (ci := 7) (v := .int (zM.1 3)) (C := RX7) (T := TX7) (N := 38) hx hb hts hin_RX7 hown hK hP 0 rfl rfl 3 (by decide) hk_0 (fun _ h9 => h9) rfl dX7_fieldsBy_34 ?_
            refine lv_icmp_eq (tgt := 45) hx hb dX7_fieldsBy_37 (by decide) (fun c_21 => ?_) (fun c_21 => ?_)
            · replace hF := if_i c_21 hF
              refine lv_iconst (v := 1) hx hb dX7_fieldsBy_45 (by decide) ?_
              refine lv_goto (tgt := 50) hx hb dX7_fieldsBy_46 (by decide) ?_
              obtain rfl := Option.some.inj hF
              exact J_2 H locs ls ⟨hP, hD, hS, lv_sub hl [0, 1, 2, 3, 4] rfl⟩
            · replace hF := if_o c_21 hF
              refine lv_iload_n hx hb dX7_fieldsBy_40 rfl (lv_at hl 3 rfl) ?_
              refine lv_iload_n hx hb dX7_fieldsBy_41 rfl (lv_at hl 2 rfl) ?_
              refine lv_icmp_eq (tgt := 49) hx hb dX7_fieldsBy_42 (by decide) (fun c_22 => ?_) (fun c_22 => ?_)
              · replace hF := if_i c_22 hF
                refine lv_iconst (v := 0) hx hb dX7_fieldsBy_49 (by decide) ?_
                obtain rfl := Option.some.inj hF
                exact J_2 H locs ls ⟨hP, hD, hS, lv_sub hl [0, 1, 2, 3, 4] rfl⟩
              · replace hF := if_o c_22 hF
                refine lv_iconst (v := 1) hx hb dX7_fieldsBy_45 (by decide) ?_
                refine lv_goto (tgt := 50) hx hb dX7_fieldsBy_46 (by decide) ?_
                obtain rfl := Option.some.inj hF
                exact J_2 H locs ls ⟨hP, hD, hS, lv_sub hl [0, 1, 2, 3, 4] rfl⟩
noncomputable def L_X7_turns_37 (p1 : Int32) (p2 : Int32) : Nat → Int32 → MS → Option (Int32 × MS)
  | 0, _, _ => none
  | n + 1, v3_9, zM_10 => if (122 : Int32) ≤ v3_9 then (some (v3_9, zM_10)) else (ald 122 (zM_10.2 8) v3_9 fun x_19 => ast 122 v3_9 <| nm ((zM_10.1, va_up zM_10.2 28 (upd (zM_10.2 28) (Int32.toNatClampNeg v3_9) x_19)) : MS) fun zM_21 => nm (v3_9 + 1) fun v3_22 => L_X7_turns_37 p1 p2 n v3_22 zM_21)
noncomputable def L_X7_turns_81 (p1 : Int32) (p2 : Int32) (v3_26 : Int32) (v4_27 : Int32) : Nat → Int32 → Int32 → MS → Option (Int32 × Int32 × MS)
  | 0, _, _, _ => none
  | n + 1, v5_40, v6_41, zM_42 => if (zM_42.1 3) < v6_41 then (some (v5_40, v6_41, zM_42)) else ((f_X7_fieldsBy zM_42 p1 v4_27 v6_41 p2).bind fun q_55 => nm q_55.1 fun r_52 => nm q_55.2 fun zM_53 => if r_52 < 0 then (nm (v6_41 + 1) fun v6_57 => L_X7_turns_81 p1 p2 v3_26 v4_27 n v5_40 v6_57 zM_53) else (if v5_40 < 0 then (nm (v6_41 + 1) fun v6_59 => L_X7_turns_81 p1 p2 v3_26 v4_27 n r_52 v6_59 zM_53) else (if v5_40 ≤ r_52 then (nm (v6_41 + 1) fun v6_61 => L_X7_turns_81 p1 p2 v3_26 v4_27 n v5_40 v6_61 zM_53) else (nm (v6_41 + 1) fun v6_62 => L_X7_turns_81 p1 p2 v3_26 v4_27 n r_52 v6_62 zM_53))))
noncomputable def L_X7_turns_66 (p1 : Int32) (p2 : Int32) : Nat → Int32 → Int32 → MS → Option (Int32 × Int32 × MS)
  | 0, _, _, _ => none
  | n + 1, v3_26, v4_27, zM_28 => if (zM_28.1 3) < v4_27 then (some (v3_26, v4_27, zM_28)) else (nm (-1 : Int32) fun v5_38 => nm (0 : Int32) fun v6_39 => (L_X7_turns_81 p1 p2 v3_26 v4_27 3000 v5_38 v6_39 zM_28).bind fun q_67 => nm q_67.1 fun v5_45 => nm q_67.2.1 fun v6_46 => nm q_67.2.2 fun zM_47 => if v5_45 ≤ v3_26 then (nm (v4_27 + 1) fun v4_65 => L_X7_turns_66 p1 p2 n v3_26 v4_65 zM_47) else (nm (v4_27 + 1) fun v4_66 => L_X7_turns_66 p1 p2 n v5_45 v4_66 zM_47))
noncomputable def f_X7_turns (zM : MS) (p1 : Int32) (p2 : Int32) : Option (Int32 × MS) := (f_X7_isEstate p1).bind fun r_1 => if r_1 = 0 then (some ((-1000000001 : Int32), zM)) else ((f_X7_in (Int32.toInt64 p2) (1 : Int64) (6 : Int64)).bind fun r_4 => if r_4 = 0 then (some ((-1000000002 : Int32), zM)) else (if (zM.1 2) = 0 then (some ((-1000000003 : Int32), zM)) else (nm (0 : Int32) fun v3_8 => (L_X7_turns_37 p1 p2 3000 v3_8 zM).bind fun q_70 => nm q_70.1 fun v3_13 => nm q_70.2 fun zM_14 => nm (-1 : Int32) fun v3_24 => nm (0 : Int32) fun v4_25 => (L_X7_turns_66 p1 p2 3000 v3_24 v4_25 zM_14).bind fun q_69 => nm q_69.1 fun v3_31 => nm q_69.2.1 fun v4_32 => nm q_69.2.2 fun zM_33 => some (v3_31, zM_33))))
set_option maxHeartbeats 4000000 in
set_option maxRecDepth 100000 in
theorem c_X7_turns (l : Launch) (D : va_G) (ci : Nat → ClassId) (aM : Nat → Nat) (sz : Nat) (zM : MS) (p1 : Int32) (p2 : Int32) (res : Int32 × MS) (hF : f_X7_turns zM p1 p2 = some res) : CtI l yX7_turns wsX7_turns { frames := 6, cells := 0, slots := 0, locals := 141 } [.ref (aM 0), .int p1, .int p2] D ci (wcM ci aM zM) sz res.1 (wcM ci aM res.2) := by
  refine Met.ofW (cc := cX7_turns) (maxL := 8) (ret := (some .int)) (by decide) rfl ?_
  intro p e s m args below meth c s₁ B hml hv
  obtain ⟨rfl, hsz, hP, hK, hD0⟩ := hv
  have hx := B.exec
  have hb := B.bytes
  have hr := B.returns
  have hts := atoms_spec (ws := wsX7_turns) B.pre
  have hown : s.vm.findClass RX7 = some m.cls := findClass_of_methodNamed B.named
  have hlocks := B.notSynchronized
  subst hsz
  have hD := hD0.self (sz := s.heap.size)
  generalize hAe : va_A (wcM ci aM zM) s.heap.size = A at hD ⊢
  have hA : ∀ q : Nat, s.heap.size ≤ q → A q := fun q h => by rw [← hAe]; exact Or.inr h
  clear hD0 hAe
  have hl := lv_entry ([.ref (aM 0), .int p1, .int p2]) (n := 8) (Nat.le_of_ble_eq_true rfl)
  rw [lg_entry_eq]
  generalize (lg_sl ([.ref (aM 0), .int p1, .int p2]) ++ List.replicate (8 - (lg_sl ([.ref (aM 0), .int p1, .int p2])).length) Slot.unset).toArray = ls at hl ⊢
  have hl : lv_has ls 8 [(0, .ref (aM 0)), (1, .int p1), (2, .int p2)] := hl
  have hP : va_P D vwCl (wcM ci aM zM) s.heap := hP
  generalize hH0 : s.heap = H at hP ⊢
  have hS : va_S A s.heap H [] := by rw [← hH0]; exact va_S.rf
  clear hH0
  generalize ([] : List Loc) = locs at hS ⊢
  have hk_0 := hts (.constantLong RX7 278 (6)) (by decide +kernel)
  have hk_1 := hts (.fieldLink RX7 84 "HedgeWarModel" "fields" "I") (by decide +kernel)
  have hin_RX7 : ∀ w ∈ wsX70, w ∈ wsX7_turns := by decide +kernel
  have hk_3 := hts (.fieldLink RX7 60 "HedgeWarModel" "was" "[I") (by decide +kernel)
  have hk_4 := hts (.fieldLink RX7 23 "HedgeWarModel" "now" "[I") (by decide +kernel)
  have hk_5 := hts (.fieldLink RX7 91 "HedgeWarModel" "edges" "I") (by decide +kernel)
  have hk_6 := hts (.constant RX7 226 (-1000000003)) (by decide +kernel)
  have hk_7 := hts (.constant RX7 96 (-1000000002)) (by decide +kernel)
  have hk_8 := hts (.constant RX7 210 (-1000000001)) (by decide +kernel)
  unfold f_X7_turns at hF
  refine lv_iload_n hx hb dX7_turns_0 rfl (lv_at hl 1 rfl) ?_
  replace hF := bnd hF
  obtain ⟨r_1, hc_2, hF⟩ := hF
  refine cl_Sie (As := [.int p1]) (rest := []) ⟨hx, hb, hml, hown, hts⟩ (va_cwS 1 hts gX7_turns_X7_isEstate rfl rfl rfl (by decide +kernel) ⟨Nat.le_of_ble_eq_true rfl, Nat.le_of_ble_eq_true rfl⟩) (c_X7_isEstate l D ci  H.size p1 _ hc_2) hK hP hD hS hA rfl rfl hl.1 (Nat.le_of_ble_eq_true rfl) dX7_turns_1 (Nat.zero_le _) (Nat.zero_le _) (fun H locs hP hD hS => ?_)
  have hP : va_P D vwCl (wcM ci aM zM) H := hP
  have hD : va_D A (wcM ci aM zM) := hD
  refine lv_if_ne (tgt := 10) hx hb dX7_turns_4 (by decide) (fun c_3 => ?_) (fun c_3 => ?_)
  · replace hF := if_o c_3 hF
    refine lv_iload_n hx hb dX7_turns_10 rfl (lv_at hl 2 rfl) ?_
    refine lv_i2l (v := (Int32.toInt64 p2)) hx hb dX7_turns_11 rfl ?_
    refine lv_lconst (v := 1) hx hb dX7_turns_12 (by decide) ?_
    refine lv_ldc2 (v := 6) hx hb hown hk_0 dX7_turns_13 ?_
    replace hF := bnd hF
    obtain ⟨r_4, hc_5, hF⟩ := hF
    refine cl_Sie (As := [.long (Int32.toInt64 p2), .long 1, .long 6]) (rest := []) ⟨hx, hb, hml, hown, hts⟩ (va_cwS 3 hts gX7_turns_X7_in rfl rfl rfl (by decide +kernel) ⟨Nat.le_of_ble_eq_true rfl, Nat.le_of_ble_eq_true rfl⟩) (c_X7_in l D ci  H.size (Int32.toInt64 p2) (1 : Int64) (6 : Int64) _ hc_5) hK hP hD hS hA rfl rfl hl.1 (Nat.le_of_ble_eq_true rfl) dX7_turns_16 (Nat.zero_le _) (Nat.zero_le _) (fun H locs hP hD hS => ?_)
    have hP : va_P D vwCl (wcM ci aM zM) H := hP
    have hD : va_D A (wcM ci aM zM) := hD
    refine lv_if_ne (tgt := 25) hx hb dX7_turns_19 (by decide) (fun c_6 => ?_) (fun c_6 => ?_)
    · replace hF := if_o c_6 hF
      refine lv_aload_n hx hb dX7_turns_25 rfl (lv_at hl 0 rfl) ?_
      refine va_get (D := D) (ci := 7) (v := .int (zM.1 2)) (C := RX7) (T := TX7) (N := 38) hx hb hts hin_RX7 hown hK hP 0 rfl rfl 2 (by decide) hk_1 (fun _ h9 => h9) rfl dX7_turns_26 ?_
      refine lv_if_ne (tgt := 35) hx hb dX7_turns_29 (by decide) (fun c_7 => ?_) (fun c_7 => ?_)
      · replace hF := if_o c_7 hF
        refine lv_iconst (v := 0) hx hb dX7_turns_35 (by decide) ?_
        refine lv_topi (fun v3_8 ev3_8 => ?_)
        replace hF := nm_i hF ev3_8
        refine lv_istore_n (lv' := [(3, .int v3_8), (0, .ref (aM 0)), (1, .int p1), (2, .int p2)]) hx hb dX7_turns_36 rfl hl (by decide) rfl (fun ls hl => ?_)
        replace hF := bnd hF
        obtain ⟨q_70, hv_23, hF⟩ := hF
        obtain ⟨v3_13, ev3_13⟩ : ∃ y : Int32, y = q_70.1 := ⟨_, rfl⟩
        replace hF := nm_i hF ev3_13
        obtain ⟨zM_14, ezM_14⟩ : ∃ y : MS, y = q_70.2 := ⟨_, rfl⟩
        replace hF := nm_i hF ezM_14
        obtain rfl : q_70 = (v3_13, zM_14) := by rw [ev3_13, ezM_14]
        clear ev3_13
        clear ezM_14
        refine jn (P := fun H locs ls => va_P D vwCl (wcM ci aM zM_14) H ∧ va_D A (wcM ci aM zM_14) ∧ va_S A s.heap H locs ∧ lv_has ls 8 [(0, .ref (aM 0)), (1, .int p1), (2, .int p2), (3, .int v3_13)]) (pcJ := 61) (st := []) ?_ ?_
        · intro H locs ls hJ
          obtain ⟨hP, hD, hS, hl⟩ := hJ
          refine lv_iconst (v := (-1)) hx hb dX7_turns_61 (by decide) ?_
          refine lv_topi (fun v3_24 ev3_24 => ?_)
          replace hF := nm_i hF ev3_24
          refine lv_istore_n (lv' := [(3, .int v3_24), (0, .ref (aM 0)), (1, .int p1), (2, .int p2)]) hx hb dX7_turns_62 rfl hl (by decide) rfl (fun ls hl => ?_)
          refine lv_iconst (v := 0) hx hb dX7_turns_63 (by decide) ?_
          refine lv_topi (fun v4_25 ev4_25 => ?_)
          replace hF := nm_i hF ev4_25
          refine lv_istore (lv' := [(4, .int v4_25), (3, .int v3_24), (0, .ref (aM 0)), (1, .int p1), (2, .int p2)]) hx hb dX7_turns_64 hl (by decide) rfl (fun ls hl => ?_)
          replace hF := bnd hF
          obtain ⟨q_69, hv_68, hF⟩ := hF
          obtain ⟨v3_31, ev3_31⟩ : ∃ y : Int32, y = q_69.1 := ⟨_, rfl⟩
          replace hF := nm_i hF ev3_31
          obtain ⟨v4_32, ev4_32⟩ : ∃ y : Int32, y = q_69.2.1 := ⟨_, rfl⟩
          replace hF := nm_i hF ev4_32
          obtain ⟨zM_33, ezM_33⟩ : ∃ y : MS, y = q_69.2.2 := ⟨_, rfl⟩
          replace hF := nm_i hF ezM_33
          obtain rfl : q_69 = (v3_31, v4_32, zM_33) := by rw [ev3_31, ev4_32, ezM_33]
          clear ev3_31
          clear ev4_32
          clear ezM_33
          refine jn (P := fun H locs ls => va_P D vwCl (wcM ci aM zM_33) H ∧ va_D A (wcM ci aM zM_33) ∧ va_S A s.heap H locs ∧ lv_has ls 8 [(0, .ref (aM 0)), (1, .int p1), (2, .int p2), (3, .int v3_31), (4, .int v4_32)]) (pcJ := 153) (st := []) ?_ ?_
          · intro H locs ls hJ
            obtain ⟨hP, hD, hS, hl⟩ := hJ
            refine lv_iload_n hx hb dX7_turns_153 rfl (lv_at hl 3 rfl) ?_
            obtain rfl := Option.some.inj hF
            exact W.iret (v := v3_31) hx hb hr (fun t ht hW => ⟨⟨_, (), rfl, rfl, by rw [ht]; exact hP, va_K.moved hW.alike hK, hD⟩, hS.F ht⟩) hS.2.2 dX7_turns_154
          · intro J_30
            clear hF
            have hF := hv_68
            refine lpW (σ := Int32 × Int32 × MS) (I := fun n v H locs ls => L_X7_turns_66 p1 p2 n v.1 v.2.1 v.2.2 = some (v3_31, v4_32, zM_33) ∧ va_P D vwCl (wcM ci aM v.2.2) H ∧ va_D A (wcM ci aM v.2.2) ∧ va_S A s.heap H locs ∧ lv_has ls 8 [(0, .ref (aM 0)), (1, .int p1), (2, .int p2), (3, .int v.1), (4, .int v.2.1)]) 3000 (v3_24, v4_25, zM_14) (fun _ _ _ _ h => no_none h.1) ⟨hF, hP, hD, hS, lv_sub hl [2, 3, 4, 1, 0] rfl⟩ ?_
            clear hF hP hD hS hl
            intro n ih_29 vq H locs ls hI
            obtain ⟨v3_26, v4_27, zM_28⟩ := vq
            obtain ⟨hF, hP, hD, hS, hl⟩ := hI
            have hP : va_P D vwCl (wcM ci aM zM_28) H := hP
            have hD : va_D A (wcM ci aM zM_28) := hD
            have hl : lv_has ls 8 [(0, .ref (aM 0)), (1, .int p1), (2, .int p2), (3, .int v3_26), (4, .int v4_27)] := hl
            replace hF : L_X7_turns_66 p1 p2 (n + 1) v3_26 v4_27 zM_28 = some (v3_31, v4_32, zM_33) := hF
            rw [L_X7_turns_66] at hF
            refine lv_iload hx hb dX7_turns_66 (lv_at hl 4 rfl) ?_
            refine lv_aload_n hx hb dX7_turns_68 rfl (lv_at hl 0 rfl) ?_
            refine va_get (D := D) (ci := 7) (v := .int (zM_28.1 3)) (C := RX7) (T := TX7) (N := 38) hx hb hts hin_RX7 hown hK hP 0 rfl rfl 3 (by decide) hk_5 (fun _ h9 => h9) rfl dX7_turns_69 ?_
            refine lv_icmp_gt (tgt := 153) hx hb dX7_turns_72 (by decide) (fun c_34 => ?_) (fun c_34 => ?_)
            · replace hF := if_i c_34 hF
              obtain ⟨g_35, g_36, g_37⟩ : v3_26 = v3_31 ∧ v4_27 = v4_32 ∧ zM_28 = zM_33 := by have h9 := Option.some.inj hF; simpa only [Prod.mk.injEq] using h9
              subst g_35
              subst g_36
              subst g_37
              exact J_30 H locs ls ⟨hP, hD, hS, lv_sub hl [0, 1, 2, 3, 4] rfl⟩
            · replace hF := if_o c_34 hF
              refine lv_iconst (v := (-1)) hx hb dX7_turns_75 (by decide) ?_
              refine lv_topi (fun v5_38 ev5_38 => ?_)
              replace hF := nm_i hF ev5_38
              refine lv_istore (lv' := [(5, .int v5_38), (0, .ref (aM 0)), (1, .int p1), (2, .int p2), (3, .int v3_26), (4, .int v4_27)]) hx hb dX7_turns_76 hl (by decide) rfl (fun ls hl => ?_)
              refine lv_iconst (v := 0) hx hb dX7_turns_78 (by decide) ?_
              refine lv_topi (fun v6_39 ev6_39 => ?_)
              replace hF := nm_i hF ev6_39
              refine lv_istore (lv' := [(6, .int v6_39), (5, .int v5_38), (0, .ref (aM 0)), (1, .int p1), (2, .int p2), (3, .int v3_26), (4, .int v4_27)]) hx hb dX7_turns_79 hl (by decide) rfl (fun ls hl => ?_)
              replace hF := bnd hF
              obtain ⟨q_67, hv_63, hF⟩ := hF
              obtain ⟨v5_45, ev5_45⟩ : ∃ y : Int32, y = q_67.1 := ⟨_, rfl⟩
              replace hF := nm_i hF ev5_45
              obtain ⟨v6_46, ev6_46⟩ : ∃ y : Int32, y = q_67.2.1 := ⟨_, rfl⟩
              replace hF := nm_i hF ev6_46
              obtain ⟨zM_47, ezM_47⟩ : ∃ y : MS, y = q_67.2.2 := ⟨_, rfl⟩
              replace hF := nm_i hF ezM_47
              obtain rfl : q_67 = (v5_45, v6_46, zM_47) := by rw [ev5_45, ev6_46, ezM_47]
              clear ev5_45
              clear ev6_46
              clear ezM_47
              refine jn (P := fun H locs ls => va_P D vwCl (wcM ci aM zM_47) H ∧ va_D A (wcM ci aM zM_47) ∧ va_S A s.heap H locs ∧ lv_has ls 8 [(0, .ref (aM 0)), (1, .int p1), (2, .int p2), (3, .int v3_26), (4, .int v4_27), (5, .int v5_45), (6, .int v6_46)]) (pcJ := 134) (st := []) ?_ ?_
              · intro H locs ls hJ
                obtain ⟨hP, hD, hS, hl⟩ := hJ
                refine lv_iload hx hb dX7_turns_134 (lv_at hl 5 rfl) ?_
                refine lv_iload_n hx hb dX7_turns_136 rfl (lv_at hl 3 rfl) ?_
                refine lv_icmp_le (tgt := 145) hx hb dX7_turns_137 (by decide) (fun c_64 => ?_) (fun c_64 => ?_)
                · replace hF := if_i c_64 hF
                  refine lv_iload_n hx hb dX7_turns_145 rfl (lv_at hl 3 rfl) ?_
                  refine lv_istore_n (lv' := [(3, .int v3_26), (0, .ref (aM 0)), (1, .int p1), (2, .int p2), (4, .int v4_27), (5, .int v5_45), (6, .int v6_46)]) hx hb dX7_turns_146 rfl hl (by decide) rfl (fun ls hl => ?_)
                  obtain ⟨v4_65, ev4_65⟩ : ∃ y : Int32, y = v4_27 + 1 := ⟨_, rfl⟩
                  replace hF := nm_i hF ev4_65
                  refine lv_iinc (v := v4_65) (lv' := [(4, .int v4_65), (3, .int v3_26), (0, .ref (aM 0)), (1, .int p1), (2, .int p2), (5, .int v5_45), (6, .int v6_46)]) hx hb dX7_turns_147 hl (k := 4) rfl (by rw [ev4_65]; rfl) (by decide) rfl (fun ls hl => ?_)
                  refine lv_goto (tgt := 66) hx hb dX7_turns_150 (by decide) ?_
                  exact ih_29 (v3_26, v4_65, zM_47) H locs ls ⟨hF, hP, hD, hS, lv_sub hl [2, 3, 4, 1, 0] rfl⟩
                · replace hF := if_o c_64 hF
                  refine lv_iload hx hb dX7_turns_140 (lv_at hl 5 rfl) ?_
                  refine lv_goto (tgt := 146) hx hb dX7_turns_142 (by decide) ?_
                  refine lv_istore_n (lv' := [(3, .int v5_45), (0, .ref (aM 0)), (1, .int p1), (2, .int p2), (4, .int v4_27), (5, .int v5_45), (6, .int v6_46)]) hx hb dX7_turns_146 rfl hl (by decide) rfl (fun ls hl => ?_)
                  obtain ⟨v4_66, ev4_66⟩ : ∃ y : Int32, y = v4_27 + 1 := ⟨_, rfl⟩
                  replace hF := nm_i hF ev4_66
                  refine lv_iinc (v := v4_66) (lv' := [(4, .int v4_66), (3, .int v5_45), (0, .ref (aM 0)), (1, .int p1), (2, .int p2), (5, .int v5_45), (6, .int v6_46)]) hx hb dX7_turns_147 hl (k := 4) rfl (by rw [ev4_66]; rfl) (by decide) rfl (fun ls hl => ?_)
                  refine lv_goto (tgt := 66) hx hb dX7_turns_150 (by decide) ?_
                  exact ih_29 (v5_45, v4_66, zM_47) H locs ls ⟨hF, hP, hD, hS, lv_sub hl [2, 3, 4, 1, 0] rfl⟩
              · intro J_44
                clear hF
                have hF := hv_63
                refine lpW (σ := Int32 × Int32 × MS) (I := fun n v H locs ls => L_X7_turns_81 p1 p2 v3_26 v4_27 n v.1 v.2.1 v.2.2 = some (v5_45, v6_46, zM_47) ∧ va_P D vwCl (wcM ci aM v.2.2) H ∧ va_D A (wcM ci aM v.2.2) ∧ va_S A s.heap H locs ∧ lv_has ls 8 [(0, .ref (aM 0)), (1, .int p1), (2, .int p2), (3, .int v3_26), (4, .int v4_27), (5, .int v.1), (6, .int v.2.1)]) 3000 (v5_38, v6_39, zM_28) (fun _ _ _ _ h => no_none h.1) ⟨hF, hP, hD, hS, lv_sub hl [2, 3, 4, 5, 6, 1, 0] rfl⟩ ?_
                clear hF hP hD hS hl
                intro n ih_43 vq H locs ls hI
                obtain ⟨v5_40, v6_41, zM_42⟩ := vq
                obtain ⟨hF, hP, hD, hS, hl⟩ := hI
                have hP : va_P D vwCl (wcM ci aM zM_42) H := hP
                have hD : va_D A (wcM ci aM zM_42) := hD
                have hl : lv_has ls 8 [(0, .ref (aM 0)), (1, .int p1), (2, .int p2), (3, .int v3_26), (4, .int v4_27), (5, .int v5_40), (6, .int v6_41)] := hl
                replace hF : L_X7_turns_81 p1 p2 v3_26 v4_27 (n + 1) v5_40 v6_41 zM_42 = some (v5_45, v6_46, zM_47) := hF
                rw [L_X7_turns_81] at hF
                refine lv_iload hx hb dX7_turns_81 (lv_at hl 6 rfl) ?_
                refine lv_aload_n hx hb dX7_turns_83 rfl (lv_at hl 0 rfl) ?_
                refine va_get (D := D) (ci := 7) (v := .int (zM_42.1 3)) (C := RX7) (T := TX7) (N := 38) hx hb hts hin_RX7 hown hK hP 0 rfl rfl 3 (by decide) hk_5 (fun _ h9 => h9) rfl dX7_turns_84 ?_
                refine lv_icmp_gt (tgt := 134) hx hb dX7_turns_87 (by decide) (fun c_48 => ?_) (fun c_48 => ?_)
                · replace hF := if_i c_48 hF
                  obtain ⟨g_49, g_50, g_51⟩ : v5_40 = v5_45 ∧ v6_41 = v6_46 ∧ zM_42 = zM_47 := by have h9 := Option.some.inj hF; simpa only [Prod.mk.injEq] using h9
                  subst g_49
                  subst g_50
                  subst g_51
                  exact J_44 H locs ls ⟨hP, hD, hS, lv_sub hl [0, 1, 2, 3, 4, 5, 6] rfl⟩
                · replace hF := if_o c_48 hF
                  refine lv_aload_n hx hb dX7_turns_90 rfl (lv_at hl 0 rfl) ?_
                  refine lv_iload_n hx hb dX7_turns_91 rfl (lv_at hl 1 rfl) ?_
                  refine lv_iload hx hb dX7_turns_92 (lv_at hl 4 rfl) ?_
                  refine lv_iload hx hb dX7_turns_94 (lv_at hl 6 rfl) ?_
                  refine lv_iload_n hx hb dX7_turns_96 rfl (lv_at hl 2 rfl) ?_
                  replace hF := bnd hF
                  obtain ⟨q_55, hc_54, hF⟩ := hF
                  obtain ⟨r_52, er_52⟩ : ∃ y : Int32, y = q_55.1 := ⟨_, rfl⟩
                  replace hF := nm_i hF er_52
                  obtain ⟨zM_53, ezM_53⟩ : ∃ y : MS, y = q_55.2 := ⟨_, rfl⟩
                  replace hF := nm_i hF ezM_53
                  obtain rfl : q_55 = (r_52, zM_53) := by rw [er_52, ezM_53]
                  clear er_52
                  clear ezM_53
                  refine cl_Vi0 (As := [.int p1, .int v4_27, .int v6_41, .int p2]) (rest := []) ⟨hx, hb, hml, hown, hts⟩ (cwV 4 hts gX7_turns_X7_fieldsBy rfl rfl rfl (by decide +kernel) ⟨Nat.le_of_ble_eq_true rfl, Nat.le_of_ble_eq_true rfl⟩) (c_X7_fieldsBy l D ci aM H.size zM_42 p1 v4_27 v6_41 p2 _ hc_54) hK hP hD hS hA 0 rfl rfl rfl rfl hl.1 (Nat.le_of_ble_eq_true rfl) dX7_turns_97 (Nat.zero_le _) (Nat.zero_le _) (fun H locs hP hD hS => ?_)
                  have hP : va_P D vwCl (wcM ci aM zM_53) H := hP
                  have hD : va_D A (wcM ci aM zM_53) := hD
                  refine lv_istore (lv' := [(7, .int r_52), (0, .ref (aM 0)), (1, .int p1), (2, .int p2), (3, .int v3_26), (4, .int v4_27), (5, .int v5_40), (6, .int v6_41)]) hx hb dX7_turns_100 hl (by decide) rfl (fun ls hl => ?_)
                  refine lv_iload hx hb dX7_turns_102 (lv_at hl 0 rfl) ?_
                  refine lv_if_lt (tgt := 124) hx hb dX7_turns_104 (by decide) (fun c_56 => ?_) (fun c_56 => ?_)
                  · replace hF := if_i c_56 hF
                    refine lv_iload hx hb dX7_turns_124 (lv_at hl 6 rfl) ?_
                    refine lv_istore (lv' := [(5, .int v5_40), (7, .int r_52), (0, .ref (aM 0)), (1, .int p1), (2, .int p2), (3, .int v3_26), (4, .int v4_27), (6, .int v6_41)]) hx hb dX7_turns_126 hl (by decide) rfl (fun ls hl => ?_)
                    obtain ⟨v6_57, ev6_57⟩ : ∃ y : Int32, y = v6_41 + 1 := ⟨_, rfl⟩
                    replace hF := nm_i hF ev6_57
                    refine lv_iinc (v := v6_57) (lv' := [(6, .int v6_57), (5, .int v5_40), (7, .int r_52), (0, .ref (aM 0)), (1, .int p1), (2, .int p2), (3, .int v3_26), (4, .int v4_27)]) hx hb dX7_turns_128 hl (k := 7) rfl (by rw [ev6_57]; rfl) (by decide) rfl (fun ls hl => ?_)
                    refine lv_goto (tgt := 81) hx hb dX7_turns_131 (by decide) ?_
                    exact ih_43 (v5_40, v6_57, zM_53) H locs ls ⟨hF, hP, hD, hS, lv_sub hl [3, 4, 5, 6, 7, 1, 0] rfl⟩
                  · replace hF := if_o c_56 hF
                    refine lv_iload hx hb dX7_turns_107 (lv_at hl 6 rfl) ?_
                    refine lv_if_lt (tgt := 119) hx hb dX7_turns_109 (by decide) (fun c_58 => ?_) (fun c_58 => ?_)
                    · replace hF := if_i c_58 hF
                      refine lv_iload hx hb dX7_turns_119 (lv_at hl 0 rfl) ?_
                      refine lv_goto (tgt := 126) hx hb dX7_turns_121 (by decide) ?_
                      refine lv_istore (lv' := [(5, .int r_52), (7, .int r_52), (0, .ref (aM 0)), (1, .int p1), (2, .int p2), (3, .int v3_26), (4, .int v4_27), (6, .int v6_41)]) hx hb dX7_turns_126 hl (by decide) rfl (fun ls hl => ?_)
                      obtain ⟨v6_59, ev6_59⟩ : ∃ y : Int32, y = v6_41 + 1 := ⟨_, rfl⟩
                      replace hF := nm_i hF ev6_59
                      refine lv_iinc (v := v6_59) (lv' := [(6, .int v6_59), (5, .int r_52), (7, .int r_52), (0, .ref (aM 0)), (1, .int p1), (2, .int p2), (3, .int v3_26), (4, .int v4_27)]) hx hb dX7_turns_128 hl (k := 7) rfl (by rw [ev6_59]; rfl) (by decide) rfl (fun ls hl => ?_)
                      refine lv_goto (tgt := 81) hx hb dX7_turns_131 (by decide) ?_
                      exact ih_43 (r_52, v6_59, zM_53) H locs ls ⟨hF, hP, hD, hS, lv_sub hl [3, 4, 5, 6, 7, 1, 0] rfl⟩
                    · replace hF := if_o c_58 hF
                      refine lv_iload hx hb dX7_turns_112 (lv_at hl 0 rfl) ?_
                      refine lv_iload hx hb dX7_turns_114 (lv_at hl 6 rfl) ?_
                      refine lv_icmp_ge (tgt := 124) hx hb dX7_turns_116 (by decide) (fun c_60 => ?_) (fun c_60 => ?_)
                      · replace hF := if_i c_60 hF
                        refine lv_iload hx hb dX7_turns_124 (lv_at hl 6 rfl) ?_
                        refine lv_istore (lv' := [(5, .int v5_40), (7, .int r_52), (0, .ref (aM 0)), (1, .int p1), (2, .int p2), (3, .int v3_26), (4, .int v4_27), (6, .int v6_41)]) hx hb dX7_turns_126 hl (by decide) rfl (fun ls hl => ?_)
                        obtain ⟨v6_61, ev6_61⟩ : ∃ y : Int32, y = v6_41 + 1 := ⟨_, rfl⟩
                        replace hF := nm_i hF ev6_61
                        refine lv_iinc (v := v6_61) (lv' := [(6, .int v6_61), (5, .int v5_40), (7, .int r_52), (0, .ref (aM 0)), (1, .int p1), (2, .int p2), (3, .int v3_26), (4, .int v4_27)]) hx hb dX7_turns_128 hl (k := 7) rfl (by rw [ev6_61]; rfl) (by decide) rfl (fun ls hl => ?_)
                        refine lv_goto (tgt := 81) hx hb dX7_turns_131 (by decide) ?_
                        exact ih_43 (v5_40, v6_61, zM_53) H locs ls ⟨hF, hP, hD, hS, lv_sub hl [3, 4, 5, 6, 7, 1, 0] rfl⟩
                      · replace hF := if_o c_60 hF
                        refine lv_iload hx hb dX7_turns_119 (lv_at hl 0 rfl) ?_
                        refine lv_goto (tgt := 126) hx hb dX7_turns_121 (by decide) ?_
                        refine lv_istore (lv' := [(5, .int r_52), (7, .int r_52), (0, .ref (aM 0)), (1, .int p1), (2, .int p2), (3, .int v3_26), (4, .int v4_27), (6, .int v6_41)]) hx hb dX7_turns_126 hl (by decide) rfl (fun ls hl => ?_)
                        obtain ⟨v6_62, ev6_62⟩ : ∃ y : Int32, y = v6_41 + 1 := ⟨_, rfl⟩
                        replace hF := nm_i hF ev6_62
                        refine lv_iinc (v := v6_62) (lv' := [(6, .int v6_62), (5, .int r_52), (7, .int r_52), (0, .ref (aM 0)), (1, .int p1), (2, .int p2), (3, .int v3_26), (4, .int v4_27)]) hx hb dX7_turns_128 hl (k := 7) rfl (by rw [ev6_62]; rfl) (by decide) rfl (fun ls hl => ?_)
                        refine lv_goto (tgt := 81) hx hb dX7_turns_131 (by decide) ?_
                        exact ih_43 (r_52, v6_62, zM_53) H locs ls ⟨hF, hP, hD, hS, lv_sub hl [3, 4, 5, 6, 7, 1, 0] rfl⟩
        · intro J_12
          clear hF
          have hF := hv_23
          refine lpW (σ := Int32 × MS) (I := fun n v H locs ls => L_X7_turns_37 p1 p2 n v.1 v.2 = some (v3_13, zM_14) ∧ va_P D vwCl (wcM ci aM v.2) H ∧ va_D A (wcM ci aM v.2) ∧ va_S A s.heap H locs ∧ lv_has ls 8 [(0, .ref (aM 0)), (1, .int p1), (2, .int p2), (3, .int v.1)]) 3000 (v3_8, zM) (fun _ _ _ _ h => no_none h.1) ⟨hF, hP, hD, hS, lv_sub hl [1, 2, 3, 0] rfl⟩ ?_
          clear hF hP hD hS hl
          intro n ih_11 vq H locs ls hI
          obtain ⟨v3_9, zM_10⟩ := vq
          obtain ⟨hF, hP, hD, hS, hl⟩ := hI
          have hP : va_P D vwCl (wcM ci aM zM_10) H := hP
          have hD : va_D A (wcM ci aM zM_10) := hD
          have hl : lv_has ls 8 [(0, .ref (aM 0)), (1, .int p1), (2, .int p2), (3, .int v3_9)] := hl
          replace hF : L_X7_turns_37 p1 p2 (n + 1) v3_9 zM_10 = some (v3_13, zM_14) := hF
          rw [L_X7_turns_37] at hF
          refine lv_iload_n hx hb dX7_turns_37 rfl (lv_at hl 3 rfl) ?_
          refine lv_bipush (v := 122) hx hb dX7_turns_38 (by decide) ?_
          refine lv_icmp_ge (tgt := 61) hx hb dX7_turns_40 (by decide) (fun c_15 => ?_) (fun c_15 => ?_)
          · replace hF := if_i c_15 hF
            obtain ⟨g_16, g_17⟩ : v3_9 = v3_13 ∧ zM_10 = zM_14 := by have h9 := Option.some.inj hF; simpa only [Prod.mk.injEq] using h9
            subst g_16
            subst g_17
            exact J_12 H locs ls ⟨hP, hD, hS, lv_sub hl [0, 1, 2, 3] rfl⟩
          · replace hF := if_o c_15 hF
            refine lv_aload_n hx hb dX7_turns_43 rfl (lv_at hl 0 rfl) ?_
            refine va_get (D := D) (ci := 7) (v := .ref (aM 28)) (C := RX7) (T := TX7) (N := 38) hx hb hts hin_RX7 hown hK hP 0 rfl rfl 28 (by decide) hk_3 (fun _ h9 => h9) rfl dX7_turns_44 ?_
            refine lv_iload_n hx hb dX7_turns_47 rfl (lv_at hl 3 rfl) ?_
            refine lv_aload_n hx hb dX7_turns_48 rfl (lv_at hl 0 rfl) ?_
            refine va_get (D := D) (ci := 7) (v := .ref (aM 8)) (C := RX7) (T := TX7) (N := 38) hx hb hts hin_RX7 hown hK hP 0 rfl rfl 8 (by decide) hk_4 (fun _ h9 => h9) rfl dX7_turns_49 ?_
            refine lv_iload_n hx hb dX7_turns_52 rfl (lv_at hl 3 rfl) ?_
            replace hF := ald_i hF
            obtain ⟨hin_18, hF⟩ := hF
            refine va_iald hx hb hK hP 5 0 rfl rfl hin_18 dX7_turns_53 ?_
            refine lv_topi (fun x_19 ex_19 => ?_)
            replace hF := nm_i hF ex_19
            replace hF := ast_i hF
            obtain ⟨hin_20, hF⟩ := hF
            refine va_iast (x := x_19) hx hb hK hP hD hS 16 0 rfl rfl hin_20 dX7_turns_54 (fun H locs hP hD hS => ?_)
            obtain ⟨zM_21, ezM_21⟩ : ∃ y : MS, y = (zM_10.1, va_up zM_10.2 28 (upd (zM_10.2 28) (Int32.toNatClampNeg v3_9) x_19)) := ⟨_, rfl⟩
            replace hF := nm_i hF ezM_21
            have hP : va_P D vwCl (wcM ci aM zM_21) H := by rw [ezM_21]; exact hP
            have hD : va_D A (wcM ci aM zM_21) := by rw [ezM_21]; exact hD
            obtain ⟨v3_22, ev3_22⟩ : ∃ y : Int32, y = v3_9 + 1 := ⟨_, rfl⟩
            replace hF := nm_i hF ev3_22
            refine lv_iinc (v := v3_22) (lv' := [(3, .int v3_22), (0, .ref (aM 0)), (1, .int p1), (2, .int p2)]) hx hb dX7_turns_55 hl (k := 3) rfl (by rw [ev3_22]; rfl) (by decide) rfl (fun ls hl => ?_)
            refine lv_goto (tgt := 37) hx hb dX7_turns_58 (by decide) ?_
            exact ih_11 (v3_22, zM_21) H locs ls ⟨hF, hP, hD, hS, lv_sub hl [1, 2, 3, 0] rfl⟩
      · replace hF := if_i c_7 hF
        refine lv_ldc (v := (-1000000003)) hx hb hown hk_6 dX7_turns_32 ?_
        obtain rfl := Option.some.inj hF
        exact W.iret (v := (-1000000003)) hx hb hr (fun t ht hW => ⟨⟨_, (), rfl, rfl, by rw [ht]; exact hP, va_K.moved hW.alike hK, hD⟩, hS.F ht⟩) hS.2.2 dX7_turns_34
    · replace hF := if_i c_6 hF
      refine lv_ldc (v := (-1000000002)) hx hb hown hk_7 dX7_turns_22 ?_
      obtain rfl := Option.some.inj hF
      exact W.iret (v := (-1000000002)) hx hb hr (fun t ht hW => ⟨⟨_, (), rfl, rfl, by rw [ht]; exact hP, va_K.moved hW.alike hK, hD⟩, hS.F ht⟩) hS.2.2 dX7_turns_24
  · replace hF := if_i c_3 hF
    refine lv_ldc (v := (-1000000001)) hx hb hown hk_8 dX7_turns_7 ?_
    obtain rfl := Option.some.inj hF
    exact W.iret (v := (-1000000001)) hx hb hr (fun t ht hW => ⟨⟨_, (), rfl, rfl, by rw [ht]; exact hP, va_K.moved hW.alike hK, hD⟩, hS.F ht⟩) hS.2.2 dX7_turns_9
noncomputable def L_X7_birds_34 (zM : MS) (p1 : Int32) (p2 : Int32) : Nat → Int64 → Int32 → Option (Int64 × Int32)
  | 0, _, _ => none
  | n + 1, v3_9, v5_10 => if p1 ≤ v5_10 then (some (v3_9, v5_10)) else (dvl (100 : Int64) <| nm ((v3_9 * (Int32.toInt64 (100 - p2))) / 100) fun v3_19 => nm (v5_10 + 1) fun v5_20 => L_X7_birds_34 zM p1 p2 n v3_19 v5_20)
noncomputable def f_X7_birds (zM : MS) (p1 : Int32) (p2 : Int32) : Option (Int32) := (f_X7_in (Int32.toInt64 p1) (0 : Int64) (60 : Int64)).bind fun r_1 => if r_1 = 0 then (some (-1000000002 : Int32)) else ((f_X7_in (Int32.toInt64 p2) (0 : Int64) (100 : Int64)).bind fun r_4 => if r_4 = 0 then (some (-1000000002 : Int32)) else (nm (1000000000 : Int64) fun v3_7 => nm (0 : Int32) fun v5_8 => (L_X7_birds_34 zM p1 p2 3000 v3_7 v5_8).bind fun q_22 => nm q_22.1 fun v3_13 => nm q_22.2 fun v5_14 => some (Int64.toInt32 v3_13)))
set_option maxHeartbeats 4000000 in
set_option maxRecDepth 100000 in
theorem c_X7_birds (l : Launch) (D : va_G) (ci : Nat → ClassId) (aM : Nat → Nat) (sz : Nat) (zM : MS) (p1 : Int32) (p2 : Int32) (res : Int32) (hF : f_X7_birds zM p1 p2 = some res) : CtI l yX7_birds wsX7_birds { frames := 1, cells := 0, slots := 0, locals := 25 } [.ref (aM 0), .int p1, .int p2] D ci (wcM ci aM zM) sz res (wcM ci aM zM) := by
  refine Met.ofW (cc := cX7_birds) (maxL := 6) (ret := (some .int)) (by decide) rfl ?_
  intro p e s m args below meth c s₁ B hml hv
  obtain ⟨rfl, hsz, hP, hK, hD0⟩ := hv
  have hx := B.exec
  have hb := B.bytes
  have hr := B.returns
  have hts := atoms_spec (ws := wsX7_birds) B.pre
  have hown : s.vm.findClass RX7 = some m.cls := findClass_of_methodNamed B.named
  have hlocks := B.notSynchronized
  subst hsz
  have hD := hD0.self (sz := s.heap.size)
  generalize hAe : va_A (wcM ci aM zM) s.heap.size = A at hD ⊢
  have hA : ∀ q : Nat, s.heap.size ≤ q → A q := fun q h => by rw [← hAe]; exact Or.inr h
  clear hD0 hAe
  have hl := lv_entry ([.ref (aM 0), .int p1, .int p2]) (n := 6) (Nat.le_of_ble_eq_true rfl)
  rw [lg_entry_eq]
  generalize (lg_sl ([.ref (aM 0), .int p1, .int p2]) ++ List.replicate (6 - (lg_sl ([.ref (aM 0), .int p1, .int p2])).length) Slot.unset).toArray = ls at hl ⊢
  have hl : lv_has ls 6 [(0, .ref (aM 0)), (1, .int p1), (2, .int p2)] := hl
  have hP : va_P D vwCl (wcM ci aM zM) s.heap := hP
  generalize hH0 : s.heap = H at hP ⊢
  have hS : va_S A s.heap H [] := by rw [← hH0]; exact va_S.rf
  clear hH0
  generalize ([] : List Loc) = locs at hS ⊢
  have hk_0 := hts (.constantLong RX7 284 (60)) (by decide +kernel)
  have hk_1 := hts (.constant RX7 96 (-1000000002)) (by decide +kernel)
  have hk_2 := hts (.constantLong RX7 286 (100)) (by decide +kernel)
  have hk_3 := hts (.constantLong RX7 288 (1000000000)) (by decide +kernel)
  unfold f_X7_birds at hF
  refine lv_iload_n hx hb dX7_birds_0 rfl (lv_at hl 1 rfl) ?_
  refine lv_i2l (v := (Int32.toInt64 p1)) hx hb dX7_birds_1 rfl ?_
  refine lv_lconst (v := 0) hx hb dX7_birds_2 (by decide) ?_
  refine lv_ldc2 (v := 60) hx hb hown hk_0 dX7_birds_3 ?_
  replace hF := bnd hF
  obtain ⟨r_1, hc_2, hF⟩ := hF
  refine cl_Sie (As := [.long (Int32.toInt64 p1), .long 0, .long 60]) (rest := []) ⟨hx, hb, hml, hown, hts⟩ (va_cwS 3 hts gX7_birds_X7_in rfl rfl rfl (by decide +kernel) ⟨Nat.le_of_ble_eq_true rfl, Nat.le_of_ble_eq_true rfl⟩) (c_X7_in l D ci  H.size (Int32.toInt64 p1) (0 : Int64) (60 : Int64) _ hc_2) hK hP hD hS hA rfl rfl hl.1 (Nat.le_of_ble_eq_true rfl) dX7_birds_6 (Nat.zero_le _) (Nat.zero_le _) (fun H locs hP hD hS => ?_)
  have hP : va_P D vwCl (wcM ci aM zM) H := hP
  have hD : va_D A (wcM ci aM zM) := hD
  refine lv_if_eq (tgt := 24) hx hb dX7_birds_9 (by decide) (fun c_3 => ?_) (fun c_3 => ?_)
  · replace hF := if_i c_3 hF
    refine lv_ldc (v := (-1000000002)) hx hb hown hk_1 dX7_birds_24 ?_
    obtain rfl := Option.some.inj hF
    exact W.iret (v := (-1000000002)) hx hb hr (fun t ht hW => ⟨⟨_, (), rfl, rfl, by rw [ht]; exact hP, va_K.moved hW.alike hK, hD⟩, hS.F ht⟩) hS.2.2 dX7_birds_26
  · replace hF := if_o c_3 hF
    refine lv_iload_n hx hb dX7_birds_12 rfl (lv_at hl 2 rfl) ?_
    refine lv_i2l (v := (Int32.toInt64 p2)) hx hb dX7_birds_13 rfl ?_
    refine lv_lconst (v := 0) hx hb dX7_birds_14 (by decide) ?_
    refine lv_ldc2 (v := 100) hx hb hown hk_2 dX7_birds_15 ?_
    replace hF := bnd hF
    obtain ⟨r_4, hc_5, hF⟩ := hF
    refine cl_Sie (As := [.long (Int32.toInt64 p2), .long 0, .long 100]) (rest := []) ⟨hx, hb, hml, hown, hts⟩ (va_cwS 3 hts gX7_birds_X7_in rfl rfl rfl (by decide +kernel) ⟨Nat.le_of_ble_eq_true rfl, Nat.le_of_ble_eq_true rfl⟩) (c_X7_in l D ci  H.size (Int32.toInt64 p2) (0 : Int64) (100 : Int64) _ hc_5) hK hP hD hS hA rfl rfl hl.1 (Nat.le_of_ble_eq_true rfl) dX7_birds_18 (Nat.zero_le _) (Nat.zero_le _) (fun H locs hP hD hS => ?_)
    have hP : va_P D vwCl (wcM ci aM zM) H := hP
    have hD : va_D A (wcM ci aM zM) := hD
    refine lv_if_ne (tgt := 27) hx hb dX7_birds_21 (by decide) (fun c_6 => ?_) (fun c_6 => ?_)
    · replace hF := if_o c_6 hF
      refine lv_ldc2 (v := 1000000000) hx hb hown hk_3 dX7_birds_27 ?_
      refine lv_topl (fun v3_7 ev3_7 => ?_)
      replace hF := nm_i hF ev3_7
      refine lv_lstore_n (lv' := [(3, .long v3_7), (0, .ref (aM 0)), (1, .int p1), (2, .int p2)]) hx hb dX7_birds_30 rfl hl (by decide) rfl (fun ls hl => ?_)
      refine lv_iconst (v := 0) hx hb dX7_birds_31 (by decide) ?_
      refine lv_topi (fun v5_8 ev5_8 => ?_)
      replace hF := nm_i hF ev5_8
      refine lv_istore (lv' := [(5, .int v5_8), (3, .long v3_7), (0, .ref (aM 0)), (1, .int p1), (2, .int p2)]) hx hb dX7_birds_32 hl (by decide) rfl (fun ls hl => ?_)
      replace hF := bnd hF
      obtain ⟨q_22, hv_21, hF⟩ := hF
      obtain ⟨v3_13, ev3_13⟩ : ∃ y : Int64, y = q_22.1 := ⟨_, rfl⟩
      replace hF := nm_i hF ev3_13
      obtain ⟨v5_14, ev5_14⟩ : ∃ y : Int32, y = q_22.2 := ⟨_, rfl⟩
      replace hF := nm_i hF ev5_14
      obtain rfl : q_22 = (v3_13, v5_14) := by rw [ev3_13, ev5_14]
      clear ev3_13
      clear ev5_14
      refine jn (P := fun H locs ls => va_P D vwCl (wcM ci aM zM) H ∧ va_D A (wcM ci aM zM) ∧ va_S A s.heap H locs ∧ lv_has ls 6 [(0, .ref (aM 0)), (1, .int p1), (2, .int p2), (3, .long v3_13), (5, .int v5_14)]) (pcJ := 58) (st := []) ?_ ?_
      · intro H locs ls hJ
        obtain ⟨hP, hD, hS, hl⟩ := hJ
        refine lv_lload_n hx hb dX7_birds_58 rfl (lv_at hl 3 rfl) ?_
        refine lv_l2i (v := (Int64.toInt32 v3_13)) hx hb dX7_birds_59 rfl ?_
        obtain rfl := Option.some.inj hF
        exact W.iret (v := (Int64.toInt32 v3_13)) hx hb hr (fun t ht hW => ⟨⟨_, (), rfl, rfl, by rw [ht]; exact hP, va_K.moved hW.alike hK, hD⟩, hS.F ht⟩) hS.2.2 dX7_birds_60
      · intro J_12
        clear hF
        have hF := hv_21
        refine lpW (σ := Int64 × Int32) (I := fun n v H locs ls => L_X7_birds_34 zM p1 p2 n v.1 v.2 = some (v3_13, v5_14) ∧ va_P D vwCl (wcM ci aM zM) H ∧ va_D A (wcM ci aM zM) ∧ va_S A s.heap H locs ∧ lv_has ls 6 [(0, .ref (aM 0)), (1, .int p1), (2, .int p2), (3, .long v.1), (5, .int v.2)]) 3000 (v3_7, v5_8) (fun _ _ _ _ h => no_none h.1) ⟨hF, hP, hD, hS, lv_sub hl [2, 3, 4, 1, 0] rfl⟩ ?_
        clear hF hP hD hS hl
        intro n ih_11 vq H locs ls hI
        obtain ⟨v3_9, v5_10⟩ := vq
        obtain ⟨hF, hP, hD, hS, hl⟩ := hI
        have hP : va_P D vwCl (wcM ci aM zM) H := hP
        have hD : va_D A (wcM ci aM zM) := hD
        have hl : lv_has ls 6 [(0, .ref (aM 0)), (1, .int p1), (2, .int p2), (3, .long v3_9), (5, .int v5_10)] := hl
        replace hF : L_X7_birds_34 zM p1 p2 (n + 1) v3_9 v5_10 = some (v3_13, v5_14) := hF
        rw [L_X7_birds_34] at hF
        refine lv_iload hx hb dX7_birds_34 (lv_at hl 4 rfl) ?_
        refine lv_iload_n hx hb dX7_birds_36 rfl (lv_at hl 1 rfl) ?_
        refine lv_icmp_ge (tgt := 58) hx hb dX7_birds_37 (by decide) (fun c_15 => ?_) (fun c_15 => ?_)
        · replace hF := if_i c_15 hF
          obtain ⟨g_16, g_17⟩ : v3_9 = v3_13 ∧ v5_10 = v5_14 := by have h9 := Option.some.inj hF; simpa only [Prod.mk.injEq] using h9
          subst g_16
          subst g_17
          exact J_12 H locs ls ⟨hP, hD, hS, lv_sub hl [0, 1, 2, 3, 4] rfl⟩
        · replace hF := if_o c_15 hF
          refine lv_lload_n hx hb dX7_birds_40 rfl (lv_at hl 3 rfl) ?_
          refine lv_bipush (v := 100) hx hb dX7_birds_41 (by decide) ?_
          refine lv_iload_n hx hb dX7_birds_43 rfl (lv_at hl 2 rfl) ?_
          refine lv_isub hx hb dX7_birds_44 ?_
          refine lv_i2l (v := (Int32.toInt64 (100 - p2))) hx hb dX7_birds_45 rfl ?_
          refine lv_lmul hx hb dX7_birds_46 ?_
          refine lv_ldc2 (v := 100) hx hb hown hk_2 dX7_birds_47 ?_
          replace hF := dvl_i hF
          obtain ⟨hne_18, hF⟩ := hF
          refine lv_ldiv hx hb dX7_birds_50 hne_18 ?_
          refine lv_topl (fun v3_19 ev3_19 => ?_)
          replace hF := nm_i hF ev3_19
          refine lv_lstore_n (lv' := [(3, .long v3_19), (0, .ref (aM 0)), (1, .int p1), (2, .int p2), (5, .int v5_10)]) hx hb dX7_birds_51 rfl hl (by decide) rfl (fun ls hl => ?_)
          obtain ⟨v5_20, ev5_20⟩ : ∃ y : Int32, y = v5_10 + 1 := ⟨_, rfl⟩
          replace hF := nm_i hF ev5_20
          refine lv_iinc (v := v5_20) (lv' := [(5, .int v5_20), (3, .long v3_19), (0, .ref (aM 0)), (1, .int p1), (2, .int p2)]) hx hb dX7_birds_52 hl (k := 4) rfl (by rw [ev5_20]; rfl) (by decide) rfl (fun ls hl => ?_)
          refine lv_goto (tgt := 34) hx hb dX7_birds_55 (by decide) ?_
          exact ih_11 (v3_19, v5_20) H locs ls ⟨hF, hP, hD, hS, lv_sub hl [2, 3, 4, 1, 0] rfl⟩
    · replace hF := if_i c_6 hF
      refine lv_ldc (v := (-1000000002)) hx hb hown hk_1 dX7_birds_24 ?_
      obtain rfl := Option.some.inj hF
      exact W.iret (v := (-1000000002)) hx hb hr (fun t ht hW => ⟨⟨_, (), rfl, rfl, by rw [ht]; exact hP, va_K.moved hW.alike hK, hD⟩, hS.F ht⟩) hS.2.2 dX7_birds_26

noncomputable def L_X7_pass_2 : Nat → Int32 → MS → Option (Int32 × MS)
  | 0, _, _ => none
  | n + 1, v1_2, zM_3 => if (zM_3.1 3) ≤ v1_2 then (some (v1_2, zM_3)) else (ald 122 (zM_3.2 8) v1_2 fun x_12 => (if x_12 < 0 then (ald 122 (zM_3.2 8) (40 + v1_2) fun x_17 => some (x_17 : Int32)) else (ald 122 (zM_3.2 8) (40 + v1_2) fun x_19 => if (99 : Int32) ≤ x_19 then (ald 122 (zM_3.2 8) (40 + v1_2) fun x_22 => some (x_22 : Int32)) else (ald 122 (zM_3.2 8) (40 + v1_2) fun x_24 => some ((x_24 + 1) : Int32)))).bind fun t_13 => ast 122 (40 + v1_2) <| nm ((zM_3.1, va_up zM_3.2 8 (upd (zM_3.2 8) (Int32.toNatClampNeg (40 + v1_2)) t_13)) : MS) fun zM_27 => nm (v1_2 + 1) fun v1_28 => L_X7_pass_2 n v1_28 zM_27)
noncomputable def L_X7_pass_83 (zM_7 : MS) : Nat → Int32 → Int32 → Int32 → Option (Int32 × Int32 × Int32)
  | 0, _, _, _ => none
  | n + 1, v1_34, v2_35, v3_36 => if (zM_7.1 2) ≤ v3_36 then (some (v1_34, v2_35, v3_36)) else ((f_X7_has v2_35 v3_36).bind fun r_46 => if r_46 = 0 then ((f_X7_landOf zM_7 v3_36).bind fun r_50 => (f_X7_shutInBy zM_7 r_50).bind fun r_52 => nm (v2_35 ||| r_50) fun v2_54 => if r_52 = 1 then (nm (v1_34 ||| r_50) fun v1_60 => nm (v3_36 + 1) fun v3_61 => L_X7_pass_83 zM_7 n v1_60 v2_54 v3_61) else (if r_52 = 0 then (nm (v1_34 &&& (r_50 ^^^ (-1))) fun v1_58 => nm (v3_36 + 1) fun v3_59 => L_X7_pass_83 zM_7 n v1_58 v2_54 v3_59) else (nm (v3_36 + 1) fun v3_57 => L_X7_pass_83 zM_7 n v1_34 v2_54 v3_57))) else (nm (v3_36 + 1) fun v3_49 => L_X7_pass_83 zM_7 n v1_34 v2_35 v3_49))
noncomputable def f_X7_pass (zM : MS) : Option (MS) := nm (0 : Int32) fun v1_1 => (L_X7_pass_2 3000 v1_1 zM).bind fun q_71 => nm q_71.1 fun v1_6 => nm q_71.2 fun zM_7 => ald 122 (zM_7.2 8) (120 : Int32) fun x_31 => nm (0 : Int32) fun v2_32 => nm (0 : Int32) fun v3_33 => (L_X7_pass_83 zM_7 3000 x_31 v2_32 v3_33).bind fun q_70 => nm q_70.1 fun v1_39 => nm q_70.2.1 fun v2_40 => nm q_70.2.2 fun v3_41 => ast 122 (120 : Int32) <| nm ((zM_7.1, va_up zM_7.2 8 (upd (zM_7.2 8) (Int32.toNatClampNeg 120) v1_39)) : MS) fun zM_64 => ald 122 (zM_64.2 8) (121 : Int32) fun x_66 => nm (x_66 + 1) fun y_68 => ast 122 (121 : Int32) <| nm ((zM_64.1, va_up zM_64.2 8 (upd (zM_64.2 8) (Int32.toNatClampNeg 121) y_68)) : MS) fun zM_69 => some zM_69
set_option maxHeartbeats 4000000 in
set_option maxRecDepth 100000 in
theorem c_X7_pass (l : Launch) (D : va_G) (ci : Nat → ClassId) (aM : Nat → Nat) (sz : Nat) (zM : MS) (res : MS) (hF : f_X7_pass zM = some res) : CtV l yX7_pass wsX7_pass { frames := 4, cells := 0, slots := 0, locals := 90 } [.ref (aM 0)] D ci (wcM ci aM zM) sz (wcM ci aM res) := by
  refine Met.ofW (cc := cX7_pass) (maxL := 6) (ret := none) (by decide) rfl ?_
  intro p e s m args below meth c s₁ B hml hv
  obtain ⟨rfl, hsz, hP, hK, hD0⟩ := hv
  have hx := B.exec
  have hb := B.bytes
  have hr := B.returns
  have hts := atoms_spec (ws := wsX7_pass) B.pre
  have hown : s.vm.findClass RX7 = some m.cls := findClass_of_methodNamed B.named
  have hlocks := B.notSynchronized
  subst hsz
  have hD := hD0.self (sz := s.heap.size)
  generalize hAe : va_A (wcM ci aM zM) s.heap.size = A at hD ⊢
  have hA : ∀ q : Nat, s.heap.size ≤ q → A q := fun q h => by rw [← hAe]; exact Or.inr h
  clear hD0 hAe
  have hl := lv_entry ([.ref (aM 0)]) (n := 6) (Nat.le_of_ble_eq_true rfl)
  rw [lg_entry_eq]
  generalize (lg_sl ([.ref (aM 0)]) ++ List.replicate (6 - (lg_sl ([.ref (aM 0)])).length) Slot.unset).toArray = ls at hl ⊢
  have hl : lv_has ls 6 [(0, .ref (aM 0))] := hl
  have hP : va_P D vwCl (wcM ci aM zM) s.heap := hP
  generalize hH0 : s.heap = H at hP ⊢
  have hS : va_S A s.heap H [] := by rw [← hH0]; exact va_S.rf
  clear hH0
  generalize ([] : List Loc) = locs at hS ⊢
  have hk_0 := hts (.fieldLink RX7 91 "HedgeWarModel" "edges" "I") (by decide +kernel)
  have hin_RX7 : ∀ w ∈ wsX70, w ∈ wsX7_pass := by decide +kernel
  have hk_2 := hts (.fieldLink RX7 23 "HedgeWarModel" "now" "[I") (by decide +kernel)
  have hk_3 := hts (.fieldLink RX7 84 "HedgeWarModel" "fields" "I") (by decide +kernel)
  unfold f_X7_pass at hF
  refine lv_iconst (v := 0) hx hb dX7_pass_0 (by decide) ?_
  refine lv_topi (fun v1_1 ev1_1 => ?_)
  replace hF := nm_i hF ev1_1
  refine lv_istore_n (lv' := [(1, .int v1_1), (0, .ref (aM 0))]) hx hb dX7_pass_1 rfl hl (by decide) rfl (fun ls hl => ?_)
  replace hF := bnd hF
  obtain ⟨q_71, hv_29, hF⟩ := hF
  obtain ⟨v1_6, ev1_6⟩ : ∃ y : Int32, y = q_71.1 := ⟨_, rfl⟩
  replace hF := nm_i hF ev1_6
  obtain ⟨zM_7, ezM_7⟩ : ∃ y : MS, y = q_71.2 := ⟨_, rfl⟩
  replace hF := nm_i hF ezM_7
  obtain rfl : q_71 = (v1_6, zM_7) := by rw [ev1_6, ezM_7]
  clear ev1_6
  clear ezM_7
  refine jn (P := fun H locs ls => va_P D vwCl (wcM ci aM zM_7) H ∧ va_D A (wcM ci aM zM_7) ∧ va_S A s.heap H locs ∧ lv_has ls 6 [(0, .ref (aM 0)), (1, .int v1_6)]) (pcJ := 71) (st := []) ?_ ?_
  · intro H locs ls hJ
    obtain ⟨hP, hD, hS, hl⟩ := hJ
    refine lv_aload_n hx hb dX7_pass_71 rfl (lv_at hl 0 rfl) ?_
    refine va_get (D := D) (ci := 7) (v := .ref (aM 8)) (C := RX7) (T := TX7) (N := 38) hx hb hts hin_RX7 hown hK hP 0 rfl rfl 8 (by decide) hk_2 (fun _ h9 => h9) rfl dX7_pass_72 ?_
    refine lv_bipush (v := 120) hx hb dX7_pass_75 (by decide) ?_
    replace hF := ald_i hF
    obtain ⟨hin_30, hF⟩ := hF
    refine va_iald hx hb hK hP 5 0 rfl rfl hin_30 dX7_pass_77 ?_
    refine lv_topi (fun x_31 ex_31 => ?_)
    replace hF := nm_i hF ex_31
    refine lv_istore_n (lv' := [(1, .int x_31), (0, .ref (aM 0))]) hx hb dX7_pass_78 rfl hl (by decide) rfl (fun ls hl => ?_)
    refine lv_iconst (v := 0) hx hb dX7_pass_79 (by decide) ?_
    refine lv_topi (fun v2_32 ev2_32 => ?_)
    replace hF := nm_i hF ev2_32
    refine lv_istore_n (lv' := [(2, .int v2_32), (1, .int x_31), (0, .ref (aM 0))]) hx hb dX7_pass_80 rfl hl (by decide) rfl (fun ls hl => ?_)
    refine lv_iconst (v := 0) hx hb dX7_pass_81 (by decide) ?_
    refine lv_topi (fun v3_33 ev3_33 => ?_)
    replace hF := nm_i hF ev3_33
    refine lv_istore_n (lv' := [(3, .int v3_33), (2, .int v2_32), (1, .int x_31), (0, .ref (aM 0))]) hx hb dX7_pass_82 rfl hl (by decide) rfl (fun ls hl => ?_)
    replace hF := bnd hF
    obtain ⟨q_70, hv_62, hF⟩ := hF
    obtain ⟨v1_39, ev1_39⟩ : ∃ y : Int32, y = q_70.1 := ⟨_, rfl⟩
    replace hF := nm_i hF ev1_39
    obtain ⟨v2_40, ev2_40⟩ : ∃ y : Int32, y = q_70.2.1 := ⟨_, rfl⟩
    replace hF := nm_i hF ev2_40
    obtain ⟨v3_41, ev3_41⟩ : ∃ y : Int32, y = q_70.2.2 := ⟨_, rfl⟩
    replace hF := nm_i hF ev3_41
    obtain rfl : q_70 = (v1_39, v2_40, v3_41) := by rw [ev1_39, ev2_40, ev3_41]
    clear ev1_39
    clear ev2_40
    clear ev3_41
    refine jn (P := fun H locs ls => va_P D vwCl (wcM ci aM zM_7) H ∧ va_D A (wcM ci aM zM_7) ∧ va_S A s.heap H locs ∧ lv_has ls 6 [(0, .ref (aM 0)), (1, .int v1_39), (2, .int v2_40), (3, .int v3_41)]) (pcJ := 154) (st := []) ?_ ?_
    · intro H locs ls hJ
      obtain ⟨hP, hD, hS, hl⟩ := hJ
      refine lv_aload_n hx hb dX7_pass_154 rfl (lv_at hl 0 rfl) ?_
      refine va_get (D := D) (ci := 7) (v := .ref (aM 8)) (C := RX7) (T := TX7) (N := 38) hx hb hts hin_RX7 hown hK hP 0 rfl rfl 8 (by decide) hk_2 (fun _ h9 => h9) rfl dX7_pass_155 ?_
      refine lv_bipush (v := 120) hx hb dX7_pass_158 (by decide) ?_
      refine lv_iload_n hx hb dX7_pass_160 rfl (lv_at hl 1 rfl) ?_
      replace hF := ast_i hF
      obtain ⟨hin_63, hF⟩ := hF
      refine va_iast (x := v1_39) hx hb hK hP hD hS 5 0 rfl rfl hin_63 dX7_pass_161 (fun H locs hP hD hS => ?_)
      obtain ⟨zM_64, ezM_64⟩ : ∃ y : MS, y = (zM_7.1, va_up zM_7.2 8 (upd (zM_7.2 8) (Int32.toNatClampNeg 120) v1_39)) := ⟨_, rfl⟩
      replace hF := nm_i hF ezM_64
      have hP : va_P D vwCl (wcM ci aM zM_64) H := by rw [ezM_64]; exact hP
      have hD : va_D A (wcM ci aM zM_64) := by rw [ezM_64]; exact hD
      refine lv_aload_n hx hb dX7_pass_162 rfl (lv_at hl 0 rfl) ?_
      refine va_get (D := D) (ci := 7) (v := .ref (aM 8)) (C := RX7) (T := TX7) (N := 38) hx hb hts hin_RX7 hown hK hP 0 rfl rfl 8 (by decide) hk_2 (fun _ h9 => h9) rfl dX7_pass_163 ?_
      refine lv_bipush (v := 121) hx hb dX7_pass_166 (by decide) ?_
      refine lv_dup2_11 hx hb dX7_pass_168 rfl rfl ?_
      replace hF := ald_i hF
      obtain ⟨hin_65, hF⟩ := hF
      refine va_iald hx hb hK hP 5 0 rfl rfl hin_65 dX7_pass_169 ?_
      refine lv_topi (fun x_66 ex_66 => ?_)
      replace hF := nm_i hF ex_66
      refine lv_iconst (v := 1) hx hb dX7_pass_170 (by decide) ?_
      refine lv_iadd hx hb dX7_pass_171 ?_
      refine lv_topi (fun y_68 ey_68 => ?_)
      replace hF := nm_i hF ey_68
      replace hF := ast_i hF
      obtain ⟨hin_67, hF⟩ := hF
      refine va_iast (x := y_68) hx hb hK hP hD hS 5 0 rfl rfl hin_67 dX7_pass_172 (fun H locs hP hD hS => ?_)
      obtain ⟨zM_69, ezM_69⟩ : ∃ y : MS, y = (zM_64.1, va_up zM_64.2 8 (upd (zM_64.2 8) (Int32.toNatClampNeg 121) y_68)) := ⟨_, rfl⟩
      replace hF := nm_i hF ezM_69
      have hP : va_P D vwCl (wcM ci aM zM_69) H := by rw [ezM_69]; exact hP
      have hD : va_D A (wcM ci aM zM_69) := by rw [ezM_69]; exact hD
      obtain rfl := Option.some.inj hF
      exact W.vret hx hb hr (fun t ht hW => ⟨⟨(), rfl, trivial, by rw [ht]; exact hP, va_K.moved hW.alike hK, hD⟩, hS.F ht⟩) hS.2.2 dX7_pass_173
    · intro J_38
      clear hF
      have hF := hv_62
      refine lpW (σ := Int32 × Int32 × Int32) (I := fun n v H locs ls => L_X7_pass_83 zM_7 n v.1 v.2.1 v.2.2 = some (v1_39, v2_40, v3_41) ∧ va_P D vwCl (wcM ci aM zM_7) H ∧ va_D A (wcM ci aM zM_7) ∧ va_S A s.heap H locs ∧ lv_has ls 6 [(0, .ref (aM 0)), (1, .int v.1), (2, .int v.2.1), (3, .int v.2.2)]) 3000 (x_31, v2_32, v3_33) (fun _ _ _ _ h => no_none h.1) ⟨hF, hP, hD, hS, lv_sub hl [3, 2, 1, 0] rfl⟩ ?_
      clear hF hP hD hS hl
      intro n ih_37 vq H locs ls hI
      obtain ⟨v1_34, v2_35, v3_36⟩ := vq
      obtain ⟨hF, hP, hD, hS, hl⟩ := hI
      have hP : va_P D vwCl (wcM ci aM zM_7) H := hP
      have hD : va_D A (wcM ci aM zM_7) := hD
      have hl : lv_has ls 6 [(0, .ref (aM 0)), (1, .int v1_34), (2, .int v2_35), (3, .int v3_36)] := hl
      replace hF : L_X7_pass_83 zM_7 (n + 1) v1_34 v2_35 v3_36 = some (v1_39, v2_40, v3_41) := hF
      rw [L_X7_pass_83] at hF
      refine lv_iload_n hx hb dX7_pass_83 rfl (lv_at hl 3 rfl) ?_
      refine lv_aload_n hx hb dX7_pass_84 rfl (lv_at hl 0 rfl) ?_
      refine va_get (D := D) (ci := 7) (v := .int (zM_7.1 2)) (C := RX7) (T := TX7) (N := 38) hx hb hts hin_RX7 hown hK hP 0 rfl rfl 2 (by decide) hk_3 (fun _ h9 => h9) rfl dX7_pass_85 ?_
      refine lv_icmp_ge (tgt := 154) hx hb dX7_pass_88 (by decide) (fun c_42 => ?_) (fun c_42 => ?_)
      · replace hF := if_i c_42 hF
        obtain ⟨g_43, g_44, g_45⟩ : v1_34 = v1_39 ∧ v2_35 = v2_40 ∧ v3_36 = v3_41 := by have h9 := Option.some.inj hF; simpa only [Prod.mk.injEq] using h9
        subst g_43
        subst g_44
        subst g_45
        exact J_38 H locs ls ⟨hP, hD, hS, lv_sub hl [0, 1, 2, 3] rfl⟩
      · replace hF := if_o c_42 hF
        refine lv_iload_n hx hb dX7_pass_91 rfl (lv_at hl 2 rfl) ?_
        refine lv_iload_n hx hb dX7_pass_92 rfl (lv_at hl 3 rfl) ?_
        replace hF := bnd hF
        obtain ⟨r_46, hc_47, hF⟩ := hF
        refine cl_Sie (As := [.int v2_35, .int v3_36]) (rest := []) ⟨hx, hb, hml, hown, hts⟩ (va_cwS 2 hts gX7_pass_X7_has rfl rfl rfl (by decide +kernel) ⟨Nat.le_of_ble_eq_true rfl, Nat.le_of_ble_eq_true rfl⟩) (c_X7_has l D ci  H.size v2_35 v3_36 _ hc_47) hK hP hD hS hA rfl rfl hl.1 (Nat.le_of_ble_eq_true rfl) dX7_pass_93 (Nat.zero_le _) (Nat.zero_le _) (fun H locs hP hD hS => ?_)
        have hP : va_P D vwCl (wcM ci aM zM_7) H := hP
        have hD : va_D A (wcM ci aM zM_7) := hD
        refine lv_if_ne (tgt := 148) hx hb dX7_pass_96 (by decide) (fun c_48 => ?_) (fun c_48 => ?_)
        · replace hF := if_o c_48 hF
          obtain ⟨v3_49, ev3_49⟩ : ∃ y : Int32, y = v3_36 + 1 := ⟨_, rfl⟩
          replace hF := nm_i hF ev3_49
          refine lv_iinc (v := v3_49) (lv' := [(3, .int v3_49), (0, .ref (aM 0)), (1, .int v1_34), (2, .int v2_35)]) hx hb dX7_pass_148 hl (k := 3) rfl (by rw [ev3_49]; rfl) (by decide) rfl (fun ls hl => ?_)
          refine lv_goto (tgt := 83) hx hb dX7_pass_151 (by decide) ?_
          exact ih_37 (v1_34, v2_35, v3_49) H locs ls ⟨hF, hP, hD, hS, lv_sub hl [1, 2, 3, 0] rfl⟩
        · replace hF := if_i c_48 hF
          refine lv_aload_n hx hb dX7_pass_99 rfl (lv_at hl 0 rfl) ?_
          refine lv_iload_n hx hb dX7_pass_100 rfl (lv_at hl 3 rfl) ?_
          replace hF := bnd hF
          obtain ⟨r_50, hc_51, hF⟩ := hF
          refine cl_Vi0 (As := [.int v3_36]) (rest := []) ⟨hx, hb, hml, hown, hts⟩ (cwV 1 hts gX7_pass_X7_landOf rfl rfl rfl (by decide +kernel) ⟨Nat.le_of_ble_eq_true rfl, Nat.le_of_ble_eq_true rfl⟩) (c_X7_landOf l D ci aM H.size zM_7 v3_36 _ hc_51) hK hP hD hS hA 0 rfl rfl rfl rfl hl.1 (Nat.le_of_ble_eq_true rfl) dX7_pass_101 (Nat.zero_le _) (Nat.zero_le _) (fun H locs hP hD hS => ?_)
          have hP : va_P D vwCl (wcM ci aM zM_7) H := hP
          have hD : va_D A (wcM ci aM zM_7) := hD
          refine lv_istore (lv' := [(4, .int r_50), (0, .ref (aM 0)), (1, .int v1_34), (2, .int v2_35), (3, .int v3_36)]) hx hb dX7_pass_104 hl (by decide) rfl (fun ls hl => ?_)
          refine lv_aload_n hx hb dX7_pass_106 rfl (lv_at hl 1 rfl) ?_
          refine lv_iload hx hb dX7_pass_107 (lv_at hl 0 rfl) ?_
          replace hF := bnd hF
          obtain ⟨r_52, hc_53, hF⟩ := hF
          refine cl_Vi0 (As := [.int r_50]) (rest := []) ⟨hx, hb, hml, hown, hts⟩ (cwV 1 hts gX7_pass_X7_shutInBy rfl rfl rfl (by decide +kernel) ⟨Nat.le_of_ble_eq_true rfl, Nat.le_of_ble_eq_true rfl⟩) (c_X7_shutInBy l D ci aM H.size zM_7 r_50 _ hc_53) hK hP hD hS hA 0 rfl rfl rfl rfl hl.1 (Nat.le_of_ble_eq_true rfl) dX7_pass_109 (Nat.zero_le _) (Nat.zero_le _) (fun H locs hP hD hS => ?_)
          have hP : va_P D vwCl (wcM ci aM zM_7) H := hP
          have hD : va_D A (wcM ci aM zM_7) := hD
          refine lv_istore (lv' := [(5, .int r_52), (4, .int r_50), (0, .ref (aM 0)), (1, .int v1_34), (2, .int v2_35), (3, .int v3_36)]) hx hb dX7_pass_112 hl (by decide) rfl (fun ls hl => ?_)
          refine lv_iload_n hx hb dX7_pass_114 rfl (lv_at hl 4 rfl) ?_
          refine lv_iload hx hb dX7_pass_115 (lv_at hl 1 rfl) ?_
          refine lv_ior hx hb dX7_pass_117 ?_
          refine lv_topi (fun v2_54 ev2_54 => ?_)
          replace hF := nm_i hF ev2_54
          refine lv_istore_n (lv' := [(2, .int v2_54), (5, .int r_52), (4, .int r_50), (0, .ref (aM 0)), (1, .int v1_34), (3, .int v3_36)]) hx hb dX7_pass_118 rfl hl (by decide) rfl (fun ls hl => ?_)
          refine lv_iload hx hb dX7_pass_119 (lv_at hl 1 rfl) ?_
          refine lv_iconst (v := 1) hx hb dX7_pass_121 (by decide) ?_
          refine lv_icmp_ne (tgt := 132) hx hb dX7_pass_122 (by decide) (fun c_55 => ?_) (fun c_55 => ?_)
          · replace hF := if_o c_55 hF
            refine lv_iload hx hb dX7_pass_132 (lv_at hl 1 rfl) ?_
            refine lv_if_ne (tgt := 146) hx hb dX7_pass_134 (by decide) (fun c_56 => ?_) (fun c_56 => ?_)
            · replace hF := if_o c_56 hF
              refine lv_iload_n hx hb dX7_pass_146 rfl (lv_at hl 4 rfl) ?_
              refine lv_istore_n (lv' := [(1, .int v1_34), (2, .int v2_54), (5, .int r_52), (4, .int r_50), (0, .ref (aM 0)), (3, .int v3_36)]) hx hb dX7_pass_147 rfl hl (by decide) rfl (fun ls hl => ?_)
              obtain ⟨v3_57, ev3_57⟩ : ∃ y : Int32, y = v3_36 + 1 := ⟨_, rfl⟩
              replace hF := nm_i hF ev3_57
              refine lv_iinc (v := v3_57) (lv' := [(3, .int v3_57), (1, .int v1_34), (2, .int v2_54), (5, .int r_52), (4, .int r_50), (0, .ref (aM 0))]) hx hb dX7_pass_148 hl (k := 5) rfl (by rw [ev3_57]; rfl) (by decide) rfl (fun ls hl => ?_)
              refine lv_goto (tgt := 83) hx hb dX7_pass_151 (by decide) ?_
              exact ih_37 (v1_34, v2_54, v3_57) H locs ls ⟨hF, hP, hD, hS, lv_sub hl [5, 1, 2, 0] rfl⟩
            · replace hF := if_i c_56 hF
              refine lv_iload_n hx hb dX7_pass_137 rfl (lv_at hl 4 rfl) ?_
              refine lv_iload hx hb dX7_pass_138 (lv_at hl 2 rfl) ?_
              refine lv_iconst (v := (-1)) hx hb dX7_pass_140 (by decide) ?_
              refine lv_ixor hx hb dX7_pass_141 ?_
              refine lv_iand hx hb dX7_pass_142 ?_
              refine lv_goto (tgt := 147) hx hb dX7_pass_143 (by decide) ?_
              refine lv_topi (fun v1_58 ev1_58 => ?_)
              replace hF := nm_i hF ev1_58
              refine lv_istore_n (lv' := [(1, .int v1_58), (2, .int v2_54), (5, .int r_52), (4, .int r_50), (0, .ref (aM 0)), (3, .int v3_36)]) hx hb dX7_pass_147 rfl hl (by decide) rfl (fun ls hl => ?_)
              obtain ⟨v3_59, ev3_59⟩ : ∃ y : Int32, y = v3_36 + 1 := ⟨_, rfl⟩
              replace hF := nm_i hF ev3_59
              refine lv_iinc (v := v3_59) (lv' := [(3, .int v3_59), (1, .int v1_58), (2, .int v2_54), (5, .int r_52), (4, .int r_50), (0, .ref (aM 0))]) hx hb dX7_pass_148 hl (k := 5) rfl (by rw [ev3_59]; rfl) (by decide) rfl (fun ls hl => ?_)
              refine lv_goto (tgt := 83) hx hb dX7_pass_151 (by decide) ?_
              exact ih_37 (v1_58, v2_54, v3_59) H locs ls ⟨hF, hP, hD, hS, lv_sub hl [5, 1, 2, 0] rfl⟩
          · replace hF := if_i c_55 hF
            refine lv_iload_n hx hb dX7_pass_125 rfl (lv_at hl 4 rfl) ?_
            refine lv_iload hx hb dX7_pass_126 (lv_at hl 2 rfl) ?_
            refine lv_ior hx hb dX7_pass_128 ?_
            refine lv_goto (tgt := 147) hx hb dX7_pass_129 (by decide) ?_
            refine lv_topi (fun v1_60 ev1_60 => ?_)
            replace hF := nm_i hF ev1_60
            refine lv_istore_n (lv' := [(1, .int v1_60), (2, .int v2_54), (5, .int r_52), (4, .int r_50), (0, .ref (aM 0)), (3, .int v3_36)]) hx hb dX7_pass_147 rfl hl (by decide) rfl (fun ls hl => ?_)
            obtain ⟨v3_61, ev3_61⟩ : ∃ y : Int32, y = v3_36 + 1 := ⟨_, rfl⟩
            replace hF := nm_i hF ev3_61
            refine lv_iinc (v := v3_61) (lv' := [(3, .int v3_61), (1, .int v1_60), (2, .int v2_54), (5, .int r_52), (4, .int r_50), (0, .ref (aM 0))]) hx hb dX7_pass_148 hl (k := 5) rfl (by rw [ev3_61]; rfl) (by decide) rfl (fun ls hl => ?_)
            refine lv_goto (tgt := 83) hx hb dX7_pass_151 (by decide) ?_
            exact ih_37 (v1_60, v2_54, v3_61) H locs ls ⟨hF, hP, hD, hS, lv_sub hl [5, 1, 2, 0] rfl⟩
  · intro J_5
    clear hF
    have hF := hv_29
    refine lpW (σ := Int32 × MS) (I := fun n v H locs ls => L_X7_pass_2 n v.1 v.2 = some (v1_6, zM_7) ∧ va_P D vwCl (wcM ci aM v.2) H ∧ va_D A (wcM ci aM v.2) ∧ va_S A s.heap H locs ∧ lv_has ls 6 [(0, .ref (aM 0)), (1, .int v.1)]) 3000 (v1_1, zM) (fun _ _ _ _ h => no_none h.1) ⟨hF, hP, hD, hS, lv_sub hl [1, 0] rfl⟩ ?_
    clear hF hP hD hS hl
    intro n ih_4 vq H locs ls hI
    obtain ⟨v1_2, zM_3⟩ := vq
    obtain ⟨hF, hP, hD, hS, hl⟩ := hI
    have hP : va_P D vwCl (wcM ci aM zM_3) H := hP
    have hD : va_D A (wcM ci aM zM_3) := hD
    have hl : lv_has ls 6 [(0, .ref (aM 0)), (1, .int v1_2)] := hl
    replace hF : L_X7_pass_2 (n + 1) v1_2 zM_3 = some (v1_6, zM_7) := hF
    rw [L_X7_pass_2] at hF
    refine lv_iload_n hx hb dX7_pass_2 rfl (lv_at hl 1 rfl) ?_
    refine lv_aload_n hx hb dX7_pass_3 rfl (lv_at hl 0 rfl) ?_
    refine va_get (D := D) (ci := 7) (v := .int (zM_3.1 3)) (C := RX7) (T := TX7) (N := 38) hx hb hts hin_RX7 hown hK hP 0 rfl rfl 3 (by decide) hk_0 (fun _ h9 => h9) rfl dX7_pass_4 ?_
    refine lv_icmp_ge (tgt := 71) hx hb dX7_pass_7 (by decide) (fun c_8 => ?_) (fun c_8 => ?_)
    · replace hF := if_i c_8 hF
      obtain ⟨g_9, g_10⟩ : v1_2 = v1_6 ∧ zM_3 = zM_7 := by have h9 := Option.some.inj hF; simpa only [Prod.mk.injEq] using h9
      subst g_9
      subst g_10
      exact J_5 H locs ls ⟨hP, hD, hS, lv_sub hl [0, 1] rfl⟩
    · replace hF := if_o c_8 hF
      refine lv_aload_n hx hb dX7_pass_10 rfl (lv_at hl 0 rfl) ?_
      refine va_get (D := D) (ci := 7) (v := .ref (aM 8)) (C := RX7) (T := TX7) (N := 38) hx hb hts hin_RX7 hown hK hP 0 rfl rfl 8 (by decide) hk_2 (fun _ h9 => h9) rfl dX7_pass_11 ?_
      refine lv_bipush (v := 40) hx hb dX7_pass_14 (by decide) ?_
      refine lv_iload_n hx hb dX7_pass_16 rfl (lv_at hl 1 rfl) ?_
      refine lv_iadd hx hb dX7_pass_17 ?_
      refine lv_aload_n hx hb dX7_pass_18 rfl (lv_at hl 0 rfl) ?_
      refine va_get (D := D) (ci := 7) (v := .ref (aM 8)) (C := RX7) (T := TX7) (N := 38) hx hb hts hin_RX7 hown hK hP 0 rfl rfl 8 (by decide) hk_2 (fun _ h9 => h9) rfl dX7_pass_19 ?_
      refine lv_iload_n hx hb dX7_pass_22 rfl (lv_at hl 1 rfl) ?_
      replace hF := ald_i hF
      obtain ⟨hin_11, hF⟩ := hF
      refine va_iald hx hb hK hP 5 0 rfl rfl hin_11 dX7_pass_23 ?_
      refine lv_topi (fun x_12 ex_12 => ?_)
      replace hF := nm_i hF ex_12
      replace hF := bnd hF
      obtain ⟨t_13, hv_25, hF⟩ := hF
      refine jn (P := fun H locs ls => va_P D vwCl (wcM ci aM zM_3) H ∧ va_D A (wcM ci aM zM_3) ∧ va_S A s.heap H locs ∧ lv_has ls 6 [(0, .ref (aM 0)), (1, .int v1_2)]) (pcJ := 64) (st := [.int t_13, .int (40 + v1_2), .ref (aM 8)]) ?_ ?_
      · intro H locs ls hJ
        obtain ⟨hP, hD, hS, hl⟩ := hJ
        replace hF := ast_i hF
        obtain ⟨hin_26, hF⟩ := hF
        refine va_iast (x := t_13) hx hb hK hP hD hS 5 0 rfl rfl hin_26 dX7_pass_64 (fun H locs hP hD hS => ?_)
        obtain ⟨zM_27, ezM_27⟩ : ∃ y : MS, y = (zM_3.1, va_up zM_3.2 8 (upd (zM_3.2 8) (Int32.toNatClampNeg (40 + v1_2)) t_13)) := ⟨_, rfl⟩
        replace hF := nm_i hF ezM_27
        have hP : va_P D vwCl (wcM ci aM zM_27) H := by rw [ezM_27]; exact hP
        have hD : va_D A (wcM ci aM zM_27) := by rw [ezM_27]; exact hD
        obtain ⟨v1_28, ev1_28⟩ : ∃ y : Int32, y = v1_2 + 1 := ⟨_, rfl⟩
        replace hF := nm_i hF ev1_28
        refine lv_iinc (v := v1_28) (lv' := [(1, .int v1_28), (0, .ref (aM 0))]) hx hb dX7_pass_65 hl (k := 1) rfl (by rw [ev1_28]; rfl) (by decide) rfl (fun ls hl => ?_)
        refine lv_goto (tgt := 2) hx hb dX7_pass_68 (by decide) ?_
        exact ih_4 (v1_28, zM_27) H locs ls ⟨hF, hP, hD, hS, lv_sub hl [1, 0] rfl⟩
      · intro J_14
        clear hF
        have hF := hv_25
        refine lv_if_lt (tgt := 55) hx hb dX7_pass_24 (by decide) (fun c_15 => ?_) (fun c_15 => ?_)
        · replace hF := if_i c_15 hF
          refine lv_aload_n hx hb dX7_pass_55 rfl (lv_at hl 0 rfl) ?_
          refine va_get (D := D) (ci := 7) (v := .ref (aM 8)) (C := RX7) (T := TX7) (N := 38) hx hb hts hin_RX7 hown hK hP 0 rfl rfl 8 (by decide) hk_2 (fun _ h9 => h9) rfl dX7_pass_56 ?_
          refine lv_bipush (v := 40) hx hb dX7_pass_59 (by decide) ?_
          refine lv_iload_n hx hb dX7_pass_61 rfl (lv_at hl 1 rfl) ?_
          refine lv_iadd hx hb dX7_pass_62 ?_
          replace hF := ald_i hF
          obtain ⟨hin_16, hF⟩ := hF
          refine va_iald hx hb hK hP 5 0 rfl rfl hin_16 dX7_pass_63 ?_
          refine lv_topi (fun x_17 ex_17 => ?_)
          replace hF := nm_i hF ex_17
          obtain rfl := Option.some.inj hF
          exact J_14 H locs ls ⟨hP, hD, hS, lv_sub hl [0, 1] rfl⟩
        · replace hF := if_o c_15 hF
          refine lv_aload_n hx hb dX7_pass_27 rfl (lv_at hl 0 rfl) ?_
          refine va_get (D := D) (ci := 7) (v := .ref (aM 8)) (C := RX7) (T := TX7) (N := 38) hx hb hts hin_RX7 hown hK hP 0 rfl rfl 8 (by decide) hk_2 (fun _ h9 => h9) rfl dX7_pass_28 ?_
          refine lv_bipush (v := 40) hx hb dX7_pass_31 (by decide) ?_
          refine lv_iload_n hx hb dX7_pass_33 rfl (lv_at hl 1 rfl) ?_
          refine lv_iadd hx hb dX7_pass_34 ?_
          replace hF := ald_i hF
          obtain ⟨hin_18, hF⟩ := hF
          refine va_iald hx hb hK hP 5 0 rfl rfl hin_18 dX7_pass_35 ?_
          refine lv_topi (fun x_19 ex_19 => ?_)
          replace hF := nm_i hF ex_19
          refine lv_bipush (v := 99) hx hb dX7_pass_36 (by decide) ?_
          refine lv_icmp_ge (tgt := 55) hx hb dX7_pass_38 (by decide) (fun c_20 => ?_) (fun c_20 => ?_)
          · replace hF := if_i c_20 hF
            refine lv_aload_n hx hb dX7_pass_55 rfl (lv_at hl 0 rfl) ?_
            refine va_get (D := D) (ci := 7) (v := .ref (aM 8)) (C := RX7) (T := TX7) (N := 38) hx hb hts hin_RX7 hown hK hP 0 rfl rfl 8 (by decide) hk_2 (fun _ h9 => h9) rfl dX7_pass_56 ?_
            refine lv_bipush (v := 40) hx hb dX7_pass_59 (by decide) ?_
            refine lv_iload_n hx hb dX7_pass_61 rfl (lv_at hl 1 rfl) ?_
            refine lv_iadd hx hb dX7_pass_62 ?_
            replace hF := ald_i hF
            obtain ⟨hin_21, hF⟩ := hF
            refine va_iald hx hb hK hP 5 0 rfl rfl hin_21 dX7_pass_63 ?_
            refine lv_topi (fun x_22 ex_22 => ?_)
            replace hF := nm_i hF ex_22
            obtain rfl := Option.some.inj hF
            exact J_14 H locs ls ⟨hP, hD, hS, lv_sub hl [0, 1] rfl⟩
          · replace hF := if_o c_20 hF
            refine lv_aload_n hx hb dX7_pass_41 rfl (lv_at hl 0 rfl) ?_
            refine va_get (D := D) (ci := 7) (v := .ref (aM 8)) (C := RX7) (T := TX7) (N := 38) hx hb hts hin_RX7 hown hK hP 0 rfl rfl 8 (by decide) hk_2 (fun _ h9 => h9) rfl dX7_pass_42 ?_
            refine lv_bipush (v := 40) hx hb dX7_pass_45 (by decide) ?_
            refine lv_iload_n hx hb dX7_pass_47 rfl (lv_at hl 1 rfl) ?_
            refine lv_iadd hx hb dX7_pass_48 ?_
            replace hF := ald_i hF
            obtain ⟨hin_23, hF⟩ := hF
            refine va_iald hx hb hK hP 5 0 rfl rfl hin_23 dX7_pass_49 ?_
            refine lv_topi (fun x_24 ex_24 => ?_)
            replace hF := nm_i hF ex_24
            refine lv_iconst (v := 1) hx hb dX7_pass_50 (by decide) ?_
            refine lv_iadd hx hb dX7_pass_51 ?_
            refine lv_goto (tgt := 64) hx hb dX7_pass_52 (by decide) ?_
            obtain rfl := Option.some.inj hF
            exact J_14 H locs ls ⟨hP, hD, hS, lv_sub hl [0, 1] rfl⟩
noncomputable def f_X7_yearsRefused (zM : MS) (p1 : Int32) : Option (Int32) := (f_X7_in (Int32.toInt64 p1) (1 : Int64) (40 : Int64)).bind fun r_1 => if r_1 = 0 then (some (-1000000002 : Int32)) else (if (zM.1 2) = 0 then (some (-1000000003 : Int32)) else (ald 122 (zM.2 8) (121 : Int32) fun x_6 => if x_6 ≤ 9000 then (some (0 : Int32)) else (some (-1000000004 : Int32))))
set_option maxHeartbeats 4000000 in
set_option maxRecDepth 100000 in
theorem c_X7_yearsRefused (l : Launch) (D : va_G) (ci : Nat → ClassId) (aM : Nat → Nat) (sz : Nat) (zM : MS) (p1 : Int32) (res : Int32) (hF : f_X7_yearsRefused zM p1 = some res) : CtI l yX7_yearsRefused wsX7_yearsRefused { frames := 1, cells := 0, slots := 0, locals := 25 } [.ref (aM 0), .int p1] D ci (wcM ci aM zM) sz res (wcM ci aM zM) := by
  refine Met.ofW (cc := cX7_yearsRefused) (maxL := 2) (ret := (some .int)) (by decide) rfl ?_
  intro p e s m args below meth c s₁ B hml hv
  obtain ⟨rfl, hsz, hP, hK, hD0⟩ := hv
  have hx := B.exec
  have hb := B.bytes
  have hr := B.returns
  have hts := atoms_spec (ws := wsX7_yearsRefused) B.pre
  have hown : s.vm.findClass RX7 = some m.cls := findClass_of_methodNamed B.named
  have hlocks := B.notSynchronized
  subst hsz
  have hD := hD0.self (sz := s.heap.size)
  generalize hAe : va_A (wcM ci aM zM) s.heap.size = A at hD ⊢
  have hA : ∀ q : Nat, s.heap.size ≤ q → A q := fun q h => by rw [← hAe]; exact Or.inr h
  clear hD0 hAe
  have hl := lv_entry ([.ref (aM 0), .int p1]) (n := 2) (Nat.le_of_ble_eq_true rfl)
  rw [lg_entry_eq]
  generalize (lg_sl ([.ref (aM 0), .int p1]) ++ List.replicate (2 - (lg_sl ([.ref (aM 0), .int p1])).length) Slot.unset).toArray = ls at hl ⊢
  have hl : lv_has ls 2 [(0, .ref (aM 0)), (1, .int p1)] := hl
  have hP : va_P D vwCl (wcM ci aM zM) s.heap := hP
  generalize hH0 : s.heap = H at hP ⊢
  have hS : va_S A s.heap H [] := by rw [← hH0]; exact va_S.rf
  clear hH0
  generalize ([] : List Loc) = locs at hS ⊢
  have hk_0 := hts (.constantLong RX7 234 (40)) (by decide +kernel)
  have hk_1 := hts (.fieldLink RX7 84 "HedgeWarModel" "fields" "I") (by decide +kernel)
  have hin_RX7 : ∀ w ∈ wsX70, w ∈ wsX7_yearsRefused := by decide +kernel
  have hk_3 := hts (.fieldLink RX7 23 "HedgeWarModel" "now" "[I") (by decide +kernel)
  have hk_4 := hts (.constant RX7 100 (-1000000004)) (by decide +kernel)
  have hk_5 := hts (.constant RX7 226 (-1000000003)) (by decide +kernel)
  have hk_6 := hts (.constant RX7 96 (-1000000002)) (by decide +kernel)
  unfold f_X7_yearsRefused at hF
  refine lv_iload_n hx hb dX7_yearsRefused_0 rfl (lv_at hl 1 rfl) ?_
  refine lv_i2l (v := (Int32.toInt64 p1)) hx hb dX7_yearsRefused_1 rfl ?_
  refine lv_lconst (v := 1) hx hb dX7_yearsRefused_2 (by decide) ?_
  refine lv_ldc2 (v := 40) hx hb hown hk_0 dX7_yearsRefused_3 ?_
  replace hF := bnd hF
  obtain ⟨r_1, hc_2, hF⟩ := hF
  refine cl_Sie (As := [.long (Int32.toInt64 p1), .long 1, .long 40]) (rest := []) ⟨hx, hb, hml, hown, hts⟩ (va_cwS 3 hts gX7_yearsRefused_X7_in rfl rfl rfl (by decide +kernel) ⟨Nat.le_of_ble_eq_true rfl, Nat.le_of_ble_eq_true rfl⟩) (c_X7_in l D ci  H.size (Int32.toInt64 p1) (1 : Int64) (40 : Int64) _ hc_2) hK hP hD hS hA rfl rfl hl.1 (Nat.le_of_ble_eq_true rfl) dX7_yearsRefused_6 (Nat.zero_le _) (Nat.zero_le _) (fun H locs hP hD hS => ?_)
  have hP : va_P D vwCl (wcM ci aM zM) H := hP
  have hD : va_D A (wcM ci aM zM) := hD
  refine lv_if_ne (tgt := 15) hx hb dX7_yearsRefused_9 (by decide) (fun c_3 => ?_) (fun c_3 => ?_)
  · replace hF := if_o c_3 hF
    refine lv_aload_n hx hb dX7_yearsRefused_15 rfl (lv_at hl 0 rfl) ?_
    refine va_get (D := D) (ci := 7) (v := .int (zM.1 2)) (C := RX7) (T := TX7) (N := 38) hx hb hts hin_RX7 hown hK hP 0 rfl rfl 2 (by decide) hk_1 (fun _ h9 => h9) rfl dX7_yearsRefused_16 ?_
    refine lv_if_ne (tgt := 27) hx hb dX7_yearsRefused_19 (by decide) (fun c_4 => ?_) (fun c_4 => ?_)
    · replace hF := if_o c_4 hF
      refine lv_aload_n hx hb dX7_yearsRefused_27 rfl (lv_at hl 0 rfl) ?_
      refine va_get (D := D) (ci := 7) (v := .ref (aM 8)) (C := RX7) (T := TX7) (N := 38) hx hb hts hin_RX7 hown hK hP 0 rfl rfl 8 (by decide) hk_3 (fun _ h9 => h9) rfl dX7_yearsRefused_28 ?_
      refine lv_bipush (v := 121) hx hb dX7_yearsRefused_31 (by decide) ?_
      replace hF := ald_i hF
      obtain ⟨hin_5, hF⟩ := hF
      refine va_iald hx hb hK hP 5 0 rfl rfl hin_5 dX7_yearsRefused_33 ?_
      refine lv_topi (fun x_6 ex_6 => ?_)
      replace hF := nm_i hF ex_6
      refine lv_sipush (v := 9000) hx hb dX7_yearsRefused_34 (by decide) ?_
      refine lv_icmp_le (tgt := 45) hx hb dX7_yearsRefused_37 (by decide) (fun c_7 => ?_) (fun c_7 => ?_)
      · replace hF := if_i c_7 hF
        refine lv_iconst (v := 0) hx hb dX7_yearsRefused_45 (by decide) ?_
        obtain rfl := Option.some.inj hF
        exact W.iret (v := 0) hx hb hr (fun t ht hW => ⟨⟨_, (), rfl, rfl, by rw [ht]; exact hP, va_K.moved hW.alike hK, hD⟩, hS.F ht⟩) hS.2.2 dX7_yearsRefused_46
      · replace hF := if_o c_7 hF
        refine lv_ldc (v := (-1000000004)) hx hb hown hk_4 dX7_yearsRefused_40 ?_
        refine lv_goto (tgt := 46) hx hb dX7_yearsRefused_42 (by decide) ?_
        obtain rfl := Option.some.inj hF
        exact W.iret (v := (-1000000004)) hx hb hr (fun t ht hW => ⟨⟨_, (), rfl, rfl, by rw [ht]; exact hP, va_K.moved hW.alike hK, hD⟩, hS.F ht⟩) hS.2.2 dX7_yearsRefused_46
    · replace hF := if_i c_4 hF
      refine lv_ldc (v := (-1000000003)) hx hb hown hk_5 dX7_yearsRefused_22 ?_
      refine lv_goto (tgt := 46) hx hb dX7_yearsRefused_24 (by decide) ?_
      obtain rfl := Option.some.inj hF
      exact W.iret (v := (-1000000003)) hx hb hr (fun t ht hW => ⟨⟨_, (), rfl, rfl, by rw [ht]; exact hP, va_K.moved hW.alike hK, hD⟩, hS.F ht⟩) hS.2.2 dX7_yearsRefused_46
  · replace hF := if_i c_3 hF
    refine lv_ldc (v := (-1000000002)) hx hb hown hk_6 dX7_yearsRefused_12 ?_
    obtain rfl := Option.some.inj hF
    exact W.iret (v := (-1000000002)) hx hb hr (fun t ht hW => ⟨⟨_, (), rfl, rfl, by rw [ht]; exact hP, va_K.moved hW.alike hK, hD⟩, hS.F ht⟩) hS.2.2 dX7_yearsRefused_14
noncomputable def L_X7_year_18 (p1 : Int32) (r_1 : Int32) : Nat → Int32 → MS → Option (Int32 × MS)
  | 0, _, _ => none
  | n + 1, v3_7, zM_8 => if p1 ≤ v3_7 then (some (v3_7, zM_8)) else ((f_X7_pass zM_8).bind fun zM_16 => nm (v3_7 + 1) fun v3_18 => L_X7_year_18 p1 r_1 n v3_18 zM_16)
noncomputable def f_X7_year (zM : MS) (p1 : Int32) : Option (Int32 × MS) := (f_X7_yearsRefused zM p1).bind fun r_1 => if r_1 = 0 then ((f_X7_remember zM).bind fun zM_4 => nm (0 : Int32) fun v3_6 => (L_X7_year_18 p1 r_1 3000 v3_6 zM_4).bind fun q_24 => nm q_24.1 fun v3_11 => nm q_24.2 fun zM_12 => ald 122 (zM_12.2 8) (120 : Int32) fun x_21 => (f_X7_bits x_21).bind fun r_22 => some (r_22, zM_12)) else (some (r_1, zM))
set_option maxHeartbeats 4000000 in
set_option maxRecDepth 100000 in
theorem c_X7_year (l : Launch) (D : va_G) (ci : Nat → ClassId) (aM : Nat → Nat) (sz : Nat) (zM : MS) (p1 : Int32) (res : Int32 × MS) (hF : f_X7_year zM p1 = some res) : CtI l yX7_year wsX7_year { frames := 5, cells := 0, slots := 0, locals := 115 } [.ref (aM 0), .int p1] D ci (wcM ci aM zM) sz res.1 (wcM ci aM res.2) := by
  refine Met.ofW (cc := cX7_year) (maxL := 4) (ret := (some .int)) (by decide) rfl ?_
  intro p e s m args below meth c s₁ B hml hv
  obtain ⟨rfl, hsz, hP, hK, hD0⟩ := hv
  have hx := B.exec
  have hb := B.bytes
  have hr := B.returns
  have hts := atoms_spec (ws := wsX7_year) B.pre
  have hown : s.vm.findClass RX7 = some m.cls := findClass_of_methodNamed B.named
  have hlocks := B.notSynchronized
  subst hsz
  have hD := hD0.self (sz := s.heap.size)
  generalize hAe : va_A (wcM ci aM zM) s.heap.size = A at hD ⊢
  have hA : ∀ q : Nat, s.heap.size ≤ q → A q := fun q h => by rw [← hAe]; exact Or.inr h
  clear hD0 hAe
  have hl := lv_entry ([.ref (aM 0), .int p1]) (n := 4) (Nat.le_of_ble_eq_true rfl)
  rw [lg_entry_eq]
  generalize (lg_sl ([.ref (aM 0), .int p1]) ++ List.replicate (4 - (lg_sl ([.ref (aM 0), .int p1])).length) Slot.unset).toArray = ls at hl ⊢
  have hl : lv_has ls 4 [(0, .ref (aM 0)), (1, .int p1)] := hl
  have hP : va_P D vwCl (wcM ci aM zM) s.heap := hP
  generalize hH0 : s.heap = H at hP ⊢
  have hS : va_S A s.heap H [] := by rw [← hH0]; exact va_S.rf
  clear hH0
  generalize ([] : List Loc) = locs at hS ⊢
  have hk_0 := hts (.fieldLink RX7 23 "HedgeWarModel" "now" "[I") (by decide +kernel)
  have hin_RX7 : ∀ w ∈ wsX70, w ∈ wsX7_year := by decide +kernel
  unfold f_X7_year at hF
  refine lv_aload_n hx hb dX7_year_0 rfl (lv_at hl 0 rfl) ?_
  refine lv_iload_n hx hb dX7_year_1 rfl (lv_at hl 1 rfl) ?_
  replace hF := bnd hF
  obtain ⟨r_1, hc_2, hF⟩ := hF
  refine cl_Vi0 (As := [.int p1]) (rest := []) ⟨hx, hb, hml, hown, hts⟩ (cwV 1 hts gX7_year_X7_yearsRefused rfl rfl rfl (by decide +kernel) ⟨Nat.le_of_ble_eq_true rfl, Nat.le_of_ble_eq_true rfl⟩) (c_X7_yearsRefused l D ci aM H.size zM p1 _ hc_2) hK hP hD hS hA 0 rfl rfl rfl rfl hl.1 (Nat.le_of_ble_eq_true rfl) dX7_year_2 (Nat.zero_le _) (Nat.zero_le _) (fun H locs hP hD hS => ?_)
  have hP : va_P D vwCl (wcM ci aM zM) H := hP
  have hD : va_D A (wcM ci aM zM) := hD
  refine lv_istore_n (lv' := [(2, .int r_1), (0, .ref (aM 0)), (1, .int p1)]) hx hb dX7_year_5 rfl hl (by decide) rfl (fun ls hl => ?_)
  refine lv_iload_n hx hb dX7_year_6 rfl (lv_at hl 0 rfl) ?_
  refine lv_if_eq (tgt := 12) hx hb dX7_year_7 (by decide) (fun c_3 => ?_) (fun c_3 => ?_)
  · replace hF := if_i c_3 hF
    refine lv_aload_n hx hb dX7_year_12 rfl (lv_at hl 1 rfl) ?_
    replace hF := bnd hF
    obtain ⟨zM_4, hc_5, hF⟩ := hF
    refine cl_Vv0 (As := []) (rest := []) ⟨hx, hb, hml, hown, hts⟩ (cwV 0 hts gX7_year_X7_remember rfl rfl rfl (by decide +kernel) ⟨Nat.le_of_ble_eq_true rfl, Nat.le_of_ble_eq_true rfl⟩) (c_X7_remember l D ci aM H.size zM _ hc_5) hK hP hD hS hA 0 rfl rfl rfl rfl hl.1 (Nat.le_of_ble_eq_true rfl) dX7_year_13 (Nat.zero_le _) (Nat.zero_le _) (fun H locs hP hD hS => ?_)
    have hP : va_P D vwCl (wcM ci aM zM_4) H := hP
    have hD : va_D A (wcM ci aM zM_4) := hD
    refine lv_iconst (v := 0) hx hb dX7_year_16 (by decide) ?_
    refine lv_topi (fun v3_6 ev3_6 => ?_)
    replace hF := nm_i hF ev3_6
    refine lv_istore_n (lv' := [(3, .int v3_6), (2, .int r_1), (0, .ref (aM 0)), (1, .int p1)]) hx hb dX7_year_17 rfl hl (by decide) rfl (fun ls hl => ?_)
    replace hF := bnd hF
    obtain ⟨q_24, hv_19, hF⟩ := hF
    obtain ⟨v3_11, ev3_11⟩ : ∃ y : Int32, y = q_24.1 := ⟨_, rfl⟩
    replace hF := nm_i hF ev3_11
    obtain ⟨zM_12, ezM_12⟩ : ∃ y : MS, y = q_24.2 := ⟨_, rfl⟩
    replace hF := nm_i hF ezM_12
    obtain rfl : q_24 = (v3_11, zM_12) := by rw [ev3_11, ezM_12]
    clear ev3_11
    clear ezM_12
    refine jn (P := fun H locs ls => va_P D vwCl (wcM ci aM zM_12) H ∧ va_D A (wcM ci aM zM_12) ∧ va_S A s.heap H locs ∧ lv_has ls 4 [(0, .ref (aM 0)), (1, .int p1), (2, .int r_1), (3, .int v3_11)]) (pcJ := 33) (st := []) ?_ ?_
    · intro H locs ls hJ
      obtain ⟨hP, hD, hS, hl⟩ := hJ
      refine lv_aload_n hx hb dX7_year_33 rfl (lv_at hl 0 rfl) ?_
      refine va_get (D := D) (ci := 7) (v := .ref (aM 8)) (C := RX7) (T := TX7) (N := 38) hx hb hts hin_RX7 hown hK hP 0 rfl rfl 8 (by decide) hk_0 (fun _ h9 => h9) rfl dX7_year_34 ?_
      refine lv_bipush (v := 120) hx hb dX7_year_37 (by decide) ?_
      replace hF := ald_i hF
      obtain ⟨hin_20, hF⟩ := hF
      refine va_iald hx hb hK hP 5 0 rfl rfl hin_20 dX7_year_39 ?_
      refine lv_topi (fun x_21 ex_21 => ?_)
      replace hF := nm_i hF ex_21
      replace hF := bnd hF
      obtain ⟨r_22, hc_23, hF⟩ := hF
      refine cl_Sie (As := [.int x_21]) (rest := []) ⟨hx, hb, hml, hown, hts⟩ (va_cwS 1 hts gX7_year_X7_bits rfl rfl rfl (by decide +kernel) ⟨Nat.le_of_ble_eq_true rfl, Nat.le_of_ble_eq_true rfl⟩) (c_X7_bits l D ci  H.size x_21 _ hc_23) hK hP hD hS hA rfl rfl hl.1 (Nat.le_of_ble_eq_true rfl) dX7_year_40 (Nat.zero_le _) (Nat.zero_le _) (fun H locs hP hD hS => ?_)
      have hP : va_P D vwCl (wcM ci aM zM_12) H := hP
      have hD : va_D A (wcM ci aM zM_12) := hD
      obtain rfl := Option.some.inj hF
      exact W.iret (v := r_22) hx hb hr (fun t ht hW => ⟨⟨_, (), rfl, rfl, by rw [ht]; exact hP, va_K.moved hW.alike hK, hD⟩, hS.F ht⟩) hS.2.2 dX7_year_43
    · intro J_10
      clear hF
      have hF := hv_19
      refine lpW (σ := Int32 × MS) (I := fun n v H locs ls => L_X7_year_18 p1 r_1 n v.1 v.2 = some (v3_11, zM_12) ∧ va_P D vwCl (wcM ci aM v.2) H ∧ va_D A (wcM ci aM v.2) ∧ va_S A s.heap H locs ∧ lv_has ls 4 [(0, .ref (aM 0)), (1, .int p1), (2, .int r_1), (3, .int v.1)]) 3000 (v3_6, zM_4) (fun _ _ _ _ h => no_none h.1) ⟨hF, hP, hD, hS, lv_sub hl [2, 3, 1, 0] rfl⟩ ?_
      clear hF hP hD hS hl
      intro n ih_9 vq H locs ls hI
      obtain ⟨v3_7, zM_8⟩ := vq
      obtain ⟨hF, hP, hD, hS, hl⟩ := hI
      have hP : va_P D vwCl (wcM ci aM zM_8) H := hP
      have hD : va_D A (wcM ci aM zM_8) := hD
      have hl : lv_has ls 4 [(0, .ref (aM 0)), (1, .int p1), (2, .int r_1), (3, .int v3_7)] := hl
      replace hF : L_X7_year_18 p1 r_1 (n + 1) v3_7 zM_8 = some (v3_11, zM_12) := hF
      rw [L_X7_year_18] at hF
      refine lv_iload_n hx hb dX7_year_18 rfl (lv_at hl 3 rfl) ?_
      refine lv_iload_n hx hb dX7_year_19 rfl (lv_at hl 1 rfl) ?_
      refine lv_icmp_ge (tgt := 33) hx hb dX7_year_20 (by decide) (fun c_13 => ?_) (fun c_13 => ?_)
      · replace hF := if_i c_13 hF
        obtain ⟨g_14, g_15⟩ : v3_7 = v3_11 ∧ zM_8 = zM_12 := by have h9 := Option.some.inj hF; simpa only [Prod.mk.injEq] using h9
        subst g_14
        subst g_15
        exact J_10 H locs ls ⟨hP, hD, hS, lv_sub hl [0, 1, 2, 3] rfl⟩
      · replace hF := if_o c_13 hF
        refine lv_aload_n hx hb dX7_year_23 rfl (lv_at hl 0 rfl) ?_
        replace hF := bnd hF
        obtain ⟨zM_16, hc_17, hF⟩ := hF
        refine cl_Vv0 (As := []) (rest := []) ⟨hx, hb, hml, hown, hts⟩ (cwV 0 hts gX7_year_X7_pass rfl rfl rfl (by decide +kernel) ⟨Nat.le_of_ble_eq_true rfl, Nat.le_of_ble_eq_true rfl⟩) (c_X7_pass l D ci aM H.size zM_8 _ hc_17) hK hP hD hS hA 0 rfl rfl rfl rfl hl.1 (Nat.le_of_ble_eq_true rfl) dX7_year_24 (Nat.zero_le _) (Nat.zero_le _) (fun H locs hP hD hS => ?_)
        have hP : va_P D vwCl (wcM ci aM zM_16) H := hP
        have hD : va_D A (wcM ci aM zM_16) := hD
        obtain ⟨v3_18, ev3_18⟩ : ∃ y : Int32, y = v3_7 + 1 := ⟨_, rfl⟩
        replace hF := nm_i hF ev3_18
        refine lv_iinc (v := v3_18) (lv' := [(3, .int v3_18), (0, .ref (aM 0)), (1, .int p1), (2, .int r_1)]) hx hb dX7_year_27 hl (k := 3) rfl (by rw [ev3_18]; rfl) (by decide) rfl (fun ls hl => ?_)
        refine lv_goto (tgt := 18) hx hb dX7_year_30 (by decide) ?_
        exact ih_9 (v3_18, zM_16) H locs ls ⟨hF, hP, hD, hS, lv_sub hl [1, 2, 3, 0] rfl⟩
  · replace hF := if_o c_3 hF
    refine lv_iload_n hx hb dX7_year_10 rfl (lv_at hl 0 rfl) ?_
    obtain rfl := Option.some.inj hF
    exact W.iret (v := r_1) hx hb hr (fun t ht hW => ⟨⟨_, (), rfl, rfl, by rw [ht]; exact hP, va_K.moved hW.alike hK, hD⟩, hS.F ht⟩) hS.2.2 dX7_year_11
noncomputable def f_X7_draw (zM : MS) (p1 : Int32) : Option (Int32 × MS) := dvl (2147483648 : Int64) <| nm (Int64.toInt32 ((((Int32.toInt64 (zM.1 9)) * 1103515245) + 12345) - (((Int32.toInt64 (zM.1 9)) * 1103515245) + 12345) / 2147483648 * 2147483648)) fun f9_2 => nm ((upd zM.1 9 f9_2, zM.2) : MS) fun zM_3 => dvi (65536 : Int32) <| dvi p1 <| some ((((zM_3.1 9) / 65536) - ((zM_3.1 9) / 65536) / p1 * p1), zM_3)
set_option maxHeartbeats 4000000 in
set_option maxRecDepth 100000 in
theorem c_X7_draw (l : Launch) (D : va_G) (ci : Nat → ClassId) (aM : Nat → Nat) (sz : Nat) (zM : MS) (p1 : Int32) (res : Int32 × MS) (hF : f_X7_draw zM p1 = some res) : CtI l yX7_draw wsX7_draw { frames := 0, cells := 0, slots := 0, locals := 0 } [.ref (aM 0), .int p1] D ci (wcM ci aM zM) sz res.1 (wcM ci aM res.2) := by
  refine Met.ofW (cc := cX7_draw) (maxL := 2) (ret := (some .int)) (by decide) rfl ?_
  intro p e s m args below meth c s₁ B hml hv
  obtain ⟨rfl, hsz, hP, hK, hD0⟩ := hv
  have hx := B.exec
  have hb := B.bytes
  have hr := B.returns
  have hts := atoms_spec (ws := wsX7_draw) B.pre
  have hown : s.vm.findClass RX7 = some m.cls := findClass_of_methodNamed B.named
  have hlocks := B.notSynchronized
  subst hsz
  have hD := hD0.self (sz := s.heap.size)
  generalize hAe : va_A (wcM ci aM zM) s.heap.size = A at hD ⊢
  have hA : ∀ q : Nat, s.heap.size ≤ q → A q := fun q h => by rw [← hAe]; exact Or.inr h
  clear hD0 hAe
  have hl := lv_entry ([.ref (aM 0), .int p1]) (n := 2) (Nat.le_of_ble_eq_true rfl)
  rw [lg_entry_eq]
  generalize (lg_sl ([.ref (aM 0), .int p1]) ++ List.replicate (2 - (lg_sl ([.ref (aM 0), .int p1])).length) Slot.unset).toArray = ls at hl ⊢
  have hl : lv_has ls 2 [(0, .ref (aM 0)), (1, .int p1)] := hl
  have hP : va_P D vwCl (wcM ci aM zM) s.heap := hP
  generalize hH0 : s.heap = H at hP ⊢
  have hS : va_S A s.heap H [] := by rw [← hH0]; exact va_S.rf
  clear hH0
  generalize ([] : List Loc) = locs at hS ⊢
  have hk_0 := hts (.fieldLink RX7 242 "HedgeWarModel" "seed" "I") (by decide +kernel)
  have hin_RX7 : ∀ w ∈ wsX70, w ∈ wsX7_draw := by decide +kernel
  have hk_2 := hts (.constantLong RX7 245 (1103515245)) (by decide +kernel)
  have hk_3 := hts (.constantLong RX7 247 (12345)) (by decide +kernel)
  have hk_4 := hts (.constantLong RX7 249 (2147483648)) (by decide +kernel)
  have hk_5 := hts (.constant RX7 251 (65536)) (by decide +kernel)
  unfold f_X7_draw at hF
  refine lv_aload_n hx hb dX7_draw_0 rfl (lv_at hl 0 rfl) ?_
  refine lv_aload_n hx hb dX7_draw_1 rfl (lv_at hl 0 rfl) ?_
  refine va_get (D := D) (ci := 7) (v := .int (zM.1 9)) (C := RX7) (T := TX7) (N := 38) hx hb hts hin_RX7 hown hK hP 0 rfl rfl 9 (by decide) hk_0 (fun _ h9 => h9) rfl dX7_draw_2 ?_
  refine lv_i2l (v := (Int32.toInt64 (zM.1 9))) hx hb dX7_draw_5 rfl ?_
  refine lv_ldc2 (v := 1103515245) hx hb hown hk_2 dX7_draw_6 ?_
  refine lv_lmul hx hb dX7_draw_9 ?_
  refine lv_ldc2 (v := 12345) hx hb hown hk_3 dX7_draw_10 ?_
  refine lv_ladd hx hb dX7_draw_13 ?_
  refine lv_ldc2 (v := 2147483648) hx hb hown hk_4 dX7_draw_14 ?_
  replace hF := dvl_i hF
  obtain ⟨hne_1, hF⟩ := hF
  refine lv_lrem hx hb dX7_draw_17 hne_1 ?_
  refine lv_l2i (v := (Int64.toInt32 ((((Int32.toInt64 (zM.1 9)) * 1103515245) + 12345) - (((Int32.toInt64 (zM.1 9)) * 1103515245) + 12345) / 2147483648 * 2147483648))) hx hb dX7_draw_18 rfl ?_
  refine lv_topi (fun f9_2 ef9_2 => ?_)
  replace hF := nm_i hF ef9_2
  refine va_put (D := D) (ci := 7) (v := .int f9_2) (ty := .int) (C := RX7) (T := TX7) (N := 38) hx hb hts hin_RX7 tyX7 tyX7_ok nmX7 hown hK hP hD hS 0 rfl rfl 9 (by decide) hk_0 (fun _ h9 => h9) rfl (by decide +kernel) rfl rfl (Nat.le_of_ble_eq_true rfl) dX7_draw_19 (fun H locs hP hD hS => ?_)
  obtain ⟨zM_3, ezM_3⟩ : ∃ y : MS, y = (upd zM.1 9 f9_2, zM.2) := ⟨_, rfl⟩
  replace hF := nm_i hF ezM_3
  have hP : va_P D vwCl (wcM ci aM zM_3) H := by rw [ezM_3]; exact hP
  have hD : va_D A (wcM ci aM zM_3) := by rw [ezM_3]; exact hD
  refine lv_aload_n hx hb dX7_draw_22 rfl (lv_at hl 0 rfl) ?_
  refine va_get (D := D) (ci := 7) (v := .int (zM_3.1 9)) (C := RX7) (T := TX7) (N := 38) hx hb hts hin_RX7 hown hK hP 0 rfl rfl 9 (by decide) hk_0 (fun _ h9 => h9) rfl dX7_draw_23 ?_
  refine lv_ldc (v := 65536) hx hb hown hk_5 dX7_draw_26 ?_
  replace hF := dvi_i hF
  obtain ⟨hne_4, hF⟩ := hF
  refine lv_idiv hx hb dX7_draw_28 hne_4 ?_
  refine lv_iload_n hx hb dX7_draw_29 rfl (lv_at hl 1 rfl) ?_
  replace hF := dvi_i hF
  obtain ⟨hne_5, hF⟩ := hF
  refine lv_irem hx hb dX7_draw_30 hne_5 ?_
  obtain rfl := Option.some.inj hF
  exact W.iret (v := (((zM_3.1 9) / 65536) - ((zM_3.1 9) / 65536) / p1 * p1)) hx hb hr (fun t ht hW => ⟨⟨_, (), rfl, rfl, by rw [ht]; exact hP, va_K.moved hW.alike hK, hD⟩, hS.F ht⟩) hS.2.2 dX7_draw_31
noncomputable def L_X7_drift_18 (p1 : Int32) (r_1 : Int32) : Nat → Int32 → MS → Option (Int32 × MS)
  | 0, _, _ => none
  | n + 1, v3_7, zM_8 => if p1 ≤ v3_7 then (some (v3_7, zM_8)) else ((f_X7_draw zM_8 (zM_8.1 3)).bind fun q_19 => nm q_19.1 fun r_16 => nm q_19.2 fun zM_17 => (f_X7_draw zM_17 (2 : Int32)).bind fun q_23 => nm q_23.1 fun r_20 => nm q_23.2 fun zM_21 => (f_X7_mayPlant zM_21 r_16).bind fun r_24 => (if r_24 = 0 then (some (zM_21 : MS)) else ((f_X7_plantNow zM_21 r_16 r_20).bind fun zM_29 => some (zM_29 : MS))).bind fun zM_26 => (f_X7_pass zM_26).bind fun zM_32 => nm (v3_7 + 1) fun v3_34 => L_X7_drift_18 p1 r_1 n v3_34 zM_32)
noncomputable def f_X7_drift (zM : MS) (p1 : Int32) : Option (Int32 × MS) := (f_X7_yearsRefused zM p1).bind fun r_1 => if r_1 = 0 then ((f_X7_remember zM).bind fun zM_4 => nm (0 : Int32) fun v3_6 => (L_X7_drift_18 p1 r_1 3000 v3_6 zM_4).bind fun q_40 => nm q_40.1 fun v3_11 => nm q_40.2 fun zM_12 => ald 122 (zM_12.2 8) (120 : Int32) fun x_37 => (f_X7_bits x_37).bind fun r_38 => some (r_38, zM_12)) else (some (r_1, zM))
set_option maxHeartbeats 4000000 in
set_option maxRecDepth 100000 in
theorem c_X7_drift (l : Launch) (D : va_G) (ci : Nat → ClassId) (aM : Nat → Nat) (sz : Nat) (zM : MS) (p1 : Int32) (res : Int32 × MS) (hF : f_X7_drift zM p1 = some res) : CtI l yX7_drift wsX7_drift { frames := 5, cells := 0, slots := 0, locals := 115 } [.ref (aM 0), .int p1] D ci (wcM ci aM zM) sz res.1 (wcM ci aM res.2) := by
  refine Met.ofW (cc := cX7_drift) (maxL := 6) (ret := (some .int)) (by decide) rfl ?_
  intro p e s m args below meth c s₁ B hml hv
  obtain ⟨rfl, hsz, hP, hK, hD0⟩ := hv
  have hx := B.exec
  have hb := B.bytes
  have hr := B.returns
  have hts := atoms_spec (ws := wsX7_drift) B.pre
  have hown : s.vm.findClass RX7 = some m.cls := findClass_of_methodNamed B.named
  have hlocks := B.notSynchronized
  subst hsz
  have hD := hD0.self (sz := s.heap.size)
  generalize hAe : va_A (wcM ci aM zM) s.heap.size = A at hD ⊢
  have hA : ∀ q : Nat, s.heap.size ≤ q → A q := fun q h => by rw [← hAe]; exact Or.inr h
  clear hD0 hAe
  have hl := lv_entry ([.ref (aM 0), .int p1]) (n := 6) (Nat.le_of_ble_eq_true rfl)
  rw [lg_entry_eq]
  generalize (lg_sl ([.ref (aM 0), .int p1]) ++ List.replicate (6 - (lg_sl ([.ref (aM 0), .int p1])).length) Slot.unset).toArray = ls at hl ⊢
  have hl : lv_has ls 6 [(0, .ref (aM 0)), (1, .int p1)] := hl
  have hP : va_P D vwCl (wcM ci aM zM) s.heap := hP
  generalize hH0 : s.heap = H at hP ⊢
  have hS : va_S A s.heap H [] := by rw [← hH0]; exact va_S.rf
  clear hH0
  generalize ([] : List Loc) = locs at hS ⊢
  have hk_0 := hts (.fieldLink RX7 91 "HedgeWarModel" "edges" "I") (by decide +kernel)
  have hin_RX7 : ∀ w ∈ wsX70, w ∈ wsX7_drift := by decide +kernel
  have hk_2 := hts (.fieldLink RX7 23 "HedgeWarModel" "now" "[I") (by decide +kernel)
  unfold f_X7_drift at hF
  refine lv_aload_n hx hb dX7_drift_0 rfl (lv_at hl 0 rfl) ?_
  refine lv_iload_n hx hb dX7_drift_1 rfl (lv_at hl 1 rfl) ?_
  replace hF := bnd hF
  obtain ⟨r_1, hc_2, hF⟩ := hF
  refine cl_Vi0 (As := [.int p1]) (rest := []) ⟨hx, hb, hml, hown, hts⟩ (cwV 1 hts gX7_drift_X7_yearsRefused rfl rfl rfl (by decide +kernel) ⟨Nat.le_of_ble_eq_true rfl, Nat.le_of_ble_eq_true rfl⟩) (c_X7_yearsRefused l D ci aM H.size zM p1 _ hc_2) hK hP hD hS hA 0 rfl rfl rfl rfl hl.1 (Nat.le_of_ble_eq_true rfl) dX7_drift_2 (Nat.zero_le _) (Nat.zero_le _) (fun H locs hP hD hS => ?_)
  have hP : va_P D vwCl (wcM ci aM zM) H := hP
  have hD : va_D A (wcM ci aM zM) := hD
  refine lv_istore_n (lv' := [(2, .int r_1), (0, .ref (aM 0)), (1, .int p1)]) hx hb dX7_drift_5 rfl hl (by decide) rfl (fun ls hl => ?_)
  refine lv_iload_n hx hb dX7_drift_6 rfl (lv_at hl 0 rfl) ?_
  refine lv_if_eq (tgt := 12) hx hb dX7_drift_7 (by decide) (fun c_3 => ?_) (fun c_3 => ?_)
  · replace hF := if_i c_3 hF
    refine lv_aload_n hx hb dX7_drift_12 rfl (lv_at hl 1 rfl) ?_
    replace hF := bnd hF
    obtain ⟨zM_4, hc_5, hF⟩ := hF
    refine cl_Vv0 (As := []) (rest := []) ⟨hx, hb, hml, hown, hts⟩ (cwV 0 hts gX7_drift_X7_remember rfl rfl rfl (by decide +kernel) ⟨Nat.le_of_ble_eq_true rfl, Nat.le_of_ble_eq_true rfl⟩) (c_X7_remember l D ci aM H.size zM _ hc_5) hK hP hD hS hA 0 rfl rfl rfl rfl hl.1 (Nat.le_of_ble_eq_true rfl) dX7_drift_13 (Nat.zero_le _) (Nat.zero_le _) (fun H locs hP hD hS => ?_)
    have hP : va_P D vwCl (wcM ci aM zM_4) H := hP
    have hD : va_D A (wcM ci aM zM_4) := hD
    refine lv_iconst (v := 0) hx hb dX7_drift_16 (by decide) ?_
    refine lv_topi (fun v3_6 ev3_6 => ?_)
    replace hF := nm_i hF ev3_6
    refine lv_istore_n (lv' := [(3, .int v3_6), (2, .int r_1), (0, .ref (aM 0)), (1, .int p1)]) hx hb dX7_drift_17 rfl hl (by decide) rfl (fun ls hl => ?_)
    replace hF := bnd hF
    obtain ⟨q_40, hv_35, hF⟩ := hF
    obtain ⟨v3_11, ev3_11⟩ : ∃ y : Int32, y = q_40.1 := ⟨_, rfl⟩
    replace hF := nm_i hF ev3_11
    obtain ⟨zM_12, ezM_12⟩ : ∃ y : MS, y = q_40.2 := ⟨_, rfl⟩
    replace hF := nm_i hF ezM_12
    obtain rfl : q_40 = (v3_11, zM_12) := by rw [ev3_11, ezM_12]
    clear ev3_11
    clear ezM_12
    refine jn (P := fun H locs ls => va_P D vwCl (wcM ci aM zM_12) H ∧ va_D A (wcM ci aM zM_12) ∧ va_S A s.heap H locs ∧ lv_has ls 6 [(0, .ref (aM 0)), (1, .int p1), (2, .int r_1), (3, .int v3_11)]) (pcJ := 67) (st := []) ?_ ?_
    · intro H locs ls hJ
      obtain ⟨hP, hD, hS, hl⟩ := hJ
      refine lv_aload_n hx hb dX7_drift_67 rfl (lv_at hl 0 rfl) ?_
      refine va_get (D := D) (ci := 7) (v := .ref (aM 8)) (C := RX7) (T := TX7) (N := 38) hx hb hts hin_RX7 hown hK hP 0 rfl rfl 8 (by decide) hk_2 (fun _ h9 => h9) rfl dX7_drift_68 ?_
      refine lv_bipush (v := 120) hx hb dX7_drift_71 (by decide) ?_
      replace hF := ald_i hF
      obtain ⟨hin_36, hF⟩ := hF
      refine va_iald hx hb hK hP 5 0 rfl rfl hin_36 dX7_drift_73 ?_
      refine lv_topi (fun x_37 ex_37 => ?_)
      replace hF := nm_i hF ex_37
      replace hF := bnd hF
      obtain ⟨r_38, hc_39, hF⟩ := hF
      refine cl_Sie (As := [.int x_37]) (rest := []) ⟨hx, hb, hml, hown, hts⟩ (va_cwS 1 hts gX7_drift_X7_bits rfl rfl rfl (by decide +kernel) ⟨Nat.le_of_ble_eq_true rfl, Nat.le_of_ble_eq_true rfl⟩) (c_X7_bits l D ci  H.size x_37 _ hc_39) hK hP hD hS hA rfl rfl hl.1 (Nat.le_of_ble_eq_true rfl) dX7_drift_74 (Nat.zero_le _) (Nat.zero_le _) (fun H locs hP hD hS => ?_)
      have hP : va_P D vwCl (wcM ci aM zM_12) H := hP
      have hD : va_D A (wcM ci aM zM_12) := hD
      obtain rfl := Option.some.inj hF
      exact W.iret (v := r_38) hx hb hr (fun t ht hW => ⟨⟨_, (), rfl, rfl, by rw [ht]; exact hP, va_K.moved hW.alike hK, hD⟩, hS.F ht⟩) hS.2.2 dX7_drift_77
    · intro J_10
      clear hF
      have hF := hv_35
      refine lpW (σ := Int32 × MS) (I := fun n v H locs ls => L_X7_drift_18 p1 r_1 n v.1 v.2 = some (v3_11, zM_12) ∧ va_P D vwCl (wcM ci aM v.2) H ∧ va_D A (wcM ci aM v.2) ∧ va_S A s.heap H locs ∧ lv_has ls 6 [(0, .ref (aM 0)), (1, .int p1), (2, .int r_1), (3, .int v.1)]) 3000 (v3_6, zM_4) (fun _ _ _ _ h => no_none h.1) ⟨hF, hP, hD, hS, lv_sub hl [2, 3, 1, 0] rfl⟩ ?_
      clear hF hP hD hS hl
      intro n ih_9 vq H locs ls hI
      obtain ⟨v3_7, zM_8⟩ := vq
      obtain ⟨hF, hP, hD, hS, hl⟩ := hI
      have hP : va_P D vwCl (wcM ci aM zM_8) H := hP
      have hD : va_D A (wcM ci aM zM_8) := hD
      have hl : lv_has ls 6 [(0, .ref (aM 0)), (1, .int p1), (2, .int r_1), (3, .int v3_7)] := hl
      replace hF : L_X7_drift_18 p1 r_1 (n + 1) v3_7 zM_8 = some (v3_11, zM_12) := hF
      rw [L_X7_drift_18] at hF
      refine lv_iload_n hx hb dX7_drift_18 rfl (lv_at hl 3 rfl) ?_
      refine lv_iload_n hx hb dX7_drift_19 rfl (lv_at hl 1 rfl) ?_
      refine lv_icmp_ge (tgt := 67) hx hb dX7_drift_20 (by decide) (fun c_13 => ?_) (fun c_13 => ?_)
      · replace hF := if_i c_13 hF
        obtain ⟨g_14, g_15⟩ : v3_7 = v3_11 ∧ zM_8 = zM_12 := by have h9 := Option.some.inj hF; simpa only [Prod.mk.injEq] using h9
        subst g_14
        subst g_15
        exact J_10 H locs ls ⟨hP, hD, hS, lv_sub hl [0, 1, 2, 3] rfl⟩
      · replace hF := if_o c_13 hF
        refine lv_aload_n hx hb dX7_drift_23 rfl (lv_at hl 0 rfl) ?_
        refine lv_aload_n hx hb dX7_drift_24 rfl (lv_at hl 0 rfl) ?_
        refine va_get (D := D) (ci := 7) (v := .int (zM_8.1 3)) (C := RX7) (T := TX7) (N := 38) hx hb hts hin_RX7 hown hK hP 0 rfl rfl 3 (by decide) hk_0 (fun _ h9 => h9) rfl dX7_drift_25 ?_
        replace hF := bnd hF
        obtain ⟨q_19, hc_18, hF⟩ := hF
        obtain ⟨r_16, er_16⟩ : ∃ y : Int32, y = q_19.1 := ⟨_, rfl⟩
        replace hF := nm_i hF er_16
        obtain ⟨zM_17, ezM_17⟩ : ∃ y : MS, y = q_19.2 := ⟨_, rfl⟩
        replace hF := nm_i hF ezM_17
        obtain rfl : q_19 = (r_16, zM_17) := by rw [er_16, ezM_17]
        clear er_16
        clear ezM_17
        refine cl_Vi0 (As := [.int (zM_8.1 3)]) (rest := []) ⟨hx, hb, hml, hown, hts⟩ (cwV 1 hts gX7_drift_X7_draw rfl rfl rfl (by decide +kernel) ⟨Nat.le_of_ble_eq_true rfl, Nat.le_of_ble_eq_true rfl⟩) (c_X7_draw l D ci aM H.size zM_8 (zM_8.1 3) _ hc_18) hK hP hD hS hA 0 rfl rfl rfl rfl hl.1 (Nat.le_of_ble_eq_true rfl) dX7_drift_28 (Nat.zero_le _) (Nat.zero_le _) (fun H locs hP hD hS => ?_)
        have hP : va_P D vwCl (wcM ci aM zM_17) H := hP
        have hD : va_D A (wcM ci aM zM_17) := hD
        refine lv_istore (lv' := [(4, .int r_16), (0, .ref (aM 0)), (1, .int p1), (2, .int r_1), (3, .int v3_7)]) hx hb dX7_drift_31 hl (by decide) rfl (fun ls hl => ?_)
        refine lv_aload_n hx hb dX7_drift_33 rfl (lv_at hl 1 rfl) ?_
        refine lv_iconst (v := 2) hx hb dX7_drift_34 (by decide) ?_
        replace hF := bnd hF
        obtain ⟨q_23, hc_22, hF⟩ := hF
        obtain ⟨r_20, er_20⟩ : ∃ y : Int32, y = q_23.1 := ⟨_, rfl⟩
        replace hF := nm_i hF er_20
        obtain ⟨zM_21, ezM_21⟩ : ∃ y : MS, y = q_23.2 := ⟨_, rfl⟩
        replace hF := nm_i hF ezM_21
        obtain rfl : q_23 = (r_20, zM_21) := by rw [er_20, ezM_21]
        clear er_20
        clear ezM_21
        refine cl_Vi0 (As := [.int 2]) (rest := []) ⟨hx, hb, hml, hown, hts⟩ (cwV 1 hts gX7_drift_X7_draw rfl rfl rfl (by decide +kernel) ⟨Nat.le_of_ble_eq_true rfl, Nat.le_of_ble_eq_true rfl⟩) (c_X7_draw l D ci aM H.size zM_17 (2 : Int32) _ hc_22) hK hP hD hS hA 0 rfl rfl rfl rfl hl.1 (Nat.le_of_ble_eq_true rfl) dX7_drift_35 (Nat.zero_le _) (Nat.zero_le _) (fun H locs hP hD hS => ?_)
        have hP : va_P D vwCl (wcM ci aM zM_21) H := hP
        have hD : va_D A (wcM ci aM zM_21) := hD
        refine lv_istore (lv' := [(5, .int r_20), (4, .int r_16), (0, .ref (aM 0)), (1, .int p1), (2, .int r_1), (3, .int v3_7)]) hx hb dX7_drift_38 hl (by decide) rfl (fun ls hl => ?_)
        refine lv_aload_n hx hb dX7_drift_40 rfl (lv_at hl 2 rfl) ?_
        refine lv_iload hx hb dX7_drift_41 (lv_at hl 1 rfl) ?_
        replace hF := bnd hF
        obtain ⟨r_24, hc_25, hF⟩ := hF
        refine cl_Vi0 (As := [.int r_16]) (rest := []) ⟨hx, hb, hml, hown, hts⟩ (cwV 1 hts gX7_drift_X7_mayPlant rfl rfl rfl (by decide +kernel) ⟨Nat.le_of_ble_eq_true rfl, Nat.le_of_ble_eq_true rfl⟩) (c_X7_mayPlant l D ci aM H.size zM_21 r_16 _ hc_25) hK hP hD hS hA 0 rfl rfl rfl rfl hl.1 (Nat.le_of_ble_eq_true rfl) dX7_drift_43 (Nat.zero_le _) (Nat.zero_le _) (fun H locs hP hD hS => ?_)
        have hP : va_P D vwCl (wcM ci aM zM_21) H := hP
        have hD : va_D A (wcM ci aM zM_21) := hD
        replace hF := bnd hF
        obtain ⟨zM_26, hv_31, hF⟩ := hF
        refine jn (P := fun H locs ls => va_P D vwCl (wcM ci aM zM_26) H ∧ va_D A (wcM ci aM zM_26) ∧ va_S A s.heap H locs ∧ lv_has ls 6 [(0, .ref (aM 0)), (1, .int p1), (2, .int r_1), (3, .int v3_7), (4, .int r_16), (5, .int r_20)]) (pcJ := 57) (st := []) ?_ ?_
        · intro H locs ls hJ
          obtain ⟨hP, hD, hS, hl⟩ := hJ
          refine lv_aload_n hx hb dX7_drift_57 rfl (lv_at hl 0 rfl) ?_
          replace hF := bnd hF
          obtain ⟨zM_32, hc_33, hF⟩ := hF
          refine cl_Vv0 (As := []) (rest := []) ⟨hx, hb, hml, hown, hts⟩ (cwV 0 hts gX7_drift_X7_pass rfl rfl rfl (by decide +kernel) ⟨Nat.le_of_ble_eq_true rfl, Nat.le_of_ble_eq_true rfl⟩) (c_X7_pass l D ci aM H.size zM_26 _ hc_33) hK hP hD hS hA 0 rfl rfl rfl rfl hl.1 (Nat.le_of_ble_eq_true rfl) dX7_drift_58 (Nat.zero_le _) (Nat.zero_le _) (fun H locs hP hD hS => ?_)
          have hP : va_P D vwCl (wcM ci aM zM_32) H := hP
          have hD : va_D A (wcM ci aM zM_32) := hD
          obtain ⟨v3_34, ev3_34⟩ : ∃ y : Int32, y = v3_7 + 1 := ⟨_, rfl⟩
          replace hF := nm_i hF ev3_34
          refine lv_iinc (v := v3_34) (lv' := [(3, .int v3_34), (0, .ref (aM 0)), (1, .int p1), (2, .int r_1), (4, .int r_16), (5, .int r_20)]) hx hb dX7_drift_61 hl (k := 3) rfl (by rw [ev3_34]; rfl) (by decide) rfl (fun ls hl => ?_)
          refine lv_goto (tgt := 18) hx hb dX7_drift_64 (by decide) ?_
          exact ih_9 (v3_34, zM_32) H locs ls ⟨hF, hP, hD, hS, lv_sub hl [1, 2, 3, 0] rfl⟩
        · intro J_27
          clear hF
          have hF := hv_31
          refine lv_if_eq (tgt := 57) hx hb dX7_drift_46 (by decide) (fun c_28 => ?_) (fun c_28 => ?_)
          · replace hF := if_i c_28 hF
            obtain rfl := Option.some.inj hF
            exact J_27 H locs ls ⟨hP, hD, hS, lv_sub hl [2, 3, 4, 5, 1, 0] rfl⟩
          · replace hF := if_o c_28 hF
            refine lv_aload_n hx hb dX7_drift_49 rfl (lv_at hl 2 rfl) ?_
            refine lv_iload hx hb dX7_drift_50 (lv_at hl 1 rfl) ?_
            refine lv_iload hx hb dX7_drift_52 (lv_at hl 0 rfl) ?_
            replace hF := bnd hF
            obtain ⟨zM_29, hc_30, hF⟩ := hF
            refine cl_Vv0 (As := [.int r_16, .int r_20]) (rest := []) ⟨hx, hb, hml, hown, hts⟩ (cwV 2 hts gX7_drift_X7_plantNow rfl rfl rfl (by decide +kernel) ⟨Nat.le_of_ble_eq_true rfl, Nat.le_of_ble_eq_true rfl⟩) (c_X7_plantNow l D ci aM H.size zM_21 r_16 r_20 _ hc_30) hK hP hD hS hA 0 rfl rfl rfl rfl hl.1 (Nat.le_of_ble_eq_true rfl) dX7_drift_54 (Nat.zero_le _) (Nat.zero_le _) (fun H locs hP hD hS => ?_)
            have hP : va_P D vwCl (wcM ci aM zM_29) H := hP
            have hD : va_D A (wcM ci aM zM_29) := hD
            obtain rfl := Option.some.inj hF
            exact J_27 H locs ls ⟨hP, hD, hS, lv_sub hl [2, 3, 4, 5, 1, 0] rfl⟩
  · replace hF := if_o c_3 hF
    refine lv_iload_n hx hb dX7_drift_10 rfl (lv_at hl 0 rfl) ?_
    obtain rfl := Option.some.inj hF
    exact W.iret (v := r_1) hx hb hr (fun t ht hW => ⟨⟨_, (), rfl, rfl, by rw [ht]; exact hP, va_K.moved hW.alike hK, hD⟩, hS.F ht⟩) hS.2.2 dX7_drift_11
noncomputable def L_X7_undo_22 : Nat → Int32 → MS → Option (Int32 × MS)
  | 0, _, _ => none
  | n + 1, v1_5, zM_6 => if (122 : Int32) ≤ v1_5 then (some (v1_5, zM_6)) else (ald 2440 (zM_6.2 23) ((122 * (zM_6.1 22)) + v1_5) fun x_15 => ast 122 v1_5 <| nm ((zM_6.1, va_up zM_6.2 8 (upd (zM_6.2 8) (Int32.toNatClampNeg v1_5) x_15)) : MS) fun zM_17 => nm (v1_5 + 1) fun v1_18 => L_X7_undo_22 n v1_18 zM_17)
noncomputable def f_X7_undo (zM : MS) : Option (Int32 × MS) := if (zM.1 22) = 0 then (some ((-1000000003 : Int32), zM)) else (nm ((zM.1 22) - 1) fun f22_2 => nm ((upd zM.1 22 f22_2, zM.2) : MS) fun zM_3 => nm (0 : Int32) fun v1_4 => (L_X7_undo_22 3000 v1_4 zM_3).bind fun q_20 => nm q_20.1 fun v1_9 => nm q_20.2 fun zM_10 => some ((zM_10.1 22), zM_10))
set_option maxHeartbeats 4000000 in
set_option maxRecDepth 100000 in
theorem c_X7_undo (l : Launch) (D : va_G) (ci : Nat → ClassId) (aM : Nat → Nat) (sz : Nat) (zM : MS) (res : Int32 × MS) (hF : f_X7_undo zM = some res) : CtI l yX7_undo wsX7_undo { frames := 0, cells := 0, slots := 0, locals := 0 } [.ref (aM 0)] D ci (wcM ci aM zM) sz res.1 (wcM ci aM res.2) := by
  refine Met.ofW (cc := cX7_undo) (maxL := 2) (ret := (some .int)) (by decide) rfl ?_
  intro p e s m args below meth c s₁ B hml hv
  obtain ⟨rfl, hsz, hP, hK, hD0⟩ := hv
  have hx := B.exec
  have hb := B.bytes
  have hr := B.returns
  have hts := atoms_spec (ws := wsX7_undo) B.pre
  have hown : s.vm.findClass RX7 = some m.cls := findClass_of_methodNamed B.named
  have hlocks := B.notSynchronized
  subst hsz
  have hD := hD0.self (sz := s.heap.size)
  generalize hAe : va_A (wcM ci aM zM) s.heap.size = A at hD ⊢
  have hA : ∀ q : Nat, s.heap.size ≤ q → A q := fun q h => by rw [← hAe]; exact Or.inr h
  clear hD0 hAe
  have hl := lv_entry ([.ref (aM 0)]) (n := 2) (Nat.le_of_ble_eq_true rfl)
  rw [lg_entry_eq]
  generalize (lg_sl ([.ref (aM 0)]) ++ List.replicate (2 - (lg_sl ([.ref (aM 0)])).length) Slot.unset).toArray = ls at hl ⊢
  have hl : lv_has ls 2 [(0, .ref (aM 0))] := hl
  have hP : va_P D vwCl (wcM ci aM zM) s.heap := hP
  generalize hH0 : s.heap = H at hP ⊢
  have hS : va_S A s.heap H [] := by rw [← hH0]; exact va_S.rf
  clear hH0
  generalize ([] : List Loc) = locs at hS ⊢
  have hk_0 := hts (.fieldLink RX7 181 "HedgeWarModel" "undos" "I") (by decide +kernel)
  have hin_RX7 : ∀ w ∈ wsX70, w ∈ wsX7_undo := by decide +kernel
  have hk_2 := hts (.fieldLink RX7 23 "HedgeWarModel" "now" "[I") (by decide +kernel)
  have hk_3 := hts (.fieldLink RX7 48 "HedgeWarModel" "past" "[I") (by decide +kernel)
  have hk_4 := hts (.constant RX7 226 (-1000000003)) (by decide +kernel)
  unfold f_X7_undo at hF
  refine lv_aload_n hx hb dX7_undo_0 rfl (lv_at hl 0 rfl) ?_
  refine va_get (D := D) (ci := 7) (v := .int (zM.1 22)) (C := RX7) (T := TX7) (N := 38) hx hb hts hin_RX7 hown hK hP 0 rfl rfl 22 (by decide) hk_0 (fun _ h9 => h9) rfl dX7_undo_1 ?_
  refine lv_if_ne (tgt := 10) hx hb dX7_undo_4 (by decide) (fun c_1 => ?_) (fun c_1 => ?_)
  · replace hF := if_o c_1 hF
    refine lv_aload_n hx hb dX7_undo_10 rfl (lv_at hl 0 rfl) ?_
    refine lv_dup hx hb dX7_undo_11 rfl ?_
    refine va_get (D := D) (ci := 7) (v := .int (zM.1 22)) (C := RX7) (T := TX7) (N := 38) hx hb hts hin_RX7 hown hK hP 0 rfl rfl 22 (by decide) hk_0 (fun _ h9 => h9) rfl dX7_undo_12 ?_
    refine lv_iconst (v := 1) hx hb dX7_undo_15 (by decide) ?_
    refine lv_isub hx hb dX7_undo_16 ?_
    refine lv_topi (fun f22_2 ef22_2 => ?_)
    replace hF := nm_i hF ef22_2
    refine va_put (D := D) (ci := 7) (v := .int f22_2) (ty := .int) (C := RX7) (T := TX7) (N := 38) hx hb hts hin_RX7 tyX7 tyX7_ok nmX7 hown hK hP hD hS 0 rfl rfl 22 (by decide) hk_0 (fun _ h9 => h9) rfl (by decide +kernel) rfl rfl (Nat.le_of_ble_eq_true rfl) dX7_undo_17 (fun H locs hP hD hS => ?_)
    obtain ⟨zM_3, ezM_3⟩ : ∃ y : MS, y = (upd zM.1 22 f22_2, zM.2) := ⟨_, rfl⟩
    replace hF := nm_i hF ezM_3
    have hP : va_P D vwCl (wcM ci aM zM_3) H := by rw [ezM_3]; exact hP
    have hD : va_D A (wcM ci aM zM_3) := by rw [ezM_3]; exact hD
    refine lv_iconst (v := 0) hx hb dX7_undo_20 (by decide) ?_
    refine lv_topi (fun v1_4 ev1_4 => ?_)
    replace hF := nm_i hF ev1_4
    refine lv_istore_n (lv' := [(1, .int v1_4), (0, .ref (aM 0))]) hx hb dX7_undo_21 rfl hl (by decide) rfl (fun ls hl => ?_)
    replace hF := bnd hF
    obtain ⟨q_20, hv_19, hF⟩ := hF
    obtain ⟨v1_9, ev1_9⟩ : ∃ y : Int32, y = q_20.1 := ⟨_, rfl⟩
    replace hF := nm_i hF ev1_9
    obtain ⟨zM_10, ezM_10⟩ : ∃ y : MS, y = q_20.2 := ⟨_, rfl⟩
    replace hF := nm_i hF ezM_10
    obtain rfl : q_20 = (v1_9, zM_10) := by rw [ev1_9, ezM_10]
    clear ev1_9
    clear ezM_10
    refine jn (P := fun H locs ls => va_P D vwCl (wcM ci aM zM_10) H ∧ va_D A (wcM ci aM zM_10) ∧ va_S A s.heap H locs ∧ lv_has ls 2 [(0, .ref (aM 0)), (1, .int v1_9)]) (pcJ := 54) (st := []) ?_ ?_
    · intro H locs ls hJ
      obtain ⟨hP, hD, hS, hl⟩ := hJ
      refine lv_aload_n hx hb dX7_undo_54 rfl (lv_at hl 0 rfl) ?_
      refine va_get (D := D) (ci := 7) (v := .int (zM_10.1 22)) (C := RX7) (T := TX7) (N := 38) hx hb hts hin_RX7 hown hK hP 0 rfl rfl 22 (by decide) hk_0 (fun _ h9 => h9) rfl dX7_undo_55 ?_
      obtain rfl := Option.some.inj hF
      exact W.iret (v := (zM_10.1 22)) hx hb hr (fun t ht hW => ⟨⟨_, (), rfl, rfl, by rw [ht]; exact hP, va_K.moved hW.alike hK, hD⟩, hS.F ht⟩) hS.2.2 dX7_undo_58
    · intro J_8
      clear hF
      have hF := hv_19
      refine lpW (σ := Int32 × MS) (I := fun n v H locs ls => L_X7_undo_22 n v.1 v.2 = some (v1_9, zM_10) ∧ va_P D vwCl (wcM ci aM v.2) H ∧ va_D A (wcM ci aM v.2) ∧ va_S A s.heap H locs ∧ lv_has ls 2 [(0, .ref (aM 0)), (1, .int v.1)]) 3000 (v1_4, zM_3) (fun _ _ _ _ h => no_none h.1) ⟨hF, hP, hD, hS, lv_sub hl [1, 0] rfl⟩ ?_
      clear hF hP hD hS hl
      intro n ih_7 vq H locs ls hI
      obtain ⟨v1_5, zM_6⟩ := vq
      obtain ⟨hF, hP, hD, hS, hl⟩ := hI
      have hP : va_P D vwCl (wcM ci aM zM_6) H := hP
      have hD : va_D A (wcM ci aM zM_6) := hD
      have hl : lv_has ls 2 [(0, .ref (aM 0)), (1, .int v1_5)] := hl
      replace hF : L_X7_undo_22 (n + 1) v1_5 zM_6 = some (v1_9, zM_10) := hF
      rw [L_X7_undo_22] at hF
      refine lv_iload_n hx hb dX7_undo_22 rfl (lv_at hl 1 rfl) ?_
      refine lv_bipush (v := 122) hx hb dX7_undo_23 (by decide) ?_
      refine lv_icmp_ge (tgt := 54) hx hb dX7_undo_25 (by decide) (fun c_11 => ?_) (fun c_11 => ?_)
      · replace hF := if_i c_11 hF
        obtain ⟨g_12, g_13⟩ : v1_5 = v1_9 ∧ zM_6 = zM_10 := by have h9 := Option.some.inj hF; simpa only [Prod.mk.injEq] using h9
        subst g_12
        subst g_13
        exact J_8 H locs ls ⟨hP, hD, hS, lv_sub hl [0, 1] rfl⟩
      · replace hF := if_o c_11 hF
        refine lv_aload_n hx hb dX7_undo_28 rfl (lv_at hl 0 rfl) ?_
        refine va_get (D := D) (ci := 7) (v := .ref (aM 8)) (C := RX7) (T := TX7) (N := 38) hx hb hts hin_RX7 hown hK hP 0 rfl rfl 8 (by decide) hk_2 (fun _ h9 => h9) rfl dX7_undo_29 ?_
        refine lv_iload_n hx hb dX7_undo_32 rfl (lv_at hl 1 rfl) ?_
        refine lv_aload_n hx hb dX7_undo_33 rfl (lv_at hl 0 rfl) ?_
        refine va_get (D := D) (ci := 7) (v := .ref (aM 23)) (C := RX7) (T := TX7) (N := 38) hx hb hts hin_RX7 hown hK hP 0 rfl rfl 23 (by decide) hk_3 (fun _ h9 => h9) rfl dX7_undo_34 ?_
        refine lv_bipush (v := 122) hx hb dX7_undo_37 (by decide) ?_
        refine lv_aload_n hx hb dX7_undo_39 rfl (lv_at hl 0 rfl) ?_
        refine va_get (D := D) (ci := 7) (v := .int (zM_6.1 22)) (C := RX7) (T := TX7) (N := 38) hx hb hts hin_RX7 hown hK hP 0 rfl rfl 22 (by decide) hk_0 (fun _ h9 => h9) rfl dX7_undo_40 ?_
        refine lv_imul hx hb dX7_undo_43 ?_
        refine lv_iload_n hx hb dX7_undo_44 rfl (lv_at hl 1 rfl) ?_
        refine lv_iadd hx hb dX7_undo_45 ?_
        replace hF := ald_i hF
        obtain ⟨hin_14, hF⟩ := hF
        refine va_iald hx hb hK hP 12 0 rfl rfl hin_14 dX7_undo_46 ?_
        refine lv_topi (fun x_15 ex_15 => ?_)
        replace hF := nm_i hF ex_15
        replace hF := ast_i hF
        obtain ⟨hin_16, hF⟩ := hF
        refine va_iast (x := x_15) hx hb hK hP hD hS 5 0 rfl rfl hin_16 dX7_undo_47 (fun H locs hP hD hS => ?_)
        obtain ⟨zM_17, ezM_17⟩ : ∃ y : MS, y = (zM_6.1, va_up zM_6.2 8 (upd (zM_6.2 8) (Int32.toNatClampNeg v1_5) x_15)) := ⟨_, rfl⟩
        replace hF := nm_i hF ezM_17
        have hP : va_P D vwCl (wcM ci aM zM_17) H := by rw [ezM_17]; exact hP
        have hD : va_D A (wcM ci aM zM_17) := by rw [ezM_17]; exact hD
        obtain ⟨v1_18, ev1_18⟩ : ∃ y : Int32, y = v1_5 + 1 := ⟨_, rfl⟩
        replace hF := nm_i hF ev1_18
        refine lv_iinc (v := v1_18) (lv' := [(1, .int v1_18), (0, .ref (aM 0))]) hx hb dX7_undo_48 hl (k := 1) rfl (by rw [ev1_18]; rfl) (by decide) rfl (fun ls hl => ?_)
        refine lv_goto (tgt := 22) hx hb dX7_undo_51 (by decide) ?_
        exact ih_7 (v1_18, zM_17) H locs ls ⟨hF, hP, hD, hS, lv_sub hl [1, 0] rfl⟩
  · replace hF := if_i c_1 hF
    refine lv_ldc (v := (-1000000003)) hx hb hown hk_4 dX7_undo_7 ?_
    obtain rfl := Option.some.inj hF
    exact W.iret (v := (-1000000003)) hx hb hr (fun t ht hW => ⟨⟨_, (), rfl, rfl, by rw [ht]; exact hP, va_K.moved hW.alike hK, hD⟩, hS.F ht⟩) hS.2.2 dX7_undo_9
noncomputable def L_X7_findRoom_2 (p1 : Int32) (p2 : Int32) : Nat → Int32 → MS → Option (Int32 × MS)
  | 0, _, _ => none
  | n + 1, v3_2, zM_3 => if (zM_3.1 3) ≤ v3_2 then (some (v3_2, zM_3)) else (ald 122 (zM_3.2 8) v3_2 fun x_12 => (if x_12 = p1 then (ald 122 (zM_3.2 8) (80 + v3_2) fun x_17 => if x_17 = 0 then (ald 122 (zM_3.2 8) (40 + v3_2) fun x_20 => (f_X7_heightBy zM_3 v3_2 (x_20 + p2)).bind fun r_21 => if r_21 < 12 then (some (0 : Int32)) else (some (1 : Int32))) else (some (0 : Int32))) else (some (0 : Int32))).bind fun t_13 => (f_X7_mayPlant zM_3 v3_2).bind fun r_25 => (if r_25 = 0 then (some (0 : Int32)) else ((f_X7_heightBy zM_3 v3_2 p2).bind fun r_30 => if r_30 < 12 then (some (0 : Int32)) else (some (1 : Int32)))).bind fun t_27 => (if t_13 = 0 then (if t_27 = 0 then (some (1000 : Int32)) else (some (1 : Int32))) else (some (0 : Int32))).bind fun t_34 => ast 40 v3_2 <| nm ((zM_3.1, va_up zM_3.2 24 (upd (zM_3.2 24) (Int32.toNatClampNeg v3_2) t_34)) : MS) fun zM_40 => ast 40 v3_2 <| nm ((zM_40.1, va_up zM_40.2 25 (upd (zM_40.2 25) (Int32.toNatClampNeg v3_2) 0)) : MS) fun zM_42 => nm (v3_2 + 1) fun v3_43 => L_X7_findRoom_2 p1 p2 n v3_43 zM_42)
noncomputable def f_X7_findRoom (zM : MS) (p1 : Int32) (p2 : Int32) : Option (MS) := nm (0 : Int32) fun v3_1 => (L_X7_findRoom_2 p1 p2 3000 v3_1 zM).bind fun q_45 => nm q_45.1 fun v3_6 => nm q_45.2 fun zM_7 => some zM_7
set_option maxHeartbeats 4000000 in
set_option maxRecDepth 100000 in
theorem c_X7_findRoom (l : Launch) (D : va_G) (ci : Nat → ClassId) (aM : Nat → Nat) (sz : Nat) (zM : MS) (p1 : Int32) (p2 : Int32) (res : MS) (hF : f_X7_findRoom zM p1 p2 = some res) : CtV l yX7_findRoom wsX7_findRoom { frames := 2, cells := 0, slots := 0, locals := 45 } [.ref (aM 0), .int p1, .int p2] D ci (wcM ci aM zM) sz (wcM ci aM res) := by
  refine Met.ofW (cc := cX7_findRoom) (maxL := 6) (ret := none) (by decide) rfl ?_
  intro p e s m args below meth c s₁ B hml hv
  obtain ⟨rfl, hsz, hP, hK, hD0⟩ := hv
  have hx := B.exec
  have hb := B.bytes
  have hr := B.returns
  have hts := atoms_spec (ws := wsX7_findRoom) B.pre
  have hown : s.vm.findClass RX7 = some m.cls := findClass_of_methodNamed B.named
  have hlocks := B.notSynchronized
  subst hsz
  have hD := hD0.self (sz := s.heap.size)
  generalize hAe : va_A (wcM ci aM zM) s.heap.size = A at hD ⊢
  have hA : ∀ q : Nat, s.heap.size ≤ q → A q := fun q h => by rw [← hAe]; exact Or.inr h
  clear hD0 hAe
  have hl := lv_entry ([.ref (aM 0), .int p1, .int p2]) (n := 6) (Nat.le_of_ble_eq_true rfl)
  rw [lg_entry_eq]
  generalize (lg_sl ([.ref (aM 0), .int p1, .int p2]) ++ List.replicate (6 - (lg_sl ([.ref (aM 0), .int p1, .int p2])).length) Slot.unset).toArray = ls at hl ⊢
  have hl : lv_has ls 6 [(0, .ref (aM 0)), (1, .int p1), (2, .int p2)] := hl
  have hP : va_P D vwCl (wcM ci aM zM) s.heap := hP
  generalize hH0 : s.heap = H at hP ⊢
  have hS : va_S A s.heap H [] := by rw [← hH0]; exact va_S.rf
  clear hH0
  generalize ([] : List Loc) = locs at hS ⊢
  have hk_0 := hts (.fieldLink RX7 91 "HedgeWarModel" "edges" "I") (by decide +kernel)
  have hin_RX7 : ∀ w ∈ wsX70, w ∈ wsX7_findRoom := by decide +kernel
  have hk_2 := hts (.fieldLink RX7 23 "HedgeWarModel" "now" "[I") (by decide +kernel)
  have hk_3 := hts (.fieldLink RX7 51 "HedgeWarModel" "room" "[I") (by decide +kernel)
  have hk_4 := hts (.fieldLink RX7 54 "HedgeWarModel" "flow" "[I") (by decide +kernel)
  unfold f_X7_findRoom at hF
  refine lv_iconst (v := 0) hx hb dX7_findRoom_0 (by decide) ?_
  refine lv_topi (fun v3_1 ev3_1 => ?_)
  replace hF := nm_i hF ev3_1
  refine lv_istore_n (lv' := [(3, .int v3_1), (0, .ref (aM 0)), (1, .int p1), (2, .int p2)]) hx hb dX7_findRoom_1 rfl hl (by decide) rfl (fun ls hl => ?_)
  replace hF := bnd hF
  obtain ⟨q_45, hv_44, hF⟩ := hF
  obtain ⟨v3_6, ev3_6⟩ : ∃ y : Int32, y = q_45.1 := ⟨_, rfl⟩
  replace hF := nm_i hF ev3_6
  obtain ⟨zM_7, ezM_7⟩ : ∃ y : MS, y = q_45.2 := ⟨_, rfl⟩
  replace hF := nm_i hF ezM_7
  obtain rfl : q_45 = (v3_6, zM_7) := by rw [ev3_6, ezM_7]
  clear ev3_6
  clear ezM_7
  refine jn (P := fun H locs ls => va_P D vwCl (wcM ci aM zM_7) H ∧ va_D A (wcM ci aM zM_7) ∧ va_S A s.heap H locs ∧ lv_has ls 6 [(0, .ref (aM 0)), (1, .int p1), (2, .int p2), (3, .int v3_6)]) (pcJ := 126) (st := []) ?_ ?_
  · intro H locs ls hJ
    obtain ⟨hP, hD, hS, hl⟩ := hJ
    obtain rfl := Option.some.inj hF
    exact W.vret hx hb hr (fun t ht hW => ⟨⟨(), rfl, trivial, by rw [ht]; exact hP, va_K.moved hW.alike hK, hD⟩, hS.F ht⟩) hS.2.2 dX7_findRoom_126
  · intro J_5
    clear hF
    have hF := hv_44
    refine lpW (σ := Int32 × MS) (I := fun n v H locs ls => L_X7_findRoom_2 p1 p2 n v.1 v.2 = some (v3_6, zM_7) ∧ va_P D vwCl (wcM ci aM v.2) H ∧ va_D A (wcM ci aM v.2) ∧ va_S A s.heap H locs ∧ lv_has ls 6 [(0, .ref (aM 0)), (1, .int p1), (2, .int p2), (3, .int v.1)]) 3000 (v3_1, zM) (fun _ _ _ _ h => no_none h.1) ⟨hF, hP, hD, hS, lv_sub hl [1, 2, 3, 0] rfl⟩ ?_
    clear hF hP hD hS hl
    intro n ih_4 vq H locs ls hI
    obtain ⟨v3_2, zM_3⟩ := vq
    obtain ⟨hF, hP, hD, hS, hl⟩ := hI
    have hP : va_P D vwCl (wcM ci aM zM_3) H := hP
    have hD : va_D A (wcM ci aM zM_3) := hD
    have hl : lv_has ls 6 [(0, .ref (aM 0)), (1, .int p1), (2, .int p2), (3, .int v3_2)] := hl
    replace hF : L_X7_findRoom_2 p1 p2 (n + 1) v3_2 zM_3 = some (v3_6, zM_7) := hF
    rw [L_X7_findRoom_2] at hF
    refine lv_iload_n hx hb dX7_findRoom_2 rfl (lv_at hl 3 rfl) ?_
    refine lv_aload_n hx hb dX7_findRoom_3 rfl (lv_at hl 0 rfl) ?_
    refine va_get (D := D) (ci := 7) (v := .int (zM_3.1 3)) (C := RX7) (T := TX7) (N := 38) hx hb hts hin_RX7 hown hK hP 0 rfl rfl 3 (by decide) hk_0 (fun _ h9 => h9) rfl dX7_findRoom_4 ?_
    refine lv_icmp_ge (tgt := 126) hx hb dX7_findRoom_7 (by decide) (fun c_8 => ?_) (fun c_8 => ?_)
    · replace hF := if_i c_8 hF
      obtain ⟨g_9, g_10⟩ : v3_2 = v3_6 ∧ zM_3 = zM_7 := by have h9 := Option.some.inj hF; simpa only [Prod.mk.injEq] using h9
      subst g_9
      subst g_10
      exact J_5 H locs ls ⟨hP, hD, hS, lv_sub hl [0, 1, 2, 3] rfl⟩
    · replace hF := if_o c_8 hF
      refine lv_aload_n hx hb dX7_findRoom_10 rfl (lv_at hl 0 rfl) ?_
      refine va_get (D := D) (ci := 7) (v := .ref (aM 8)) (C := RX7) (T := TX7) (N := 38) hx hb hts hin_RX7 hown hK hP 0 rfl rfl 8 (by decide) hk_2 (fun _ h9 => h9) rfl dX7_findRoom_11 ?_
      refine lv_iload_n hx hb dX7_findRoom_14 rfl (lv_at hl 3 rfl) ?_
      replace hF := ald_i hF
      obtain ⟨hin_11, hF⟩ := hF
      refine va_iald hx hb hK hP 5 0 rfl rfl hin_11 dX7_findRoom_15 ?_
      refine lv_topi (fun x_12 ex_12 => ?_)
      replace hF := nm_i hF ex_12
      refine lv_iload_n hx hb dX7_findRoom_16 rfl (lv_at hl 1 rfl) ?_
      replace hF := bnd hF
      obtain ⟨t_13, hv_24, hF⟩ := hF
      refine jn (P := fun H locs ls => va_P D vwCl (wcM ci aM zM_3) H ∧ va_D A (wcM ci aM zM_3) ∧ va_S A s.heap H locs ∧ lv_has ls 6 [(0, .ref (aM 0)), (1, .int p1), (2, .int p2), (3, .int v3_2)]) (pcJ := 58) (st := [.int t_13]) ?_ ?_
      · intro H locs ls hJ
        obtain ⟨hP, hD, hS, hl⟩ := hJ
        refine lv_istore (lv' := [(4, .int t_13), (0, .ref (aM 0)), (1, .int p1), (2, .int p2), (3, .int v3_2)]) hx hb dX7_findRoom_58 hl (by decide) rfl (fun ls hl => ?_)
        refine lv_aload_n hx hb dX7_findRoom_60 rfl (lv_at hl 1 rfl) ?_
        refine lv_iload_n hx hb dX7_findRoom_61 rfl (lv_at hl 4 rfl) ?_
        replace hF := bnd hF
        obtain ⟨r_25, hc_26, hF⟩ := hF
        refine cl_Vi0 (As := [.int v3_2]) (rest := []) ⟨hx, hb, hml, hown, hts⟩ (cwV 1 hts gX7_findRoom_X7_mayPlant rfl rfl rfl (by decide +kernel) ⟨Nat.le_of_ble_eq_true rfl, Nat.le_of_ble_eq_true rfl⟩) (c_X7_mayPlant l D ci aM H.size zM_3 v3_2 _ hc_26) hK hP hD hS hA 0 rfl rfl rfl rfl hl.1 (Nat.le_of_ble_eq_true rfl) dX7_findRoom_62 (Nat.zero_le _) (Nat.zero_le _) (fun H locs hP hD hS => ?_)
        have hP : va_P D vwCl (wcM ci aM zM_3) H := hP
        have hD : va_D A (wcM ci aM zM_3) := hD
        replace hF := bnd hF
        obtain ⟨t_27, hv_33, hF⟩ := hF
        refine jn (P := fun H locs ls => va_P D vwCl (wcM ci aM zM_3) H ∧ va_D A (wcM ci aM zM_3) ∧ va_S A s.heap H locs ∧ lv_has ls 6 [(0, .ref (aM 0)), (1, .int p1), (2, .int p2), (3, .int v3_2), (4, .int t_13)]) (pcJ := 84) (st := [.int t_27]) ?_ ?_
        · intro H locs ls hJ
          obtain ⟨hP, hD, hS, hl⟩ := hJ
          refine lv_istore (lv' := [(5, .int t_27), (0, .ref (aM 0)), (1, .int p1), (2, .int p2), (3, .int v3_2), (4, .int t_13)]) hx hb dX7_findRoom_84 hl (by decide) rfl (fun ls hl => ?_)
          refine lv_aload_n hx hb dX7_findRoom_86 rfl (lv_at hl 1 rfl) ?_
          refine va_get (D := D) (ci := 7) (v := .ref (aM 24)) (C := RX7) (T := TX7) (N := 38) hx hb hts hin_RX7 hown hK hP 0 rfl rfl 24 (by decide) hk_3 (fun _ h9 => h9) rfl dX7_findRoom_87 ?_
          refine lv_iload_n hx hb dX7_findRoom_90 rfl (lv_at hl 4 rfl) ?_
          refine lv_iload hx hb dX7_findRoom_91 (lv_at hl 5 rfl) ?_
          replace hF := bnd hF
          obtain ⟨t_34, hv_38, hF⟩ := hF
          refine jn (P := fun H locs ls => va_P D vwCl (wcM ci aM zM_3) H ∧ va_D A (wcM ci aM zM_3) ∧ va_S A s.heap H locs ∧ lv_has ls 6 [(0, .ref (aM 0)), (1, .int p1), (2, .int p2), (3, .int v3_2), (4, .int t_13), (5, .int t_27)]) (pcJ := 112) (st := [.int t_34, .int v3_2, .ref (aM 24)]) ?_ ?_
          · intro H locs ls hJ
            obtain ⟨hP, hD, hS, hl⟩ := hJ
            replace hF := ast_i hF
            obtain ⟨hin_39, hF⟩ := hF
            refine va_iast (x := t_34) hx hb hK hP hD hS 13 0 rfl rfl hin_39 dX7_findRoom_112 (fun H locs hP hD hS => ?_)
            obtain ⟨zM_40, ezM_40⟩ : ∃ y : MS, y = (zM_3.1, va_up zM_3.2 24 (upd (zM_3.2 24) (Int32.toNatClampNeg v3_2) t_34)) := ⟨_, rfl⟩
            replace hF := nm_i hF ezM_40
            have hP : va_P D vwCl (wcM ci aM zM_40) H := by rw [ezM_40]; exact hP
            have hD : va_D A (wcM ci aM zM_40) := by rw [ezM_40]; exact hD
            refine lv_aload_n hx hb dX7_findRoom_113 rfl (lv_at hl 0 rfl) ?_
            refine va_get (D := D) (ci := 7) (v := .ref (aM 25)) (C := RX7) (T := TX7) (N := 38) hx hb hts hin_RX7 hown hK hP 0 rfl rfl 25 (by decide) hk_4 (fun _ h9 => h9) rfl dX7_findRoom_114 ?_
            refine lv_iload_n hx hb dX7_findRoom_117 rfl (lv_at hl 3 rfl) ?_
            refine lv_iconst (v := 0) hx hb dX7_findRoom_118 (by decide) ?_
            replace hF := ast_i hF
            obtain ⟨hin_41, hF⟩ := hF
            refine va_iast (x := 0) hx hb hK hP hD hS 14 0 rfl rfl hin_41 dX7_findRoom_119 (fun H locs hP hD hS => ?_)
            obtain ⟨zM_42, ezM_42⟩ : ∃ y : MS, y = (zM_40.1, va_up zM_40.2 25 (upd (zM_40.2 25) (Int32.toNatClampNeg v3_2) 0)) := ⟨_, rfl⟩
            replace hF := nm_i hF ezM_42
            have hP : va_P D vwCl (wcM ci aM zM_42) H := by rw [ezM_42]; exact hP
            have hD : va_D A (wcM ci aM zM_42) := by rw [ezM_42]; exact hD
            obtain ⟨v3_43, ev3_43⟩ : ∃ y : Int32, y = v3_2 + 1 := ⟨_, rfl⟩
            replace hF := nm_i hF ev3_43
            refine lv_iinc (v := v3_43) (lv' := [(3, .int v3_43), (0, .ref (aM 0)), (1, .int p1), (2, .int p2), (4, .int t_13), (5, .int t_27)]) hx hb dX7_findRoom_120 hl (k := 3) rfl (by rw [ev3_43]; rfl) (by decide) rfl (fun ls hl => ?_)
            refine lv_goto (tgt := 2) hx hb dX7_findRoom_123 (by decide) ?_
            exact ih_4 (v3_43, zM_42) H locs ls ⟨hF, hP, hD, hS, lv_sub hl [1, 2, 3, 0] rfl⟩
          · intro J_35
            clear hF
            have hF := hv_38
            refine lv_if_eq (tgt := 100) hx hb dX7_findRoom_93 (by decide) (fun c_36 => ?_) (fun c_36 => ?_)
            · replace hF := if_i c_36 hF
              refine lv_iload hx hb dX7_findRoom_100 (lv_at hl 0 rfl) ?_
              refine lv_if_eq (tgt := 109) hx hb dX7_findRoom_102 (by decide) (fun c_37 => ?_) (fun c_37 => ?_)
              · replace hF := if_i c_37 hF
                refine lv_sipush (v := 1000) hx hb dX7_findRoom_109 (by decide) ?_
                obtain rfl := Option.some.inj hF
                exact J_35 H locs ls ⟨hP, hD, hS, lv_sub hl [1, 2, 3, 4, 5, 0] rfl⟩
              · replace hF := if_o c_37 hF
                refine lv_iconst (v := 1) hx hb dX7_findRoom_105 (by decide) ?_
                refine lv_goto (tgt := 112) hx hb dX7_findRoom_106 (by decide) ?_
                obtain rfl := Option.some.inj hF
                exact J_35 H locs ls ⟨hP, hD, hS, lv_sub hl [1, 2, 3, 4, 5, 0] rfl⟩
            · replace hF := if_o c_36 hF
              refine lv_iconst (v := 0) hx hb dX7_findRoom_96 (by decide) ?_
              refine lv_goto (tgt := 112) hx hb dX7_findRoom_97 (by decide) ?_
              obtain rfl := Option.some.inj hF
              exact J_35 H locs ls ⟨hP, hD, hS, lv_sub hl [1, 2, 3, 4, 5, 0] rfl⟩
        · intro J_28
          clear hF
          have hF := hv_33
          refine lv_if_eq (tgt := 83) hx hb dX7_findRoom_65 (by decide) (fun c_29 => ?_) (fun c_29 => ?_)
          · replace hF := if_i c_29 hF
            refine lv_iconst (v := 0) hx hb dX7_findRoom_83 (by decide) ?_
            obtain rfl := Option.some.inj hF
            exact J_28 H locs ls ⟨hP, hD, hS, lv_sub hl [1, 2, 3, 4, 0] rfl⟩
          · replace hF := if_o c_29 hF
            refine lv_aload_n hx hb dX7_findRoom_68 rfl (lv_at hl 1 rfl) ?_
            refine lv_iload_n hx hb dX7_findRoom_69 rfl (lv_at hl 4 rfl) ?_
            refine lv_iload_n hx hb dX7_findRoom_70 rfl (lv_at hl 3 rfl) ?_
            replace hF := bnd hF
            obtain ⟨r_30, hc_31, hF⟩ := hF
            refine cl_Vi0 (As := [.int v3_2, .int p2]) (rest := []) ⟨hx, hb, hml, hown, hts⟩ (cwV 2 hts gX7_findRoom_X7_heightBy rfl rfl rfl (by decide +kernel) ⟨Nat.le_of_ble_eq_true rfl, Nat.le_of_ble_eq_true rfl⟩) (c_X7_heightBy l D ci aM H.size zM_3 v3_2 p2 _ hc_31) hK hP hD hS hA 0 rfl rfl rfl rfl hl.1 (Nat.le_of_ble_eq_true rfl) dX7_findRoom_71 (Nat.zero_le _) (Nat.zero_le _) (fun H locs hP hD hS => ?_)
            have hP : va_P D vwCl (wcM ci aM zM_3) H := hP
            have hD : va_D A (wcM ci aM zM_3) := hD
            refine lv_bipush (v := 12) hx hb dX7_findRoom_74 (by decide) ?_
            refine lv_icmp_lt (tgt := 83) hx hb dX7_findRoom_76 (by decide) (fun c_32 => ?_) (fun c_32 => ?_)
            · replace hF := if_i c_32 hF
              refine lv_iconst (v := 0) hx hb dX7_findRoom_83 (by decide) ?_
              obtain rfl := Option.some.inj hF
              exact J_28 H locs ls ⟨hP, hD, hS, lv_sub hl [1, 2, 3, 4, 0] rfl⟩
            · replace hF := if_o c_32 hF
              refine lv_iconst (v := 1) hx hb dX7_findRoom_79 (by decide) ?_
              refine lv_goto (tgt := 84) hx hb dX7_findRoom_80 (by decide) ?_
              obtain rfl := Option.some.inj hF
              exact J_28 H locs ls ⟨hP, hD, hS, lv_sub hl [1, 2, 3, 4, 0] rfl⟩
      · intro J_14
        clear hF
        have hF := hv_24
        refine lv_icmp_ne (tgt := 57) hx hb dX7_findRoom_17 (by decide) (fun c_15 => ?_) (fun c_15 => ?_)
        · replace hF := if_o c_15 hF
          refine lv_iconst (v := 0) hx hb dX7_findRoom_57 (by decide) ?_
          obtain rfl := Option.some.inj hF
          exact J_14 H locs ls ⟨hP, hD, hS, lv_sub hl [0, 1, 2, 3] rfl⟩
        · replace hF := if_i c_15 hF
          refine lv_aload_n hx hb dX7_findRoom_20 rfl (lv_at hl 0 rfl) ?_
          refine va_get (D := D) (ci := 7) (v := .ref (aM 8)) (C := RX7) (T := TX7) (N := 38) hx hb hts hin_RX7 hown hK hP 0 rfl rfl 8 (by decide) hk_2 (fun _ h9 => h9) rfl dX7_findRoom_21 ?_
          refine lv_bipush (v := 80) hx hb dX7_findRoom_24 (by decide) ?_
          refine lv_iload_n hx hb dX7_findRoom_26 rfl (lv_at hl 3 rfl) ?_
          refine lv_iadd hx hb dX7_findRoom_27 ?_
          replace hF := ald_i hF
          obtain ⟨hin_16, hF⟩ := hF
          refine va_iald hx hb hK hP 5 0 rfl rfl hin_16 dX7_findRoom_28 ?_
          refine lv_topi (fun x_17 ex_17 => ?_)
          replace hF := nm_i hF ex_17
          refine lv_if_ne (tgt := 57) hx hb dX7_findRoom_29 (by decide) (fun c_18 => ?_) (fun c_18 => ?_)
          · replace hF := if_o c_18 hF
            refine lv_iconst (v := 0) hx hb dX7_findRoom_57 (by decide) ?_
            obtain rfl := Option.some.inj hF
            exact J_14 H locs ls ⟨hP, hD, hS, lv_sub hl [0, 1, 2, 3] rfl⟩
          · replace hF := if_i c_18 hF
            refine lv_aload_n hx hb dX7_findRoom_32 rfl (lv_at hl 0 rfl) ?_
            refine lv_iload_n hx hb dX7_findRoom_33 rfl (lv_at hl 3 rfl) ?_
            refine lv_aload_n hx hb dX7_findRoom_34 rfl (lv_at hl 0 rfl) ?_
            refine va_get (D := D) (ci := 7) (v := .ref (aM 8)) (C := RX7) (T := TX7) (N := 38) hx hb hts hin_RX7 hown hK hP 0 rfl rfl 8 (by decide) hk_2 (fun _ h9 => h9) rfl dX7_findRoom_35 ?_
            refine lv_bipush (v := 40) hx hb dX7_findRoom_38 (by decide) ?_
            refine lv_iload_n hx hb dX7_findRoom_40 rfl (lv_at hl 3 rfl) ?_
            refine lv_iadd hx hb dX7_findRoom_41 ?_
            replace hF := ald_i hF
            obtain ⟨hin_19, hF⟩ := hF
            refine va_iald hx hb hK hP 5 0 rfl rfl hin_19 dX7_findRoom_42 ?_
            refine lv_topi (fun x_20 ex_20 => ?_)
            replace hF := nm_i hF ex_20
            refine lv_iload_n hx hb dX7_findRoom_43 rfl (lv_at hl 2 rfl) ?_
            refine lv_iadd hx hb dX7_findRoom_44 ?_
            replace hF := bnd hF
            obtain ⟨r_21, hc_22, hF⟩ := hF
            refine cl_Vi0 (As := [.int v3_2, .int (x_20 + p2)]) (rest := []) ⟨hx, hb, hml, hown, hts⟩ (cwV 2 hts gX7_findRoom_X7_heightBy rfl rfl rfl (by decide +kernel) ⟨Nat.le_of_ble_eq_true rfl, Nat.le_of_ble_eq_true rfl⟩) (c_X7_heightBy l D ci aM H.size zM_3 v3_2 (x_20 + p2) _ hc_22) hK hP hD hS hA 0 rfl rfl rfl rfl hl.1 (Nat.le_of_ble_eq_true rfl) dX7_findRoom_45 (Nat.zero_le _) (Nat.zero_le _) (fun H locs hP hD hS => ?_)
            have hP : va_P D vwCl (wcM ci aM zM_3) H := hP
            have hD : va_D A (wcM ci aM zM_3) := hD
            refine lv_bipush (v := 12) hx hb dX7_findRoom_48 (by decide) ?_
            refine lv_icmp_lt (tgt := 57) hx hb dX7_findRoom_50 (by decide) (fun c_23 => ?_) (fun c_23 => ?_)
            · replace hF := if_i c_23 hF
              refine lv_iconst (v := 0) hx hb dX7_findRoom_57 (by decide) ?_
              obtain rfl := Option.some.inj hF
              exact J_14 H locs ls ⟨hP, hD, hS, lv_sub hl [0, 1, 2, 3] rfl⟩
            · replace hF := if_o c_23 hF
              refine lv_iconst (v := 1) hx hb dX7_findRoom_53 (by decide) ?_
              refine lv_goto (tgt := 58) hx hb dX7_findRoom_54 (by decide) ?_
              obtain rfl := Option.some.inj hF
              exact J_14 H locs ls ⟨hP, hD, hS, lv_sub hl [0, 1, 2, 3] rfl⟩
noncomputable def L_X7_search_17 (p1 : Int32) : Nat → Int32 → Int32 → MS → Option (Int32 × Int32 × MS)
  | 0, _, _, _ => none
  | n + 1, v2_15, v3_16, zM_17 => if (zM_17.1 3) ≤ v3_16 then (some (v2_15, v3_16, zM_17)) else (ald 40 (zM_17.2 5) v3_16 fun x_28 => ald 40 (zM_17.2 6) v3_16 fun x_30 => (f_X7_has (zM_17.1 27) x_28).bind fun r_31 => if r_31 = 0 then ((f_X7_has (zM_17.1 27) x_30).bind fun r_34 => if r_34 = 0 then (nm (v3_16 + 1) fun v3_37 => L_X7_search_17 p1 n v2_15 v3_37 zM_17) else ((f_X7_has (zM_17.1 27) x_28).bind fun r_38 => if r_38 = 0 then (ald 40 (zM_17.2 25) v3_16 fun x_43 => ald 40 (zM_17.2 24) v3_16 fun x_45 => if x_43 ≤ (-x_45) then (nm (v3_16 + 1) fun v3_47 => L_X7_search_17 p1 n v2_15 v3_47 zM_17) else (nm ((zM_17.1 27) ||| ((1 : Int32) <<< (x_28 &&& 31))) fun f27_48 => nm ((upd zM_17.1 27 f27_48, zM_17.2) : MS) fun zM_49 => ast 25 x_28 <| nm ((zM_49.1, va_up zM_49.2 26 (upd (zM_49.2 26) (Int32.toNatClampNeg x_28) v3_16)) : MS) fun zM_51 => nm (1 : Int32) fun v2_52 => nm (v3_16 + 1) fun v3_53 => L_X7_search_17 p1 n v2_52 v3_53 zM_51)) else (nm (v3_16 + 1) fun v3_41 => L_X7_search_17 p1 n v2_15 v3_41 zM_17))) else ((f_X7_has (zM_17.1 27) x_30).bind fun r_54 => if r_54 = 0 then (ald 40 (zM_17.2 25) v3_16 fun x_78 => ald 40 (zM_17.2 24) v3_16 fun x_80 => if x_80 ≤ x_78 then ((f_X7_has (zM_17.1 27) x_30).bind fun r_82 => if r_82 = 0 then (nm (v3_16 + 1) fun v3_85 => L_X7_search_17 p1 n v2_15 v3_85 zM_17) else ((f_X7_has (zM_17.1 27) x_28).bind fun r_86 => if r_86 = 0 then (ald 40 (zM_17.2 25) v3_16 fun x_91 => ald 40 (zM_17.2 24) v3_16 fun x_93 => if x_91 ≤ (-x_93) then (nm (v3_16 + 1) fun v3_95 => L_X7_search_17 p1 n v2_15 v3_95 zM_17) else (nm ((zM_17.1 27) ||| ((1 : Int32) <<< (x_28 &&& 31))) fun f27_96 => nm ((upd zM_17.1 27 f27_96, zM_17.2) : MS) fun zM_97 => ast 25 x_28 <| nm ((zM_97.1, va_up zM_97.2 26 (upd (zM_97.2 26) (Int32.toNatClampNeg x_28) v3_16)) : MS) fun zM_99 => nm (1 : Int32) fun v2_100 => nm (v3_16 + 1) fun v3_101 => L_X7_search_17 p1 n v2_100 v3_101 zM_99)) else (nm (v3_16 + 1) fun v3_89 => L_X7_search_17 p1 n v2_15 v3_89 zM_17))) else (nm ((zM_17.1 27) ||| ((1 : Int32) <<< (x_30 &&& 31))) fun f27_102 => nm ((upd zM_17.1 27 f27_102, zM_17.2) : MS) fun zM_103 => ast 25 x_30 <| nm ((zM_103.1, va_up zM_103.2 26 (upd (zM_103.2 26) (Int32.toNatClampNeg x_30) v3_16)) : MS) fun zM_105 => nm (1 : Int32) fun v2_106 => nm (v3_16 + 1) fun v3_107 => L_X7_search_17 p1 n v2_106 v3_107 zM_105)) else ((f_X7_has (zM_17.1 27) x_30).bind fun r_57 => if r_57 = 0 then (nm (v3_16 + 1) fun v3_60 => L_X7_search_17 p1 n v2_15 v3_60 zM_17) else ((f_X7_has (zM_17.1 27) x_28).bind fun r_61 => if r_61 = 0 then (ald 40 (zM_17.2 25) v3_16 fun x_66 => ald 40 (zM_17.2 24) v3_16 fun x_68 => if x_66 ≤ (-x_68) then (nm (v3_16 + 1) fun v3_70 => L_X7_search_17 p1 n v2_15 v3_70 zM_17) else (nm ((zM_17.1 27) ||| ((1 : Int32) <<< (x_28 &&& 31))) fun f27_71 => nm ((upd zM_17.1 27 f27_71, zM_17.2) : MS) fun zM_72 => ast 25 x_28 <| nm ((zM_72.1, va_up zM_72.2 26 (upd (zM_72.2 26) (Int32.toNatClampNeg x_28) v3_16)) : MS) fun zM_74 => nm (1 : Int32) fun v2_75 => nm (v3_16 + 1) fun v3_76 => L_X7_search_17 p1 n v2_75 v3_76 zM_74)) else (nm (v3_16 + 1) fun v3_64 => L_X7_search_17 p1 n v2_15 v3_64 zM_17)))))
noncomputable def L_X7_search_9 (p1 : Int32) : Nat → Int32 → MS → Option (Int32 × MS)
  | 0, _, _ => none
  | n + 1, v2_4, zM_5 => if v2_4 = 0 then (some (v2_4, zM_5)) else (nm (0 : Int32) fun v2_13 => nm (0 : Int32) fun v3_14 => (L_X7_search_17 p1 3000 v2_13 v3_14 zM_5).bind fun q_109 => nm q_109.1 fun v2_20 => nm q_109.2.1 fun v3_21 => nm q_109.2.2 fun zM_22 => L_X7_search_9 p1 n v2_20 zM_22)
noncomputable def L_X7_search_180 (zM_9 : MS) (p1 : Int32) (v2_8 : Int32) : Nat → Int32 → Option (Int32 × MS)
  | 0, _ => none
  | n + 1, v3_112 => if (zM_9.1 2) ≤ v3_112 then (some ((-1 : Int32), zM_9)) else ((f_X7_has (zM_9.1 27) v3_112).bind fun r_116 => if r_116 = 0 then (nm (v3_112 + 1) fun v3_119 => L_X7_search_180 zM_9 p1 v2_8 n v3_119) else ((f_X7_isRim zM_9 v3_112).bind fun r_120 => if r_120 = 0 then (nm (v3_112 + 1) fun v3_123 => L_X7_search_180 zM_9 p1 v2_8 n v3_123) else (some (v3_112, zM_9))))
noncomputable def f_X7_search (zM : MS) (p1 : Int32) : Option (Int32 × MS) := nm ((1 : Int32) <<< (p1 &&& 31)) fun f27_1 => nm ((upd zM.1 27 f27_1, zM.2) : MS) fun zM_2 => nm (1 : Int32) fun v2_3 => (L_X7_search_9 p1 3000 v2_3 zM_2).bind fun q_124 => nm q_124.1 fun v2_8 => nm q_124.2 fun zM_9 => nm (0 : Int32) fun v3_111 => L_X7_search_180 zM_9 p1 v2_8 3000 v3_111
set_option maxHeartbeats 4000000 in
set_option maxRecDepth 100000 in
theorem c_X7_search (l : Launch) (D : va_G) (ci : Nat → ClassId) (aM : Nat → Nat) (sz : Nat) (zM : MS) (p1 : Int32) (res : Int32 × MS) (hF : f_X7_search zM p1 = some res) : CtI l yX7_search wsX7_search { frames := 1, cells := 0, slots := 0, locals := 23 } [.ref (aM 0), .int p1] D ci (wcM ci aM zM) sz res.1 (wcM ci aM res.2) := by
  refine Met.ofW (cc := cX7_search) (maxL := 6) (ret := (some .int)) (by decide) rfl ?_
  intro p e s m args below meth c s₁ B hml hv
  obtain ⟨rfl, hsz, hP, hK, hD0⟩ := hv
  have hx := B.exec
  have hb := B.bytes
  have hr := B.returns
  have hts := atoms_spec (ws := wsX7_search) B.pre
  have hown : s.vm.findClass RX7 = some m.cls := findClass_of_methodNamed B.named
  have hlocks := B.notSynchronized
  subst hsz
  have hD := hD0.self (sz := s.heap.size)
  generalize hAe : va_A (wcM ci aM zM) s.heap.size = A at hD ⊢
  have hA : ∀ q : Nat, s.heap.size ≤ q → A q := fun q h => by rw [← hAe]; exact Or.inr h
  clear hD0 hAe
  have hl := lv_entry ([.ref (aM 0), .int p1]) (n := 6) (Nat.le_of_ble_eq_true rfl)
  rw [lg_entry_eq]
  generalize (lg_sl ([.ref (aM 0), .int p1]) ++ List.replicate (6 - (lg_sl ([.ref (aM 0), .int p1])).length) Slot.unset).toArray = ls at hl ⊢
  have hl : lv_has ls 6 [(0, .ref (aM 0)), (1, .int p1)] := hl
  have hP : va_P D vwCl (wcM ci aM zM) s.heap := hP
  generalize hH0 : s.heap = H at hP ⊢
  have hS : va_S A s.heap H [] := by rw [← hH0]; exact va_S.rf
  clear hH0
  generalize ([] : List Loc) = locs at hS ⊢
  have hk_0 := hts (.fieldLink RX7 255 "HedgeWarModel" "reached" "I") (by decide +kernel)
  have hin_RX7 : ∀ w ∈ wsX70, w ∈ wsX7_search := by decide +kernel
  have hk_2 := hts (.fieldLink RX7 91 "HedgeWarModel" "edges" "I") (by decide +kernel)
  have hk_3 := hts (.fieldLink RX7 13 "HedgeWarModel" "edgeLow" "[I") (by decide +kernel)
  have hk_4 := hts (.fieldLink RX7 16 "HedgeWarModel" "edgeHigh" "[I") (by decide +kernel)
  have hk_5 := hts (.fieldLink RX7 54 "HedgeWarModel" "flow" "[I") (by decide +kernel)
  have hk_6 := hts (.fieldLink RX7 51 "HedgeWarModel" "room" "[I") (by decide +kernel)
  have hk_7 := hts (.fieldLink RX7 57 "HedgeWarModel" "cameBy" "[I") (by decide +kernel)
  have hk_8 := hts (.fieldLink RX7 84 "HedgeWarModel" "fields" "I") (by decide +kernel)
  unfold f_X7_search at hF
  refine lv_aload_n hx hb dX7_search_0 rfl (lv_at hl 0 rfl) ?_
  refine lv_iconst (v := 1) hx hb dX7_search_1 (by decide) ?_
  refine lv_iload_n hx hb dX7_search_2 rfl (lv_at hl 1 rfl) ?_
  refine lv_ishl hx hb dX7_search_3 ?_
  refine lv_topi (fun f27_1 ef27_1 => ?_)
  replace hF := nm_i hF ef27_1
  refine va_put (D := D) (ci := 7) (v := .int f27_1) (ty := .int) (C := RX7) (T := TX7) (N := 38) hx hb hts hin_RX7 tyX7 tyX7_ok nmX7 hown hK hP hD hS 0 rfl rfl 27 (by decide) hk_0 (fun _ h9 => h9) rfl (by decide +kernel) rfl rfl (Nat.le_of_ble_eq_true rfl) dX7_search_4 (fun H locs hP hD hS => ?_)
  obtain ⟨zM_2, ezM_2⟩ : ∃ y : MS, y = (upd zM.1 27 f27_1, zM.2) := ⟨_, rfl⟩
  replace hF := nm_i hF ezM_2
  have hP : va_P D vwCl (wcM ci aM zM_2) H := by rw [ezM_2]; exact hP
  have hD : va_D A (wcM ci aM zM_2) := by rw [ezM_2]; exact hD
  refine lv_iconst (v := 1) hx hb dX7_search_7 (by decide) ?_
  refine lv_topi (fun v2_3 ev2_3 => ?_)
  replace hF := nm_i hF ev2_3
  refine lv_istore_n (lv' := [(2, .int v2_3), (0, .ref (aM 0)), (1, .int p1)]) hx hb dX7_search_8 rfl hl (by decide) rfl (fun ls hl => ?_)
  replace hF := bnd hF
  obtain ⟨q_124, hv_110, hF⟩ := hF
  obtain ⟨v2_8, ev2_8⟩ : ∃ y : Int32, y = q_124.1 := ⟨_, rfl⟩
  replace hF := nm_i hF ev2_8
  obtain ⟨zM_9, ezM_9⟩ : ∃ y : MS, y = q_124.2 := ⟨_, rfl⟩
  replace hF := nm_i hF ezM_9
  obtain rfl : q_124 = (v2_8, zM_9) := by rw [ev2_8, ezM_9]
  clear ev2_8
  clear ezM_9
  refine jn (P := fun H locs ls => va_P D vwCl (wcM ci aM zM_9) H ∧ va_D A (wcM ci aM zM_9) ∧ va_S A s.heap H locs ∧ lv_has ls 6 [(0, .ref (aM 0)), (1, .int p1), (2, .int v2_8)]) (pcJ := 178) (st := []) ?_ ?_
  · intro H locs ls hJ
    obtain ⟨hP, hD, hS, hl⟩ := hJ
    refine lv_iconst (v := 0) hx hb dX7_search_178 (by decide) ?_
    refine lv_topi (fun v3_111 ev3_111 => ?_)
    replace hF := nm_i hF ev3_111
    refine lv_istore_n (lv' := [(3, .int v3_111), (0, .ref (aM 0)), (1, .int p1), (2, .int v2_8)]) hx hb dX7_search_179 rfl hl (by decide) rfl (fun ls hl => ?_)
    refine lpW (σ := Int32) (I := fun n v H locs ls => L_X7_search_180 zM_9 p1 v2_8 n v = some res ∧ va_P D vwCl (wcM ci aM zM_9) H ∧ va_D A (wcM ci aM zM_9) ∧ va_S A s.heap H locs ∧ lv_has ls 6 [(0, .ref (aM 0)), (1, .int p1), (2, .int v2_8), (3, .int v)]) 3000 v3_111 (fun _ _ _ _ h => no_none h.1) ⟨hF, hP, hD, hS, lv_sub hl [1, 2, 3, 0] rfl⟩ ?_
    clear hF hP hD hS hl
    intro n ih_113 vq H locs ls hI
    obtain ⟨v3_112, rfl⟩ : ∃ y, y = vq := ⟨_, rfl⟩
    obtain ⟨hF, hP, hD, hS, hl⟩ := hI
    have hP : va_P D vwCl (wcM ci aM zM_9) H := hP
    have hD : va_D A (wcM ci aM zM_9) := hD
    have hl : lv_has ls 6 [(0, .ref (aM 0)), (1, .int p1), (2, .int v2_8), (3, .int v3_112)] := hl
    replace hF : L_X7_search_180 zM_9 p1 v2_8 (n + 1) v3_112 = some res := hF
    rw [L_X7_search_180] at hF
    refine lv_iload_n hx hb dX7_search_180 rfl (lv_at hl 3 rfl) ?_
    refine lv_aload_n hx hb dX7_search_181 rfl (lv_at hl 0 rfl) ?_
    refine va_get (D := D) (ci := 7) (v := .int (zM_9.1 2)) (C := RX7) (T := TX7) (N := 38) hx hb hts hin_RX7 hown hK hP 0 rfl rfl 2 (by decide) hk_8 (fun _ h9 => h9) rfl dX7_search_182 ?_
    refine lv_icmp_ge (tgt := 215) hx hb dX7_search_185 (by decide) (fun c_115 => ?_) (fun c_115 => ?_)
    · replace hF := if_i c_115 hF
      refine lv_iconst (v := (-1)) hx hb dX7_search_215 (by decide) ?_
      obtain rfl := Option.some.inj hF
      exact W.iret (v := (-1)) hx hb hr (fun t ht hW => ⟨⟨_, (), rfl, rfl, by rw [ht]; exact hP, va_K.moved hW.alike hK, hD⟩, hS.F ht⟩) hS.2.2 dX7_search_216
    · replace hF := if_o c_115 hF
      refine lv_aload_n hx hb dX7_search_188 rfl (lv_at hl 0 rfl) ?_
      refine va_get (D := D) (ci := 7) (v := .int (zM_9.1 27)) (C := RX7) (T := TX7) (N := 38) hx hb hts hin_RX7 hown hK hP 0 rfl rfl 27 (by decide) hk_0 (fun _ h9 => h9) rfl dX7_search_189 ?_
      refine lv_iload_n hx hb dX7_search_192 rfl (lv_at hl 3 rfl) ?_
      replace hF := bnd hF
      obtain ⟨r_116, hc_117, hF⟩ := hF
      refine cl_Sie (As := [.int (zM_9.1 27), .int v3_112]) (rest := []) ⟨hx, hb, hml, hown, hts⟩ (va_cwS 2 hts gX7_search_X7_has rfl rfl rfl (by decide +kernel) ⟨Nat.le_of_ble_eq_true rfl, Nat.le_of_ble_eq_true rfl⟩) (c_X7_has l D ci  H.size (zM_9.1 27) v3_112 _ hc_117) hK hP hD hS hA rfl rfl hl.1 (Nat.le_of_ble_eq_true rfl) dX7_search_193 (Nat.zero_le _) (Nat.zero_le _) (fun H locs hP hD hS => ?_)
      have hP : va_P D vwCl (wcM ci aM zM_9) H := hP
      have hD : va_D A (wcM ci aM zM_9) := hD
      refine lv_if_eq (tgt := 209) hx hb dX7_search_196 (by decide) (fun c_118 => ?_) (fun c_118 => ?_)
      · replace hF := if_i c_118 hF
        obtain ⟨v3_119, ev3_119⟩ : ∃ y : Int32, y = v3_112 + 1 := ⟨_, rfl⟩
        replace hF := nm_i hF ev3_119
        refine lv_iinc (v := v3_119) (lv' := [(3, .int v3_119), (0, .ref (aM 0)), (1, .int p1), (2, .int v2_8)]) hx hb dX7_search_209 hl (k := 3) rfl (by rw [ev3_119]; rfl) (by decide) rfl (fun ls hl => ?_)
        refine lv_goto (tgt := 180) hx hb dX7_search_212 (by decide) ?_
        exact ih_113 v3_119 H locs ls ⟨hF, hP, hD, hS, lv_sub hl [1, 2, 3, 0] rfl⟩
      · replace hF := if_o c_118 hF
        refine lv_aload_n hx hb dX7_search_199 rfl (lv_at hl 0 rfl) ?_
        refine lv_iload_n hx hb dX7_search_200 rfl (lv_at hl 3 rfl) ?_
        replace hF := bnd hF
        obtain ⟨r_120, hc_121, hF⟩ := hF
        refine cl_Vi0 (As := [.int v3_112]) (rest := []) ⟨hx, hb, hml, hown, hts⟩ (cwV 1 hts gX7_search_X7_isRim rfl rfl rfl (by decide +kernel) ⟨Nat.le_of_ble_eq_true rfl, Nat.le_of_ble_eq_true rfl⟩) (c_X7_isRim l D ci aM H.size zM_9 v3_112 _ hc_121) hK hP hD hS hA 0 rfl rfl rfl rfl hl.1 (Nat.le_of_ble_eq_true rfl) dX7_search_201 (Nat.zero_le _) (Nat.zero_le _) (fun H locs hP hD hS => ?_)
        have hP : va_P D vwCl (wcM ci aM zM_9) H := hP
        have hD : va_D A (wcM ci aM zM_9) := hD
        refine lv_if_eq (tgt := 209) hx hb dX7_search_204 (by decide) (fun c_122 => ?_) (fun c_122 => ?_)
        · replace hF := if_i c_122 hF
          obtain ⟨v3_123, ev3_123⟩ : ∃ y : Int32, y = v3_112 + 1 := ⟨_, rfl⟩
          replace hF := nm_i hF ev3_123
          refine lv_iinc (v := v3_123) (lv' := [(3, .int v3_123), (0, .ref (aM 0)), (1, .int p1), (2, .int v2_8)]) hx hb dX7_search_209 hl (k := 3) rfl (by rw [ev3_123]; rfl) (by decide) rfl (fun ls hl => ?_)
          refine lv_goto (tgt := 180) hx hb dX7_search_212 (by decide) ?_
          exact ih_113 v3_123 H locs ls ⟨hF, hP, hD, hS, lv_sub hl [1, 2, 3, 0] rfl⟩
        · replace hF := if_o c_122 hF
          refine lv_iload_n hx hb dX7_search_207 rfl (lv_at hl 3 rfl) ?_
          obtain rfl := Option.some.inj hF
          exact W.iret (v := v3_112) hx hb hr (fun t ht hW => ⟨⟨_, (), rfl, rfl, by rw [ht]; exact hP, va_K.moved hW.alike hK, hD⟩, hS.F ht⟩) hS.2.2 dX7_search_208
  · intro J_7
    clear hF
    have hF := hv_110
    refine lpW (σ := Int32 × MS) (I := fun n v H locs ls => L_X7_search_9 p1 n v.1 v.2 = some (v2_8, zM_9) ∧ va_P D vwCl (wcM ci aM v.2) H ∧ va_D A (wcM ci aM v.2) ∧ va_S A s.heap H locs ∧ lv_has ls 6 [(0, .ref (aM 0)), (1, .int p1), (2, .int v.1)]) 3000 (v2_3, zM_2) (fun _ _ _ _ h => no_none h.1) ⟨hF, hP, hD, hS, lv_sub hl [1, 2, 0] rfl⟩ ?_
    clear hF hP hD hS hl
    intro n ih_6 vq H locs ls hI
    obtain ⟨v2_4, zM_5⟩ := vq
    obtain ⟨hF, hP, hD, hS, hl⟩ := hI
    have hP : va_P D vwCl (wcM ci aM zM_5) H := hP
    have hD : va_D A (wcM ci aM zM_5) := hD
    have hl : lv_has ls 6 [(0, .ref (aM 0)), (1, .int p1), (2, .int v2_4)] := hl
    replace hF : L_X7_search_9 p1 (n + 1) v2_4 zM_5 = some (v2_8, zM_9) := hF
    rw [L_X7_search_9] at hF
    refine lv_iload_n hx hb dX7_search_9 rfl (lv_at hl 2 rfl) ?_
    refine lv_if_eq (tgt := 178) hx hb dX7_search_10 (by decide) (fun c_10 => ?_) (fun c_10 => ?_)
    · replace hF := if_i c_10 hF
      obtain ⟨g_11, g_12⟩ : v2_4 = v2_8 ∧ zM_5 = zM_9 := by have h9 := Option.some.inj hF; simpa only [Prod.mk.injEq] using h9
      subst g_11
      subst g_12
      exact J_7 H locs ls ⟨hP, hD, hS, lv_sub hl [0, 1, 2] rfl⟩
    · replace hF := if_o c_10 hF
      refine lv_iconst (v := 0) hx hb dX7_search_13 (by decide) ?_
      refine lv_topi (fun v2_13 ev2_13 => ?_)
      replace hF := nm_i hF ev2_13
      refine lv_istore_n (lv' := [(2, .int v2_13), (0, .ref (aM 0)), (1, .int p1)]) hx hb dX7_search_14 rfl hl (by decide) rfl (fun ls hl => ?_)
      refine lv_iconst (v := 0) hx hb dX7_search_15 (by decide) ?_
      refine lv_topi (fun v3_14 ev3_14 => ?_)
      replace hF := nm_i hF ev3_14
      refine lv_istore_n (lv' := [(3, .int v3_14), (2, .int v2_13), (0, .ref (aM 0)), (1, .int p1)]) hx hb dX7_search_16 rfl hl (by decide) rfl (fun ls hl => ?_)
      replace hF := bnd hF
      obtain ⟨q_109, hv_108, hF⟩ := hF
      obtain ⟨v2_20, ev2_20⟩ : ∃ y : Int32, y = q_109.1 := ⟨_, rfl⟩
      replace hF := nm_i hF ev2_20
      obtain ⟨v3_21, ev3_21⟩ : ∃ y : Int32, y = q_109.2.1 := ⟨_, rfl⟩
      replace hF := nm_i hF ev3_21
      obtain ⟨zM_22, ezM_22⟩ : ∃ y : MS, y = q_109.2.2 := ⟨_, rfl⟩
      replace hF := nm_i hF ezM_22
      obtain rfl : q_109 = (v2_20, v3_21, zM_22) := by rw [ev2_20, ev3_21, ezM_22]
      clear ev2_20
      clear ev3_21
      clear ezM_22
      refine jn (P := fun H locs ls => va_P D vwCl (wcM ci aM zM_22) H ∧ va_D A (wcM ci aM zM_22) ∧ va_S A s.heap H locs ∧ lv_has ls 6 [(0, .ref (aM 0)), (1, .int p1), (2, .int v2_20), (3, .int v3_21)]) (pcJ := 175) (st := []) ?_ ?_
      · intro H locs ls hJ
        obtain ⟨hP, hD, hS, hl⟩ := hJ
        refine lv_goto (tgt := 9) hx hb dX7_search_175 (by decide) ?_
        exact ih_6 (v2_20, zM_22) H locs ls ⟨hF, hP, hD, hS, lv_sub hl [0, 1, 2] rfl⟩
      · intro J_19
        clear hF
        have hF := hv_108
        refine lpW (σ := Int32 × Int32 × MS) (I := fun n v H locs ls => L_X7_search_17 p1 n v.1 v.2.1 v.2.2 = some (v2_20, v3_21, zM_22) ∧ va_P D vwCl (wcM ci aM v.2.2) H ∧ va_D A (wcM ci aM v.2.2) ∧ va_S A s.heap H locs ∧ lv_has ls 6 [(0, .ref (aM 0)), (1, .int p1), (2, .int v.1), (3, .int v.2.1)]) 3000 (v2_13, v3_14, zM_5) (fun _ _ _ _ h => no_none h.1) ⟨hF, hP, hD, hS, lv_sub hl [2, 3, 1, 0] rfl⟩ ?_
        clear hF hP hD hS hl
        intro n ih_18 vq H locs ls hI
        obtain ⟨v2_15, v3_16, zM_17⟩ := vq
        obtain ⟨hF, hP, hD, hS, hl⟩ := hI
        have hP : va_P D vwCl (wcM ci aM zM_17) H := hP
        have hD : va_D A (wcM ci aM zM_17) := hD
        have hl : lv_has ls 6 [(0, .ref (aM 0)), (1, .int p1), (2, .int v2_15), (3, .int v3_16)] := hl
        replace hF : L_X7_search_17 p1 (n + 1) v2_15 v3_16 zM_17 = some (v2_20, v3_21, zM_22) := hF
        rw [L_X7_search_17] at hF
        refine lv_iload_n hx hb dX7_search_17 rfl (lv_at hl 3 rfl) ?_
        refine lv_aload_n hx hb dX7_search_18 rfl (lv_at hl 0 rfl) ?_
        refine va_get (D := D) (ci := 7) (v := .int (zM_17.1 3)) (C := RX7) (T := TX7) (N := 38) hx hb hts hin_RX7 hown hK hP 0 rfl rfl 3 (by decide) hk_2 (fun _ h9 => h9) rfl dX7_search_19 ?_
        refine lv_icmp_ge (tgt := 175) hx hb dX7_search_22 (by decide) (fun c_23 => ?_) (fun c_23 => ?_)
        · replace hF := if_i c_23 hF
          obtain ⟨g_24, g_25, g_26⟩ : v2_15 = v2_20 ∧ v3_16 = v3_21 ∧ zM_17 = zM_22 := by have h9 := Option.some.inj hF; simpa only [Prod.mk.injEq] using h9
          subst g_24
          subst g_25
          subst g_26
          exact J_19 H locs ls ⟨hP, hD, hS, lv_sub hl [0, 1, 2, 3] rfl⟩
        · replace hF := if_o c_23 hF
          refine lv_aload_n hx hb dX7_search_25 rfl (lv_at hl 0 rfl) ?_
          refine va_get (D := D) (ci := 7) (v := .ref (aM 5)) (C := RX7) (T := TX7) (N := 38) hx hb hts hin_RX7 hown hK hP 0 rfl rfl 5 (by decide) hk_3 (fun _ h9 => h9) rfl dX7_search_26 ?_
          refine lv_iload_n hx hb dX7_search_29 rfl (lv_at hl 3 rfl) ?_
          replace hF := ald_i hF
          obtain ⟨hin_27, hF⟩ := hF
          refine va_iald hx hb hK hP 2 0 rfl rfl hin_27 dX7_search_30 ?_
          refine lv_topi (fun x_28 ex_28 => ?_)
          replace hF := nm_i hF ex_28
          refine lv_istore (lv' := [(4, .int x_28), (0, .ref (aM 0)), (1, .int p1), (2, .int v2_15), (3, .int v3_16)]) hx hb dX7_search_31 hl (by decide) rfl (fun ls hl => ?_)
          refine lv_aload_n hx hb dX7_search_33 rfl (lv_at hl 1 rfl) ?_
          refine va_get (D := D) (ci := 7) (v := .ref (aM 6)) (C := RX7) (T := TX7) (N := 38) hx hb hts hin_RX7 hown hK hP 0 rfl rfl 6 (by decide) hk_4 (fun _ h9 => h9) rfl dX7_search_34 ?_
          refine lv_iload_n hx hb dX7_search_37 rfl (lv_at hl 4 rfl) ?_
          replace hF := ald_i hF
          obtain ⟨hin_29, hF⟩ := hF
          refine va_iald hx hb hK hP 3 0 rfl rfl hin_29 dX7_search_38 ?_
          refine lv_topi (fun x_30 ex_30 => ?_)
          replace hF := nm_i hF ex_30
          refine lv_istore (lv' := [(5, .int x_30), (4, .int x_28), (0, .ref (aM 0)), (1, .int p1), (2, .int v2_15), (3, .int v3_16)]) hx hb dX7_search_39 hl (by decide) rfl (fun ls hl => ?_)
          refine lv_aload_n hx hb dX7_search_41 rfl (lv_at hl 2 rfl) ?_
          refine va_get (D := D) (ci := 7) (v := .int (zM_17.1 27)) (C := RX7) (T := TX7) (N := 38) hx hb hts hin_RX7 hown hK hP 0 rfl rfl 27 (by decide) hk_0 (fun _ h9 => h9) rfl dX7_search_42 ?_
          refine lv_iload hx hb dX7_search_45 (lv_at hl 1 rfl) ?_
          replace hF := bnd hF
          obtain ⟨r_31, hc_32, hF⟩ := hF
          refine cl_Sie (As := [.int (zM_17.1 27), .int x_28]) (rest := []) ⟨hx, hb, hml, hown, hts⟩ (va_cwS 2 hts gX7_search_X7_has rfl rfl rfl (by decide +kernel) ⟨Nat.le_of_ble_eq_true rfl, Nat.le_of_ble_eq_true rfl⟩) (c_X7_has l D ci  H.size (zM_17.1 27) x_28 _ hc_32) hK hP hD hS hA rfl rfl hl.1 (Nat.le_of_ble_eq_true rfl) dX7_search_47 (Nat.zero_le _) (Nat.zero_le _) (fun H locs hP hD hS => ?_)
          have hP : va_P D vwCl (wcM ci aM zM_17) H := hP
          have hD : va_D A (wcM ci aM zM_17) := hD
          refine lv_if_eq (tgt := 106) hx hb dX7_search_50 (by decide) (fun c_33 => ?_) (fun c_33 => ?_)
          · replace hF := if_i c_33 hF
            refine lv_aload_n hx hb dX7_search_106 rfl (lv_at hl 2 rfl) ?_
            refine va_get (D := D) (ci := 7) (v := .int (zM_17.1 27)) (C := RX7) (T := TX7) (N := 38) hx hb hts hin_RX7 hown hK hP 0 rfl rfl 27 (by decide) hk_0 (fun _ h9 => h9) rfl dX7_search_107 ?_
            refine lv_iload hx hb dX7_search_110 (lv_at hl 0 rfl) ?_
            replace hF := bnd hF
            obtain ⟨r_34, hc_35, hF⟩ := hF
            refine cl_Sie (As := [.int (zM_17.1 27), .int x_30]) (rest := []) ⟨hx, hb, hml, hown, hts⟩ (va_cwS 2 hts gX7_search_X7_has rfl rfl rfl (by decide +kernel) ⟨Nat.le_of_ble_eq_true rfl, Nat.le_of_ble_eq_true rfl⟩) (c_X7_has l D ci  H.size (zM_17.1 27) x_30 _ hc_35) hK hP hD hS hA rfl rfl hl.1 (Nat.le_of_ble_eq_true rfl) dX7_search_112 (Nat.zero_le _) (Nat.zero_le _) (fun H locs hP hD hS => ?_)
            have hP : va_P D vwCl (wcM ci aM zM_17) H := hP
            have hD : va_D A (wcM ci aM zM_17) := hD
            refine lv_if_eq (tgt := 169) hx hb dX7_search_115 (by decide) (fun c_36 => ?_) (fun c_36 => ?_)
            · replace hF := if_i c_36 hF
              obtain ⟨v3_37, ev3_37⟩ : ∃ y : Int32, y = v3_16 + 1 := ⟨_, rfl⟩
              replace hF := nm_i hF ev3_37
              refine lv_iinc (v := v3_37) (lv' := [(3, .int v3_37), (5, .int x_30), (4, .int x_28), (0, .ref (aM 0)), (1, .int p1), (2, .int v2_15)]) hx hb dX7_search_169 hl (k := 5) rfl (by rw [ev3_37]; rfl) (by decide) rfl (fun ls hl => ?_)
              refine lv_goto (tgt := 17) hx hb dX7_search_172 (by decide) ?_
              exact ih_18 (v2_15, v3_37, zM_17) H locs ls ⟨hF, hP, hD, hS, lv_sub hl [3, 4, 5, 0] rfl⟩
            · replace hF := if_o c_36 hF
              refine lv_aload_n hx hb dX7_search_118 rfl (lv_at hl 2 rfl) ?_
              refine va_get (D := D) (ci := 7) (v := .int (zM_17.1 27)) (C := RX7) (T := TX7) (N := 38) hx hb hts hin_RX7 hown hK hP 0 rfl rfl 27 (by decide) hk_0 (fun _ h9 => h9) rfl dX7_search_119 ?_
              refine lv_iload hx hb dX7_search_122 (lv_at hl 1 rfl) ?_
              replace hF := bnd hF
              obtain ⟨r_38, hc_39, hF⟩ := hF
              refine cl_Sie (As := [.int (zM_17.1 27), .int x_28]) (rest := []) ⟨hx, hb, hml, hown, hts⟩ (va_cwS 2 hts gX7_search_X7_has rfl rfl rfl (by decide +kernel) ⟨Nat.le_of_ble_eq_true rfl, Nat.le_of_ble_eq_true rfl⟩) (c_X7_has l D ci  H.size (zM_17.1 27) x_28 _ hc_39) hK hP hD hS hA rfl rfl hl.1 (Nat.le_of_ble_eq_true rfl) dX7_search_124 (Nat.zero_le _) (Nat.zero_le _) (fun H locs hP hD hS => ?_)
              have hP : va_P D vwCl (wcM ci aM zM_17) H := hP
              have hD : va_D A (wcM ci aM zM_17) := hD
              refine lv_if_ne (tgt := 169) hx hb dX7_search_127 (by decide) (fun c_40 => ?_) (fun c_40 => ?_)
              · replace hF := if_o c_40 hF
                obtain ⟨v3_41, ev3_41⟩ : ∃ y : Int32, y = v3_16 + 1 := ⟨_, rfl⟩
                replace hF := nm_i hF ev3_41
                refine lv_iinc (v := v3_41) (lv' := [(3, .int v3_41), (5, .int x_30), (4, .int x_28), (0, .ref (aM 0)), (1, .int p1), (2, .int v2_15)]) hx hb dX7_search_169 hl (k := 5) rfl (by rw [ev3_41]; rfl) (by decide) rfl (fun ls hl => ?_)
                refine lv_goto (tgt := 17) hx hb dX7_search_172 (by decide) ?_
                exact ih_18 (v2_15, v3_41, zM_17) H locs ls ⟨hF, hP, hD, hS, lv_sub hl [3, 4, 5, 0] rfl⟩
              · replace hF := if_i c_40 hF
                refine lv_aload_n hx hb dX7_search_130 rfl (lv_at hl 2 rfl) ?_
                refine va_get (D := D) (ci := 7) (v := .ref (aM 25)) (C := RX7) (T := TX7) (N := 38) hx hb hts hin_RX7 hown hK hP 0 rfl rfl 25 (by decide) hk_5 (fun _ h9 => h9) rfl dX7_search_131 ?_
                refine lv_iload_n hx hb dX7_search_134 rfl (lv_at hl 5 rfl) ?_
                replace hF := ald_i hF
                obtain ⟨hin_42, hF⟩ := hF
                refine va_iald hx hb hK hP 14 0 rfl rfl hin_42 dX7_search_135 ?_
                refine lv_topi (fun x_43 ex_43 => ?_)
                replace hF := nm_i hF ex_43
                refine lv_aload_n hx hb dX7_search_136 rfl (lv_at hl 2 rfl) ?_
                refine va_get (D := D) (ci := 7) (v := .ref (aM 24)) (C := RX7) (T := TX7) (N := 38) hx hb hts hin_RX7 hown hK hP 0 rfl rfl 24 (by decide) hk_6 (fun _ h9 => h9) rfl dX7_search_137 ?_
                refine lv_iload_n hx hb dX7_search_140 rfl (lv_at hl 5 rfl) ?_
                replace hF := ald_i hF
                obtain ⟨hin_44, hF⟩ := hF
                refine va_iald hx hb hK hP 13 0 rfl rfl hin_44 dX7_search_141 ?_
                refine lv_topi (fun x_45 ex_45 => ?_)
                replace hF := nm_i hF ex_45
                refine lv_ineg hx hb dX7_search_142 ?_
                refine lv_icmp_le (tgt := 169) hx hb dX7_search_143 (by decide) (fun c_46 => ?_) (fun c_46 => ?_)
                · replace hF := if_i c_46 hF
                  obtain ⟨v3_47, ev3_47⟩ : ∃ y : Int32, y = v3_16 + 1 := ⟨_, rfl⟩
                  replace hF := nm_i hF ev3_47
                  refine lv_iinc (v := v3_47) (lv' := [(3, .int v3_47), (5, .int x_30), (4, .int x_28), (0, .ref (aM 0)), (1, .int p1), (2, .int v2_15)]) hx hb dX7_search_169 hl (k := 5) rfl (by rw [ev3_47]; rfl) (by decide) rfl (fun ls hl => ?_)
                  refine lv_goto (tgt := 17) hx hb dX7_search_172 (by decide) ?_
                  exact ih_18 (v2_15, v3_47, zM_17) H locs ls ⟨hF, hP, hD, hS, lv_sub hl [3, 4, 5, 0] rfl⟩
                · replace hF := if_o c_46 hF
                  refine lv_aload_n hx hb dX7_search_146 rfl (lv_at hl 2 rfl) ?_
                  refine lv_dup hx hb dX7_search_147 rfl ?_
                  refine va_get (D := D) (ci := 7) (v := .int (zM_17.1 27)) (C := RX7) (T := TX7) (N := 38) hx hb hts hin_RX7 hown hK hP 0 rfl rfl 27 (by decide) hk_0 (fun _ h9 => h9) rfl dX7_search_148 ?_
                  refine lv_iconst (v := 1) hx hb dX7_search_151 (by decide) ?_
                  refine lv_iload hx hb dX7_search_152 (lv_at hl 1 rfl) ?_
                  refine lv_ishl hx hb dX7_search_154 ?_
                  refine lv_ior hx hb dX7_search_155 ?_
                  refine lv_topi (fun f27_48 ef27_48 => ?_)
                  replace hF := nm_i hF ef27_48
                  refine va_put (D := D) (ci := 7) (v := .int f27_48) (ty := .int) (C := RX7) (T := TX7) (N := 38) hx hb hts hin_RX7 tyX7 tyX7_ok nmX7 hown hK hP hD hS 0 rfl rfl 27 (by decide) hk_0 (fun _ h9 => h9) rfl (by decide +kernel) rfl rfl (Nat.le_of_ble_eq_true rfl) dX7_search_156 (fun H locs hP hD hS => ?_)
                  obtain ⟨zM_49, ezM_49⟩ : ∃ y : MS, y = (upd zM_17.1 27 f27_48, zM_17.2) := ⟨_, rfl⟩
                  replace hF := nm_i hF ezM_49
                  have hP : va_P D vwCl (wcM ci aM zM_49) H := by rw [ezM_49]; exact hP
                  have hD : va_D A (wcM ci aM zM_49) := by rw [ezM_49]; exact hD
                  refine lv_aload_n hx hb dX7_search_159 rfl (lv_at hl 2 rfl) ?_
                  refine va_get (D := D) (ci := 7) (v := .ref (aM 26)) (C := RX7) (T := TX7) (N := 38) hx hb hts hin_RX7 hown hK hP 0 rfl rfl 26 (by decide) hk_7 (fun _ h9 => h9) rfl dX7_search_160 ?_
                  refine lv_iload hx hb dX7_search_163 (lv_at hl 1 rfl) ?_
                  refine lv_iload_n hx hb dX7_search_165 rfl (lv_at hl 5 rfl) ?_
                  replace hF := ast_i hF
                  obtain ⟨hin_50, hF⟩ := hF
                  refine va_iast (x := v3_16) hx hb hK hP hD hS 15 0 rfl rfl hin_50 dX7_search_166 (fun H locs hP hD hS => ?_)
                  obtain ⟨zM_51, ezM_51⟩ : ∃ y : MS, y = (zM_49.1, va_up zM_49.2 26 (upd (zM_49.2 26) (Int32.toNatClampNeg x_28) v3_16)) := ⟨_, rfl⟩
                  replace hF := nm_i hF ezM_51
                  have hP : va_P D vwCl (wcM ci aM zM_51) H := by rw [ezM_51]; exact hP
                  have hD : va_D A (wcM ci aM zM_51) := by rw [ezM_51]; exact hD
                  refine lv_iconst (v := 1) hx hb dX7_search_167 (by decide) ?_
                  refine lv_topi (fun v2_52 ev2_52 => ?_)
                  replace hF := nm_i hF ev2_52
                  refine lv_istore_n (lv' := [(2, .int v2_52), (5, .int x_30), (4, .int x_28), (0, .ref (aM 0)), (1, .int p1), (3, .int v3_16)]) hx hb dX7_search_168 rfl hl (by decide) rfl (fun ls hl => ?_)
                  obtain ⟨v3_53, ev3_53⟩ : ∃ y : Int32, y = v3_16 + 1 := ⟨_, rfl⟩
                  replace hF := nm_i hF ev3_53
                  refine lv_iinc (v := v3_53) (lv' := [(3, .int v3_53), (2, .int v2_52), (5, .int x_30), (4, .int x_28), (0, .ref (aM 0)), (1, .int p1)]) hx hb dX7_search_169 hl (k := 5) rfl (by rw [ev3_53]; rfl) (by decide) rfl (fun ls hl => ?_)
                  refine lv_goto (tgt := 17) hx hb dX7_search_172 (by decide) ?_
                  exact ih_18 (v2_52, v3_53, zM_51) H locs ls ⟨hF, hP, hD, hS, lv_sub hl [4, 5, 1, 0] rfl⟩
          · replace hF := if_o c_33 hF
            refine lv_aload_n hx hb dX7_search_53 rfl (lv_at hl 2 rfl) ?_
            refine va_get (D := D) (ci := 7) (v := .int (zM_17.1 27)) (C := RX7) (T := TX7) (N := 38) hx hb hts hin_RX7 hown hK hP 0 rfl rfl 27 (by decide) hk_0 (fun _ h9 => h9) rfl dX7_search_54 ?_
            refine lv_iload hx hb dX7_search_57 (lv_at hl 0 rfl) ?_
            replace hF := bnd hF
            obtain ⟨r_54, hc_55, hF⟩ := hF
            refine cl_Sie (As := [.int (zM_17.1 27), .int x_30]) (rest := []) ⟨hx, hb, hml, hown, hts⟩ (va_cwS 2 hts gX7_search_X7_has rfl rfl rfl (by decide +kernel) ⟨Nat.le_of_ble_eq_true rfl, Nat.le_of_ble_eq_true rfl⟩) (c_X7_has l D ci  H.size (zM_17.1 27) x_30 _ hc_55) hK hP hD hS hA rfl rfl hl.1 (Nat.le_of_ble_eq_true rfl) dX7_search_59 (Nat.zero_le _) (Nat.zero_le _) (fun H locs hP hD hS => ?_)
            have hP : va_P D vwCl (wcM ci aM zM_17) H := hP
            have hD : va_D A (wcM ci aM zM_17) := hD
            refine lv_if_ne (tgt := 106) hx hb dX7_search_62 (by decide) (fun c_56 => ?_) (fun c_56 => ?_)
            · replace hF := if_o c_56 hF
              refine lv_aload_n hx hb dX7_search_106 rfl (lv_at hl 2 rfl) ?_
              refine va_get (D := D) (ci := 7) (v := .int (zM_17.1 27)) (C := RX7) (T := TX7) (N := 38) hx hb hts hin_RX7 hown hK hP 0 rfl rfl 27 (by decide) hk_0 (fun _ h9 => h9) rfl dX7_search_107 ?_
              refine lv_iload hx hb dX7_search_110 (lv_at hl 0 rfl) ?_
              replace hF := bnd hF
              obtain ⟨r_57, hc_58, hF⟩ := hF
              refine cl_Sie (As := [.int (zM_17.1 27), .int x_30]) (rest := []) ⟨hx, hb, hml, hown, hts⟩ (va_cwS 2 hts gX7_search_X7_has rfl rfl rfl (by decide +kernel) ⟨Nat.le_of_ble_eq_true rfl, Nat.le_of_ble_eq_true rfl⟩) (c_X7_has l D ci  H.size (zM_17.1 27) x_30 _ hc_58) hK hP hD hS hA rfl rfl hl.1 (Nat.le_of_ble_eq_true rfl) dX7_search_112 (Nat.zero_le _) (Nat.zero_le _) (fun H locs hP hD hS => ?_)
              have hP : va_P D vwCl (wcM ci aM zM_17) H := hP
              have hD : va_D A (wcM ci aM zM_17) := hD
              refine lv_if_eq (tgt := 169) hx hb dX7_search_115 (by decide) (fun c_59 => ?_) (fun c_59 => ?_)
              · replace hF := if_i c_59 hF
                obtain ⟨v3_60, ev3_60⟩ : ∃ y : Int32, y = v3_16 + 1 := ⟨_, rfl⟩
                replace hF := nm_i hF ev3_60
                refine lv_iinc (v := v3_60) (lv' := [(3, .int v3_60), (5, .int x_30), (4, .int x_28), (0, .ref (aM 0)), (1, .int p1), (2, .int v2_15)]) hx hb dX7_search_169 hl (k := 5) rfl (by rw [ev3_60]; rfl) (by decide) rfl (fun ls hl => ?_)
                refine lv_goto (tgt := 17) hx hb dX7_search_172 (by decide) ?_
                exact ih_18 (v2_15, v3_60, zM_17) H locs ls ⟨hF, hP, hD, hS, lv_sub hl [3, 4, 5, 0] rfl⟩
              · replace hF := if_o c_59 hF
                refine lv_aload_n hx hb dX7_search_118 rfl (lv_at hl 2 rfl) ?_
                refine va_get (D := D) (ci := 7) (v := .int (zM_17.1 27)) (C := RX7) (T := TX7) (N := 38) hx hb hts hin_RX7 hown hK hP 0 rfl rfl 27 (by decide) hk_0 (fun _ h9 => h9) rfl dX7_search_119 ?_
                refine lv_iload hx hb dX7_search_122 (lv_at hl 1 rfl) ?_
                replace hF := bnd hF
                obtain ⟨r_61, hc_62, hF⟩ := hF
                refine cl_Sie (As := [.int (zM_17.1 27), .int x_28]) (rest := []) ⟨hx, hb, hml, hown, hts⟩ (va_cwS 2 hts gX7_search_X7_has rfl rfl rfl (by decide +kernel) ⟨Nat.le_of_ble_eq_true rfl, Nat.le_of_ble_eq_true rfl⟩) (c_X7_has l D ci  H.size (zM_17.1 27) x_28 _ hc_62) hK hP hD hS hA rfl rfl hl.1 (Nat.le_of_ble_eq_true rfl) dX7_search_124 (Nat.zero_le _) (Nat.zero_le _) (fun H locs hP hD hS => ?_)
                have hP : va_P D vwCl (wcM ci aM zM_17) H := hP
                have hD : va_D A (wcM ci aM zM_17) := hD
                refine lv_if_ne (tgt := 169) hx hb dX7_search_127 (by decide) (fun c_63 => ?_) (fun c_63 => ?_)
                · replace hF := if_o c_63 hF
                  obtain ⟨v3_64, ev3_64⟩ : ∃ y : Int32, y = v3_16 + 1 := ⟨_, rfl⟩
                  replace hF := nm_i hF ev3_64
                  refine lv_iinc (v := v3_64) (lv' := [(3, .int v3_64), (5, .int x_30), (4, .int x_28), (0, .ref (aM 0)), (1, .int p1), (2, .int v2_15)]) hx hb dX7_search_169 hl (k := 5) rfl (by rw [ev3_64]; rfl) (by decide) rfl (fun ls hl => ?_)
                  refine lv_goto (tgt := 17) hx hb dX7_search_172 (by decide) ?_
                  exact ih_18 (v2_15, v3_64, zM_17) H locs ls ⟨hF, hP, hD, hS, lv_sub hl [3, 4, 5, 0] rfl⟩
                · replace hF := if_i c_63 hF
                  refine lv_aload_n hx hb dX7_search_130 rfl (lv_at hl 2 rfl) ?_
                  refine va_get (D := D) (ci := 7) (v := .ref (aM 25)) (C := RX7) (T := TX7) (N := 38) hx hb hts hin_RX7 hown hK hP 0 rfl rfl 25 (by decide) hk_5 (fun _ h9 => h9) rfl dX7_search_131 ?_
                  refine lv_iload_n hx hb dX7_search_134 rfl (lv_at hl 5 rfl) ?_
                  replace hF := ald_i hF
                  obtain ⟨hin_65, hF⟩ := hF
                  refine va_iald hx hb hK hP 14 0 rfl rfl hin_65 dX7_search_135 ?_
                  refine lv_topi (fun x_66 ex_66 => ?_)
                  replace hF := nm_i hF ex_66
                  refine lv_aload_n hx hb dX7_search_136 rfl (lv_at hl 2 rfl) ?_
                  refine va_get (D := D) (ci := 7) (v := .ref (aM 24)) (C := RX7) (T := TX7) (N := 38) hx hb hts hin_RX7 hown hK hP 0 rfl rfl 24 (by decide) hk_6 (fun _ h9 => h9) rfl dX7_search_137 ?_
                  refine lv_iload_n hx hb dX7_search_140 rfl (lv_at hl 5 rfl) ?_
                  replace hF := ald_i hF
                  obtain ⟨hin_67, hF⟩ := hF
                  refine va_iald hx hb hK hP 13 0 rfl rfl hin_67 dX7_search_141 ?_
                  refine lv_topi (fun x_68 ex_68 => ?_)
                  replace hF := nm_i hF ex_68
                  refine lv_ineg hx hb dX7_search_142 ?_
                  refine lv_icmp_le (tgt := 169) hx hb dX7_search_143 (by decide) (fun c_69 => ?_) (fun c_69 => ?_)
                  · replace hF := if_i c_69 hF
                    obtain ⟨v3_70, ev3_70⟩ : ∃ y : Int32, y = v3_16 + 1 := ⟨_, rfl⟩
                    replace hF := nm_i hF ev3_70
                    refine lv_iinc (v := v3_70) (lv' := [(3, .int v3_70), (5, .int x_30), (4, .int x_28), (0, .ref (aM 0)), (1, .int p1), (2, .int v2_15)]) hx hb dX7_search_169 hl (k := 5) rfl (by rw [ev3_70]; rfl) (by decide) rfl (fun ls hl => ?_)
                    refine lv_goto (tgt := 17) hx hb dX7_search_172 (by decide) ?_
                    exact ih_18 (v2_15, v3_70, zM_17) H locs ls ⟨hF, hP, hD, hS, lv_sub hl [3, 4, 5, 0] rfl⟩
                  · replace hF := if_o c_69 hF
                    refine lv_aload_n hx hb dX7_search_146 rfl (lv_at hl 2 rfl) ?_
                    refine lv_dup hx hb dX7_search_147 rfl ?_
                    refine va_get (D := D) (ci := 7) (v := .int (zM_17.1 27)) (C := RX7) (T := TX7) (N := 38) hx hb hts hin_RX7 hown hK hP 0 rfl rfl 27 (by decide) hk_0 (fun _ h9 => h9) rfl dX7_search_148 ?_
                    refine lv_iconst (v := 1) hx hb dX7_search_151 (by decide) ?_
                    refine lv_iload hx hb dX7_search_152 (lv_at hl 1 rfl) ?_
                    refine lv_ishl hx hb dX7_search_154 ?_
                    refine lv_ior hx hb dX7_search_155 ?_
                    refine lv_topi (fun f27_71 ef27_71 => ?_)
                    replace hF := nm_i hF ef27_71
                    refine va_put (D := D) (ci := 7) (v := .int f27_71) (ty := .int) (C := RX7) (T := TX7) (N := 38) hx hb hts hin_RX7 tyX7 tyX7_ok nmX7 hown hK hP hD hS 0 rfl rfl 27 (by decide) hk_0 (fun _ h9 => h9) rfl (by decide +kernel) rfl rfl (Nat.le_of_ble_eq_true rfl) dX7_search_156 (fun H locs hP hD hS => ?_)
                    obtain ⟨zM_72, ezM_72⟩ : ∃ y : MS, y = (upd zM_17.1 27 f27_71, zM_17.2) := ⟨_, rfl⟩
                    replace hF := nm_i hF ezM_72
                    have hP : va_P D vwCl (wcM ci aM zM_72) H := by rw [ezM_72]; exact hP
                    have hD : va_D A (wcM ci aM zM_72) := by rw [ezM_72]; exact hD
                    refine lv_aload_n hx hb dX7_search_159 rfl (lv_at hl 2 rfl) ?_
                    refine va_get (D := D) (ci := 7) (v := .ref (aM 26)) (C := RX7) (T := TX7) (N := 38) hx hb hts hin_RX7 hown hK hP 0 rfl rfl 26 (by decide) hk_7 (fun _ h9 => h9) rfl dX7_search_160 ?_
                    refine lv_iload hx hb dX7_search_163 (lv_at hl 1 rfl) ?_
                    refine lv_iload_n hx hb dX7_search_165 rfl (lv_at hl 5 rfl) ?_
                    replace hF := ast_i hF
                    obtain ⟨hin_73, hF⟩ := hF
                    refine va_iast (x := v3_16) hx hb hK hP hD hS 15 0 rfl rfl hin_73 dX7_search_166 (fun H locs hP hD hS => ?_)
                    obtain ⟨zM_74, ezM_74⟩ : ∃ y : MS, y = (zM_72.1, va_up zM_72.2 26 (upd (zM_72.2 26) (Int32.toNatClampNeg x_28) v3_16)) := ⟨_, rfl⟩
                    replace hF := nm_i hF ezM_74
                    have hP : va_P D vwCl (wcM ci aM zM_74) H := by rw [ezM_74]; exact hP
                    have hD : va_D A (wcM ci aM zM_74) := by rw [ezM_74]; exact hD
                    refine lv_iconst (v := 1) hx hb dX7_search_167 (by decide) ?_
                    refine lv_topi (fun v2_75 ev2_75 => ?_)
                    replace hF := nm_i hF ev2_75
                    refine lv_istore_n (lv' := [(2, .int v2_75), (5, .int x_30), (4, .int x_28), (0, .ref (aM 0)), (1, .int p1), (3, .int v3_16)]) hx hb dX7_search_168 rfl hl (by decide) rfl (fun ls hl => ?_)
                    obtain ⟨v3_76, ev3_76⟩ : ∃ y : Int32, y = v3_16 + 1 := ⟨_, rfl⟩
                    replace hF := nm_i hF ev3_76
                    refine lv_iinc (v := v3_76) (lv' := [(3, .int v3_76), (2, .int v2_75), (5, .int x_30), (4, .int x_28), (0, .ref (aM 0)), (1, .int p1)]) hx hb dX7_search_169 hl (k := 5) rfl (by rw [ev3_76]; rfl) (by decide) rfl (fun ls hl => ?_)
                    refine lv_goto (tgt := 17) hx hb dX7_search_172 (by decide) ?_
                    exact ih_18 (v2_75, v3_76, zM_74) H locs ls ⟨hF, hP, hD, hS, lv_sub hl [4, 5, 1, 0] rfl⟩
            · replace hF := if_i c_56 hF
              refine lv_aload_n hx hb dX7_search_65 rfl (lv_at hl 2 rfl) ?_
              refine va_get (D := D) (ci := 7) (v := .ref (aM 25)) (C := RX7) (T := TX7) (N := 38) hx hb hts hin_RX7 hown hK hP 0 rfl rfl 25 (by decide) hk_5 (fun _ h9 => h9) rfl dX7_search_66 ?_
              refine lv_iload_n hx hb dX7_search_69 rfl (lv_at hl 5 rfl) ?_
              replace hF := ald_i hF
              obtain ⟨hin_77, hF⟩ := hF
              refine va_iald hx hb hK hP 14 0 rfl rfl hin_77 dX7_search_70 ?_
              refine lv_topi (fun x_78 ex_78 => ?_)
              replace hF := nm_i hF ex_78
              refine lv_aload_n hx hb dX7_search_71 rfl (lv_at hl 2 rfl) ?_
              refine va_get (D := D) (ci := 7) (v := .ref (aM 24)) (C := RX7) (T := TX7) (N := 38) hx hb hts hin_RX7 hown hK hP 0 rfl rfl 24 (by decide) hk_6 (fun _ h9 => h9) rfl dX7_search_72 ?_
              refine lv_iload_n hx hb dX7_search_75 rfl (lv_at hl 5 rfl) ?_
              replace hF := ald_i hF
              obtain ⟨hin_79, hF⟩ := hF
              refine va_iald hx hb hK hP 13 0 rfl rfl hin_79 dX7_search_76 ?_
              refine lv_topi (fun x_80 ex_80 => ?_)
              replace hF := nm_i hF ex_80
              refine lv_icmp_ge (tgt := 106) hx hb dX7_search_77 (by decide) (fun c_81 => ?_) (fun c_81 => ?_)
              · replace hF := if_i c_81 hF
                refine lv_aload_n hx hb dX7_search_106 rfl (lv_at hl 2 rfl) ?_
                refine va_get (D := D) (ci := 7) (v := .int (zM_17.1 27)) (C := RX7) (T := TX7) (N := 38) hx hb hts hin_RX7 hown hK hP 0 rfl rfl 27 (by decide) hk_0 (fun _ h9 => h9) rfl dX7_search_107 ?_
                refine lv_iload hx hb dX7_search_110 (lv_at hl 0 rfl) ?_
                replace hF := bnd hF
                obtain ⟨r_82, hc_83, hF⟩ := hF
                refine cl_Sie (As := [.int (zM_17.1 27), .int x_30]) (rest := []) ⟨hx, hb, hml, hown, hts⟩ (va_cwS 2 hts gX7_search_X7_has rfl rfl rfl (by decide +kernel) ⟨Nat.le_of_ble_eq_true rfl, Nat.le_of_ble_eq_true rfl⟩) (c_X7_has l D ci  H.size (zM_17.1 27) x_30 _ hc_83) hK hP hD hS hA rfl rfl hl.1 (Nat.le_of_ble_eq_true rfl) dX7_search_112 (Nat.zero_le _) (Nat.zero_le _) (fun H locs hP hD hS => ?_)
                have hP : va_P D vwCl (wcM ci aM zM_17) H := hP
                have hD : va_D A (wcM ci aM zM_17) := hD
                refine lv_if_eq (tgt := 169) hx hb dX7_search_115 (by decide) (fun c_84 => ?_) (fun c_84 => ?_)
                · replace hF := if_i c_84 hF
                  obtain ⟨v3_85, ev3_85⟩ : ∃ y : Int32, y = v3_16 + 1 := ⟨_, rfl⟩
                  replace hF := nm_i hF ev3_85
                  refine lv_iinc (v := v3_85) (lv' := [(3, .int v3_85), (5, .int x_30), (4, .int x_28), (0, .ref (aM 0)), (1, .int p1), (2, .int v2_15)]) hx hb dX7_search_169 hl (k := 5) rfl (by rw [ev3_85]; rfl) (by decide) rfl (fun ls hl => ?_)
                  refine lv_goto (tgt := 17) hx hb dX7_search_172 (by decide) ?_
                  exact ih_18 (v2_15, v3_85, zM_17) H locs ls ⟨hF, hP, hD, hS, lv_sub hl [3, 4, 5, 0] rfl⟩
                · replace hF := if_o c_84 hF
                  refine lv_aload_n hx hb dX7_search_118 rfl (lv_at hl 2 rfl) ?_
                  refine va_get (D := D) (ci := 7) (v := .int (zM_17.1 27)) (C := RX7) (T := TX7) (N := 38) hx hb hts hin_RX7 hown hK hP 0 rfl rfl 27 (by decide) hk_0 (fun _ h9 => h9) rfl dX7_search_119 ?_
                  refine lv_iload hx hb dX7_search_122 (lv_at hl 1 rfl) ?_
                  replace hF := bnd hF
                  obtain ⟨r_86, hc_87, hF⟩ := hF
                  refine cl_Sie (As := [.int (zM_17.1 27), .int x_28]) (rest := []) ⟨hx, hb, hml, hown, hts⟩ (va_cwS 2 hts gX7_search_X7_has rfl rfl rfl (by decide +kernel) ⟨Nat.le_of_ble_eq_true rfl, Nat.le_of_ble_eq_true rfl⟩) (c_X7_has l D ci  H.size (zM_17.1 27) x_28 _ hc_87) hK hP hD hS hA rfl rfl hl.1 (Nat.le_of_ble_eq_true rfl) dX7_search_124 (Nat.zero_le _) (Nat.zero_le _) (fun H locs hP hD hS => ?_)
                  have hP : va_P D vwCl (wcM ci aM zM_17) H := hP
                  have hD : va_D A (wcM ci aM zM_17) := hD
                  refine lv_if_ne (tgt := 169) hx hb dX7_search_127 (by decide) (fun c_88 => ?_) (fun c_88 => ?_)
                  · replace hF := if_o c_88 hF
                    obtain ⟨v3_89, ev3_89⟩ : ∃ y : Int32, y = v3_16 + 1 := ⟨_, rfl⟩
                    replace hF := nm_i hF ev3_89
                    refine lv_iinc (v := v3_89) (lv' := [(3, .int v3_89), (5, .int x_30), (4, .int x_28), (0, .ref (aM 0)), (1, .int p1), (2, .int v2_15)]) hx hb dX7_search_169 hl (k := 5) rfl (by rw [ev3_89]; rfl) (by decide) rfl (fun ls hl => ?_)
                    refine lv_goto (tgt := 17) hx hb dX7_search_172 (by decide) ?_
                    exact ih_18 (v2_15, v3_89, zM_17) H locs ls ⟨hF, hP, hD, hS, lv_sub hl [3, 4, 5, 0] rfl⟩
                  · replace hF := if_i c_88 hF
                    refine lv_aload_n hx hb dX7_search_130 rfl (lv_at hl 2 rfl) ?_
                    refine va_get (D := D) (ci := 7) (v := .ref (aM 25)) (C := RX7) (T := TX7) (N := 38) hx hb hts hin_RX7 hown hK hP 0 rfl rfl 25 (by decide) hk_5 (fun _ h9 => h9) rfl dX7_search_131 ?_
                    refine lv_iload_n hx hb dX7_search_134 rfl (lv_at hl 5 rfl) ?_
                    replace hF := ald_i hF
                    obtain ⟨hin_90, hF⟩ := hF
                    refine va_iald hx hb hK hP 14 0 rfl rfl hin_90 dX7_search_135 ?_
                    refine lv_topi (fun x_91 ex_91 => ?_)
                    replace hF := nm_i hF ex_91
                    refine lv_aload_n hx hb dX7_search_136 rfl (lv_at hl 2 rfl) ?_
                    refine va_get (D := D) (ci := 7) (v := .ref (aM 24)) (C := RX7) (T := TX7) (N := 38) hx hb hts hin_RX7 hown hK hP 0 rfl rfl 24 (by decide) hk_6 (fun _ h9 => h9) rfl dX7_search_137 ?_
                    refine lv_iload_n hx hb dX7_search_140 rfl (lv_at hl 5 rfl) ?_
                    replace hF := ald_i hF
                    obtain ⟨hin_92, hF⟩ := hF
                    refine va_iald hx hb hK hP 13 0 rfl rfl hin_92 dX7_search_141 ?_
                    refine lv_topi (fun x_93 ex_93 => ?_)
                    replace hF := nm_i hF ex_93
                    refine lv_ineg hx hb dX7_search_142 ?_
                    refine lv_icmp_le (tgt := 169) hx hb dX7_search_143 (by decide) (fun c_94 => ?_) (fun c_94 => ?_)
                    · replace hF := if_i c_94 hF
                      obtain ⟨v3_95, ev3_95⟩ : ∃ y : Int32, y = v3_16 + 1 := ⟨_, rfl⟩
                      replace hF := nm_i hF ev3_95
                      refine lv_iinc (v := v3_95) (lv' := [(3, .int v3_95), (5, .int x_30), (4, .int x_28), (0, .ref (aM 0)), (1, .int p1), (2, .int v2_15)]) hx hb dX7_search_169 hl (k := 5) rfl (by rw [ev3_95]; rfl) (by decide) rfl (fun ls hl => ?_)
                      refine lv_goto (tgt := 17) hx hb dX7_search_172 (by decide) ?_
                      exact ih_18 (v2_15, v3_95, zM_17) H locs ls ⟨hF, hP, hD, hS, lv_sub hl [3, 4, 5, 0] rfl⟩
                    · replace hF := if_o c_94 hF
                      refine lv_aload_n hx hb dX7_search_146 rfl (lv_at hl 2 rfl) ?_
                      refine lv_dup hx hb dX7_search_147 rfl ?_
                      refine va_get (D := D) (ci := 7) (v := .int (zM_17.1 27)) (C := RX7) (T := TX7) (N := 38) hx hb hts hin_RX7 hown hK hP 0 rfl rfl 27 (by decide) hk_0 (fun _ h9 => h9) rfl dX7_search_148 ?_
                      refine lv_iconst (v := 1) hx hb dX7_search_151 (by decide) ?_
                      refine lv_iload hx hb dX7_search_152 (lv_at hl 1 rfl) ?_
                      refine lv_ishl hx hb dX7_search_154 ?_
                      refine lv_ior hx hb dX7_search_155 ?_
                      refine lv_topi (fun f27_96 ef27_96 => ?_)
                      replace hF := nm_i hF ef27_96
                      refine va_put (D := D) (ci := 7) (v := .int f27_96) (ty := .int) (C := RX7) (T := TX7) (N := 38) hx hb hts hin_RX7 tyX7 tyX7_ok nmX7 hown hK hP hD hS 0 rfl rfl 27 (by decide) hk_0 (fun _ h9 => h9) rfl (by decide +kernel) rfl rfl (Nat.le_of_ble_eq_true rfl) dX7_search_156 (fun H locs hP hD hS => ?_)
                      obtain ⟨zM_97, ezM_97⟩ : ∃ y : MS, y = (upd zM_17.1 27 f27_96, zM_17.2) := ⟨_, rfl⟩
                      replace hF := nm_i hF ezM_97
                      have hP : va_P D vwCl (wcM ci aM zM_97) H := by rw [ezM_97]; exact hP
                      have hD : va_D A (wcM ci aM zM_97) := by rw [ezM_97]; exact hD
                      refine lv_aload_n hx hb dX7_search_159 rfl (lv_at hl 2 rfl) ?_
                      refine va_get (D := D) (ci := 7) (v := .ref (aM 26)) (C := RX7) (T := TX7) (N := 38) hx hb hts hin_RX7 hown hK hP 0 rfl rfl 26 (by decide) hk_7 (fun _ h9 => h9) rfl dX7_search_160 ?_
                      refine lv_iload hx hb dX7_search_163 (lv_at hl 1 rfl) ?_
                      refine lv_iload_n hx hb dX7_search_165 rfl (lv_at hl 5 rfl) ?_
                      replace hF := ast_i hF
                      obtain ⟨hin_98, hF⟩ := hF
                      refine va_iast (x := v3_16) hx hb hK hP hD hS 15 0 rfl rfl hin_98 dX7_search_166 (fun H locs hP hD hS => ?_)
                      obtain ⟨zM_99, ezM_99⟩ : ∃ y : MS, y = (zM_97.1, va_up zM_97.2 26 (upd (zM_97.2 26) (Int32.toNatClampNeg x_28) v3_16)) := ⟨_, rfl⟩
                      replace hF := nm_i hF ezM_99
                      have hP : va_P D vwCl (wcM ci aM zM_99) H := by rw [ezM_99]; exact hP
                      have hD : va_D A (wcM ci aM zM_99) := by rw [ezM_99]; exact hD
                      refine lv_iconst (v := 1) hx hb dX7_search_167 (by decide) ?_
                      refine lv_topi (fun v2_100 ev2_100 => ?_)
                      replace hF := nm_i hF ev2_100
                      refine lv_istore_n (lv' := [(2, .int v2_100), (5, .int x_30), (4, .int x_28), (0, .ref (aM 0)), (1, .int p1), (3, .int v3_16)]) hx hb dX7_search_168 rfl hl (by decide) rfl (fun ls hl => ?_)
                      obtain ⟨v3_101, ev3_101⟩ : ∃ y : Int32, y = v3_16 + 1 := ⟨_, rfl⟩
                      replace hF := nm_i hF ev3_101
                      refine lv_iinc (v := v3_101) (lv' := [(3, .int v3_101), (2, .int v2_100), (5, .int x_30), (4, .int x_28), (0, .ref (aM 0)), (1, .int p1)]) hx hb dX7_search_169 hl (k := 5) rfl (by rw [ev3_101]; rfl) (by decide) rfl (fun ls hl => ?_)
                      refine lv_goto (tgt := 17) hx hb dX7_search_172 (by decide) ?_
                      exact ih_18 (v2_100, v3_101, zM_99) H locs ls ⟨hF, hP, hD, hS, lv_sub hl [4, 5, 1, 0] rfl⟩
              · replace hF := if_o c_81 hF
                refine lv_aload_n hx hb dX7_search_80 rfl (lv_at hl 2 rfl) ?_
                refine lv_dup hx hb dX7_search_81 rfl ?_
                refine va_get (D := D) (ci := 7) (v := .int (zM_17.1 27)) (C := RX7) (T := TX7) (N := 38) hx hb hts hin_RX7 hown hK hP 0 rfl rfl 27 (by decide) hk_0 (fun _ h9 => h9) rfl dX7_search_82 ?_
                refine lv_iconst (v := 1) hx hb dX7_search_85 (by decide) ?_
                refine lv_iload hx hb dX7_search_86 (lv_at hl 0 rfl) ?_
                refine lv_ishl hx hb dX7_search_88 ?_
                refine lv_ior hx hb dX7_search_89 ?_
                refine lv_topi (fun f27_102 ef27_102 => ?_)
                replace hF := nm_i hF ef27_102
                refine va_put (D := D) (ci := 7) (v := .int f27_102) (ty := .int) (C := RX7) (T := TX7) (N := 38) hx hb hts hin_RX7 tyX7 tyX7_ok nmX7 hown hK hP hD hS 0 rfl rfl 27 (by decide) hk_0 (fun _ h9 => h9) rfl (by decide +kernel) rfl rfl (Nat.le_of_ble_eq_true rfl) dX7_search_90 (fun H locs hP hD hS => ?_)
                obtain ⟨zM_103, ezM_103⟩ : ∃ y : MS, y = (upd zM_17.1 27 f27_102, zM_17.2) := ⟨_, rfl⟩
                replace hF := nm_i hF ezM_103
                have hP : va_P D vwCl (wcM ci aM zM_103) H := by rw [ezM_103]; exact hP
                have hD : va_D A (wcM ci aM zM_103) := by rw [ezM_103]; exact hD
                refine lv_aload_n hx hb dX7_search_93 rfl (lv_at hl 2 rfl) ?_
                refine va_get (D := D) (ci := 7) (v := .ref (aM 26)) (C := RX7) (T := TX7) (N := 38) hx hb hts hin_RX7 hown hK hP 0 rfl rfl 26 (by decide) hk_7 (fun _ h9 => h9) rfl dX7_search_94 ?_
                refine lv_iload hx hb dX7_search_97 (lv_at hl 0 rfl) ?_
                refine lv_iload_n hx hb dX7_search_99 rfl (lv_at hl 5 rfl) ?_
                replace hF := ast_i hF
                obtain ⟨hin_104, hF⟩ := hF
                refine va_iast (x := v3_16) hx hb hK hP hD hS 15 0 rfl rfl hin_104 dX7_search_100 (fun H locs hP hD hS => ?_)
                obtain ⟨zM_105, ezM_105⟩ : ∃ y : MS, y = (zM_103.1, va_up zM_103.2 26 (upd (zM_103.2 26) (Int32.toNatClampNeg x_30) v3_16)) := ⟨_, rfl⟩
                replace hF := nm_i hF ezM_105
                have hP : va_P D vwCl (wcM ci aM zM_105) H := by rw [ezM_105]; exact hP
                have hD : va_D A (wcM ci aM zM_105) := by rw [ezM_105]; exact hD
                refine lv_iconst (v := 1) hx hb dX7_search_101 (by decide) ?_
                refine lv_topi (fun v2_106 ev2_106 => ?_)
                replace hF := nm_i hF ev2_106
                refine lv_istore_n (lv' := [(2, .int v2_106), (5, .int x_30), (4, .int x_28), (0, .ref (aM 0)), (1, .int p1), (3, .int v3_16)]) hx hb dX7_search_102 rfl hl (by decide) rfl (fun ls hl => ?_)
                refine lv_goto (tgt := 169) hx hb dX7_search_103 (by decide) ?_
                obtain ⟨v3_107, ev3_107⟩ : ∃ y : Int32, y = v3_16 + 1 := ⟨_, rfl⟩
                replace hF := nm_i hF ev3_107
                refine lv_iinc (v := v3_107) (lv' := [(3, .int v3_107), (2, .int v2_106), (5, .int x_30), (4, .int x_28), (0, .ref (aM 0)), (1, .int p1)]) hx hb dX7_search_169 hl (k := 5) rfl (by rw [ev3_107]; rfl) (by decide) rfl (fun ls hl => ?_)
                refine lv_goto (tgt := 17) hx hb dX7_search_172 (by decide) ?_
                exact ih_18 (v2_106, v3_107, zM_105) H locs ls ⟨hF, hP, hD, hS, lv_sub hl [4, 5, 1, 0] rfl⟩
noncomputable def L_X7_push_2 (p1 : Int32) (p2 : Int32) : Nat → Int32 → MS → Option (Int32 × MS)
  | 0, _, _ => none
  | n + 1, v3_1, zM_2 => if v3_1 = p1 then (some (v3_1, zM_2)) else (ald 25 (zM_2.2 26) v3_1 fun x_11 => ald 40 (zM_2.2 6) x_11 fun x_13 => (if x_13 = v3_1 then (some (1 : Int32)) else (some (0 : Int32))).bind fun t_14 => ald 40 (zM_2.2 25) x_11 fun x_19 => (if t_14 = 0 then (some ((-1) : Int32)) else (some (1 : Int32))).bind fun t_20 => nm (x_19 + t_20) fun y_25 => ast 40 x_11 <| nm ((zM_2.1, va_up zM_2.2 25 (upd (zM_2.2 25) (Int32.toNatClampNeg x_11) y_25)) : MS) fun zM_26 => if t_14 = 0 then (ald 40 (zM_26.2 6) x_11 fun x_29 => L_X7_push_2 p1 p2 n x_29 zM_26) else (ald 40 (zM_26.2 5) x_11 fun x_31 => L_X7_push_2 p1 p2 n x_31 zM_26))
noncomputable def f_X7_push (zM : MS) (p1 : Int32) (p2 : Int32) : Option (MS) := (L_X7_push_2 p1 p2 3000 p2 zM).bind fun q_33 => nm q_33.1 fun v3_5 => nm q_33.2 fun zM_6 => some zM_6
set_option maxHeartbeats 4000000 in
set_option maxRecDepth 100000 in
theorem c_X7_push (l : Launch) (D : va_G) (ci : Nat → ClassId) (aM : Nat → Nat) (sz : Nat) (zM : MS) (p1 : Int32) (p2 : Int32) (res : MS) (hF : f_X7_push zM p1 p2 = some res) : CtV l yX7_push wsX7_push { frames := 0, cells := 0, slots := 0, locals := 0 } [.ref (aM 0), .int p1, .int p2] D ci (wcM ci aM zM) sz (wcM ci aM res) := by
  refine Met.ofW (cc := cX7_push) (maxL := 6) (ret := none) (by decide) rfl ?_
  intro p e s m args below meth c s₁ B hml hv
  obtain ⟨rfl, hsz, hP, hK, hD0⟩ := hv
  have hx := B.exec
  have hb := B.bytes
  have hr := B.returns
  have hts := atoms_spec (ws := wsX7_push) B.pre
  have hown : s.vm.findClass RX7 = some m.cls := findClass_of_methodNamed B.named
  have hlocks := B.notSynchronized
  subst hsz
  have hD := hD0.self (sz := s.heap.size)
  generalize hAe : va_A (wcM ci aM zM) s.heap.size = A at hD ⊢
  have hA : ∀ q : Nat, s.heap.size ≤ q → A q := fun q h => by rw [← hAe]; exact Or.inr h
  clear hD0 hAe
  have hl := lv_entry ([.ref (aM 0), .int p1, .int p2]) (n := 6) (Nat.le_of_ble_eq_true rfl)
  rw [lg_entry_eq]
  generalize (lg_sl ([.ref (aM 0), .int p1, .int p2]) ++ List.replicate (6 - (lg_sl ([.ref (aM 0), .int p1, .int p2])).length) Slot.unset).toArray = ls at hl ⊢
  have hl : lv_has ls 6 [(0, .ref (aM 0)), (1, .int p1), (2, .int p2)] := hl
  have hP : va_P D vwCl (wcM ci aM zM) s.heap := hP
  generalize hH0 : s.heap = H at hP ⊢
  have hS : va_S A s.heap H [] := by rw [← hH0]; exact va_S.rf
  clear hH0
  generalize ([] : List Loc) = locs at hS ⊢
  have hk_0 := hts (.fieldLink RX7 57 "HedgeWarModel" "cameBy" "[I") (by decide +kernel)
  have hin_RX7 : ∀ w ∈ wsX70, w ∈ wsX7_push := by decide +kernel
  have hk_2 := hts (.fieldLink RX7 16 "HedgeWarModel" "edgeHigh" "[I") (by decide +kernel)
  have hk_3 := hts (.fieldLink RX7 54 "HedgeWarModel" "flow" "[I") (by decide +kernel)
  have hk_4 := hts (.fieldLink RX7 13 "HedgeWarModel" "edgeLow" "[I") (by decide +kernel)
  unfold f_X7_push at hF
  refine lv_iload_n hx hb dX7_push_0 rfl (lv_at hl 2 rfl) ?_
  refine lv_istore_n (lv' := [(3, .int p2), (0, .ref (aM 0)), (1, .int p1), (2, .int p2)]) hx hb dX7_push_1 rfl hl (by decide) rfl (fun ls hl => ?_)
  replace hF := bnd hF
  obtain ⟨q_33, hv_32, hF⟩ := hF
  obtain ⟨v3_5, ev3_5⟩ : ∃ y : Int32, y = q_33.1 := ⟨_, rfl⟩
  replace hF := nm_i hF ev3_5
  obtain ⟨zM_6, ezM_6⟩ : ∃ y : MS, y = q_33.2 := ⟨_, rfl⟩
  replace hF := nm_i hF ezM_6
  obtain rfl : q_33 = (v3_5, zM_6) := by rw [ev3_5, ezM_6]
  clear ev3_5
  clear ezM_6
  refine jn (P := fun H locs ls => va_P D vwCl (wcM ci aM zM_6) H ∧ va_D A (wcM ci aM zM_6) ∧ va_S A s.heap H locs ∧ lv_has ls 6 [(0, .ref (aM 0)), (1, .int p1), (2, .int p2), (3, .int v3_5)]) (pcJ := 79) (st := []) ?_ ?_
  · intro H locs ls hJ
    obtain ⟨hP, hD, hS, hl⟩ := hJ
    obtain rfl := Option.some.inj hF
    exact W.vret hx hb hr (fun t ht hW => ⟨⟨(), rfl, trivial, by rw [ht]; exact hP, va_K.moved hW.alike hK, hD⟩, hS.F ht⟩) hS.2.2 dX7_push_79
  · intro J_4
    clear hF
    have hF := hv_32
    refine lpW (σ := Int32 × MS) (I := fun n v H locs ls => L_X7_push_2 p1 p2 n v.1 v.2 = some (v3_5, zM_6) ∧ va_P D vwCl (wcM ci aM v.2) H ∧ va_D A (wcM ci aM v.2) ∧ va_S A s.heap H locs ∧ lv_has ls 6 [(0, .ref (aM 0)), (1, .int p1), (2, .int p2), (3, .int v.1)]) 3000 (p2, zM) (fun _ _ _ _ h => no_none h.1) ⟨hF, hP, hD, hS, lv_sub hl [1, 2, 3, 0] rfl⟩ ?_
    clear hF hP hD hS hl
    intro n ih_3 vq H locs ls hI
    obtain ⟨v3_1, zM_2⟩ := vq
    obtain ⟨hF, hP, hD, hS, hl⟩ := hI
    have hP : va_P D vwCl (wcM ci aM zM_2) H := hP
    have hD : va_D A (wcM ci aM zM_2) := hD
    have hl : lv_has ls 6 [(0, .ref (aM 0)), (1, .int p1), (2, .int p2), (3, .int v3_1)] := hl
    replace hF : L_X7_push_2 p1 p2 (n + 1) v3_1 zM_2 = some (v3_5, zM_6) := hF
    rw [L_X7_push_2] at hF
    refine lv_iload_n hx hb dX7_push_2 rfl (lv_at hl 3 rfl) ?_
    refine lv_iload_n hx hb dX7_push_3 rfl (lv_at hl 1 rfl) ?_
    refine lv_icmp_eq (tgt := 79) hx hb dX7_push_4 (by decide) (fun c_7 => ?_) (fun c_7 => ?_)
    · replace hF := if_i c_7 hF
      obtain ⟨g_8, g_9⟩ : v3_1 = v3_5 ∧ zM_2 = zM_6 := by have h9 := Option.some.inj hF; simpa only [Prod.mk.injEq] using h9
      subst g_8
      subst g_9
      exact J_4 H locs ls ⟨hP, hD, hS, lv_sub hl [0, 1, 2, 3] rfl⟩
    · replace hF := if_o c_7 hF
      refine lv_aload_n hx hb dX7_push_7 rfl (lv_at hl 0 rfl) ?_
      refine va_get (D := D) (ci := 7) (v := .ref (aM 26)) (C := RX7) (T := TX7) (N := 38) hx hb hts hin_RX7 hown hK hP 0 rfl rfl 26 (by decide) hk_0 (fun _ h9 => h9) rfl dX7_push_8 ?_
      refine lv_iload_n hx hb dX7_push_11 rfl (lv_at hl 3 rfl) ?_
      replace hF := ald_i hF
      obtain ⟨hin_10, hF⟩ := hF
      refine va_iald hx hb hK hP 15 0 rfl rfl hin_10 dX7_push_12 ?_
      refine lv_topi (fun x_11 ex_11 => ?_)
      replace hF := nm_i hF ex_11
      refine lv_istore (lv' := [(4, .int x_11), (0, .ref (aM 0)), (1, .int p1), (2, .int p2), (3, .int v3_1)]) hx hb dX7_push_13 hl (by decide) rfl (fun ls hl => ?_)
      refine lv_aload_n hx hb dX7_push_15 rfl (lv_at hl 1 rfl) ?_
      refine va_get (D := D) (ci := 7) (v := .ref (aM 6)) (C := RX7) (T := TX7) (N := 38) hx hb hts hin_RX7 hown hK hP 0 rfl rfl 6 (by decide) hk_2 (fun _ h9 => h9) rfl dX7_push_16 ?_
      refine lv_iload hx hb dX7_push_19 (lv_at hl 0 rfl) ?_
      replace hF := ald_i hF
      obtain ⟨hin_12, hF⟩ := hF
      refine va_iald hx hb hK hP 3 0 rfl rfl hin_12 dX7_push_21 ?_
      refine lv_topi (fun x_13 ex_13 => ?_)
      replace hF := nm_i hF ex_13
      refine lv_iload_n hx hb dX7_push_22 rfl (lv_at hl 4 rfl) ?_
      replace hF := bnd hF
      obtain ⟨t_14, hv_17, hF⟩ := hF
      refine jn (P := fun H locs ls => va_P D vwCl (wcM ci aM zM_2) H ∧ va_D A (wcM ci aM zM_2) ∧ va_S A s.heap H locs ∧ lv_has ls 6 [(0, .ref (aM 0)), (1, .int p1), (2, .int p2), (3, .int v3_1), (4, .int x_11)]) (pcJ := 31) (st := [.int t_14]) ?_ ?_
      · intro H locs ls hJ
        obtain ⟨hP, hD, hS, hl⟩ := hJ
        refine lv_istore (lv' := [(5, .int t_14), (0, .ref (aM 0)), (1, .int p1), (2, .int p2), (3, .int v3_1), (4, .int x_11)]) hx hb dX7_push_31 hl (by decide) rfl (fun ls hl => ?_)
        refine lv_aload_n hx hb dX7_push_33 rfl (lv_at hl 1 rfl) ?_
        refine va_get (D := D) (ci := 7) (v := .ref (aM 25)) (C := RX7) (T := TX7) (N := 38) hx hb hts hin_RX7 hown hK hP 0 rfl rfl 25 (by decide) hk_3 (fun _ h9 => h9) rfl dX7_push_34 ?_
        refine lv_iload hx hb dX7_push_37 (lv_at hl 5 rfl) ?_
        refine lv_dup2_11 hx hb dX7_push_39 rfl rfl ?_
        replace hF := ald_i hF
        obtain ⟨hin_18, hF⟩ := hF
        refine va_iald hx hb hK hP 14 0 rfl rfl hin_18 dX7_push_40 ?_
        refine lv_topi (fun x_19 ex_19 => ?_)
        replace hF := nm_i hF ex_19
        refine lv_iload hx hb dX7_push_41 (lv_at hl 0 rfl) ?_
        replace hF := bnd hF
        obtain ⟨t_20, hv_23, hF⟩ := hF
        refine jn (P := fun H locs ls => va_P D vwCl (wcM ci aM zM_2) H ∧ va_D A (wcM ci aM zM_2) ∧ va_S A s.heap H locs ∧ lv_has ls 6 [(0, .ref (aM 0)), (1, .int p1), (2, .int p2), (3, .int v3_1), (4, .int x_11), (5, .int t_14)]) (pcJ := 51) (st := [.int t_20, .int x_19, .int x_11, .ref (aM 25)]) ?_ ?_
        · intro H locs ls hJ
          obtain ⟨hP, hD, hS, hl⟩ := hJ
          refine lv_iadd hx hb dX7_push_51 ?_
          refine lv_topi (fun y_25 ey_25 => ?_)
          replace hF := nm_i hF ey_25
          replace hF := ast_i hF
          obtain ⟨hin_24, hF⟩ := hF
          refine va_iast (x := y_25) hx hb hK hP hD hS 14 0 rfl rfl hin_24 dX7_push_52 (fun H locs hP hD hS => ?_)
          obtain ⟨zM_26, ezM_26⟩ : ∃ y : MS, y = (zM_2.1, va_up zM_2.2 25 (upd (zM_2.2 25) (Int32.toNatClampNeg x_11) y_25)) := ⟨_, rfl⟩
          replace hF := nm_i hF ezM_26
          have hP : va_P D vwCl (wcM ci aM zM_26) H := by rw [ezM_26]; exact hP
          have hD : va_D A (wcM ci aM zM_26) := by rw [ezM_26]; exact hD
          refine lv_iload hx hb dX7_push_53 (lv_at hl 5 rfl) ?_
          refine lv_if_eq (tgt := 68) hx hb dX7_push_55 (by decide) (fun c_27 => ?_) (fun c_27 => ?_)
          · replace hF := if_i c_27 hF
            refine lv_aload_n hx hb dX7_push_68 rfl (lv_at hl 0 rfl) ?_
            refine va_get (D := D) (ci := 7) (v := .ref (aM 6)) (C := RX7) (T := TX7) (N := 38) hx hb hts hin_RX7 hown hK hP 0 rfl rfl 6 (by decide) hk_2 (fun _ h9 => h9) rfl dX7_push_69 ?_
            refine lv_iload hx hb dX7_push_72 (lv_at hl 4 rfl) ?_
            replace hF := ald_i hF
            obtain ⟨hin_28, hF⟩ := hF
            refine va_iald hx hb hK hP 3 0 rfl rfl hin_28 dX7_push_74 ?_
            refine lv_topi (fun x_29 ex_29 => ?_)
            replace hF := nm_i hF ex_29
            refine lv_istore_n (lv' := [(3, .int x_29), (0, .ref (aM 0)), (1, .int p1), (2, .int p2), (4, .int x_11), (5, .int t_14)]) hx hb dX7_push_75 rfl hl (by decide) rfl (fun ls hl => ?_)
            refine lv_goto (tgt := 2) hx hb dX7_push_76 (by decide) ?_
            exact ih_3 (x_29, zM_26) H locs ls ⟨hF, hP, hD, hS, lv_sub hl [1, 2, 3, 0] rfl⟩
          · replace hF := if_o c_27 hF
            refine lv_aload_n hx hb dX7_push_58 rfl (lv_at hl 0 rfl) ?_
            refine va_get (D := D) (ci := 7) (v := .ref (aM 5)) (C := RX7) (T := TX7) (N := 38) hx hb hts hin_RX7 hown hK hP 0 rfl rfl 5 (by decide) hk_4 (fun _ h9 => h9) rfl dX7_push_59 ?_
            refine lv_iload hx hb dX7_push_62 (lv_at hl 4 rfl) ?_
            replace hF := ald_i hF
            obtain ⟨hin_30, hF⟩ := hF
            refine va_iald hx hb hK hP 2 0 rfl rfl hin_30 dX7_push_64 ?_
            refine lv_topi (fun x_31 ex_31 => ?_)
            replace hF := nm_i hF ex_31
            refine lv_goto (tgt := 75) hx hb dX7_push_65 (by decide) ?_
            refine lv_istore_n (lv' := [(3, .int x_31), (0, .ref (aM 0)), (1, .int p1), (2, .int p2), (4, .int x_11), (5, .int t_14)]) hx hb dX7_push_75 rfl hl (by decide) rfl (fun ls hl => ?_)
            refine lv_goto (tgt := 2) hx hb dX7_push_76 (by decide) ?_
            exact ih_3 (x_31, zM_26) H locs ls ⟨hF, hP, hD, hS, lv_sub hl [1, 2, 3, 0] rfl⟩
        · intro J_21
          clear hF
          have hF := hv_23
          refine lv_if_eq (tgt := 50) hx hb dX7_push_43 (by decide) (fun c_22 => ?_) (fun c_22 => ?_)
          · replace hF := if_i c_22 hF
            refine lv_iconst (v := (-1)) hx hb dX7_push_50 (by decide) ?_
            obtain rfl := Option.some.inj hF
            exact J_21 H locs ls ⟨hP, hD, hS, lv_sub hl [1, 2, 3, 4, 5, 0] rfl⟩
          · replace hF := if_o c_22 hF
            refine lv_iconst (v := 1) hx hb dX7_push_46 (by decide) ?_
            refine lv_goto (tgt := 51) hx hb dX7_push_47 (by decide) ?_
            obtain rfl := Option.some.inj hF
            exact J_21 H locs ls ⟨hP, hD, hS, lv_sub hl [1, 2, 3, 4, 5, 0] rfl⟩
      · intro J_15
        clear hF
        have hF := hv_17
        refine lv_icmp_ne (tgt := 30) hx hb dX7_push_23 (by decide) (fun c_16 => ?_) (fun c_16 => ?_)
        · replace hF := if_o c_16 hF
          refine lv_iconst (v := 0) hx hb dX7_push_30 (by decide) ?_
          obtain rfl := Option.some.inj hF
          exact J_15 H locs ls ⟨hP, hD, hS, lv_sub hl [1, 2, 3, 4, 0] rfl⟩
        · replace hF := if_i c_16 hF
          refine lv_iconst (v := 1) hx hb dX7_push_26 (by decide) ?_
          refine lv_goto (tgt := 31) hx hb dX7_push_27 (by decide) ?_
          obtain rfl := Option.some.inj hF
          exact J_15 H locs ls ⟨hP, hD, hS, lv_sub hl [1, 2, 3, 4, 0] rfl⟩
noncomputable def L_X7_cut_8 (p1 : Int32) : Nat → Int32 → Int32 → MS → Option (Int32 × MS)
  | 0, _, _, _ => none
  | n + 1, v2_6, v3_7, zM_8 => if v3_7 < 0 then (some (v2_6, zM_8)) else ((f_X7_push zM_8 p1 v3_7).bind fun zM_12 => nm (v2_6 + 1) fun v2_14 => if v2_14 ≤ 40 then ((f_X7_search zM_12 p1).bind fun q_19 => nm q_19.1 fun r_16 => nm q_19.2 fun zM_17 => L_X7_cut_8 p1 n v2_14 r_16 zM_17) else (some ((-1 : Int32), zM_12)))
noncomputable def f_X7_cut (zM : MS) (p1 : Int32) : Option (Int32 × MS) := nm (0 : Int32) fun v2_1 => (f_X7_search zM p1).bind fun q_5 => nm q_5.1 fun r_2 => nm q_5.2 fun zM_3 => L_X7_cut_8 p1 3000 v2_1 r_2 zM_3
set_option maxHeartbeats 4000000 in
set_option maxRecDepth 100000 in
theorem c_X7_cut (l : Launch) (D : va_G) (ci : Nat → ClassId) (aM : Nat → Nat) (sz : Nat) (zM : MS) (p1 : Int32) (res : Int32 × MS) (hF : f_X7_cut zM p1 = some res) : CtI l yX7_cut wsX7_cut { frames := 2, cells := 0, slots := 0, locals := 48 } [.ref (aM 0), .int p1] D ci (wcM ci aM zM) sz res.1 (wcM ci aM res.2) := by
  refine Met.ofW (cc := cX7_cut) (maxL := 4) (ret := (some .int)) (by decide) rfl ?_
  intro p e s m args below meth c s₁ B hml hv
  obtain ⟨rfl, hsz, hP, hK, hD0⟩ := hv
  have hx := B.exec
  have hb := B.bytes
  have hr := B.returns
  have hts := atoms_spec (ws := wsX7_cut) B.pre
  have hown : s.vm.findClass RX7 = some m.cls := findClass_of_methodNamed B.named
  have hlocks := B.notSynchronized
  subst hsz
  have hD := hD0.self (sz := s.heap.size)
  generalize hAe : va_A (wcM ci aM zM) s.heap.size = A at hD ⊢
  have hA : ∀ q : Nat, s.heap.size ≤ q → A q := fun q h => by rw [← hAe]; exact Or.inr h
  clear hD0 hAe
  have hl := lv_entry ([.ref (aM 0), .int p1]) (n := 4) (Nat.le_of_ble_eq_true rfl)
  rw [lg_entry_eq]
  generalize (lg_sl ([.ref (aM 0), .int p1]) ++ List.replicate (4 - (lg_sl ([.ref (aM 0), .int p1])).length) Slot.unset).toArray = ls at hl ⊢
  have hl : lv_has ls 4 [(0, .ref (aM 0)), (1, .int p1)] := hl
  have hP : va_P D vwCl (wcM ci aM zM) s.heap := hP
  generalize hH0 : s.heap = H at hP ⊢
  have hS : va_S A s.heap H [] := by rw [← hH0]; exact va_S.rf
  clear hH0
  generalize ([] : List Loc) = locs at hS ⊢
  unfold f_X7_cut at hF
  refine lv_iconst (v := 0) hx hb dX7_cut_0 (by decide) ?_
  refine lv_topi (fun v2_1 ev2_1 => ?_)
  replace hF := nm_i hF ev2_1
  refine lv_istore_n (lv' := [(2, .int v2_1), (0, .ref (aM 0)), (1, .int p1)]) hx hb dX7_cut_1 rfl hl (by decide) rfl (fun ls hl => ?_)
  refine lv_aload_n hx hb dX7_cut_2 rfl (lv_at hl 1 rfl) ?_
  refine lv_iload_n hx hb dX7_cut_3 rfl (lv_at hl 2 rfl) ?_
  replace hF := bnd hF
  obtain ⟨q_5, hc_4, hF⟩ := hF
  obtain ⟨r_2, er_2⟩ : ∃ y : Int32, y = q_5.1 := ⟨_, rfl⟩
  replace hF := nm_i hF er_2
  obtain ⟨zM_3, ezM_3⟩ : ∃ y : MS, y = q_5.2 := ⟨_, rfl⟩
  replace hF := nm_i hF ezM_3
  obtain rfl : q_5 = (r_2, zM_3) := by rw [er_2, ezM_3]
  clear er_2
  clear ezM_3
  refine cl_Vi0 (As := [.int p1]) (rest := []) ⟨hx, hb, hml, hown, hts⟩ (cwV 1 hts gX7_cut_X7_search rfl rfl rfl (by decide +kernel) ⟨Nat.le_of_ble_eq_true rfl, Nat.le_of_ble_eq_true rfl⟩) (c_X7_search l D ci aM H.size zM p1 _ hc_4) hK hP hD hS hA 0 rfl rfl rfl rfl hl.1 (Nat.le_of_ble_eq_true rfl) dX7_cut_4 (Nat.zero_le _) (Nat.zero_le _) (fun H locs hP hD hS => ?_)
  have hP : va_P D vwCl (wcM ci aM zM_3) H := hP
  have hD : va_D A (wcM ci aM zM_3) := hD
  refine lv_istore_n (lv' := [(3, .int r_2), (2, .int v2_1), (0, .ref (aM 0)), (1, .int p1)]) hx hb dX7_cut_7 rfl hl (by decide) rfl (fun ls hl => ?_)
  refine lpW (σ := Int32 × Int32 × MS) (I := fun n v H locs ls => L_X7_cut_8 p1 n v.1 v.2.1 v.2.2 = some res ∧ va_P D vwCl (wcM ci aM v.2.2) H ∧ va_D A (wcM ci aM v.2.2) ∧ va_S A s.heap H locs ∧ lv_has ls 4 [(0, .ref (aM 0)), (1, .int p1), (2, .int v.1), (3, .int v.2.1)]) 3000 (v2_1, r_2, zM_3) (fun _ _ _ _ h => no_none h.1) ⟨hF, hP, hD, hS, lv_sub hl [2, 3, 1, 0] rfl⟩ ?_
  clear hF hP hD hS hl
  intro n ih_9 vq H locs ls hI
  obtain ⟨v2_6, v3_7, zM_8⟩ := vq
  obtain ⟨hF, hP, hD, hS, hl⟩ := hI
  have hP : va_P D vwCl (wcM ci aM zM_8) H := hP
  have hD : va_D A (wcM ci aM zM_8) := hD
  have hl : lv_has ls 4 [(0, .ref (aM 0)), (1, .int p1), (2, .int v2_6), (3, .int v3_7)] := hl
  replace hF : L_X7_cut_8 p1 (n + 1) v2_6 v3_7 zM_8 = some res := hF
  rw [L_X7_cut_8] at hF
  refine lv_iload_n hx hb dX7_cut_8 rfl (lv_at hl 3 rfl) ?_
  refine lv_if_lt (tgt := 38) hx hb dX7_cut_9 (by decide) (fun c_11 => ?_) (fun c_11 => ?_)
  · replace hF := if_i c_11 hF
    refine lv_iload_n hx hb dX7_cut_38 rfl (lv_at hl 2 rfl) ?_
    obtain rfl := Option.some.inj hF
    exact W.iret (v := v2_6) hx hb hr (fun t ht hW => ⟨⟨_, (), rfl, rfl, by rw [ht]; exact hP, va_K.moved hW.alike hK, hD⟩, hS.F ht⟩) hS.2.2 dX7_cut_39
  · replace hF := if_o c_11 hF
    refine lv_aload_n hx hb dX7_cut_12 rfl (lv_at hl 0 rfl) ?_
    refine lv_iload_n hx hb dX7_cut_13 rfl (lv_at hl 1 rfl) ?_
    refine lv_iload_n hx hb dX7_cut_14 rfl (lv_at hl 3 rfl) ?_
    replace hF := bnd hF
    obtain ⟨zM_12, hc_13, hF⟩ := hF
    refine cl_Vv0 (As := [.int p1, .int v3_7]) (rest := []) ⟨hx, hb, hml, hown, hts⟩ (cwV 2 hts gX7_cut_X7_push rfl rfl rfl (by decide +kernel) ⟨Nat.le_of_ble_eq_true rfl, Nat.le_of_ble_eq_true rfl⟩) (c_X7_push l D ci aM H.size zM_8 p1 v3_7 _ hc_13) hK hP hD hS hA 0 rfl rfl rfl rfl hl.1 (Nat.le_of_ble_eq_true rfl) dX7_cut_15 (Nat.zero_le _) (Nat.zero_le _) (fun H locs hP hD hS => ?_)
    have hP : va_P D vwCl (wcM ci aM zM_12) H := hP
    have hD : va_D A (wcM ci aM zM_12) := hD
    obtain ⟨v2_14, ev2_14⟩ : ∃ y : Int32, y = v2_6 + 1 := ⟨_, rfl⟩
    replace hF := nm_i hF ev2_14
    refine lv_iinc (v := v2_14) (lv' := [(2, .int v2_14), (0, .ref (aM 0)), (1, .int p1), (3, .int v3_7)]) hx hb dX7_cut_18 hl (k := 2) rfl (by rw [ev2_14]; rfl) (by decide) rfl (fun ls hl => ?_)
    refine lv_iload_n hx hb dX7_cut_21 rfl (lv_at hl 0 rfl) ?_
    refine lv_bipush (v := 40) hx hb dX7_cut_22 (by decide) ?_
    refine lv_icmp_le (tgt := 29) hx hb dX7_cut_24 (by decide) (fun c_15 => ?_) (fun c_15 => ?_)
    · replace hF := if_i c_15 hF
      refine lv_aload_n hx hb dX7_cut_29 rfl (lv_at hl 1 rfl) ?_
      refine lv_iload_n hx hb dX7_cut_30 rfl (lv_at hl 2 rfl) ?_
      replace hF := bnd hF
      obtain ⟨q_19, hc_18, hF⟩ := hF
      obtain ⟨r_16, er_16⟩ : ∃ y : Int32, y = q_19.1 := ⟨_, rfl⟩
      replace hF := nm_i hF er_16
      obtain ⟨zM_17, ezM_17⟩ : ∃ y : MS, y = q_19.2 := ⟨_, rfl⟩
      replace hF := nm_i hF ezM_17
      obtain rfl : q_19 = (r_16, zM_17) := by rw [er_16, ezM_17]
      clear er_16
      clear ezM_17
      refine cl_Vi0 (As := [.int p1]) (rest := []) ⟨hx, hb, hml, hown, hts⟩ (cwV 1 hts gX7_cut_X7_search rfl rfl rfl (by decide +kernel) ⟨Nat.le_of_ble_eq_true rfl, Nat.le_of_ble_eq_true rfl⟩) (c_X7_search l D ci aM H.size zM_12 p1 _ hc_18) hK hP hD hS hA 0 rfl rfl rfl rfl hl.1 (Nat.le_of_ble_eq_true rfl) dX7_cut_31 (Nat.zero_le _) (Nat.zero_le _) (fun H locs hP hD hS => ?_)
      have hP : va_P D vwCl (wcM ci aM zM_17) H := hP
      have hD : va_D A (wcM ci aM zM_17) := hD
      refine lv_istore_n (lv' := [(3, .int r_16), (2, .int v2_14), (0, .ref (aM 0)), (1, .int p1)]) hx hb dX7_cut_34 rfl hl (by decide) rfl (fun ls hl => ?_)
      refine lv_goto (tgt := 8) hx hb dX7_cut_35 (by decide) ?_
      exact ih_9 (v2_14, r_16, zM_17) H locs ls ⟨hF, hP, hD, hS, lv_sub hl [2, 3, 1, 0] rfl⟩
    · replace hF := if_o c_15 hF
      refine lv_iconst (v := (-1)) hx hb dX7_cut_27 (by decide) ?_
      obtain rfl := Option.some.inj hF
      exact W.iret (v := (-1)) hx hb hr (fun t ht hW => ⟨⟨_, (), rfl, rfl, by rw [ht]; exact hP, va_K.moved hW.alike hK, hD⟩, hS.F ht⟩) hS.2.2 dX7_cut_28
noncomputable def L_X7_slips_76 (zM_16 : MS) (p1 : Int32) (p2 : Int32) (p3 : Int32) (p4 : Int32) (r_15 : Int32) : Nat → Int32 → Int32 → Option (Int32 × MS)
  | 0, _, _ => none
  | n + 1, v6_23, v7_24 => if (zM_16.1 3) ≤ v7_24 then (some ((-1 : Int32), zM_16)) else (ald 40 (zM_16.2 24) v7_24 fun x_29 => if x_29 = 1 then (ald 40 (zM_16.2 5) v7_24 fun x_33 => (f_X7_has (zM_16.1 27) x_33).bind fun r_34 => ald 40 (zM_16.2 6) v7_24 fun x_37 => (f_X7_has (zM_16.1 27) x_37).bind fun r_38 => if r_34 = r_38 then (nm (v7_24 + 1) fun v7_41 => L_X7_slips_76 zM_16 p1 p2 p3 p4 r_15 n v6_23 v7_41) else (if v6_23 = p4 then (some (v7_24, zM_16)) else (nm (v6_23 + 1) fun v6_43 => nm (v7_24 + 1) fun v7_44 => L_X7_slips_76 zM_16 p1 p2 p3 p4 r_15 n v6_43 v7_44))) else (nm (v7_24 + 1) fun v7_31 => L_X7_slips_76 zM_16 p1 p2 p3 p4 r_15 n v6_23 v7_31))
noncomputable def f_X7_slips (zM : MS) (p1 : Int32) (p2 : Int32) (p3 : Int32) (p4 : Int32) : Option (Int32 × MS) := (f_X7_isEstate p1).bind fun r_1 => if r_1 = 0 then (some ((-1000000001 : Int32), zM)) else ((f_X7_isField zM p2).bind fun r_4 => if r_4 = 0 then (some ((-1000000001 : Int32), zM)) else ((f_X7_in (Int32.toInt64 p3) (1 : Int64) (20 : Int64)).bind fun r_7 => if r_7 = 0 then (some ((-1000000002 : Int32), zM)) else ((f_X7_isRim zM p2).bind fun r_10 => if r_10 = 0 then ((f_X7_findRoom zM p1 p3).bind fun zM_13 => (f_X7_cut zM_13 p2).bind fun q_18 => nm q_18.1 fun r_15 => nm q_18.2 fun zM_16 => if r_15 < 0 then (some (r_15, zM_16)) else (if p4 = (-1) then (some (r_15, zM_16)) else (nm (0 : Int32) fun v6_21 => nm (0 : Int32) fun v7_22 => L_X7_slips_76 zM_16 p1 p2 p3 p4 r_15 3000 v6_21 v7_22))) else (some ((-1 : Int32), zM)))))
set_option maxHeartbeats 4000000 in
set_option maxRecDepth 100000 in
theorem c_X7_slips (l : Launch) (D : va_G) (ci : Nat → ClassId) (aM : Nat → Nat) (sz : Nat) (zM : MS) (p1 : Int32) (p2 : Int32) (p3 : Int32) (p4 : Int32) (res : Int32 × MS) (hF : f_X7_slips zM p1 p2 p3 p4 = some res) : CtI l yX7_slips wsX7_slips { frames := 3, cells := 0, slots := 0, locals := 71 } [.ref (aM 0), .int p1, .int p2, .int p3, .int p4] D ci (wcM ci aM zM) sz res.1 (wcM ci aM res.2) := by
  refine Met.ofW (cc := cX7_slips) (maxL := 8) (ret := (some .int)) (by decide) rfl ?_
  intro p e s m args below meth c s₁ B hml hv
  obtain ⟨rfl, hsz, hP, hK, hD0⟩ := hv
  have hx := B.exec
  have hb := B.bytes
  have hr := B.returns
  have hts := atoms_spec (ws := wsX7_slips) B.pre
  have hown : s.vm.findClass RX7 = some m.cls := findClass_of_methodNamed B.named
  have hlocks := B.notSynchronized
  subst hsz
  have hD := hD0.self (sz := s.heap.size)
  generalize hAe : va_A (wcM ci aM zM) s.heap.size = A at hD ⊢
  have hA : ∀ q : Nat, s.heap.size ≤ q → A q := fun q h => by rw [← hAe]; exact Or.inr h
  clear hD0 hAe
  have hl := lv_entry ([.ref (aM 0), .int p1, .int p2, .int p3, .int p4]) (n := 8) (Nat.le_of_ble_eq_true rfl)
  rw [lg_entry_eq]
  generalize (lg_sl ([.ref (aM 0), .int p1, .int p2, .int p3, .int p4]) ++ List.replicate (8 - (lg_sl ([.ref (aM 0), .int p1, .int p2, .int p3, .int p4])).length) Slot.unset).toArray = ls at hl ⊢
  have hl : lv_has ls 8 [(0, .ref (aM 0)), (1, .int p1), (2, .int p2), (3, .int p3), (4, .int p4)] := hl
  have hP : va_P D vwCl (wcM ci aM zM) s.heap := hP
  generalize hH0 : s.heap = H at hP ⊢
  have hS : va_S A s.heap H [] := by rw [← hH0]; exact va_S.rf
  clear hH0
  generalize ([] : List Loc) = locs at hS ⊢
  have hk_0 := hts (.constant RX7 210 (-1000000001)) (by decide +kernel)
  have hk_1 := hts (.constantLong RX7 264 (20)) (by decide +kernel)
  have hk_2 := hts (.fieldLink RX7 91 "HedgeWarModel" "edges" "I") (by decide +kernel)
  have hin_RX7 : ∀ w ∈ wsX70, w ∈ wsX7_slips := by decide +kernel
  have hk_4 := hts (.fieldLink RX7 51 "HedgeWarModel" "room" "[I") (by decide +kernel)
  have hk_5 := hts (.fieldLink RX7 255 "HedgeWarModel" "reached" "I") (by decide +kernel)
  have hk_6 := hts (.fieldLink RX7 13 "HedgeWarModel" "edgeLow" "[I") (by decide +kernel)
  have hk_7 := hts (.fieldLink RX7 16 "HedgeWarModel" "edgeHigh" "[I") (by decide +kernel)
  have hk_8 := hts (.constant RX7 96 (-1000000002)) (by decide +kernel)
  unfold f_X7_slips at hF
  refine lv_iload_n hx hb dX7_slips_0 rfl (lv_at hl 1 rfl) ?_
  replace hF := bnd hF
  obtain ⟨r_1, hc_2, hF⟩ := hF
  refine cl_Sie (As := [.int p1]) (rest := []) ⟨hx, hb, hml, hown, hts⟩ (va_cwS 1 hts gX7_slips_X7_isEstate rfl rfl rfl (by decide +kernel) ⟨Nat.le_of_ble_eq_true rfl, Nat.le_of_ble_eq_true rfl⟩) (c_X7_isEstate l D ci  H.size p1 _ hc_2) hK hP hD hS hA rfl rfl hl.1 (Nat.le_of_ble_eq_true rfl) dX7_slips_1 (Nat.zero_le _) (Nat.zero_le _) (fun H locs hP hD hS => ?_)
  have hP : va_P D vwCl (wcM ci aM zM) H := hP
  have hD : va_D A (wcM ci aM zM) := hD
  refine lv_if_eq (tgt := 15) hx hb dX7_slips_4 (by decide) (fun c_3 => ?_) (fun c_3 => ?_)
  · replace hF := if_i c_3 hF
    refine lv_ldc (v := (-1000000001)) hx hb hown hk_0 dX7_slips_15 ?_
    obtain rfl := Option.some.inj hF
    exact W.iret (v := (-1000000001)) hx hb hr (fun t ht hW => ⟨⟨_, (), rfl, rfl, by rw [ht]; exact hP, va_K.moved hW.alike hK, hD⟩, hS.F ht⟩) hS.2.2 dX7_slips_17
  · replace hF := if_o c_3 hF
    refine lv_aload_n hx hb dX7_slips_7 rfl (lv_at hl 0 rfl) ?_
    refine lv_iload_n hx hb dX7_slips_8 rfl (lv_at hl 2 rfl) ?_
    replace hF := bnd hF
    obtain ⟨r_4, hc_5, hF⟩ := hF
    refine cl_Vi0 (As := [.int p2]) (rest := []) ⟨hx, hb, hml, hown, hts⟩ (cwV 1 hts gX7_slips_X7_isField rfl rfl rfl (by decide +kernel) ⟨Nat.le_of_ble_eq_true rfl, Nat.le_of_ble_eq_true rfl⟩) (c_X7_isField l D ci aM H.size zM p2 _ hc_5) hK hP hD hS hA 0 rfl rfl rfl rfl hl.1 (Nat.le_of_ble_eq_true rfl) dX7_slips_9 (Nat.zero_le _) (Nat.zero_le _) (fun H locs hP hD hS => ?_)
    have hP : va_P D vwCl (wcM ci aM zM) H := hP
    have hD : va_D A (wcM ci aM zM) := hD
    refine lv_if_ne (tgt := 18) hx hb dX7_slips_12 (by decide) (fun c_6 => ?_) (fun c_6 => ?_)
    · replace hF := if_o c_6 hF
      refine lv_iload_n hx hb dX7_slips_18 rfl (lv_at hl 3 rfl) ?_
      refine lv_i2l (v := (Int32.toInt64 p3)) hx hb dX7_slips_19 rfl ?_
      refine lv_lconst (v := 1) hx hb dX7_slips_20 (by decide) ?_
      refine lv_ldc2 (v := 20) hx hb hown hk_1 dX7_slips_21 ?_
      replace hF := bnd hF
      obtain ⟨r_7, hc_8, hF⟩ := hF
      refine cl_Sie (As := [.long (Int32.toInt64 p3), .long 1, .long 20]) (rest := []) ⟨hx, hb, hml, hown, hts⟩ (va_cwS 3 hts gX7_slips_X7_in rfl rfl rfl (by decide +kernel) ⟨Nat.le_of_ble_eq_true rfl, Nat.le_of_ble_eq_true rfl⟩) (c_X7_in l D ci  H.size (Int32.toInt64 p3) (1 : Int64) (20 : Int64) _ hc_8) hK hP hD hS hA rfl rfl hl.1 (Nat.le_of_ble_eq_true rfl) dX7_slips_24 (Nat.zero_le _) (Nat.zero_le _) (fun H locs hP hD hS => ?_)
      have hP : va_P D vwCl (wcM ci aM zM) H := hP
      have hD : va_D A (wcM ci aM zM) := hD
      refine lv_if_ne (tgt := 33) hx hb dX7_slips_27 (by decide) (fun c_9 => ?_) (fun c_9 => ?_)
      · replace hF := if_o c_9 hF
        refine lv_aload_n hx hb dX7_slips_33 rfl (lv_at hl 0 rfl) ?_
        refine lv_iload_n hx hb dX7_slips_34 rfl (lv_at hl 2 rfl) ?_
        replace hF := bnd hF
        obtain ⟨r_10, hc_11, hF⟩ := hF
        refine cl_Vi0 (As := [.int p2]) (rest := []) ⟨hx, hb, hml, hown, hts⟩ (cwV 1 hts gX7_slips_X7_isRim rfl rfl rfl (by decide +kernel) ⟨Nat.le_of_ble_eq_true rfl, Nat.le_of_ble_eq_true rfl⟩) (c_X7_isRim l D ci aM H.size zM p2 _ hc_11) hK hP hD hS hA 0 rfl rfl rfl rfl hl.1 (Nat.le_of_ble_eq_true rfl) dX7_slips_35 (Nat.zero_le _) (Nat.zero_le _) (fun H locs hP hD hS => ?_)
        have hP : va_P D vwCl (wcM ci aM zM) H := hP
        have hD : va_D A (wcM ci aM zM) := hD
        refine lv_if_eq (tgt := 43) hx hb dX7_slips_38 (by decide) (fun c_12 => ?_) (fun c_12 => ?_)
        · replace hF := if_i c_12 hF
          refine lv_aload_n hx hb dX7_slips_43 rfl (lv_at hl 0 rfl) ?_
          refine lv_iload_n hx hb dX7_slips_44 rfl (lv_at hl 1 rfl) ?_
          refine lv_iload_n hx hb dX7_slips_45 rfl (lv_at hl 3 rfl) ?_
          replace hF := bnd hF
          obtain ⟨zM_13, hc_14, hF⟩ := hF
          refine cl_Vv0 (As := [.int p1, .int p3]) (rest := []) ⟨hx, hb, hml, hown, hts⟩ (cwV 2 hts gX7_slips_X7_findRoom rfl rfl rfl (by decide +kernel) ⟨Nat.le_of_ble_eq_true rfl, Nat.le_of_ble_eq_true rfl⟩) (c_X7_findRoom l D ci aM H.size zM p1 p3 _ hc_14) hK hP hD hS hA 0 rfl rfl rfl rfl hl.1 (Nat.le_of_ble_eq_true rfl) dX7_slips_46 (Nat.zero_le _) (Nat.zero_le _) (fun H locs hP hD hS => ?_)
          have hP : va_P D vwCl (wcM ci aM zM_13) H := hP
          have hD : va_D A (wcM ci aM zM_13) := hD
          refine lv_aload_n hx hb dX7_slips_49 rfl (lv_at hl 0 rfl) ?_
          refine lv_iload_n hx hb dX7_slips_50 rfl (lv_at hl 2 rfl) ?_
          replace hF := bnd hF
          obtain ⟨q_18, hc_17, hF⟩ := hF
          obtain ⟨r_15, er_15⟩ : ∃ y : Int32, y = q_18.1 := ⟨_, rfl⟩
          replace hF := nm_i hF er_15
          obtain ⟨zM_16, ezM_16⟩ : ∃ y : MS, y = q_18.2 := ⟨_, rfl⟩
          replace hF := nm_i hF ezM_16
          obtain rfl : q_18 = (r_15, zM_16) := by rw [er_15, ezM_16]
          clear er_15
          clear ezM_16
          refine cl_Vi0 (As := [.int p2]) (rest := []) ⟨hx, hb, hml, hown, hts⟩ (cwV 1 hts gX7_slips_X7_cut rfl rfl rfl (by decide +kernel) ⟨Nat.le_of_ble_eq_true rfl, Nat.le_of_ble_eq_true rfl⟩) (c_X7_cut l D ci aM H.size zM_13 p2 _ hc_17) hK hP hD hS hA 0 rfl rfl rfl rfl hl.1 (Nat.le_of_ble_eq_true rfl) dX7_slips_51 (Nat.zero_le _) (Nat.zero_le _) (fun H locs hP hD hS => ?_)
          have hP : va_P D vwCl (wcM ci aM zM_16) H := hP
          have hD : va_D A (wcM ci aM zM_16) := hD
          refine lv_istore (lv' := [(5, .int r_15), (0, .ref (aM 0)), (1, .int p1), (2, .int p2), (3, .int p3), (4, .int p4)]) hx hb dX7_slips_54 hl (by decide) rfl (fun ls hl => ?_)
          refine lv_iload hx hb dX7_slips_56 (lv_at hl 0 rfl) ?_
          refine lv_if_lt (tgt := 67) hx hb dX7_slips_58 (by decide) (fun c_19 => ?_) (fun c_19 => ?_)
          · replace hF := if_i c_19 hF
            refine lv_iload hx hb dX7_slips_67 (lv_at hl 0 rfl) ?_
            obtain rfl := Option.some.inj hF
            exact W.iret (v := r_15) hx hb hr (fun t ht hW => ⟨⟨_, (), rfl, rfl, by rw [ht]; exact hP, va_K.moved hW.alike hK, hD⟩, hS.F ht⟩) hS.2.2 dX7_slips_69
          · replace hF := if_o c_19 hF
            refine lv_iload hx hb dX7_slips_61 (lv_at hl 5 rfl) ?_
            refine lv_iconst (v := (-1)) hx hb dX7_slips_63 (by decide) ?_
            refine lv_icmp_ne (tgt := 70) hx hb dX7_slips_64 (by decide) (fun c_20 => ?_) (fun c_20 => ?_)
            · replace hF := if_o c_20 hF
              refine lv_iconst (v := 0) hx hb dX7_slips_70 (by decide) ?_
              refine lv_topi (fun v6_21 ev6_21 => ?_)
              replace hF := nm_i hF ev6_21
              refine lv_istore (lv' := [(6, .int v6_21), (5, .int r_15), (0, .ref (aM 0)), (1, .int p1), (2, .int p2), (3, .int p3), (4, .int p4)]) hx hb dX7_slips_71 hl (by decide) rfl (fun ls hl => ?_)
              refine lv_iconst (v := 0) hx hb dX7_slips_73 (by decide) ?_
              refine lv_topi (fun v7_22 ev7_22 => ?_)
              replace hF := nm_i hF ev7_22
              refine lv_istore (lv' := [(7, .int v7_22), (6, .int v6_21), (5, .int r_15), (0, .ref (aM 0)), (1, .int p1), (2, .int p2), (3, .int p3), (4, .int p4)]) hx hb dX7_slips_74 hl (by decide) rfl (fun ls hl => ?_)
              refine lpW (σ := Int32 × Int32) (I := fun n v H locs ls => L_X7_slips_76 zM_16 p1 p2 p3 p4 r_15 n v.1 v.2 = some res ∧ va_P D vwCl (wcM ci aM zM_16) H ∧ va_D A (wcM ci aM zM_16) ∧ va_S A s.heap H locs ∧ lv_has ls 8 [(0, .ref (aM 0)), (1, .int p1), (2, .int p2), (3, .int p3), (4, .int p4), (5, .int r_15), (6, .int v.1), (7, .int v.2)]) 3000 (v6_21, v7_22) (fun _ _ _ _ h => no_none h.1) ⟨hF, hP, hD, hS, lv_sub hl [3, 4, 5, 6, 7, 2, 1, 0] rfl⟩ ?_
              clear hF hP hD hS hl
              intro n ih_25 vq H locs ls hI
              obtain ⟨v6_23, v7_24⟩ := vq
              obtain ⟨hF, hP, hD, hS, hl⟩ := hI
              have hP : va_P D vwCl (wcM ci aM zM_16) H := hP
              have hD : va_D A (wcM ci aM zM_16) := hD
              have hl : lv_has ls 8 [(0, .ref (aM 0)), (1, .int p1), (2, .int p2), (3, .int p3), (4, .int p4), (5, .int r_15), (6, .int v6_23), (7, .int v7_24)] := hl
              replace hF : L_X7_slips_76 zM_16 p1 p2 p3 p4 r_15 (n + 1) v6_23 v7_24 = some res := hF
              rw [L_X7_slips_76] at hF
              refine lv_iload hx hb dX7_slips_76 (lv_at hl 7 rfl) ?_
              refine lv_aload_n hx hb dX7_slips_78 rfl (lv_at hl 0 rfl) ?_
              refine va_get (D := D) (ci := 7) (v := .int (zM_16.1 3)) (C := RX7) (T := TX7) (N := 38) hx hb hts hin_RX7 hown hK hP 0 rfl rfl 3 (by decide) hk_2 (fun _ h9 => h9) rfl dX7_slips_79 ?_
              refine lv_icmp_ge (tgt := 146) hx hb dX7_slips_82 (by decide) (fun c_27 => ?_) (fun c_27 => ?_)
              · replace hF := if_i c_27 hF
                refine lv_iconst (v := (-1)) hx hb dX7_slips_146 (by decide) ?_
                obtain rfl := Option.some.inj hF
                exact W.iret (v := (-1)) hx hb hr (fun t ht hW => ⟨⟨_, (), rfl, rfl, by rw [ht]; exact hP, va_K.moved hW.alike hK, hD⟩, hS.F ht⟩) hS.2.2 dX7_slips_147
              · replace hF := if_o c_27 hF
                refine lv_aload_n hx hb dX7_slips_85 rfl (lv_at hl 0 rfl) ?_
                refine va_get (D := D) (ci := 7) (v := .ref (aM 24)) (C := RX7) (T := TX7) (N := 38) hx hb hts hin_RX7 hown hK hP 0 rfl rfl 24 (by decide) hk_4 (fun _ h9 => h9) rfl dX7_slips_86 ?_
                refine lv_iload hx hb dX7_slips_89 (lv_at hl 7 rfl) ?_
                replace hF := ald_i hF
                obtain ⟨hin_28, hF⟩ := hF
                refine va_iald hx hb hK hP 13 0 rfl rfl hin_28 dX7_slips_91 ?_
                refine lv_topi (fun x_29 ex_29 => ?_)
                replace hF := nm_i hF ex_29
                refine lv_iconst (v := 1) hx hb dX7_slips_92 (by decide) ?_
                refine lv_icmp_ne (tgt := 140) hx hb dX7_slips_93 (by decide) (fun c_30 => ?_) (fun c_30 => ?_)
                · replace hF := if_o c_30 hF
                  obtain ⟨v7_31, ev7_31⟩ : ∃ y : Int32, y = v7_24 + 1 := ⟨_, rfl⟩
                  replace hF := nm_i hF ev7_31
                  refine lv_iinc (v := v7_31) (lv' := [(7, .int v7_31), (0, .ref (aM 0)), (1, .int p1), (2, .int p2), (3, .int p3), (4, .int p4), (5, .int r_15), (6, .int v6_23)]) hx hb dX7_slips_140 hl (k := 7) rfl (by rw [ev7_31]; rfl) (by decide) rfl (fun ls hl => ?_)
                  refine lv_goto (tgt := 76) hx hb dX7_slips_143 (by decide) ?_
                  exact ih_25 (v6_23, v7_31) H locs ls ⟨hF, hP, hD, hS, lv_sub hl [1, 2, 3, 4, 5, 6, 7, 0] rfl⟩
                · replace hF := if_i c_30 hF
                  refine lv_aload_n hx hb dX7_slips_96 rfl (lv_at hl 0 rfl) ?_
                  refine va_get (D := D) (ci := 7) (v := .int (zM_16.1 27)) (C := RX7) (T := TX7) (N := 38) hx hb hts hin_RX7 hown hK hP 0 rfl rfl 27 (by decide) hk_5 (fun _ h9 => h9) rfl dX7_slips_97 ?_
                  refine lv_aload_n hx hb dX7_slips_100 rfl (lv_at hl 0 rfl) ?_
                  refine va_get (D := D) (ci := 7) (v := .ref (aM 5)) (C := RX7) (T := TX7) (N := 38) hx hb hts hin_RX7 hown hK hP 0 rfl rfl 5 (by decide) hk_6 (fun _ h9 => h9) rfl dX7_slips_101 ?_
                  refine lv_iload hx hb dX7_slips_104 (lv_at hl 7 rfl) ?_
                  replace hF := ald_i hF
                  obtain ⟨hin_32, hF⟩ := hF
                  refine va_iald hx hb hK hP 2 0 rfl rfl hin_32 dX7_slips_106 ?_
                  refine lv_topi (fun x_33 ex_33 => ?_)
                  replace hF := nm_i hF ex_33
                  replace hF := bnd hF
                  obtain ⟨r_34, hc_35, hF⟩ := hF
                  refine cl_Sie (As := [.int (zM_16.1 27), .int x_33]) (rest := []) ⟨hx, hb, hml, hown, hts⟩ (va_cwS 2 hts gX7_slips_X7_has rfl rfl rfl (by decide +kernel) ⟨Nat.le_of_ble_eq_true rfl, Nat.le_of_ble_eq_true rfl⟩) (c_X7_has l D ci  H.size (zM_16.1 27) x_33 _ hc_35) hK hP hD hS hA rfl rfl hl.1 (Nat.le_of_ble_eq_true rfl) dX7_slips_107 (Nat.zero_le _) (Nat.zero_le _) (fun H locs hP hD hS => ?_)
                  have hP : va_P D vwCl (wcM ci aM zM_16) H := hP
                  have hD : va_D A (wcM ci aM zM_16) := hD
                  refine lv_aload_n hx hb dX7_slips_110 rfl (lv_at hl 0 rfl) ?_
                  refine va_get (D := D) (ci := 7) (v := .int (zM_16.1 27)) (C := RX7) (T := TX7) (N := 38) hx hb hts hin_RX7 hown hK hP 0 rfl rfl 27 (by decide) hk_5 (fun _ h9 => h9) rfl dX7_slips_111 ?_
                  refine lv_aload_n hx hb dX7_slips_114 rfl (lv_at hl 0 rfl) ?_
                  refine va_get (D := D) (ci := 7) (v := .ref (aM 6)) (C := RX7) (T := TX7) (N := 38) hx hb hts hin_RX7 hown hK hP 0 rfl rfl 6 (by decide) hk_7 (fun _ h9 => h9) rfl dX7_slips_115 ?_
                  refine lv_iload hx hb dX7_slips_118 (lv_at hl 7 rfl) ?_
                  replace hF := ald_i hF
                  obtain ⟨hin_36, hF⟩ := hF
                  refine va_iald hx hb hK hP 3 0 rfl rfl hin_36 dX7_slips_120 ?_
                  refine lv_topi (fun x_37 ex_37 => ?_)
                  replace hF := nm_i hF ex_37
                  replace hF := bnd hF
                  obtain ⟨r_38, hc_39, hF⟩ := hF
                  refine cl_Sie (As := [.int (zM_16.1 27), .int x_37]) (rest := [.int r_34]) ⟨hx, hb, hml, hown, hts⟩ (va_cwS 2 hts gX7_slips_X7_has rfl rfl rfl (by decide +kernel) ⟨Nat.le_of_ble_eq_true rfl, Nat.le_of_ble_eq_true rfl⟩) (c_X7_has l D ci  H.size (zM_16.1 27) x_37 _ hc_39) hK hP hD hS hA rfl rfl hl.1 (Nat.le_of_ble_eq_true rfl) dX7_slips_121 (Nat.zero_le _) (Nat.zero_le _) (fun H locs hP hD hS => ?_)
                  have hP : va_P D vwCl (wcM ci aM zM_16) H := hP
                  have hD : va_D A (wcM ci aM zM_16) := hD
                  refine lv_icmp_eq (tgt := 140) hx hb dX7_slips_124 (by decide) (fun c_40 => ?_) (fun c_40 => ?_)
                  · replace hF := if_i c_40 hF
                    obtain ⟨v7_41, ev7_41⟩ : ∃ y : Int32, y = v7_24 + 1 := ⟨_, rfl⟩
                    replace hF := nm_i hF ev7_41
                    refine lv_iinc (v := v7_41) (lv' := [(7, .int v7_41), (0, .ref (aM 0)), (1, .int p1), (2, .int p2), (3, .int p3), (4, .int p4), (5, .int r_15), (6, .int v6_23)]) hx hb dX7_slips_140 hl (k := 7) rfl (by rw [ev7_41]; rfl) (by decide) rfl (fun ls hl => ?_)
                    refine lv_goto (tgt := 76) hx hb dX7_slips_143 (by decide) ?_
                    exact ih_25 (v6_23, v7_41) H locs ls ⟨hF, hP, hD, hS, lv_sub hl [1, 2, 3, 4, 5, 6, 7, 0] rfl⟩
                  · replace hF := if_o c_40 hF
                    refine lv_iload hx hb dX7_slips_127 (lv_at hl 6 rfl) ?_
                    refine lv_iload hx hb dX7_slips_129 (lv_at hl 4 rfl) ?_
                    refine lv_icmp_ne (tgt := 137) hx hb dX7_slips_131 (by decide) (fun c_42 => ?_) (fun c_42 => ?_)
                    · replace hF := if_o c_42 hF
                      obtain ⟨v6_43, ev6_43⟩ : ∃ y : Int32, y = v6_23 + 1 := ⟨_, rfl⟩
                      replace hF := nm_i hF ev6_43
                      refine lv_iinc (v := v6_43) (lv' := [(6, .int v6_43), (0, .ref (aM 0)), (1, .int p1), (2, .int p2), (3, .int p3), (4, .int p4), (5, .int r_15), (7, .int v7_24)]) hx hb dX7_slips_137 hl (k := 6) rfl (by rw [ev6_43]; rfl) (by decide) rfl (fun ls hl => ?_)
                      obtain ⟨v7_44, ev7_44⟩ : ∃ y : Int32, y = v7_24 + 1 := ⟨_, rfl⟩
                      replace hF := nm_i hF ev7_44
                      refine lv_iinc (v := v7_44) (lv' := [(7, .int v7_44), (6, .int v6_43), (0, .ref (aM 0)), (1, .int p1), (2, .int p2), (3, .int p3), (4, .int p4), (5, .int r_15)]) hx hb dX7_slips_140 hl (k := 7) rfl (by rw [ev7_44]; rfl) (by decide) rfl (fun ls hl => ?_)
                      refine lv_goto (tgt := 76) hx hb dX7_slips_143 (by decide) ?_
                      exact ih_25 (v6_43, v7_44) H locs ls ⟨hF, hP, hD, hS, lv_sub hl [2, 3, 4, 5, 6, 7, 1, 0] rfl⟩
                    · replace hF := if_i c_42 hF
                      refine lv_iload hx hb dX7_slips_134 (lv_at hl 7 rfl) ?_
                      obtain rfl := Option.some.inj hF
                      exact W.iret (v := v7_24) hx hb hr (fun t ht hW => ⟨⟨_, (), rfl, rfl, by rw [ht]; exact hP, va_K.moved hW.alike hK, hD⟩, hS.F ht⟩) hS.2.2 dX7_slips_136
            · replace hF := if_i c_20 hF
              refine lv_iload hx hb dX7_slips_67 (lv_at hl 0 rfl) ?_
              obtain rfl := Option.some.inj hF
              exact W.iret (v := r_15) hx hb hr (fun t ht hW => ⟨⟨_, (), rfl, rfl, by rw [ht]; exact hP, va_K.moved hW.alike hK, hD⟩, hS.F ht⟩) hS.2.2 dX7_slips_69
        · replace hF := if_o c_12 hF
          refine lv_iconst (v := (-1)) hx hb dX7_slips_41 (by decide) ?_
          obtain rfl := Option.some.inj hF
          exact W.iret (v := (-1)) hx hb hr (fun t ht hW => ⟨⟨_, (), rfl, rfl, by rw [ht]; exact hP, va_K.moved hW.alike hK, hD⟩, hS.F ht⟩) hS.2.2 dX7_slips_42
      · replace hF := if_i c_9 hF
        refine lv_ldc (v := (-1000000002)) hx hb hown hk_8 dX7_slips_30 ?_
        obtain rfl := Option.some.inj hF
        exact W.iret (v := (-1000000002)) hx hb hr (fun t ht hW => ⟨⟨_, (), rfl, rfl, by rw [ht]; exact hP, va_K.moved hW.alike hK, hD⟩, hS.F ht⟩) hS.2.2 dX7_slips_32
    · replace hF := if_i c_6 hF
      refine lv_ldc (v := (-1000000001)) hx hb hown hk_0 dX7_slips_15 ?_
      obtain rfl := Option.some.inj hF
      exact W.iret (v := (-1000000001)) hx hb hr (fun t ht hW => ⟨⟨_, (), rfl, rfl, by rw [ht]; exact hP, va_K.moved hW.alike hK, hD⟩, hS.F ht⟩) hS.2.2 dX7_slips_17

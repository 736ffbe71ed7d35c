noncomputable def L_X6_slipsTallIn_5 (zX : XS) (zG : GS) (zS : SS) (p1 : Int32) : Nat → Int64 → Int32 → Option (Int64 × Int32)
  | 0, _, _ => none
  | n + 1, v2_3, v4_4 => if (zG.1 3) ≤ v4_4 then (some (v2_3, v4_4)) else (ald 40 zG.2.2.2 v4_4 fun x_13 => (f_X6_mayPlant zX zG zS x_13).bind fun r_14 => if r_14 = 0 then (nm (v4_4 + 1) fun v4_17 => L_X6_slipsTallIn_5 zX zG zS p1 n v2_3 v4_17) else ((f_X0_ageWhenTall zG v4_4).bind fun r_18 => if p1 < r_18 then (nm (v4_4 + 1) fun v4_21 => L_X6_slipsTallIn_5 zX zG zS p1 n v2_3 v4_21) else (ald 40 zG.2.2.2 v4_4 fun x_23 => nm (v2_3 ||| x_23) fun v2_24 => nm (v4_4 + 1) fun v4_25 => L_X6_slipsTallIn_5 zX zG zS p1 n v2_24 v4_25)))
noncomputable def f_X6_slipsTallIn (zX : XS) (zG : GS) (zS : SS) (p1 : Int32) : Option (Int64) := nm (0 : Int64) fun v2_1 => nm (0 : Int32) fun v4_2 => (L_X6_slipsTallIn_5 zX zG zS p1 3000 v2_1 v4_2).bind fun q_27 => nm q_27.1 fun v2_7 => nm q_27.2 fun v4_8 => some v2_7
set_option maxHeartbeats 4000000 in
set_option maxRecDepth 100000 in
theorem c_X6_slipsTallIn (l : Launch) (D : va_G) (ci : Nat → ClassId) (aX_0 : Nat) (aR_0 : Nat) (aG_0 : Nat) (aS_0 : Nat) (aP_0 : Nat) (aN_0 : Nat) (aI_0 : Nat) (aT_0 : Nat) (aG_1 : Nat) (aG_2 : Nat) (aG_3 : Nat) (aG_4 : Nat) (aS_1 : Nat) (sz : Nat) (zX : XS) (zG : GS) (zS : SS) (p1 : Int32) (res : Int64) (hF : f_X6_slipsTallIn zX zG zS p1 = some res) : CtL l yX6_slipsTallIn wsX6_slipsTallIn { frames := 2, cells := 0, slots := 0, locals := 44 } [.ref aX_0, .int p1] D ci ((wcX aX_0 aR_0 aG_0 aS_0 aP_0 aN_0 aI_0 aT_0 zX) ++ ((wcG ci aG_0 aG_1 aG_2 aG_3 aG_4 zG) ++ (wcS ci aS_0 aS_1 zS))) sz res ((wcX aX_0 aR_0 aG_0 aS_0 aP_0 aN_0 aI_0 aT_0 zX) ++ ((wcG ci aG_0 aG_1 aG_2 aG_3 aG_4 zG) ++ (wcS ci aS_0 aS_1 zS))) := by
  refine Met.ofW (cc := cX6_slipsTallIn) (maxL := 5) (ret := (some .long)) (by decide) rfl ?_
  intro p e s m args below meth c s₁ B hml hv
  obtain ⟨rfl, hsz, hP, hK, hD0⟩ := hv
  have hx := B.exec
  have hb := B.bytes
  have hr := B.returns
  have hts := atoms_spec (ws := wsX6_slipsTallIn) B.pre
  have hown : s.vm.findClass RX6 = some m.cls := findClass_of_methodNamed B.named
  have hlocks := B.notSynchronized
  subst hsz
  have hD := hD0.self (sz := s.heap.size)
  generalize hAe : va_A ((wcX aX_0 aR_0 aG_0 aS_0 aP_0 aN_0 aI_0 aT_0 zX) ++ ((wcG ci aG_0 aG_1 aG_2 aG_3 aG_4 zG) ++ (wcS ci aS_0 aS_1 zS))) s.heap.size = A at hD ⊢
  have hA : ∀ q : Nat, s.heap.size ≤ q → A q := fun q h => by rw [← hAe]; exact Or.inr h
  clear hD0 hAe
  have hl := lv_entry ([.ref aX_0, .int p1]) (n := 5) (Nat.le_of_ble_eq_true rfl)
  rw [lg_entry_eq]
  generalize (lg_sl ([.ref aX_0, .int p1]) ++ List.replicate (5 - (lg_sl ([.ref aX_0, .int p1])).length) Slot.unset).toArray = ls at hl ⊢
  have hl : lv_has ls 5 [(0, .ref aX_0), (1, .int p1)] := hl
  have hP : va_P D vwCl ((wcX aX_0 aR_0 aG_0 aS_0 aP_0 aN_0 aI_0 aT_0 zX) ++ ((wcG ci aG_0 aG_1 aG_2 aG_3 aG_4 zG) ++ (wcS ci aS_0 aS_1 zS))) s.heap := hP
  generalize hH0 : s.heap = H at hP ⊢
  have hS : va_S A s.heap H [] := by rw [← hH0]; exact va_S.rf
  clear hH0
  generalize ([] : List Loc) = locs at hS ⊢
  have hk_0 := hts (.fieldLink RX6 19 "HedgeWar" "ground" "LHedgeWar$Ground;") (by decide +kernel)
  have hin_RX6 : ∀ w ∈ wsX60, w ∈ wsX6_slipsTallIn := by decide +kernel
  have hk_2 := hts (.fieldLink RX6 106 "HedgeWar$Ground" "edges" "I") (by decide +kernel)
  have hin_RX0 : ∀ w ∈ wsX00, w ∈ wsX6_slipsTallIn := by decide +kernel
  have hk_4 := hts (.fieldLink RX6 171 "HedgeWar$Ground" "places" "[J") (by decide +kernel)
  unfold f_X6_slipsTallIn at hF
  refine lv_lconst (v := 0) hx hb dX6_slipsTallIn_0 (by decide) ?_
  refine lv_topl (fun v2_1 ev2_1 => ?_)
  replace hF := nm_i hF ev2_1
  refine lv_lstore_n (lv' := [(2, .long v2_1), (0, .ref aX_0), (1, .int p1)]) hx hb dX6_slipsTallIn_1 rfl hl (by decide) rfl (fun ls hl => ?_)
  refine lv_iconst (v := 0) hx hb dX6_slipsTallIn_2 (by decide) ?_
  refine lv_topi (fun v4_2 ev4_2 => ?_)
  replace hF := nm_i hF ev4_2
  refine lv_istore (lv' := [(4, .int v4_2), (2, .long v2_1), (0, .ref aX_0), (1, .int p1)]) hx hb dX6_slipsTallIn_3 hl (by decide) rfl (fun ls hl => ?_)
  replace hF := bnd hF
  obtain ⟨q_27, hv_26, hF⟩ := hF
  obtain ⟨v2_7, ev2_7⟩ : ∃ y : Int64, y = q_27.1 := ⟨_, rfl⟩
  replace hF := nm_i hF ev2_7
  obtain ⟨v4_8, ev4_8⟩ : ∃ y : Int32, y = q_27.2 := ⟨_, rfl⟩
  replace hF := nm_i hF ev4_8
  obtain rfl : q_27 = (v2_7, v4_8) := by rw [ev2_7, ev4_8]
  clear ev2_7
  clear ev4_8
  refine jn (P := fun H locs ls => va_P D vwCl ((wcX aX_0 aR_0 aG_0 aS_0 aP_0 aN_0 aI_0 aT_0 zX) ++ ((wcG ci aG_0 aG_1 aG_2 aG_3 aG_4 zG) ++ (wcS ci aS_0 aS_1 zS))) H ∧ va_D A ((wcX aX_0 aR_0 aG_0 aS_0 aP_0 aN_0 aI_0 aT_0 zX) ++ ((wcG ci aG_0 aG_1 aG_2 aG_3 aG_4 zG) ++ (wcS ci aS_0 aS_1 zS))) ∧ va_S A s.heap H locs ∧ lv_has ls 5 [(0, .ref aX_0), (1, .int p1), (2, .long v2_7), (4, .int v4_8)]) (pcJ := 66) (st := []) ?_ ?_
  · intro H locs ls hJ
    obtain ⟨hP, hD, hS, hl⟩ := hJ
    refine lv_lload_n hx hb dX6_slipsTallIn_66 rfl (lv_at hl 2 rfl) ?_
    obtain rfl := Option.some.inj hF
    exact W.lret (v := v2_7) hx hb hr (fun t ht hW => ⟨⟨_, (), rfl, rfl, by rw [ht]; exact hP, va_K.moved hW.alike hK, hD⟩, hS.F ht⟩) hS.2.2 dX6_slipsTallIn_67
  · intro J_6
    clear hF
    have hF := hv_26
    refine lpW (σ := Int64 × Int32) (I := fun n v H locs ls => L_X6_slipsTallIn_5 zX zG zS p1 n v.1 v.2 = some (v2_7, v4_8) ∧ va_P D vwCl ((wcX aX_0 aR_0 aG_0 aS_0 aP_0 aN_0 aI_0 aT_0 zX) ++ ((wcG ci aG_0 aG_1 aG_2 aG_3 aG_4 zG) ++ (wcS ci aS_0 aS_1 zS))) H ∧ va_D A ((wcX aX_0 aR_0 aG_0 aS_0 aP_0 aN_0 aI_0 aT_0 zX) ++ ((wcG ci aG_0 aG_1 aG_2 aG_3 aG_4 zG) ++ (wcS ci aS_0 aS_1 zS))) ∧ va_S A s.heap H locs ∧ lv_has ls 5 [(0, .ref aX_0), (1, .int p1), (2, .long v.1), (4, .int v.2)]) 3000 (v2_1, v4_2) (fun _ _ _ _ h => no_none h.1) ⟨hF, hP, hD, hS, lv_sub hl [2, 3, 1, 0] rfl⟩ ?_
    clear hF hP hD hS hl
    intro n ih_5 vq H locs ls hI
    obtain ⟨v2_3, v4_4⟩ := vq
    obtain ⟨hF, hP, hD, hS, hl⟩ := hI
    have hP : va_P D vwCl ((wcX aX_0 aR_0 aG_0 aS_0 aP_0 aN_0 aI_0 aT_0 zX) ++ ((wcG ci aG_0 aG_1 aG_2 aG_3 aG_4 zG) ++ (wcS ci aS_0 aS_1 zS))) H := hP
    have hD : va_D A ((wcX aX_0 aR_0 aG_0 aS_0 aP_0 aN_0 aI_0 aT_0 zX) ++ ((wcG ci aG_0 aG_1 aG_2 aG_3 aG_4 zG) ++ (wcS ci aS_0 aS_1 zS))) := hD
    have hl : lv_has ls 5 [(0, .ref aX_0), (1, .int p1), (2, .long v2_3), (4, .int v4_4)] := hl
    replace hF : L_X6_slipsTallIn_5 zX zG zS p1 (n + 1) v2_3 v4_4 = some (v2_7, v4_8) := hF
    rw [L_X6_slipsTallIn_5] at hF
    refine lv_iload hx hb dX6_slipsTallIn_5 (lv_at hl 3 rfl) ?_
    refine lv_aload_n hx hb dX6_slipsTallIn_7 rfl (lv_at hl 0 rfl) ?_
    refine va_get (D := D) (ci := 6) (v := .ref aG_0) (C := RX6) (T := TX6) (N := 9) hx hb hts hin_RX6 hown hK hP 0 rfl rfl 1 (by decide) hk_0 (fun _ h9 => h9) rfl dX6_slipsTallIn_8 ?_
    refine va_get (D := D) (ci := 0) (v := .int (zG.1 3)) (C := RX0) (T := TX0) (N := 13) hx hb hts hin_RX0 hown hK hP 1 rfl rfl 3 (by decide) hk_2 (fun _ h9 => h9) rfl dX6_slipsTallIn_11 ?_
    refine lv_icmp_ge (tgt := 66) hx hb dX6_slipsTallIn_14 (by decide) (fun c_9 => ?_) (fun c_9 => ?_)
    · replace hF := if_i c_9 hF
      obtain ⟨g_10, g_11⟩ : v2_3 = v2_7 ∧ v4_4 = v4_8 := by have h9 := Option.some.inj hF; simpa only [Prod.mk.injEq] using h9
      subst g_10
      subst g_11
      exact J_6 H locs ls ⟨hP, hD, hS, lv_sub hl [0, 1, 2, 3] rfl⟩
    · replace hF := if_o c_9 hF
      refine lv_aload_n hx hb dX6_slipsTallIn_17 rfl (lv_at hl 0 rfl) ?_
      refine lv_aload_n hx hb dX6_slipsTallIn_18 rfl (lv_at hl 0 rfl) ?_
      refine va_get (D := D) (ci := 6) (v := .ref aG_0) (C := RX6) (T := TX6) (N := 9) hx hb hts hin_RX6 hown hK hP 0 rfl rfl 1 (by decide) hk_0 (fun _ h9 => h9) rfl dX6_slipsTallIn_19 ?_
      refine va_get (D := D) (ci := 0) (v := .ref aG_4) (C := RX0) (T := TX0) (N := 13) hx hb hts hin_RX0 hown hK hP 1 rfl rfl 12 (by decide) hk_4 (fun _ h9 => h9) rfl dX6_slipsTallIn_22 ?_
      refine lv_iload hx hb dX6_slipsTallIn_25 (lv_at hl 3 rfl) ?_
      replace hF := ald_i hF
      obtain ⟨hin_12, hF⟩ := hF
      refine va_lald hx hb hK hP 5 1 rfl rfl hin_12 dX6_slipsTallIn_27 ?_
      refine lv_topl (fun x_13 ex_13 => ?_)
      replace hF := nm_i hF ex_13
      replace hF := bnd hF
      obtain ⟨r_14, hc_15, hF⟩ := hF
      refine cl_Vi0 (As := [.long x_13]) (rest := []) ⟨hx, hb, hml, hown, hts⟩ (cwV 1 hts gX6_slipsTallIn_X6_mayPlant rfl rfl rfl (by decide +kernel) ⟨Nat.le_of_ble_eq_true rfl, Nat.le_of_ble_eq_true rfl⟩) (c_X6_mayPlant l D ci aX_0 aR_0 aG_0 aS_0 aP_0 aN_0 aI_0 aT_0 aG_1 aG_2 aG_3 aG_4 aS_1 H.size zX zG zS x_13 _ hc_15) hK hP hD hS hA 0 rfl rfl rfl rfl hl.1 (Nat.le_of_ble_eq_true rfl) dX6_slipsTallIn_28 (Nat.zero_le _) (Nat.zero_le _) (fun H locs hP hD hS => ?_)
      have hP : va_P D vwCl ((wcX aX_0 aR_0 aG_0 aS_0 aP_0 aN_0 aI_0 aT_0 zX) ++ ((wcG ci aG_0 aG_1 aG_2 aG_3 aG_4 zG) ++ (wcS ci aS_0 aS_1 zS))) H := hP
      have hD : va_D A ((wcX aX_0 aR_0 aG_0 aS_0 aP_0 aN_0 aI_0 aT_0 zX) ++ ((wcG ci aG_0 aG_1 aG_2 aG_3 aG_4 zG) ++ (wcS ci aS_0 aS_1 zS))) := hD
      refine lv_if_eq (tgt := 60) hx hb dX6_slipsTallIn_31 (by decide) (fun c_16 => ?_) (fun c_16 => ?_)
      · replace hF := if_i c_16 hF
        obtain ⟨v4_17, ev4_17⟩ : ∃ y : Int32, y = v4_4 + 1 := ⟨_, rfl⟩
        replace hF := nm_i hF ev4_17
        refine lv_iinc (v := v4_17) (lv' := [(4, .int v4_17), (0, .ref aX_0), (1, .int p1), (2, .long v2_3)]) hx hb dX6_slipsTallIn_60 hl (k := 3) rfl (by rw [ev4_17]; rfl) (by decide) rfl (fun ls hl => ?_)
        refine lv_goto (tgt := 5) hx hb dX6_slipsTallIn_63 (by decide) ?_
        exact ih_5 (v2_3, v4_17) H locs ls ⟨hF, hP, hD, hS, lv_sub hl [1, 2, 3, 0] rfl⟩
      · replace hF := if_o c_16 hF
        refine lv_aload_n hx hb dX6_slipsTallIn_34 rfl (lv_at hl 0 rfl) ?_
        refine va_get (D := D) (ci := 6) (v := .ref aG_0) (C := RX6) (T := TX6) (N := 9) hx hb hts hin_RX6 hown hK hP 0 rfl rfl 1 (by decide) hk_0 (fun _ h9 => h9) rfl dX6_slipsTallIn_35 ?_
        refine lv_iload hx hb dX6_slipsTallIn_38 (lv_at hl 3 rfl) ?_
        replace hF := bnd hF
        obtain ⟨r_18, hc_19, hF⟩ := hF
        refine cl_Vi (As := [.int v4_4]) (rest := []) (wc := (wcG ci aG_0 aG_1 aG_2 aG_3 aG_4 zG)) (wr := ([0, 6, 7].filterMap (fun i => ((wcX aX_0 aR_0 aG_0 aS_0 aP_0 aN_0 aI_0 aT_0 zX) ++ ((wcG ci aG_0 aG_1 aG_2 aG_3 aG_4 zG) ++ (wcS ci aS_0 aS_1 zS)))[i]?))) (w1 := (wcG ci aG_0 aG_1 aG_2 aG_3 aG_4 zG)) (wn := ((wcX aX_0 aR_0 aG_0 aS_0 aP_0 aN_0 aI_0 aT_0 zX) ++ ((wcG ci aG_0 aG_1 aG_2 aG_3 aG_4 zG) ++ (wcS ci aS_0 aS_1 zS)))) ⟨hx, hb, hml, hown, hts⟩ (cwV 1 hts gX6_slipsTallIn_X0_ageWhenTall rfl rfl rfl (by decide +kernel) ⟨Nat.le_of_ble_eq_true rfl, Nat.le_of_ble_eq_true rfl⟩) (c_X0_ageWhenTall l D ci aG_0 aG_1 aG_2 aG_3 aG_4 H.size zG v4_4 _ hc_19) hK hP hD hS hA [1, 2, 3, 4, 5] [0, 6, 7] [0, 3, 4, 5, 6, 7, 1, 2] rfl rfl rfl (by decide) 0 rfl rfl rfl rfl hl.1 (Nat.le_of_ble_eq_true rfl) dX6_slipsTallIn_40 (Nat.zero_le _) (Nat.zero_le _) (fun H locs hP hD hS => ?_)
        have hP : va_P D vwCl ((wcX aX_0 aR_0 aG_0 aS_0 aP_0 aN_0 aI_0 aT_0 zX) ++ ((wcG ci aG_0 aG_1 aG_2 aG_3 aG_4 zG) ++ (wcS ci aS_0 aS_1 zS))) H := hP
        have hD : va_D A ((wcX aX_0 aR_0 aG_0 aS_0 aP_0 aN_0 aI_0 aT_0 zX) ++ ((wcG ci aG_0 aG_1 aG_2 aG_3 aG_4 zG) ++ (wcS ci aS_0 aS_1 zS))) := hD
        refine lv_iload_n hx hb dX6_slipsTallIn_43 rfl (lv_at hl 1 rfl) ?_
        refine lv_icmp_gt (tgt := 60) hx hb dX6_slipsTallIn_44 (by decide) (fun c_20 => ?_) (fun c_20 => ?_)
        · replace hF := if_i c_20 hF
          obtain ⟨v4_21, ev4_21⟩ : ∃ y : Int32, y = v4_4 + 1 := ⟨_, rfl⟩
          replace hF := nm_i hF ev4_21
          refine lv_iinc (v := v4_21) (lv' := [(4, .int v4_21), (0, .ref aX_0), (1, .int p1), (2, .long v2_3)]) hx hb dX6_slipsTallIn_60 hl (k := 3) rfl (by rw [ev4_21]; rfl) (by decide) rfl (fun ls hl => ?_)
          refine lv_goto (tgt := 5) hx hb dX6_slipsTallIn_63 (by decide) ?_
          exact ih_5 (v2_3, v4_21) H locs ls ⟨hF, hP, hD, hS, lv_sub hl [1, 2, 3, 0] rfl⟩
        · replace hF := if_o c_20 hF
          refine lv_lload_n hx hb dX6_slipsTallIn_47 rfl (lv_at hl 2 rfl) ?_
          refine lv_aload_n hx hb dX6_slipsTallIn_48 rfl (lv_at hl 0 rfl) ?_
          refine va_get (D := D) (ci := 6) (v := .ref aG_0) (C := RX6) (T := TX6) (N := 9) hx hb hts hin_RX6 hown hK hP 0 rfl rfl 1 (by decide) hk_0 (fun _ h9 => h9) rfl dX6_slipsTallIn_49 ?_
          refine va_get (D := D) (ci := 0) (v := .ref aG_4) (C := RX0) (T := TX0) (N := 13) hx hb hts hin_RX0 hown hK hP 1 rfl rfl 12 (by decide) hk_4 (fun _ h9 => h9) rfl dX6_slipsTallIn_52 ?_
          refine lv_iload hx hb dX6_slipsTallIn_55 (lv_at hl 3 rfl) ?_
          replace hF := ald_i hF
          obtain ⟨hin_22, hF⟩ := hF
          refine va_lald hx hb hK hP 5 1 rfl rfl hin_22 dX6_slipsTallIn_57 ?_
          refine lv_topl (fun x_23 ex_23 => ?_)
          replace hF := nm_i hF ex_23
          refine lv_lor hx hb dX6_slipsTallIn_58 ?_
          refine lv_topl (fun v2_24 ev2_24 => ?_)
          replace hF := nm_i hF ev2_24
          refine lv_lstore_n (lv' := [(2, .long v2_24), (0, .ref aX_0), (1, .int p1), (4, .int v4_4)]) hx hb dX6_slipsTallIn_59 rfl hl (by decide) rfl (fun ls hl => ?_)
          obtain ⟨v4_25, ev4_25⟩ : ∃ y : Int32, y = v4_4 + 1 := ⟨_, rfl⟩
          replace hF := nm_i hF ev4_25
          refine lv_iinc (v := v4_25) (lv' := [(4, .int v4_25), (2, .long v2_24), (0, .ref aX_0), (1, .int p1)]) hx hb dX6_slipsTallIn_60 hl (k := 3) rfl (by rw [ev4_25]; rfl) (by decide) rfl (fun ls hl => ?_)
          refine lv_goto (tgt := 5) hx hb dX6_slipsTallIn_63 (by decide) ?_
          exact ih_5 (v2_24, v4_25) H locs ls ⟨hF, hP, hD, hS, lv_sub hl [2, 3, 1, 0] rfl⟩
noncomputable def L_X6_cheapestLand_66 (zX : XS) (zG : GS) (p1 : Int32) (p2 : Int64) (p4 : Int64) (v6_1 : Int32) (v7_3 : Int32) (v8_6 : Int32) : Nat → Int32 → Int32 → Int32 → Int32 → Option (Int32 × Int32 × Int32 × Int32)
  | 0, _, _, _, _ => none
  | n + 1, v9_11, v10_12, v11_13, v12_14 => if v8_6 ≤ v12_14 then (some (v9_11, v10_12, v11_13, v12_14)) else ((f_X0_edgesRound zG (v6_1 ||| v11_13)).bind fun r_26 => nm (r_26 &&& (p2 ^^^ (-1))) fun v13_28 => (f_J13_bitCount_95d88 v13_28).bind fun r_29 => if (lg_cmp (v13_28 &&& (p4 ^^^ (-1))) 0) = 0 then (if v10_12 ≤ r_29 then (nm ((v11_13 - v7_3) &&& v7_3) fun v11_35 => nm (v12_14 + 1) fun v12_36 => L_X6_cheapestLand_66 zX zG p1 p2 p4 v6_1 v7_3 v8_6 n v9_11 v10_12 v11_35 v12_36) else (nm (v6_1 ||| v11_13) fun v9_37 => nm ((v11_13 - v7_3) &&& v7_3) fun v11_38 => nm (v12_14 + 1) fun v12_39 => L_X6_cheapestLand_66 zX zG p1 p2 p4 v6_1 v7_3 v8_6 n v9_37 r_29 v11_38 v12_39)) else (nm ((v11_13 - v7_3) &&& v7_3) fun v11_32 => nm (v12_14 + 1) fun v12_33 => L_X6_cheapestLand_66 zX zG p1 p2 p4 v6_1 v7_3 v8_6 n v9_11 v10_12 v11_32 v12_33))
noncomputable def f_X6_cheapestLand (zX : XS) (zG : GS) (p1 : Int32) (p2 : Int64) (p4 : Int64) : Option (Int32) := nm ((1 : Int32) <<< (p1 &&& 31)) fun v6_1 => if ((zG.1 5) &&& v6_1) = 0 then (nm (((zG.1 4) &&& ((zG.1 5) ^^^ (-1))) &&& (v6_1 ^^^ (-1))) fun v7_3 => (f_J6_bitCount_0f7a4 v7_3).bind fun r_4 => nm ((1 : Int32) <<< (r_4 &&& 31)) fun v8_6 => nm (0 : Int32) fun v9_7 => nm (41 : Int32) fun v10_8 => nm (0 : Int32) fun v11_9 => nm (0 : Int32) fun v12_10 => (L_X6_cheapestLand_66 zX zG p1 p2 p4 v6_1 v7_3 v8_6 3000 v9_7 v10_8 v11_9 v12_10).bind fun q_41 => nm q_41.1 fun v9_17 => nm q_41.2.1 fun v10_18 => nm q_41.2.2.1 fun v11_19 => nm q_41.2.2.2 fun v12_20 => some v9_17) else (some (0 : Int32))
set_option maxHeartbeats 4000000 in
set_option maxRecDepth 100000 in
theorem c_X6_cheapestLand (l : Launch) (D : va_G) (ci : Nat → ClassId) (aX_0 : Nat) (aR_0 : Nat) (aG_0 : Nat) (aS_0 : Nat) (aP_0 : Nat) (aN_0 : Nat) (aI_0 : Nat) (aT_0 : Nat) (aG_1 : Nat) (aG_2 : Nat) (aG_3 : Nat) (aG_4 : Nat) (sz : Nat) (zX : XS) (zG : GS) (p1 : Int32) (p2 : Int64) (p4 : Int64) (res : Int32) (hF : f_X6_cheapestLand zX zG p1 p2 p4 = some res) : CtI l yX6_cheapestLand wsX6_cheapestLand { frames := 1, cells := 0, slots := 0, locals := 23 } [.ref aX_0, .int p1, .long p2, .long p4] D ci ((wcX aX_0 aR_0 aG_0 aS_0 aP_0 aN_0 aI_0 aT_0 zX) ++ (wcG ci aG_0 aG_1 aG_2 aG_3 aG_4 zG)) sz res ((wcX aX_0 aR_0 aG_0 aS_0 aP_0 aN_0 aI_0 aT_0 zX) ++ (wcG ci aG_0 aG_1 aG_2 aG_3 aG_4 zG)) := by
  refine Met.ofW (cc := cX6_cheapestLand) (maxL := 16) (ret := (some .int)) (by decide) rfl ?_
  intro p e s m args below meth c s₁ B hml hv
  obtain ⟨rfl, hsz, hP, hK, hD0⟩ := hv
  have hx := B.exec
  have hb := B.bytes
  have hr := B.returns
  have hts := atoms_spec (ws := wsX6_cheapestLand) B.pre
  have hown : s.vm.findClass RX6 = some m.cls := findClass_of_methodNamed B.named
  have hlocks := B.notSynchronized
  subst hsz
  have hD := hD0.self (sz := s.heap.size)
  generalize hAe : va_A ((wcX aX_0 aR_0 aG_0 aS_0 aP_0 aN_0 aI_0 aT_0 zX) ++ (wcG ci aG_0 aG_1 aG_2 aG_3 aG_4 zG)) s.heap.size = A at hD ⊢
  have hA : ∀ q : Nat, s.heap.size ≤ q → A q := fun q h => by rw [← hAe]; exact Or.inr h
  clear hD0 hAe
  have hl := lv_entry ([.ref aX_0, .int p1, .long p2, .long p4]) (n := 16) (Nat.le_of_ble_eq_true rfl)
  rw [lg_entry_eq]
  generalize (lg_sl ([.ref aX_0, .int p1, .long p2, .long p4]) ++ List.replicate (16 - (lg_sl ([.ref aX_0, .int p1, .long p2, .long p4])).length) Slot.unset).toArray = ls at hl ⊢
  have hl : lv_has ls 16 [(0, .ref aX_0), (1, .int p1), (2, .long p2), (4, .long p4)] := hl
  have hP : va_P D vwCl ((wcX aX_0 aR_0 aG_0 aS_0 aP_0 aN_0 aI_0 aT_0 zX) ++ (wcG ci aG_0 aG_1 aG_2 aG_3 aG_4 zG)) s.heap := hP
  generalize hH0 : s.heap = H at hP ⊢
  have hS : va_S A s.heap H [] := by rw [← hH0]; exact va_S.rf
  clear hH0
  generalize ([] : List Loc) = locs at hS ⊢
  have hk_0 := hts (.fieldLink RX6 19 "HedgeWar" "ground" "LHedgeWar$Ground;") (by decide +kernel)
  have hin_RX6 : ∀ w ∈ wsX60, w ∈ wsX6_cheapestLand := by decide +kernel
  have hk_2 := hts (.fieldLink RX6 303 "HedgeWar$Ground" "rim" "I") (by decide +kernel)
  have hin_RX0 : ∀ w ∈ wsX00, w ∈ wsX6_cheapestLand := by decide +kernel
  have hk_4 := hts (.fieldLink RX6 306 "HedgeWar$Ground" "all" "I") (by decide +kernel)
  have hk_5 := hts (.constantLong RX6 216 (-1)) (by decide +kernel)
  unfold f_X6_cheapestLand at hF
  refine lv_iconst (v := 1) hx hb dX6_cheapestLand_0 (by decide) ?_
  refine lv_iload_n hx hb dX6_cheapestLand_1 rfl (lv_at hl 1 rfl) ?_
  refine lv_ishl hx hb dX6_cheapestLand_2 ?_
  refine lv_topi (fun v6_1 ev6_1 => ?_)
  replace hF := nm_i hF ev6_1
  refine lv_istore (lv' := [(6, .int v6_1), (0, .ref aX_0), (1, .int p1), (2, .long p2), (4, .long p4)]) hx hb dX6_cheapestLand_3 hl (by decide) rfl (fun ls hl => ?_)
  refine lv_aload_n hx hb dX6_cheapestLand_5 rfl (lv_at hl 1 rfl) ?_
  refine va_get (D := D) (ci := 6) (v := .ref aG_0) (C := RX6) (T := TX6) (N := 9) hx hb hts hin_RX6 hown hK hP 0 rfl rfl 1 (by decide) hk_0 (fun _ h9 => h9) rfl dX6_cheapestLand_6 ?_
  refine va_get (D := D) (ci := 0) (v := .int (zG.1 5)) (C := RX0) (T := TX0) (N := 13) hx hb hts hin_RX0 hown hK hP 1 rfl rfl 5 (by decide) hk_2 (fun _ h9 => h9) rfl dX6_cheapestLand_9 ?_
  refine lv_iload hx hb dX6_cheapestLand_12 (lv_at hl 0 rfl) ?_
  refine lv_iand hx hb dX6_cheapestLand_14 ?_
  refine lv_if_eq (tgt := 20) hx hb dX6_cheapestLand_15 (by decide) (fun c_2 => ?_) (fun c_2 => ?_)
  · replace hF := if_i c_2 hF
    refine lv_aload_n hx hb dX6_cheapestLand_20 rfl (lv_at hl 1 rfl) ?_
    refine va_get (D := D) (ci := 6) (v := .ref aG_0) (C := RX6) (T := TX6) (N := 9) hx hb hts hin_RX6 hown hK hP 0 rfl rfl 1 (by decide) hk_0 (fun _ h9 => h9) rfl dX6_cheapestLand_21 ?_
    refine va_get (D := D) (ci := 0) (v := .int (zG.1 4)) (C := RX0) (T := TX0) (N := 13) hx hb hts hin_RX0 hown hK hP 1 rfl rfl 4 (by decide) hk_4 (fun _ h9 => h9) rfl dX6_cheapestLand_24 ?_
    refine lv_aload_n hx hb dX6_cheapestLand_27 rfl (lv_at hl 1 rfl) ?_
    refine va_get (D := D) (ci := 6) (v := .ref aG_0) (C := RX6) (T := TX6) (N := 9) hx hb hts hin_RX6 hown hK hP 0 rfl rfl 1 (by decide) hk_0 (fun _ h9 => h9) rfl dX6_cheapestLand_28 ?_
    refine va_get (D := D) (ci := 0) (v := .int (zG.1 5)) (C := RX0) (T := TX0) (N := 13) hx hb hts hin_RX0 hown hK hP 1 rfl rfl 5 (by decide) hk_2 (fun _ h9 => h9) rfl dX6_cheapestLand_31 ?_
    refine lv_iconst (v := (-1)) hx hb dX6_cheapestLand_34 (by decide) ?_
    refine lv_ixor hx hb dX6_cheapestLand_35 ?_
    refine lv_iand hx hb dX6_cheapestLand_36 ?_
    refine lv_iload hx hb dX6_cheapestLand_37 (lv_at hl 0 rfl) ?_
    refine lv_iconst (v := (-1)) hx hb dX6_cheapestLand_39 (by decide) ?_
    refine lv_ixor hx hb dX6_cheapestLand_40 ?_
    refine lv_iand hx hb dX6_cheapestLand_41 ?_
    refine lv_topi (fun v7_3 ev7_3 => ?_)
    replace hF := nm_i hF ev7_3
    refine lv_istore (lv' := [(7, .int v7_3), (6, .int v6_1), (0, .ref aX_0), (1, .int p1), (2, .long p2), (4, .long p4)]) hx hb dX6_cheapestLand_42 hl (by decide) rfl (fun ls hl => ?_)
    refine lv_iconst (v := 1) hx hb dX6_cheapestLand_44 (by decide) ?_
    refine lv_iload hx hb dX6_cheapestLand_45 (lv_at hl 0 rfl) ?_
    replace hF := bnd hF
    obtain ⟨r_4, hc_5, hF⟩ := hF
    refine cl_Sie (As := [.int v7_3]) (rest := [.int 1]) ⟨hx, hb, hml, hown, hts⟩ (va_cwS 1 hts gX6_cheapestLand_J6_bitCount_0f7a4 rfl rfl rfl (by decide +kernel) ⟨Nat.le_of_ble_eq_true rfl, Nat.le_of_ble_eq_true rfl⟩) (c_J6_bitCount_0f7a4 l D ci  H.size v7_3 _ hc_5) hK hP hD hS hA rfl rfl hl.1 (Nat.le_of_ble_eq_true rfl) dX6_cheapestLand_47 (Nat.zero_le _) (Nat.zero_le _) (fun H locs hP hD hS => ?_)
    have hP : va_P D vwCl ((wcX aX_0 aR_0 aG_0 aS_0 aP_0 aN_0 aI_0 aT_0 zX) ++ (wcG ci aG_0 aG_1 aG_2 aG_3 aG_4 zG)) H := hP
    have hD : va_D A ((wcX aX_0 aR_0 aG_0 aS_0 aP_0 aN_0 aI_0 aT_0 zX) ++ (wcG ci aG_0 aG_1 aG_2 aG_3 aG_4 zG)) := hD
    refine lv_ishl hx hb dX6_cheapestLand_50 ?_
    refine lv_topi (fun v8_6 ev8_6 => ?_)
    replace hF := nm_i hF ev8_6
    refine lv_istore (lv' := [(8, .int v8_6), (7, .int v7_3), (6, .int v6_1), (0, .ref aX_0), (1, .int p1), (2, .long p2), (4, .long p4)]) hx hb dX6_cheapestLand_51 hl (by decide) rfl (fun ls hl => ?_)
    refine lv_iconst (v := 0) hx hb dX6_cheapestLand_53 (by decide) ?_
    refine lv_topi (fun v9_7 ev9_7 => ?_)
    replace hF := nm_i hF ev9_7
    refine lv_istore (lv' := [(9, .int v9_7), (8, .int v8_6), (7, .int v7_3), (6, .int v6_1), (0, .ref aX_0), (1, .int p1), (2, .long p2), (4, .long p4)]) hx hb dX6_cheapestLand_54 hl (by decide) rfl (fun ls hl => ?_)
    refine lv_bipush (v := 41) hx hb dX6_cheapestLand_56 (by decide) ?_
    refine lv_topi (fun v10_8 ev10_8 => ?_)
    replace hF := nm_i hF ev10_8
    refine lv_istore (lv' := [(10, .int v10_8), (9, .int v9_7), (8, .int v8_6), (7, .int v7_3), (6, .int v6_1), (0, .ref aX_0), (1, .int p1), (2, .long p2), (4, .long p4)]) hx hb dX6_cheapestLand_58 hl (by decide) rfl (fun ls hl => ?_)
    refine lv_iconst (v := 0) hx hb dX6_cheapestLand_60 (by decide) ?_
    refine lv_topi (fun v11_9 ev11_9 => ?_)
    replace hF := nm_i hF ev11_9
    refine lv_istore (lv' := [(11, .int v11_9), (10, .int v10_8), (9, .int v9_7), (8, .int v8_6), (7, .int v7_3), (6, .int v6_1), (0, .ref aX_0), (1, .int p1), (2, .long p2), (4, .long p4)]) hx hb dX6_cheapestLand_61 hl (by decide) rfl (fun ls hl => ?_)
    refine lv_iconst (v := 0) hx hb dX6_cheapestLand_63 (by decide) ?_
    refine lv_topi (fun v12_10 ev12_10 => ?_)
    replace hF := nm_i hF ev12_10
    refine lv_istore (lv' := [(12, .int v12_10), (11, .int v11_9), (10, .int v10_8), (9, .int v9_7), (8, .int v8_6), (7, .int v7_3), (6, .int v6_1), (0, .ref aX_0), (1, .int p1), (2, .long p2), (4, .long p4)]) hx hb dX6_cheapestLand_64 hl (by decide) rfl (fun ls hl => ?_)
    replace hF := bnd hF
    obtain ⟨q_41, hv_40, hF⟩ := hF
    obtain ⟨v9_17, ev9_17⟩ : ∃ y : Int32, y = q_41.1 := ⟨_, rfl⟩
    replace hF := nm_i hF ev9_17
    obtain ⟨v10_18, ev10_18⟩ : ∃ y : Int32, y = q_41.2.1 := ⟨_, rfl⟩
    replace hF := nm_i hF ev10_18
    obtain ⟨v11_19, ev11_19⟩ : ∃ y : Int32, y = q_41.2.2.1 := ⟨_, rfl⟩
    replace hF := nm_i hF ev11_19
    obtain ⟨v12_20, ev12_20⟩ : ∃ y : Int32, y = q_41.2.2.2 := ⟨_, rfl⟩
    replace hF := nm_i hF ev12_20
    obtain rfl : q_41 = (v9_17, v10_18, v11_19, v12_20) := by rw [ev9_17, ev10_18, ev11_19, ev12_20]
    clear ev9_17
    clear ev10_18
    clear ev11_19
    clear ev12_20
    refine jn (P := fun H locs ls => va_P D vwCl ((wcX aX_0 aR_0 aG_0 aS_0 aP_0 aN_0 aI_0 aT_0 zX) ++ (wcG ci aG_0 aG_1 aG_2 aG_3 aG_4 zG)) H ∧ va_D A ((wcX aX_0 aR_0 aG_0 aS_0 aP_0 aN_0 aI_0 aT_0 zX) ++ (wcG ci aG_0 aG_1 aG_2 aG_3 aG_4 zG)) ∧ va_S A s.heap H locs ∧ lv_has ls 16 [(0, .ref aX_0), (1, .int p1), (2, .long p2), (4, .long p4), (6, .int v6_1), (7, .int v7_3), (8, .int v8_6), (9, .int v9_17), (10, .int v10_18), (11, .int v11_19), (12, .int v12_20)]) (pcJ := 148) (st := []) ?_ ?_
    · intro H locs ls hJ
      obtain ⟨hP, hD, hS, hl⟩ := hJ
      refine lv_iload hx hb dX6_cheapestLand_148 (lv_at hl 7 rfl) ?_
      obtain rfl := Option.some.inj hF
      exact W.iret (v := v9_17) hx hb hr (fun t ht hW => ⟨⟨_, (), rfl, rfl, by rw [ht]; exact hP, va_K.moved hW.alike hK, hD⟩, hS.F ht⟩) hS.2.2 dX6_cheapestLand_150
    · intro J_16
      clear hF
      have hF := hv_40
      refine lpW (σ := Int32 × Int32 × Int32 × Int32) (I := fun n v H locs ls => L_X6_cheapestLand_66 zX zG p1 p2 p4 v6_1 v7_3 v8_6 n v.1 v.2.1 v.2.2.1 v.2.2.2 = some (v9_17, v10_18, v11_19, v12_20) ∧ va_P D vwCl ((wcX aX_0 aR_0 aG_0 aS_0 aP_0 aN_0 aI_0 aT_0 zX) ++ (wcG ci aG_0 aG_1 aG_2 aG_3 aG_4 zG)) H ∧ va_D A ((wcX aX_0 aR_0 aG_0 aS_0 aP_0 aN_0 aI_0 aT_0 zX) ++ (wcG ci aG_0 aG_1 aG_2 aG_3 aG_4 zG)) ∧ va_S A s.heap H locs ∧ lv_has ls 16 [(0, .ref aX_0), (1, .int p1), (2, .long p2), (4, .long p4), (6, .int v6_1), (7, .int v7_3), (8, .int v8_6), (9, .int v.1), (10, .int v.2.1), (11, .int v.2.2.1), (12, .int v.2.2.2)]) 3000 (v9_7, v10_8, v11_9, v12_10) (fun _ _ _ _ h => no_none h.1) ⟨hF, hP, hD, hS, lv_sub hl [7, 8, 9, 10, 6, 5, 4, 3, 2, 1, 0] rfl⟩ ?_
      clear hF hP hD hS hl
      intro n ih_15 vq H locs ls hI
      obtain ⟨v9_11, v10_12, v11_13, v12_14⟩ := vq
      obtain ⟨hF, hP, hD, hS, hl⟩ := hI
      have hP : va_P D vwCl ((wcX aX_0 aR_0 aG_0 aS_0 aP_0 aN_0 aI_0 aT_0 zX) ++ (wcG ci aG_0 aG_1 aG_2 aG_3 aG_4 zG)) H := hP
      have hD : va_D A ((wcX aX_0 aR_0 aG_0 aS_0 aP_0 aN_0 aI_0 aT_0 zX) ++ (wcG ci aG_0 aG_1 aG_2 aG_3 aG_4 zG)) := hD
      have hl : lv_has ls 16 [(0, .ref aX_0), (1, .int p1), (2, .long p2), (4, .long p4), (6, .int v6_1), (7, .int v7_3), (8, .int v8_6), (9, .int v9_11), (10, .int v10_12), (11, .int v11_13), (12, .int v12_14)] := hl
      replace hF : L_X6_cheapestLand_66 zX zG p1 p2 p4 v6_1 v7_3 v8_6 (n + 1) v9_11 v10_12 v11_13 v12_14 = some (v9_17, v10_18, v11_19, v12_20) := hF
      rw [L_X6_cheapestLand_66] at hF
      refine lv_iload hx hb dX6_cheapestLand_66 (lv_at hl 10 rfl) ?_
      refine lv_iload hx hb dX6_cheapestLand_68 (lv_at hl 6 rfl) ?_
      refine lv_icmp_ge (tgt := 148) hx hb dX6_cheapestLand_70 (by decide) (fun c_21 => ?_) (fun c_21 => ?_)
      · replace hF := if_i c_21 hF
        obtain ⟨g_22, g_23, g_24, g_25⟩ : v9_11 = v9_17 ∧ v10_12 = v10_18 ∧ v11_13 = v11_19 ∧ v12_14 = v12_20 := by have h9 := Option.some.inj hF; simpa only [Prod.mk.injEq] using h9
        subst g_22
        subst g_23
        subst g_24
        subst g_25
        exact J_16 H locs ls ⟨hP, hD, hS, lv_sub hl [0, 1, 2, 3, 4, 5, 6, 7, 8, 9, 10] rfl⟩
      · replace hF := if_o c_21 hF
        refine lv_aload_n hx hb dX6_cheapestLand_73 rfl (lv_at hl 0 rfl) ?_
        refine va_get (D := D) (ci := 6) (v := .ref aG_0) (C := RX6) (T := TX6) (N := 9) hx hb hts hin_RX6 hown hK hP 0 rfl rfl 1 (by decide) hk_0 (fun _ h9 => h9) rfl dX6_cheapestLand_74 ?_
        refine lv_iload hx hb dX6_cheapestLand_77 (lv_at hl 4 rfl) ?_
        refine lv_iload hx hb dX6_cheapestLand_79 (lv_at hl 9 rfl) ?_
        refine lv_ior hx hb dX6_cheapestLand_81 ?_
        replace hF := bnd hF
        obtain ⟨r_26, hc_27, hF⟩ := hF
        refine cl_Vl (As := [.int (v6_1 ||| v11_13)]) (rest := []) (wc := (wcG ci aG_0 aG_1 aG_2 aG_3 aG_4 zG)) (wr := ([0].filterMap (fun i => ((wcX aX_0 aR_0 aG_0 aS_0 aP_0 aN_0 aI_0 aT_0 zX) ++ (wcG ci aG_0 aG_1 aG_2 aG_3 aG_4 zG))[i]?))) (w1 := (wcG ci aG_0 aG_1 aG_2 aG_3 aG_4 zG)) (wn := ((wcX aX_0 aR_0 aG_0 aS_0 aP_0 aN_0 aI_0 aT_0 zX) ++ (wcG ci aG_0 aG_1 aG_2 aG_3 aG_4 zG))) ⟨hx, hb, hml, hown, hts⟩ (cwV 1 hts gX6_cheapestLand_X0_edgesRound rfl rfl rfl (by decide +kernel) ⟨Nat.le_of_ble_eq_true rfl, Nat.le_of_ble_eq_true rfl⟩) (c_X0_edgesRound l D ci aG_0 aG_1 aG_2 aG_3 aG_4 H.size zG (v6_1 ||| v11_13) _ hc_27) hK hP hD hS hA [1, 2, 3, 4, 5] [0] [0, 1, 2, 3, 4, 5] rfl rfl rfl (by decide) 0 rfl rfl rfl rfl hl.1 (Nat.le_of_ble_eq_true rfl) dX6_cheapestLand_82 (Nat.zero_le _) (Nat.zero_le _) (fun H locs hP hD hS => ?_)
        have hP : va_P D vwCl ((wcX aX_0 aR_0 aG_0 aS_0 aP_0 aN_0 aI_0 aT_0 zX) ++ (wcG ci aG_0 aG_1 aG_2 aG_3 aG_4 zG)) H := hP
        have hD : va_D A ((wcX aX_0 aR_0 aG_0 aS_0 aP_0 aN_0 aI_0 aT_0 zX) ++ (wcG ci aG_0 aG_1 aG_2 aG_3 aG_4 zG)) := hD
        refine lv_lload_n hx hb dX6_cheapestLand_85 rfl (lv_at hl 2 rfl) ?_
        refine lv_ldc2 (v := (-1)) hx hb hown hk_5 dX6_cheapestLand_86 ?_
        refine lv_lxor hx hb dX6_cheapestLand_89 ?_
        refine lv_land hx hb dX6_cheapestLand_90 ?_
        refine lv_topl (fun v13_28 ev13_28 => ?_)
        replace hF := nm_i hF ev13_28
        refine lv_lstore (lv' := [(13, .long v13_28), (0, .ref aX_0), (1, .int p1), (2, .long p2), (4, .long p4), (6, .int v6_1), (7, .int v7_3), (8, .int v8_6), (9, .int v9_11), (10, .int v10_12), (11, .int v11_13), (12, .int v12_14)]) hx hb dX6_cheapestLand_91 hl (by decide) rfl (fun ls hl => ?_)
        refine lv_lload hx hb dX6_cheapestLand_93 (lv_at hl 0 rfl) ?_
        replace hF := bnd hF
        obtain ⟨r_29, hc_30, hF⟩ := hF
        refine cl_Sie (As := [.long v13_28]) (rest := []) ⟨hx, hb, hml, hown, hts⟩ (va_cwS 1 hts gX6_cheapestLand_J13_bitCount_95d88 rfl rfl rfl (by decide +kernel) ⟨Nat.le_of_ble_eq_true rfl, Nat.le_of_ble_eq_true rfl⟩) (c_J13_bitCount_95d88 l D ci  H.size v13_28 _ hc_30) hK hP hD hS hA rfl rfl hl.1 (Nat.le_of_ble_eq_true rfl) dX6_cheapestLand_95 (Nat.zero_le _) (Nat.zero_le _) (fun H locs hP hD hS => ?_)
        have hP : va_P D vwCl ((wcX aX_0 aR_0 aG_0 aS_0 aP_0 aN_0 aI_0 aT_0 zX) ++ (wcG ci aG_0 aG_1 aG_2 aG_3 aG_4 zG)) H := hP
        have hD : va_D A ((wcX aX_0 aR_0 aG_0 aS_0 aP_0 aN_0 aI_0 aT_0 zX) ++ (wcG ci aG_0 aG_1 aG_2 aG_3 aG_4 zG)) := hD
        refine lv_istore (lv' := [(15, .int r_29), (13, .long v13_28), (0, .ref aX_0), (1, .int p1), (2, .long p2), (4, .long p4), (6, .int v6_1), (7, .int v7_3), (8, .int v8_6), (9, .int v9_11), (10, .int v10_12), (11, .int v11_13), (12, .int v12_14)]) hx hb dX6_cheapestLand_98 hl (by decide) rfl (fun ls hl => ?_)
        refine lv_lload hx hb dX6_cheapestLand_100 (lv_at hl 1 rfl) ?_
        refine lv_lload hx hb dX6_cheapestLand_102 (lv_at hl 5 rfl) ?_
        refine lv_ldc2 (v := (-1)) hx hb hown hk_5 dX6_cheapestLand_104 ?_
        refine lv_lxor hx hb dX6_cheapestLand_107 ?_
        refine lv_land hx hb dX6_cheapestLand_108 ?_
        refine lv_lconst (v := 0) hx hb dX6_cheapestLand_109 (by decide) ?_
        refine W.lcmp hx hb dX6_cheapestLand_110 ?_
        refine lv_if_ne (tgt := 132) hx hb dX6_cheapestLand_111 (by decide) (fun c_31 => ?_) (fun c_31 => ?_)
        · replace hF := if_o c_31 hF
          refine lv_iload hx hb dX6_cheapestLand_132 (lv_at hl 11 rfl) ?_
          refine lv_iload hx hb dX6_cheapestLand_134 (lv_at hl 7 rfl) ?_
          refine lv_isub hx hb dX6_cheapestLand_136 ?_
          refine lv_iload hx hb dX6_cheapestLand_137 (lv_at hl 7 rfl) ?_
          refine lv_iand hx hb dX6_cheapestLand_139 ?_
          refine lv_topi (fun v11_32 ev11_32 => ?_)
          replace hF := nm_i hF ev11_32
          refine lv_istore (lv' := [(11, .int v11_32), (15, .int r_29), (13, .long v13_28), (0, .ref aX_0), (1, .int p1), (2, .long p2), (4, .long p4), (6, .int v6_1), (7, .int v7_3), (8, .int v8_6), (9, .int v9_11), (10, .int v10_12), (12, .int v12_14)]) hx hb dX6_cheapestLand_140 hl (by decide) rfl (fun ls hl => ?_)
          obtain ⟨v12_33, ev12_33⟩ : ∃ y : Int32, y = v12_14 + 1 := ⟨_, rfl⟩
          replace hF := nm_i hF ev12_33
          refine lv_iinc (v := v12_33) (lv' := [(12, .int v12_33), (11, .int v11_32), (15, .int r_29), (13, .long v13_28), (0, .ref aX_0), (1, .int p1), (2, .long p2), (4, .long p4), (6, .int v6_1), (7, .int v7_3), (8, .int v8_6), (9, .int v9_11), (10, .int v10_12)]) hx hb dX6_cheapestLand_142 hl (k := 12) rfl (by rw [ev12_33]; rfl) (by decide) rfl (fun ls hl => ?_)
          refine lv_goto (tgt := 66) hx hb dX6_cheapestLand_145 (by decide) ?_
          exact ih_15 (v9_11, v10_12, v11_32, v12_33) H locs ls ⟨hF, hP, hD, hS, lv_sub hl [4, 5, 6, 7, 8, 9, 10, 11, 12, 1, 0] rfl⟩
        · replace hF := if_i c_31 hF
          refine lv_iload hx hb dX6_cheapestLand_114 (lv_at hl 0 rfl) ?_
          refine lv_iload hx hb dX6_cheapestLand_116 (lv_at hl 10 rfl) ?_
          refine lv_icmp_ge (tgt := 132) hx hb dX6_cheapestLand_118 (by decide) (fun c_34 => ?_) (fun c_34 => ?_)
          · replace hF := if_i c_34 hF
            refine lv_iload hx hb dX6_cheapestLand_132 (lv_at hl 11 rfl) ?_
            refine lv_iload hx hb dX6_cheapestLand_134 (lv_at hl 7 rfl) ?_
            refine lv_isub hx hb dX6_cheapestLand_136 ?_
            refine lv_iload hx hb dX6_cheapestLand_137 (lv_at hl 7 rfl) ?_
            refine lv_iand hx hb dX6_cheapestLand_139 ?_
            refine lv_topi (fun v11_35 ev11_35 => ?_)
            replace hF := nm_i hF ev11_35
            refine lv_istore (lv' := [(11, .int v11_35), (15, .int r_29), (13, .long v13_28), (0, .ref aX_0), (1, .int p1), (2, .long p2), (4, .long p4), (6, .int v6_1), (7, .int v7_3), (8, .int v8_6), (9, .int v9_11), (10, .int v10_12), (12, .int v12_14)]) hx hb dX6_cheapestLand_140 hl (by decide) rfl (fun ls hl => ?_)
            obtain ⟨v12_36, ev12_36⟩ : ∃ y : Int32, y = v12_14 + 1 := ⟨_, rfl⟩
            replace hF := nm_i hF ev12_36
            refine lv_iinc (v := v12_36) (lv' := [(12, .int v12_36), (11, .int v11_35), (15, .int r_29), (13, .long v13_28), (0, .ref aX_0), (1, .int p1), (2, .long p2), (4, .long p4), (6, .int v6_1), (7, .int v7_3), (8, .int v8_6), (9, .int v9_11), (10, .int v10_12)]) hx hb dX6_cheapestLand_142 hl (k := 12) rfl (by rw [ev12_36]; rfl) (by decide) rfl (fun ls hl => ?_)
            refine lv_goto (tgt := 66) hx hb dX6_cheapestLand_145 (by decide) ?_
            exact ih_15 (v9_11, v10_12, v11_35, v12_36) H locs ls ⟨hF, hP, hD, hS, lv_sub hl [4, 5, 6, 7, 8, 9, 10, 11, 12, 1, 0] rfl⟩
          · replace hF := if_o c_34 hF
            refine lv_iload hx hb dX6_cheapestLand_121 (lv_at hl 6 rfl) ?_
            refine lv_iload hx hb dX6_cheapestLand_123 (lv_at hl 11 rfl) ?_
            refine lv_ior hx hb dX6_cheapestLand_125 ?_
            refine lv_topi (fun v9_37 ev9_37 => ?_)
            replace hF := nm_i hF ev9_37
            refine lv_istore (lv' := [(9, .int v9_37), (15, .int r_29), (13, .long v13_28), (0, .ref aX_0), (1, .int p1), (2, .long p2), (4, .long p4), (6, .int v6_1), (7, .int v7_3), (8, .int v8_6), (10, .int v10_12), (11, .int v11_13), (12, .int v12_14)]) hx hb dX6_cheapestLand_126 hl (by decide) rfl (fun ls hl => ?_)
            refine lv_iload hx hb dX6_cheapestLand_128 (lv_at hl 1 rfl) ?_
            refine lv_istore (lv' := [(10, .int r_29), (9, .int v9_37), (15, .int r_29), (13, .long v13_28), (0, .ref aX_0), (1, .int p1), (2, .long p2), (4, .long p4), (6, .int v6_1), (7, .int v7_3), (8, .int v8_6), (11, .int v11_13), (12, .int v12_14)]) hx hb dX6_cheapestLand_130 hl (by decide) rfl (fun ls hl => ?_)
            refine lv_iload hx hb dX6_cheapestLand_132 (lv_at hl 11 rfl) ?_
            refine lv_iload hx hb dX6_cheapestLand_134 (lv_at hl 9 rfl) ?_
            refine lv_isub hx hb dX6_cheapestLand_136 ?_
            refine lv_iload hx hb dX6_cheapestLand_137 (lv_at hl 9 rfl) ?_
            refine lv_iand hx hb dX6_cheapestLand_139 ?_
            refine lv_topi (fun v11_38 ev11_38 => ?_)
            replace hF := nm_i hF ev11_38
            refine lv_istore (lv' := [(11, .int v11_38), (10, .int r_29), (9, .int v9_37), (15, .int r_29), (13, .long v13_28), (0, .ref aX_0), (1, .int p1), (2, .long p2), (4, .long p4), (6, .int v6_1), (7, .int v7_3), (8, .int v8_6), (12, .int v12_14)]) hx hb dX6_cheapestLand_140 hl (by decide) rfl (fun ls hl => ?_)
            obtain ⟨v12_39, ev12_39⟩ : ∃ y : Int32, y = v12_14 + 1 := ⟨_, rfl⟩
            replace hF := nm_i hF ev12_39
            refine lv_iinc (v := v12_39) (lv' := [(12, .int v12_39), (11, .int v11_38), (10, .int r_29), (9, .int v9_37), (15, .int r_29), (13, .long v13_28), (0, .ref aX_0), (1, .int p1), (2, .long p2), (4, .long p4), (6, .int v6_1), (7, .int v7_3), (8, .int v8_6)]) hx hb dX6_cheapestLand_142 hl (k := 12) rfl (by rw [ev12_39]; rfl) (by decide) rfl (fun ls hl => ?_)
            refine lv_goto (tgt := 66) hx hb dX6_cheapestLand_145 (by decide) ?_
            exact ih_15 (v9_37, r_29, v11_38, v12_39) H locs ls ⟨hF, hP, hD, hS, lv_sub hl [6, 7, 8, 9, 10, 11, 12, 3, 2, 1, 0] rfl⟩
  · replace hF := if_o c_2 hF
    refine lv_iconst (v := 0) hx hb dX6_cheapestLand_18 (by decide) ?_
    obtain rfl := Option.some.inj hF
    exact W.iret (v := 0) hx hb hr (fun t ht hW => ⟨⟨_, (), rfl, rfl, by rw [ht]; exact hP, va_K.moved hW.alike hK, hD⟩, hS.F ht⟩) hS.2.2 dX6_cheapestLand_19
noncomputable def L_X6_countOrPick_16 (zX : XS) (zG : GS) (p1 : Int64) (p3 : Int32) : Nat → Int32 → Int32 → Option (Int32)
  | 0, _, _ => none
  | n + 1, v4_4, v5_5 => if (zG.1 3) ≤ v5_5 then (some (-1 : Int32)) else (ald 40 zG.2.2.2 v5_5 fun x_10 => if (lg_cmp (p1 &&& x_10) 0) = 0 then (nm (v5_5 + 1) fun v5_12 => L_X6_countOrPick_16 zX zG p1 p3 n v4_4 v5_12) else (if v4_4 = p3 then (some v5_5) else (nm (v4_4 + 1) fun v4_14 => nm (v5_5 + 1) fun v5_15 => L_X6_countOrPick_16 zX zG p1 p3 n v4_14 v5_15)))
noncomputable def f_X6_countOrPick (zX : XS) (zG : GS) (p1 : Int64) (p3 : Int32) : Option (Int32) := if p3 = (-1) then ((f_J13_bitCount_95d88 p1).bind fun r_16 => some r_16) else (nm (0 : Int32) fun v4_2 => nm (0 : Int32) fun v5_3 => L_X6_countOrPick_16 zX zG p1 p3 3000 v4_2 v5_3)
set_option maxHeartbeats 4000000 in
set_option maxRecDepth 100000 in
theorem c_X6_countOrPick (l : Launch) (D : va_G) (ci : Nat → ClassId) (aX_0 : Nat) (aR_0 : Nat) (aG_0 : Nat) (aS_0 : Nat) (aP_0 : Nat) (aN_0 : Nat) (aI_0 : Nat) (aT_0 : Nat) (aG_1 : Nat) (aG_2 : Nat) (aG_3 : Nat) (aG_4 : Nat) (sz : Nat) (zX : XS) (zG : GS) (p1 : Int64) (p3 : Int32) (res : Int32) (hF : f_X6_countOrPick zX zG p1 p3 = some res) : CtI l yX6_countOrPick wsX6_countOrPick { frames := 1, cells := 0, slots := 0, locals := 21 } [.ref aX_0, .long p1, .int p3] D ci ((wcX aX_0 aR_0 aG_0 aS_0 aP_0 aN_0 aI_0 aT_0 zX) ++ (wcG ci aG_0 aG_1 aG_2 aG_3 aG_4 zG)) sz res ((wcX aX_0 aR_0 aG_0 aS_0 aP_0 aN_0 aI_0 aT_0 zX) ++ (wcG ci aG_0 aG_1 aG_2 aG_3 aG_4 zG)) := by
  refine Met.ofW (cc := cX6_countOrPick) (maxL := 6) (ret := (some .int)) (by decide) rfl ?_
  intro p e s m args below meth c s₁ B hml hv
  obtain ⟨rfl, hsz, hP, hK, hD0⟩ := hv
  have hx := B.exec
  have hb := B.bytes
  have hr := B.returns
  have hts := atoms_spec (ws := wsX6_countOrPick) B.pre
  have hown : s.vm.findClass RX6 = some m.cls := findClass_of_methodNamed B.named
  have hlocks := B.notSynchronized
  subst hsz
  have hD := hD0.self (sz := s.heap.size)
  generalize hAe : va_A ((wcX aX_0 aR_0 aG_0 aS_0 aP_0 aN_0 aI_0 aT_0 zX) ++ (wcG ci aG_0 aG_1 aG_2 aG_3 aG_4 zG)) s.heap.size = A at hD ⊢
  have hA : ∀ q : Nat, s.heap.size ≤ q → A q := fun q h => by rw [← hAe]; exact Or.inr h
  clear hD0 hAe
  have hl := lv_entry ([.ref aX_0, .long p1, .int p3]) (n := 6) (Nat.le_of_ble_eq_true rfl)
  rw [lg_entry_eq]
  generalize (lg_sl ([.ref aX_0, .long p1, .int p3]) ++ List.replicate (6 - (lg_sl ([.ref aX_0, .long p1, .int p3])).length) Slot.unset).toArray = ls at hl ⊢
  have hl : lv_has ls 6 [(0, .ref aX_0), (1, .long p1), (3, .int p3)] := hl
  have hP : va_P D vwCl ((wcX aX_0 aR_0 aG_0 aS_0 aP_0 aN_0 aI_0 aT_0 zX) ++ (wcG ci aG_0 aG_1 aG_2 aG_3 aG_4 zG)) s.heap := hP
  generalize hH0 : s.heap = H at hP ⊢
  have hS : va_S A s.heap H [] := by rw [← hH0]; exact va_S.rf
  clear hH0
  generalize ([] : List Loc) = locs at hS ⊢
  have hk_0 := hts (.fieldLink RX6 19 "HedgeWar" "ground" "LHedgeWar$Ground;") (by decide +kernel)
  have hin_RX6 : ∀ w ∈ wsX60, w ∈ wsX6_countOrPick := by decide +kernel
  have hk_2 := hts (.fieldLink RX6 106 "HedgeWar$Ground" "edges" "I") (by decide +kernel)
  have hin_RX0 : ∀ w ∈ wsX00, w ∈ wsX6_countOrPick := by decide +kernel
  have hk_4 := hts (.fieldLink RX6 171 "HedgeWar$Ground" "places" "[J") (by decide +kernel)
  unfold f_X6_countOrPick at hF
  refine lv_iload_n hx hb dX6_countOrPick_0 rfl (lv_at hl 2 rfl) ?_
  refine lv_iconst (v := (-1)) hx hb dX6_countOrPick_1 (by decide) ?_
  refine lv_icmp_ne (tgt := 10) hx hb dX6_countOrPick_2 (by decide) (fun c_1 => ?_) (fun c_1 => ?_)
  · replace hF := if_o c_1 hF
    refine lv_iconst (v := 0) hx hb dX6_countOrPick_10 (by decide) ?_
    refine lv_topi (fun v4_2 ev4_2 => ?_)
    replace hF := nm_i hF ev4_2
    refine lv_istore (lv' := [(4, .int v4_2), (0, .ref aX_0), (1, .long p1), (3, .int p3)]) hx hb dX6_countOrPick_11 hl (by decide) rfl (fun ls hl => ?_)
    refine lv_iconst (v := 0) hx hb dX6_countOrPick_13 (by decide) ?_
    refine lv_topi (fun v5_3 ev5_3 => ?_)
    replace hF := nm_i hF ev5_3
    refine lv_istore (lv' := [(5, .int v5_3), (4, .int v4_2), (0, .ref aX_0), (1, .long p1), (3, .int p3)]) hx hb dX6_countOrPick_14 hl (by decide) rfl (fun ls hl => ?_)
    refine lpW (σ := Int32 × Int32) (I := fun n v H locs ls => L_X6_countOrPick_16 zX zG p1 p3 n v.1 v.2 = some res ∧ va_P D vwCl ((wcX aX_0 aR_0 aG_0 aS_0 aP_0 aN_0 aI_0 aT_0 zX) ++ (wcG ci aG_0 aG_1 aG_2 aG_3 aG_4 zG)) H ∧ va_D A ((wcX aX_0 aR_0 aG_0 aS_0 aP_0 aN_0 aI_0 aT_0 zX) ++ (wcG ci aG_0 aG_1 aG_2 aG_3 aG_4 zG)) ∧ va_S A s.heap H locs ∧ lv_has ls 6 [(0, .ref aX_0), (1, .long p1), (3, .int p3), (4, .int v.1), (5, .int v.2)]) 3000 (v4_2, v5_3) (fun _ _ _ _ h => no_none h.1) ⟨hF, hP, hD, hS, lv_sub hl [2, 3, 4, 1, 0] rfl⟩ ?_
    clear hF hP hD hS hl
    intro n ih_6 vq H locs ls hI
    obtain ⟨v4_4, v5_5⟩ := vq
    obtain ⟨hF, hP, hD, hS, hl⟩ := hI
    have hP : va_P D vwCl ((wcX aX_0 aR_0 aG_0 aS_0 aP_0 aN_0 aI_0 aT_0 zX) ++ (wcG ci aG_0 aG_1 aG_2 aG_3 aG_4 zG)) H := hP
    have hD : va_D A ((wcX aX_0 aR_0 aG_0 aS_0 aP_0 aN_0 aI_0 aT_0 zX) ++ (wcG ci aG_0 aG_1 aG_2 aG_3 aG_4 zG)) := hD
    have hl : lv_has ls 6 [(0, .ref aX_0), (1, .long p1), (3, .int p3), (4, .int v4_4), (5, .int v5_5)] := hl
    replace hF : L_X6_countOrPick_16 zX zG p1 p3 (n + 1) v4_4 v5_5 = some res := hF
    rw [L_X6_countOrPick_16] at hF
    refine lv_iload hx hb dX6_countOrPick_16 (lv_at hl 4 rfl) ?_
    refine lv_aload_n hx hb dX6_countOrPick_18 rfl (lv_at hl 0 rfl) ?_
    refine va_get (D := D) (ci := 6) (v := .ref aG_0) (C := RX6) (T := TX6) (N := 9) hx hb hts hin_RX6 hown hK hP 0 rfl rfl 1 (by decide) hk_0 (fun _ h9 => h9) rfl dX6_countOrPick_19 ?_
    refine va_get (D := D) (ci := 0) (v := .int (zG.1 3)) (C := RX0) (T := TX0) (N := 13) hx hb hts hin_RX0 hown hK hP 1 rfl rfl 3 (by decide) hk_2 (fun _ h9 => h9) rfl dX6_countOrPick_22 ?_
    refine lv_icmp_ge (tgt := 63) hx hb dX6_countOrPick_25 (by decide) (fun c_8 => ?_) (fun c_8 => ?_)
    · replace hF := if_i c_8 hF
      refine lv_iconst (v := (-1)) hx hb dX6_countOrPick_63 (by decide) ?_
      obtain rfl := Option.some.inj hF
      exact W.iret (v := (-1)) hx hb hr (fun t ht hW => ⟨⟨_, (), rfl, rfl, by rw [ht]; exact hP, va_K.moved hW.alike hK, hD⟩, hS.F ht⟩) hS.2.2 dX6_countOrPick_64
    · replace hF := if_o c_8 hF
      refine lv_lload_n hx hb dX6_countOrPick_28 rfl (lv_at hl 1 rfl) ?_
      refine lv_aload_n hx hb dX6_countOrPick_29 rfl (lv_at hl 0 rfl) ?_
      refine va_get (D := D) (ci := 6) (v := .ref aG_0) (C := RX6) (T := TX6) (N := 9) hx hb hts hin_RX6 hown hK hP 0 rfl rfl 1 (by decide) hk_0 (fun _ h9 => h9) rfl dX6_countOrPick_30 ?_
      refine va_get (D := D) (ci := 0) (v := .ref aG_4) (C := RX0) (T := TX0) (N := 13) hx hb hts hin_RX0 hown hK hP 1 rfl rfl 12 (by decide) hk_4 (fun _ h9 => h9) rfl dX6_countOrPick_33 ?_
      refine lv_iload hx hb dX6_countOrPick_36 (lv_at hl 4 rfl) ?_
      replace hF := ald_i hF
      obtain ⟨hin_9, hF⟩ := hF
      refine va_lald hx hb hK hP 5 1 rfl rfl hin_9 dX6_countOrPick_38 ?_
      refine lv_topl (fun x_10 ex_10 => ?_)
      replace hF := nm_i hF ex_10
      refine lv_land hx hb dX6_countOrPick_39 ?_
      refine lv_lconst (v := 0) hx hb dX6_countOrPick_40 (by decide) ?_
      refine W.lcmp hx hb dX6_countOrPick_41 ?_
      refine lv_if_eq (tgt := 57) hx hb dX6_countOrPick_42 (by decide) (fun c_11 => ?_) (fun c_11 => ?_)
      · replace hF := if_i c_11 hF
        obtain ⟨v5_12, ev5_12⟩ : ∃ y : Int32, y = v5_5 + 1 := ⟨_, rfl⟩
        replace hF := nm_i hF ev5_12
        refine lv_iinc (v := v5_12) (lv' := [(5, .int v5_12), (0, .ref aX_0), (1, .long p1), (3, .int p3), (4, .int v4_4)]) hx hb dX6_countOrPick_57 hl (k := 4) rfl (by rw [ev5_12]; rfl) (by decide) rfl (fun ls hl => ?_)
        refine lv_goto (tgt := 16) hx hb dX6_countOrPick_60 (by decide) ?_
        exact ih_6 (v4_4, v5_12) H locs ls ⟨hF, hP, hD, hS, lv_sub hl [1, 2, 3, 4, 0] rfl⟩
      · replace hF := if_o c_11 hF
        refine lv_iload hx hb dX6_countOrPick_45 (lv_at hl 3 rfl) ?_
        refine lv_iload_n hx hb dX6_countOrPick_47 rfl (lv_at hl 2 rfl) ?_
        refine lv_icmp_ne (tgt := 54) hx hb dX6_countOrPick_48 (by decide) (fun c_13 => ?_) (fun c_13 => ?_)
        · replace hF := if_o c_13 hF
          obtain ⟨v4_14, ev4_14⟩ : ∃ y : Int32, y = v4_4 + 1 := ⟨_, rfl⟩
          replace hF := nm_i hF ev4_14
          refine lv_iinc (v := v4_14) (lv' := [(4, .int v4_14), (0, .ref aX_0), (1, .long p1), (3, .int p3), (5, .int v5_5)]) hx hb dX6_countOrPick_54 hl (k := 3) rfl (by rw [ev4_14]; rfl) (by decide) rfl (fun ls hl => ?_)
          obtain ⟨v5_15, ev5_15⟩ : ∃ y : Int32, y = v5_5 + 1 := ⟨_, rfl⟩
          replace hF := nm_i hF ev5_15
          refine lv_iinc (v := v5_15) (lv' := [(5, .int v5_15), (4, .int v4_14), (0, .ref aX_0), (1, .long p1), (3, .int p3)]) hx hb dX6_countOrPick_57 hl (k := 4) rfl (by rw [ev5_15]; rfl) (by decide) rfl (fun ls hl => ?_)
          refine lv_goto (tgt := 16) hx hb dX6_countOrPick_60 (by decide) ?_
          exact ih_6 (v4_14, v5_15) H locs ls ⟨hF, hP, hD, hS, lv_sub hl [2, 3, 4, 1, 0] rfl⟩
        · replace hF := if_i c_13 hF
          refine lv_iload hx hb dX6_countOrPick_51 (lv_at hl 4 rfl) ?_
          obtain rfl := Option.some.inj hF
          exact W.iret (v := v5_5) hx hb hr (fun t ht hW => ⟨⟨_, (), rfl, rfl, by rw [ht]; exact hP, va_K.moved hW.alike hK, hD⟩, hS.F ht⟩) hS.2.2 dX6_countOrPick_53
  · replace hF := if_i c_1 hF
    refine lv_lload_n hx hb dX6_countOrPick_5 rfl (lv_at hl 1 rfl) ?_
    replace hF := bnd hF
    obtain ⟨r_16, hc_17, hF⟩ := hF
    refine cl_Sie (As := [.long p1]) (rest := []) ⟨hx, hb, hml, hown, hts⟩ (va_cwS 1 hts gX6_countOrPick_J13_bitCount_95d88 rfl rfl rfl (by decide +kernel) ⟨Nat.le_of_ble_eq_true rfl, Nat.le_of_ble_eq_true rfl⟩) (c_J13_bitCount_95d88 l D ci  H.size p1 _ hc_17) hK hP hD hS hA rfl rfl hl.1 (Nat.le_of_ble_eq_true rfl) dX6_countOrPick_6 (Nat.zero_le _) (Nat.zero_le _) (fun H locs hP hD hS => ?_)
    have hP : va_P D vwCl ((wcX aX_0 aR_0 aG_0 aS_0 aP_0 aN_0 aI_0 aT_0 zX) ++ (wcG ci aG_0 aG_1 aG_2 aG_3 aG_4 zG)) H := hP
    have hD : va_D A ((wcX aX_0 aR_0 aG_0 aS_0 aP_0 aN_0 aI_0 aT_0 zX) ++ (wcG ci aG_0 aG_1 aG_2 aG_3 aG_4 zG)) := hD
    obtain rfl := Option.some.inj hF
    exact W.iret (v := r_16) hx hb hr (fun t ht hW => ⟨⟨_, (), rfl, rfl, by rw [ht]; exact hP, va_K.moved hW.alike hK, hD⟩, hS.F ht⟩) hS.2.2 dX6_countOrPick_9
noncomputable def f_X6_slips (zX : XS) (zG : GS) (zS : SS) (p1 : Int32) (p2 : Int32) (p3 : Int32) (p4 : Int32) : Option (Int32) := (f_X6_isEstate p1).bind fun r_1 => if r_1 = 0 then (some (-1000000001 : Int32)) else ((f_X0_hasField zG p2).bind fun r_4 => if r_4 = 0 then (some (-1000000001 : Int32)) else (if p3 < 1 then (some (-1000000002 : Int32)) else (if p3 ≤ 20 then ((if p1 = 1 then (some ((zS.1 1) : Int64)) else (some (((zS.1 1) ^^^ (-1)) : Int64))).bind fun t_9 => (f_X5_tallHedges zG zS p3).bind fun r_13 => nm ((r_13 &&& ((zS.1 2) ^^^ (-1))) &&& t_9) fun v7_15 => (f_X6_slipsTallIn zX zG zS p3).bind fun r_16 => (f_X6_cheapestLand zX zG p2 v7_15 r_16).bind fun r_18 => if r_18 = 0 then (some (-1 : Int32)) else ((f_X0_edgesRound zG r_18).bind fun r_21 => (f_X6_countOrPick zX zG (r_21 &&& r_16) p4).bind fun r_23 => some r_23)) else (some (-1000000002 : Int32)))))
set_option maxHeartbeats 4000000 in
set_option maxRecDepth 100000 in
theorem c_X6_slips (l : Launch) (D : va_G) (ci : Nat → ClassId) (aX_0 : Nat) (aR_0 : Nat) (aG_0 : Nat) (aS_0 : Nat) (aP_0 : Nat) (aN_0 : Nat) (aI_0 : Nat) (aT_0 : Nat) (aG_1 : Nat) (aG_2 : Nat) (aG_3 : Nat) (aG_4 : Nat) (aS_1 : Nat) (sz : Nat) (zX : XS) (zG : GS) (zS : SS) (p1 : Int32) (p2 : Int32) (p3 : Int32) (p4 : Int32) (res : Int32) (hF : f_X6_slips zX zG zS p1 p2 p3 p4 = some res) : CtI l yX6_slips wsX6_slips { frames := 3, cells := 0, slots := 0, locals := 68 } [.ref aX_0, .int p1, .int p2, .int p3, .int p4] D ci ((wcX aX_0 aR_0 aG_0 aS_0 aP_0 aN_0 aI_0 aT_0 zX) ++ ((wcG ci aG_0 aG_1 aG_2 aG_3 aG_4 zG) ++ (wcS ci aS_0 aS_1 zS))) sz res ((wcX aX_0 aR_0 aG_0 aS_0 aP_0 aN_0 aI_0 aT_0 zX) ++ ((wcG ci aG_0 aG_1 aG_2 aG_3 aG_4 zG) ++ (wcS ci aS_0 aS_1 zS))) := by
  refine Met.ofW (cc := cX6_slips) (maxL := 12) (ret := (some .int)) (by decide) rfl ?_
  intro p e s m args below meth c s₁ B hml hv
  obtain ⟨rfl, hsz, hP, hK, hD0⟩ := hv
  have hx := B.exec
  have hb := B.bytes
  have hr := B.returns
  have hts := atoms_spec (ws := wsX6_slips) B.pre
  have hown : s.vm.findClass RX6 = some m.cls := findClass_of_methodNamed B.named
  have hlocks := B.notSynchronized
  subst hsz
  have hD := hD0.self (sz := s.heap.size)
  generalize hAe : va_A ((wcX aX_0 aR_0 aG_0 aS_0 aP_0 aN_0 aI_0 aT_0 zX) ++ ((wcG ci aG_0 aG_1 aG_2 aG_3 aG_4 zG) ++ (wcS ci aS_0 aS_1 zS))) s.heap.size = A at hD ⊢
  have hA : ∀ q : Nat, s.heap.size ≤ q → A q := fun q h => by rw [← hAe]; exact Or.inr h
  clear hD0 hAe
  have hl := lv_entry ([.ref aX_0, .int p1, .int p2, .int p3, .int p4]) (n := 12) (Nat.le_of_ble_eq_true rfl)
  rw [lg_entry_eq]
  generalize (lg_sl ([.ref aX_0, .int p1, .int p2, .int p3, .int p4]) ++ List.replicate (12 - (lg_sl ([.ref aX_0, .int p1, .int p2, .int p3, .int p4])).length) Slot.unset).toArray = ls at hl ⊢
  have hl : lv_has ls 12 [(0, .ref aX_0), (1, .int p1), (2, .int p2), (3, .int p3), (4, .int p4)] := hl
  have hP : va_P D vwCl ((wcX aX_0 aR_0 aG_0 aS_0 aP_0 aN_0 aI_0 aT_0 zX) ++ ((wcG ci aG_0 aG_1 aG_2 aG_3 aG_4 zG) ++ (wcS ci aS_0 aS_1 zS))) s.heap := hP
  generalize hH0 : s.heap = H at hP ⊢
  have hS : va_S A s.heap H [] := by rw [← hH0]; exact va_S.rf
  clear hH0
  generalize ([] : List Loc) = locs at hS ⊢
  have hk_0 := hts (.constant RX6 147 (-1000000001)) (by decide +kernel)
  have hk_1 := hts (.fieldLink RX6 19 "HedgeWar" "ground" "LHedgeWar$Ground;") (by decide +kernel)
  have hin_RX6 : ∀ w ∈ wsX60, w ∈ wsX6_slips := by decide +kernel
  have hk_3 := hts (.constant RX6 62 (-1000000002)) (by decide +kernel)
  have hk_4 := hts (.fieldLink RX6 26 "HedgeWar" "now" "LHedgeWar$Stand;") (by decide +kernel)
  have hk_5 := hts (.fieldLink RX6 162 "HedgeWar$Stand" "ofOne" "J") (by decide +kernel)
  have hin_RX5 : ∀ w ∈ wsX50, w ∈ wsX6_slips := by decide +kernel
  have hk_7 := hts (.constantLong RX6 216 (-1)) (by decide +kernel)
  have hk_8 := hts (.fieldLink RX6 191 "HedgeWar$Stand" "gates" "J") (by decide +kernel)
  unfold f_X6_slips at hF
  refine lv_iload_n hx hb dX6_slips_0 rfl (lv_at hl 1 rfl) ?_
  replace hF := bnd hF
  obtain ⟨r_1, hc_2, hF⟩ := hF
  refine cl_Sie (As := [.int p1]) (rest := []) ⟨hx, hb, hml, hown, hts⟩ (va_cwS 1 hts gX6_slips_X6_isEstate rfl rfl rfl (by decide +kernel) ⟨Nat.le_of_ble_eq_true rfl, Nat.le_of_ble_eq_true rfl⟩) (c_X6_isEstate l D ci  H.size p1 _ hc_2) hK hP hD hS hA rfl rfl hl.1 (Nat.le_of_ble_eq_true rfl) dX6_slips_1 (Nat.zero_le _) (Nat.zero_le _) (fun H locs hP hD hS => ?_)
  have hP : va_P D vwCl ((wcX aX_0 aR_0 aG_0 aS_0 aP_0 aN_0 aI_0 aT_0 zX) ++ ((wcG ci aG_0 aG_1 aG_2 aG_3 aG_4 zG) ++ (wcS ci aS_0 aS_1 zS))) H := hP
  have hD : va_D A ((wcX aX_0 aR_0 aG_0 aS_0 aP_0 aN_0 aI_0 aT_0 zX) ++ ((wcG ci aG_0 aG_1 aG_2 aG_3 aG_4 zG) ++ (wcS ci aS_0 aS_1 zS))) := hD
  refine lv_if_eq (tgt := 18) hx hb dX6_slips_4 (by decide) (fun c_3 => ?_) (fun c_3 => ?_)
  · replace hF := if_i c_3 hF
    refine lv_ldc (v := (-1000000001)) hx hb hown hk_0 dX6_slips_18 ?_
    obtain rfl := Option.some.inj hF
    exact W.iret (v := (-1000000001)) hx hb hr (fun t ht hW => ⟨⟨_, (), rfl, rfl, by rw [ht]; exact hP, va_K.moved hW.alike hK, hD⟩, hS.F ht⟩) hS.2.2 dX6_slips_20
  · replace hF := if_o c_3 hF
    refine lv_aload_n hx hb dX6_slips_7 rfl (lv_at hl 0 rfl) ?_
    refine va_get (D := D) (ci := 6) (v := .ref aG_0) (C := RX6) (T := TX6) (N := 9) hx hb hts hin_RX6 hown hK hP 0 rfl rfl 1 (by decide) hk_1 (fun _ h9 => h9) rfl dX6_slips_8 ?_
    refine lv_iload_n hx hb dX6_slips_11 rfl (lv_at hl 2 rfl) ?_
    replace hF := bnd hF
    obtain ⟨r_4, hc_5, hF⟩ := hF
    refine cl_Vi (As := [.int p2]) (rest := []) (wc := (wcG ci aG_0 aG_1 aG_2 aG_3 aG_4 zG)) (wr := ([0, 6, 7].filterMap (fun i => ((wcX aX_0 aR_0 aG_0 aS_0 aP_0 aN_0 aI_0 aT_0 zX) ++ ((wcG ci aG_0 aG_1 aG_2 aG_3 aG_4 zG) ++ (wcS ci aS_0 aS_1 zS)))[i]?))) (w1 := (wcG ci aG_0 aG_1 aG_2 aG_3 aG_4 zG)) (wn := ((wcX aX_0 aR_0 aG_0 aS_0 aP_0 aN_0 aI_0 aT_0 zX) ++ ((wcG ci aG_0 aG_1 aG_2 aG_3 aG_4 zG) ++ (wcS ci aS_0 aS_1 zS)))) ⟨hx, hb, hml, hown, hts⟩ (cwV 1 hts gX6_slips_X0_hasField rfl rfl rfl (by decide +kernel) ⟨Nat.le_of_ble_eq_true rfl, Nat.le_of_ble_eq_true rfl⟩) (c_X0_hasField l D ci aG_0 aG_1 aG_2 aG_3 aG_4 H.size zG p2 _ hc_5) hK hP hD hS hA [1, 2, 3, 4, 5] [0, 6, 7] [0, 3, 4, 5, 6, 7, 1, 2] rfl rfl rfl (by decide) 0 rfl rfl rfl rfl hl.1 (Nat.le_of_ble_eq_true rfl) dX6_slips_12 (Nat.zero_le _) (Nat.zero_le _) (fun H locs hP hD hS => ?_)
    have hP : va_P D vwCl ((wcX aX_0 aR_0 aG_0 aS_0 aP_0 aN_0 aI_0 aT_0 zX) ++ ((wcG ci aG_0 aG_1 aG_2 aG_3 aG_4 zG) ++ (wcS ci aS_0 aS_1 zS))) H := hP
    have hD : va_D A ((wcX aX_0 aR_0 aG_0 aS_0 aP_0 aN_0 aI_0 aT_0 zX) ++ ((wcG ci aG_0 aG_1 aG_2 aG_3 aG_4 zG) ++ (wcS ci aS_0 aS_1 zS))) := hD
    refine lv_if_ne (tgt := 21) hx hb dX6_slips_15 (by decide) (fun c_6 => ?_) (fun c_6 => ?_)
    · replace hF := if_o c_6 hF
      refine lv_iload_n hx hb dX6_slips_21 rfl (lv_at hl 3 rfl) ?_
      refine lv_iconst (v := 1) hx hb dX6_slips_22 (by decide) ?_
      refine lv_icmp_lt (tgt := 32) hx hb dX6_slips_23 (by decide) (fun c_7 => ?_) (fun c_7 => ?_)
      · replace hF := if_i c_7 hF
        refine lv_ldc (v := (-1000000002)) hx hb hown hk_3 dX6_slips_32 ?_
        obtain rfl := Option.some.inj hF
        exact W.iret (v := (-1000000002)) hx hb hr (fun t ht hW => ⟨⟨_, (), rfl, rfl, by rw [ht]; exact hP, va_K.moved hW.alike hK, hD⟩, hS.F ht⟩) hS.2.2 dX6_slips_34
      · replace hF := if_o c_7 hF
        refine lv_iload_n hx hb dX6_slips_26 rfl (lv_at hl 3 rfl) ?_
        refine lv_bipush (v := 20) hx hb dX6_slips_27 (by decide) ?_
        refine lv_icmp_le (tgt := 35) hx hb dX6_slips_29 (by decide) (fun c_8 => ?_) (fun c_8 => ?_)
        · replace hF := if_i c_8 hF
          refine lv_iload_n hx hb dX6_slips_35 rfl (lv_at hl 1 rfl) ?_
          refine lv_iconst (v := 1) hx hb dX6_slips_36 (by decide) ?_
          replace hF := bnd hF
          obtain ⟨t_9, hv_12, hF⟩ := hF
          refine jn (P := fun H locs ls => va_P D vwCl ((wcX aX_0 aR_0 aG_0 aS_0 aP_0 aN_0 aI_0 aT_0 zX) ++ ((wcG ci aG_0 aG_1 aG_2 aG_3 aG_4 zG) ++ (wcS ci aS_0 aS_1 zS))) H ∧ va_D A ((wcX aX_0 aR_0 aG_0 aS_0 aP_0 aN_0 aI_0 aT_0 zX) ++ ((wcG ci aG_0 aG_1 aG_2 aG_3 aG_4 zG) ++ (wcS ci aS_0 aS_1 zS))) ∧ va_S A s.heap H locs ∧ lv_has ls 12 [(0, .ref aX_0), (1, .int p1), (2, .int p2), (3, .int p3), (4, .int p4)]) (pcJ := 61) (st := [.long t_9]) ?_ ?_
          · intro H locs ls hJ
            obtain ⟨hP, hD, hS, hl⟩ := hJ
            refine lv_lstore (lv' := [(5, .long t_9), (0, .ref aX_0), (1, .int p1), (2, .int p2), (3, .int p3), (4, .int p4)]) hx hb dX6_slips_61 hl (by decide) rfl (fun ls hl => ?_)
            refine lv_aload_n hx hb dX6_slips_63 rfl (lv_at hl 1 rfl) ?_
            refine va_get (D := D) (ci := 6) (v := .ref aS_0) (C := RX6) (T := TX6) (N := 9) hx hb hts hin_RX6 hown hK hP 0 rfl rfl 2 (by decide) hk_4 (fun _ h9 => h9) rfl dX6_slips_64 ?_
            refine lv_aload_n hx hb dX6_slips_67 rfl (lv_at hl 1 rfl) ?_
            refine va_get (D := D) (ci := 6) (v := .ref aG_0) (C := RX6) (T := TX6) (N := 9) hx hb hts hin_RX6 hown hK hP 0 rfl rfl 1 (by decide) hk_1 (fun _ h9 => h9) rfl dX6_slips_68 ?_
            refine lv_iload_n hx hb dX6_slips_71 rfl (lv_at hl 4 rfl) ?_
            replace hF := bnd hF
            obtain ⟨r_13, hc_14, hF⟩ := hF
            refine cl_Vl (As := [.ref aG_0, .int p3]) (rest := []) (wc := ((wcG ci aG_0 aG_1 aG_2 aG_3 aG_4 zG) ++ (wcS ci aS_0 aS_1 zS))) (wr := ([0].filterMap (fun i => ((wcX aX_0 aR_0 aG_0 aS_0 aP_0 aN_0 aI_0 aT_0 zX) ++ ((wcG ci aG_0 aG_1 aG_2 aG_3 aG_4 zG) ++ (wcS ci aS_0 aS_1 zS)))[i]?))) (w1 := ((wcG ci aG_0 aG_1 aG_2 aG_3 aG_4 zG) ++ (wcS ci aS_0 aS_1 zS))) (wn := ((wcX aX_0 aR_0 aG_0 aS_0 aP_0 aN_0 aI_0 aT_0 zX) ++ ((wcG ci aG_0 aG_1 aG_2 aG_3 aG_4 zG) ++ (wcS ci aS_0 aS_1 zS)))) ⟨hx, hb, hml, hown, hts⟩ (cwV 2 hts gX6_slips_X5_tallHedges rfl rfl rfl (by decide +kernel) ⟨Nat.le_of_ble_eq_true rfl, Nat.le_of_ble_eq_true rfl⟩) (c_X5_tallHedges l D ci aG_0 aG_1 aG_2 aG_3 aG_4 aS_0 aS_1 H.size zG zS p3 _ hc_14) hK hP hD hS hA [1, 2, 3, 4, 5, 6, 7] [0] [0, 1, 2, 3, 4, 5, 6, 7] rfl rfl rfl (by decide) 5 rfl rfl rfl rfl hl.1 (Nat.le_of_ble_eq_true rfl) dX6_slips_72 (Nat.zero_le _) (Nat.zero_le _) (fun H locs hP hD hS => ?_)
            have hP : va_P D vwCl ((wcX aX_0 aR_0 aG_0 aS_0 aP_0 aN_0 aI_0 aT_0 zX) ++ ((wcG ci aG_0 aG_1 aG_2 aG_3 aG_4 zG) ++ (wcS ci aS_0 aS_1 zS))) H := hP
            have hD : va_D A ((wcX aX_0 aR_0 aG_0 aS_0 aP_0 aN_0 aI_0 aT_0 zX) ++ ((wcG ci aG_0 aG_1 aG_2 aG_3 aG_4 zG) ++ (wcS ci aS_0 aS_1 zS))) := hD
            refine lv_aload_n hx hb dX6_slips_75 rfl (lv_at hl 1 rfl) ?_
            refine va_get (D := D) (ci := 6) (v := .ref aS_0) (C := RX6) (T := TX6) (N := 9) hx hb hts hin_RX6 hown hK hP 0 rfl rfl 2 (by decide) hk_4 (fun _ h9 => h9) rfl dX6_slips_76 ?_
            refine va_get (D := D) (ci := 5) (v := .long (zS.1 2)) (C := RX5) (T := TX5) (N := 6) hx hb hts hin_RX5 hown hK hP 6 rfl rfl 2 (by decide) hk_8 (fun _ h9 => h9) rfl dX6_slips_79 ?_
            refine lv_ldc2 (v := (-1)) hx hb hown hk_7 dX6_slips_82 ?_
            refine lv_lxor hx hb dX6_slips_85 ?_
            refine lv_land hx hb dX6_slips_86 ?_
            refine lv_lload hx hb dX6_slips_87 (lv_at hl 0 rfl) ?_
            refine lv_land hx hb dX6_slips_89 ?_
            refine lv_topl (fun v7_15 ev7_15 => ?_)
            replace hF := nm_i hF ev7_15
            refine lv_lstore (lv' := [(7, .long v7_15), (5, .long t_9), (0, .ref aX_0), (1, .int p1), (2, .int p2), (3, .int p3), (4, .int p4)]) hx hb dX6_slips_90 hl (by decide) rfl (fun ls hl => ?_)
            refine lv_aload_n hx hb dX6_slips_92 rfl (lv_at hl 2 rfl) ?_
            refine lv_iload_n hx hb dX6_slips_93 rfl (lv_at hl 5 rfl) ?_
            replace hF := bnd hF
            obtain ⟨r_16, hc_17, hF⟩ := hF
            refine cl_Vl0 (As := [.int p3]) (rest := []) ⟨hx, hb, hml, hown, hts⟩ (cwV 1 hts gX6_slips_X6_slipsTallIn rfl rfl rfl (by decide +kernel) ⟨Nat.le_of_ble_eq_true rfl, Nat.le_of_ble_eq_true rfl⟩) (c_X6_slipsTallIn l D ci aX_0 aR_0 aG_0 aS_0 aP_0 aN_0 aI_0 aT_0 aG_1 aG_2 aG_3 aG_4 aS_1 H.size zX zG zS p3 _ hc_17) hK hP hD hS hA 0 rfl rfl rfl rfl hl.1 (Nat.le_of_ble_eq_true rfl) dX6_slips_94 (Nat.zero_le _) (Nat.zero_le _) (fun H locs hP hD hS => ?_)
            have hP : va_P D vwCl ((wcX aX_0 aR_0 aG_0 aS_0 aP_0 aN_0 aI_0 aT_0 zX) ++ ((wcG ci aG_0 aG_1 aG_2 aG_3 aG_4 zG) ++ (wcS ci aS_0 aS_1 zS))) H := hP
            have hD : va_D A ((wcX aX_0 aR_0 aG_0 aS_0 aP_0 aN_0 aI_0 aT_0 zX) ++ ((wcG ci aG_0 aG_1 aG_2 aG_3 aG_4 zG) ++ (wcS ci aS_0 aS_1 zS))) := hD
            refine lv_lstore (lv' := [(9, .long r_16), (7, .long v7_15), (5, .long t_9), (0, .ref aX_0), (1, .int p1), (2, .int p2), (3, .int p3), (4, .int p4)]) hx hb dX6_slips_97 hl (by decide) rfl (fun ls hl => ?_)
            refine lv_aload_n hx hb dX6_slips_99 rfl (lv_at hl 3 rfl) ?_
            refine lv_iload_n hx hb dX6_slips_100 rfl (lv_at hl 5 rfl) ?_
            refine lv_lload hx hb dX6_slips_101 (lv_at hl 1 rfl) ?_
            refine lv_lload hx hb dX6_slips_103 (lv_at hl 0 rfl) ?_
            replace hF := bnd hF
            obtain ⟨r_18, hc_19, hF⟩ := hF
            refine cl_Vi (As := [.int p2, .long v7_15, .long r_16]) (rest := []) (wc := ((wcX aX_0 aR_0 aG_0 aS_0 aP_0 aN_0 aI_0 aT_0 zX) ++ (wcG ci aG_0 aG_1 aG_2 aG_3 aG_4 zG))) (wr := ([6, 7].filterMap (fun i => ((wcX aX_0 aR_0 aG_0 aS_0 aP_0 aN_0 aI_0 aT_0 zX) ++ ((wcG ci aG_0 aG_1 aG_2 aG_3 aG_4 zG) ++ (wcS ci aS_0 aS_1 zS)))[i]?))) (w1 := ((wcX aX_0 aR_0 aG_0 aS_0 aP_0 aN_0 aI_0 aT_0 zX) ++ (wcG ci aG_0 aG_1 aG_2 aG_3 aG_4 zG))) (wn := ((wcX aX_0 aR_0 aG_0 aS_0 aP_0 aN_0 aI_0 aT_0 zX) ++ ((wcG ci aG_0 aG_1 aG_2 aG_3 aG_4 zG) ++ (wcS ci aS_0 aS_1 zS)))) ⟨hx, hb, hml, hown, hts⟩ (cwV 3 hts gX6_slips_X6_cheapestLand rfl rfl rfl (by decide +kernel) ⟨Nat.le_of_ble_eq_true rfl, Nat.le_of_ble_eq_true rfl⟩) (c_X6_cheapestLand l D ci aX_0 aR_0 aG_0 aS_0 aP_0 aN_0 aI_0 aT_0 aG_1 aG_2 aG_3 aG_4 H.size zX zG p2 v7_15 r_16 _ hc_19) hK hP hD hS hA [0, 1, 2, 3, 4, 5] [6, 7] [2, 3, 4, 5, 6, 7, 0, 1] rfl rfl rfl (by decide) 0 rfl rfl rfl rfl hl.1 (Nat.le_of_ble_eq_true rfl) dX6_slips_105 (Nat.zero_le _) (Nat.zero_le _) (fun H locs hP hD hS => ?_)
            have hP : va_P D vwCl ((wcX aX_0 aR_0 aG_0 aS_0 aP_0 aN_0 aI_0 aT_0 zX) ++ ((wcG ci aG_0 aG_1 aG_2 aG_3 aG_4 zG) ++ (wcS ci aS_0 aS_1 zS))) H := hP
            have hD : va_D A ((wcX aX_0 aR_0 aG_0 aS_0 aP_0 aN_0 aI_0 aT_0 zX) ++ ((wcG ci aG_0 aG_1 aG_2 aG_3 aG_4 zG) ++ (wcS ci aS_0 aS_1 zS))) := hD
            refine lv_istore (lv' := [(11, .int r_18), (9, .long r_16), (7, .long v7_15), (5, .long t_9), (0, .ref aX_0), (1, .int p1), (2, .int p2), (3, .int p3), (4, .int p4)]) hx hb dX6_slips_108 hl (by decide) rfl (fun ls hl => ?_)
            refine lv_iload hx hb dX6_slips_110 (lv_at hl 0 rfl) ?_
            refine lv_if_ne (tgt := 119) hx hb dX6_slips_112 (by decide) (fun c_20 => ?_) (fun c_20 => ?_)
            · replace hF := if_o c_20 hF
              refine lv_aload_n hx hb dX6_slips_119 rfl (lv_at hl 4 rfl) ?_
              refine lv_aload_n hx hb dX6_slips_120 rfl (lv_at hl 4 rfl) ?_
              refine va_get (D := D) (ci := 6) (v := .ref aG_0) (C := RX6) (T := TX6) (N := 9) hx hb hts hin_RX6 hown hK hP 0 rfl rfl 1 (by decide) hk_1 (fun _ h9 => h9) rfl dX6_slips_121 ?_
              refine lv_iload hx hb dX6_slips_124 (lv_at hl 0 rfl) ?_
              replace hF := bnd hF
              obtain ⟨r_21, hc_22, hF⟩ := hF
              refine cl_Vl (As := [.int r_18]) (rest := [.ref aX_0]) (wc := (wcG ci aG_0 aG_1 aG_2 aG_3 aG_4 zG)) (wr := ([0, 6, 7].filterMap (fun i => ((wcX aX_0 aR_0 aG_0 aS_0 aP_0 aN_0 aI_0 aT_0 zX) ++ ((wcG ci aG_0 aG_1 aG_2 aG_3 aG_4 zG) ++ (wcS ci aS_0 aS_1 zS)))[i]?))) (w1 := (wcG ci aG_0 aG_1 aG_2 aG_3 aG_4 zG)) (wn := ((wcX aX_0 aR_0 aG_0 aS_0 aP_0 aN_0 aI_0 aT_0 zX) ++ ((wcG ci aG_0 aG_1 aG_2 aG_3 aG_4 zG) ++ (wcS ci aS_0 aS_1 zS)))) ⟨hx, hb, hml, hown, hts⟩ (cwV 1 hts gX6_slips_X0_edgesRound rfl rfl rfl (by decide +kernel) ⟨Nat.le_of_ble_eq_true rfl, Nat.le_of_ble_eq_true rfl⟩) (c_X0_edgesRound l D ci aG_0 aG_1 aG_2 aG_3 aG_4 H.size zG r_18 _ hc_22) hK hP hD hS hA [1, 2, 3, 4, 5] [0, 6, 7] [0, 3, 4, 5, 6, 7, 1, 2] rfl rfl rfl (by decide) 0 rfl rfl rfl rfl hl.1 (Nat.le_of_ble_eq_true rfl) dX6_slips_126 (Nat.zero_le _) (Nat.zero_le _) (fun H locs hP hD hS => ?_)
              have hP : va_P D vwCl ((wcX aX_0 aR_0 aG_0 aS_0 aP_0 aN_0 aI_0 aT_0 zX) ++ ((wcG ci aG_0 aG_1 aG_2 aG_3 aG_4 zG) ++ (wcS ci aS_0 aS_1 zS))) H := hP
              have hD : va_D A ((wcX aX_0 aR_0 aG_0 aS_0 aP_0 aN_0 aI_0 aT_0 zX) ++ ((wcG ci aG_0 aG_1 aG_2 aG_3 aG_4 zG) ++ (wcS ci aS_0 aS_1 zS))) := hD
              refine lv_lload hx hb dX6_slips_129 (lv_at hl 1 rfl) ?_
              refine lv_land hx hb dX6_slips_131 ?_
              refine lv_iload hx hb dX6_slips_132 (lv_at hl 8 rfl) ?_
              replace hF := bnd hF
              obtain ⟨r_23, hc_24, hF⟩ := hF
              refine cl_Vi (As := [.long (r_21 &&& r_16), .int p4]) (rest := []) (wc := ((wcX aX_0 aR_0 aG_0 aS_0 aP_0 aN_0 aI_0 aT_0 zX) ++ (wcG ci aG_0 aG_1 aG_2 aG_3 aG_4 zG))) (wr := ([6, 7].filterMap (fun i => ((wcX aX_0 aR_0 aG_0 aS_0 aP_0 aN_0 aI_0 aT_0 zX) ++ ((wcG ci aG_0 aG_1 aG_2 aG_3 aG_4 zG) ++ (wcS ci aS_0 aS_1 zS)))[i]?))) (w1 := ((wcX aX_0 aR_0 aG_0 aS_0 aP_0 aN_0 aI_0 aT_0 zX) ++ (wcG ci aG_0 aG_1 aG_2 aG_3 aG_4 zG))) (wn := ((wcX aX_0 aR_0 aG_0 aS_0 aP_0 aN_0 aI_0 aT_0 zX) ++ ((wcG ci aG_0 aG_1 aG_2 aG_3 aG_4 zG) ++ (wcS ci aS_0 aS_1 zS)))) ⟨hx, hb, hml, hown, hts⟩ (cwV 2 hts gX6_slips_X6_countOrPick rfl rfl rfl (by decide +kernel) ⟨Nat.le_of_ble_eq_true rfl, Nat.le_of_ble_eq_true rfl⟩) (c_X6_countOrPick l D ci aX_0 aR_0 aG_0 aS_0 aP_0 aN_0 aI_0 aT_0 aG_1 aG_2 aG_3 aG_4 H.size zX zG (r_21 &&& r_16) p4 _ hc_24) hK hP hD hS hA [0, 1, 2, 3, 4, 5] [6, 7] [2, 3, 4, 5, 6, 7, 0, 1] rfl rfl rfl (by decide) 0 rfl rfl rfl rfl hl.1 (Nat.le_of_ble_eq_true rfl) dX6_slips_134 (Nat.zero_le _) (Nat.zero_le _) (fun H locs hP hD hS => ?_)
              have hP : va_P D vwCl ((wcX aX_0 aR_0 aG_0 aS_0 aP_0 aN_0 aI_0 aT_0 zX) ++ ((wcG ci aG_0 aG_1 aG_2 aG_3 aG_4 zG) ++ (wcS ci aS_0 aS_1 zS))) H := hP
              have hD : va_D A ((wcX aX_0 aR_0 aG_0 aS_0 aP_0 aN_0 aI_0 aT_0 zX) ++ ((wcG ci aG_0 aG_1 aG_2 aG_3 aG_4 zG) ++ (wcS ci aS_0 aS_1 zS))) := hD
              obtain rfl := Option.some.inj hF
              exact W.iret (v := r_23) hx hb hr (fun t ht hW => ⟨⟨_, (), rfl, rfl, by rw [ht]; exact hP, va_K.moved hW.alike hK, hD⟩, hS.F ht⟩) hS.2.2 dX6_slips_137
            · replace hF := if_i c_20 hF
              refine lv_iconst (v := (-1)) hx hb dX6_slips_115 (by decide) ?_
              refine lv_goto (tgt := 137) hx hb dX6_slips_116 (by decide) ?_
              obtain rfl := Option.some.inj hF
              exact W.iret (v := (-1)) hx hb hr (fun t ht hW => ⟨⟨_, (), rfl, rfl, by rw [ht]; exact hP, va_K.moved hW.alike hK, hD⟩, hS.F ht⟩) hS.2.2 dX6_slips_137
          · intro J_10
            clear hF
            have hF := hv_12
            refine lv_icmp_ne (tgt := 50) hx hb dX6_slips_37 (by decide) (fun c_11 => ?_) (fun c_11 => ?_)
            · replace hF := if_o c_11 hF
              refine lv_aload_n hx hb dX6_slips_50 rfl (lv_at hl 0 rfl) ?_
              refine va_get (D := D) (ci := 6) (v := .ref aS_0) (C := RX6) (T := TX6) (N := 9) hx hb hts hin_RX6 hown hK hP 0 rfl rfl 2 (by decide) hk_4 (fun _ h9 => h9) rfl dX6_slips_51 ?_
              refine va_get (D := D) (ci := 5) (v := .long (zS.1 1)) (C := RX5) (T := TX5) (N := 6) hx hb hts hin_RX5 hown hK hP 6 rfl rfl 1 (by decide) hk_5 (fun _ h9 => h9) rfl dX6_slips_54 ?_
              refine lv_ldc2 (v := (-1)) hx hb hown hk_7 dX6_slips_57 ?_
              refine lv_lxor hx hb dX6_slips_60 ?_
              obtain rfl := Option.some.inj hF
              exact J_10 H locs ls ⟨hP, hD, hS, lv_sub hl [0, 1, 2, 3, 4] rfl⟩
            · replace hF := if_i c_11 hF
              refine lv_aload_n hx hb dX6_slips_40 rfl (lv_at hl 0 rfl) ?_
              refine va_get (D := D) (ci := 6) (v := .ref aS_0) (C := RX6) (T := TX6) (N := 9) hx hb hts hin_RX6 hown hK hP 0 rfl rfl 2 (by decide) hk_4 (fun _ h9 => h9) rfl dX6_slips_41 ?_
              refine va_get (D := D) (ci := 5) (v := .long (zS.1 1)) (C := RX5) (T := TX5) (N := 6) hx hb hts hin_RX5 hown hK hP 6 rfl rfl 1 (by decide) hk_5 (fun _ h9 => h9) rfl dX6_slips_44 ?_
              refine lv_goto (tgt := 61) hx hb dX6_slips_47 (by decide) ?_
              obtain rfl := Option.some.inj hF
              exact J_10 H locs ls ⟨hP, hD, hS, lv_sub hl [0, 1, 2, 3, 4] rfl⟩
        · replace hF := if_o c_8 hF
          refine lv_ldc (v := (-1000000002)) hx hb hown hk_3 dX6_slips_32 ?_
          obtain rfl := Option.some.inj hF
          exact W.iret (v := (-1000000002)) hx hb hr (fun t ht hW => ⟨⟨_, (), rfl, rfl, by rw [ht]; exact hP, va_K.moved hW.alike hK, hD⟩, hS.F ht⟩) hS.2.2 dX6_slips_34
    · replace hF := if_i c_6 hF
      refine lv_ldc (v := (-1000000001)) hx hb hown hk_0 dX6_slips_18 ?_
      obtain rfl := Option.some.inj hF
      exact W.iret (v := (-1000000001)) hx hb hr (fun t ht hW => ⟨⟨_, (), rfl, rfl, by rw [ht]; exact hP, va_K.moved hW.alike hK, hD⟩, hS.F ht⟩) hS.2.2 dX6_slips_20
noncomputable def L_X6_decides_59 (zX : XS) (zG : GS) (zS : SS) (p1 : Int32) (p2 : Int32) (r_4 : Int64) (v5_6 : Int64) (v7_7 : Int64) : Nat → Int64 → Int32 → Option (Int64 × Int32)
  | 0, _, _ => none
  | n + 1, v9_10, v11_11 => if (zG.1 3) ≤ v11_11 then (some (v9_10, v11_11)) else (ald 40 zG.2.2.2 v11_11 fun x_20 => if (lg_cmp (v7_7 &&& x_20) 0) = 0 then (nm (v11_11 + 1) fun v11_22 => L_X6_decides_59 zX zG zS p1 p2 r_4 v5_6 v7_7 n v9_10 v11_22) else ((f_X0_landFrom zG ((1 : Int32) <<< (p1 &&& 31)) (v5_6 ||| x_20)).bind fun r_23 => (f_X0_shutInBy zG r_23 (zS.1 1)).bind fun r_25 => if r_25 = (-1) then (nm (v11_11 + 1) fun v11_28 => L_X6_decides_59 zX zG zS p1 p2 r_4 v5_6 v7_7 n v9_10 v11_28) else (nm (v9_10 ||| x_20) fun v9_29 => nm (v11_11 + 1) fun v11_30 => L_X6_decides_59 zX zG zS p1 p2 r_4 v5_6 v7_7 n v9_29 v11_30)))
noncomputable def f_X6_decides (zX : XS) (zG : GS) (zS : SS) (p1 : Int32) (p2 : Int32) : Option (Int32) := (f_X0_hasField zG p1).bind fun r_1 => if r_1 = 0 then (some (-1000000001 : Int32)) else ((f_X5_tallHedges zG zS (0 : Int32)).bind fun r_4 => nm (r_4 &&& ((zS.1 2) ^^^ (-1))) fun v5_6 => nm (r_4 &&& (zS.1 2)) fun v7_7 => nm (0 : Int64) fun v9_8 => nm (0 : Int32) fun v11_9 => (L_X6_decides_59 zX zG zS p1 p2 r_4 v5_6 v7_7 3000 v9_8 v11_9).bind fun q_34 => nm q_34.1 fun v9_14 => nm q_34.2 fun v11_15 => (f_X6_countOrPick zX zG v9_14 p2).bind fun r_32 => some r_32)
set_option maxHeartbeats 4000000 in
set_option maxRecDepth 100000 in
theorem c_X6_decides (l : Launch) (D : va_G) (ci : Nat → ClassId) (aX_0 : Nat) (aR_0 : Nat) (aG_0 : Nat) (aS_0 : Nat) (aP_0 : Nat) (aN_0 : Nat) (aI_0 : Nat) (aT_0 : Nat) (aG_1 : Nat) (aG_2 : Nat) (aG_3 : Nat) (aG_4 : Nat) (aS_1 : Nat) (sz : Nat) (zX : XS) (zG : GS) (zS : SS) (p1 : Int32) (p2 : Int32) (res : Int32) (hF : f_X6_decides zX zG zS p1 p2 = some res) : CtI l yX6_decides wsX6_decides { frames := 3, cells := 0, slots := 0, locals := 68 } [.ref aX_0, .int p1, .int p2] D ci ((wcX aX_0 aR_0 aG_0 aS_0 aP_0 aN_0 aI_0 aT_0 zX) ++ ((wcG ci aG_0 aG_1 aG_2 aG_3 aG_4 zG) ++ (wcS ci aS_0 aS_1 zS))) sz res ((wcX aX_0 aR_0 aG_0 aS_0 aP_0 aN_0 aI_0 aT_0 zX) ++ ((wcG ci aG_0 aG_1 aG_2 aG_3 aG_4 zG) ++ (wcS ci aS_0 aS_1 zS))) := by
  refine Met.ofW (cc := cX6_decides) (maxL := 14) (ret := (some .int)) (by decide) rfl ?_
  intro p e s m args below meth c s₁ B hml hv
  obtain ⟨rfl, hsz, hP, hK, hD0⟩ := hv
  have hx := B.exec
  have hb := B.bytes
  have hr := B.returns
  have hts := atoms_spec (ws := wsX6_decides) B.pre
  have hown : s.vm.findClass RX6 = some m.cls := findClass_of_methodNamed B.named
  have hlocks := B.notSynchronized
  subst hsz
  have hD := hD0.self (sz := s.heap.size)
  generalize hAe : va_A ((wcX aX_0 aR_0 aG_0 aS_0 aP_0 aN_0 aI_0 aT_0 zX) ++ ((wcG ci aG_0 aG_1 aG_2 aG_3 aG_4 zG) ++ (wcS ci aS_0 aS_1 zS))) s.heap.size = A at hD ⊢
  have hA : ∀ q : Nat, s.heap.size ≤ q → A q := fun q h => by rw [← hAe]; exact Or.inr h
  clear hD0 hAe
  have hl := lv_entry ([.ref aX_0, .int p1, .int p2]) (n := 14) (Nat.le_of_ble_eq_true rfl)
  rw [lg_entry_eq]
  generalize (lg_sl ([.ref aX_0, .int p1, .int p2]) ++ List.replicate (14 - (lg_sl ([.ref aX_0, .int p1, .int p2])).length) Slot.unset).toArray = ls at hl ⊢
  have hl : lv_has ls 14 [(0, .ref aX_0), (1, .int p1), (2, .int p2)] := hl
  have hP : va_P D vwCl ((wcX aX_0 aR_0 aG_0 aS_0 aP_0 aN_0 aI_0 aT_0 zX) ++ ((wcG ci aG_0 aG_1 aG_2 aG_3 aG_4 zG) ++ (wcS ci aS_0 aS_1 zS))) s.heap := hP
  generalize hH0 : s.heap = H at hP ⊢
  have hS : va_S A s.heap H [] := by rw [← hH0]; exact va_S.rf
  clear hH0
  generalize ([] : List Loc) = locs at hS ⊢
  have hk_0 := hts (.fieldLink RX6 19 "HedgeWar" "ground" "LHedgeWar$Ground;") (by decide +kernel)
  have hin_RX6 : ∀ w ∈ wsX60, w ∈ wsX6_decides := by decide +kernel
  have hk_2 := hts (.fieldLink RX6 26 "HedgeWar" "now" "LHedgeWar$Stand;") (by decide +kernel)
  have hk_3 := hts (.fieldLink RX6 191 "HedgeWar$Stand" "gates" "J") (by decide +kernel)
  have hin_RX5 : ∀ w ∈ wsX50, w ∈ wsX6_decides := by decide +kernel
  have hk_5 := hts (.constantLong RX6 216 (-1)) (by decide +kernel)
  have hk_6 := hts (.fieldLink RX6 106 "HedgeWar$Ground" "edges" "I") (by decide +kernel)
  have hin_RX0 : ∀ w ∈ wsX00, w ∈ wsX6_decides := by decide +kernel
  have hk_8 := hts (.fieldLink RX6 171 "HedgeWar$Ground" "places" "[J") (by decide +kernel)
  have hk_9 := hts (.fieldLink RX6 162 "HedgeWar$Stand" "ofOne" "J") (by decide +kernel)
  have hk_10 := hts (.constant RX6 147 (-1000000001)) (by decide +kernel)
  unfold f_X6_decides at hF
  refine lv_aload_n hx hb dX6_decides_0 rfl (lv_at hl 0 rfl) ?_
  refine va_get (D := D) (ci := 6) (v := .ref aG_0) (C := RX6) (T := TX6) (N := 9) hx hb hts hin_RX6 hown hK hP 0 rfl rfl 1 (by decide) hk_0 (fun _ h9 => h9) rfl dX6_decides_1 ?_
  refine lv_iload_n hx hb dX6_decides_4 rfl (lv_at hl 1 rfl) ?_
  replace hF := bnd hF
  obtain ⟨r_1, hc_2, hF⟩ := hF
  refine cl_Vi (As := [.int p1]) (rest := []) (wc := (wcG ci aG_0 aG_1 aG_2 aG_3 aG_4 zG)) (wr := ([0, 6, 7].filterMap (fun i => ((wcX aX_0 aR_0 aG_0 aS_0 aP_0 aN_0 aI_0 aT_0 zX) ++ ((wcG ci aG_0 aG_1 aG_2 aG_3 aG_4 zG) ++ (wcS ci aS_0 aS_1 zS)))[i]?))) (w1 := (wcG ci aG_0 aG_1 aG_2 aG_3 aG_4 zG)) (wn := ((wcX aX_0 aR_0 aG_0 aS_0 aP_0 aN_0 aI_0 aT_0 zX) ++ ((wcG ci aG_0 aG_1 aG_2 aG_3 aG_4 zG) ++ (wcS ci aS_0 aS_1 zS)))) ⟨hx, hb, hml, hown, hts⟩ (cwV 1 hts gX6_decides_X0_hasField rfl rfl rfl (by decide +kernel) ⟨Nat.le_of_ble_eq_true rfl, Nat.le_of_ble_eq_true rfl⟩) (c_X0_hasField l D ci aG_0 aG_1 aG_2 aG_3 aG_4 H.size zG p1 _ hc_2) hK hP hD hS hA [1, 2, 3, 4, 5] [0, 6, 7] [0, 3, 4, 5, 6, 7, 1, 2] rfl rfl rfl (by decide) 0 rfl rfl rfl rfl hl.1 (Nat.le_of_ble_eq_true rfl) dX6_decides_5 (Nat.zero_le _) (Nat.zero_le _) (fun H locs hP hD hS => ?_)
  have hP : va_P D vwCl ((wcX aX_0 aR_0 aG_0 aS_0 aP_0 aN_0 aI_0 aT_0 zX) ++ ((wcG ci aG_0 aG_1 aG_2 aG_3 aG_4 zG) ++ (wcS ci aS_0 aS_1 zS))) H := hP
  have hD : va_D A ((wcX aX_0 aR_0 aG_0 aS_0 aP_0 aN_0 aI_0 aT_0 zX) ++ ((wcG ci aG_0 aG_1 aG_2 aG_3 aG_4 zG) ++ (wcS ci aS_0 aS_1 zS))) := hD
  refine lv_if_ne (tgt := 14) hx hb dX6_decides_8 (by decide) (fun c_3 => ?_) (fun c_3 => ?_)
  · replace hF := if_o c_3 hF
    refine lv_aload_n hx hb dX6_decides_14 rfl (lv_at hl 0 rfl) ?_
    refine va_get (D := D) (ci := 6) (v := .ref aS_0) (C := RX6) (T := TX6) (N := 9) hx hb hts hin_RX6 hown hK hP 0 rfl rfl 2 (by decide) hk_2 (fun _ h9 => h9) rfl dX6_decides_15 ?_
    refine lv_aload_n hx hb dX6_decides_18 rfl (lv_at hl 0 rfl) ?_
    refine va_get (D := D) (ci := 6) (v := .ref aG_0) (C := RX6) (T := TX6) (N := 9) hx hb hts hin_RX6 hown hK hP 0 rfl rfl 1 (by decide) hk_0 (fun _ h9 => h9) rfl dX6_decides_19 ?_
    refine lv_iconst (v := 0) hx hb dX6_decides_22 (by decide) ?_
    replace hF := bnd hF
    obtain ⟨r_4, hc_5, hF⟩ := hF
    refine cl_Vl (As := [.ref aG_0, .int 0]) (rest := []) (wc := ((wcG ci aG_0 aG_1 aG_2 aG_3 aG_4 zG) ++ (wcS ci aS_0 aS_1 zS))) (wr := ([0].filterMap (fun i => ((wcX aX_0 aR_0 aG_0 aS_0 aP_0 aN_0 aI_0 aT_0 zX) ++ ((wcG ci aG_0 aG_1 aG_2 aG_3 aG_4 zG) ++ (wcS ci aS_0 aS_1 zS)))[i]?))) (w1 := ((wcG ci aG_0 aG_1 aG_2 aG_3 aG_4 zG) ++ (wcS ci aS_0 aS_1 zS))) (wn := ((wcX aX_0 aR_0 aG_0 aS_0 aP_0 aN_0 aI_0 aT_0 zX) ++ ((wcG ci aG_0 aG_1 aG_2 aG_3 aG_4 zG) ++ (wcS ci aS_0 aS_1 zS)))) ⟨hx, hb, hml, hown, hts⟩ (cwV 2 hts gX6_decides_X5_tallHedges rfl rfl rfl (by decide +kernel) ⟨Nat.le_of_ble_eq_true rfl, Nat.le_of_ble_eq_true rfl⟩) (c_X5_tallHedges l D ci aG_0 aG_1 aG_2 aG_3 aG_4 aS_0 aS_1 H.size zG zS (0 : Int32) _ hc_5) hK hP hD hS hA [1, 2, 3, 4, 5, 6, 7] [0] [0, 1, 2, 3, 4, 5, 6, 7] rfl rfl rfl (by decide) 5 rfl rfl rfl rfl hl.1 (Nat.le_of_ble_eq_true rfl) dX6_decides_23 (Nat.zero_le _) (Nat.zero_le _) (fun H locs hP hD hS => ?_)
    have hP : va_P D vwCl ((wcX aX_0 aR_0 aG_0 aS_0 aP_0 aN_0 aI_0 aT_0 zX) ++ ((wcG ci aG_0 aG_1 aG_2 aG_3 aG_4 zG) ++ (wcS ci aS_0 aS_1 zS))) H := hP
    have hD : va_D A ((wcX aX_0 aR_0 aG_0 aS_0 aP_0 aN_0 aI_0 aT_0 zX) ++ ((wcG ci aG_0 aG_1 aG_2 aG_3 aG_4 zG) ++ (wcS ci aS_0 aS_1 zS))) := hD
    refine lv_lstore_n (lv' := [(3, .long r_4), (0, .ref aX_0), (1, .int p1), (2, .int p2)]) hx hb dX6_decides_26 rfl hl (by decide) rfl (fun ls hl => ?_)
    refine lv_lload_n hx hb dX6_decides_27 rfl (lv_at hl 0 rfl) ?_
    refine lv_aload_n hx hb dX6_decides_28 rfl (lv_at hl 1 rfl) ?_
    refine va_get (D := D) (ci := 6) (v := .ref aS_0) (C := RX6) (T := TX6) (N := 9) hx hb hts hin_RX6 hown hK hP 0 rfl rfl 2 (by decide) hk_2 (fun _ h9 => h9) rfl dX6_decides_29 ?_
    refine va_get (D := D) (ci := 5) (v := .long (zS.1 2)) (C := RX5) (T := TX5) (N := 6) hx hb hts hin_RX5 hown hK hP 6 rfl rfl 2 (by decide) hk_3 (fun _ h9 => h9) rfl dX6_decides_32 ?_
    refine lv_ldc2 (v := (-1)) hx hb hown hk_5 dX6_decides_35 ?_
    refine lv_lxor hx hb dX6_decides_38 ?_
    refine lv_land hx hb dX6_decides_39 ?_
    refine lv_topl (fun v5_6 ev5_6 => ?_)
    replace hF := nm_i hF ev5_6
    refine lv_lstore (lv' := [(5, .long v5_6), (3, .long r_4), (0, .ref aX_0), (1, .int p1), (2, .int p2)]) hx hb dX6_decides_40 hl (by decide) rfl (fun ls hl => ?_)
    refine lv_lload_n hx hb dX6_decides_42 rfl (lv_at hl 1 rfl) ?_
    refine lv_aload_n hx hb dX6_decides_43 rfl (lv_at hl 2 rfl) ?_
    refine va_get (D := D) (ci := 6) (v := .ref aS_0) (C := RX6) (T := TX6) (N := 9) hx hb hts hin_RX6 hown hK hP 0 rfl rfl 2 (by decide) hk_2 (fun _ h9 => h9) rfl dX6_decides_44 ?_
    refine va_get (D := D) (ci := 5) (v := .long (zS.1 2)) (C := RX5) (T := TX5) (N := 6) hx hb hts hin_RX5 hown hK hP 6 rfl rfl 2 (by decide) hk_3 (fun _ h9 => h9) rfl dX6_decides_47 ?_
    refine lv_land hx hb dX6_decides_50 ?_
    refine lv_topl (fun v7_7 ev7_7 => ?_)
    replace hF := nm_i hF ev7_7
    refine lv_lstore (lv' := [(7, .long v7_7), (5, .long v5_6), (3, .long r_4), (0, .ref aX_0), (1, .int p1), (2, .int p2)]) hx hb dX6_decides_51 hl (by decide) rfl (fun ls hl => ?_)
    refine lv_lconst (v := 0) hx hb dX6_decides_53 (by decide) ?_
    refine lv_topl (fun v9_8 ev9_8 => ?_)
    replace hF := nm_i hF ev9_8
    refine lv_lstore (lv' := [(9, .long v9_8), (7, .long v7_7), (5, .long v5_6), (3, .long r_4), (0, .ref aX_0), (1, .int p1), (2, .int p2)]) hx hb dX6_decides_54 hl (by decide) rfl (fun ls hl => ?_)
    refine lv_iconst (v := 0) hx hb dX6_decides_56 (by decide) ?_
    refine lv_topi (fun v11_9 ev11_9 => ?_)
    replace hF := nm_i hF ev11_9
    refine lv_istore (lv' := [(11, .int v11_9), (9, .long v9_8), (7, .long v7_7), (5, .long v5_6), (3, .long r_4), (0, .ref aX_0), (1, .int p1), (2, .int p2)]) hx hb dX6_decides_57 hl (by decide) rfl (fun ls hl => ?_)
    replace hF := bnd hF
    obtain ⟨q_34, hv_31, hF⟩ := hF
    obtain ⟨v9_14, ev9_14⟩ : ∃ y : Int64, y = q_34.1 := ⟨_, rfl⟩
    replace hF := nm_i hF ev9_14
    obtain ⟨v11_15, ev11_15⟩ : ∃ y : Int32, y = q_34.2 := ⟨_, rfl⟩
    replace hF := nm_i hF ev11_15
    obtain rfl : q_34 = (v9_14, v11_15) := by rw [ev9_14, ev11_15]
    clear ev9_14
    clear ev11_15
    refine jn (P := fun H locs ls => va_P D vwCl ((wcX aX_0 aR_0 aG_0 aS_0 aP_0 aN_0 aI_0 aT_0 zX) ++ ((wcG ci aG_0 aG_1 aG_2 aG_3 aG_4 zG) ++ (wcS ci aS_0 aS_1 zS))) H ∧ va_D A ((wcX aX_0 aR_0 aG_0 aS_0 aP_0 aN_0 aI_0 aT_0 zX) ++ ((wcG ci aG_0 aG_1 aG_2 aG_3 aG_4 zG) ++ (wcS ci aS_0 aS_1 zS))) ∧ va_S A s.heap H locs ∧ lv_has ls 14 [(0, .ref aX_0), (1, .int p1), (2, .int p2), (3, .long r_4), (5, .long v5_6), (7, .long v7_7), (9, .long v9_14), (11, .int v11_15)]) (pcJ := 139) (st := []) ?_ ?_
    · intro H locs ls hJ
      obtain ⟨hP, hD, hS, hl⟩ := hJ
      refine lv_aload_n hx hb dX6_decides_139 rfl (lv_at hl 0 rfl) ?_
      refine lv_lload hx hb dX6_decides_140 (lv_at hl 6 rfl) ?_
      refine lv_iload_n hx hb dX6_decides_142 rfl (lv_at hl 2 rfl) ?_
      replace hF := bnd hF
      obtain ⟨r_32, hc_33, hF⟩ := hF
      refine cl_Vi (As := [.long v9_14, .int p2]) (rest := []) (wc := ((wcX aX_0 aR_0 aG_0 aS_0 aP_0 aN_0 aI_0 aT_0 zX) ++ (wcG ci aG_0 aG_1 aG_2 aG_3 aG_4 zG))) (wr := ([6, 7].filterMap (fun i => ((wcX aX_0 aR_0 aG_0 aS_0 aP_0 aN_0 aI_0 aT_0 zX) ++ ((wcG ci aG_0 aG_1 aG_2 aG_3 aG_4 zG) ++ (wcS ci aS_0 aS_1 zS)))[i]?))) (w1 := ((wcX aX_0 aR_0 aG_0 aS_0 aP_0 aN_0 aI_0 aT_0 zX) ++ (wcG ci aG_0 aG_1 aG_2 aG_3 aG_4 zG))) (wn := ((wcX aX_0 aR_0 aG_0 aS_0 aP_0 aN_0 aI_0 aT_0 zX) ++ ((wcG ci aG_0 aG_1 aG_2 aG_3 aG_4 zG) ++ (wcS ci aS_0 aS_1 zS)))) ⟨hx, hb, hml, hown, hts⟩ (cwV 2 hts gX6_decides_X6_countOrPick rfl rfl rfl (by decide +kernel) ⟨Nat.le_of_ble_eq_true rfl, Nat.le_of_ble_eq_true rfl⟩) (c_X6_countOrPick l D ci aX_0 aR_0 aG_0 aS_0 aP_0 aN_0 aI_0 aT_0 aG_1 aG_2 aG_3 aG_4 H.size zX zG v9_14 p2 _ hc_33) hK hP hD hS hA [0, 1, 2, 3, 4, 5] [6, 7] [2, 3, 4, 5, 6, 7, 0, 1] rfl rfl rfl (by decide) 0 rfl rfl rfl rfl hl.1 (Nat.le_of_ble_eq_true rfl) dX6_decides_143 (Nat.zero_le _) (Nat.zero_le _) (fun H locs hP hD hS => ?_)
      have hP : va_P D vwCl ((wcX aX_0 aR_0 aG_0 aS_0 aP_0 aN_0 aI_0 aT_0 zX) ++ ((wcG ci aG_0 aG_1 aG_2 aG_3 aG_4 zG) ++ (wcS ci aS_0 aS_1 zS))) H := hP
      have hD : va_D A ((wcX aX_0 aR_0 aG_0 aS_0 aP_0 aN_0 aI_0 aT_0 zX) ++ ((wcG ci aG_0 aG_1 aG_2 aG_3 aG_4 zG) ++ (wcS ci aS_0 aS_1 zS))) := hD
      obtain rfl := Option.some.inj hF
      exact W.iret (v := r_32) hx hb hr (fun t ht hW => ⟨⟨_, (), rfl, rfl, by rw [ht]; exact hP, va_K.moved hW.alike hK, hD⟩, hS.F ht⟩) hS.2.2 dX6_decides_146
    · intro J_13
      clear hF
      have hF := hv_31
      refine lpW (σ := Int64 × Int32) (I := fun n v H locs ls => L_X6_decides_59 zX zG zS p1 p2 r_4 v5_6 v7_7 n v.1 v.2 = some (v9_14, v11_15) ∧ va_P D vwCl ((wcX aX_0 aR_0 aG_0 aS_0 aP_0 aN_0 aI_0 aT_0 zX) ++ ((wcG ci aG_0 aG_1 aG_2 aG_3 aG_4 zG) ++ (wcS ci aS_0 aS_1 zS))) H ∧ va_D A ((wcX aX_0 aR_0 aG_0 aS_0 aP_0 aN_0 aI_0 aT_0 zX) ++ ((wcG ci aG_0 aG_1 aG_2 aG_3 aG_4 zG) ++ (wcS ci aS_0 aS_1 zS))) ∧ va_S A s.heap H locs ∧ lv_has ls 14 [(0, .ref aX_0), (1, .int p1), (2, .int p2), (3, .long r_4), (5, .long v5_6), (7, .long v7_7), (9, .long v.1), (11, .int v.2)]) 3000 (v9_8, v11_9) (fun _ _ _ _ h => no_none h.1) ⟨hF, hP, hD, hS, lv_sub hl [5, 6, 7, 4, 3, 2, 1, 0] rfl⟩ ?_
      clear hF hP hD hS hl
      intro n ih_12 vq H locs ls hI
      obtain ⟨v9_10, v11_11⟩ := vq
      obtain ⟨hF, hP, hD, hS, hl⟩ := hI
      have hP : va_P D vwCl ((wcX aX_0 aR_0 aG_0 aS_0 aP_0 aN_0 aI_0 aT_0 zX) ++ ((wcG ci aG_0 aG_1 aG_2 aG_3 aG_4 zG) ++ (wcS ci aS_0 aS_1 zS))) H := hP
      have hD : va_D A ((wcX aX_0 aR_0 aG_0 aS_0 aP_0 aN_0 aI_0 aT_0 zX) ++ ((wcG ci aG_0 aG_1 aG_2 aG_3 aG_4 zG) ++ (wcS ci aS_0 aS_1 zS))) := hD
      have hl : lv_has ls 14 [(0, .ref aX_0), (1, .int p1), (2, .int p2), (3, .long r_4), (5, .long v5_6), (7, .long v7_7), (9, .long v9_10), (11, .int v11_11)] := hl
      replace hF : L_X6_decides_59 zX zG zS p1 p2 r_4 v5_6 v7_7 (n + 1) v9_10 v11_11 = some (v9_14, v11_15) := hF
      rw [L_X6_decides_59] at hF
      refine lv_iload hx hb dX6_decides_59 (lv_at hl 7 rfl) ?_
      refine lv_aload_n hx hb dX6_decides_61 rfl (lv_at hl 0 rfl) ?_
      refine va_get (D := D) (ci := 6) (v := .ref aG_0) (C := RX6) (T := TX6) (N := 9) hx hb hts hin_RX6 hown hK hP 0 rfl rfl 1 (by decide) hk_0 (fun _ h9 => h9) rfl dX6_decides_62 ?_
      refine va_get (D := D) (ci := 0) (v := .int (zG.1 3)) (C := RX0) (T := TX0) (N := 13) hx hb hts hin_RX0 hown hK hP 1 rfl rfl 3 (by decide) hk_6 (fun _ h9 => h9) rfl dX6_decides_65 ?_
      refine lv_icmp_ge (tgt := 139) hx hb dX6_decides_68 (by decide) (fun c_16 => ?_) (fun c_16 => ?_)
      · replace hF := if_i c_16 hF
        obtain ⟨g_17, g_18⟩ : v9_10 = v9_14 ∧ v11_11 = v11_15 := by have h9 := Option.some.inj hF; simpa only [Prod.mk.injEq] using h9
        subst g_17
        subst g_18
        exact J_13 H locs ls ⟨hP, hD, hS, lv_sub hl [0, 1, 2, 3, 4, 5, 6, 7] rfl⟩
      · replace hF := if_o c_16 hF
        refine lv_aload_n hx hb dX6_decides_71 rfl (lv_at hl 0 rfl) ?_
        refine va_get (D := D) (ci := 6) (v := .ref aG_0) (C := RX6) (T := TX6) (N := 9) hx hb hts hin_RX6 hown hK hP 0 rfl rfl 1 (by decide) hk_0 (fun _ h9 => h9) rfl dX6_decides_72 ?_
        refine va_get (D := D) (ci := 0) (v := .ref aG_4) (C := RX0) (T := TX0) (N := 13) hx hb hts hin_RX0 hown hK hP 1 rfl rfl 12 (by decide) hk_8 (fun _ h9 => h9) rfl dX6_decides_75 ?_
        refine lv_iload hx hb dX6_decides_78 (lv_at hl 7 rfl) ?_
        replace hF := ald_i hF
        obtain ⟨hin_19, hF⟩ := hF
        refine va_lald hx hb hK hP 5 1 rfl rfl hin_19 dX6_decides_80 ?_
        refine lv_topl (fun x_20 ex_20 => ?_)
        replace hF := nm_i hF ex_20
        refine lv_lstore (lv' := [(12, .long x_20), (0, .ref aX_0), (1, .int p1), (2, .int p2), (3, .long r_4), (5, .long v5_6), (7, .long v7_7), (9, .long v9_10), (11, .int v11_11)]) hx hb dX6_decides_81 hl (by decide) rfl (fun ls hl => ?_)
        refine lv_lload hx hb dX6_decides_83 (lv_at hl 6 rfl) ?_
        refine lv_lload hx hb dX6_decides_85 (lv_at hl 0 rfl) ?_
        refine lv_land hx hb dX6_decides_87 ?_
        refine lv_lconst (v := 0) hx hb dX6_decides_88 (by decide) ?_
        refine W.lcmp hx hb dX6_decides_89 ?_
        refine lv_if_eq (tgt := 133) hx hb dX6_decides_90 (by decide) (fun c_21 => ?_) (fun c_21 => ?_)
        · replace hF := if_i c_21 hF
          obtain ⟨v11_22, ev11_22⟩ : ∃ y : Int32, y = v11_11 + 1 := ⟨_, rfl⟩
          replace hF := nm_i hF ev11_22
          refine lv_iinc (v := v11_22) (lv' := [(11, .int v11_22), (12, .long x_20), (0, .ref aX_0), (1, .int p1), (2, .int p2), (3, .long r_4), (5, .long v5_6), (7, .long v7_7), (9, .long v9_10)]) hx hb dX6_decides_133 hl (k := 8) rfl (by rw [ev11_22]; rfl) (by decide) rfl (fun ls hl => ?_)
          refine lv_goto (tgt := 59) hx hb dX6_decides_136 (by decide) ?_
          exact ih_12 (v9_10, v11_22) H locs ls ⟨hF, hP, hD, hS, lv_sub hl [2, 3, 4, 5, 6, 7, 8, 0] rfl⟩
        · replace hF := if_o c_21 hF
          refine lv_aload_n hx hb dX6_decides_93 rfl (lv_at hl 1 rfl) ?_
          refine va_get (D := D) (ci := 6) (v := .ref aG_0) (C := RX6) (T := TX6) (N := 9) hx hb hts hin_RX6 hown hK hP 0 rfl rfl 1 (by decide) hk_0 (fun _ h9 => h9) rfl dX6_decides_94 ?_
          refine lv_aload_n hx hb dX6_decides_97 rfl (lv_at hl 1 rfl) ?_
          refine va_get (D := D) (ci := 6) (v := .ref aG_0) (C := RX6) (T := TX6) (N := 9) hx hb hts hin_RX6 hown hK hP 0 rfl rfl 1 (by decide) hk_0 (fun _ h9 => h9) rfl dX6_decides_98 ?_
          refine lv_iconst (v := 1) hx hb dX6_decides_101 (by decide) ?_
          refine lv_iload_n hx hb dX6_decides_102 rfl (lv_at hl 2 rfl) ?_
          refine lv_ishl hx hb dX6_decides_103 ?_
          refine lv_lload hx hb dX6_decides_104 (lv_at hl 5 rfl) ?_
          refine lv_lload hx hb dX6_decides_106 (lv_at hl 0 rfl) ?_
          refine lv_lor hx hb dX6_decides_108 ?_
          replace hF := bnd hF
          obtain ⟨r_23, hc_24, hF⟩ := hF
          refine cl_Vi (As := [.int ((1 : Int32) <<< (p1 &&& 31)), .long (v5_6 ||| x_20)]) (rest := [.ref aG_0]) (wc := (wcG ci aG_0 aG_1 aG_2 aG_3 aG_4 zG)) (wr := ([0, 6, 7].filterMap (fun i => ((wcX aX_0 aR_0 aG_0 aS_0 aP_0 aN_0 aI_0 aT_0 zX) ++ ((wcG ci aG_0 aG_1 aG_2 aG_3 aG_4 zG) ++ (wcS ci aS_0 aS_1 zS)))[i]?))) (w1 := (wcG ci aG_0 aG_1 aG_2 aG_3 aG_4 zG)) (wn := ((wcX aX_0 aR_0 aG_0 aS_0 aP_0 aN_0 aI_0 aT_0 zX) ++ ((wcG ci aG_0 aG_1 aG_2 aG_3 aG_4 zG) ++ (wcS ci aS_0 aS_1 zS)))) ⟨hx, hb, hml, hown, hts⟩ (cwV 2 hts gX6_decides_X0_landFrom rfl rfl rfl (by decide +kernel) ⟨Nat.le_of_ble_eq_true rfl, Nat.le_of_ble_eq_true rfl⟩) (c_X0_landFrom l D ci aG_0 aG_1 aG_2 aG_3 aG_4 H.size zG ((1 : Int32) <<< (p1 &&& 31)) (v5_6 ||| x_20) _ hc_24) hK hP hD hS hA [1, 2, 3, 4, 5] [0, 6, 7] [0, 3, 4, 5, 6, 7, 1, 2] rfl rfl rfl (by decide) 0 rfl rfl rfl rfl hl.1 (Nat.le_of_ble_eq_true rfl) dX6_decides_109 (Nat.zero_le _) (Nat.zero_le _) (fun H locs hP hD hS => ?_)
          have hP : va_P D vwCl ((wcX aX_0 aR_0 aG_0 aS_0 aP_0 aN_0 aI_0 aT_0 zX) ++ ((wcG ci aG_0 aG_1 aG_2 aG_3 aG_4 zG) ++ (wcS ci aS_0 aS_1 zS))) H := hP
          have hD : va_D A ((wcX aX_0 aR_0 aG_0 aS_0 aP_0 aN_0 aI_0 aT_0 zX) ++ ((wcG ci aG_0 aG_1 aG_2 aG_3 aG_4 zG) ++ (wcS ci aS_0 aS_1 zS))) := hD
          refine lv_aload_n hx hb dX6_decides_112 rfl (lv_at hl 1 rfl) ?_
          refine va_get (D := D) (ci := 6) (v := .ref aS_0) (C := RX6) (T := TX6) (N := 9) hx hb hts hin_RX6 hown hK hP 0 rfl rfl 2 (by decide) hk_2 (fun _ h9 => h9) rfl dX6_decides_113 ?_
          refine va_get (D := D) (ci := 5) (v := .long (zS.1 1)) (C := RX5) (T := TX5) (N := 6) hx hb hts hin_RX5 hown hK hP 6 rfl rfl 1 (by decide) hk_9 (fun _ h9 => h9) rfl dX6_decides_116 ?_
          replace hF := bnd hF
          obtain ⟨r_25, hc_26, hF⟩ := hF
          refine cl_Vi (As := [.int r_23, .long (zS.1 1)]) (rest := []) (wc := (wcG ci aG_0 aG_1 aG_2 aG_3 aG_4 zG)) (wr := ([0, 6, 7].filterMap (fun i => ((wcX aX_0 aR_0 aG_0 aS_0 aP_0 aN_0 aI_0 aT_0 zX) ++ ((wcG ci aG_0 aG_1 aG_2 aG_3 aG_4 zG) ++ (wcS ci aS_0 aS_1 zS)))[i]?))) (w1 := (wcG ci aG_0 aG_1 aG_2 aG_3 aG_4 zG)) (wn := ((wcX aX_0 aR_0 aG_0 aS_0 aP_0 aN_0 aI_0 aT_0 zX) ++ ((wcG ci aG_0 aG_1 aG_2 aG_3 aG_4 zG) ++ (wcS ci aS_0 aS_1 zS)))) ⟨hx, hb, hml, hown, hts⟩ (cwV 2 hts gX6_decides_X0_shutInBy rfl rfl rfl (by decide +kernel) ⟨Nat.le_of_ble_eq_true rfl, Nat.le_of_ble_eq_true rfl⟩) (c_X0_shutInBy l D ci aG_0 aG_1 aG_2 aG_3 aG_4 H.size zG r_23 (zS.1 1) _ hc_26) hK hP hD hS hA [1, 2, 3, 4, 5] [0, 6, 7] [0, 3, 4, 5, 6, 7, 1, 2] rfl rfl rfl (by decide) 0 rfl rfl rfl rfl hl.1 (Nat.le_of_ble_eq_true rfl) dX6_decides_119 (Nat.zero_le _) (Nat.zero_le _) (fun H locs hP hD hS => ?_)
          have hP : va_P D vwCl ((wcX aX_0 aR_0 aG_0 aS_0 aP_0 aN_0 aI_0 aT_0 zX) ++ ((wcG ci aG_0 aG_1 aG_2 aG_3 aG_4 zG) ++ (wcS ci aS_0 aS_1 zS))) H := hP
          have hD : va_D A ((wcX aX_0 aR_0 aG_0 aS_0 aP_0 aN_0 aI_0 aT_0 zX) ++ ((wcG ci aG_0 aG_1 aG_2 aG_3 aG_4 zG) ++ (wcS ci aS_0 aS_1 zS))) := hD
          refine lv_iconst (v := (-1)) hx hb dX6_decides_122 (by decide) ?_
          refine lv_icmp_eq (tgt := 133) hx hb dX6_decides_123 (by decide) (fun c_27 => ?_) (fun c_27 => ?_)
          · replace hF := if_i c_27 hF
            obtain ⟨v11_28, ev11_28⟩ : ∃ y : Int32, y = v11_11 + 1 := ⟨_, rfl⟩
            replace hF := nm_i hF ev11_28
            refine lv_iinc (v := v11_28) (lv' := [(11, .int v11_28), (12, .long x_20), (0, .ref aX_0), (1, .int p1), (2, .int p2), (3, .long r_4), (5, .long v5_6), (7, .long v7_7), (9, .long v9_10)]) hx hb dX6_decides_133 hl (k := 8) rfl (by rw [ev11_28]; rfl) (by decide) rfl (fun ls hl => ?_)
            refine lv_goto (tgt := 59) hx hb dX6_decides_136 (by decide) ?_
            exact ih_12 (v9_10, v11_28) H locs ls ⟨hF, hP, hD, hS, lv_sub hl [2, 3, 4, 5, 6, 7, 8, 0] rfl⟩
          · replace hF := if_o c_27 hF
            refine lv_lload hx hb dX6_decides_126 (lv_at hl 7 rfl) ?_
            refine lv_lload hx hb dX6_decides_128 (lv_at hl 0 rfl) ?_
            refine lv_lor hx hb dX6_decides_130 ?_
            refine lv_topl (fun v9_29 ev9_29 => ?_)
            replace hF := nm_i hF ev9_29
            refine lv_lstore (lv' := [(9, .long v9_29), (12, .long x_20), (0, .ref aX_0), (1, .int p1), (2, .int p2), (3, .long r_4), (5, .long v5_6), (7, .long v7_7), (11, .int v11_11)]) hx hb dX6_decides_131 hl (by decide) rfl (fun ls hl => ?_)
            obtain ⟨v11_30, ev11_30⟩ : ∃ y : Int32, y = v11_11 + 1 := ⟨_, rfl⟩
            replace hF := nm_i hF ev11_30
            refine lv_iinc (v := v11_30) (lv' := [(11, .int v11_30), (9, .long v9_29), (12, .long x_20), (0, .ref aX_0), (1, .int p1), (2, .int p2), (3, .long r_4), (5, .long v5_6), (7, .long v7_7)]) hx hb dX6_decides_133 hl (k := 8) rfl (by rw [ev11_30]; rfl) (by decide) rfl (fun ls hl => ?_)
            refine lv_goto (tgt := 59) hx hb dX6_decides_136 (by decide) ?_
            exact ih_12 (v9_29, v11_30) H locs ls ⟨hF, hP, hD, hS, lv_sub hl [3, 4, 5, 6, 7, 8, 1, 0] rfl⟩
  · replace hF := if_i c_3 hF
    refine lv_ldc (v := (-1000000001)) hx hb hown hk_10 dX6_decides_11 ?_
    obtain rfl := Option.some.inj hF
    exact W.iret (v := (-1000000001)) hx hb hr (fun t ht hW => ⟨⟨_, (), rfl, rfl, by rw [ht]; exact hP, va_K.moved hW.alike hK, hD⟩, hS.F ht⟩) hS.2.2 dX6_decides_13
noncomputable def L_X6_acresAfter_119 (zX : XS) (zG : GS) (zS : SS) (zT : TS) (p1 : Int32) (p2 : Int32) (p3 : Int32) (p4 : Int32) (t_1 : Int64) (t_7 : Int64) (t_13 : Int32) (t_19 : Int32) (v11_29 : Int64) : Nat → Int32 → Int64 → Int32 → Option (Int32 × Int64 × Int32)
  | 0, _, _, _ => none
  | n + 1, v13_33, v14_34, v16_35 => if p2 < v16_35 then (some (v13_33, v14_34, v16_35)) else (ald 7 zT v16_35 fun x_46 => (if v16_35 < t_13 then (some (0 : Int64)) else (some (t_1 : Int64))).bind fun t_47 => (if v16_35 < t_19 then (some (0 : Int64)) else (some (t_7 : Int64))).bind fun t_51 => nm ((x_46 ||| t_47) ||| t_51) fun v17_55 => if v16_35 = 1 then ((f_X0_ownedAfterMarch zG v17_55 v11_29 v13_33).bind fun r_57 => nm (v16_35 + 1) fun v16_59 => L_X6_acresAfter_119 zX zG zS zT p1 p2 p3 p4 t_1 t_7 t_13 t_19 v11_29 n r_57 v17_55 v16_59) else (if (lg_cmp v17_55 v14_34) = 0 then (nm (v16_35 + 1) fun v16_61 => L_X6_acresAfter_119 zX zG zS zT p1 p2 p3 p4 t_1 t_7 t_13 t_19 v11_29 n v13_33 v17_55 v16_61) else ((f_X0_ownedAfterMarch zG v17_55 v11_29 v13_33).bind fun r_62 => nm (v16_35 + 1) fun v16_64 => L_X6_acresAfter_119 zX zG zS zT p1 p2 p3 p4 t_1 t_7 t_13 t_19 v11_29 n r_62 v17_55 v16_64)))
noncomputable def f_X6_acresAfter (zX : XS) (zG : GS) (zS : SS) (zT : TS) (p1 : Int32) (p2 : Int32) (p3 : Int32) (p4 : Int32) : Option (Int32) := (if p3 = (-1) then (some (0 : Int64)) else (ald 40 zG.2.2.2 p3 fun x_5 => some (x_5 : Int64))).bind fun t_1 => (if p4 = (-1) then (some (0 : Int64)) else (ald 40 zG.2.2.2 p4 fun x_11 => some (x_11 : Int64))).bind fun t_7 => (if p3 = (-1) then (some (0 : Int32)) else ((f_X0_ageWhenTall zG p3).bind fun r_16 => some (r_16 : Int32))).bind fun t_13 => (if p4 = (-1) then (some (0 : Int32)) else ((f_X0_ageWhenTall zG p4).bind fun r_22 => some (r_22 : Int32))).bind fun t_19 => (if p1 = 1 then (some (t_1 : Int64)) else (some (t_7 : Int64))).bind fun t_25 => nm ((zS.1 1) ||| t_25) fun v11_29 => nm (zS.2.1 3) fun v13_30 => nm (0 : Int64) fun v14_31 => nm (1 : Int32) fun v16_32 => (L_X6_acresAfter_119 zX zG zS zT p1 p2 p3 p4 t_1 t_7 t_13 t_19 v11_29 3000 v13_30 v14_31 v16_32).bind fun q_69 => nm q_69.1 fun v13_38 => nm q_69.2.1 fun v14_39 => nm q_69.2.2 fun v16_40 => (f_J6_bitCount_0f7a4 v13_38).bind fun r_66 => if p1 = 1 then (some r_66) else (some ((zG.1 2) - r_66))
set_option maxHeartbeats 4000000 in
set_option maxRecDepth 100000 in
theorem c_X6_acresAfter (l : Launch) (D : va_G) (ci : Nat → ClassId) (aX_0 : Nat) (aR_0 : Nat) (aG_0 : Nat) (aS_0 : Nat) (aP_0 : Nat) (aN_0 : Nat) (aI_0 : Nat) (aT_0 : Nat) (aG_1 : Nat) (aG_2 : Nat) (aG_3 : Nat) (aG_4 : Nat) (aS_1 : Nat) (sz : Nat) (zX : XS) (zG : GS) (zS : SS) (zT : TS) (p1 : Int32) (p2 : Int32) (p3 : Int32) (p4 : Int32) (res : Int32) (hF : f_X6_acresAfter zX zG zS zT p1 p2 p3 p4 = some res) : CtI l yX6_acresAfter wsX6_acresAfter { frames := 3, cells := 0, slots := 0, locals := 83 } [.ref aX_0, .int p1, .int p2, .int p3, .int p4] D ci ((wcX aX_0 aR_0 aG_0 aS_0 aP_0 aN_0 aI_0 aT_0 zX) ++ ((wcG ci aG_0 aG_1 aG_2 aG_3 aG_4 zG) ++ ((wcS ci aS_0 aS_1 zS) ++ (wcT ci aT_0 zT)))) sz res ((wcX aX_0 aR_0 aG_0 aS_0 aP_0 aN_0 aI_0 aT_0 zX) ++ ((wcG ci aG_0 aG_1 aG_2 aG_3 aG_4 zG) ++ ((wcS ci aS_0 aS_1 zS) ++ (wcT ci aT_0 zT)))) := by
  refine Met.ofW (cc := cX6_acresAfter) (maxL := 19) (ret := (some .int)) (by decide) rfl ?_
  intro p e s m args below meth c s₁ B hml hv
  obtain ⟨rfl, hsz, hP, hK, hD0⟩ := hv
  have hx := B.exec
  have hb := B.bytes
  have hr := B.returns
  have hts := atoms_spec (ws := wsX6_acresAfter) B.pre
  have hown : s.vm.findClass RX6 = some m.cls := findClass_of_methodNamed B.named
  have hlocks := B.notSynchronized
  subst hsz
  have hD := hD0.self (sz := s.heap.size)
  generalize hAe : va_A ((wcX aX_0 aR_0 aG_0 aS_0 aP_0 aN_0 aI_0 aT_0 zX) ++ ((wcG ci aG_0 aG_1 aG_2 aG_3 aG_4 zG) ++ ((wcS ci aS_0 aS_1 zS) ++ (wcT ci aT_0 zT)))) s.heap.size = A at hD ⊢
  have hA : ∀ q : Nat, s.heap.size ≤ q → A q := fun q h => by rw [← hAe]; exact Or.inr h
  clear hD0 hAe
  have hl := lv_entry ([.ref aX_0, .int p1, .int p2, .int p3, .int p4]) (n := 19) (Nat.le_of_ble_eq_true rfl)
  rw [lg_entry_eq]
  generalize (lg_sl ([.ref aX_0, .int p1, .int p2, .int p3, .int p4]) ++ List.replicate (19 - (lg_sl ([.ref aX_0, .int p1, .int p2, .int p3, .int p4])).length) Slot.unset).toArray = ls at hl ⊢
  have hl : lv_has ls 19 [(0, .ref aX_0), (1, .int p1), (2, .int p2), (3, .int p3), (4, .int p4)] := hl
  have hP : va_P D vwCl ((wcX aX_0 aR_0 aG_0 aS_0 aP_0 aN_0 aI_0 aT_0 zX) ++ ((wcG ci aG_0 aG_1 aG_2 aG_3 aG_4 zG) ++ ((wcS ci aS_0 aS_1 zS) ++ (wcT ci aT_0 zT)))) s.heap := hP
  generalize hH0 : s.heap = H at hP ⊢
  have hS : va_S A s.heap H [] := by rw [← hH0]; exact va_S.rf
  clear hH0
  generalize ([] : List Loc) = locs at hS ⊢
  have hk_0 := hts (.fieldLink RX6 19 "HedgeWar" "ground" "LHedgeWar$Ground;") (by decide +kernel)
  have hin_RX6 : ∀ w ∈ wsX60, w ∈ wsX6_acresAfter := by decide +kernel
  have hk_2 := hts (.fieldLink RX6 171 "HedgeWar$Ground" "places" "[J") (by decide +kernel)
  have hin_RX0 : ∀ w ∈ wsX00, w ∈ wsX6_acresAfter := by decide +kernel
  have hk_4 := hts (.fieldLink RX6 26 "HedgeWar" "now" "LHedgeWar$Stand;") (by decide +kernel)
  have hk_5 := hts (.fieldLink RX6 162 "HedgeWar$Stand" "ofOne" "J") (by decide +kernel)
  have hin_RX5 : ∀ w ∈ wsX50, w ∈ wsX6_acresAfter := by decide +kernel
  have hk_7 := hts (.fieldLink RX6 122 "HedgeWar$Stand" "ownedByOne" "I") (by decide +kernel)
  have hk_8 := hts (.fieldLink RX6 50 "HedgeWar" "shutThen" "[J") (by decide +kernel)
  have hk_9 := hts (.fieldLink RX6 97 "HedgeWar$Ground" "fields" "I") (by decide +kernel)
  unfold f_X6_acresAfter at hF
  refine lv_iload_n hx hb dX6_acresAfter_0 rfl (lv_at hl 3 rfl) ?_
  refine lv_iconst (v := (-1)) hx hb dX6_acresAfter_1 (by decide) ?_
  replace hF := bnd hF
  obtain ⟨t_1, hv_6, hF⟩ := hF
  refine jn (P := fun H locs ls => va_P D vwCl ((wcX aX_0 aR_0 aG_0 aS_0 aP_0 aN_0 aI_0 aT_0 zX) ++ ((wcG ci aG_0 aG_1 aG_2 aG_3 aG_4 zG) ++ ((wcS ci aS_0 aS_1 zS) ++ (wcT ci aT_0 zT)))) H ∧ va_D A ((wcX aX_0 aR_0 aG_0 aS_0 aP_0 aN_0 aI_0 aT_0 zX) ++ ((wcG ci aG_0 aG_1 aG_2 aG_3 aG_4 zG) ++ ((wcS ci aS_0 aS_1 zS) ++ (wcT ci aT_0 zT)))) ∧ va_S A s.heap H locs ∧ lv_has ls 19 [(0, .ref aX_0), (1, .int p1), (2, .int p2), (3, .int p3), (4, .int p4)]) (pcJ := 18) (st := [.long t_1]) ?_ ?_
  · intro H locs ls hJ
    obtain ⟨hP, hD, hS, hl⟩ := hJ
    refine lv_lstore (lv' := [(5, .long t_1), (0, .ref aX_0), (1, .int p1), (2, .int p2), (3, .int p3), (4, .int p4)]) hx hb dX6_acresAfter_18 hl (by decide) rfl (fun ls hl => ?_)
    refine lv_iload hx hb dX6_acresAfter_20 (lv_at hl 5 rfl) ?_
    refine lv_iconst (v := (-1)) hx hb dX6_acresAfter_22 (by decide) ?_
    replace hF := bnd hF
    obtain ⟨t_7, hv_12, hF⟩ := hF
    refine jn (P := fun H locs ls => va_P D vwCl ((wcX aX_0 aR_0 aG_0 aS_0 aP_0 aN_0 aI_0 aT_0 zX) ++ ((wcG ci aG_0 aG_1 aG_2 aG_3 aG_4 zG) ++ ((wcS ci aS_0 aS_1 zS) ++ (wcT ci aT_0 zT)))) H ∧ va_D A ((wcX aX_0 aR_0 aG_0 aS_0 aP_0 aN_0 aI_0 aT_0 zX) ++ ((wcG ci aG_0 aG_1 aG_2 aG_3 aG_4 zG) ++ ((wcS ci aS_0 aS_1 zS) ++ (wcT ci aT_0 zT)))) ∧ va_S A s.heap H locs ∧ lv_has ls 19 [(0, .ref aX_0), (1, .int p1), (2, .int p2), (3, .int p3), (4, .int p4), (5, .long t_1)]) (pcJ := 40) (st := [.long t_7]) ?_ ?_
    · intro H locs ls hJ
      obtain ⟨hP, hD, hS, hl⟩ := hJ
      refine lv_lstore (lv' := [(7, .long t_7), (0, .ref aX_0), (1, .int p1), (2, .int p2), (3, .int p3), (4, .int p4), (5, .long t_1)]) hx hb dX6_acresAfter_40 hl (by decide) rfl (fun ls hl => ?_)
      refine lv_iload_n hx hb dX6_acresAfter_42 rfl (lv_at hl 4 rfl) ?_
      refine lv_iconst (v := (-1)) hx hb dX6_acresAfter_43 (by decide) ?_
      replace hF := bnd hF
      obtain ⟨t_13, hv_18, hF⟩ := hF
      refine jn (P := fun H locs ls => va_P D vwCl ((wcX aX_0 aR_0 aG_0 aS_0 aP_0 aN_0 aI_0 aT_0 zX) ++ ((wcG ci aG_0 aG_1 aG_2 aG_3 aG_4 zG) ++ ((wcS ci aS_0 aS_1 zS) ++ (wcT ci aT_0 zT)))) H ∧ va_D A ((wcX aX_0 aR_0 aG_0 aS_0 aP_0 aN_0 aI_0 aT_0 zX) ++ ((wcG ci aG_0 aG_1 aG_2 aG_3 aG_4 zG) ++ ((wcS ci aS_0 aS_1 zS) ++ (wcT ci aT_0 zT)))) ∧ va_S A s.heap H locs ∧ lv_has ls 19 [(0, .ref aX_0), (1, .int p1), (2, .int p2), (3, .int p3), (4, .int p4), (5, .long t_1), (7, .long t_7)]) (pcJ := 59) (st := [.int t_13]) ?_ ?_
      · intro H locs ls hJ
        obtain ⟨hP, hD, hS, hl⟩ := hJ
        refine lv_istore (lv' := [(9, .int t_13), (0, .ref aX_0), (1, .int p1), (2, .int p2), (3, .int p3), (4, .int p4), (5, .long t_1), (7, .long t_7)]) hx hb dX6_acresAfter_59 hl (by decide) rfl (fun ls hl => ?_)
        refine lv_iload hx hb dX6_acresAfter_61 (lv_at hl 5 rfl) ?_
        refine lv_iconst (v := (-1)) hx hb dX6_acresAfter_63 (by decide) ?_
        replace hF := bnd hF
        obtain ⟨t_19, hv_24, hF⟩ := hF
        refine jn (P := fun H locs ls => va_P D vwCl ((wcX aX_0 aR_0 aG_0 aS_0 aP_0 aN_0 aI_0 aT_0 zX) ++ ((wcG ci aG_0 aG_1 aG_2 aG_3 aG_4 zG) ++ ((wcS ci aS_0 aS_1 zS) ++ (wcT ci aT_0 zT)))) H ∧ va_D A ((wcX aX_0 aR_0 aG_0 aS_0 aP_0 aN_0 aI_0 aT_0 zX) ++ ((wcG ci aG_0 aG_1 aG_2 aG_3 aG_4 zG) ++ ((wcS ci aS_0 aS_1 zS) ++ (wcT ci aT_0 zT)))) ∧ va_S A s.heap H locs ∧ lv_has ls 19 [(0, .ref aX_0), (1, .int p1), (2, .int p2), (3, .int p3), (4, .int p4), (5, .long t_1), (7, .long t_7), (9, .int t_13)]) (pcJ := 80) (st := [.int t_19]) ?_ ?_
        · intro H locs ls hJ
          obtain ⟨hP, hD, hS, hl⟩ := hJ
          refine lv_istore (lv' := [(10, .int t_19), (0, .ref aX_0), (1, .int p1), (2, .int p2), (3, .int p3), (4, .int p4), (5, .long t_1), (7, .long t_7), (9, .int t_13)]) hx hb dX6_acresAfter_80 hl (by decide) rfl (fun ls hl => ?_)
          refine lv_aload_n hx hb dX6_acresAfter_82 rfl (lv_at hl 1 rfl) ?_
          refine va_get (D := D) (ci := 6) (v := .ref aS_0) (C := RX6) (T := TX6) (N := 9) hx hb hts hin_RX6 hown hK hP 0 rfl rfl 2 (by decide) hk_4 (fun _ h9 => h9) rfl dX6_acresAfter_83 ?_
          refine va_get (D := D) (ci := 5) (v := .long (zS.1 1)) (C := RX5) (T := TX5) (N := 6) hx hb hts hin_RX5 hown hK hP 6 rfl rfl 1 (by decide) hk_5 (fun _ h9 => h9) rfl dX6_acresAfter_86 ?_
          refine lv_iload_n hx hb dX6_acresAfter_89 rfl (lv_at hl 2 rfl) ?_
          refine lv_iconst (v := 1) hx hb dX6_acresAfter_90 (by decide) ?_
          replace hF := bnd hF
          obtain ⟨t_25, hv_28, hF⟩ := hF
          refine jn (P := fun H locs ls => va_P D vwCl ((wcX aX_0 aR_0 aG_0 aS_0 aP_0 aN_0 aI_0 aT_0 zX) ++ ((wcG ci aG_0 aG_1 aG_2 aG_3 aG_4 zG) ++ ((wcS ci aS_0 aS_1 zS) ++ (wcT ci aT_0 zT)))) H ∧ va_D A ((wcX aX_0 aR_0 aG_0 aS_0 aP_0 aN_0 aI_0 aT_0 zX) ++ ((wcG ci aG_0 aG_1 aG_2 aG_3 aG_4 zG) ++ ((wcS ci aS_0 aS_1 zS) ++ (wcT ci aT_0 zT)))) ∧ va_S A s.heap H locs ∧ lv_has ls 19 [(0, .ref aX_0), (1, .int p1), (2, .int p2), (3, .int p3), (4, .int p4), (5, .long t_1), (7, .long t_7), (9, .int t_13), (10, .int t_19)]) (pcJ := 101) (st := [.long t_25, .long (zS.1 1)]) ?_ ?_
          · intro H locs ls hJ
            obtain ⟨hP, hD, hS, hl⟩ := hJ
            refine lv_lor hx hb dX6_acresAfter_101 ?_
            refine lv_topl (fun v11_29 ev11_29 => ?_)
            replace hF := nm_i hF ev11_29
            refine lv_lstore (lv' := [(11, .long v11_29), (0, .ref aX_0), (1, .int p1), (2, .int p2), (3, .int p3), (4, .int p4), (5, .long t_1), (7, .long t_7), (9, .int t_13), (10, .int t_19)]) hx hb dX6_acresAfter_102 hl (by decide) rfl (fun ls hl => ?_)
            refine lv_aload_n hx hb dX6_acresAfter_104 rfl (lv_at hl 1 rfl) ?_
            refine va_get (D := D) (ci := 6) (v := .ref aS_0) (C := RX6) (T := TX6) (N := 9) hx hb hts hin_RX6 hown hK hP 0 rfl rfl 2 (by decide) hk_4 (fun _ h9 => h9) rfl dX6_acresAfter_105 ?_
            refine va_get (D := D) (ci := 5) (v := .int (zS.2.1 3)) (C := RX5) (T := TX5) (N := 6) hx hb hts hin_RX5 hown hK hP 6 rfl rfl 3 (by decide) hk_7 (fun _ h9 => h9) rfl dX6_acresAfter_108 ?_
            refine lv_topi (fun v13_30 ev13_30 => ?_)
            replace hF := nm_i hF ev13_30
            refine lv_istore (lv' := [(13, .int v13_30), (11, .long v11_29), (0, .ref aX_0), (1, .int p1), (2, .int p2), (3, .int p3), (4, .int p4), (5, .long t_1), (7, .long t_7), (9, .int t_13), (10, .int t_19)]) hx hb dX6_acresAfter_111 hl (by decide) rfl (fun ls hl => ?_)
            refine lv_lconst (v := 0) hx hb dX6_acresAfter_113 (by decide) ?_
            refine lv_topl (fun v14_31 ev14_31 => ?_)
            replace hF := nm_i hF ev14_31
            refine lv_lstore (lv' := [(14, .long v14_31), (13, .int v13_30), (11, .long v11_29), (0, .ref aX_0), (1, .int p1), (2, .int p2), (3, .int p3), (4, .int p4), (5, .long t_1), (7, .long t_7), (9, .int t_13), (10, .int t_19)]) hx hb dX6_acresAfter_114 hl (by decide) rfl (fun ls hl => ?_)
            refine lv_iconst (v := 1) hx hb dX6_acresAfter_116 (by decide) ?_
            refine lv_topi (fun v16_32 ev16_32 => ?_)
            replace hF := nm_i hF ev16_32
            refine lv_istore (lv' := [(16, .int v16_32), (14, .long v14_31), (13, .int v13_30), (11, .long v11_29), (0, .ref aX_0), (1, .int p1), (2, .int p2), (3, .int p3), (4, .int p4), (5, .long t_1), (7, .long t_7), (9, .int t_13), (10, .int t_19)]) hx hb dX6_acresAfter_117 hl (by decide) rfl (fun ls hl => ?_)
            replace hF := bnd hF
            obtain ⟨q_69, hv_65, hF⟩ := hF
            obtain ⟨v13_38, ev13_38⟩ : ∃ y : Int32, y = q_69.1 := ⟨_, rfl⟩
            replace hF := nm_i hF ev13_38
            obtain ⟨v14_39, ev14_39⟩ : ∃ y : Int64, y = q_69.2.1 := ⟨_, rfl⟩
            replace hF := nm_i hF ev14_39
            obtain ⟨v16_40, ev16_40⟩ : ∃ y : Int32, y = q_69.2.2 := ⟨_, rfl⟩
            replace hF := nm_i hF ev16_40
            obtain rfl : q_69 = (v13_38, v14_39, v16_40) := by rw [ev13_38, ev14_39, ev16_40]
            clear ev13_38
            clear ev14_39
            clear ev16_40
            refine jn (P := fun H locs ls => va_P D vwCl ((wcX aX_0 aR_0 aG_0 aS_0 aP_0 aN_0 aI_0 aT_0 zX) ++ ((wcG ci aG_0 aG_1 aG_2 aG_3 aG_4 zG) ++ ((wcS ci aS_0 aS_1 zS) ++ (wcT ci aT_0 zT)))) H ∧ va_D A ((wcX aX_0 aR_0 aG_0 aS_0 aP_0 aN_0 aI_0 aT_0 zX) ++ ((wcG ci aG_0 aG_1 aG_2 aG_3 aG_4 zG) ++ ((wcS ci aS_0 aS_1 zS) ++ (wcT ci aT_0 zT)))) ∧ va_S A s.heap H locs ∧ lv_has ls 19 [(0, .ref aX_0), (1, .int p1), (2, .int p2), (3, .int p3), (4, .int p4), (5, .long t_1), (7, .long t_7), (9, .int t_13), (10, .int t_19), (11, .long v11_29), (13, .int v13_38), (14, .long v14_39), (16, .int v16_40)]) (pcJ := 201) (st := []) ?_ ?_
            · intro H locs ls hJ
              obtain ⟨hP, hD, hS, hl⟩ := hJ
              refine lv_iload hx hb dX6_acresAfter_201 (lv_at hl 10 rfl) ?_
              replace hF := bnd hF
              obtain ⟨r_66, hc_67, hF⟩ := hF
              refine cl_Sie (As := [.int v13_38]) (rest := []) ⟨hx, hb, hml, hown, hts⟩ (va_cwS 1 hts gX6_acresAfter_J6_bitCount_0f7a4 rfl rfl rfl (by decide +kernel) ⟨Nat.le_of_ble_eq_true rfl, Nat.le_of_ble_eq_true rfl⟩) (c_J6_bitCount_0f7a4 l D ci  H.size v13_38 _ hc_67) hK hP hD hS hA rfl rfl hl.1 (Nat.le_of_ble_eq_true rfl) dX6_acresAfter_203 (Nat.zero_le _) (Nat.zero_le _) (fun H locs hP hD hS => ?_)
              have hP : va_P D vwCl ((wcX aX_0 aR_0 aG_0 aS_0 aP_0 aN_0 aI_0 aT_0 zX) ++ ((wcG ci aG_0 aG_1 aG_2 aG_3 aG_4 zG) ++ ((wcS ci aS_0 aS_1 zS) ++ (wcT ci aT_0 zT)))) H := hP
              have hD : va_D A ((wcX aX_0 aR_0 aG_0 aS_0 aP_0 aN_0 aI_0 aT_0 zX) ++ ((wcG ci aG_0 aG_1 aG_2 aG_3 aG_4 zG) ++ ((wcS ci aS_0 aS_1 zS) ++ (wcT ci aT_0 zT)))) := hD
              refine lv_istore (lv' := [(16, .int r_66), (0, .ref aX_0), (1, .int p1), (2, .int p2), (3, .int p3), (4, .int p4), (5, .long t_1), (7, .long t_7), (9, .int t_13), (10, .int t_19), (11, .long v11_29), (13, .int v13_38), (14, .long v14_39)]) hx hb dX6_acresAfter_206 hl (by decide) rfl (fun ls hl => ?_)
              refine lv_iload_n hx hb dX6_acresAfter_208 rfl (lv_at hl 2 rfl) ?_
              refine lv_iconst (v := 1) hx hb dX6_acresAfter_209 (by decide) ?_
              refine lv_icmp_ne (tgt := 218) hx hb dX6_acresAfter_210 (by decide) (fun c_68 => ?_) (fun c_68 => ?_)
              · replace hF := if_o c_68 hF
                refine lv_aload_n hx hb dX6_acresAfter_218 rfl (lv_at hl 1 rfl) ?_
                refine va_get (D := D) (ci := 6) (v := .ref aG_0) (C := RX6) (T := TX6) (N := 9) hx hb hts hin_RX6 hown hK hP 0 rfl rfl 1 (by decide) hk_0 (fun _ h9 => h9) rfl dX6_acresAfter_219 ?_
                refine va_get (D := D) (ci := 0) (v := .int (zG.1 2)) (C := RX0) (T := TX0) (N := 13) hx hb hts hin_RX0 hown hK hP 1 rfl rfl 2 (by decide) hk_9 (fun _ h9 => h9) rfl dX6_acresAfter_222 ?_
                refine lv_iload hx hb dX6_acresAfter_225 (lv_at hl 0 rfl) ?_
                refine lv_isub hx hb dX6_acresAfter_227 ?_
                obtain rfl := Option.some.inj hF
                exact W.iret (v := ((zG.1 2) - r_66)) hx hb hr (fun t ht hW => ⟨⟨_, (), rfl, rfl, by rw [ht]; exact hP, va_K.moved hW.alike hK, hD⟩, hS.F ht⟩) hS.2.2 dX6_acresAfter_228
              · replace hF := if_i c_68 hF
                refine lv_iload hx hb dX6_acresAfter_213 (lv_at hl 0 rfl) ?_
                refine lv_goto (tgt := 228) hx hb dX6_acresAfter_215 (by decide) ?_
                obtain rfl := Option.some.inj hF
                exact W.iret (v := r_66) hx hb hr (fun t ht hW => ⟨⟨_, (), rfl, rfl, by rw [ht]; exact hP, va_K.moved hW.alike hK, hD⟩, hS.F ht⟩) hS.2.2 dX6_acresAfter_228
            · intro J_37
              clear hF
              have hF := hv_65
              refine lpW (σ := Int32 × Int64 × Int32) (I := fun n v H locs ls => L_X6_acresAfter_119 zX zG zS zT p1 p2 p3 p4 t_1 t_7 t_13 t_19 v11_29 n v.1 v.2.1 v.2.2 = some (v13_38, v14_39, v16_40) ∧ va_P D vwCl ((wcX aX_0 aR_0 aG_0 aS_0 aP_0 aN_0 aI_0 aT_0 zX) ++ ((wcG ci aG_0 aG_1 aG_2 aG_3 aG_4 zG) ++ ((wcS ci aS_0 aS_1 zS) ++ (wcT ci aT_0 zT)))) H ∧ va_D A ((wcX aX_0 aR_0 aG_0 aS_0 aP_0 aN_0 aI_0 aT_0 zX) ++ ((wcG ci aG_0 aG_1 aG_2 aG_3 aG_4 zG) ++ ((wcS ci aS_0 aS_1 zS) ++ (wcT ci aT_0 zT)))) ∧ va_S A s.heap H locs ∧ lv_has ls 19 [(0, .ref aX_0), (1, .int p1), (2, .int p2), (3, .int p3), (4, .int p4), (5, .long t_1), (7, .long t_7), (9, .int t_13), (10, .int t_19), (11, .long v11_29), (13, .int v.1), (14, .long v.2.1), (16, .int v.2.2)]) 3000 (v13_30, v14_31, v16_32) (fun _ _ _ _ h => no_none h.1) ⟨hF, hP, hD, hS, lv_sub hl [4, 5, 6, 7, 8, 9, 10, 11, 12, 3, 2, 1, 0] rfl⟩ ?_
              clear hF hP hD hS hl
              intro n ih_36 vq H locs ls hI
              obtain ⟨v13_33, v14_34, v16_35⟩ := vq
              obtain ⟨hF, hP, hD, hS, hl⟩ := hI
              have hP : va_P D vwCl ((wcX aX_0 aR_0 aG_0 aS_0 aP_0 aN_0 aI_0 aT_0 zX) ++ ((wcG ci aG_0 aG_1 aG_2 aG_3 aG_4 zG) ++ ((wcS ci aS_0 aS_1 zS) ++ (wcT ci aT_0 zT)))) H := hP
              have hD : va_D A ((wcX aX_0 aR_0 aG_0 aS_0 aP_0 aN_0 aI_0 aT_0 zX) ++ ((wcG ci aG_0 aG_1 aG_2 aG_3 aG_4 zG) ++ ((wcS ci aS_0 aS_1 zS) ++ (wcT ci aT_0 zT)))) := hD
              have hl : lv_has ls 19 [(0, .ref aX_0), (1, .int p1), (2, .int p2), (3, .int p3), (4, .int p4), (5, .long t_1), (7, .long t_7), (9, .int t_13), (10, .int t_19), (11, .long v11_29), (13, .int v13_33), (14, .long v14_34), (16, .int v16_35)] := hl
              replace hF : L_X6_acresAfter_119 zX zG zS zT p1 p2 p3 p4 t_1 t_7 t_13 t_19 v11_29 (n + 1) v13_33 v14_34 v16_35 = some (v13_38, v14_39, v16_40) := hF
              rw [L_X6_acresAfter_119] at hF
              refine lv_iload hx hb dX6_acresAfter_119 (lv_at hl 12 rfl) ?_
              refine lv_iload_n hx hb dX6_acresAfter_121 rfl (lv_at hl 2 rfl) ?_
              refine lv_icmp_gt (tgt := 201) hx hb dX6_acresAfter_122 (by decide) (fun c_41 => ?_) (fun c_41 => ?_)
              · replace hF := if_i c_41 hF
                obtain ⟨g_42, g_43, g_44⟩ : v13_33 = v13_38 ∧ v14_34 = v14_39 ∧ v16_35 = v16_40 := by have h9 := Option.some.inj hF; simpa only [Prod.mk.injEq] using h9
                subst g_42
                subst g_43
                subst g_44
                exact J_37 H locs ls ⟨hP, hD, hS, lv_sub hl [0, 1, 2, 3, 4, 5, 6, 7, 8, 9, 10, 11, 12] rfl⟩
              · replace hF := if_o c_41 hF
                refine lv_aload_n hx hb dX6_acresAfter_125 rfl (lv_at hl 0 rfl) ?_
                refine va_get (D := D) (ci := 6) (v := .ref aT_0) (C := RX6) (T := TX6) (N := 9) hx hb hts hin_RX6 hown hK hP 0 rfl rfl 6 (by decide) hk_8 (fun _ h9 => h9) rfl dX6_acresAfter_126 ?_
                refine lv_iload hx hb dX6_acresAfter_129 (lv_at hl 12 rfl) ?_
                replace hF := ald_i hF
                obtain ⟨hin_45, hF⟩ := hF
                refine va_lald hx hb hK hP 8 1 rfl rfl hin_45 dX6_acresAfter_131 ?_
                refine lv_topl (fun x_46 ex_46 => ?_)
                replace hF := nm_i hF ex_46
                refine lv_iload hx hb dX6_acresAfter_132 (lv_at hl 12 rfl) ?_
                refine lv_iload hx hb dX6_acresAfter_134 (lv_at hl 7 rfl) ?_
                replace hF := bnd hF
                obtain ⟨t_47, hv_50, hF⟩ := hF
                refine jn (P := fun H locs ls => va_P D vwCl ((wcX aX_0 aR_0 aG_0 aS_0 aP_0 aN_0 aI_0 aT_0 zX) ++ ((wcG ci aG_0 aG_1 aG_2 aG_3 aG_4 zG) ++ ((wcS ci aS_0 aS_1 zS) ++ (wcT ci aT_0 zT)))) H ∧ va_D A ((wcX aX_0 aR_0 aG_0 aS_0 aP_0 aN_0 aI_0 aT_0 zX) ++ ((wcG ci aG_0 aG_1 aG_2 aG_3 aG_4 zG) ++ ((wcS ci aS_0 aS_1 zS) ++ (wcT ci aT_0 zT)))) ∧ va_S A s.heap H locs ∧ lv_has ls 19 [(0, .ref aX_0), (1, .int p1), (2, .int p2), (3, .int p3), (4, .int p4), (5, .long t_1), (7, .long t_7), (9, .int t_13), (10, .int t_19), (11, .long v11_29), (13, .int v13_33), (14, .long v14_34), (16, .int v16_35)]) (pcJ := 145) (st := [.long t_47, .long x_46]) ?_ ?_
                · intro H locs ls hJ
                  obtain ⟨hP, hD, hS, hl⟩ := hJ
                  refine lv_lor hx hb dX6_acresAfter_145 ?_
                  refine lv_iload hx hb dX6_acresAfter_146 (lv_at hl 12 rfl) ?_
                  refine lv_iload hx hb dX6_acresAfter_148 (lv_at hl 8 rfl) ?_
                  replace hF := bnd hF
                  obtain ⟨t_51, hv_54, hF⟩ := hF
                  refine jn (P := fun H locs ls => va_P D vwCl ((wcX aX_0 aR_0 aG_0 aS_0 aP_0 aN_0 aI_0 aT_0 zX) ++ ((wcG ci aG_0 aG_1 aG_2 aG_3 aG_4 zG) ++ ((wcS ci aS_0 aS_1 zS) ++ (wcT ci aT_0 zT)))) H ∧ va_D A ((wcX aX_0 aR_0 aG_0 aS_0 aP_0 aN_0 aI_0 aT_0 zX) ++ ((wcG ci aG_0 aG_1 aG_2 aG_3 aG_4 zG) ++ ((wcS ci aS_0 aS_1 zS) ++ (wcT ci aT_0 zT)))) ∧ va_S A s.heap H locs ∧ lv_has ls 19 [(0, .ref aX_0), (1, .int p1), (2, .int p2), (3, .int p3), (4, .int p4), (5, .long t_1), (7, .long t_7), (9, .int t_13), (10, .int t_19), (11, .long v11_29), (13, .int v13_33), (14, .long v14_34), (16, .int v16_35)]) (pcJ := 159) (st := [.long t_51, .long (x_46 ||| t_47)]) ?_ ?_
                  · intro H locs ls hJ
                    obtain ⟨hP, hD, hS, hl⟩ := hJ
                    refine lv_lor hx hb dX6_acresAfter_159 ?_
                    refine lv_topl (fun v17_55 ev17_55 => ?_)
                    replace hF := nm_i hF ev17_55
                    refine lv_lstore (lv' := [(17, .long v17_55), (0, .ref aX_0), (1, .int p1), (2, .int p2), (3, .int p3), (4, .int p4), (5, .long t_1), (7, .long t_7), (9, .int t_13), (10, .int t_19), (11, .long v11_29), (13, .int v13_33), (14, .long v14_34), (16, .int v16_35)]) hx hb dX6_acresAfter_160 hl (by decide) rfl (fun ls hl => ?_)
                    refine lv_iload hx hb dX6_acresAfter_162 (lv_at hl 13 rfl) ?_
                    refine lv_iconst (v := 1) hx hb dX6_acresAfter_164 (by decide) ?_
                    refine lv_icmp_eq (tgt := 176) hx hb dX6_acresAfter_165 (by decide) (fun c_56 => ?_) (fun c_56 => ?_)
                    · replace hF := if_i c_56 hF
                      refine lv_aload_n hx hb dX6_acresAfter_176 rfl (lv_at hl 1 rfl) ?_
                      refine va_get (D := D) (ci := 6) (v := .ref aG_0) (C := RX6) (T := TX6) (N := 9) hx hb hts hin_RX6 hown hK hP 0 rfl rfl 1 (by decide) hk_0 (fun _ h9 => h9) rfl dX6_acresAfter_177 ?_
                      refine lv_lload hx hb dX6_acresAfter_180 (lv_at hl 0 rfl) ?_
                      refine lv_lload hx hb dX6_acresAfter_182 (lv_at hl 10 rfl) ?_
                      refine lv_iload hx hb dX6_acresAfter_184 (lv_at hl 11 rfl) ?_
                      replace hF := bnd hF
                      obtain ⟨r_57, hc_58, hF⟩ := hF
                      refine cl_Vi (As := [.long v17_55, .long v11_29, .int v13_33]) (rest := []) (wc := (wcG ci aG_0 aG_1 aG_2 aG_3 aG_4 zG)) (wr := ([0, 6, 7, 8].filterMap (fun i => ((wcX aX_0 aR_0 aG_0 aS_0 aP_0 aN_0 aI_0 aT_0 zX) ++ ((wcG ci aG_0 aG_1 aG_2 aG_3 aG_4 zG) ++ ((wcS ci aS_0 aS_1 zS) ++ (wcT ci aT_0 zT))))[i]?))) (w1 := (wcG ci aG_0 aG_1 aG_2 aG_3 aG_4 zG)) (wn := ((wcX aX_0 aR_0 aG_0 aS_0 aP_0 aN_0 aI_0 aT_0 zX) ++ ((wcG ci aG_0 aG_1 aG_2 aG_3 aG_4 zG) ++ ((wcS ci aS_0 aS_1 zS) ++ (wcT ci aT_0 zT))))) ⟨hx, hb, hml, hown, hts⟩ (cwV 3 hts gX6_acresAfter_X0_ownedAfterMarch rfl rfl rfl (by decide +kernel) ⟨Nat.le_of_ble_eq_true rfl, Nat.le_of_ble_eq_true rfl⟩) (c_X0_ownedAfterMarch l D ci aG_0 aG_1 aG_2 aG_3 aG_4 H.size zG v17_55 v11_29 v13_33 _ hc_58) hK hP hD hS hA [1, 2, 3, 4, 5] [0, 6, 7, 8] [0, 4, 5, 6, 7, 8, 1, 2, 3] rfl rfl rfl (by decide) 0 rfl rfl rfl rfl hl.1 (Nat.le_of_ble_eq_true rfl) dX6_acresAfter_186 (Nat.zero_le _) (Nat.zero_le _) (fun H locs hP hD hS => ?_)
                      have hP : va_P D vwCl ((wcX aX_0 aR_0 aG_0 aS_0 aP_0 aN_0 aI_0 aT_0 zX) ++ ((wcG ci aG_0 aG_1 aG_2 aG_3 aG_4 zG) ++ ((wcS ci aS_0 aS_1 zS) ++ (wcT ci aT_0 zT)))) H := hP
                      have hD : va_D A ((wcX aX_0 aR_0 aG_0 aS_0 aP_0 aN_0 aI_0 aT_0 zX) ++ ((wcG ci aG_0 aG_1 aG_2 aG_3 aG_4 zG) ++ ((wcS ci aS_0 aS_1 zS) ++ (wcT ci aT_0 zT)))) := hD
                      refine lv_istore (lv' := [(13, .int r_57), (17, .long v17_55), (0, .ref aX_0), (1, .int p1), (2, .int p2), (3, .int p3), (4, .int p4), (5, .long t_1), (7, .long t_7), (9, .int t_13), (10, .int t_19), (11, .long v11_29), (14, .long v14_34), (16, .int v16_35)]) hx hb dX6_acresAfter_189 hl (by decide) rfl (fun ls hl => ?_)
                      refine lv_lload hx hb dX6_acresAfter_191 (lv_at hl 1 rfl) ?_
                      refine lv_lstore (lv' := [(14, .long v17_55), (13, .int r_57), (17, .long v17_55), (0, .ref aX_0), (1, .int p1), (2, .int p2), (3, .int p3), (4, .int p4), (5, .long t_1), (7, .long t_7), (9, .int t_13), (10, .int t_19), (11, .long v11_29), (16, .int v16_35)]) hx hb dX6_acresAfter_193 hl (by decide) rfl (fun ls hl => ?_)
                      obtain ⟨v16_59, ev16_59⟩ : ∃ y : Int32, y = v16_35 + 1 := ⟨_, rfl⟩
                      replace hF := nm_i hF ev16_59
                      refine lv_iinc (v := v16_59) (lv' := [(16, .int v16_59), (14, .long v17_55), (13, .int r_57), (17, .long v17_55), (0, .ref aX_0), (1, .int p1), (2, .int p2), (3, .int p3), (4, .int p4), (5, .long t_1), (7, .long t_7), (9, .int t_13), (10, .int t_19), (11, .long v11_29)]) hx hb dX6_acresAfter_195 hl (k := 13) rfl (by rw [ev16_59]; rfl) (by decide) rfl (fun ls hl => ?_)
                      refine lv_goto (tgt := 119) hx hb dX6_acresAfter_198 (by decide) ?_
                      exact ih_36 (r_57, v17_55, v16_59) H locs ls ⟨hF, hP, hD, hS, lv_sub hl [4, 5, 6, 7, 8, 9, 10, 11, 12, 13, 2, 1, 0] rfl⟩
                    · replace hF := if_o c_56 hF
                      refine lv_lload hx hb dX6_acresAfter_168 (lv_at hl 0 rfl) ?_
                      refine lv_lload hx hb dX6_acresAfter_170 (lv_at hl 12 rfl) ?_
                      refine W.lcmp hx hb dX6_acresAfter_172 ?_
                      refine lv_if_eq (tgt := 191) hx hb dX6_acresAfter_173 (by decide) (fun c_60 => ?_) (fun c_60 => ?_)
                      · replace hF := if_i c_60 hF
                        refine lv_lload hx hb dX6_acresAfter_191 (lv_at hl 0 rfl) ?_
                        refine lv_lstore (lv' := [(14, .long v17_55), (17, .long v17_55), (0, .ref aX_0), (1, .int p1), (2, .int p2), (3, .int p3), (4, .int p4), (5, .long t_1), (7, .long t_7), (9, .int t_13), (10, .int t_19), (11, .long v11_29), (13, .int v13_33), (16, .int v16_35)]) hx hb dX6_acresAfter_193 hl (by decide) rfl (fun ls hl => ?_)
                        obtain ⟨v16_61, ev16_61⟩ : ∃ y : Int32, y = v16_35 + 1 := ⟨_, rfl⟩
                        replace hF := nm_i hF ev16_61
                        refine lv_iinc (v := v16_61) (lv' := [(16, .int v16_61), (14, .long v17_55), (17, .long v17_55), (0, .ref aX_0), (1, .int p1), (2, .int p2), (3, .int p3), (4, .int p4), (5, .long t_1), (7, .long t_7), (9, .int t_13), (10, .int t_19), (11, .long v11_29), (13, .int v13_33)]) hx hb dX6_acresAfter_195 hl (k := 13) rfl (by rw [ev16_61]; rfl) (by decide) rfl (fun ls hl => ?_)
                        refine lv_goto (tgt := 119) hx hb dX6_acresAfter_198 (by decide) ?_
                        exact ih_36 (v13_33, v17_55, v16_61) H locs ls ⟨hF, hP, hD, hS, lv_sub hl [3, 4, 5, 6, 7, 8, 9, 10, 11, 12, 13, 1, 0] rfl⟩
                      · replace hF := if_o c_60 hF
                        refine lv_aload_n hx hb dX6_acresAfter_176 rfl (lv_at hl 1 rfl) ?_
                        refine va_get (D := D) (ci := 6) (v := .ref aG_0) (C := RX6) (T := TX6) (N := 9) hx hb hts hin_RX6 hown hK hP 0 rfl rfl 1 (by decide) hk_0 (fun _ h9 => h9) rfl dX6_acresAfter_177 ?_
                        refine lv_lload hx hb dX6_acresAfter_180 (lv_at hl 0 rfl) ?_
                        refine lv_lload hx hb dX6_acresAfter_182 (lv_at hl 10 rfl) ?_
                        refine lv_iload hx hb dX6_acresAfter_184 (lv_at hl 11 rfl) ?_
                        replace hF := bnd hF
                        obtain ⟨r_62, hc_63, hF⟩ := hF
                        refine cl_Vi (As := [.long v17_55, .long v11_29, .int v13_33]) (rest := []) (wc := (wcG ci aG_0 aG_1 aG_2 aG_3 aG_4 zG)) (wr := ([0, 6, 7, 8].filterMap (fun i => ((wcX aX_0 aR_0 aG_0 aS_0 aP_0 aN_0 aI_0 aT_0 zX) ++ ((wcG ci aG_0 aG_1 aG_2 aG_3 aG_4 zG) ++ ((wcS ci aS_0 aS_1 zS) ++ (wcT ci aT_0 zT))))[i]?))) (w1 := (wcG ci aG_0 aG_1 aG_2 aG_3 aG_4 zG)) (wn := ((wcX aX_0 aR_0 aG_0 aS_0 aP_0 aN_0 aI_0 aT_0 zX) ++ ((wcG ci aG_0 aG_1 aG_2 aG_3 aG_4 zG) ++ ((wcS ci aS_0 aS_1 zS) ++ (wcT ci aT_0 zT))))) ⟨hx, hb, hml, hown, hts⟩ (cwV 3 hts gX6_acresAfter_X0_ownedAfterMarch rfl rfl rfl (by decide +kernel) ⟨Nat.le_of_ble_eq_true rfl, Nat.le_of_ble_eq_true rfl⟩) (c_X0_ownedAfterMarch l D ci aG_0 aG_1 aG_2 aG_3 aG_4 H.size zG v17_55 v11_29 v13_33 _ hc_63) hK hP hD hS hA [1, 2, 3, 4, 5] [0, 6, 7, 8] [0, 4, 5, 6, 7, 8, 1, 2, 3] rfl rfl rfl (by decide) 0 rfl rfl rfl rfl hl.1 (Nat.le_of_ble_eq_true rfl) dX6_acresAfter_186 (Nat.zero_le _) (Nat.zero_le _) (fun H locs hP hD hS => ?_)
                        have hP : va_P D vwCl ((wcX aX_0 aR_0 aG_0 aS_0 aP_0 aN_0 aI_0 aT_0 zX) ++ ((wcG ci aG_0 aG_1 aG_2 aG_3 aG_4 zG) ++ ((wcS ci aS_0 aS_1 zS) ++ (wcT ci aT_0 zT)))) H := hP
                        have hD : va_D A ((wcX aX_0 aR_0 aG_0 aS_0 aP_0 aN_0 aI_0 aT_0 zX) ++ ((wcG ci aG_0 aG_1 aG_2 aG_3 aG_4 zG) ++ ((wcS ci aS_0 aS_1 zS) ++ (wcT ci aT_0 zT)))) := hD
                        refine lv_istore (lv' := [(13, .int r_62), (17, .long v17_55), (0, .ref aX_0), (1, .int p1), (2, .int p2), (3, .int p3), (4, .int p4), (5, .long t_1), (7, .long t_7), (9, .int t_13), (10, .int t_19), (11, .long v11_29), (14, .long v14_34), (16, .int v16_35)]) hx hb dX6_acresAfter_189 hl (by decide) rfl (fun ls hl => ?_)
                        refine lv_lload hx hb dX6_acresAfter_191 (lv_at hl 1 rfl) ?_
                        refine lv_lstore (lv' := [(14, .long v17_55), (13, .int r_62), (17, .long v17_55), (0, .ref aX_0), (1, .int p1), (2, .int p2), (3, .int p3), (4, .int p4), (5, .long t_1), (7, .long t_7), (9, .int t_13), (10, .int t_19), (11, .long v11_29), (16, .int v16_35)]) hx hb dX6_acresAfter_193 hl (by decide) rfl (fun ls hl => ?_)
                        obtain ⟨v16_64, ev16_64⟩ : ∃ y : Int32, y = v16_35 + 1 := ⟨_, rfl⟩
                        replace hF := nm_i hF ev16_64
                        refine lv_iinc (v := v16_64) (lv' := [(16, .int v16_64), (14, .long v17_55), (13, .int r_62), (17, .long v17_55), (0, .ref aX_0), (1, .int p1), (2, .int p2), (3, .int p3), (4, .int p4), (5, .long t_1), (7, .long t_7), (9, .int t_13), (10, .int t_19), (11, .long v11_29)]) hx hb dX6_acresAfter_195 hl (k := 13) rfl (by rw [ev16_64]; rfl) (by decide) rfl (fun ls hl => ?_)
                        refine lv_goto (tgt := 119) hx hb dX6_acresAfter_198 (by decide) ?_
                        exact ih_36 (r_62, v17_55, v16_64) H locs ls ⟨hF, hP, hD, hS, lv_sub hl [4, 5, 6, 7, 8, 9, 10, 11, 12, 13, 2, 1, 0] rfl⟩
                  · intro J_52
                    clear hF
                    have hF := hv_54
                    refine lv_icmp_lt (tgt := 158) hx hb dX6_acresAfter_150 (by decide) (fun c_53 => ?_) (fun c_53 => ?_)
                    · replace hF := if_i c_53 hF
                      refine lv_lconst (v := 0) hx hb dX6_acresAfter_158 (by decide) ?_
                      obtain rfl := Option.some.inj hF
                      exact J_52 H locs ls ⟨hP, hD, hS, lv_sub hl [0, 1, 2, 3, 4, 5, 6, 7, 8, 9, 10, 11, 12] rfl⟩
                    · replace hF := if_o c_53 hF
                      refine lv_lload hx hb dX6_acresAfter_153 (lv_at hl 6 rfl) ?_
                      refine lv_goto (tgt := 159) hx hb dX6_acresAfter_155 (by decide) ?_
                      obtain rfl := Option.some.inj hF
                      exact J_52 H locs ls ⟨hP, hD, hS, lv_sub hl [0, 1, 2, 3, 4, 5, 6, 7, 8, 9, 10, 11, 12] rfl⟩
                · intro J_48
                  clear hF
                  have hF := hv_50
                  refine lv_icmp_lt (tgt := 144) hx hb dX6_acresAfter_136 (by decide) (fun c_49 => ?_) (fun c_49 => ?_)
                  · replace hF := if_i c_49 hF
                    refine lv_lconst (v := 0) hx hb dX6_acresAfter_144 (by decide) ?_
                    obtain rfl := Option.some.inj hF
                    exact J_48 H locs ls ⟨hP, hD, hS, lv_sub hl [0, 1, 2, 3, 4, 5, 6, 7, 8, 9, 10, 11, 12] rfl⟩
                  · replace hF := if_o c_49 hF
                    refine lv_lload hx hb dX6_acresAfter_139 (lv_at hl 5 rfl) ?_
                    refine lv_goto (tgt := 145) hx hb dX6_acresAfter_141 (by decide) ?_
                    obtain rfl := Option.some.inj hF
                    exact J_48 H locs ls ⟨hP, hD, hS, lv_sub hl [0, 1, 2, 3, 4, 5, 6, 7, 8, 9, 10, 11, 12] rfl⟩
          · intro J_26
            clear hF
            have hF := hv_28
            refine lv_icmp_ne (tgt := 99) hx hb dX6_acresAfter_91 (by decide) (fun c_27 => ?_) (fun c_27 => ?_)
            · replace hF := if_o c_27 hF
              refine lv_lload hx hb dX6_acresAfter_99 (lv_at hl 7 rfl) ?_
              obtain rfl := Option.some.inj hF
              exact J_26 H locs ls ⟨hP, hD, hS, lv_sub hl [1, 2, 3, 4, 5, 6, 7, 8, 0] rfl⟩
            · replace hF := if_i c_27 hF
              refine lv_lload hx hb dX6_acresAfter_94 (lv_at hl 6 rfl) ?_
              refine lv_goto (tgt := 101) hx hb dX6_acresAfter_96 (by decide) ?_
              obtain rfl := Option.some.inj hF
              exact J_26 H locs ls ⟨hP, hD, hS, lv_sub hl [1, 2, 3, 4, 5, 6, 7, 8, 0] rfl⟩
        · intro J_20
          clear hF
          have hF := hv_24
          refine lv_icmp_ne (tgt := 71) hx hb dX6_acresAfter_64 (by decide) (fun c_21 => ?_) (fun c_21 => ?_)
          · replace hF := if_o c_21 hF
            refine lv_aload_n hx hb dX6_acresAfter_71 rfl (lv_at hl 1 rfl) ?_
            refine va_get (D := D) (ci := 6) (v := .ref aG_0) (C := RX6) (T := TX6) (N := 9) hx hb hts hin_RX6 hown hK hP 0 rfl rfl 1 (by decide) hk_0 (fun _ h9 => h9) rfl dX6_acresAfter_72 ?_
            refine lv_iload hx hb dX6_acresAfter_75 (lv_at hl 5 rfl) ?_
            replace hF := bnd hF
            obtain ⟨r_22, hc_23, hF⟩ := hF
            refine cl_Vi (As := [.int p4]) (rest := []) (wc := (wcG ci aG_0 aG_1 aG_2 aG_3 aG_4 zG)) (wr := ([0, 6, 7, 8].filterMap (fun i => ((wcX aX_0 aR_0 aG_0 aS_0 aP_0 aN_0 aI_0 aT_0 zX) ++ ((wcG ci aG_0 aG_1 aG_2 aG_3 aG_4 zG) ++ ((wcS ci aS_0 aS_1 zS) ++ (wcT ci aT_0 zT))))[i]?))) (w1 := (wcG ci aG_0 aG_1 aG_2 aG_3 aG_4 zG)) (wn := ((wcX aX_0 aR_0 aG_0 aS_0 aP_0 aN_0 aI_0 aT_0 zX) ++ ((wcG ci aG_0 aG_1 aG_2 aG_3 aG_4 zG) ++ ((wcS ci aS_0 aS_1 zS) ++ (wcT ci aT_0 zT))))) ⟨hx, hb, hml, hown, hts⟩ (cwV 1 hts gX6_acresAfter_X0_ageWhenTall rfl rfl rfl (by decide +kernel) ⟨Nat.le_of_ble_eq_true rfl, Nat.le_of_ble_eq_true rfl⟩) (c_X0_ageWhenTall l D ci aG_0 aG_1 aG_2 aG_3 aG_4 H.size zG p4 _ hc_23) hK hP hD hS hA [1, 2, 3, 4, 5] [0, 6, 7, 8] [0, 4, 5, 6, 7, 8, 1, 2, 3] rfl rfl rfl (by decide) 0 rfl rfl rfl rfl hl.1 (Nat.le_of_ble_eq_true rfl) dX6_acresAfter_77 (Nat.zero_le _) (Nat.zero_le _) (fun H locs hP hD hS => ?_)
            have hP : va_P D vwCl ((wcX aX_0 aR_0 aG_0 aS_0 aP_0 aN_0 aI_0 aT_0 zX) ++ ((wcG ci aG_0 aG_1 aG_2 aG_3 aG_4 zG) ++ ((wcS ci aS_0 aS_1 zS) ++ (wcT ci aT_0 zT)))) H := hP
            have hD : va_D A ((wcX aX_0 aR_0 aG_0 aS_0 aP_0 aN_0 aI_0 aT_0 zX) ++ ((wcG ci aG_0 aG_1 aG_2 aG_3 aG_4 zG) ++ ((wcS ci aS_0 aS_1 zS) ++ (wcT ci aT_0 zT)))) := hD
            obtain rfl := Option.some.inj hF
            exact J_20 H locs ls ⟨hP, hD, hS, lv_sub hl [1, 2, 3, 4, 5, 6, 7, 0] rfl⟩
          · replace hF := if_i c_21 hF
            refine lv_iconst (v := 0) hx hb dX6_acresAfter_67 (by decide) ?_
            refine lv_goto (tgt := 80) hx hb dX6_acresAfter_68 (by decide) ?_
            obtain rfl := Option.some.inj hF
            exact J_20 H locs ls ⟨hP, hD, hS, lv_sub hl [1, 2, 3, 4, 5, 6, 7, 0] rfl⟩
      · intro J_14
        clear hF
        have hF := hv_18
        refine lv_icmp_ne (tgt := 51) hx hb dX6_acresAfter_44 (by decide) (fun c_15 => ?_) (fun c_15 => ?_)
        · replace hF := if_o c_15 hF
          refine lv_aload_n hx hb dX6_acresAfter_51 rfl (lv_at hl 1 rfl) ?_
          refine va_get (D := D) (ci := 6) (v := .ref aG_0) (C := RX6) (T := TX6) (N := 9) hx hb hts hin_RX6 hown hK hP 0 rfl rfl 1 (by decide) hk_0 (fun _ h9 => h9) rfl dX6_acresAfter_52 ?_
          refine lv_iload_n hx hb dX6_acresAfter_55 rfl (lv_at hl 4 rfl) ?_
          replace hF := bnd hF
          obtain ⟨r_16, hc_17, hF⟩ := hF
          refine cl_Vi (As := [.int p3]) (rest := []) (wc := (wcG ci aG_0 aG_1 aG_2 aG_3 aG_4 zG)) (wr := ([0, 6, 7, 8].filterMap (fun i => ((wcX aX_0 aR_0 aG_0 aS_0 aP_0 aN_0 aI_0 aT_0 zX) ++ ((wcG ci aG_0 aG_1 aG_2 aG_3 aG_4 zG) ++ ((wcS ci aS_0 aS_1 zS) ++ (wcT ci aT_0 zT))))[i]?))) (w1 := (wcG ci aG_0 aG_1 aG_2 aG_3 aG_4 zG)) (wn := ((wcX aX_0 aR_0 aG_0 aS_0 aP_0 aN_0 aI_0 aT_0 zX) ++ ((wcG ci aG_0 aG_1 aG_2 aG_3 aG_4 zG) ++ ((wcS ci aS_0 aS_1 zS) ++ (wcT ci aT_0 zT))))) ⟨hx, hb, hml, hown, hts⟩ (cwV 1 hts gX6_acresAfter_X0_ageWhenTall rfl rfl rfl (by decide +kernel) ⟨Nat.le_of_ble_eq_true rfl, Nat.le_of_ble_eq_true rfl⟩) (c_X0_ageWhenTall l D ci aG_0 aG_1 aG_2 aG_3 aG_4 H.size zG p3 _ hc_17) hK hP hD hS hA [1, 2, 3, 4, 5] [0, 6, 7, 8] [0, 4, 5, 6, 7, 8, 1, 2, 3] rfl rfl rfl (by decide) 0 rfl rfl rfl rfl hl.1 (Nat.le_of_ble_eq_true rfl) dX6_acresAfter_56 (Nat.zero_le _) (Nat.zero_le _) (fun H locs hP hD hS => ?_)
          have hP : va_P D vwCl ((wcX aX_0 aR_0 aG_0 aS_0 aP_0 aN_0 aI_0 aT_0 zX) ++ ((wcG ci aG_0 aG_1 aG_2 aG_3 aG_4 zG) ++ ((wcS ci aS_0 aS_1 zS) ++ (wcT ci aT_0 zT)))) H := hP
          have hD : va_D A ((wcX aX_0 aR_0 aG_0 aS_0 aP_0 aN_0 aI_0 aT_0 zX) ++ ((wcG ci aG_0 aG_1 aG_2 aG_3 aG_4 zG) ++ ((wcS ci aS_0 aS_1 zS) ++ (wcT ci aT_0 zT)))) := hD
          obtain rfl := Option.some.inj hF
          exact J_14 H locs ls ⟨hP, hD, hS, lv_sub hl [1, 2, 3, 4, 5, 6, 0] rfl⟩
        · replace hF := if_i c_15 hF
          refine lv_iconst (v := 0) hx hb dX6_acresAfter_47 (by decide) ?_
          refine lv_goto (tgt := 59) hx hb dX6_acresAfter_48 (by decide) ?_
          obtain rfl := Option.some.inj hF
          exact J_14 H locs ls ⟨hP, hD, hS, lv_sub hl [1, 2, 3, 4, 5, 6, 0] rfl⟩
    · intro J_8
      clear hF
      have hF := hv_12
      refine lv_icmp_ne (tgt := 30) hx hb dX6_acresAfter_23 (by decide) (fun c_9 => ?_) (fun c_9 => ?_)
      · replace hF := if_o c_9 hF
        refine lv_aload_n hx hb dX6_acresAfter_30 rfl (lv_at hl 1 rfl) ?_
        refine va_get (D := D) (ci := 6) (v := .ref aG_0) (C := RX6) (T := TX6) (N := 9) hx hb hts hin_RX6 hown hK hP 0 rfl rfl 1 (by decide) hk_0 (fun _ h9 => h9) rfl dX6_acresAfter_31 ?_
        refine va_get (D := D) (ci := 0) (v := .ref aG_4) (C := RX0) (T := TX0) (N := 13) hx hb hts hin_RX0 hown hK hP 1 rfl rfl 12 (by decide) hk_2 (fun _ h9 => h9) rfl dX6_acresAfter_34 ?_
        refine lv_iload hx hb dX6_acresAfter_37 (lv_at hl 5 rfl) ?_
        replace hF := ald_i hF
        obtain ⟨hin_10, hF⟩ := hF
        refine va_lald hx hb hK hP 5 1 rfl rfl hin_10 dX6_acresAfter_39 ?_
        refine lv_topl (fun x_11 ex_11 => ?_)
        replace hF := nm_i hF ex_11
        obtain rfl := Option.some.inj hF
        exact J_8 H locs ls ⟨hP, hD, hS, lv_sub hl [1, 2, 3, 4, 5, 0] rfl⟩
      · replace hF := if_i c_9 hF
        refine lv_lconst (v := 0) hx hb dX6_acresAfter_26 (by decide) ?_
        refine lv_goto (tgt := 40) hx hb dX6_acresAfter_27 (by decide) ?_
        obtain rfl := Option.some.inj hF
        exact J_8 H locs ls ⟨hP, hD, hS, lv_sub hl [1, 2, 3, 4, 5, 0] rfl⟩
  · intro J_2
    clear hF
    have hF := hv_6
    refine lv_icmp_ne (tgt := 9) hx hb dX6_acresAfter_2 (by decide) (fun c_3 => ?_) (fun c_3 => ?_)
    · replace hF := if_o c_3 hF
      refine lv_aload_n hx hb dX6_acresAfter_9 rfl (lv_at hl 0 rfl) ?_
      refine va_get (D := D) (ci := 6) (v := .ref aG_0) (C := RX6) (T := TX6) (N := 9) hx hb hts hin_RX6 hown hK hP 0 rfl rfl 1 (by decide) hk_0 (fun _ h9 => h9) rfl dX6_acresAfter_10 ?_
      refine va_get (D := D) (ci := 0) (v := .ref aG_4) (C := RX0) (T := TX0) (N := 13) hx hb hts hin_RX0 hown hK hP 1 rfl rfl 12 (by decide) hk_2 (fun _ h9 => h9) rfl dX6_acresAfter_13 ?_
      refine lv_iload_n hx hb dX6_acresAfter_16 rfl (lv_at hl 3 rfl) ?_
      replace hF := ald_i hF
      obtain ⟨hin_4, hF⟩ := hF
      refine va_lald hx hb hK hP 5 1 rfl rfl hin_4 dX6_acresAfter_17 ?_
      refine lv_topl (fun x_5 ex_5 => ?_)
      replace hF := nm_i hF ex_5
      obtain rfl := Option.some.inj hF
      exact J_2 H locs ls ⟨hP, hD, hS, lv_sub hl [0, 1, 2, 3, 4] rfl⟩
    · replace hF := if_i c_3 hF
      refine lv_lconst (v := 0) hx hb dX6_acresAfter_5 (by decide) ?_
      refine lv_goto (tgt := 18) hx hb dX6_acresAfter_6 (by decide) ?_
      obtain rfl := Option.some.inj hF
      exact J_2 H locs ls ⟨hP, hD, hS, lv_sub hl [0, 1, 2, 3, 4] rfl⟩
noncomputable def L_X6_acresAfterAnswer_13 (zX : XS) (zG : GS) (zS : SS) (zT : TS) (p1 : Int32) (p2 : Int32) (p3 : Int32) (p4 : Int64) : Nat → Int32 → Int32 → Option (Int32 × Int32)
  | 0, _, _ => none
  | n + 1, v6_4, v7_5 => if (zG.1 3) ≤ v7_5 then (some (v6_4, v7_5)) else (ald 40 zG.2.2.2 v7_5 fun x_14 => if (lg_cmp (p4 &&& x_14) 0) = 0 then (nm (v7_5 + 1) fun v7_16 => L_X6_acresAfterAnswer_13 zX zG zS zT p1 p2 p3 p4 n v6_4 v7_16) else ((f_X6_acresAfter zX zG zS zT p1 p2 p3 v7_5).bind fun r_17 => nm (imin v6_4 r_17) fun v6_19 => nm (v7_5 + 1) fun v7_20 => L_X6_acresAfterAnswer_13 zX zG zS zT p1 p2 p3 p4 n v6_19 v7_20))
noncomputable def f_X6_acresAfterAnswer (zX : XS) (zG : GS) (zS : SS) (zT : TS) (p1 : Int32) (p2 : Int32) (p3 : Int32) (p4 : Int64) : Option (Int32) := (f_X6_acresAfter zX zG zS zT p1 p2 p3 (-1 : Int32)).bind fun r_1 => nm (0 : Int32) fun v7_3 => (L_X6_acresAfterAnswer_13 zX zG zS zT p1 p2 p3 p4 3000 r_1 v7_3).bind fun q_22 => nm q_22.1 fun v6_8 => nm q_22.2 fun v7_9 => some v6_8
set_option maxHeartbeats 4000000 in
set_option maxRecDepth 100000 in
theorem c_X6_acresAfterAnswer (l : Launch) (D : va_G) (ci : Nat → ClassId) (aX_0 : Nat) (aR_0 : Nat) (aG_0 : Nat) (aS_0 : Nat) (aP_0 : Nat) (aN_0 : Nat) (aI_0 : Nat) (aT_0 : Nat) (aG_1 : Nat) (aG_2 : Nat) (aG_3 : Nat) (aG_4 : Nat) (aS_1 : Nat) (sz : Nat) (zX : XS) (zG : GS) (zS : SS) (zT : TS) (p1 : Int32) (p2 : Int32) (p3 : Int32) (p4 : Int64) (res : Int32) (hF : f_X6_acresAfterAnswer zX zG zS zT p1 p2 p3 p4 = some res) : CtI l yX6_acresAfterAnswer wsX6_acresAfterAnswer { frames := 4, cells := 0, slots := 0, locals := 121 } [.ref aX_0, .int p1, .int p2, .int p3, .long p4] D ci ((wcX aX_0 aR_0 aG_0 aS_0 aP_0 aN_0 aI_0 aT_0 zX) ++ ((wcG ci aG_0 aG_1 aG_2 aG_3 aG_4 zG) ++ ((wcS ci aS_0 aS_1 zS) ++ (wcT ci aT_0 zT)))) sz res ((wcX aX_0 aR_0 aG_0 aS_0 aP_0 aN_0 aI_0 aT_0 zX) ++ ((wcG ci aG_0 aG_1 aG_2 aG_3 aG_4 zG) ++ ((wcS ci aS_0 aS_1 zS) ++ (wcT ci aT_0 zT)))) := by
  refine Met.ofW (cc := cX6_acresAfterAnswer) (maxL := 8) (ret := (some .int)) (by decide) rfl ?_
  intro p e s m args below meth c s₁ B hml hv
  obtain ⟨rfl, hsz, hP, hK, hD0⟩ := hv
  have hx := B.exec
  have hb := B.bytes
  have hr := B.returns
  have hts := atoms_spec (ws := wsX6_acresAfterAnswer) B.pre
  have hown : s.vm.findClass RX6 = some m.cls := findClass_of_methodNamed B.named
  have hlocks := B.notSynchronized
  subst hsz
  have hD := hD0.self (sz := s.heap.size)
  generalize hAe : va_A ((wcX aX_0 aR_0 aG_0 aS_0 aP_0 aN_0 aI_0 aT_0 zX) ++ ((wcG ci aG_0 aG_1 aG_2 aG_3 aG_4 zG) ++ ((wcS ci aS_0 aS_1 zS) ++ (wcT ci aT_0 zT)))) s.heap.size = A at hD ⊢
  have hA : ∀ q : Nat, s.heap.size ≤ q → A q := fun q h => by rw [← hAe]; exact Or.inr h
  clear hD0 hAe
  have hl := lv_entry ([.ref aX_0, .int p1, .int p2, .int p3, .long p4]) (n := 8) (Nat.le_of_ble_eq_true rfl)
  rw [lg_entry_eq]
  generalize (lg_sl ([.ref aX_0, .int p1, .int p2, .int p3, .long p4]) ++ List.replicate (8 - (lg_sl ([.ref aX_0, .int p1, .int p2, .int p3, .long p4])).length) Slot.unset).toArray = ls at hl ⊢
  have hl : lv_has ls 8 [(0, .ref aX_0), (1, .int p1), (2, .int p2), (3, .int p3), (4, .long p4)] := hl
  have hP : va_P D vwCl ((wcX aX_0 aR_0 aG_0 aS_0 aP_0 aN_0 aI_0 aT_0 zX) ++ ((wcG ci aG_0 aG_1 aG_2 aG_3 aG_4 zG) ++ ((wcS ci aS_0 aS_1 zS) ++ (wcT ci aT_0 zT)))) s.heap := hP
  generalize hH0 : s.heap = H at hP ⊢
  have hS : va_S A s.heap H [] := by rw [← hH0]; exact va_S.rf
  clear hH0
  generalize ([] : List Loc) = locs at hS ⊢
  have hk_0 := hts (.fieldLink RX6 19 "HedgeWar" "ground" "LHedgeWar$Ground;") (by decide +kernel)
  have hin_RX6 : ∀ w ∈ wsX60, w ∈ wsX6_acresAfterAnswer := by decide +kernel
  have hk_2 := hts (.fieldLink RX6 106 "HedgeWar$Ground" "edges" "I") (by decide +kernel)
  have hin_RX0 : ∀ w ∈ wsX00, w ∈ wsX6_acresAfterAnswer := by decide +kernel
  have hk_4 := hts (.fieldLink RX6 171 "HedgeWar$Ground" "places" "[J") (by decide +kernel)
  have hk_5 := hts (.methodLink RX6 313 Lib.Math.min.name) (by decide +kernel)
  have hk_6 := hts (.static Lib.Math.min.name) (by decide +kernel)
  have hk_7 := hts (.initialized "java/lang/Math") (by decide +kernel)
  have hk_8 := hts (.code Lib.Math.min.name Lib.Math.min.code 2 (some .int)) (by decide +kernel)
  unfold f_X6_acresAfterAnswer at hF
  refine lv_aload_n hx hb dX6_acresAfterAnswer_0 rfl (lv_at hl 0 rfl) ?_
  refine lv_iload_n hx hb dX6_acresAfterAnswer_1 rfl (lv_at hl 1 rfl) ?_
  refine lv_iload_n hx hb dX6_acresAfterAnswer_2 rfl (lv_at hl 2 rfl) ?_
  refine lv_iload_n hx hb dX6_acresAfterAnswer_3 rfl (lv_at hl 3 rfl) ?_
  refine lv_iconst (v := (-1)) hx hb dX6_acresAfterAnswer_4 (by decide) ?_
  replace hF := bnd hF
  obtain ⟨r_1, hc_2, hF⟩ := hF
  refine cl_Vi0 (As := [.int p1, .int p2, .int p3, .int (-1)]) (rest := []) ⟨hx, hb, hml, hown, hts⟩ (cwV 4 hts gX6_acresAfterAnswer_X6_acresAfter rfl rfl rfl (by decide +kernel) ⟨Nat.le_of_ble_eq_true rfl, Nat.le_of_ble_eq_true rfl⟩) (c_X6_acresAfter l D ci aX_0 aR_0 aG_0 aS_0 aP_0 aN_0 aI_0 aT_0 aG_1 aG_2 aG_3 aG_4 aS_1 H.size zX zG zS zT p1 p2 p3 (-1 : Int32) _ hc_2) hK hP hD hS hA 0 rfl rfl rfl rfl hl.1 (Nat.le_of_ble_eq_true rfl) dX6_acresAfterAnswer_5 (Nat.zero_le _) (Nat.zero_le _) (fun H locs hP hD hS => ?_)
  have hP : va_P D vwCl ((wcX aX_0 aR_0 aG_0 aS_0 aP_0 aN_0 aI_0 aT_0 zX) ++ ((wcG ci aG_0 aG_1 aG_2 aG_3 aG_4 zG) ++ ((wcS ci aS_0 aS_1 zS) ++ (wcT ci aT_0 zT)))) H := hP
  have hD : va_D A ((wcX aX_0 aR_0 aG_0 aS_0 aP_0 aN_0 aI_0 aT_0 zX) ++ ((wcG ci aG_0 aG_1 aG_2 aG_3 aG_4 zG) ++ ((wcS ci aS_0 aS_1 zS) ++ (wcT ci aT_0 zT)))) := hD
  refine lv_istore (lv' := [(6, .int r_1), (0, .ref aX_0), (1, .int p1), (2, .int p2), (3, .int p3), (4, .long p4)]) hx hb dX6_acresAfterAnswer_8 hl (by decide) rfl (fun ls hl => ?_)
  refine lv_iconst (v := 0) hx hb dX6_acresAfterAnswer_10 (by decide) ?_
  refine lv_topi (fun v7_3 ev7_3 => ?_)
  replace hF := nm_i hF ev7_3
  refine lv_istore (lv' := [(7, .int v7_3), (6, .int r_1), (0, .ref aX_0), (1, .int p1), (2, .int p2), (3, .int p3), (4, .long p4)]) hx hb dX6_acresAfterAnswer_11 hl (by decide) rfl (fun ls hl => ?_)
  replace hF := bnd hF
  obtain ⟨q_22, hv_21, hF⟩ := hF
  obtain ⟨v6_8, ev6_8⟩ : ∃ y : Int32, y = q_22.1 := ⟨_, rfl⟩
  replace hF := nm_i hF ev6_8
  obtain ⟨v7_9, ev7_9⟩ : ∃ y : Int32, y = q_22.2 := ⟨_, rfl⟩
  replace hF := nm_i hF ev7_9
  obtain rfl : q_22 = (v6_8, v7_9) := by rw [ev6_8, ev7_9]
  clear ev6_8
  clear ev7_9
  refine jn (P := fun H locs ls => va_P D vwCl ((wcX aX_0 aR_0 aG_0 aS_0 aP_0 aN_0 aI_0 aT_0 zX) ++ ((wcG ci aG_0 aG_1 aG_2 aG_3 aG_4 zG) ++ ((wcS ci aS_0 aS_1 zS) ++ (wcT ci aT_0 zT)))) H ∧ va_D A ((wcX aX_0 aR_0 aG_0 aS_0 aP_0 aN_0 aI_0 aT_0 zX) ++ ((wcG ci aG_0 aG_1 aG_2 aG_3 aG_4 zG) ++ ((wcS ci aS_0 aS_1 zS) ++ (wcT ci aT_0 zT)))) ∧ va_S A s.heap H locs ∧ lv_has ls 8 [(0, .ref aX_0), (1, .int p1), (2, .int p2), (3, .int p3), (4, .long p4), (6, .int v6_8), (7, .int v7_9)]) (pcJ := 65) (st := []) ?_ ?_
  · intro H locs ls hJ
    obtain ⟨hP, hD, hS, hl⟩ := hJ
    refine lv_iload hx hb dX6_acresAfterAnswer_65 (lv_at hl 5 rfl) ?_
    obtain rfl := Option.some.inj hF
    exact W.iret (v := v6_8) hx hb hr (fun t ht hW => ⟨⟨_, (), rfl, rfl, by rw [ht]; exact hP, va_K.moved hW.alike hK, hD⟩, hS.F ht⟩) hS.2.2 dX6_acresAfterAnswer_67
  · intro J_7
    clear hF
    have hF := hv_21
    refine lpW (σ := Int32 × Int32) (I := fun n v H locs ls => L_X6_acresAfterAnswer_13 zX zG zS zT p1 p2 p3 p4 n v.1 v.2 = some (v6_8, v7_9) ∧ va_P D vwCl ((wcX aX_0 aR_0 aG_0 aS_0 aP_0 aN_0 aI_0 aT_0 zX) ++ ((wcG ci aG_0 aG_1 aG_2 aG_3 aG_4 zG) ++ ((wcS ci aS_0 aS_1 zS) ++ (wcT ci aT_0 zT)))) H ∧ va_D A ((wcX aX_0 aR_0 aG_0 aS_0 aP_0 aN_0 aI_0 aT_0 zX) ++ ((wcG ci aG_0 aG_1 aG_2 aG_3 aG_4 zG) ++ ((wcS ci aS_0 aS_1 zS) ++ (wcT ci aT_0 zT)))) ∧ va_S A s.heap H locs ∧ lv_has ls 8 [(0, .ref aX_0), (1, .int p1), (2, .int p2), (3, .int p3), (4, .long p4), (6, .int v.1), (7, .int v.2)]) 3000 (r_1, v7_3) (fun _ _ _ _ h => no_none h.1) ⟨hF, hP, hD, hS, lv_sub hl [2, 3, 4, 5, 6, 1, 0] rfl⟩ ?_
    clear hF hP hD hS hl
    intro n ih_6 vq H locs ls hI
    obtain ⟨v6_4, v7_5⟩ := vq
    obtain ⟨hF, hP, hD, hS, hl⟩ := hI
    have hP : va_P D vwCl ((wcX aX_0 aR_0 aG_0 aS_0 aP_0 aN_0 aI_0 aT_0 zX) ++ ((wcG ci aG_0 aG_1 aG_2 aG_3 aG_4 zG) ++ ((wcS ci aS_0 aS_1 zS) ++ (wcT ci aT_0 zT)))) H := hP
    have hD : va_D A ((wcX aX_0 aR_0 aG_0 aS_0 aP_0 aN_0 aI_0 aT_0 zX) ++ ((wcG ci aG_0 aG_1 aG_2 aG_3 aG_4 zG) ++ ((wcS ci aS_0 aS_1 zS) ++ (wcT ci aT_0 zT)))) := hD
    have hl : lv_has ls 8 [(0, .ref aX_0), (1, .int p1), (2, .int p2), (3, .int p3), (4, .long p4), (6, .int v6_4), (7, .int v7_5)] := hl
    replace hF : L_X6_acresAfterAnswer_13 zX zG zS zT p1 p2 p3 p4 (n + 1) v6_4 v7_5 = some (v6_8, v7_9) := hF
    rw [L_X6_acresAfterAnswer_13] at hF
    refine lv_iload hx hb dX6_acresAfterAnswer_13 (lv_at hl 6 rfl) ?_
    refine lv_aload_n hx hb dX6_acresAfterAnswer_15 rfl (lv_at hl 0 rfl) ?_
    refine va_get (D := D) (ci := 6) (v := .ref aG_0) (C := RX6) (T := TX6) (N := 9) hx hb hts hin_RX6 hown hK hP 0 rfl rfl 1 (by decide) hk_0 (fun _ h9 => h9) rfl dX6_acresAfterAnswer_16 ?_
    refine va_get (D := D) (ci := 0) (v := .int (zG.1 3)) (C := RX0) (T := TX0) (N := 13) hx hb hts hin_RX0 hown hK hP 1 rfl rfl 3 (by decide) hk_2 (fun _ h9 => h9) rfl dX6_acresAfterAnswer_19 ?_
    refine lv_icmp_ge (tgt := 65) hx hb dX6_acresAfterAnswer_22 (by decide) (fun c_10 => ?_) (fun c_10 => ?_)
    · replace hF := if_i c_10 hF
      obtain ⟨g_11, g_12⟩ : v6_4 = v6_8 ∧ v7_5 = v7_9 := by have h9 := Option.some.inj hF; simpa only [Prod.mk.injEq] using h9
      subst g_11
      subst g_12
      exact J_7 H locs ls ⟨hP, hD, hS, lv_sub hl [0, 1, 2, 3, 4, 5, 6] rfl⟩
    · replace hF := if_o c_10 hF
      refine lv_lload hx hb dX6_acresAfterAnswer_25 (lv_at hl 4 rfl) ?_
      refine lv_aload_n hx hb dX6_acresAfterAnswer_27 rfl (lv_at hl 0 rfl) ?_
      refine va_get (D := D) (ci := 6) (v := .ref aG_0) (C := RX6) (T := TX6) (N := 9) hx hb hts hin_RX6 hown hK hP 0 rfl rfl 1 (by decide) hk_0 (fun _ h9 => h9) rfl dX6_acresAfterAnswer_28 ?_
      refine va_get (D := D) (ci := 0) (v := .ref aG_4) (C := RX0) (T := TX0) (N := 13) hx hb hts hin_RX0 hown hK hP 1 rfl rfl 12 (by decide) hk_4 (fun _ h9 => h9) rfl dX6_acresAfterAnswer_31 ?_
      refine lv_iload hx hb dX6_acresAfterAnswer_34 (lv_at hl 6 rfl) ?_
      replace hF := ald_i hF
      obtain ⟨hin_13, hF⟩ := hF
      refine va_lald hx hb hK hP 5 1 rfl rfl hin_13 dX6_acresAfterAnswer_36 ?_
      refine lv_topl (fun x_14 ex_14 => ?_)
      replace hF := nm_i hF ex_14
      refine lv_land hx hb dX6_acresAfterAnswer_37 ?_
      refine lv_lconst (v := 0) hx hb dX6_acresAfterAnswer_38 (by decide) ?_
      refine W.lcmp hx hb dX6_acresAfterAnswer_39 ?_
      refine lv_if_eq (tgt := 59) hx hb dX6_acresAfterAnswer_40 (by decide) (fun c_15 => ?_) (fun c_15 => ?_)
      · replace hF := if_i c_15 hF
        obtain ⟨v7_16, ev7_16⟩ : ∃ y : Int32, y = v7_5 + 1 := ⟨_, rfl⟩
        replace hF := nm_i hF ev7_16
        refine lv_iinc (v := v7_16) (lv' := [(7, .int v7_16), (0, .ref aX_0), (1, .int p1), (2, .int p2), (3, .int p3), (4, .long p4), (6, .int v6_4)]) hx hb dX6_acresAfterAnswer_59 hl (k := 6) rfl (by rw [ev7_16]; rfl) (by decide) rfl (fun ls hl => ?_)
        refine lv_goto (tgt := 13) hx hb dX6_acresAfterAnswer_62 (by decide) ?_
        exact ih_6 (v6_4, v7_16) H locs ls ⟨hF, hP, hD, hS, lv_sub hl [1, 2, 3, 4, 5, 6, 0] rfl⟩
      · replace hF := if_o c_15 hF
        refine lv_iload hx hb dX6_acresAfterAnswer_43 (lv_at hl 5 rfl) ?_
        refine lv_aload_n hx hb dX6_acresAfterAnswer_45 rfl (lv_at hl 0 rfl) ?_
        refine lv_iload_n hx hb dX6_acresAfterAnswer_46 rfl (lv_at hl 1 rfl) ?_
        refine lv_iload_n hx hb dX6_acresAfterAnswer_47 rfl (lv_at hl 2 rfl) ?_
        refine lv_iload_n hx hb dX6_acresAfterAnswer_48 rfl (lv_at hl 3 rfl) ?_
        refine lv_iload hx hb dX6_acresAfterAnswer_49 (lv_at hl 6 rfl) ?_
        replace hF := bnd hF
        obtain ⟨r_17, hc_18, hF⟩ := hF
        refine cl_Vi0 (As := [.int p1, .int p2, .int p3, .int v7_5]) (rest := [.int v6_4]) ⟨hx, hb, hml, hown, hts⟩ (cwV 4 hts gX6_acresAfterAnswer_X6_acresAfter rfl rfl rfl (by decide +kernel) ⟨Nat.le_of_ble_eq_true rfl, Nat.le_of_ble_eq_true rfl⟩) (c_X6_acresAfter l D ci aX_0 aR_0 aG_0 aS_0 aP_0 aN_0 aI_0 aT_0 aG_1 aG_2 aG_3 aG_4 aS_1 H.size zX zG zS zT p1 p2 p3 v7_5 _ hc_18) hK hP hD hS hA 0 rfl rfl rfl rfl hl.1 (Nat.le_of_ble_eq_true rfl) dX6_acresAfterAnswer_51 (Nat.zero_le _) (Nat.zero_le _) (fun H locs hP hD hS => ?_)
        have hP : va_P D vwCl ((wcX aX_0 aR_0 aG_0 aS_0 aP_0 aN_0 aI_0 aT_0 zX) ++ ((wcG ci aG_0 aG_1 aG_2 aG_3 aG_4 zG) ++ ((wcS ci aS_0 aS_1 zS) ++ (wcT ci aT_0 zT)))) H := hP
        have hD : va_D A ((wcX aX_0 aR_0 aG_0 aS_0 aP_0 aN_0 aI_0 aT_0 zX) ++ ((wcG ci aG_0 aG_1 aG_2 aG_3 aG_4 zG) ++ ((wcS ci aS_0 aS_1 zS) ++ (wcT ci aT_0 zT)))) := hD
        refine va_mmin hx hb (hml.trans hl.1.symm) hown hk_5 hk_6 hk_7 hk_8 (Nat.le_of_ble_eq_true rfl) (Nat.le_of_ble_eq_true rfl) (Nat.zero_le _) (Nat.zero_le _) dX6_acresAfterAnswer_54 ?_
        refine W.eq (g2 := F0 m 57 ls [.int (imin v6_4 r_17)]) rfl ?_
        refine lv_topi (fun v6_19 ev6_19 => ?_)
        replace hF := nm_i hF ev6_19
        refine lv_istore (lv' := [(6, .int v6_19), (0, .ref aX_0), (1, .int p1), (2, .int p2), (3, .int p3), (4, .long p4), (7, .int v7_5)]) hx hb dX6_acresAfterAnswer_57 hl (by decide) rfl (fun ls hl => ?_)
        obtain ⟨v7_20, ev7_20⟩ : ∃ y : Int32, y = v7_5 + 1 := ⟨_, rfl⟩
        replace hF := nm_i hF ev7_20
        refine lv_iinc (v := v7_20) (lv' := [(7, .int v7_20), (6, .int v6_19), (0, .ref aX_0), (1, .int p1), (2, .int p2), (3, .int p3), (4, .long p4)]) hx hb dX6_acresAfterAnswer_59 hl (k := 6) rfl (by rw [ev7_20]; rfl) (by decide) rfl (fun ls hl => ?_)
        refine lv_goto (tgt := 13) hx hb dX6_acresAfterAnswer_62 (by decide) ?_
        exact ih_6 (v6_19, v7_20) H locs ls ⟨hF, hP, hD, hS, lv_sub hl [2, 3, 4, 5, 6, 1, 0] rfl⟩
noncomputable def L_X6_turns_39 (zX : XS) (zG : GS) (zS : SS) (p1 : Int32) (p2 : Int32) : Nat → Int32 → TS → Option (Int32 × TS)
  | 0, _, _ => none
  | n + 1, v3_8, zT_9 => if p2 < v3_8 then (some (v3_8, zT_9)) else ((f_X5_tallHedges zG zS v3_8).bind fun r_17 => nm (r_17 &&& ((zS.1 2) ^^^ (-1))) fun y_20 => ast 7 v3_8 <| nm ((vp_updL zT_9 (Int32.toNatClampNeg v3_8) y_20) : TS) fun zT_21 => nm (v3_8 + 1) fun v3_22 => L_X6_turns_39 zX zG zS p1 p2 n v3_22 zT_21)
noncomputable def L_X6_turns_99 (zX : XS) (zG : GS) (zS : SS) (zT_13 : TS) (p1 : Int32) (p2 : Int32) (r_24 : Int64) : Nat → Int32 → Int32 → Option (Int32 × Int32)
  | 0, _, _ => none
  | n + 1, v5_29, v6_30 => if (zG.1 3) ≤ v6_30 then (some (v5_29, v6_30)) else (ald 40 zG.2.2.2 v6_30 fun x_39 => if (lg_cmp (r_24 &&& x_39) 0) = 0 then (nm (v6_30 + 1) fun v6_41 => L_X6_turns_99 zX zG zS zT_13 p1 p2 r_24 n v5_29 v6_41) else (ald 40 zG.2.2.2 v6_30 fun x_43 => (f_X6_acresAfterAnswer zX zG zS zT_13 p1 p2 v6_30 (r_24 &&& (x_43 ^^^ (-1)))).bind fun r_44 => nm (imax v5_29 r_44) fun v5_46 => nm (v6_30 + 1) fun v6_47 => L_X6_turns_99 zX zG zS zT_13 p1 p2 r_24 n v5_46 v6_47))
noncomputable def f_X6_turns (zX : XS) (zG : GS) (zS : SS) (zT : TS) (p1 : Int32) (p2 : Int32) : Option (Int32 × TS) := (f_X6_isEstate p1).bind fun r_1 => if r_1 = 0 then (some ((-1000000001 : Int32), zT)) else (if p2 < 1 then (some ((-1000000002 : Int32), zT)) else (if p2 ≤ 6 then (if (zG.1 2) = 0 then (some ((-1000000003 : Int32), zT)) else (nm (1 : Int32) fun v3_7 => (L_X6_turns_39 zX zG zS p1 p2 3000 v3_7 zT).bind fun q_50 => nm q_50.1 fun v3_12 => nm q_50.2 fun zT_13 => (f_X6_slipsTallIn zX zG zS p2).bind fun r_24 => (f_X6_acresAfterAnswer zX zG zS zT_13 p1 p2 (-1 : Int32) r_24).bind fun r_26 => nm (0 : Int32) fun v6_28 => (L_X6_turns_99 zX zG zS zT_13 p1 p2 r_24 3000 r_26 v6_28).bind fun q_49 => nm q_49.1 fun v5_33 => nm q_49.2 fun v6_34 => some (v5_33, zT_13))) else (some ((-1000000002 : Int32), zT))))
set_option maxHeartbeats 4000000 in
set_option maxRecDepth 100000 in
theorem c_X6_turns (l : Launch) (D : va_G) (ci : Nat → ClassId) (aX_0 : Nat) (aR_0 : Nat) (aG_0 : Nat) (aS_0 : Nat) (aP_0 : Nat) (aN_0 : Nat) (aI_0 : Nat) (aT_0 : Nat) (aG_1 : Nat) (aG_2 : Nat) (aG_3 : Nat) (aG_4 : Nat) (aS_1 : Nat) (sz : Nat) (zX : XS) (zG : GS) (zS : SS) (zT : TS) (p1 : Int32) (p2 : Int32) (res : Int32 × TS) (hF : f_X6_turns zX zG zS zT p1 p2 = some res) : CtI l yX6_turns wsX6_turns { frames := 5, cells := 0, slots := 0, locals := 148 } [.ref aX_0, .int p1, .int p2] D ci ((wcX aX_0 aR_0 aG_0 aS_0 aP_0 aN_0 aI_0 aT_0 zX) ++ ((wcG ci aG_0 aG_1 aG_2 aG_3 aG_4 zG) ++ ((wcS ci aS_0 aS_1 zS) ++ (wcT ci aT_0 zT)))) sz res.1 ((wcX aX_0 aR_0 aG_0 aS_0 aP_0 aN_0 aI_0 aT_0 zX) ++ ((wcG ci aG_0 aG_1 aG_2 aG_3 aG_4 zG) ++ ((wcS ci aS_0 aS_1 zS) ++ (wcT ci aT_0 res.2)))) := by
  refine Met.ofW (cc := cX6_turns) (maxL := 7) (ret := (some .int)) (by decide) rfl ?_
  intro p e s m args below meth c s₁ B hml hv
  obtain ⟨rfl, hsz, hP, hK, hD0⟩ := hv
  have hx := B.exec
  have hb := B.bytes
  have hr := B.returns
  have hts := atoms_spec (ws := wsX6_turns) B.pre
  have hown : s.vm.findClass RX6 = some m.cls := findClass_of_methodNamed B.named
  have hlocks := B.notSynchronized
  subst hsz
  have hD := hD0.self (sz := s.heap.size)
  generalize hAe : va_A ((wcX aX_0 aR_0 aG_0 aS_0 aP_0 aN_0 aI_0 aT_0 zX) ++ ((wcG ci aG_0 aG_1 aG_2 aG_3 aG_4 zG) ++ ((wcS ci aS_0 aS_1 zS) ++ (wcT ci aT_0 zT)))) s.heap.size = A at hD ⊢
  have hA : ∀ q : Nat, s.heap.size ≤ q → A q := fun q h => by rw [← hAe]; exact Or.inr h
  clear hD0 hAe
  have hl := lv_entry ([.ref aX_0, .int p1, .int p2]) (n := 7) (Nat.le_of_ble_eq_true rfl)
  rw [lg_entry_eq]
  generalize (lg_sl ([.ref aX_0, .int p1, .int p2]) ++ List.replicate (7 - (lg_sl ([.ref aX_0, .int p1, .int p2])).length) Slot.unset).toArray = ls at hl ⊢
  have hl : lv_has ls 7 [(0, .ref aX_0), (1, .int p1), (2, .int p2)] := hl
  have hP : va_P D vwCl ((wcX aX_0 aR_0 aG_0 aS_0 aP_0 aN_0 aI_0 aT_0 zX) ++ ((wcG ci aG_0 aG_1 aG_2 aG_3 aG_4 zG) ++ ((wcS ci aS_0 aS_1 zS) ++ (wcT ci aT_0 zT)))) s.heap := hP
  generalize hH0 : s.heap = H at hP ⊢
  have hS : va_S A s.heap H [] := by rw [← hH0]; exact va_S.rf
  clear hH0
  generalize ([] : List Loc) = locs at hS ⊢
  have hk_0 := hts (.constant RX6 62 (-1000000002)) (by decide +kernel)
  have hk_1 := hts (.fieldLink RX6 19 "HedgeWar" "ground" "LHedgeWar$Ground;") (by decide +kernel)
  have hin_RX6 : ∀ w ∈ wsX60, w ∈ wsX6_turns := by decide +kernel
  have hk_3 := hts (.fieldLink RX6 97 "HedgeWar$Ground" "fields" "I") (by decide +kernel)
  have hin_RX0 : ∀ w ∈ wsX00, w ∈ wsX6_turns := by decide +kernel
  have hk_5 := hts (.fieldLink RX6 50 "HedgeWar" "shutThen" "[J") (by decide +kernel)
  have hk_6 := hts (.fieldLink RX6 26 "HedgeWar" "now" "LHedgeWar$Stand;") (by decide +kernel)
  have hk_7 := hts (.fieldLink RX6 191 "HedgeWar$Stand" "gates" "J") (by decide +kernel)
  have hin_RX5 : ∀ w ∈ wsX50, w ∈ wsX6_turns := by decide +kernel
  have hk_9 := hts (.constantLong RX6 216 (-1)) (by decide +kernel)
  have hk_10 := hts (.fieldLink RX6 106 "HedgeWar$Ground" "edges" "I") (by decide +kernel)
  have hk_11 := hts (.fieldLink RX6 171 "HedgeWar$Ground" "places" "[J") (by decide +kernel)
  have hk_12 := hts (.methodLink RX6 243 Lib.Math.max.name) (by decide +kernel)
  have hk_13 := hts (.static Lib.Math.max.name) (by decide +kernel)
  have hk_14 := hts (.initialized "java/lang/Math") (by decide +kernel)
  have hk_15 := hts (.code Lib.Math.max.name Lib.Math.max.code 2 (some .int)) (by decide +kernel)
  have hk_16 := hts (.constant RX6 204 (-1000000003)) (by decide +kernel)
  have hk_17 := hts (.constant RX6 147 (-1000000001)) (by decide +kernel)
  unfold f_X6_turns at hF
  refine lv_iload_n hx hb dX6_turns_0 rfl (lv_at hl 1 rfl) ?_
  replace hF := bnd hF
  obtain ⟨r_1, hc_2, hF⟩ := hF
  refine cl_Sie (As := [.int p1]) (rest := []) ⟨hx, hb, hml, hown, hts⟩ (va_cwS 1 hts gX6_turns_X6_isEstate rfl rfl rfl (by decide +kernel) ⟨Nat.le_of_ble_eq_true rfl, Nat.le_of_ble_eq_true rfl⟩) (c_X6_isEstate l D ci  H.size p1 _ hc_2) hK hP hD hS hA rfl rfl hl.1 (Nat.le_of_ble_eq_true rfl) dX6_turns_1 (Nat.zero_le _) (Nat.zero_le _) (fun H locs hP hD hS => ?_)
  have hP : va_P D vwCl ((wcX aX_0 aR_0 aG_0 aS_0 aP_0 aN_0 aI_0 aT_0 zX) ++ ((wcG ci aG_0 aG_1 aG_2 aG_3 aG_4 zG) ++ ((wcS ci aS_0 aS_1 zS) ++ (wcT ci aT_0 zT)))) H := hP
  have hD : va_D A ((wcX aX_0 aR_0 aG_0 aS_0 aP_0 aN_0 aI_0 aT_0 zX) ++ ((wcG ci aG_0 aG_1 aG_2 aG_3 aG_4 zG) ++ ((wcS ci aS_0 aS_1 zS) ++ (wcT ci aT_0 zT)))) := hD
  refine lv_if_ne (tgt := 10) hx hb dX6_turns_4 (by decide) (fun c_3 => ?_) (fun c_3 => ?_)
  · replace hF := if_o c_3 hF
    refine lv_iload_n hx hb dX6_turns_10 rfl (lv_at hl 2 rfl) ?_
    refine lv_iconst (v := 1) hx hb dX6_turns_11 (by decide) ?_
    refine lv_icmp_lt (tgt := 21) hx hb dX6_turns_12 (by decide) (fun c_4 => ?_) (fun c_4 => ?_)
    · replace hF := if_i c_4 hF
      refine lv_ldc (v := (-1000000002)) hx hb hown hk_0 dX6_turns_21 ?_
      obtain rfl := Option.some.inj hF
      exact W.iret (v := (-1000000002)) hx hb hr (fun t ht hW => ⟨⟨_, (), rfl, rfl, by rw [ht]; exact hP, va_K.moved hW.alike hK, hD⟩, hS.F ht⟩) hS.2.2 dX6_turns_23
    · replace hF := if_o c_4 hF
      refine lv_iload_n hx hb dX6_turns_15 rfl (lv_at hl 2 rfl) ?_
      refine lv_bipush (v := 6) hx hb dX6_turns_16 (by decide) ?_
      refine lv_icmp_le (tgt := 24) hx hb dX6_turns_18 (by decide) (fun c_5 => ?_) (fun c_5 => ?_)
      · replace hF := if_i c_5 hF
        refine lv_aload_n hx hb dX6_turns_24 rfl (lv_at hl 0 rfl) ?_
        refine va_get (D := D) (ci := 6) (v := .ref aG_0) (C := RX6) (T := TX6) (N := 9) hx hb hts hin_RX6 hown hK hP 0 rfl rfl 1 (by decide) hk_1 (fun _ h9 => h9) rfl dX6_turns_25 ?_
        refine va_get (D := D) (ci := 0) (v := .int (zG.1 2)) (C := RX0) (T := TX0) (N := 13) hx hb hts hin_RX0 hown hK hP 1 rfl rfl 2 (by decide) hk_3 (fun _ h9 => h9) rfl dX6_turns_28 ?_
        refine lv_if_ne (tgt := 37) hx hb dX6_turns_31 (by decide) (fun c_6 => ?_) (fun c_6 => ?_)
        · replace hF := if_o c_6 hF
          refine lv_iconst (v := 1) hx hb dX6_turns_37 (by decide) ?_
          refine lv_topi (fun v3_7 ev3_7 => ?_)
          replace hF := nm_i hF ev3_7
          refine lv_istore_n (lv' := [(3, .int v3_7), (0, .ref aX_0), (1, .int p1), (2, .int p2)]) hx hb dX6_turns_38 rfl hl (by decide) rfl (fun ls hl => ?_)
          replace hF := bnd hF
          obtain ⟨q_50, hv_23, hF⟩ := hF
          obtain ⟨v3_12, ev3_12⟩ : ∃ y : Int32, y = q_50.1 := ⟨_, rfl⟩
          replace hF := nm_i hF ev3_12
          obtain ⟨zT_13, ezT_13⟩ : ∃ y : TS, y = q_50.2 := ⟨_, rfl⟩
          replace hF := nm_i hF ezT_13
          obtain rfl : q_50 = (v3_12, zT_13) := by rw [ev3_12, ezT_13]
          clear ev3_12
          clear ezT_13
          refine jn (P := fun H locs ls => va_P D vwCl ((wcX aX_0 aR_0 aG_0 aS_0 aP_0 aN_0 aI_0 aT_0 zX) ++ ((wcG ci aG_0 aG_1 aG_2 aG_3 aG_4 zG) ++ ((wcS ci aS_0 aS_1 zS) ++ (wcT ci aT_0 zT_13)))) H ∧ va_D A ((wcX aX_0 aR_0 aG_0 aS_0 aP_0 aN_0 aI_0 aT_0 zX) ++ ((wcG ci aG_0 aG_1 aG_2 aG_3 aG_4 zG) ++ ((wcS ci aS_0 aS_1 zS) ++ (wcT ci aT_0 zT_13)))) ∧ va_S A s.heap H locs ∧ lv_has ls 7 [(0, .ref aX_0), (1, .int p1), (2, .int p2), (3, .int v3_12)]) (pcJ := 80) (st := []) ?_ ?_
          · intro H locs ls hJ
            obtain ⟨hP, hD, hS, hl⟩ := hJ
            refine lv_aload_n hx hb dX6_turns_80 rfl (lv_at hl 0 rfl) ?_
            refine lv_iload_n hx hb dX6_turns_81 rfl (lv_at hl 2 rfl) ?_
            replace hF := bnd hF
            obtain ⟨r_24, hc_25, hF⟩ := hF
            refine cl_Vl (As := [.int p2]) (rest := []) (wc := ((wcX aX_0 aR_0 aG_0 aS_0 aP_0 aN_0 aI_0 aT_0 zX) ++ ((wcG ci aG_0 aG_1 aG_2 aG_3 aG_4 zG) ++ (wcS ci aS_0 aS_1 zS)))) (wr := ([8].filterMap (fun i => ((wcX aX_0 aR_0 aG_0 aS_0 aP_0 aN_0 aI_0 aT_0 zX) ++ ((wcG ci aG_0 aG_1 aG_2 aG_3 aG_4 zG) ++ ((wcS ci aS_0 aS_1 zS) ++ (wcT ci aT_0 zT_13))))[i]?))) (w1 := ((wcX aX_0 aR_0 aG_0 aS_0 aP_0 aN_0 aI_0 aT_0 zX) ++ ((wcG ci aG_0 aG_1 aG_2 aG_3 aG_4 zG) ++ (wcS ci aS_0 aS_1 zS)))) (wn := ((wcX aX_0 aR_0 aG_0 aS_0 aP_0 aN_0 aI_0 aT_0 zX) ++ ((wcG ci aG_0 aG_1 aG_2 aG_3 aG_4 zG) ++ ((wcS ci aS_0 aS_1 zS) ++ (wcT ci aT_0 zT_13))))) ⟨hx, hb, hml, hown, hts⟩ (cwV 1 hts gX6_turns_X6_slipsTallIn rfl rfl rfl (by decide +kernel) ⟨Nat.le_of_ble_eq_true rfl, Nat.le_of_ble_eq_true rfl⟩) (c_X6_slipsTallIn l D ci aX_0 aR_0 aG_0 aS_0 aP_0 aN_0 aI_0 aT_0 aG_1 aG_2 aG_3 aG_4 aS_1 H.size zX zG zS p2 _ hc_25) hK hP hD hS hA [0, 1, 2, 3, 4, 5, 6, 7] [8] [1, 2, 3, 4, 5, 6, 7, 8, 0] rfl rfl rfl (by decide) 0 rfl rfl rfl rfl hl.1 (Nat.le_of_ble_eq_true rfl) dX6_turns_82 (Nat.zero_le _) (Nat.zero_le _) (fun H locs hP hD hS => ?_)
            have hP : va_P D vwCl ((wcX aX_0 aR_0 aG_0 aS_0 aP_0 aN_0 aI_0 aT_0 zX) ++ ((wcG ci aG_0 aG_1 aG_2 aG_3 aG_4 zG) ++ ((wcS ci aS_0 aS_1 zS) ++ (wcT ci aT_0 zT_13)))) H := hP
            have hD : va_D A ((wcX aX_0 aR_0 aG_0 aS_0 aP_0 aN_0 aI_0 aT_0 zX) ++ ((wcG ci aG_0 aG_1 aG_2 aG_3 aG_4 zG) ++ ((wcS ci aS_0 aS_1 zS) ++ (wcT ci aT_0 zT_13)))) := hD
            refine lv_lstore_n (lv' := [(3, .long r_24), (0, .ref aX_0), (1, .int p1), (2, .int p2)]) hx hb dX6_turns_85 rfl hl (by decide) rfl (fun ls hl => ?_)
            refine lv_aload_n hx hb dX6_turns_86 rfl (lv_at hl 1 rfl) ?_
            refine lv_iload_n hx hb dX6_turns_87 rfl (lv_at hl 2 rfl) ?_
            refine lv_iload_n hx hb dX6_turns_88 rfl (lv_at hl 3 rfl) ?_
            refine lv_iconst (v := (-1)) hx hb dX6_turns_89 (by decide) ?_
            refine lv_lload_n hx hb dX6_turns_90 rfl (lv_at hl 0 rfl) ?_
            replace hF := bnd hF
            obtain ⟨r_26, hc_27, hF⟩ := hF
            refine cl_Vi0 (As := [.int p1, .int p2, .int (-1), .long r_24]) (rest := []) ⟨hx, hb, hml, hown, hts⟩ (cwV 4 hts gX6_turns_X6_acresAfterAnswer rfl rfl rfl (by decide +kernel) ⟨Nat.le_of_ble_eq_true rfl, Nat.le_of_ble_eq_true rfl⟩) (c_X6_acresAfterAnswer l D ci aX_0 aR_0 aG_0 aS_0 aP_0 aN_0 aI_0 aT_0 aG_1 aG_2 aG_3 aG_4 aS_1 H.size zX zG zS zT_13 p1 p2 (-1 : Int32) r_24 _ hc_27) hK hP hD hS hA 0 rfl rfl rfl rfl hl.1 (Nat.le_of_ble_eq_true rfl) dX6_turns_91 (Nat.zero_le _) (Nat.zero_le _) (fun H locs hP hD hS => ?_)
            have hP : va_P D vwCl ((wcX aX_0 aR_0 aG_0 aS_0 aP_0 aN_0 aI_0 aT_0 zX) ++ ((wcG ci aG_0 aG_1 aG_2 aG_3 aG_4 zG) ++ ((wcS ci aS_0 aS_1 zS) ++ (wcT ci aT_0 zT_13)))) H := hP
            have hD : va_D A ((wcX aX_0 aR_0 aG_0 aS_0 aP_0 aN_0 aI_0 aT_0 zX) ++ ((wcG ci aG_0 aG_1 aG_2 aG_3 aG_4 zG) ++ ((wcS ci aS_0 aS_1 zS) ++ (wcT ci aT_0 zT_13)))) := hD
            refine lv_istore (lv' := [(5, .int r_26), (3, .long r_24), (0, .ref aX_0), (1, .int p1), (2, .int p2)]) hx hb dX6_turns_94 hl (by decide) rfl (fun ls hl => ?_)
            refine lv_iconst (v := 0) hx hb dX6_turns_96 (by decide) ?_
            refine lv_topi (fun v6_28 ev6_28 => ?_)
            replace hF := nm_i hF ev6_28
            refine lv_istore (lv' := [(6, .int v6_28), (5, .int r_26), (3, .long r_24), (0, .ref aX_0), (1, .int p1), (2, .int p2)]) hx hb dX6_turns_97 hl (by decide) rfl (fun ls hl => ?_)
            replace hF := bnd hF
            obtain ⟨q_49, hv_48, hF⟩ := hF
            obtain ⟨v5_33, ev5_33⟩ : ∃ y : Int32, y = q_49.1 := ⟨_, rfl⟩
            replace hF := nm_i hF ev5_33
            obtain ⟨v6_34, ev6_34⟩ : ∃ y : Int32, y = q_49.2 := ⟨_, rfl⟩
            replace hF := nm_i hF ev6_34
            obtain rfl : q_49 = (v5_33, v6_34) := by rw [ev5_33, ev6_34]
            clear ev5_33
            clear ev6_34
            refine jn (P := fun H locs ls => va_P D vwCl ((wcX aX_0 aR_0 aG_0 aS_0 aP_0 aN_0 aI_0 aT_0 zX) ++ ((wcG ci aG_0 aG_1 aG_2 aG_3 aG_4 zG) ++ ((wcS ci aS_0 aS_1 zS) ++ (wcT ci aT_0 zT_13)))) H ∧ va_D A ((wcX aX_0 aR_0 aG_0 aS_0 aP_0 aN_0 aI_0 aT_0 zX) ++ ((wcG ci aG_0 aG_1 aG_2 aG_3 aG_4 zG) ++ ((wcS ci aS_0 aS_1 zS) ++ (wcT ci aT_0 zT_13)))) ∧ va_S A s.heap H locs ∧ lv_has ls 7 [(0, .ref aX_0), (1, .int p1), (2, .int p2), (3, .long r_24), (5, .int v5_33), (6, .int v6_34)]) (pcJ := 165) (st := []) ?_ ?_
            · intro H locs ls hJ
              obtain ⟨hP, hD, hS, hl⟩ := hJ
              refine lv_iload hx hb dX6_turns_165 (lv_at hl 4 rfl) ?_
              obtain rfl := Option.some.inj hF
              exact W.iret (v := v5_33) hx hb hr (fun t ht hW => ⟨⟨_, (), rfl, rfl, by rw [ht]; exact hP, va_K.moved hW.alike hK, hD⟩, hS.F ht⟩) hS.2.2 dX6_turns_167
            · intro J_32
              clear hF
              have hF := hv_48
              refine lpW (σ := Int32 × Int32) (I := fun n v H locs ls => L_X6_turns_99 zX zG zS zT_13 p1 p2 r_24 n v.1 v.2 = some (v5_33, v6_34) ∧ va_P D vwCl ((wcX aX_0 aR_0 aG_0 aS_0 aP_0 aN_0 aI_0 aT_0 zX) ++ ((wcG ci aG_0 aG_1 aG_2 aG_3 aG_4 zG) ++ ((wcS ci aS_0 aS_1 zS) ++ (wcT ci aT_0 zT_13)))) H ∧ va_D A ((wcX aX_0 aR_0 aG_0 aS_0 aP_0 aN_0 aI_0 aT_0 zX) ++ ((wcG ci aG_0 aG_1 aG_2 aG_3 aG_4 zG) ++ ((wcS ci aS_0 aS_1 zS) ++ (wcT ci aT_0 zT_13)))) ∧ va_S A s.heap H locs ∧ lv_has ls 7 [(0, .ref aX_0), (1, .int p1), (2, .int p2), (3, .long r_24), (5, .int v.1), (6, .int v.2)]) 3000 (r_26, v6_28) (fun _ _ _ _ h => no_none h.1) ⟨hF, hP, hD, hS, lv_sub hl [3, 4, 5, 2, 1, 0] rfl⟩ ?_
              clear hF hP hD hS hl
              intro n ih_31 vq H locs ls hI
              obtain ⟨v5_29, v6_30⟩ := vq
              obtain ⟨hF, hP, hD, hS, hl⟩ := hI
              have hP : va_P D vwCl ((wcX aX_0 aR_0 aG_0 aS_0 aP_0 aN_0 aI_0 aT_0 zX) ++ ((wcG ci aG_0 aG_1 aG_2 aG_3 aG_4 zG) ++ ((wcS ci aS_0 aS_1 zS) ++ (wcT ci aT_0 zT_13)))) H := hP
              have hD : va_D A ((wcX aX_0 aR_0 aG_0 aS_0 aP_0 aN_0 aI_0 aT_0 zX) ++ ((wcG ci aG_0 aG_1 aG_2 aG_3 aG_4 zG) ++ ((wcS ci aS_0 aS_1 zS) ++ (wcT ci aT_0 zT_13)))) := hD
              have hl : lv_has ls 7 [(0, .ref aX_0), (1, .int p1), (2, .int p2), (3, .long r_24), (5, .int v5_29), (6, .int v6_30)] := hl
              replace hF : L_X6_turns_99 zX zG zS zT_13 p1 p2 r_24 (n + 1) v5_29 v6_30 = some (v5_33, v6_34) := hF
              rw [L_X6_turns_99] at hF
              refine lv_iload hx hb dX6_turns_99 (lv_at hl 5 rfl) ?_
              refine lv_aload_n hx hb dX6_turns_101 rfl (lv_at hl 0 rfl) ?_
              refine va_get (D := D) (ci := 6) (v := .ref aG_0) (C := RX6) (T := TX6) (N := 9) hx hb hts hin_RX6 hown hK hP 0 rfl rfl 1 (by decide) hk_1 (fun _ h9 => h9) rfl dX6_turns_102 ?_
              refine va_get (D := D) (ci := 0) (v := .int (zG.1 3)) (C := RX0) (T := TX0) (N := 13) hx hb hts hin_RX0 hown hK hP 1 rfl rfl 3 (by decide) hk_10 (fun _ h9 => h9) rfl dX6_turns_105 ?_
              refine lv_icmp_ge (tgt := 165) hx hb dX6_turns_108 (by decide) (fun c_35 => ?_) (fun c_35 => ?_)
              · replace hF := if_i c_35 hF
                obtain ⟨g_36, g_37⟩ : v5_29 = v5_33 ∧ v6_30 = v6_34 := by have h9 := Option.some.inj hF; simpa only [Prod.mk.injEq] using h9
                subst g_36
                subst g_37
                exact J_32 H locs ls ⟨hP, hD, hS, lv_sub hl [0, 1, 2, 3, 4, 5] rfl⟩
              · replace hF := if_o c_35 hF
                refine lv_lload_n hx hb dX6_turns_111 rfl (lv_at hl 3 rfl) ?_
                refine lv_aload_n hx hb dX6_turns_112 rfl (lv_at hl 0 rfl) ?_
                refine va_get (D := D) (ci := 6) (v := .ref aG_0) (C := RX6) (T := TX6) (N := 9) hx hb hts hin_RX6 hown hK hP 0 rfl rfl 1 (by decide) hk_1 (fun _ h9 => h9) rfl dX6_turns_113 ?_
                refine va_get (D := D) (ci := 0) (v := .ref aG_4) (C := RX0) (T := TX0) (N := 13) hx hb hts hin_RX0 hown hK hP 1 rfl rfl 12 (by decide) hk_11 (fun _ h9 => h9) rfl dX6_turns_116 ?_
                refine lv_iload hx hb dX6_turns_119 (lv_at hl 5 rfl) ?_
                replace hF := ald_i hF
                obtain ⟨hin_38, hF⟩ := hF
                refine va_lald hx hb hK hP 5 1 rfl rfl hin_38 dX6_turns_121 ?_
                refine lv_topl (fun x_39 ex_39 => ?_)
                replace hF := nm_i hF ex_39
                refine lv_land hx hb dX6_turns_122 ?_
                refine lv_lconst (v := 0) hx hb dX6_turns_123 (by decide) ?_
                refine W.lcmp hx hb dX6_turns_124 ?_
                refine lv_if_eq (tgt := 159) hx hb dX6_turns_125 (by decide) (fun c_40 => ?_) (fun c_40 => ?_)
                · replace hF := if_i c_40 hF
                  obtain ⟨v6_41, ev6_41⟩ : ∃ y : Int32, y = v6_30 + 1 := ⟨_, rfl⟩
                  replace hF := nm_i hF ev6_41
                  refine lv_iinc (v := v6_41) (lv' := [(6, .int v6_41), (0, .ref aX_0), (1, .int p1), (2, .int p2), (3, .long r_24), (5, .int v5_29)]) hx hb dX6_turns_159 hl (k := 5) rfl (by rw [ev6_41]; rfl) (by decide) rfl (fun ls hl => ?_)
                  refine lv_goto (tgt := 99) hx hb dX6_turns_162 (by decide) ?_
                  exact ih_31 (v5_29, v6_41) H locs ls ⟨hF, hP, hD, hS, lv_sub hl [1, 2, 3, 4, 5, 0] rfl⟩
                · replace hF := if_o c_40 hF
                  refine lv_iload hx hb dX6_turns_128 (lv_at hl 4 rfl) ?_
                  refine lv_aload_n hx hb dX6_turns_130 rfl (lv_at hl 0 rfl) ?_
                  refine lv_iload_n hx hb dX6_turns_131 rfl (lv_at hl 1 rfl) ?_
                  refine lv_iload_n hx hb dX6_turns_132 rfl (lv_at hl 2 rfl) ?_
                  refine lv_iload hx hb dX6_turns_133 (lv_at hl 5 rfl) ?_
                  refine lv_lload_n hx hb dX6_turns_135 rfl (lv_at hl 3 rfl) ?_
                  refine lv_aload_n hx hb dX6_turns_136 rfl (lv_at hl 0 rfl) ?_
                  refine va_get (D := D) (ci := 6) (v := .ref aG_0) (C := RX6) (T := TX6) (N := 9) hx hb hts hin_RX6 hown hK hP 0 rfl rfl 1 (by decide) hk_1 (fun _ h9 => h9) rfl dX6_turns_137 ?_
                  refine va_get (D := D) (ci := 0) (v := .ref aG_4) (C := RX0) (T := TX0) (N := 13) hx hb hts hin_RX0 hown hK hP 1 rfl rfl 12 (by decide) hk_11 (fun _ h9 => h9) rfl dX6_turns_140 ?_
                  refine lv_iload hx hb dX6_turns_143 (lv_at hl 5 rfl) ?_
                  replace hF := ald_i hF
                  obtain ⟨hin_42, hF⟩ := hF
                  refine va_lald hx hb hK hP 5 1 rfl rfl hin_42 dX6_turns_145 ?_
                  refine lv_topl (fun x_43 ex_43 => ?_)
                  replace hF := nm_i hF ex_43
                  refine lv_ldc2 (v := (-1)) hx hb hown hk_9 dX6_turns_146 ?_
                  refine lv_lxor hx hb dX6_turns_149 ?_
                  refine lv_land hx hb dX6_turns_150 ?_
                  replace hF := bnd hF
                  obtain ⟨r_44, hc_45, hF⟩ := hF
                  refine cl_Vi0 (As := [.int p1, .int p2, .int v6_30, .long (r_24 &&& (x_43 ^^^ (-1)))]) (rest := [.int v5_29]) ⟨hx, hb, hml, hown, hts⟩ (cwV 4 hts gX6_turns_X6_acresAfterAnswer rfl rfl rfl (by decide +kernel) ⟨Nat.le_of_ble_eq_true rfl, Nat.le_of_ble_eq_true rfl⟩) (c_X6_acresAfterAnswer l D ci aX_0 aR_0 aG_0 aS_0 aP_0 aN_0 aI_0 aT_0 aG_1 aG_2 aG_3 aG_4 aS_1 H.size zX zG zS zT_13 p1 p2 v6_30 (r_24 &&& (x_43 ^^^ (-1))) _ hc_45) hK hP hD hS hA 0 rfl rfl rfl rfl hl.1 (Nat.le_of_ble_eq_true rfl) dX6_turns_151 (Nat.zero_le _) (Nat.zero_le _) (fun H locs hP hD hS => ?_)
                  have hP : va_P D vwCl ((wcX aX_0 aR_0 aG_0 aS_0 aP_0 aN_0 aI_0 aT_0 zX) ++ ((wcG ci aG_0 aG_1 aG_2 aG_3 aG_4 zG) ++ ((wcS ci aS_0 aS_1 zS) ++ (wcT ci aT_0 zT_13)))) H := hP
                  have hD : va_D A ((wcX aX_0 aR_0 aG_0 aS_0 aP_0 aN_0 aI_0 aT_0 zX) ++ ((wcG ci aG_0 aG_1 aG_2 aG_3 aG_4 zG) ++ ((wcS ci aS_0 aS_1 zS) ++ (wcT ci aT_0 zT_13)))) := hD
                  refine va_mmax hx hb (hml.trans hl.1.symm) hown hk_12 hk_13 hk_14 hk_15 (Nat.le_of_ble_eq_true rfl) (Nat.le_of_ble_eq_true rfl) (Nat.zero_le _) (Nat.zero_le _) dX6_turns_154 ?_
                  refine W.eq (g2 := F0 m 157 ls [.int (imax v5_29 r_44)]) rfl ?_
                  refine lv_topi (fun v5_46 ev5_46 => ?_)
                  replace hF := nm_i hF ev5_46
                  refine lv_istore (lv' := [(5, .int v5_46), (0, .ref aX_0), (1, .int p1), (2, .int p2), (3, .long r_24), (6, .int v6_30)]) hx hb dX6_turns_157 hl (by decide) rfl (fun ls hl => ?_)
                  obtain ⟨v6_47, ev6_47⟩ : ∃ y : Int32, y = v6_30 + 1 := ⟨_, rfl⟩
                  replace hF := nm_i hF ev6_47
                  refine lv_iinc (v := v6_47) (lv' := [(6, .int v6_47), (5, .int v5_46), (0, .ref aX_0), (1, .int p1), (2, .int p2), (3, .long r_24)]) hx hb dX6_turns_159 hl (k := 5) rfl (by rw [ev6_47]; rfl) (by decide) rfl (fun ls hl => ?_)
                  refine lv_goto (tgt := 99) hx hb dX6_turns_162 (by decide) ?_
                  exact ih_31 (v5_46, v6_47) H locs ls ⟨hF, hP, hD, hS, lv_sub hl [2, 3, 4, 5, 1, 0] rfl⟩
          · intro J_11
            clear hF
            have hF := hv_23
            refine lpW (σ := Int32 × TS) (I := fun n v H locs ls => L_X6_turns_39 zX zG zS p1 p2 n v.1 v.2 = some (v3_12, zT_13) ∧ va_P D vwCl ((wcX aX_0 aR_0 aG_0 aS_0 aP_0 aN_0 aI_0 aT_0 zX) ++ ((wcG ci aG_0 aG_1 aG_2 aG_3 aG_4 zG) ++ ((wcS ci aS_0 aS_1 zS) ++ (wcT ci aT_0 v.2)))) H ∧ va_D A ((wcX aX_0 aR_0 aG_0 aS_0 aP_0 aN_0 aI_0 aT_0 zX) ++ ((wcG ci aG_0 aG_1 aG_2 aG_3 aG_4 zG) ++ ((wcS ci aS_0 aS_1 zS) ++ (wcT ci aT_0 v.2)))) ∧ va_S A s.heap H locs ∧ lv_has ls 7 [(0, .ref aX_0), (1, .int p1), (2, .int p2), (3, .int v.1)]) 3000 (v3_7, zT) (fun _ _ _ _ h => no_none h.1) ⟨hF, hP, hD, hS, lv_sub hl [1, 2, 3, 0] rfl⟩ ?_
            clear hF hP hD hS hl
            intro n ih_10 vq H locs ls hI
            obtain ⟨v3_8, zT_9⟩ := vq
            obtain ⟨hF, hP, hD, hS, hl⟩ := hI
            have hP : va_P D vwCl ((wcX aX_0 aR_0 aG_0 aS_0 aP_0 aN_0 aI_0 aT_0 zX) ++ ((wcG ci aG_0 aG_1 aG_2 aG_3 aG_4 zG) ++ ((wcS ci aS_0 aS_1 zS) ++ (wcT ci aT_0 zT_9)))) H := hP
            have hD : va_D A ((wcX aX_0 aR_0 aG_0 aS_0 aP_0 aN_0 aI_0 aT_0 zX) ++ ((wcG ci aG_0 aG_1 aG_2 aG_3 aG_4 zG) ++ ((wcS ci aS_0 aS_1 zS) ++ (wcT ci aT_0 zT_9)))) := hD
            have hl : lv_has ls 7 [(0, .ref aX_0), (1, .int p1), (2, .int p2), (3, .int v3_8)] := hl
            replace hF : L_X6_turns_39 zX zG zS p1 p2 (n + 1) v3_8 zT_9 = some (v3_12, zT_13) := hF
            rw [L_X6_turns_39] at hF
            refine lv_iload_n hx hb dX6_turns_39 rfl (lv_at hl 3 rfl) ?_
            refine lv_iload_n hx hb dX6_turns_40 rfl (lv_at hl 2 rfl) ?_
            refine lv_icmp_gt (tgt := 80) hx hb dX6_turns_41 (by decide) (fun c_14 => ?_) (fun c_14 => ?_)
            · replace hF := if_i c_14 hF
              obtain ⟨g_15, g_16⟩ : v3_8 = v3_12 ∧ zT_9 = zT_13 := by have h9 := Option.some.inj hF; simpa only [Prod.mk.injEq] using h9
              subst g_15
              subst g_16
              exact J_11 H locs ls ⟨hP, hD, hS, lv_sub hl [0, 1, 2, 3] rfl⟩
            · replace hF := if_o c_14 hF
              refine lv_aload_n hx hb dX6_turns_44 rfl (lv_at hl 0 rfl) ?_
              refine va_get (D := D) (ci := 6) (v := .ref aT_0) (C := RX6) (T := TX6) (N := 9) hx hb hts hin_RX6 hown hK hP 0 rfl rfl 6 (by decide) hk_5 (fun _ h9 => h9) rfl dX6_turns_45 ?_
              refine lv_iload_n hx hb dX6_turns_48 rfl (lv_at hl 3 rfl) ?_
              refine lv_aload_n hx hb dX6_turns_49 rfl (lv_at hl 0 rfl) ?_
              refine va_get (D := D) (ci := 6) (v := .ref aS_0) (C := RX6) (T := TX6) (N := 9) hx hb hts hin_RX6 hown hK hP 0 rfl rfl 2 (by decide) hk_6 (fun _ h9 => h9) rfl dX6_turns_50 ?_
              refine lv_aload_n hx hb dX6_turns_53 rfl (lv_at hl 0 rfl) ?_
              refine va_get (D := D) (ci := 6) (v := .ref aG_0) (C := RX6) (T := TX6) (N := 9) hx hb hts hin_RX6 hown hK hP 0 rfl rfl 1 (by decide) hk_1 (fun _ h9 => h9) rfl dX6_turns_54 ?_
              refine lv_iload_n hx hb dX6_turns_57 rfl (lv_at hl 3 rfl) ?_
              replace hF := bnd hF
              obtain ⟨r_17, hc_18, hF⟩ := hF
              refine cl_Vl (As := [.ref aG_0, .int v3_8]) (rest := [.int v3_8, .ref aT_0]) (wc := ((wcG ci aG_0 aG_1 aG_2 aG_3 aG_4 zG) ++ (wcS ci aS_0 aS_1 zS))) (wr := ([0, 8].filterMap (fun i => ((wcX aX_0 aR_0 aG_0 aS_0 aP_0 aN_0 aI_0 aT_0 zX) ++ ((wcG ci aG_0 aG_1 aG_2 aG_3 aG_4 zG) ++ ((wcS ci aS_0 aS_1 zS) ++ (wcT ci aT_0 zT_9))))[i]?))) (w1 := ((wcG ci aG_0 aG_1 aG_2 aG_3 aG_4 zG) ++ (wcS ci aS_0 aS_1 zS))) (wn := ((wcX aX_0 aR_0 aG_0 aS_0 aP_0 aN_0 aI_0 aT_0 zX) ++ ((wcG ci aG_0 aG_1 aG_2 aG_3 aG_4 zG) ++ ((wcS ci aS_0 aS_1 zS) ++ (wcT ci aT_0 zT_9))))) ⟨hx, hb, hml, hown, hts⟩ (cwV 2 hts gX6_turns_X5_tallHedges rfl rfl rfl (by decide +kernel) ⟨Nat.le_of_ble_eq_true rfl, Nat.le_of_ble_eq_true rfl⟩) (c_X5_tallHedges l D ci aG_0 aG_1 aG_2 aG_3 aG_4 aS_0 aS_1 H.size zG zS v3_8 _ hc_18) hK hP hD hS hA [1, 2, 3, 4, 5, 6, 7] [0, 8] [0, 2, 3, 4, 5, 6, 7, 8, 1] rfl rfl rfl (by decide) 5 rfl rfl rfl rfl hl.1 (Nat.le_of_ble_eq_true rfl) dX6_turns_58 (Nat.zero_le _) (Nat.zero_le _) (fun H locs hP hD hS => ?_)
              have hP : va_P D vwCl ((wcX aX_0 aR_0 aG_0 aS_0 aP_0 aN_0 aI_0 aT_0 zX) ++ ((wcG ci aG_0 aG_1 aG_2 aG_3 aG_4 zG) ++ ((wcS ci aS_0 aS_1 zS) ++ (wcT ci aT_0 zT_9)))) H := hP
              have hD : va_D A ((wcX aX_0 aR_0 aG_0 aS_0 aP_0 aN_0 aI_0 aT_0 zX) ++ ((wcG ci aG_0 aG_1 aG_2 aG_3 aG_4 zG) ++ ((wcS ci aS_0 aS_1 zS) ++ (wcT ci aT_0 zT_9)))) := hD
              refine lv_aload_n hx hb dX6_turns_61 rfl (lv_at hl 0 rfl) ?_
              refine va_get (D := D) (ci := 6) (v := .ref aS_0) (C := RX6) (T := TX6) (N := 9) hx hb hts hin_RX6 hown hK hP 0 rfl rfl 2 (by decide) hk_6 (fun _ h9 => h9) rfl dX6_turns_62 ?_
              refine va_get (D := D) (ci := 5) (v := .long (zS.1 2)) (C := RX5) (T := TX5) (N := 6) hx hb hts hin_RX5 hown hK hP 6 rfl rfl 2 (by decide) hk_7 (fun _ h9 => h9) rfl dX6_turns_65 ?_
              refine lv_ldc2 (v := (-1)) hx hb hown hk_9 dX6_turns_68 ?_
              refine lv_lxor hx hb dX6_turns_71 ?_
              refine lv_land hx hb dX6_turns_72 ?_
              refine lv_topl (fun y_20 ey_20 => ?_)
              replace hF := nm_i hF ey_20
              replace hF := ast_i hF
              obtain ⟨hin_19, hF⟩ := hF
              refine va_last (x := y_20) hx hb hK hP hD hS 8 1 rfl rfl hin_19 dX6_turns_73 (fun H locs hP hD hS => ?_)
              obtain ⟨zT_21, ezT_21⟩ : ∃ y : TS, y = (vp_updL zT_9 (Int32.toNatClampNeg v3_8) y_20) := ⟨_, rfl⟩
              replace hF := nm_i hF ezT_21
              have hP : va_P D vwCl ((wcX aX_0 aR_0 aG_0 aS_0 aP_0 aN_0 aI_0 aT_0 zX) ++ ((wcG ci aG_0 aG_1 aG_2 aG_3 aG_4 zG) ++ ((wcS ci aS_0 aS_1 zS) ++ (wcT ci aT_0 zT_21)))) H := by rw [ezT_21]; exact hP
              have hD : va_D A ((wcX aX_0 aR_0 aG_0 aS_0 aP_0 aN_0 aI_0 aT_0 zX) ++ ((wcG ci aG_0 aG_1 aG_2 aG_3 aG_4 zG) ++ ((wcS ci aS_0 aS_1 zS) ++ (wcT ci aT_0 zT_21)))) := by rw [ezT_21]; exact hD
              obtain ⟨v3_22, ev3_22⟩ : ∃ y : Int32, y = v3_8 + 1 := ⟨_, rfl⟩
              replace hF := nm_i hF ev3_22
              refine lv_iinc (v := v3_22) (lv' := [(3, .int v3_22), (0, .ref aX_0), (1, .int p1), (2, .int p2)]) hx hb dX6_turns_74 hl (k := 3) rfl (by rw [ev3_22]; rfl) (by decide) rfl (fun ls hl => ?_)
              refine lv_goto (tgt := 39) hx hb dX6_turns_77 (by decide) ?_
              exact ih_10 (v3_22, zT_21) H locs ls ⟨hF, hP, hD, hS, lv_sub hl [1, 2, 3, 0] rfl⟩
        · replace hF := if_i c_6 hF
          refine lv_ldc (v := (-1000000003)) hx hb hown hk_16 dX6_turns_34 ?_
          obtain rfl := Option.some.inj hF
          exact W.iret (v := (-1000000003)) hx hb hr (fun t ht hW => ⟨⟨_, (), rfl, rfl, by rw [ht]; exact hP, va_K.moved hW.alike hK, hD⟩, hS.F ht⟩) hS.2.2 dX6_turns_36
      · replace hF := if_o c_5 hF
        refine lv_ldc (v := (-1000000002)) hx hb hown hk_0 dX6_turns_21 ?_
        obtain rfl := Option.some.inj hF
        exact W.iret (v := (-1000000002)) hx hb hr (fun t ht hW => ⟨⟨_, (), rfl, rfl, by rw [ht]; exact hP, va_K.moved hW.alike hK, hD⟩, hS.F ht⟩) hS.2.2 dX6_turns_23
  · replace hF := if_i c_3 hF
    refine lv_ldc (v := (-1000000001)) hx hb hown hk_17 dX6_turns_7 ?_
    obtain rfl := Option.some.inj hF
    exact W.iret (v := (-1000000001)) hx hb hr (fun t ht hW => ⟨⟨_, (), rfl, rfl, by rw [ht]; exact hP, va_K.moved hW.alike hK, hD⟩, hS.F ht⟩) hS.2.2 dX6_turns_9
noncomputable def L_X6_birds_30 (zX : XS) (p1 : Int32) (p2 : Int32) : Nat → Int64 → Int32 → Option (Int64 × Int32)
  | 0, _, _ => none
  | n + 1, v3_7, v5_8 => if p1 ≤ v5_8 then (some (v3_7, v5_8)) else (dvl (100 : Int64) <| nm ((v3_7 * (Int32.toInt64 (100 - p2))) / 100) fun v3_17 => nm (v5_8 + 1) fun v5_18 => L_X6_birds_30 zX p1 p2 n v3_17 v5_18)
noncomputable def f_X6_birds (zX : XS) (p1 : Int32) (p2 : Int32) : Option (Int32) := if p1 < 0 then (some (-1000000002 : Int32)) else (if (60 : Int32) < p1 then (some (-1000000002 : Int32)) else (if p2 < 0 then (some (-1000000002 : Int32)) else (if p2 ≤ 100 then (nm (1000000000 : Int64) fun v3_5 => nm (0 : Int32) fun v5_6 => (L_X6_birds_30 zX p1 p2 3000 v3_5 v5_6).bind fun q_20 => nm q_20.1 fun v3_11 => nm q_20.2 fun v5_12 => some (Int64.toInt32 v3_11)) else (some (-1000000002 : Int32)))))
set_option maxHeartbeats 4000000 in
set_option maxRecDepth 100000 in
theorem c_X6_birds (l : Launch) (D : va_G) (ci : Nat → ClassId) (aX_0 : Nat) (aR_0 : Nat) (aG_0 : Nat) (aS_0 : Nat) (aP_0 : Nat) (aN_0 : Nat) (aI_0 : Nat) (aT_0 : Nat) (sz : Nat) (zX : XS) (p1 : Int32) (p2 : Int32) (res : Int32) (hF : f_X6_birds zX p1 p2 = some res) : CtI l yX6_birds wsX6_birds { frames := 0, cells := 0, slots := 0, locals := 0 } [.ref aX_0, .int p1, .int p2] D ci (wcX aX_0 aR_0 aG_0 aS_0 aP_0 aN_0 aI_0 aT_0 zX) sz res (wcX aX_0 aR_0 aG_0 aS_0 aP_0 aN_0 aI_0 aT_0 zX) := by
  refine Met.ofW (cc := cX6_birds) (maxL := 6) (ret := (some .int)) (by decide) rfl ?_
  intro p e s m args below meth c s₁ B hml hv
  obtain ⟨rfl, hsz, hP, hK, hD0⟩ := hv
  have hx := B.exec
  have hb := B.bytes
  have hr := B.returns
  have hts := atoms_spec (ws := wsX6_birds) B.pre
  have hown : s.vm.findClass RX6 = some m.cls := findClass_of_methodNamed B.named
  have hlocks := B.notSynchronized
  subst hsz
  have hD := hD0.self (sz := s.heap.size)
  generalize hAe : va_A (wcX aX_0 aR_0 aG_0 aS_0 aP_0 aN_0 aI_0 aT_0 zX) s.heap.size = A at hD ⊢
  have hA : ∀ q : Nat, s.heap.size ≤ q → A q := fun q h => by rw [← hAe]; exact Or.inr h
  clear hD0 hAe
  have hl := lv_entry ([.ref aX_0, .int p1, .int p2]) (n := 6) (Nat.le_of_ble_eq_true rfl)
  rw [lg_entry_eq]
  generalize (lg_sl ([.ref aX_0, .int p1, .int p2]) ++ List.replicate (6 - (lg_sl ([.ref aX_0, .int p1, .int p2])).length) Slot.unset).toArray = ls at hl ⊢
  have hl : lv_has ls 6 [(0, .ref aX_0), (1, .int p1), (2, .int p2)] := hl
  have hP : va_P D vwCl (wcX aX_0 aR_0 aG_0 aS_0 aP_0 aN_0 aI_0 aT_0 zX) s.heap := hP
  generalize hH0 : s.heap = H at hP ⊢
  have hS : va_S A s.heap H [] := by rw [← hH0]; exact va_S.rf
  clear hH0
  generalize ([] : List Loc) = locs at hS ⊢
  have hk_0 := hts (.constant RX6 62 (-1000000002)) (by decide +kernel)
  have hk_1 := hts (.constantLong RX6 255 (1000000000)) (by decide +kernel)
  have hk_2 := hts (.constantLong RX6 257 (100)) (by decide +kernel)
  unfold f_X6_birds at hF
  refine lv_iload_n hx hb dX6_birds_0 rfl (lv_at hl 1 rfl) ?_
  refine lv_if_lt (tgt := 20) hx hb dX6_birds_1 (by decide) (fun c_1 => ?_) (fun c_1 => ?_)
  · replace hF := if_i c_1 hF
    refine lv_ldc (v := (-1000000002)) hx hb hown hk_0 dX6_birds_20 ?_
    obtain rfl := Option.some.inj hF
    exact W.iret (v := (-1000000002)) hx hb hr (fun t ht hW => ⟨⟨_, (), rfl, rfl, by rw [ht]; exact hP, va_K.moved hW.alike hK, hD⟩, hS.F ht⟩) hS.2.2 dX6_birds_22
  · replace hF := if_o c_1 hF
    refine lv_iload_n hx hb dX6_birds_4 rfl (lv_at hl 1 rfl) ?_
    refine lv_bipush (v := 60) hx hb dX6_birds_5 (by decide) ?_
    refine lv_icmp_gt (tgt := 20) hx hb dX6_birds_7 (by decide) (fun c_2 => ?_) (fun c_2 => ?_)
    · replace hF := if_i c_2 hF
      refine lv_ldc (v := (-1000000002)) hx hb hown hk_0 dX6_birds_20 ?_
      obtain rfl := Option.some.inj hF
      exact W.iret (v := (-1000000002)) hx hb hr (fun t ht hW => ⟨⟨_, (), rfl, rfl, by rw [ht]; exact hP, va_K.moved hW.alike hK, hD⟩, hS.F ht⟩) hS.2.2 dX6_birds_22
    · replace hF := if_o c_2 hF
      refine lv_iload_n hx hb dX6_birds_10 rfl (lv_at hl 2 rfl) ?_
      refine lv_if_lt (tgt := 20) hx hb dX6_birds_11 (by decide) (fun c_3 => ?_) (fun c_3 => ?_)
      · replace hF := if_i c_3 hF
        refine lv_ldc (v := (-1000000002)) hx hb hown hk_0 dX6_birds_20 ?_
        obtain rfl := Option.some.inj hF
        exact W.iret (v := (-1000000002)) hx hb hr (fun t ht hW => ⟨⟨_, (), rfl, rfl, by rw [ht]; exact hP, va_K.moved hW.alike hK, hD⟩, hS.F ht⟩) hS.2.2 dX6_birds_22
      · replace hF := if_o c_3 hF
        refine lv_iload_n hx hb dX6_birds_14 rfl (lv_at hl 2 rfl) ?_
        refine lv_bipush (v := 100) hx hb dX6_birds_15 (by decide) ?_
        refine lv_icmp_le (tgt := 23) hx hb dX6_birds_17 (by decide) (fun c_4 => ?_) (fun c_4 => ?_)
        · replace hF := if_i c_4 hF
          refine lv_ldc2 (v := 1000000000) hx hb hown hk_1 dX6_birds_23 ?_
          refine lv_topl (fun v3_5 ev3_5 => ?_)
          replace hF := nm_i hF ev3_5
          refine lv_lstore_n (lv' := [(3, .long v3_5), (0, .ref aX_0), (1, .int p1), (2, .int p2)]) hx hb dX6_birds_26 rfl hl (by decide) rfl (fun ls hl => ?_)
          refine lv_iconst (v := 0) hx hb dX6_birds_27 (by decide) ?_
          refine lv_topi (fun v5_6 ev5_6 => ?_)
          replace hF := nm_i hF ev5_6
          refine lv_istore (lv' := [(5, .int v5_6), (3, .long v3_5), (0, .ref aX_0), (1, .int p1), (2, .int p2)]) hx hb dX6_birds_28 hl (by decide) rfl (fun ls hl => ?_)
          replace hF := bnd hF
          obtain ⟨q_20, hv_19, hF⟩ := hF
          obtain ⟨v3_11, ev3_11⟩ : ∃ y : Int64, y = q_20.1 := ⟨_, rfl⟩
          replace hF := nm_i hF ev3_11
          obtain ⟨v5_12, ev5_12⟩ : ∃ y : Int32, y = q_20.2 := ⟨_, rfl⟩
          replace hF := nm_i hF ev5_12
          obtain rfl : q_20 = (v3_11, v5_12) := by rw [ev3_11, ev5_12]
          clear ev3_11
          clear ev5_12
          refine jn (P := fun H locs ls => va_P D vwCl (wcX aX_0 aR_0 aG_0 aS_0 aP_0 aN_0 aI_0 aT_0 zX) H ∧ va_D A (wcX aX_0 aR_0 aG_0 aS_0 aP_0 aN_0 aI_0 aT_0 zX) ∧ va_S A s.heap H locs ∧ lv_has ls 6 [(0, .ref aX_0), (1, .int p1), (2, .int p2), (3, .long v3_11), (5, .int v5_12)]) (pcJ := 54) (st := []) ?_ ?_
          · intro H locs ls hJ
            obtain ⟨hP, hD, hS, hl⟩ := hJ
            refine lv_lload_n hx hb dX6_birds_54 rfl (lv_at hl 3 rfl) ?_
            refine lv_l2i (v := (Int64.toInt32 v3_11)) hx hb dX6_birds_55 rfl ?_
            obtain rfl := Option.some.inj hF
            exact W.iret (v := (Int64.toInt32 v3_11)) hx hb hr (fun t ht hW => ⟨⟨_, (), rfl, rfl, by rw [ht]; exact hP, va_K.moved hW.alike hK, hD⟩, hS.F ht⟩) hS.2.2 dX6_birds_56
          · intro J_10
            clear hF
            have hF := hv_19
            refine lpW (σ := Int64 × Int32) (I := fun n v H locs ls => L_X6_birds_30 zX p1 p2 n v.1 v.2 = some (v3_11, v5_12) ∧ va_P D vwCl (wcX aX_0 aR_0 aG_0 aS_0 aP_0 aN_0 aI_0 aT_0 zX) H ∧ va_D A (wcX aX_0 aR_0 aG_0 aS_0 aP_0 aN_0 aI_0 aT_0 zX) ∧ va_S A s.heap H locs ∧ lv_has ls 6 [(0, .ref aX_0), (1, .int p1), (2, .int p2), (3, .long v.1), (5, .int v.2)]) 3000 (v3_5, v5_6) (fun _ _ _ _ h => no_none h.1) ⟨hF, hP, hD, hS, lv_sub hl [2, 3, 4, 1, 0] rfl⟩ ?_
            clear hF hP hD hS hl
            intro n ih_9 vq H locs ls hI
            obtain ⟨v3_7, v5_8⟩ := vq
            obtain ⟨hF, hP, hD, hS, hl⟩ := hI
            have hP : va_P D vwCl (wcX aX_0 aR_0 aG_0 aS_0 aP_0 aN_0 aI_0 aT_0 zX) H := hP
            have hD : va_D A (wcX aX_0 aR_0 aG_0 aS_0 aP_0 aN_0 aI_0 aT_0 zX) := hD
            have hl : lv_has ls 6 [(0, .ref aX_0), (1, .int p1), (2, .int p2), (3, .long v3_7), (5, .int v5_8)] := hl
            replace hF : L_X6_birds_30 zX p1 p2 (n + 1) v3_7 v5_8 = some (v3_11, v5_12) := hF
            rw [L_X6_birds_30] at hF
            refine lv_iload hx hb dX6_birds_30 (lv_at hl 4 rfl) ?_
            refine lv_iload_n hx hb dX6_birds_32 rfl (lv_at hl 1 rfl) ?_
            refine lv_icmp_ge (tgt := 54) hx hb dX6_birds_33 (by decide) (fun c_13 => ?_) (fun c_13 => ?_)
            · replace hF := if_i c_13 hF
              obtain ⟨g_14, g_15⟩ : v3_7 = v3_11 ∧ v5_8 = v5_12 := by have h9 := Option.some.inj hF; simpa only [Prod.mk.injEq] using h9
              subst g_14
              subst g_15
              exact J_10 H locs ls ⟨hP, hD, hS, lv_sub hl [0, 1, 2, 3, 4] rfl⟩
            · replace hF := if_o c_13 hF
              refine lv_lload_n hx hb dX6_birds_36 rfl (lv_at hl 3 rfl) ?_
              refine lv_bipush (v := 100) hx hb dX6_birds_37 (by decide) ?_
              refine lv_iload_n hx hb dX6_birds_39 rfl (lv_at hl 2 rfl) ?_
              refine lv_isub hx hb dX6_birds_40 ?_
              refine lv_i2l (v := (Int32.toInt64 (100 - p2))) hx hb dX6_birds_41 rfl ?_
              refine lv_lmul hx hb dX6_birds_42 ?_
              refine lv_ldc2 (v := 100) hx hb hown hk_2 dX6_birds_43 ?_
              replace hF := dvl_i hF
              obtain ⟨hne_16, hF⟩ := hF
              refine lv_ldiv hx hb dX6_birds_46 hne_16 ?_
              refine lv_topl (fun v3_17 ev3_17 => ?_)
              replace hF := nm_i hF ev3_17
              refine lv_lstore_n (lv' := [(3, .long v3_17), (0, .ref aX_0), (1, .int p1), (2, .int p2), (5, .int v5_8)]) hx hb dX6_birds_47 rfl hl (by decide) rfl (fun ls hl => ?_)
              obtain ⟨v5_18, ev5_18⟩ : ∃ y : Int32, y = v5_8 + 1 := ⟨_, rfl⟩
              replace hF := nm_i hF ev5_18
              refine lv_iinc (v := v5_18) (lv' := [(5, .int v5_18), (3, .long v3_17), (0, .ref aX_0), (1, .int p1), (2, .int p2)]) hx hb dX6_birds_48 hl (k := 4) rfl (by rw [ev5_18]; rfl) (by decide) rfl (fun ls hl => ?_)
              refine lv_goto (tgt := 30) hx hb dX6_birds_51 (by decide) ?_
              exact ih_9 (v3_17, v5_18) H locs ls ⟨hF, hP, hD, hS, lv_sub hl [2, 3, 4, 1, 0] rfl⟩
        · replace hF := if_o c_4 hF
          refine lv_ldc (v := (-1000000002)) hx hb hown hk_0 dX6_birds_20 ?_
          obtain rfl := Option.some.inj hF
          exact W.iret (v := (-1000000002)) hx hb hr (fun t ht hW => ⟨⟨_, (), rfl, rfl, by rw [ht]; exact hP, va_K.moved hW.alike hK, hD⟩, hS.F ht⟩) hS.2.2 dX6_birds_22

noncomputable def f_X5_clear (zS : SS) : Option (SS) := nm ((vp_updL zS.1 0 0, zS.2) : SS) fun zS_1 => nm ((vp_updL zS_1.1 1 0, zS_1.2) : SS) fun zS_2 => nm ((vp_updL zS_2.1 2 0, zS_2.2) : SS) fun zS_3 => nm ((zS_3.1, upd zS_3.2.1 3 0, zS_3.2.2) : SS) fun zS_4 => nm ((zS_4.1, upd zS_4.2.1 4 0, zS_4.2.2) : SS) fun zS_5 => some zS_5
set_option maxHeartbeats 4000000 in
set_option maxRecDepth 100000 in
theorem c_X5_clear (l : Launch) (D : va_G) (ci : Nat → ClassId) (aS_0 : Nat) (aS_1 : Nat) (sz : Nat) (zS : SS) (res : SS) (hF : f_X5_clear zS = some res) : CtV l yX5_clear wsX5_clear { frames := 0, cells := 0, slots := 0, locals := 0 } [.ref aS_0] D ci (wcS ci aS_0 aS_1 zS) sz (wcS ci aS_0 aS_1 res) := by
  refine Met.ofW (cc := cX5_clear) (maxL := 1) (ret := none) (by decide) rfl ?_
  intro p e s m args below meth c s₁ B hml hv
  obtain ⟨rfl, hsz, hP, hK, hD0⟩ := hv
  have hx := B.exec
  have hb := B.bytes
  have hr := B.returns
  have hts := atoms_spec (ws := wsX5_clear) B.pre
  have hown : s.vm.findClass RX5 = some m.cls := findClass_of_methodNamed B.named
  have hlocks := B.notSynchronized
  subst hsz
  have hD := hD0.self (sz := s.heap.size)
  generalize hAe : va_A (wcS ci aS_0 aS_1 zS) s.heap.size = A at hD ⊢
  have hA : ∀ q : Nat, s.heap.size ≤ q → A q := fun q h => by rw [← hAe]; exact Or.inr h
  clear hD0 hAe
  have hl := lv_entry ([.ref aS_0]) (n := 1) (Nat.le_of_ble_eq_true rfl)
  rw [lg_entry_eq]
  generalize (lg_sl ([.ref aS_0]) ++ List.replicate (1 - (lg_sl ([.ref aS_0])).length) Slot.unset).toArray = ls at hl ⊢
  have hl : lv_has ls 1 [(0, .ref aS_0)] := hl
  have hP : va_P D vwCl (wcS ci aS_0 aS_1 zS) s.heap := hP
  generalize hH0 : s.heap = H at hP ⊢
  have hS : va_S A s.heap H [] := by rw [← hH0]; exact va_S.rf
  clear hH0
  generalize ([] : List Loc) = locs at hS ⊢
  have hk_0 := hts (.fieldLink RX5 15 "HedgeWar$Stand" "hedges" "J") (by decide +kernel)
  have hin_RX5 : ∀ w ∈ wsX50, w ∈ wsX5_clear := by decide +kernel
  have hk_2 := hts (.fieldLink RX5 19 "HedgeWar$Stand" "ofOne" "J") (by decide +kernel)
  have hk_3 := hts (.fieldLink RX5 22 "HedgeWar$Stand" "gates" "J") (by decide +kernel)
  have hk_4 := hts (.fieldLink RX5 25 "HedgeWar$Stand" "ownedByOne" "I") (by decide +kernel)
  have hk_5 := hts (.fieldLink RX5 29 "HedgeWar$Stand" "years" "I") (by decide +kernel)
  unfold f_X5_clear at hF
  refine lv_aload_n hx hb dX5_clear_0 rfl (lv_at hl 0 rfl) ?_
  refine lv_lconst (v := 0) hx hb dX5_clear_1 (by decide) ?_
  refine va_put (D := D) (ci := 5) (v := .long 0) (ty := .long) (C := RX5) (T := TX5) (N := 6) hx hb hts hin_RX5 tyX5 tyX5_ok nmX5 hown hK hP hD hS 0 rfl rfl 0 (by decide) hk_0 (fun _ h9 => h9) rfl (by decide +kernel) rfl rfl (Nat.le_of_ble_eq_true rfl) dX5_clear_2 (fun H locs hP hD hS => ?_)
  obtain ⟨zS_1, ezS_1⟩ : ∃ y : SS, y = (vp_updL zS.1 0 0, zS.2) := ⟨_, rfl⟩
  replace hF := nm_i hF ezS_1
  have hP : va_P D vwCl (wcS ci aS_0 aS_1 zS_1) H := by rw [ezS_1]; exact hP
  have hD : va_D A (wcS ci aS_0 aS_1 zS_1) := by rw [ezS_1]; exact hD
  refine lv_aload_n hx hb dX5_clear_5 rfl (lv_at hl 0 rfl) ?_
  refine lv_lconst (v := 0) hx hb dX5_clear_6 (by decide) ?_
  refine va_put (D := D) (ci := 5) (v := .long 0) (ty := .long) (C := RX5) (T := TX5) (N := 6) hx hb hts hin_RX5 tyX5 tyX5_ok nmX5 hown hK hP hD hS 0 rfl rfl 1 (by decide) hk_2 (fun _ h9 => h9) rfl (by decide +kernel) rfl rfl (Nat.le_of_ble_eq_true rfl) dX5_clear_7 (fun H locs hP hD hS => ?_)
  obtain ⟨zS_2, ezS_2⟩ : ∃ y : SS, y = (vp_updL zS_1.1 1 0, zS_1.2) := ⟨_, rfl⟩
  replace hF := nm_i hF ezS_2
  have hP : va_P D vwCl (wcS ci aS_0 aS_1 zS_2) H := by rw [ezS_2]; exact hP
  have hD : va_D A (wcS ci aS_0 aS_1 zS_2) := by rw [ezS_2]; exact hD
  refine lv_aload_n hx hb dX5_clear_10 rfl (lv_at hl 0 rfl) ?_
  refine lv_lconst (v := 0) hx hb dX5_clear_11 (by decide) ?_
  refine va_put (D := D) (ci := 5) (v := .long 0) (ty := .long) (C := RX5) (T := TX5) (N := 6) hx hb hts hin_RX5 tyX5 tyX5_ok nmX5 hown hK hP hD hS 0 rfl rfl 2 (by decide) hk_3 (fun _ h9 => h9) rfl (by decide +kernel) rfl rfl (Nat.le_of_ble_eq_true rfl) dX5_clear_12 (fun H locs hP hD hS => ?_)
  obtain ⟨zS_3, ezS_3⟩ : ∃ y : SS, y = (vp_updL zS_2.1 2 0, zS_2.2) := ⟨_, rfl⟩
  replace hF := nm_i hF ezS_3
  have hP : va_P D vwCl (wcS ci aS_0 aS_1 zS_3) H := by rw [ezS_3]; exact hP
  have hD : va_D A (wcS ci aS_0 aS_1 zS_3) := by rw [ezS_3]; exact hD
  refine lv_aload_n hx hb dX5_clear_15 rfl (lv_at hl 0 rfl) ?_
  refine lv_iconst (v := 0) hx hb dX5_clear_16 (by decide) ?_
  refine va_put (D := D) (ci := 5) (v := .int 0) (ty := .int) (C := RX5) (T := TX5) (N := 6) hx hb hts hin_RX5 tyX5 tyX5_ok nmX5 hown hK hP hD hS 0 rfl rfl 3 (by decide) hk_4 (fun _ h9 => h9) rfl (by decide +kernel) rfl rfl (Nat.le_of_ble_eq_true rfl) dX5_clear_17 (fun H locs hP hD hS => ?_)
  obtain ⟨zS_4, ezS_4⟩ : ∃ y : SS, y = (zS_3.1, upd zS_3.2.1 3 0, zS_3.2.2) := ⟨_, rfl⟩
  replace hF := nm_i hF ezS_4
  have hP : va_P D vwCl (wcS ci aS_0 aS_1 zS_4) H := by rw [ezS_4]; exact hP
  have hD : va_D A (wcS ci aS_0 aS_1 zS_4) := by rw [ezS_4]; exact hD
  refine lv_aload_n hx hb dX5_clear_20 rfl (lv_at hl 0 rfl) ?_
  refine lv_iconst (v := 0) hx hb dX5_clear_21 (by decide) ?_
  refine va_put (D := D) (ci := 5) (v := .int 0) (ty := .int) (C := RX5) (T := TX5) (N := 6) hx hb hts hin_RX5 tyX5 tyX5_ok nmX5 hown hK hP hD hS 0 rfl rfl 4 (by decide) hk_5 (fun _ h9 => h9) rfl (by decide +kernel) rfl rfl (Nat.le_of_ble_eq_true rfl) dX5_clear_22 (fun H locs hP hD hS => ?_)
  obtain ⟨zS_5, ezS_5⟩ : ∃ y : SS, y = (zS_4.1, upd zS_4.2.1 4 0, zS_4.2.2) := ⟨_, rfl⟩
  replace hF := nm_i hF ezS_5
  have hP : va_P D vwCl (wcS ci aS_0 aS_1 zS_5) H := by rw [ezS_5]; exact hP
  have hD : va_D A (wcS ci aS_0 aS_1 zS_5) := by rw [ezS_5]; exact hD
  obtain rfl := Option.some.inj hF
  exact W.vret hx hb hr (fun t ht hW => ⟨⟨(), rfl, trivial, by rw [ht]; exact hP, va_K.moved hW.alike hK, hD⟩, hS.F ht⟩) hS.2.2 dX5_clear_25
noncomputable def f_X5_copyFrom (zS : SS) (zS2 : SS) : Option (SS) := nm (zS2.1 0) fun f0_1 => nm ((vp_updL zS.1 0 f0_1, zS.2) : SS) fun zS_2 => nm (zS2.1 1) fun f1_3 => nm ((vp_updL zS_2.1 1 f1_3, zS_2.2) : SS) fun zS_4 => nm (zS2.1 2) fun f2_5 => nm ((vp_updL zS_4.1 2 f2_5, zS_4.2) : SS) fun zS_6 => nm (zS2.2.1 3) fun f3_7 => nm ((zS_6.1, upd zS_6.2.1 3 f3_7, zS_6.2.2) : SS) fun zS_8 => nm (zS2.2.1 4) fun f4_9 => nm ((zS_8.1, upd zS_8.2.1 4 f4_9, zS_8.2.2) : SS) fun zS_10 => nm ((zS_10.1, zS_10.2.1, (va_cpy zS2.2.2 zS_10.2.2 0 0 40)) : SS) fun zS_11 => some zS_11
set_option maxHeartbeats 4000000 in
set_option maxRecDepth 100000 in
theorem c_X5_copyFrom (l : Launch) (D : va_G) (ci : Nat → ClassId) (aS_0 : Nat) (aS_1 : Nat) (aS2_0 : Nat) (aS2_1 : Nat) (sz : Nat) (zS : SS) (zS2 : SS) (res : SS) (hF : f_X5_copyFrom zS zS2 = some res) : CtV l yX5_copyFrom wsX5_copyFrom { frames := 1, cells := 0, slots := 0, locals := 40 } [.ref aS_0, .ref aS2_0] D ci ((wcS ci aS_0 aS_1 zS) ++ (wcS ci aS2_0 aS2_1 zS2)) sz ((wcS ci aS_0 aS_1 res) ++ (wcS ci aS2_0 aS2_1 zS2)) := by
  refine Met.ofW (cc := cX5_copyFrom) (maxL := 2) (ret := none) (by decide) rfl ?_
  intro p e s m args below meth c s₁ B hml hv
  obtain ⟨rfl, hsz, hP, hK, hD0⟩ := hv
  have hx := B.exec
  have hb := B.bytes
  have hr := B.returns
  have hts := atoms_spec (ws := wsX5_copyFrom) B.pre
  have hown : s.vm.findClass RX5 = some m.cls := findClass_of_methodNamed B.named
  have hlocks := B.notSynchronized
  subst hsz
  have hD := hD0.self (sz := s.heap.size)
  generalize hAe : va_A ((wcS ci aS_0 aS_1 zS) ++ (wcS ci aS2_0 aS2_1 zS2)) s.heap.size = A at hD ⊢
  have hA : ∀ q : Nat, s.heap.size ≤ q → A q := fun q h => by rw [← hAe]; exact Or.inr h
  clear hD0 hAe
  have hl := lv_entry ([.ref aS_0, .ref aS2_0]) (n := 2) (Nat.le_of_ble_eq_true rfl)
  rw [lg_entry_eq]
  generalize (lg_sl ([.ref aS_0, .ref aS2_0]) ++ List.replicate (2 - (lg_sl ([.ref aS_0, .ref aS2_0])).length) Slot.unset).toArray = ls at hl ⊢
  have hl : lv_has ls 2 [(0, .ref aS_0), (1, .ref aS2_0)] := hl
  have hP : va_P D vwCl ((wcS ci aS_0 aS_1 zS) ++ (wcS ci aS2_0 aS2_1 zS2)) s.heap := hP
  generalize hH0 : s.heap = H at hP ⊢
  have hS : va_S A s.heap H [] := by rw [← hH0]; exact va_S.rf
  clear hH0
  generalize ([] : List Loc) = locs at hS ⊢
  have hk_0 := hts (.fieldLink RX5 15 "HedgeWar$Stand" "hedges" "J") (by decide +kernel)
  have hin_RX5 : ∀ w ∈ wsX50, w ∈ wsX5_copyFrom := by decide +kernel
  have hk_2 := hts (.fieldLink RX5 19 "HedgeWar$Stand" "ofOne" "J") (by decide +kernel)
  have hk_3 := hts (.fieldLink RX5 22 "HedgeWar$Stand" "gates" "J") (by decide +kernel)
  have hk_4 := hts (.fieldLink RX5 25 "HedgeWar$Stand" "ownedByOne" "I") (by decide +kernel)
  have hk_5 := hts (.fieldLink RX5 29 "HedgeWar$Stand" "years" "I") (by decide +kernel)
  have hk_6 := hts (.fieldLink RX5 9 "HedgeWar$Stand" "ages" "[I") (by decide +kernel)
  have hk_7 := hts (.methodLink RX5 32 arraycopyName) (by decide +kernel)
  have hk_8 := hts (.native arraycopyName) (by decide +kernel)
  have hk_9 := hts (.static arraycopyName) (by decide +kernel)
  have hk_10 := hts (.initialized "java/lang/System") (by decide +kernel)
  unfold f_X5_copyFrom at hF
  refine lv_aload_n hx hb dX5_copyFrom_0 rfl (lv_at hl 0 rfl) ?_
  refine lv_aload_n hx hb dX5_copyFrom_1 rfl (lv_at hl 1 rfl) ?_
  refine va_get (D := D) (ci := 5) (v := .long (zS2.1 0)) (C := RX5) (T := TX5) (N := 6) hx hb hts hin_RX5 hown hK hP 2 rfl rfl 0 (by decide) hk_0 (fun _ h9 => h9) rfl dX5_copyFrom_2 ?_
  refine lv_topl (fun f0_1 ef0_1 => ?_)
  replace hF := nm_i hF ef0_1
  refine va_put (D := D) (ci := 5) (v := .long f0_1) (ty := .long) (C := RX5) (T := TX5) (N := 6) hx hb hts hin_RX5 tyX5 tyX5_ok nmX5 hown hK hP hD hS 0 rfl rfl 0 (by decide) hk_0 (fun _ h9 => h9) rfl (by decide +kernel) rfl rfl (Nat.le_of_ble_eq_true rfl) dX5_copyFrom_5 (fun H locs hP hD hS => ?_)
  obtain ⟨zS_2, ezS_2⟩ : ∃ y : SS, y = (vp_updL zS.1 0 f0_1, zS.2) := ⟨_, rfl⟩
  replace hF := nm_i hF ezS_2
  have hP : va_P D vwCl ((wcS ci aS_0 aS_1 zS_2) ++ (wcS ci aS2_0 aS2_1 zS2)) H := by rw [ezS_2]; exact hP
  have hD : va_D A ((wcS ci aS_0 aS_1 zS_2) ++ (wcS ci aS2_0 aS2_1 zS2)) := by rw [ezS_2]; exact hD
  refine lv_aload_n hx hb dX5_copyFrom_8 rfl (lv_at hl 0 rfl) ?_
  refine lv_aload_n hx hb dX5_copyFrom_9 rfl (lv_at hl 1 rfl) ?_
  refine va_get (D := D) (ci := 5) (v := .long (zS2.1 1)) (C := RX5) (T := TX5) (N := 6) hx hb hts hin_RX5 hown hK hP 2 rfl rfl 1 (by decide) hk_2 (fun _ h9 => h9) rfl dX5_copyFrom_10 ?_
  refine lv_topl (fun f1_3 ef1_3 => ?_)
  replace hF := nm_i hF ef1_3
  refine va_put (D := D) (ci := 5) (v := .long f1_3) (ty := .long) (C := RX5) (T := TX5) (N := 6) hx hb hts hin_RX5 tyX5 tyX5_ok nmX5 hown hK hP hD hS 0 rfl rfl 1 (by decide) hk_2 (fun _ h9 => h9) rfl (by decide +kernel) rfl rfl (Nat.le_of_ble_eq_true rfl) dX5_copyFrom_13 (fun H locs hP hD hS => ?_)
  obtain ⟨zS_4, ezS_4⟩ : ∃ y : SS, y = (vp_updL zS_2.1 1 f1_3, zS_2.2) := ⟨_, rfl⟩
  replace hF := nm_i hF ezS_4
  have hP : va_P D vwCl ((wcS ci aS_0 aS_1 zS_4) ++ (wcS ci aS2_0 aS2_1 zS2)) H := by rw [ezS_4]; exact hP
  have hD : va_D A ((wcS ci aS_0 aS_1 zS_4) ++ (wcS ci aS2_0 aS2_1 zS2)) := by rw [ezS_4]; exact hD
  refine lv_aload_n hx hb dX5_copyFrom_16 rfl (lv_at hl 0 rfl) ?_
  refine lv_aload_n hx hb dX5_copyFrom_17 rfl (lv_at hl 1 rfl) ?_
  refine va_get (D := D) (ci := 5) (v := .long (zS2.1 2)) (C := RX5) (T := TX5) (N := 6) hx hb hts hin_RX5 hown hK hP 2 rfl rfl 2 (by decide) hk_3 (fun _ h9 => h9) rfl dX5_copyFrom_18 ?_
  refine lv_topl (fun f2_5 ef2_5 => ?_)
  replace hF := nm_i hF ef2_5
  refine va_put (D := D) (ci := 5) (v := .long f2_5) (ty := .long) (C := RX5) (T := TX5) (N := 6) hx hb hts hin_RX5 tyX5 tyX5_ok nmX5 hown hK hP hD hS 0 rfl rfl 2 (by decide) hk_3 (fun _ h9 => h9) rfl (by decide +kernel) rfl rfl (Nat.le_of_ble_eq_true rfl) dX5_copyFrom_21 (fun H locs hP hD hS => ?_)
  obtain ⟨zS_6, ezS_6⟩ : ∃ y : SS, y = (vp_updL zS_4.1 2 f2_5, zS_4.2) := ⟨_, rfl⟩
  replace hF := nm_i hF ezS_6
  have hP : va_P D vwCl ((wcS ci aS_0 aS_1 zS_6) ++ (wcS ci aS2_0 aS2_1 zS2)) H := by rw [ezS_6]; exact hP
  have hD : va_D A ((wcS ci aS_0 aS_1 zS_6) ++ (wcS ci aS2_0 aS2_1 zS2)) := by rw [ezS_6]; exact hD
  refine lv_aload_n hx hb dX5_copyFrom_24 rfl (lv_at hl 0 rfl) ?_
  refine lv_aload_n hx hb dX5_copyFrom_25 rfl (lv_at hl 1 rfl) ?_
  refine va_get (D := D) (ci := 5) (v := .int (zS2.2.1 3)) (C := RX5) (T := TX5) (N := 6) hx hb hts hin_RX5 hown hK hP 2 rfl rfl 3 (by decide) hk_4 (fun _ h9 => h9) rfl dX5_copyFrom_26 ?_
  refine lv_topi (fun f3_7 ef3_7 => ?_)
  replace hF := nm_i hF ef3_7
  refine va_put (D := D) (ci := 5) (v := .int f3_7) (ty := .int) (C := RX5) (T := TX5) (N := 6) hx hb hts hin_RX5 tyX5 tyX5_ok nmX5 hown hK hP hD hS 0 rfl rfl 3 (by decide) hk_4 (fun _ h9 => h9) rfl (by decide +kernel) rfl rfl (Nat.le_of_ble_eq_true rfl) dX5_copyFrom_29 (fun H locs hP hD hS => ?_)
  obtain ⟨zS_8, ezS_8⟩ : ∃ y : SS, y = (zS_6.1, upd zS_6.2.1 3 f3_7, zS_6.2.2) := ⟨_, rfl⟩
  replace hF := nm_i hF ezS_8
  have hP : va_P D vwCl ((wcS ci aS_0 aS_1 zS_8) ++ (wcS ci aS2_0 aS2_1 zS2)) H := by rw [ezS_8]; exact hP
  have hD : va_D A ((wcS ci aS_0 aS_1 zS_8) ++ (wcS ci aS2_0 aS2_1 zS2)) := by rw [ezS_8]; exact hD
  refine lv_aload_n hx hb dX5_copyFrom_32 rfl (lv_at hl 0 rfl) ?_
  refine lv_aload_n hx hb dX5_copyFrom_33 rfl (lv_at hl 1 rfl) ?_
  refine va_get (D := D) (ci := 5) (v := .int (zS2.2.1 4)) (C := RX5) (T := TX5) (N := 6) hx hb hts hin_RX5 hown hK hP 2 rfl rfl 4 (by decide) hk_5 (fun _ h9 => h9) rfl dX5_copyFrom_34 ?_
  refine lv_topi (fun f4_9 ef4_9 => ?_)
  replace hF := nm_i hF ef4_9
  refine va_put (D := D) (ci := 5) (v := .int f4_9) (ty := .int) (C := RX5) (T := TX5) (N := 6) hx hb hts hin_RX5 tyX5 tyX5_ok nmX5 hown hK hP hD hS 0 rfl rfl 4 (by decide) hk_5 (fun _ h9 => h9) rfl (by decide +kernel) rfl rfl (Nat.le_of_ble_eq_true rfl) dX5_copyFrom_37 (fun H locs hP hD hS => ?_)
  obtain ⟨zS_10, ezS_10⟩ : ∃ y : SS, y = (zS_8.1, upd zS_8.2.1 4 f4_9, zS_8.2.2) := ⟨_, rfl⟩
  replace hF := nm_i hF ezS_10
  have hP : va_P D vwCl ((wcS ci aS_0 aS_1 zS_10) ++ (wcS ci aS2_0 aS2_1 zS2)) H := by rw [ezS_10]; exact hP
  have hD : va_D A ((wcS ci aS_0 aS_1 zS_10) ++ (wcS ci aS2_0 aS2_1 zS2)) := by rw [ezS_10]; exact hD
  refine lv_aload_n hx hb dX5_copyFrom_40 rfl (lv_at hl 1 rfl) ?_
  refine va_get (D := D) (ci := 5) (v := .ref aS2_1) (C := RX5) (T := TX5) (N := 6) hx hb hts hin_RX5 hown hK hP 2 rfl rfl 5 (by decide) hk_6 (fun _ h9 => h9) rfl dX5_copyFrom_41 ?_
  refine lv_iconst (v := 0) hx hb dX5_copyFrom_44 (by decide) ?_
  refine lv_aload_n hx hb dX5_copyFrom_45 rfl (lv_at hl 0 rfl) ?_
  refine va_get (D := D) (ci := 5) (v := .ref aS_1) (C := RX5) (T := TX5) (N := 6) hx hb hts hin_RX5 hown hK hP 0 rfl rfl 5 (by decide) hk_6 (fun _ h9 => h9) rfl dX5_copyFrom_46 ?_
  refine lv_iconst (v := 0) hx hb dX5_copyFrom_49 (by decide) ?_
  refine lv_bipush (v := 40) hx hb dX5_copyFrom_50 (by decide) ?_
  refine va_copyi hx hb (hml.trans hl.1.symm) hown hk_7 hk_8 hk_9 hk_10 hK hP hD hS 3 1 0 0 rfl rfl rfl rfl rfl (sp := 0) (dp := 0) (n := 40) (by decide) (by decide) (by decide) (by decide) (by decide) (fun _ _ => rfl) (Nat.le_of_ble_eq_true rfl) (by decide) dX5_copyFrom_52 (fun H locs hP hD hS => ?_)
  obtain ⟨zS_11, ezS_11⟩ : ∃ y : SS, y = (zS_10.1, zS_10.2.1, (va_cpy zS2.2.2 zS_10.2.2 0 0 40)) := ⟨_, rfl⟩
  replace hF := nm_i hF ezS_11
  have hP : va_P D vwCl ((wcS ci aS_0 aS_1 zS_11) ++ (wcS ci aS2_0 aS2_1 zS2)) H := by rw [ezS_11]; exact hP
  have hD : va_D A ((wcS ci aS_0 aS_1 zS_11) ++ (wcS ci aS2_0 aS2_1 zS2)) := by rw [ezS_11]; exact hD
  obtain rfl := Option.some.inj hF
  exact W.vret hx hb hr (fun t ht hW => ⟨⟨(), rfl, trivial, by rw [ht]; exact hP, va_K.moved hW.alike hK, hD⟩, hS.F ht⟩) hS.2.2 dX5_copyFrom_55
noncomputable def f_X5_ownerOf (zS : SS) (p1 : Int32) : Option (Int32) := some (((zS.2.1 3) >>> (p1 &&& 31)) &&& 1)
set_option maxHeartbeats 4000000 in
set_option maxRecDepth 100000 in
theorem c_X5_ownerOf (l : Launch) (D : va_G) (ci : Nat → ClassId) (aS_0 : Nat) (aS_1 : Nat) (sz : Nat) (zS : SS) (p1 : Int32) (res : Int32) (hF : f_X5_ownerOf zS p1 = some res) : CtI l yX5_ownerOf wsX5_ownerOf { frames := 0, cells := 0, slots := 0, locals := 0 } [.ref aS_0, .int p1] D ci (wcS ci aS_0 aS_1 zS) sz res (wcS ci aS_0 aS_1 zS) := by
  refine Met.ofW (cc := cX5_ownerOf) (maxL := 2) (ret := (some .int)) (by decide) rfl ?_
  intro p e s m args below meth c s₁ B hml hv
  obtain ⟨rfl, hsz, hP, hK, hD0⟩ := hv
  have hx := B.exec
  have hb := B.bytes
  have hr := B.returns
  have hts := atoms_spec (ws := wsX5_ownerOf) B.pre
  have hown : s.vm.findClass RX5 = some m.cls := findClass_of_methodNamed B.named
  have hlocks := B.notSynchronized
  subst hsz
  have hD := hD0.self (sz := s.heap.size)
  generalize hAe : va_A (wcS ci aS_0 aS_1 zS) s.heap.size = A at hD ⊢
  have hA : ∀ q : Nat, s.heap.size ≤ q → A q := fun q h => by rw [← hAe]; exact Or.inr h
  clear hD0 hAe
  have hl := lv_entry ([.ref aS_0, .int p1]) (n := 2) (Nat.le_of_ble_eq_true rfl)
  rw [lg_entry_eq]
  generalize (lg_sl ([.ref aS_0, .int p1]) ++ List.replicate (2 - (lg_sl ([.ref aS_0, .int p1])).length) Slot.unset).toArray = ls at hl ⊢
  have hl : lv_has ls 2 [(0, .ref aS_0), (1, .int p1)] := hl
  have hP : va_P D vwCl (wcS ci aS_0 aS_1 zS) s.heap := hP
  generalize hH0 : s.heap = H at hP ⊢
  have hS : va_S A s.heap H [] := by rw [← hH0]; exact va_S.rf
  clear hH0
  generalize ([] : List Loc) = locs at hS ⊢
  have hk_0 := hts (.fieldLink RX5 25 "HedgeWar$Stand" "ownedByOne" "I") (by decide +kernel)
  have hin_RX5 : ∀ w ∈ wsX50, w ∈ wsX5_ownerOf := by decide +kernel
  unfold f_X5_ownerOf at hF
  refine lv_aload_n hx hb dX5_ownerOf_0 rfl (lv_at hl 0 rfl) ?_
  refine va_get (D := D) (ci := 5) (v := .int (zS.2.1 3)) (C := RX5) (T := TX5) (N := 6) hx hb hts hin_RX5 hown hK hP 0 rfl rfl 3 (by decide) hk_0 (fun _ h9 => h9) rfl dX5_ownerOf_1 ?_
  refine lv_iload_n hx hb dX5_ownerOf_4 rfl (lv_at hl 1 rfl) ?_
  refine lv_ishr hx hb dX5_ownerOf_5 ?_
  refine lv_iconst (v := 1) hx hb dX5_ownerOf_6 (by decide) ?_
  refine lv_iand hx hb dX5_ownerOf_7 ?_
  obtain rfl := Option.some.inj hF
  exact W.iret (v := (((zS.2.1 3) >>> (p1 &&& 31)) &&& 1)) hx hb hr (fun t ht hW => ⟨⟨_, (), rfl, rfl, by rw [ht]; exact hP, va_K.moved hW.alike hK, hD⟩, hS.F ht⟩) hS.2.2 dX5_ownerOf_8
noncomputable def f_X5_setHedge (zS : SS) (p1 : Int32) (p2 : Int64) (p4 : Int32) (p5 : Int32) : Option (SS) := nm ((zS.1 0) ||| p2) fun f0_1 => nm ((vp_updL zS.1 0 f0_1, zS.2) : SS) fun zS_2 => (if p4 = 1 then (some (((zS_2.1 1) ||| p2) : Int64)) else (some (((zS_2.1 1) &&& (p2 ^^^ (-1))) : Int64))).bind fun t_3 => nm ((vp_updL zS_2.1 1 t_3, zS_2.2) : SS) fun zS_7 => ast 40 p1 <| nm ((zS_7.1, zS_7.2.1, (upd zS_7.2.2 (Int32.toNatClampNeg p1) p5)) : SS) fun zS_9 => some zS_9
set_option maxHeartbeats 4000000 in
set_option maxRecDepth 100000 in
theorem c_X5_setHedge (l : Launch) (D : va_G) (ci : Nat → ClassId) (aS_0 : Nat) (aS_1 : Nat) (sz : Nat) (zS : SS) (p1 : Int32) (p2 : Int64) (p4 : Int32) (p5 : Int32) (res : SS) (hF : f_X5_setHedge zS p1 p2 p4 p5 = some res) : CtV l yX5_setHedge wsX5_setHedge { frames := 0, cells := 0, slots := 0, locals := 0 } [.ref aS_0, .int p1, .long p2, .int p4, .int p5] D ci (wcS ci aS_0 aS_1 zS) sz (wcS ci aS_0 aS_1 res) := by
  refine Met.ofW (cc := cX5_setHedge) (maxL := 6) (ret := none) (by decide) rfl ?_
  intro p e s m args below meth c s₁ B hml hv
  obtain ⟨rfl, hsz, hP, hK, hD0⟩ := hv
  have hx := B.exec
  have hb := B.bytes
  have hr := B.returns
  have hts := atoms_spec (ws := wsX5_setHedge) B.pre
  have hown : s.vm.findClass RX5 = some m.cls := findClass_of_methodNamed B.named
  have hlocks := B.notSynchronized
  subst hsz
  have hD := hD0.self (sz := s.heap.size)
  generalize hAe : va_A (wcS ci aS_0 aS_1 zS) s.heap.size = A at hD ⊢
  have hA : ∀ q : Nat, s.heap.size ≤ q → A q := fun q h => by rw [← hAe]; exact Or.inr h
  clear hD0 hAe
  have hl := lv_entry ([.ref aS_0, .int p1, .long p2, .int p4, .int p5]) (n := 6) (Nat.le_of_ble_eq_true rfl)
  rw [lg_entry_eq]
  generalize (lg_sl ([.ref aS_0, .int p1, .long p2, .int p4, .int p5]) ++ List.replicate (6 - (lg_sl ([.ref aS_0, .int p1, .long p2, .int p4, .int p5])).length) Slot.unset).toArray = ls at hl ⊢
  have hl : lv_has ls 6 [(0, .ref aS_0), (1, .int p1), (2, .long p2), (4, .int p4), (5, .int p5)] := hl
  have hP : va_P D vwCl (wcS ci aS_0 aS_1 zS) s.heap := hP
  generalize hH0 : s.heap = H at hP ⊢
  have hS : va_S A s.heap H [] := by rw [← hH0]; exact va_S.rf
  clear hH0
  generalize ([] : List Loc) = locs at hS ⊢
  have hk_0 := hts (.fieldLink RX5 15 "HedgeWar$Stand" "hedges" "J") (by decide +kernel)
  have hin_RX5 : ∀ w ∈ wsX50, w ∈ wsX5_setHedge := by decide +kernel
  have hk_2 := hts (.fieldLink RX5 19 "HedgeWar$Stand" "ofOne" "J") (by decide +kernel)
  have hk_3 := hts (.constantLong RX5 38 (-1)) (by decide +kernel)
  have hk_4 := hts (.fieldLink RX5 9 "HedgeWar$Stand" "ages" "[I") (by decide +kernel)
  unfold f_X5_setHedge at hF
  refine lv_aload_n hx hb dX5_setHedge_0 rfl (lv_at hl 0 rfl) ?_
  refine lv_dup hx hb dX5_setHedge_1 rfl ?_
  refine va_get (D := D) (ci := 5) (v := .long (zS.1 0)) (C := RX5) (T := TX5) (N := 6) hx hb hts hin_RX5 hown hK hP 0 rfl rfl 0 (by decide) hk_0 (fun _ h9 => h9) rfl dX5_setHedge_2 ?_
  refine lv_lload_n hx hb dX5_setHedge_5 rfl (lv_at hl 2 rfl) ?_
  refine lv_lor hx hb dX5_setHedge_6 ?_
  refine lv_topl (fun f0_1 ef0_1 => ?_)
  replace hF := nm_i hF ef0_1
  refine va_put (D := D) (ci := 5) (v := .long f0_1) (ty := .long) (C := RX5) (T := TX5) (N := 6) hx hb hts hin_RX5 tyX5 tyX5_ok nmX5 hown hK hP hD hS 0 rfl rfl 0 (by decide) hk_0 (fun _ h9 => h9) rfl (by decide +kernel) rfl rfl (Nat.le_of_ble_eq_true rfl) dX5_setHedge_7 (fun H locs hP hD hS => ?_)
  obtain ⟨zS_2, ezS_2⟩ : ∃ y : SS, y = (vp_updL zS.1 0 f0_1, zS.2) := ⟨_, rfl⟩
  replace hF := nm_i hF ezS_2
  have hP : va_P D vwCl (wcS ci aS_0 aS_1 zS_2) H := by rw [ezS_2]; exact hP
  have hD : va_D A (wcS ci aS_0 aS_1 zS_2) := by rw [ezS_2]; exact hD
  refine lv_aload_n hx hb dX5_setHedge_10 rfl (lv_at hl 0 rfl) ?_
  refine lv_iload hx hb dX5_setHedge_11 (lv_at hl 3 rfl) ?_
  refine lv_iconst (v := 1) hx hb dX5_setHedge_13 (by decide) ?_
  replace hF := bnd hF
  obtain ⟨t_3, hv_6, hF⟩ := hF
  refine jn (P := fun H locs ls => va_P D vwCl (wcS ci aS_0 aS_1 zS_2) H ∧ va_D A (wcS ci aS_0 aS_1 zS_2) ∧ va_S A s.heap H locs ∧ lv_has ls 6 [(0, .ref aS_0), (1, .int p1), (2, .long p2), (4, .int p4), (5, .int p5)]) (pcJ := 36) (st := [.long t_3, .ref aS_0]) ?_ ?_
  · intro H locs ls hJ
    obtain ⟨hP, hD, hS, hl⟩ := hJ
    refine va_put (D := D) (ci := 5) (v := .long t_3) (ty := .long) (C := RX5) (T := TX5) (N := 6) hx hb hts hin_RX5 tyX5 tyX5_ok nmX5 hown hK hP hD hS 0 rfl rfl 1 (by decide) hk_2 (fun _ h9 => h9) rfl (by decide +kernel) rfl rfl (Nat.le_of_ble_eq_true rfl) dX5_setHedge_36 (fun H locs hP hD hS => ?_)
    obtain ⟨zS_7, ezS_7⟩ : ∃ y : SS, y = (vp_updL zS_2.1 1 t_3, zS_2.2) := ⟨_, rfl⟩
    replace hF := nm_i hF ezS_7
    have hP : va_P D vwCl (wcS ci aS_0 aS_1 zS_7) H := by rw [ezS_7]; exact hP
    have hD : va_D A (wcS ci aS_0 aS_1 zS_7) := by rw [ezS_7]; exact hD
    refine lv_aload_n hx hb dX5_setHedge_39 rfl (lv_at hl 0 rfl) ?_
    refine va_get (D := D) (ci := 5) (v := .ref aS_1) (C := RX5) (T := TX5) (N := 6) hx hb hts hin_RX5 hown hK hP 0 rfl rfl 5 (by decide) hk_4 (fun _ h9 => h9) rfl dX5_setHedge_40 ?_
    refine lv_iload_n hx hb dX5_setHedge_43 rfl (lv_at hl 1 rfl) ?_
    refine lv_iload hx hb dX5_setHedge_44 (lv_at hl 4 rfl) ?_
    replace hF := ast_i hF
    obtain ⟨hin_8, hF⟩ := hF
    refine va_iast (x := p5) hx hb hK hP hD hS 1 0 rfl rfl hin_8 dX5_setHedge_46 (fun H locs hP hD hS => ?_)
    obtain ⟨zS_9, ezS_9⟩ : ∃ y : SS, y = (zS_7.1, zS_7.2.1, (upd zS_7.2.2 (Int32.toNatClampNeg p1) p5)) := ⟨_, rfl⟩
    replace hF := nm_i hF ezS_9
    have hP : va_P D vwCl (wcS ci aS_0 aS_1 zS_9) H := by rw [ezS_9]; exact hP
    have hD : va_D A (wcS ci aS_0 aS_1 zS_9) := by rw [ezS_9]; exact hD
    obtain rfl := Option.some.inj hF
    exact W.vret hx hb hr (fun t ht hW => ⟨⟨(), rfl, trivial, by rw [ht]; exact hP, va_K.moved hW.alike hK, hD⟩, hS.F ht⟩) hS.2.2 dX5_setHedge_47
  · intro J_4
    clear hF
    have hF := hv_6
    refine lv_icmp_ne (tgt := 26) hx hb dX5_setHedge_14 (by decide) (fun c_5 => ?_) (fun c_5 => ?_)
    · replace hF := if_o c_5 hF
      refine lv_aload_n hx hb dX5_setHedge_26 rfl (lv_at hl 0 rfl) ?_
      refine va_get (D := D) (ci := 5) (v := .long (zS_2.1 1)) (C := RX5) (T := TX5) (N := 6) hx hb hts hin_RX5 hown hK hP 0 rfl rfl 1 (by decide) hk_2 (fun _ h9 => h9) rfl dX5_setHedge_27 ?_
      refine lv_lload_n hx hb dX5_setHedge_30 rfl (lv_at hl 2 rfl) ?_
      refine lv_ldc2 (v := (-1)) hx hb hown hk_3 dX5_setHedge_31 ?_
      refine lv_lxor hx hb dX5_setHedge_34 ?_
      refine lv_land hx hb dX5_setHedge_35 ?_
      obtain rfl := Option.some.inj hF
      exact J_4 H locs ls ⟨hP, hD, hS, lv_sub hl [0, 1, 2, 3, 4] rfl⟩
    · replace hF := if_i c_5 hF
      refine lv_aload_n hx hb dX5_setHedge_17 rfl (lv_at hl 0 rfl) ?_
      refine va_get (D := D) (ci := 5) (v := .long (zS_2.1 1)) (C := RX5) (T := TX5) (N := 6) hx hb hts hin_RX5 hown hK hP 0 rfl rfl 1 (by decide) hk_2 (fun _ h9 => h9) rfl dX5_setHedge_18 ?_
      refine lv_lload_n hx hb dX5_setHedge_21 rfl (lv_at hl 2 rfl) ?_
      refine lv_lor hx hb dX5_setHedge_22 ?_
      refine lv_goto (tgt := 36) hx hb dX5_setHedge_23 (by decide) ?_
      obtain rfl := Option.some.inj hF
      exact J_4 H locs ls ⟨hP, hD, hS, lv_sub hl [0, 1, 2, 3, 4] rfl⟩
noncomputable def f_X5_removeHedge (zS : SS) (p1 : Int64) : Option (SS) := nm ((zS.1 0) &&& (p1 ^^^ (-1))) fun f0_1 => nm ((vp_updL zS.1 0 f0_1, zS.2) : SS) fun zS_2 => nm ((zS_2.1 1) &&& (p1 ^^^ (-1))) fun f1_3 => nm ((vp_updL zS_2.1 1 f1_3, zS_2.2) : SS) fun zS_4 => nm ((zS_4.1 2) &&& (p1 ^^^ (-1))) fun f2_5 => nm ((vp_updL zS_4.1 2 f2_5, zS_4.2) : SS) fun zS_6 => some zS_6
set_option maxHeartbeats 4000000 in
set_option maxRecDepth 100000 in
theorem c_X5_removeHedge (l : Launch) (D : va_G) (ci : Nat → ClassId) (aS_0 : Nat) (aS_1 : Nat) (sz : Nat) (zS : SS) (p1 : Int64) (res : SS) (hF : f_X5_removeHedge zS p1 = some res) : CtV l yX5_removeHedge wsX5_removeHedge { frames := 0, cells := 0, slots := 0, locals := 0 } [.ref aS_0, .long p1] D ci (wcS ci aS_0 aS_1 zS) sz (wcS ci aS_0 aS_1 res) := by
  refine Met.ofW (cc := cX5_removeHedge) (maxL := 3) (ret := none) (by decide) rfl ?_
  intro p e s m args below meth c s₁ B hml hv
  obtain ⟨rfl, hsz, hP, hK, hD0⟩ := hv
  have hx := B.exec
  have hb := B.bytes
  have hr := B.returns
  have hts := atoms_spec (ws := wsX5_removeHedge) B.pre
  have hown : s.vm.findClass RX5 = some m.cls := findClass_of_methodNamed B.named
  have hlocks := B.notSynchronized
  subst hsz
  have hD := hD0.self (sz := s.heap.size)
  generalize hAe : va_A (wcS ci aS_0 aS_1 zS) s.heap.size = A at hD ⊢
  have hA : ∀ q : Nat, s.heap.size ≤ q → A q := fun q h => by rw [← hAe]; exact Or.inr h
  clear hD0 hAe
  have hl := lv_entry ([.ref aS_0, .long p1]) (n := 3) (Nat.le_of_ble_eq_true rfl)
  rw [lg_entry_eq]
  generalize (lg_sl ([.ref aS_0, .long p1]) ++ List.replicate (3 - (lg_sl ([.ref aS_0, .long p1])).length) Slot.unset).toArray = ls at hl ⊢
  have hl : lv_has ls 3 [(0, .ref aS_0), (1, .long p1)] := hl
  have hP : va_P D vwCl (wcS ci aS_0 aS_1 zS) s.heap := hP
  generalize hH0 : s.heap = H at hP ⊢
  have hS : va_S A s.heap H [] := by rw [← hH0]; exact va_S.rf
  clear hH0
  generalize ([] : List Loc) = locs at hS ⊢
  have hk_0 := hts (.fieldLink RX5 15 "HedgeWar$Stand" "hedges" "J") (by decide +kernel)
  have hin_RX5 : ∀ w ∈ wsX50, w ∈ wsX5_removeHedge := by decide +kernel
  have hk_2 := hts (.constantLong RX5 38 (-1)) (by decide +kernel)
  have hk_3 := hts (.fieldLink RX5 19 "HedgeWar$Stand" "ofOne" "J") (by decide +kernel)
  have hk_4 := hts (.fieldLink RX5 22 "HedgeWar$Stand" "gates" "J") (by decide +kernel)
  unfold f_X5_removeHedge at hF
  refine lv_aload_n hx hb dX5_removeHedge_0 rfl (lv_at hl 0 rfl) ?_
  refine lv_dup hx hb dX5_removeHedge_1 rfl ?_
  refine va_get (D := D) (ci := 5) (v := .long (zS.1 0)) (C := RX5) (T := TX5) (N := 6) hx hb hts hin_RX5 hown hK hP 0 rfl rfl 0 (by decide) hk_0 (fun _ h9 => h9) rfl dX5_removeHedge_2 ?_
  refine lv_lload_n hx hb dX5_removeHedge_5 rfl (lv_at hl 1 rfl) ?_
  refine lv_ldc2 (v := (-1)) hx hb hown hk_2 dX5_removeHedge_6 ?_
  refine lv_lxor hx hb dX5_removeHedge_9 ?_
  refine lv_land hx hb dX5_removeHedge_10 ?_
  refine lv_topl (fun f0_1 ef0_1 => ?_)
  replace hF := nm_i hF ef0_1
  refine va_put (D := D) (ci := 5) (v := .long f0_1) (ty := .long) (C := RX5) (T := TX5) (N := 6) hx hb hts hin_RX5 tyX5 tyX5_ok nmX5 hown hK hP hD hS 0 rfl rfl 0 (by decide) hk_0 (fun _ h9 => h9) rfl (by decide +kernel) rfl rfl (Nat.le_of_ble_eq_true rfl) dX5_removeHedge_11 (fun H locs hP hD hS => ?_)
  obtain ⟨zS_2, ezS_2⟩ : ∃ y : SS, y = (vp_updL zS.1 0 f0_1, zS.2) := ⟨_, rfl⟩
  replace hF := nm_i hF ezS_2
  have hP : va_P D vwCl (wcS ci aS_0 aS_1 zS_2) H := by rw [ezS_2]; exact hP
  have hD : va_D A (wcS ci aS_0 aS_1 zS_2) := by rw [ezS_2]; exact hD
  refine lv_aload_n hx hb dX5_removeHedge_14 rfl (lv_at hl 0 rfl) ?_
  refine lv_dup hx hb dX5_removeHedge_15 rfl ?_
  refine va_get (D := D) (ci := 5) (v := .long (zS_2.1 1)) (C := RX5) (T := TX5) (N := 6) hx hb hts hin_RX5 hown hK hP 0 rfl rfl 1 (by decide) hk_3 (fun _ h9 => h9) rfl dX5_removeHedge_16 ?_
  refine lv_lload_n hx hb dX5_removeHedge_19 rfl (lv_at hl 1 rfl) ?_
  refine lv_ldc2 (v := (-1)) hx hb hown hk_2 dX5_removeHedge_20 ?_
  refine lv_lxor hx hb dX5_removeHedge_23 ?_
  refine lv_land hx hb dX5_removeHedge_24 ?_
  refine lv_topl (fun f1_3 ef1_3 => ?_)
  replace hF := nm_i hF ef1_3
  refine va_put (D := D) (ci := 5) (v := .long f1_3) (ty := .long) (C := RX5) (T := TX5) (N := 6) hx hb hts hin_RX5 tyX5 tyX5_ok nmX5 hown hK hP hD hS 0 rfl rfl 1 (by decide) hk_3 (fun _ h9 => h9) rfl (by decide +kernel) rfl rfl (Nat.le_of_ble_eq_true rfl) dX5_removeHedge_25 (fun H locs hP hD hS => ?_)
  obtain ⟨zS_4, ezS_4⟩ : ∃ y : SS, y = (vp_updL zS_2.1 1 f1_3, zS_2.2) := ⟨_, rfl⟩
  replace hF := nm_i hF ezS_4
  have hP : va_P D vwCl (wcS ci aS_0 aS_1 zS_4) H := by rw [ezS_4]; exact hP
  have hD : va_D A (wcS ci aS_0 aS_1 zS_4) := by rw [ezS_4]; exact hD
  refine lv_aload_n hx hb dX5_removeHedge_28 rfl (lv_at hl 0 rfl) ?_
  refine lv_dup hx hb dX5_removeHedge_29 rfl ?_
  refine va_get (D := D) (ci := 5) (v := .long (zS_4.1 2)) (C := RX5) (T := TX5) (N := 6) hx hb hts hin_RX5 hown hK hP 0 rfl rfl 2 (by decide) hk_4 (fun _ h9 => h9) rfl dX5_removeHedge_30 ?_
  refine lv_lload_n hx hb dX5_removeHedge_33 rfl (lv_at hl 1 rfl) ?_
  refine lv_ldc2 (v := (-1)) hx hb hown hk_2 dX5_removeHedge_34 ?_
  refine lv_lxor hx hb dX5_removeHedge_37 ?_
  refine lv_land hx hb dX5_removeHedge_38 ?_
  refine lv_topl (fun f2_5 ef2_5 => ?_)
  replace hF := nm_i hF ef2_5
  refine va_put (D := D) (ci := 5) (v := .long f2_5) (ty := .long) (C := RX5) (T := TX5) (N := 6) hx hb hts hin_RX5 tyX5 tyX5_ok nmX5 hown hK hP hD hS 0 rfl rfl 2 (by decide) hk_4 (fun _ h9 => h9) rfl (by decide +kernel) rfl rfl (Nat.le_of_ble_eq_true rfl) dX5_removeHedge_39 (fun H locs hP hD hS => ?_)
  obtain ⟨zS_6, ezS_6⟩ : ∃ y : SS, y = (vp_updL zS_4.1 2 f2_5, zS_4.2) := ⟨_, rfl⟩
  replace hF := nm_i hF ezS_6
  have hP : va_P D vwCl (wcS ci aS_0 aS_1 zS_6) H := by rw [ezS_6]; exact hP
  have hD : va_D A (wcS ci aS_0 aS_1 zS_6) := by rw [ezS_6]; exact hD
  obtain rfl := Option.some.inj hF
  exact W.vret hx hb hr (fun t ht hW => ⟨⟨(), rfl, trivial, by rw [ht]; exact hP, va_K.moved hW.alike hK, hD⟩, hS.F ht⟩) hS.2.2 dX5_removeHedge_42
noncomputable def L_X5_growOlder_2 (zG : GS) : Nat → Int32 → SS → Option (Int32 × SS)
  | 0, _, _ => none
  | n + 1, v2_2, zS_3 => if (zG.1 3) ≤ v2_2 then (some (v2_2, zS_3)) else (ald 40 zG.2.2.2 v2_2 fun x_12 => if (lg_cmp ((zS_3.1 0) &&& x_12) 0) = 0 then (nm (v2_2 + 1) fun v2_14 => L_X5_growOlder_2 zG n v2_14 zS_3) else (ald 40 zS_3.2.2 v2_2 fun x_16 => nm (imin 99 (x_16 + 1)) fun y_18 => ast 40 v2_2 <| nm ((zS_3.1, zS_3.2.1, (upd zS_3.2.2 (Int32.toNatClampNeg v2_2) y_18)) : SS) fun zS_19 => nm (v2_2 + 1) fun v2_20 => L_X5_growOlder_2 zG n v2_20 zS_19))
noncomputable def f_X5_growOlder (zG : GS) (zS : SS) : Option (SS) := nm (0 : Int32) fun v2_1 => (L_X5_growOlder_2 zG 3000 v2_1 zS).bind fun q_22 => nm q_22.1 fun v2_6 => nm q_22.2 fun zS_7 => some zS_7
set_option maxHeartbeats 4000000 in
set_option maxRecDepth 100000 in
theorem c_X5_growOlder (l : Launch) (D : va_G) (ci : Nat → ClassId) (aG_0 : Nat) (aG_1 : Nat) (aG_2 : Nat) (aG_3 : Nat) (aG_4 : Nat) (aS_0 : Nat) (aS_1 : Nat) (sz : Nat) (zG : GS) (zS : SS) (res : SS) (hF : f_X5_growOlder zG zS = some res) : CtV l yX5_growOlder wsX5_growOlder { frames := 1, cells := 0, slots := 0, locals := 21 } [.ref aS_0, .ref aG_0] D ci ((wcG ci aG_0 aG_1 aG_2 aG_3 aG_4 zG) ++ (wcS ci aS_0 aS_1 zS)) sz ((wcG ci aG_0 aG_1 aG_2 aG_3 aG_4 zG) ++ (wcS ci aS_0 aS_1 res)) := by
  refine Met.ofW (cc := cX5_growOlder) (maxL := 3) (ret := none) (by decide) rfl ?_
  intro p e s m args below meth c s₁ B hml hv
  obtain ⟨rfl, hsz, hP, hK, hD0⟩ := hv
  have hx := B.exec
  have hb := B.bytes
  have hr := B.returns
  have hts := atoms_spec (ws := wsX5_growOlder) B.pre
  have hown : s.vm.findClass RX5 = some m.cls := findClass_of_methodNamed B.named
  have hlocks := B.notSynchronized
  subst hsz
  have hD := hD0.self (sz := s.heap.size)
  generalize hAe : va_A ((wcG ci aG_0 aG_1 aG_2 aG_3 aG_4 zG) ++ (wcS ci aS_0 aS_1 zS)) s.heap.size = A at hD ⊢
  have hA : ∀ q : Nat, s.heap.size ≤ q → A q := fun q h => by rw [← hAe]; exact Or.inr h
  clear hD0 hAe
  have hl := lv_entry ([.ref aS_0, .ref aG_0]) (n := 3) (Nat.le_of_ble_eq_true rfl)
  rw [lg_entry_eq]
  generalize (lg_sl ([.ref aS_0, .ref aG_0]) ++ List.replicate (3 - (lg_sl ([.ref aS_0, .ref aG_0])).length) Slot.unset).toArray = ls at hl ⊢
  have hl : lv_has ls 3 [(0, .ref aS_0), (1, .ref aG_0)] := hl
  have hP : va_P D vwCl ((wcG ci aG_0 aG_1 aG_2 aG_3 aG_4 zG) ++ (wcS ci aS_0 aS_1 zS)) s.heap := hP
  generalize hH0 : s.heap = H at hP ⊢
  have hS : va_S A s.heap H [] := by rw [← hH0]; exact va_S.rf
  clear hH0
  generalize ([] : List Loc) = locs at hS ⊢
  have hk_0 := hts (.fieldLink RX5 40 "HedgeWar$Ground" "edges" "I") (by decide +kernel)
  have hin_RX0 : ∀ w ∈ wsX00, w ∈ wsX5_growOlder := by decide +kernel
  have hk_2 := hts (.fieldLink RX5 15 "HedgeWar$Stand" "hedges" "J") (by decide +kernel)
  have hin_RX5 : ∀ w ∈ wsX50, w ∈ wsX5_growOlder := by decide +kernel
  have hk_4 := hts (.fieldLink RX5 45 "HedgeWar$Ground" "places" "[J") (by decide +kernel)
  have hk_5 := hts (.fieldLink RX5 9 "HedgeWar$Stand" "ages" "[I") (by decide +kernel)
  have hk_6 := hts (.methodLink RX5 49 Lib.Math.min.name) (by decide +kernel)
  have hk_7 := hts (.static Lib.Math.min.name) (by decide +kernel)
  have hk_8 := hts (.initialized "java/lang/Math") (by decide +kernel)
  have hk_9 := hts (.code Lib.Math.min.name Lib.Math.min.code 2 (some .int)) (by decide +kernel)
  unfold f_X5_growOlder at hF
  refine lv_iconst (v := 0) hx hb dX5_growOlder_0 (by decide) ?_
  refine lv_topi (fun v2_1 ev2_1 => ?_)
  replace hF := nm_i hF ev2_1
  refine lv_istore_n (lv' := [(2, .int v2_1), (0, .ref aS_0), (1, .ref aG_0)]) hx hb dX5_growOlder_1 rfl hl (by decide) rfl (fun ls hl => ?_)
  replace hF := bnd hF
  obtain ⟨q_22, hv_21, hF⟩ := hF
  obtain ⟨v2_6, ev2_6⟩ : ∃ y : Int32, y = q_22.1 := ⟨_, rfl⟩
  replace hF := nm_i hF ev2_6
  obtain ⟨zS_7, ezS_7⟩ : ∃ y : SS, y = q_22.2 := ⟨_, rfl⟩
  replace hF := nm_i hF ezS_7
  obtain rfl : q_22 = (v2_6, zS_7) := by rw [ev2_6, ezS_7]
  clear ev2_6
  clear ezS_7
  refine jn (P := fun H locs ls => va_P D vwCl ((wcG ci aG_0 aG_1 aG_2 aG_3 aG_4 zG) ++ (wcS ci aS_0 aS_1 zS_7)) H ∧ va_D A ((wcG ci aG_0 aG_1 aG_2 aG_3 aG_4 zG) ++ (wcS ci aS_0 aS_1 zS_7)) ∧ va_S A s.heap H locs ∧ lv_has ls 3 [(0, .ref aS_0), (1, .ref aG_0), (2, .int v2_6)]) (pcJ := 51) (st := []) ?_ ?_
  · intro H locs ls hJ
    obtain ⟨hP, hD, hS, hl⟩ := hJ
    obtain rfl := Option.some.inj hF
    exact W.vret hx hb hr (fun t ht hW => ⟨⟨(), rfl, trivial, by rw [ht]; exact hP, va_K.moved hW.alike hK, hD⟩, hS.F ht⟩) hS.2.2 dX5_growOlder_51
  · intro J_5
    clear hF
    have hF := hv_21
    refine lpW (σ := Int32 × SS) (I := fun n v H locs ls => L_X5_growOlder_2 zG n v.1 v.2 = some (v2_6, zS_7) ∧ va_P D vwCl ((wcG ci aG_0 aG_1 aG_2 aG_3 aG_4 zG) ++ (wcS ci aS_0 aS_1 v.2)) H ∧ va_D A ((wcG ci aG_0 aG_1 aG_2 aG_3 aG_4 zG) ++ (wcS ci aS_0 aS_1 v.2)) ∧ va_S A s.heap H locs ∧ lv_has ls 3 [(0, .ref aS_0), (1, .ref aG_0), (2, .int v.1)]) 3000 (v2_1, zS) (fun _ _ _ _ h => no_none h.1) ⟨hF, hP, hD, hS, lv_sub hl [1, 2, 0] rfl⟩ ?_
    clear hF hP hD hS hl
    intro n ih_4 vq H locs ls hI
    obtain ⟨v2_2, zS_3⟩ := vq
    obtain ⟨hF, hP, hD, hS, hl⟩ := hI
    have hP : va_P D vwCl ((wcG ci aG_0 aG_1 aG_2 aG_3 aG_4 zG) ++ (wcS ci aS_0 aS_1 zS_3)) H := hP
    have hD : va_D A ((wcG ci aG_0 aG_1 aG_2 aG_3 aG_4 zG) ++ (wcS ci aS_0 aS_1 zS_3)) := hD
    have hl : lv_has ls 3 [(0, .ref aS_0), (1, .ref aG_0), (2, .int v2_2)] := hl
    replace hF : L_X5_growOlder_2 zG (n + 1) v2_2 zS_3 = some (v2_6, zS_7) := hF
    rw [L_X5_growOlder_2] at hF
    refine lv_iload_n hx hb dX5_growOlder_2 rfl (lv_at hl 2 rfl) ?_
    refine lv_aload_n hx hb dX5_growOlder_3 rfl (lv_at hl 1 rfl) ?_
    refine va_get (D := D) (ci := 0) (v := .int (zG.1 3)) (C := RX0) (T := TX0) (N := 13) hx hb hts hin_RX0 hown hK hP 0 rfl rfl 3 (by decide) hk_0 (fun _ h9 => h9) rfl dX5_growOlder_4 ?_
    refine lv_icmp_ge (tgt := 51) hx hb dX5_growOlder_7 (by decide) (fun c_8 => ?_) (fun c_8 => ?_)
    · replace hF := if_i c_8 hF
      obtain ⟨g_9, g_10⟩ : v2_2 = v2_6 ∧ zS_3 = zS_7 := by have h9 := Option.some.inj hF; simpa only [Prod.mk.injEq] using h9
      subst g_9
      subst g_10
      exact J_5 H locs ls ⟨hP, hD, hS, lv_sub hl [0, 1, 2] rfl⟩
    · replace hF := if_o c_8 hF
      refine lv_aload_n hx hb dX5_growOlder_10 rfl (lv_at hl 0 rfl) ?_
      refine va_get (D := D) (ci := 5) (v := .long (zS_3.1 0)) (C := RX5) (T := TX5) (N := 6) hx hb hts hin_RX5 hown hK hP 5 rfl rfl 0 (by decide) hk_2 (fun _ h9 => h9) rfl dX5_growOlder_11 ?_
      refine lv_aload_n hx hb dX5_growOlder_14 rfl (lv_at hl 1 rfl) ?_
      refine va_get (D := D) (ci := 0) (v := .ref aG_4) (C := RX0) (T := TX0) (N := 13) hx hb hts hin_RX0 hown hK hP 0 rfl rfl 12 (by decide) hk_4 (fun _ h9 => h9) rfl dX5_growOlder_15 ?_
      refine lv_iload_n hx hb dX5_growOlder_18 rfl (lv_at hl 2 rfl) ?_
      replace hF := ald_i hF
      obtain ⟨hin_11, hF⟩ := hF
      refine va_lald hx hb hK hP 4 1 rfl rfl hin_11 dX5_growOlder_19 ?_
      refine lv_topl (fun x_12 ex_12 => ?_)
      replace hF := nm_i hF ex_12
      refine lv_land hx hb dX5_growOlder_20 ?_
      refine lv_lconst (v := 0) hx hb dX5_growOlder_21 (by decide) ?_
      refine W.lcmp hx hb dX5_growOlder_22 ?_
      refine lv_if_eq (tgt := 45) hx hb dX5_growOlder_23 (by decide) (fun c_13 => ?_) (fun c_13 => ?_)
      · replace hF := if_i c_13 hF
        obtain ⟨v2_14, ev2_14⟩ : ∃ y : Int32, y = v2_2 + 1 := ⟨_, rfl⟩
        replace hF := nm_i hF ev2_14
        refine lv_iinc (v := v2_14) (lv' := [(2, .int v2_14), (0, .ref aS_0), (1, .ref aG_0)]) hx hb dX5_growOlder_45 hl (k := 2) rfl (by rw [ev2_14]; rfl) (by decide) rfl (fun ls hl => ?_)
        refine lv_goto (tgt := 2) hx hb dX5_growOlder_48 (by decide) ?_
        exact ih_4 (v2_14, zS_3) H locs ls ⟨hF, hP, hD, hS, lv_sub hl [1, 2, 0] rfl⟩
      · replace hF := if_o c_13 hF
        refine lv_aload_n hx hb dX5_growOlder_26 rfl (lv_at hl 0 rfl) ?_
        refine va_get (D := D) (ci := 5) (v := .ref aS_1) (C := RX5) (T := TX5) (N := 6) hx hb hts hin_RX5 hown hK hP 5 rfl rfl 5 (by decide) hk_5 (fun _ h9 => h9) rfl dX5_growOlder_27 ?_
        refine lv_iload_n hx hb dX5_growOlder_30 rfl (lv_at hl 2 rfl) ?_
        refine lv_bipush (v := 99) hx hb dX5_growOlder_31 (by decide) ?_
        refine lv_aload_n hx hb dX5_growOlder_33 rfl (lv_at hl 0 rfl) ?_
        refine va_get (D := D) (ci := 5) (v := .ref aS_1) (C := RX5) (T := TX5) (N := 6) hx hb hts hin_RX5 hown hK hP 5 rfl rfl 5 (by decide) hk_5 (fun _ h9 => h9) rfl dX5_growOlder_34 ?_
        refine lv_iload_n hx hb dX5_growOlder_37 rfl (lv_at hl 2 rfl) ?_
        replace hF := ald_i hF
        obtain ⟨hin_15, hF⟩ := hF
        refine va_iald hx hb hK hP 6 0 rfl rfl hin_15 dX5_growOlder_38 ?_
        refine lv_topi (fun x_16 ex_16 => ?_)
        replace hF := nm_i hF ex_16
        refine lv_iconst (v := 1) hx hb dX5_growOlder_39 (by decide) ?_
        refine lv_iadd hx hb dX5_growOlder_40 ?_
        refine va_mmin hx hb (hml.trans hl.1.symm) hown hk_6 hk_7 hk_8 hk_9 (Nat.le_of_ble_eq_true rfl) (Nat.le_of_ble_eq_true rfl) (Nat.zero_le _) (Nat.zero_le _) dX5_growOlder_41 ?_
        refine W.eq (g2 := F0 m 44 ls [.int (imin 99 (x_16 + 1)), .int v2_2, .ref aS_1]) rfl ?_
        refine lv_topi (fun y_18 ey_18 => ?_)
        replace hF := nm_i hF ey_18
        replace hF := ast_i hF
        obtain ⟨hin_17, hF⟩ := hF
        refine va_iast (x := y_18) hx hb hK hP hD hS 6 0 rfl rfl hin_17 dX5_growOlder_44 (fun H locs hP hD hS => ?_)
        obtain ⟨zS_19, ezS_19⟩ : ∃ y : SS, y = (zS_3.1, zS_3.2.1, (upd zS_3.2.2 (Int32.toNatClampNeg v2_2) y_18)) := ⟨_, rfl⟩
        replace hF := nm_i hF ezS_19
        have hP : va_P D vwCl ((wcG ci aG_0 aG_1 aG_2 aG_3 aG_4 zG) ++ (wcS ci aS_0 aS_1 zS_19)) H := by rw [ezS_19]; exact hP
        have hD : va_D A ((wcG ci aG_0 aG_1 aG_2 aG_3 aG_4 zG) ++ (wcS ci aS_0 aS_1 zS_19)) := by rw [ezS_19]; exact hD
        obtain ⟨v2_20, ev2_20⟩ : ∃ y : Int32, y = v2_2 + 1 := ⟨_, rfl⟩
        replace hF := nm_i hF ev2_20
        refine lv_iinc (v := v2_20) (lv' := [(2, .int v2_20), (0, .ref aS_0), (1, .ref aG_0)]) hx hb dX5_growOlder_45 hl (k := 2) rfl (by rw [ev2_20]; rfl) (by decide) rfl (fun ls hl => ?_)
        refine lv_goto (tgt := 2) hx hb dX5_growOlder_48 (by decide) ?_
        exact ih_4 (v2_20, zS_19) H locs ls ⟨hF, hP, hD, hS, lv_sub hl [1, 2, 0] rfl⟩
noncomputable def L_X5_tallHedges_5 (zG : GS) (zS : SS) (p2 : Int32) : Nat → Int64 → Int32 → Option (Int64 × Int32)
  | 0, _, _ => none
  | n + 1, v3_3, v5_4 => if (zG.1 3) ≤ v5_4 then (some (v3_3, v5_4)) else (ald 40 zG.2.2.2 v5_4 fun x_13 => if (lg_cmp ((zS.1 0) &&& x_13) 0) = 0 then (nm (v5_4 + 1) fun v5_15 => L_X5_tallHedges_5 zG zS p2 n v3_3 v5_15) else (ald 40 zS.2.2 v5_4 fun x_17 => (f_X0_heightOn zG v5_4 (x_17 + p2)).bind fun r_18 => if r_18 < 12 then (nm (v5_4 + 1) fun v5_21 => L_X5_tallHedges_5 zG zS p2 n v3_3 v5_21) else (ald 40 zG.2.2.2 v5_4 fun x_23 => nm (v3_3 ||| x_23) fun v3_24 => nm (v5_4 + 1) fun v5_25 => L_X5_tallHedges_5 zG zS p2 n v3_24 v5_25)))
noncomputable def f_X5_tallHedges (zG : GS) (zS : SS) (p2 : Int32) : Option (Int64) := nm (0 : Int64) fun v3_1 => nm (0 : Int32) fun v5_2 => (L_X5_tallHedges_5 zG zS p2 3000 v3_1 v5_2).bind fun q_27 => nm q_27.1 fun v3_7 => nm q_27.2 fun v5_8 => some v3_7
set_option maxHeartbeats 4000000 in
set_option maxRecDepth 100000 in
theorem c_X5_tallHedges (l : Launch) (D : va_G) (ci : Nat → ClassId) (aG_0 : Nat) (aG_1 : Nat) (aG_2 : Nat) (aG_3 : Nat) (aG_4 : Nat) (aS_0 : Nat) (aS_1 : Nat) (sz : Nat) (zG : GS) (zS : SS) (p2 : Int32) (res : Int64) (hF : f_X5_tallHedges zG zS p2 = some res) : CtL l yX5_tallHedges wsX5_tallHedges { frames := 2, cells := 0, slots := 0, locals := 43 } [.ref aS_0, .ref aG_0, .int p2] D ci ((wcG ci aG_0 aG_1 aG_2 aG_3 aG_4 zG) ++ (wcS ci aS_0 aS_1 zS)) sz res ((wcG ci aG_0 aG_1 aG_2 aG_3 aG_4 zG) ++ (wcS ci aS_0 aS_1 zS)) := by
  refine Met.ofW (cc := cX5_tallHedges) (maxL := 6) (ret := (some .long)) (by decide) rfl ?_
  intro p e s m args below meth c s₁ B hml hv
  obtain ⟨rfl, hsz, hP, hK, hD0⟩ := hv
  have hx := B.exec
  have hb := B.bytes
  have hr := B.returns
  have hts := atoms_spec (ws := wsX5_tallHedges) B.pre
  have hown : s.vm.findClass RX5 = some m.cls := findClass_of_methodNamed B.named
  have hlocks := B.notSynchronized
  subst hsz
  have hD := hD0.self (sz := s.heap.size)
  generalize hAe : va_A ((wcG ci aG_0 aG_1 aG_2 aG_3 aG_4 zG) ++ (wcS ci aS_0 aS_1 zS)) s.heap.size = A at hD ⊢
  have hA : ∀ q : Nat, s.heap.size ≤ q → A q := fun q h => by rw [← hAe]; exact Or.inr h
  clear hD0 hAe
  have hl := lv_entry ([.ref aS_0, .ref aG_0, .int p2]) (n := 6) (Nat.le_of_ble_eq_true rfl)
  rw [lg_entry_eq]
  generalize (lg_sl ([.ref aS_0, .ref aG_0, .int p2]) ++ List.replicate (6 - (lg_sl ([.ref aS_0, .ref aG_0, .int p2])).length) Slot.unset).toArray = ls at hl ⊢
  have hl : lv_has ls 6 [(0, .ref aS_0), (1, .ref aG_0), (2, .int p2)] := hl
  have hP : va_P D vwCl ((wcG ci aG_0 aG_1 aG_2 aG_3 aG_4 zG) ++ (wcS ci aS_0 aS_1 zS)) s.heap := hP
  generalize hH0 : s.heap = H at hP ⊢
  have hS : va_S A s.heap H [] := by rw [← hH0]; exact va_S.rf
  clear hH0
  generalize ([] : List Loc) = locs at hS ⊢
  have hk_0 := hts (.fieldLink RX5 40 "HedgeWar$Ground" "edges" "I") (by decide +kernel)
  have hin_RX0 : ∀ w ∈ wsX00, w ∈ wsX5_tallHedges := by decide +kernel
  have hk_2 := hts (.fieldLink RX5 15 "HedgeWar$Stand" "hedges" "J") (by decide +kernel)
  have hin_RX5 : ∀ w ∈ wsX50, w ∈ wsX5_tallHedges := by decide +kernel
  have hk_4 := hts (.fieldLink RX5 45 "HedgeWar$Ground" "places" "[J") (by decide +kernel)
  have hk_5 := hts (.fieldLink RX5 9 "HedgeWar$Stand" "ages" "[I") (by decide +kernel)
  unfold f_X5_tallHedges at hF
  refine lv_lconst (v := 0) hx hb dX5_tallHedges_0 (by decide) ?_
  refine lv_topl (fun v3_1 ev3_1 => ?_)
  replace hF := nm_i hF ev3_1
  refine lv_lstore_n (lv' := [(3, .long v3_1), (0, .ref aS_0), (1, .ref aG_0), (2, .int p2)]) hx hb dX5_tallHedges_1 rfl hl (by decide) rfl (fun ls hl => ?_)
  refine lv_iconst (v := 0) hx hb dX5_tallHedges_2 (by decide) ?_
  refine lv_topi (fun v5_2 ev5_2 => ?_)
  replace hF := nm_i hF ev5_2
  refine lv_istore (lv' := [(5, .int v5_2), (3, .long v3_1), (0, .ref aS_0), (1, .ref aG_0), (2, .int p2)]) hx hb dX5_tallHedges_3 hl (by decide) rfl (fun ls hl => ?_)
  replace hF := bnd hF
  obtain ⟨q_27, hv_26, hF⟩ := hF
  obtain ⟨v3_7, ev3_7⟩ : ∃ y : Int64, y = q_27.1 := ⟨_, rfl⟩
  replace hF := nm_i hF ev3_7
  obtain ⟨v5_8, ev5_8⟩ : ∃ y : Int32, y = q_27.2 := ⟨_, rfl⟩
  replace hF := nm_i hF ev5_8
  obtain rfl : q_27 = (v3_7, v5_8) := by rw [ev3_7, ev5_8]
  clear ev3_7
  clear ev5_8
  refine jn (P := fun H locs ls => va_P D vwCl ((wcG ci aG_0 aG_1 aG_2 aG_3 aG_4 zG) ++ (wcS ci aS_0 aS_1 zS)) H ∧ va_D A ((wcG ci aG_0 aG_1 aG_2 aG_3 aG_4 zG) ++ (wcS ci aS_0 aS_1 zS)) ∧ va_S A s.heap H locs ∧ lv_has ls 6 [(0, .ref aS_0), (1, .ref aG_0), (2, .int p2), (3, .long v3_7), (5, .int v5_8)]) (pcJ := 67) (st := []) ?_ ?_
  · intro H locs ls hJ
    obtain ⟨hP, hD, hS, hl⟩ := hJ
    refine lv_lload_n hx hb dX5_tallHedges_67 rfl (lv_at hl 3 rfl) ?_
    obtain rfl := Option.some.inj hF
    exact W.lret (v := v3_7) hx hb hr (fun t ht hW => ⟨⟨_, (), rfl, rfl, by rw [ht]; exact hP, va_K.moved hW.alike hK, hD⟩, hS.F ht⟩) hS.2.2 dX5_tallHedges_68
  · intro J_6
    clear hF
    have hF := hv_26
    refine lpW (σ := Int64 × Int32) (I := fun n v H locs ls => L_X5_tallHedges_5 zG zS p2 n v.1 v.2 = some (v3_7, v5_8) ∧ va_P D vwCl ((wcG ci aG_0 aG_1 aG_2 aG_3 aG_4 zG) ++ (wcS ci aS_0 aS_1 zS)) H ∧ va_D A ((wcG ci aG_0 aG_1 aG_2 aG_3 aG_4 zG) ++ (wcS ci aS_0 aS_1 zS)) ∧ va_S A s.heap H locs ∧ lv_has ls 6 [(0, .ref aS_0), (1, .ref aG_0), (2, .int p2), (3, .long v.1), (5, .int v.2)]) 3000 (v3_1, v5_2) (fun _ _ _ _ h => no_none h.1) ⟨hF, hP, hD, hS, lv_sub hl [2, 3, 4, 1, 0] rfl⟩ ?_
    clear hF hP hD hS hl
    intro n ih_5 vq H locs ls hI
    obtain ⟨v3_3, v5_4⟩ := vq
    obtain ⟨hF, hP, hD, hS, hl⟩ := hI
    have hP : va_P D vwCl ((wcG ci aG_0 aG_1 aG_2 aG_3 aG_4 zG) ++ (wcS ci aS_0 aS_1 zS)) H := hP
    have hD : va_D A ((wcG ci aG_0 aG_1 aG_2 aG_3 aG_4 zG) ++ (wcS ci aS_0 aS_1 zS)) := hD
    have hl : lv_has ls 6 [(0, .ref aS_0), (1, .ref aG_0), (2, .int p2), (3, .long v3_3), (5, .int v5_4)] := hl
    replace hF : L_X5_tallHedges_5 zG zS p2 (n + 1) v3_3 v5_4 = some (v3_7, v5_8) := hF
    rw [L_X5_tallHedges_5] at hF
    refine lv_iload hx hb dX5_tallHedges_5 (lv_at hl 4 rfl) ?_
    refine lv_aload_n hx hb dX5_tallHedges_7 rfl (lv_at hl 1 rfl) ?_
    refine va_get (D := D) (ci := 0) (v := .int (zG.1 3)) (C := RX0) (T := TX0) (N := 13) hx hb hts hin_RX0 hown hK hP 0 rfl rfl 3 (by decide) hk_0 (fun _ h9 => h9) rfl dX5_tallHedges_8 ?_
    refine lv_icmp_ge (tgt := 67) hx hb dX5_tallHedges_11 (by decide) (fun c_9 => ?_) (fun c_9 => ?_)
    · replace hF := if_i c_9 hF
      obtain ⟨g_10, g_11⟩ : v3_3 = v3_7 ∧ v5_4 = v5_8 := by have h9 := Option.some.inj hF; simpa only [Prod.mk.injEq] using h9
      subst g_10
      subst g_11
      exact J_6 H locs ls ⟨hP, hD, hS, lv_sub hl [0, 1, 2, 3, 4] rfl⟩
    · replace hF := if_o c_9 hF
      refine lv_aload_n hx hb dX5_tallHedges_14 rfl (lv_at hl 0 rfl) ?_
      refine va_get (D := D) (ci := 5) (v := .long (zS.1 0)) (C := RX5) (T := TX5) (N := 6) hx hb hts hin_RX5 hown hK hP 5 rfl rfl 0 (by decide) hk_2 (fun _ h9 => h9) rfl dX5_tallHedges_15 ?_
      refine lv_aload_n hx hb dX5_tallHedges_18 rfl (lv_at hl 1 rfl) ?_
      refine va_get (D := D) (ci := 0) (v := .ref aG_4) (C := RX0) (T := TX0) (N := 13) hx hb hts hin_RX0 hown hK hP 0 rfl rfl 12 (by decide) hk_4 (fun _ h9 => h9) rfl dX5_tallHedges_19 ?_
      refine lv_iload hx hb dX5_tallHedges_22 (lv_at hl 4 rfl) ?_
      replace hF := ald_i hF
      obtain ⟨hin_12, hF⟩ := hF
      refine va_lald hx hb hK hP 4 1 rfl rfl hin_12 dX5_tallHedges_24 ?_
      refine lv_topl (fun x_13 ex_13 => ?_)
      replace hF := nm_i hF ex_13
      refine lv_land hx hb dX5_tallHedges_25 ?_
      refine lv_lconst (v := 0) hx hb dX5_tallHedges_26 (by decide) ?_
      refine W.lcmp hx hb dX5_tallHedges_27 ?_
      refine lv_if_eq (tgt := 61) hx hb dX5_tallHedges_28 (by decide) (fun c_14 => ?_) (fun c_14 => ?_)
      · replace hF := if_i c_14 hF
        obtain ⟨v5_15, ev5_15⟩ : ∃ y : Int32, y = v5_4 + 1 := ⟨_, rfl⟩
        replace hF := nm_i hF ev5_15
        refine lv_iinc (v := v5_15) (lv' := [(5, .int v5_15), (0, .ref aS_0), (1, .ref aG_0), (2, .int p2), (3, .long v3_3)]) hx hb dX5_tallHedges_61 hl (k := 4) rfl (by rw [ev5_15]; rfl) (by decide) rfl (fun ls hl => ?_)
        refine lv_goto (tgt := 5) hx hb dX5_tallHedges_64 (by decide) ?_
        exact ih_5 (v3_3, v5_15) H locs ls ⟨hF, hP, hD, hS, lv_sub hl [1, 2, 3, 4, 0] rfl⟩
      · replace hF := if_o c_14 hF
        refine lv_aload_n hx hb dX5_tallHedges_31 rfl (lv_at hl 1 rfl) ?_
        refine lv_iload hx hb dX5_tallHedges_32 (lv_at hl 4 rfl) ?_
        refine lv_aload_n hx hb dX5_tallHedges_34 rfl (lv_at hl 0 rfl) ?_
        refine va_get (D := D) (ci := 5) (v := .ref aS_1) (C := RX5) (T := TX5) (N := 6) hx hb hts hin_RX5 hown hK hP 5 rfl rfl 5 (by decide) hk_5 (fun _ h9 => h9) rfl dX5_tallHedges_35 ?_
        refine lv_iload hx hb dX5_tallHedges_38 (lv_at hl 4 rfl) ?_
        replace hF := ald_i hF
        obtain ⟨hin_16, hF⟩ := hF
        refine va_iald hx hb hK hP 6 0 rfl rfl hin_16 dX5_tallHedges_40 ?_
        refine lv_topi (fun x_17 ex_17 => ?_)
        replace hF := nm_i hF ex_17
        refine lv_iload_n hx hb dX5_tallHedges_41 rfl (lv_at hl 2 rfl) ?_
        refine lv_iadd hx hb dX5_tallHedges_42 ?_
        replace hF := bnd hF
        obtain ⟨r_18, hc_19, hF⟩ := hF
        refine cl_Vi (As := [.int v5_4, .int (x_17 + p2)]) (rest := []) (wc := (wcG ci aG_0 aG_1 aG_2 aG_3 aG_4 zG)) (wr := ([5, 6].filterMap (fun i => ((wcG ci aG_0 aG_1 aG_2 aG_3 aG_4 zG) ++ (wcS ci aS_0 aS_1 zS))[i]?))) (w1 := (wcG ci aG_0 aG_1 aG_2 aG_3 aG_4 zG)) (wn := ((wcG ci aG_0 aG_1 aG_2 aG_3 aG_4 zG) ++ (wcS ci aS_0 aS_1 zS))) ⟨hx, hb, hml, hown, hts⟩ (cwV 2 hts gX5_tallHedges_X0_heightOn rfl rfl rfl (by decide +kernel) ⟨Nat.le_of_ble_eq_true rfl, Nat.le_of_ble_eq_true rfl⟩) (c_X0_heightOn l D ci aG_0 aG_1 aG_2 aG_3 aG_4 H.size zG v5_4 (x_17 + p2) _ hc_19) hK hP hD hS hA [0, 1, 2, 3, 4] [5, 6] [2, 3, 4, 5, 6, 0, 1] rfl rfl rfl (by decide) 0 rfl rfl rfl rfl hl.1 (Nat.le_of_ble_eq_true rfl) dX5_tallHedges_43 (Nat.zero_le _) (Nat.zero_le _) (fun H locs hP hD hS => ?_)
        have hP : va_P D vwCl ((wcG ci aG_0 aG_1 aG_2 aG_3 aG_4 zG) ++ (wcS ci aS_0 aS_1 zS)) H := hP
        have hD : va_D A ((wcG ci aG_0 aG_1 aG_2 aG_3 aG_4 zG) ++ (wcS ci aS_0 aS_1 zS)) := hD
        refine lv_bipush (v := 12) hx hb dX5_tallHedges_46 (by decide) ?_
        refine lv_icmp_lt (tgt := 61) hx hb dX5_tallHedges_48 (by decide) (fun c_20 => ?_) (fun c_20 => ?_)
        · replace hF := if_i c_20 hF
          obtain ⟨v5_21, ev5_21⟩ : ∃ y : Int32, y = v5_4 + 1 := ⟨_, rfl⟩
          replace hF := nm_i hF ev5_21
          refine lv_iinc (v := v5_21) (lv' := [(5, .int v5_21), (0, .ref aS_0), (1, .ref aG_0), (2, .int p2), (3, .long v3_3)]) hx hb dX5_tallHedges_61 hl (k := 4) rfl (by rw [ev5_21]; rfl) (by decide) rfl (fun ls hl => ?_)
          refine lv_goto (tgt := 5) hx hb dX5_tallHedges_64 (by decide) ?_
          exact ih_5 (v3_3, v5_21) H locs ls ⟨hF, hP, hD, hS, lv_sub hl [1, 2, 3, 4, 0] rfl⟩
        · replace hF := if_o c_20 hF
          refine lv_lload_n hx hb dX5_tallHedges_51 rfl (lv_at hl 3 rfl) ?_
          refine lv_aload_n hx hb dX5_tallHedges_52 rfl (lv_at hl 1 rfl) ?_
          refine va_get (D := D) (ci := 0) (v := .ref aG_4) (C := RX0) (T := TX0) (N := 13) hx hb hts hin_RX0 hown hK hP 0 rfl rfl 12 (by decide) hk_4 (fun _ h9 => h9) rfl dX5_tallHedges_53 ?_
          refine lv_iload hx hb dX5_tallHedges_56 (lv_at hl 4 rfl) ?_
          replace hF := ald_i hF
          obtain ⟨hin_22, hF⟩ := hF
          refine va_lald hx hb hK hP 4 1 rfl rfl hin_22 dX5_tallHedges_58 ?_
          refine lv_topl (fun x_23 ex_23 => ?_)
          replace hF := nm_i hF ex_23
          refine lv_lor hx hb dX5_tallHedges_59 ?_
          refine lv_topl (fun v3_24 ev3_24 => ?_)
          replace hF := nm_i hF ev3_24
          refine lv_lstore_n (lv' := [(3, .long v3_24), (0, .ref aS_0), (1, .ref aG_0), (2, .int p2), (5, .int v5_4)]) hx hb dX5_tallHedges_60 rfl hl (by decide) rfl (fun ls hl => ?_)
          obtain ⟨v5_25, ev5_25⟩ : ∃ y : Int32, y = v5_4 + 1 := ⟨_, rfl⟩
          replace hF := nm_i hF ev5_25
          refine lv_iinc (v := v5_25) (lv' := [(5, .int v5_25), (3, .long v3_24), (0, .ref aS_0), (1, .ref aG_0), (2, .int p2)]) hx hb dX5_tallHedges_61 hl (k := 4) rfl (by rw [ev5_25]; rfl) (by decide) rfl (fun ls hl => ?_)
          refine lv_goto (tgt := 5) hx hb dX5_tallHedges_64 (by decide) ?_
          exact ih_5 (v3_24, v5_25) H locs ls ⟨hF, hP, hD, hS, lv_sub hl [2, 3, 4, 1, 0] rfl⟩
noncomputable def f_X5_shutEdges (zG : GS) (zS : SS) : Option (Int64) := (f_X5_tallHedges zG zS (0 : Int32)).bind fun r_1 => some (r_1 &&& ((zS.1 2) ^^^ (-1)))
set_option maxHeartbeats 4000000 in
set_option maxRecDepth 100000 in
theorem c_X5_shutEdges (l : Launch) (D : va_G) (ci : Nat → ClassId) (aG_0 : Nat) (aG_1 : Nat) (aG_2 : Nat) (aG_3 : Nat) (aG_4 : Nat) (aS_0 : Nat) (aS_1 : Nat) (sz : Nat) (zG : GS) (zS : SS) (res : Int64) (hF : f_X5_shutEdges zG zS = some res) : CtL l yX5_shutEdges wsX5_shutEdges { frames := 3, cells := 0, slots := 0, locals := 68 } [.ref aS_0, .ref aG_0] D ci ((wcG ci aG_0 aG_1 aG_2 aG_3 aG_4 zG) ++ (wcS ci aS_0 aS_1 zS)) sz res ((wcG ci aG_0 aG_1 aG_2 aG_3 aG_4 zG) ++ (wcS ci aS_0 aS_1 zS)) := by
  refine Met.ofW (cc := cX5_shutEdges) (maxL := 2) (ret := (some .long)) (by decide) rfl ?_
  intro p e s m args below meth c s₁ B hml hv
  obtain ⟨rfl, hsz, hP, hK, hD0⟩ := hv
  have hx := B.exec
  have hb := B.bytes
  have hr := B.returns
  have hts := atoms_spec (ws := wsX5_shutEdges) B.pre
  have hown : s.vm.findClass RX5 = some m.cls := findClass_of_methodNamed B.named
  have hlocks := B.notSynchronized
  subst hsz
  have hD := hD0.self (sz := s.heap.size)
  generalize hAe : va_A ((wcG ci aG_0 aG_1 aG_2 aG_3 aG_4 zG) ++ (wcS ci aS_0 aS_1 zS)) s.heap.size = A at hD ⊢
  have hA : ∀ q : Nat, s.heap.size ≤ q → A q := fun q h => by rw [← hAe]; exact Or.inr h
  clear hD0 hAe
  have hl := lv_entry ([.ref aS_0, .ref aG_0]) (n := 2) (Nat.le_of_ble_eq_true rfl)
  rw [lg_entry_eq]
  generalize (lg_sl ([.ref aS_0, .ref aG_0]) ++ List.replicate (2 - (lg_sl ([.ref aS_0, .ref aG_0])).length) Slot.unset).toArray = ls at hl ⊢
  have hl : lv_has ls 2 [(0, .ref aS_0), (1, .ref aG_0)] := hl
  have hP : va_P D vwCl ((wcG ci aG_0 aG_1 aG_2 aG_3 aG_4 zG) ++ (wcS ci aS_0 aS_1 zS)) s.heap := hP
  generalize hH0 : s.heap = H at hP ⊢
  have hS : va_S A s.heap H [] := by rw [← hH0]; exact va_S.rf
  clear hH0
  generalize ([] : List Loc) = locs at hS ⊢
  have hk_0 := hts (.fieldLink RX5 22 "HedgeWar$Stand" "gates" "J") (by decide +kernel)
  have hin_RX5 : ∀ w ∈ wsX50, w ∈ wsX5_shutEdges := by decide +kernel
  have hk_2 := hts (.constantLong RX5 38 (-1)) (by decide +kernel)
  unfold f_X5_shutEdges at hF
  refine lv_aload_n hx hb dX5_shutEdges_0 rfl (lv_at hl 0 rfl) ?_
  refine lv_aload_n hx hb dX5_shutEdges_1 rfl (lv_at hl 1 rfl) ?_
  refine lv_iconst (v := 0) hx hb dX5_shutEdges_2 (by decide) ?_
  replace hF := bnd hF
  obtain ⟨r_1, hc_2, hF⟩ := hF
  refine cl_Vl0 (As := [.ref aG_0, .int 0]) (rest := []) ⟨hx, hb, hml, hown, hts⟩ (cwV 2 hts gX5_shutEdges_X5_tallHedges rfl rfl rfl (by decide +kernel) ⟨Nat.le_of_ble_eq_true rfl, Nat.le_of_ble_eq_true rfl⟩) (c_X5_tallHedges l D ci aG_0 aG_1 aG_2 aG_3 aG_4 aS_0 aS_1 H.size zG zS (0 : Int32) _ hc_2) hK hP hD hS hA 5 rfl rfl rfl rfl hl.1 (Nat.le_of_ble_eq_true rfl) dX5_shutEdges_3 (Nat.zero_le _) (Nat.zero_le _) (fun H locs hP hD hS => ?_)
  have hP : va_P D vwCl ((wcG ci aG_0 aG_1 aG_2 aG_3 aG_4 zG) ++ (wcS ci aS_0 aS_1 zS)) H := hP
  have hD : va_D A ((wcG ci aG_0 aG_1 aG_2 aG_3 aG_4 zG) ++ (wcS ci aS_0 aS_1 zS)) := hD
  refine lv_aload_n hx hb dX5_shutEdges_6 rfl (lv_at hl 0 rfl) ?_
  refine va_get (D := D) (ci := 5) (v := .long (zS.1 2)) (C := RX5) (T := TX5) (N := 6) hx hb hts hin_RX5 hown hK hP 5 rfl rfl 2 (by decide) hk_0 (fun _ h9 => h9) rfl dX5_shutEdges_7 ?_
  refine lv_ldc2 (v := (-1)) hx hb hown hk_2 dX5_shutEdges_10 ?_
  refine lv_lxor hx hb dX5_shutEdges_13 ?_
  refine lv_land hx hb dX5_shutEdges_14 ?_
  obtain rfl := Option.some.inj hF
  exact W.lret (v := (r_1 &&& ((zS.1 2) ^^^ (-1)))) hx hb hr (fun t ht hW => ⟨⟨_, (), rfl, rfl, by rw [ht]; exact hP, va_K.moved hW.alike hK, hD⟩, hS.F ht⟩) hS.2.2 dX5_shutEdges_15
noncomputable def f_X2_forget (zN : NS) : Option (NS) := nm ((upd zN.1 0 0, zN.2) : NS) fun zN_1 => nm ((upd zN_1.1 1 0, zN_1.2) : NS) fun zN_2 => some zN_2
set_option maxHeartbeats 4000000 in
set_option maxRecDepth 100000 in
theorem c_X2_forget (l : Launch) (D : va_G) (ci : Nat → ClassId) (aN_0 : Nat) (aN_1 : Nat) (aN_2 : Nat) (aN_3 : Nat) (aN_4 : Nat) (sz : Nat) (zN : NS) (res : NS) (hF : f_X2_forget zN = some res) : CtV l yX2_forget wsX2_forget { frames := 0, cells := 0, slots := 0, locals := 0 } [.ref aN_0] D ci (wcN ci aN_0 aN_1 aN_2 aN_3 aN_4 zN) sz (wcN ci aN_0 aN_1 aN_2 aN_3 aN_4 res) := by
  refine Met.ofW (cc := cX2_forget) (maxL := 1) (ret := none) (by decide) rfl ?_
  intro p e s m args below meth c s₁ B hml hv
  obtain ⟨rfl, hsz, hP, hK, hD0⟩ := hv
  have hx := B.exec
  have hb := B.bytes
  have hr := B.returns
  have hts := atoms_spec (ws := wsX2_forget) B.pre
  have hown : s.vm.findClass RX2 = some m.cls := findClass_of_methodNamed B.named
  have hlocks := B.notSynchronized
  subst hsz
  have hD := hD0.self (sz := s.heap.size)
  generalize hAe : va_A (wcN ci aN_0 aN_1 aN_2 aN_3 aN_4 zN) s.heap.size = A at hD ⊢
  have hA : ∀ q : Nat, s.heap.size ≤ q → A q := fun q h => by rw [← hAe]; exact Or.inr h
  clear hD0 hAe
  have hl := lv_entry ([.ref aN_0]) (n := 1) (Nat.le_of_ble_eq_true rfl)
  rw [lg_entry_eq]
  generalize (lg_sl ([.ref aN_0]) ++ List.replicate (1 - (lg_sl ([.ref aN_0])).length) Slot.unset).toArray = ls at hl ⊢
  have hl : lv_has ls 1 [(0, .ref aN_0)] := hl
  have hP : va_P D vwCl (wcN ci aN_0 aN_1 aN_2 aN_3 aN_4 zN) s.heap := hP
  generalize hH0 : s.heap = H at hP ⊢
  have hS : va_S A s.heap H [] := by rw [← hH0]; exact va_S.rf
  clear hH0
  generalize ([] : List Loc) = locs at hS ⊢
  have hk_0 := hts (.fieldLink RX2 24 "HedgeWar$Notes" "roots" "I") (by decide +kernel)
  have hin_RX2 : ∀ w ∈ wsX20, w ∈ wsX2_forget := by decide +kernel
  have hk_2 := hts (.fieldLink RX2 28 "HedgeWar$Notes" "entries" "I") (by decide +kernel)
  unfold f_X2_forget at hF
  refine lv_aload_n hx hb dX2_forget_0 rfl (lv_at hl 0 rfl) ?_
  refine lv_iconst (v := 0) hx hb dX2_forget_1 (by decide) ?_
  refine va_put (D := D) (ci := 2) (v := .int 0) (ty := .int) (C := RX2) (T := TX2) (N := 6) hx hb hts hin_RX2 tyX2 tyX2_ok nmX2 hown hK hP hD hS 0 rfl rfl 0 (by decide) hk_0 (fun _ h9 => h9) rfl (by decide +kernel) rfl rfl (Nat.le_of_ble_eq_true rfl) dX2_forget_2 (fun H locs hP hD hS => ?_)
  obtain ⟨zN_1, ezN_1⟩ : ∃ y : NS, y = (upd zN.1 0 0, zN.2) := ⟨_, rfl⟩
  replace hF := nm_i hF ezN_1
  have hP : va_P D vwCl (wcN ci aN_0 aN_1 aN_2 aN_3 aN_4 zN_1) H := by rw [ezN_1]; exact hP
  have hD : va_D A (wcN ci aN_0 aN_1 aN_2 aN_3 aN_4 zN_1) := by rw [ezN_1]; exact hD
  refine lv_aload_n hx hb dX2_forget_5 rfl (lv_at hl 0 rfl) ?_
  refine lv_iconst (v := 0) hx hb dX2_forget_6 (by decide) ?_
  refine va_put (D := D) (ci := 2) (v := .int 0) (ty := .int) (C := RX2) (T := TX2) (N := 6) hx hb hts hin_RX2 tyX2 tyX2_ok nmX2 hown hK hP hD hS 0 rfl rfl 1 (by decide) hk_2 (fun _ h9 => h9) rfl (by decide +kernel) rfl rfl (Nat.le_of_ble_eq_true rfl) dX2_forget_7 (fun H locs hP hD hS => ?_)
  obtain ⟨zN_2, ezN_2⟩ : ∃ y : NS, y = (upd zN_1.1 1 0, zN_1.2) := ⟨_, rfl⟩
  replace hF := nm_i hF ezN_2
  have hP : va_P D vwCl (wcN ci aN_0 aN_1 aN_2 aN_3 aN_4 zN_2) H := by rw [ezN_2]; exact hP
  have hD : va_D A (wcN ci aN_0 aN_1 aN_2 aN_3 aN_4 zN_2) := by rw [ezN_2]; exact hD
  obtain rfl := Option.some.inj hF
  exact W.vret hx hb hr (fun t ht hW => ⟨⟨(), rfl, trivial, by rw [ht]; exact hP, va_K.moved hW.alike hK, hD⟩, hS.F ht⟩) hS.2.2 dX2_forget_10
noncomputable def L_X2_fits_2 (zG : GS) (zN : NS) (p2 : Int32) : Nat → Int32 → Option (Int32)
  | 0, _ => none
  | n + 1, v3_2 => if (zN.1 0) ≤ v3_2 then (some (1 : Int32)) else (ald 6 (zN.2 2) v3_2 fun x_7 => (f_X0_heightOn zG x_7 p2).bind fun r_8 => ald 6 (zN.2 3) v3_2 fun x_11 => if r_8 = x_11 then (nm (v3_2 + 1) fun v3_13 => L_X2_fits_2 zG zN p2 n v3_13) else (some (0 : Int32)))
noncomputable def f_X2_fits (zG : GS) (zN : NS) (p2 : Int32) : Option (Int32) := nm (0 : Int32) fun v3_1 => L_X2_fits_2 zG zN p2 3000 v3_1
set_option maxHeartbeats 4000000 in
set_option maxRecDepth 100000 in
theorem c_X2_fits (l : Launch) (D : va_G) (ci : Nat → ClassId) (aG_0 : Nat) (aG_1 : Nat) (aG_2 : Nat) (aG_3 : Nat) (aG_4 : Nat) (aN_0 : Nat) (aN_1 : Nat) (aN_2 : Nat) (aN_3 : Nat) (aN_4 : Nat) (sz : Nat) (zG : GS) (zN : NS) (p2 : Int32) (res : Int32) (hF : f_X2_fits zG zN p2 = some res) : CtI l yX2_fits wsX2_fits { frames := 2, cells := 0, slots := 0, locals := 43 } [.ref aN_0, .ref aG_0, .int p2] D ci ((wcG ci aG_0 aG_1 aG_2 aG_3 aG_4 zG) ++ (wcN ci aN_0 aN_1 aN_2 aN_3 aN_4 zN)) sz res ((wcG ci aG_0 aG_1 aG_2 aG_3 aG_4 zG) ++ (wcN ci aN_0 aN_1 aN_2 aN_3 aN_4 zN)) := by
  refine Met.ofW (cc := cX2_fits) (maxL := 4) (ret := (some .boolean)) (by decide) rfl ?_
  intro p e s m args below meth c s₁ B hml hv
  obtain ⟨rfl, hsz, hP, hK, hD0⟩ := hv
  have hx := B.exec
  have hb := B.bytes
  have hr := B.returns
  have hts := atoms_spec (ws := wsX2_fits) B.pre
  have hown : s.vm.findClass RX2 = some m.cls := findClass_of_methodNamed B.named
  have hlocks := B.notSynchronized
  subst hsz
  have hD := hD0.self (sz := s.heap.size)
  generalize hAe : va_A ((wcG ci aG_0 aG_1 aG_2 aG_3 aG_4 zG) ++ (wcN ci aN_0 aN_1 aN_2 aN_3 aN_4 zN)) s.heap.size = A at hD ⊢
  have hA : ∀ q : Nat, s.heap.size ≤ q → A q := fun q h => by rw [← hAe]; exact Or.inr h
  clear hD0 hAe
  have hl := lv_entry ([.ref aN_0, .ref aG_0, .int p2]) (n := 4) (Nat.le_of_ble_eq_true rfl)
  rw [lg_entry_eq]
  generalize (lg_sl ([.ref aN_0, .ref aG_0, .int p2]) ++ List.replicate (4 - (lg_sl ([.ref aN_0, .ref aG_0, .int p2])).length) Slot.unset).toArray = ls at hl ⊢
  have hl : lv_has ls 4 [(0, .ref aN_0), (1, .ref aG_0), (2, .int p2)] := hl
  have hP : va_P D vwCl ((wcG ci aG_0 aG_1 aG_2 aG_3 aG_4 zG) ++ (wcN ci aN_0 aN_1 aN_2 aN_3 aN_4 zN)) s.heap := hP
  generalize hH0 : s.heap = H at hP ⊢
  have hS : va_S A s.heap H [] := by rw [← hH0]; exact va_S.rf
  clear hH0
  generalize ([] : List Loc) = locs at hS ⊢
  have hk_0 := hts (.fieldLink RX2 24 "HedgeWar$Notes" "roots" "I") (by decide +kernel)
  have hin_RX2 : ∀ w ∈ wsX20, w ∈ wsX2_fits := by decide +kernel
  have hk_2 := hts (.fieldLink RX2 9 "HedgeWar$Notes" "rootEdges" "[I") (by decide +kernel)
  have hk_3 := hts (.fieldLink RX2 15 "HedgeWar$Notes" "rootHeights" "[I") (by decide +kernel)
  unfold f_X2_fits at hF
  refine lv_iconst (v := 0) hx hb dX2_fits_0 (by decide) ?_
  refine lv_topi (fun v3_1 ev3_1 => ?_)
  replace hF := nm_i hF ev3_1
  refine lv_istore_n (lv' := [(3, .int v3_1), (0, .ref aN_0), (1, .ref aG_0), (2, .int p2)]) hx hb dX2_fits_1 rfl hl (by decide) rfl (fun ls hl => ?_)
  refine lpW (σ := Int32) (I := fun n v H locs ls => L_X2_fits_2 zG zN p2 n v = some res ∧ va_P D vwCl ((wcG ci aG_0 aG_1 aG_2 aG_3 aG_4 zG) ++ (wcN ci aN_0 aN_1 aN_2 aN_3 aN_4 zN)) H ∧ va_D A ((wcG ci aG_0 aG_1 aG_2 aG_3 aG_4 zG) ++ (wcN ci aN_0 aN_1 aN_2 aN_3 aN_4 zN)) ∧ va_S A s.heap H locs ∧ lv_has ls 4 [(0, .ref aN_0), (1, .ref aG_0), (2, .int p2), (3, .int v)]) 3000 v3_1 (fun _ _ _ _ h => no_none h.1) ⟨hF, hP, hD, hS, lv_sub hl [1, 2, 3, 0] rfl⟩ ?_
  clear hF hP hD hS hl
  intro n ih_3 vq H locs ls hI
  obtain ⟨v3_2, rfl⟩ : ∃ y, y = vq := ⟨_, rfl⟩
  obtain ⟨hF, hP, hD, hS, hl⟩ := hI
  have hP : va_P D vwCl ((wcG ci aG_0 aG_1 aG_2 aG_3 aG_4 zG) ++ (wcN ci aN_0 aN_1 aN_2 aN_3 aN_4 zN)) H := hP
  have hD : va_D A ((wcG ci aG_0 aG_1 aG_2 aG_3 aG_4 zG) ++ (wcN ci aN_0 aN_1 aN_2 aN_3 aN_4 zN)) := hD
  have hl : lv_has ls 4 [(0, .ref aN_0), (1, .ref aG_0), (2, .int p2), (3, .int v3_2)] := hl
  replace hF : L_X2_fits_2 zG zN p2 (n + 1) v3_2 = some res := hF
  rw [L_X2_fits_2] at hF
  refine lv_iload_n hx hb dX2_fits_2 rfl (lv_at hl 3 rfl) ?_
  refine lv_aload_n hx hb dX2_fits_3 rfl (lv_at hl 0 rfl) ?_
  refine va_get (D := D) (ci := 2) (v := .int (zN.1 0)) (C := RX2) (T := TX2) (N := 6) hx hb hts hin_RX2 hown hK hP 5 rfl rfl 0 (by decide) hk_0 (fun _ h9 => h9) rfl dX2_fits_4 ?_
  refine lv_icmp_ge (tgt := 38) hx hb dX2_fits_7 (by decide) (fun c_5 => ?_) (fun c_5 => ?_)
  · replace hF := if_i c_5 hF
    refine lv_iconst (v := 1) hx hb dX2_fits_38 (by decide) ?_
    obtain rfl := Option.some.inj hF
    exact W.zret (v := 1) (ty := .boolean) hx hb hr rfl (fun t ht hW => ⟨⟨_, (), rfl, rfl, by rw [ht]; exact hP, va_K.moved hW.alike hK, hD⟩, hS.F ht⟩) hS.2.2 dX2_fits_39
  · replace hF := if_o c_5 hF
    refine lv_aload_n hx hb dX2_fits_10 rfl (lv_at hl 1 rfl) ?_
    refine lv_aload_n hx hb dX2_fits_11 rfl (lv_at hl 0 rfl) ?_
    refine va_get (D := D) (ci := 2) (v := .ref aN_1) (C := RX2) (T := TX2) (N := 6) hx hb hts hin_RX2 hown hK hP 5 rfl rfl 2 (by decide) hk_2 (fun _ h9 => h9) rfl dX2_fits_12 ?_
    refine lv_iload_n hx hb dX2_fits_15 rfl (lv_at hl 3 rfl) ?_
    replace hF := ald_i hF
    obtain ⟨hin_6, hF⟩ := hF
    refine va_iald hx hb hK hP 6 0 rfl rfl hin_6 dX2_fits_16 ?_
    refine lv_topi (fun x_7 ex_7 => ?_)
    replace hF := nm_i hF ex_7
    refine lv_iload_n hx hb dX2_fits_17 rfl (lv_at hl 2 rfl) ?_
    replace hF := bnd hF
    obtain ⟨r_8, hc_9, hF⟩ := hF
    refine cl_Vi (As := [.int x_7, .int p2]) (rest := []) (wc := (wcG ci aG_0 aG_1 aG_2 aG_3 aG_4 zG)) (wr := ([5, 6, 7, 8, 9].filterMap (fun i => ((wcG ci aG_0 aG_1 aG_2 aG_3 aG_4 zG) ++ (wcN ci aN_0 aN_1 aN_2 aN_3 aN_4 zN))[i]?))) (w1 := (wcG ci aG_0 aG_1 aG_2 aG_3 aG_4 zG)) (wn := ((wcG ci aG_0 aG_1 aG_2 aG_3 aG_4 zG) ++ (wcN ci aN_0 aN_1 aN_2 aN_3 aN_4 zN))) ⟨hx, hb, hml, hown, hts⟩ (cwV 2 hts gX2_fits_X0_heightOn rfl rfl rfl (by decide +kernel) ⟨Nat.le_of_ble_eq_true rfl, Nat.le_of_ble_eq_true rfl⟩) (c_X0_heightOn l D ci aG_0 aG_1 aG_2 aG_3 aG_4 H.size zG x_7 p2 _ hc_9) hK hP hD hS hA [0, 1, 2, 3, 4] [5, 6, 7, 8, 9] [5, 6, 7, 8, 9, 0, 1, 2, 3, 4] rfl rfl rfl (by decide) 0 rfl rfl rfl rfl hl.1 (Nat.le_of_ble_eq_true rfl) dX2_fits_18 (Nat.zero_le _) (Nat.zero_le _) (fun H locs hP hD hS => ?_)
    have hP : va_P D vwCl ((wcG ci aG_0 aG_1 aG_2 aG_3 aG_4 zG) ++ (wcN ci aN_0 aN_1 aN_2 aN_3 aN_4 zN)) H := hP
    have hD : va_D A ((wcG ci aG_0 aG_1 aG_2 aG_3 aG_4 zG) ++ (wcN ci aN_0 aN_1 aN_2 aN_3 aN_4 zN)) := hD
    refine lv_aload_n hx hb dX2_fits_21 rfl (lv_at hl 0 rfl) ?_
    refine va_get (D := D) (ci := 2) (v := .ref aN_2) (C := RX2) (T := TX2) (N := 6) hx hb hts hin_RX2 hown hK hP 5 rfl rfl 3 (by decide) hk_3 (fun _ h9 => h9) rfl dX2_fits_22 ?_
    refine lv_iload_n hx hb dX2_fits_25 rfl (lv_at hl 3 rfl) ?_
    replace hF := ald_i hF
    obtain ⟨hin_10, hF⟩ := hF
    refine va_iald hx hb hK hP 7 0 rfl rfl hin_10 dX2_fits_26 ?_
    refine lv_topi (fun x_11 ex_11 => ?_)
    replace hF := nm_i hF ex_11
    refine lv_icmp_eq (tgt := 32) hx hb dX2_fits_27 (by decide) (fun c_12 => ?_) (fun c_12 => ?_)
    · replace hF := if_i c_12 hF
      obtain ⟨v3_13, ev3_13⟩ : ∃ y : Int32, y = v3_2 + 1 := ⟨_, rfl⟩
      replace hF := nm_i hF ev3_13
      refine lv_iinc (v := v3_13) (lv' := [(3, .int v3_13), (0, .ref aN_0), (1, .ref aG_0), (2, .int p2)]) hx hb dX2_fits_32 hl (k := 3) rfl (by rw [ev3_13]; rfl) (by decide) rfl (fun ls hl => ?_)
      refine lv_goto (tgt := 2) hx hb dX2_fits_35 (by decide) ?_
      exact ih_3 v3_13 H locs ls ⟨hF, hP, hD, hS, lv_sub hl [1, 2, 3, 0] rfl⟩
    · replace hF := if_o c_12 hF
      refine lv_iconst (v := 0) hx hb dX2_fits_30 (by decide) ?_
      obtain rfl := Option.some.inj hF
      exact W.zret (v := 0) (ty := .boolean) hx hb hr rfl (fun t ht hW => ⟨⟨_, (), rfl, rfl, by rw [ht]; exact hP, va_K.moved hW.alike hK, hD⟩, hS.F ht⟩) hS.2.2 dX2_fits_31
noncomputable def L_X2_yearsThatFit_4 (zG : GS) (zN : NS) : Nat → Int32 → Int32 → Option (Int32 × Int32)
  | 0, _, _ => none
  | n + 1, v2_3, v3_4 => if (20 : Int32) < v3_4 then (some (v2_3, v3_4)) else ((f_X2_fits zG zN v3_4).bind fun r_12 => if r_12 = 0 then (nm (v3_4 + 1) fun v3_15 => L_X2_yearsThatFit_4 zG zN n v2_3 v3_15) else (nm (v2_3 ||| ((1 : Int32) <<< (v3_4 &&& 31))) fun v2_16 => nm (v3_4 + 1) fun v3_17 => L_X2_yearsThatFit_4 zG zN n v2_16 v3_17))
noncomputable def f_X2_yearsThatFit (zG : GS) (zN : NS) : Option (Int32) := nm (0 : Int32) fun v2_1 => nm (0 : Int32) fun v3_2 => (L_X2_yearsThatFit_4 zG zN 3000 v2_1 v3_2).bind fun q_19 => nm q_19.1 fun v2_7 => nm q_19.2 fun v3_8 => some v2_7
set_option maxHeartbeats 4000000 in
set_option maxRecDepth 100000 in
theorem c_X2_yearsThatFit (l : Launch) (D : va_G) (ci : Nat → ClassId) (aG_0 : Nat) (aG_1 : Nat) (aG_2 : Nat) (aG_3 : Nat) (aG_4 : Nat) (aN_0 : Nat) (aN_1 : Nat) (aN_2 : Nat) (aN_3 : Nat) (aN_4 : Nat) (sz : Nat) (zG : GS) (zN : NS) (res : Int32) (hF : f_X2_yearsThatFit zG zN = some res) : CtI l yX2_yearsThatFit wsX2_yearsThatFit { frames := 3, cells := 0, slots := 0, locals := 66 } [.ref aN_0, .ref aG_0] D ci ((wcG ci aG_0 aG_1 aG_2 aG_3 aG_4 zG) ++ (wcN ci aN_0 aN_1 aN_2 aN_3 aN_4 zN)) sz res ((wcG ci aG_0 aG_1 aG_2 aG_3 aG_4 zG) ++ (wcN ci aN_0 aN_1 aN_2 aN_3 aN_4 zN)) := by
  refine Met.ofW (cc := cX2_yearsThatFit) (maxL := 4) (ret := (some .int)) (by decide) rfl ?_
  intro p e s m args below meth c s₁ B hml hv
  obtain ⟨rfl, hsz, hP, hK, hD0⟩ := hv
  have hx := B.exec
  have hb := B.bytes
  have hr := B.returns
  have hts := atoms_spec (ws := wsX2_yearsThatFit) B.pre
  have hown : s.vm.findClass RX2 = some m.cls := findClass_of_methodNamed B.named
  have hlocks := B.notSynchronized
  subst hsz
  have hD := hD0.self (sz := s.heap.size)
  generalize hAe : va_A ((wcG ci aG_0 aG_1 aG_2 aG_3 aG_4 zG) ++ (wcN ci aN_0 aN_1 aN_2 aN_3 aN_4 zN)) s.heap.size = A at hD ⊢
  have hA : ∀ q : Nat, s.heap.size ≤ q → A q := fun q h => by rw [← hAe]; exact Or.inr h
  clear hD0 hAe
  have hl := lv_entry ([.ref aN_0, .ref aG_0]) (n := 4) (Nat.le_of_ble_eq_true rfl)
  rw [lg_entry_eq]
  generalize (lg_sl ([.ref aN_0, .ref aG_0]) ++ List.replicate (4 - (lg_sl ([.ref aN_0, .ref aG_0])).length) Slot.unset).toArray = ls at hl ⊢
  have hl : lv_has ls 4 [(0, .ref aN_0), (1, .ref aG_0)] := hl
  have hP : va_P D vwCl ((wcG ci aG_0 aG_1 aG_2 aG_3 aG_4 zG) ++ (wcN ci aN_0 aN_1 aN_2 aN_3 aN_4 zN)) s.heap := hP
  generalize hH0 : s.heap = H at hP ⊢
  have hS : va_S A s.heap H [] := by rw [← hH0]; exact va_S.rf
  clear hH0
  generalize ([] : List Loc) = locs at hS ⊢
  unfold f_X2_yearsThatFit at hF
  refine lv_iconst (v := 0) hx hb dX2_yearsThatFit_0 (by decide) ?_
  refine lv_topi (fun v2_1 ev2_1 => ?_)
  replace hF := nm_i hF ev2_1
  refine lv_istore_n (lv' := [(2, .int v2_1), (0, .ref aN_0), (1, .ref aG_0)]) hx hb dX2_yearsThatFit_1 rfl hl (by decide) rfl (fun ls hl => ?_)
  refine lv_iconst (v := 0) hx hb dX2_yearsThatFit_2 (by decide) ?_
  refine lv_topi (fun v3_2 ev3_2 => ?_)
  replace hF := nm_i hF ev3_2
  refine lv_istore_n (lv' := [(3, .int v3_2), (2, .int v2_1), (0, .ref aN_0), (1, .ref aG_0)]) hx hb dX2_yearsThatFit_3 rfl hl (by decide) rfl (fun ls hl => ?_)
  replace hF := bnd hF
  obtain ⟨q_19, hv_18, hF⟩ := hF
  obtain ⟨v2_7, ev2_7⟩ : ∃ y : Int32, y = q_19.1 := ⟨_, rfl⟩
  replace hF := nm_i hF ev2_7
  obtain ⟨v3_8, ev3_8⟩ : ∃ y : Int32, y = q_19.2 := ⟨_, rfl⟩
  replace hF := nm_i hF ev3_8
  obtain rfl : q_19 = (v2_7, v3_8) := by rw [ev2_7, ev3_8]
  clear ev2_7
  clear ev3_8
  refine jn (P := fun H locs ls => va_P D vwCl ((wcG ci aG_0 aG_1 aG_2 aG_3 aG_4 zG) ++ (wcN ci aN_0 aN_1 aN_2 aN_3 aN_4 zN)) H ∧ va_D A ((wcG ci aG_0 aG_1 aG_2 aG_3 aG_4 zG) ++ (wcN ci aN_0 aN_1 aN_2 aN_3 aN_4 zN)) ∧ va_S A s.heap H locs ∧ lv_has ls 4 [(0, .ref aN_0), (1, .ref aG_0), (2, .int v2_7), (3, .int v3_8)]) (pcJ := 31) (st := []) ?_ ?_
  · intro H locs ls hJ
    obtain ⟨hP, hD, hS, hl⟩ := hJ
    refine lv_iload_n hx hb dX2_yearsThatFit_31 rfl (lv_at hl 2 rfl) ?_
    obtain rfl := Option.some.inj hF
    exact W.iret (v := v2_7) hx hb hr (fun t ht hW => ⟨⟨_, (), rfl, rfl, by rw [ht]; exact hP, va_K.moved hW.alike hK, hD⟩, hS.F ht⟩) hS.2.2 dX2_yearsThatFit_32
  · intro J_6
    clear hF
    have hF := hv_18
    refine lpW (σ := Int32 × Int32) (I := fun n v H locs ls => L_X2_yearsThatFit_4 zG zN n v.1 v.2 = some (v2_7, v3_8) ∧ va_P D vwCl ((wcG ci aG_0 aG_1 aG_2 aG_3 aG_4 zG) ++ (wcN ci aN_0 aN_1 aN_2 aN_3 aN_4 zN)) H ∧ va_D A ((wcG ci aG_0 aG_1 aG_2 aG_3 aG_4 zG) ++ (wcN ci aN_0 aN_1 aN_2 aN_3 aN_4 zN)) ∧ va_S A s.heap H locs ∧ lv_has ls 4 [(0, .ref aN_0), (1, .ref aG_0), (2, .int v.1), (3, .int v.2)]) 3000 (v2_1, v3_2) (fun _ _ _ _ h => no_none h.1) ⟨hF, hP, hD, hS, lv_sub hl [2, 3, 1, 0] rfl⟩ ?_
    clear hF hP hD hS hl
    intro n ih_5 vq H locs ls hI
    obtain ⟨v2_3, v3_4⟩ := vq
    obtain ⟨hF, hP, hD, hS, hl⟩ := hI
    have hP : va_P D vwCl ((wcG ci aG_0 aG_1 aG_2 aG_3 aG_4 zG) ++ (wcN ci aN_0 aN_1 aN_2 aN_3 aN_4 zN)) H := hP
    have hD : va_D A ((wcG ci aG_0 aG_1 aG_2 aG_3 aG_4 zG) ++ (wcN ci aN_0 aN_1 aN_2 aN_3 aN_4 zN)) := hD
    have hl : lv_has ls 4 [(0, .ref aN_0), (1, .ref aG_0), (2, .int v2_3), (3, .int v3_4)] := hl
    replace hF : L_X2_yearsThatFit_4 zG zN (n + 1) v2_3 v3_4 = some (v2_7, v3_8) := hF
    rw [L_X2_yearsThatFit_4] at hF
    refine lv_iload_n hx hb dX2_yearsThatFit_4 rfl (lv_at hl 3 rfl) ?_
    refine lv_bipush (v := 20) hx hb dX2_yearsThatFit_5 (by decide) ?_
    refine lv_icmp_gt (tgt := 31) hx hb dX2_yearsThatFit_7 (by decide) (fun c_9 => ?_) (fun c_9 => ?_)
    · replace hF := if_i c_9 hF
      obtain ⟨g_10, g_11⟩ : v2_3 = v2_7 ∧ v3_4 = v3_8 := by have h9 := Option.some.inj hF; simpa only [Prod.mk.injEq] using h9
      subst g_10
      subst g_11
      exact J_6 H locs ls ⟨hP, hD, hS, lv_sub hl [0, 1, 2, 3] rfl⟩
    · replace hF := if_o c_9 hF
      refine lv_aload_n hx hb dX2_yearsThatFit_10 rfl (lv_at hl 0 rfl) ?_
      refine lv_aload_n hx hb dX2_yearsThatFit_11 rfl (lv_at hl 1 rfl) ?_
      refine lv_iload_n hx hb dX2_yearsThatFit_12 rfl (lv_at hl 3 rfl) ?_
      replace hF := bnd hF
      obtain ⟨r_12, hc_13, hF⟩ := hF
      refine cl_Vi0 (As := [.ref aG_0, .int v3_4]) (rest := []) ⟨hx, hb, hml, hown, hts⟩ (cwV 2 hts gX2_yearsThatFit_X2_fits rfl rfl rfl (by decide +kernel) ⟨Nat.le_of_ble_eq_true rfl, Nat.le_of_ble_eq_true rfl⟩) (c_X2_fits l D ci aG_0 aG_1 aG_2 aG_3 aG_4 aN_0 aN_1 aN_2 aN_3 aN_4 H.size zG zN v3_4 _ hc_13) hK hP hD hS hA 5 rfl rfl rfl rfl hl.1 (Nat.le_of_ble_eq_true rfl) dX2_yearsThatFit_13 (Nat.zero_le _) (Nat.zero_le _) (fun H locs hP hD hS => ?_)
      have hP : va_P D vwCl ((wcG ci aG_0 aG_1 aG_2 aG_3 aG_4 zG) ++ (wcN ci aN_0 aN_1 aN_2 aN_3 aN_4 zN)) H := hP
      have hD : va_D A ((wcG ci aG_0 aG_1 aG_2 aG_3 aG_4 zG) ++ (wcN ci aN_0 aN_1 aN_2 aN_3 aN_4 zN)) := hD
      refine lv_if_eq (tgt := 25) hx hb dX2_yearsThatFit_16 (by decide) (fun c_14 => ?_) (fun c_14 => ?_)
      · replace hF := if_i c_14 hF
        obtain ⟨v3_15, ev3_15⟩ : ∃ y : Int32, y = v3_4 + 1 := ⟨_, rfl⟩
        replace hF := nm_i hF ev3_15
        refine lv_iinc (v := v3_15) (lv' := [(3, .int v3_15), (0, .ref aN_0), (1, .ref aG_0), (2, .int v2_3)]) hx hb dX2_yearsThatFit_25 hl (k := 3) rfl (by rw [ev3_15]; rfl) (by decide) rfl (fun ls hl => ?_)
        refine lv_goto (tgt := 4) hx hb dX2_yearsThatFit_28 (by decide) ?_
        exact ih_5 (v2_3, v3_15) H locs ls ⟨hF, hP, hD, hS, lv_sub hl [1, 2, 3, 0] rfl⟩
      · replace hF := if_o c_14 hF
        refine lv_iload_n hx hb dX2_yearsThatFit_19 rfl (lv_at hl 2 rfl) ?_
        refine lv_iconst (v := 1) hx hb dX2_yearsThatFit_20 (by decide) ?_
        refine lv_iload_n hx hb dX2_yearsThatFit_21 rfl (lv_at hl 3 rfl) ?_
        refine lv_ishl hx hb dX2_yearsThatFit_22 ?_
        refine lv_ior hx hb dX2_yearsThatFit_23 ?_
        refine lv_topi (fun v2_16 ev2_16 => ?_)
        replace hF := nm_i hF ev2_16
        refine lv_istore_n (lv' := [(2, .int v2_16), (0, .ref aN_0), (1, .ref aG_0), (3, .int v3_4)]) hx hb dX2_yearsThatFit_24 rfl hl (by decide) rfl (fun ls hl => ?_)
        obtain ⟨v3_17, ev3_17⟩ : ∃ y : Int32, y = v3_4 + 1 := ⟨_, rfl⟩
        replace hF := nm_i hF ev3_17
        refine lv_iinc (v := v3_17) (lv' := [(3, .int v3_17), (2, .int v2_16), (0, .ref aN_0), (1, .ref aG_0)]) hx hb dX2_yearsThatFit_25 hl (k := 3) rfl (by rw [ev3_17]; rfl) (by decide) rfl (fun ls hl => ?_)
        refine lv_goto (tgt := 4) hx hb dX2_yearsThatFit_28 (by decide) ?_
        exact ih_5 (v2_16, v3_17) H locs ls ⟨hF, hP, hD, hS, lv_sub hl [2, 3, 1, 0] rfl⟩
noncomputable def f_X3_forget (zP : PS) : Option (PS) := nm ((upd zP 1 0) : PS) fun zP_1 => some zP_1
set_option maxHeartbeats 4000000 in
set_option maxRecDepth 100000 in
theorem c_X3_forget (l : Launch) (D : va_G) (ci : Nat → ClassId) (aP_0 : Nat) (aP_1 : Nat) (aQ : Nat → Nat) (sz : Nat) (zP : PS) (res : PS) (hF : f_X3_forget zP = some res) : CtV l yX3_forget wsX3_forget { frames := 0, cells := 0, slots := 0, locals := 0 } [.ref aP_0] D ci (wcP ci aP_0 aP_1 aQ zP) sz (wcP ci aP_0 aP_1 aQ res) := by
  refine Met.ofW (cc := cX3_forget) (maxL := 1) (ret := none) (by decide) rfl ?_
  intro p e s m args below meth c s₁ B hml hv
  obtain ⟨rfl, hsz, hP, hK, hD0⟩ := hv
  have hx := B.exec
  have hb := B.bytes
  have hr := B.returns
  have hts := atoms_spec (ws := wsX3_forget) B.pre
  have hown : s.vm.findClass RX3 = some m.cls := findClass_of_methodNamed B.named
  have hlocks := B.notSynchronized
  subst hsz
  have hD := hD0.self (sz := s.heap.size)
  generalize hAe : va_A (wcP ci aP_0 aP_1 aQ zP) s.heap.size = A at hD ⊢
  have hA : ∀ q : Nat, s.heap.size ≤ q → A q := fun q h => by rw [← hAe]; exact Or.inr h
  clear hD0 hAe
  have hl := lv_entry ([.ref aP_0]) (n := 1) (Nat.le_of_ble_eq_true rfl)
  rw [lg_entry_eq]
  generalize (lg_sl ([.ref aP_0]) ++ List.replicate (1 - (lg_sl ([.ref aP_0])).length) Slot.unset).toArray = ls at hl ⊢
  have hl : lv_has ls 1 [(0, .ref aP_0)] := hl
  have hP : va_P D vwCl (wcP ci aP_0 aP_1 aQ zP) s.heap := hP
  generalize hH0 : s.heap = H at hP ⊢
  have hS : va_S A s.heap H [] := by rw [← hH0]; exact va_S.rf
  clear hH0
  generalize ([] : List Loc) = locs at hS ⊢
  have hk_0 := hts (.fieldLink RX3 18 "HedgeWar$Past" "count" "I") (by decide +kernel)
  have hin_RX3 : ∀ w ∈ wsX30, w ∈ wsX3_forget := by decide +kernel
  unfold f_X3_forget at hF
  refine lv_aload_n hx hb dX3_forget_0 rfl (lv_at hl 0 rfl) ?_
  refine lv_iconst (v := 0) hx hb dX3_forget_1 (by decide) ?_
  refine va_put (D := D) (ci := 3) (v := .int 0) (ty := .int) (C := RX3) (T := TX3) (N := 3) hx hb hts hin_RX3 tyX3 tyX3_ok nmX3 hown hK hP hD hS 0 rfl rfl 1 (by decide) hk_0 (fun _ h9 => h9) rfl (by decide +kernel) rfl rfl (Nat.le_of_ble_eq_true rfl) dX3_forget_2 (fun H locs hP hD hS => ?_)
  obtain ⟨zP_1, ezP_1⟩ : ∃ y : PS, y = (upd zP 1 0) := ⟨_, rfl⟩
  replace hF := nm_i hF ezP_1
  have hP : va_P D vwCl (wcP ci aP_0 aP_1 aQ zP_1) H := by rw [ezP_1]; exact hP
  have hD : va_D A (wcP ci aP_0 aP_1 aQ zP_1) := by rw [ezP_1]; exact hD
  obtain rfl := Option.some.inj hF
  exact W.vret hx hb hr (fun t ht hW => ⟨⟨(), rfl, trivial, by rw [ht]; exact hP, va_K.moved hW.alike hK, hD⟩, hS.F ht⟩) hS.2.2 dX3_forget_5
noncomputable def f_X3_recall (zS : SS) (zP : PS) (zQ : QS) : Option (SS × PS) := dvi (20 : Int32) <| nm ((((zP 2) + 20) - 1) - (((zP 2) + 20) - 1) / 20 * 20) fun f2_2 => nm ((upd zP 2 f2_2) : PS) fun zP_3 => nm ((zP_3 1) - 1) fun f1_4 => nm ((upd zP_3 1 f1_4) : PS) fun zP_5 => nm (zP_5 2) fun k_6 => if k_6 = 0 then ((f_X5_copyFrom zS (zQ 0)).bind fun zS_8 => some (zS_8, zP_5)) else if k_6 = 1 then ((f_X5_copyFrom zS (zQ 1)).bind fun zS_11 => some (zS_11, zP_5)) else if k_6 = 2 then ((f_X5_copyFrom zS (zQ 2)).bind fun zS_14 => some (zS_14, zP_5)) else if k_6 = 3 then ((f_X5_copyFrom zS (zQ 3)).bind fun zS_17 => some (zS_17, zP_5)) else if k_6 = 4 then ((f_X5_copyFrom zS (zQ 4)).bind fun zS_20 => some (zS_20, zP_5)) else if k_6 = 5 then ((f_X5_copyFrom zS (zQ 5)).bind fun zS_23 => some (zS_23, zP_5)) else if k_6 = 6 then ((f_X5_copyFrom zS (zQ 6)).bind fun zS_26 => some (zS_26, zP_5)) else if k_6 = 7 then ((f_X5_copyFrom zS (zQ 7)).bind fun zS_29 => some (zS_29, zP_5)) else if k_6 = 8 then ((f_X5_copyFrom zS (zQ 8)).bind fun zS_32 => some (zS_32, zP_5)) else if k_6 = 9 then ((f_X5_copyFrom zS (zQ 9)).bind fun zS_35 => some (zS_35, zP_5)) else if k_6 = 10 then ((f_X5_copyFrom zS (zQ 10)).bind fun zS_38 => some (zS_38, zP_5)) else if k_6 = 11 then ((f_X5_copyFrom zS (zQ 11)).bind fun zS_41 => some (zS_41, zP_5)) else if k_6 = 12 then ((f_X5_copyFrom zS (zQ 12)).bind fun zS_44 => some (zS_44, zP_5)) else if k_6 = 13 then ((f_X5_copyFrom zS (zQ 13)).bind fun zS_47 => some (zS_47, zP_5)) else if k_6 = 14 then ((f_X5_copyFrom zS (zQ 14)).bind fun zS_50 => some (zS_50, zP_5)) else if k_6 = 15 then ((f_X5_copyFrom zS (zQ 15)).bind fun zS_53 => some (zS_53, zP_5)) else if k_6 = 16 then ((f_X5_copyFrom zS (zQ 16)).bind fun zS_56 => some (zS_56, zP_5)) else if k_6 = 17 then ((f_X5_copyFrom zS (zQ 17)).bind fun zS_59 => some (zS_59, zP_5)) else if k_6 = 18 then ((f_X5_copyFrom zS (zQ 18)).bind fun zS_62 => some (zS_62, zP_5)) else if k_6 = 19 then ((f_X5_copyFrom zS (zQ 19)).bind fun zS_65 => some (zS_65, zP_5)) else none
set_option maxHeartbeats 4000000 in
set_option maxRecDepth 100000 in
theorem c_X3_recall (l : Launch) (D : va_G) (ci : Nat → ClassId) (aS_0 : Nat) (aS_1 : Nat) (aP_0 : Nat) (aP_1 : Nat) (aQ : Nat → Nat) (sz : Nat) (zS : SS) (zP : PS) (zQ : QS) (res : SS × PS) (hF : f_X3_recall zS zP zQ = some res) : CtV l yX3_recall wsX3_recall { frames := 2, cells := 0, slots := 0, locals := 61 } [.ref aP_0, .ref aS_0] D ci ((wcS ci aS_0 aS_1 zS) ++ ((wcP ci aP_0 aP_1 aQ zP) ++ (wcQ ci aQ zQ))) sz ((wcS ci aS_0 aS_1 res.1) ++ ((wcP ci aP_0 aP_1 aQ res.2) ++ (wcQ ci aQ zQ))) := by
  refine Met.ofW (cc := cX3_recall) (maxL := 2) (ret := none) (by decide) rfl ?_
  intro p e s m args below meth c s₁ B hml hv
  obtain ⟨rfl, hsz, hP, hK, hD0⟩ := hv
  have hx := B.exec
  have hb := B.bytes
  have hr := B.returns
  have hts := atoms_spec (ws := wsX3_recall) B.pre
  have hown : s.vm.findClass RX3 = some m.cls := findClass_of_methodNamed B.named
  have hlocks := B.notSynchronized
  subst hsz
  have hD := hD0.self (sz := s.heap.size)
  generalize hAe : va_A ((wcS ci aS_0 aS_1 zS) ++ ((wcP ci aP_0 aP_1 aQ zP) ++ (wcQ ci aQ zQ))) s.heap.size = A at hD ⊢
  have hA : ∀ q : Nat, s.heap.size ≤ q → A q := fun q h => by rw [← hAe]; exact Or.inr h
  clear hD0 hAe
  have hl := lv_entry ([.ref aP_0, .ref aS_0]) (n := 2) (Nat.le_of_ble_eq_true rfl)
  rw [lg_entry_eq]
  generalize (lg_sl ([.ref aP_0, .ref aS_0]) ++ List.replicate (2 - (lg_sl ([.ref aP_0, .ref aS_0])).length) Slot.unset).toArray = ls at hl ⊢
  have hl : lv_has ls 2 [(0, .ref aP_0), (1, .ref aS_0)] := hl
  have hP : va_P D vwCl ((wcS ci aS_0 aS_1 zS) ++ ((wcP ci aP_0 aP_1 aQ zP) ++ (wcQ ci aQ zQ))) s.heap := hP
  generalize hH0 : s.heap = H at hP ⊢
  have hS : va_S A s.heap H [] := by rw [← hH0]; exact va_S.rf
  clear hH0
  generalize ([] : List Loc) = locs at hS ⊢
  have hk_0 := hts (.fieldLink RX3 22 "HedgeWar$Past" "next" "I") (by decide +kernel)
  have hin_RX3 : ∀ w ∈ wsX30, w ∈ wsX3_recall := by decide +kernel
  have hk_2 := hts (.fieldLink RX3 18 "HedgeWar$Past" "count" "I") (by decide +kernel)
  have hk_3 := hts (.fieldLink RX3 11 "HedgeWar$Past" "stands" "[LHedgeWar$Stand;") (by decide +kernel)
  unfold f_X3_recall at hF
  refine lv_aload_n hx hb dX3_recall_0 rfl (lv_at hl 0 rfl) ?_
  refine lv_aload_n hx hb dX3_recall_1 rfl (lv_at hl 0 rfl) ?_
  refine va_get (D := D) (ci := 3) (v := .int (zP 2)) (C := RX3) (T := TX3) (N := 3) hx hb hts hin_RX3 hown hK hP 2 rfl rfl 2 (by decide) hk_0 (fun _ h9 => h9) rfl dX3_recall_2 ?_
  refine lv_bipush (v := 20) hx hb dX3_recall_5 (by decide) ?_
  refine lv_iadd hx hb dX3_recall_7 ?_
  refine lv_iconst (v := 1) hx hb dX3_recall_8 (by decide) ?_
  refine lv_isub hx hb dX3_recall_9 ?_
  refine lv_bipush (v := 20) hx hb dX3_recall_10 (by decide) ?_
  replace hF := dvi_i hF
  obtain ⟨hne_1, hF⟩ := hF
  refine lv_irem hx hb dX3_recall_12 hne_1 ?_
  refine lv_topi (fun f2_2 ef2_2 => ?_)
  replace hF := nm_i hF ef2_2
  refine va_put (D := D) (ci := 3) (v := .int f2_2) (ty := .int) (C := RX3) (T := TX3) (N := 3) hx hb hts hin_RX3 tyX3 tyX3_ok nmX3 hown hK hP hD hS 2 rfl rfl 2 (by decide) hk_0 (fun _ h9 => h9) rfl (by decide +kernel) rfl rfl (Nat.le_of_ble_eq_true rfl) dX3_recall_13 (fun H locs hP hD hS => ?_)
  obtain ⟨zP_3, ezP_3⟩ : ∃ y : PS, y = (upd zP 2 f2_2) := ⟨_, rfl⟩
  replace hF := nm_i hF ezP_3
  have hP : va_P D vwCl ((wcS ci aS_0 aS_1 zS) ++ ((wcP ci aP_0 aP_1 aQ zP_3) ++ (wcQ ci aQ zQ))) H := by rw [ezP_3]; exact hP
  have hD : va_D A ((wcS ci aS_0 aS_1 zS) ++ ((wcP ci aP_0 aP_1 aQ zP_3) ++ (wcQ ci aQ zQ))) := by rw [ezP_3]; exact hD
  refine lv_aload_n hx hb dX3_recall_16 rfl (lv_at hl 0 rfl) ?_
  refine lv_dup hx hb dX3_recall_17 rfl ?_
  refine va_get (D := D) (ci := 3) (v := .int (zP_3 1)) (C := RX3) (T := TX3) (N := 3) hx hb hts hin_RX3 hown hK hP 2 rfl rfl 1 (by decide) hk_2 (fun _ h9 => h9) rfl dX3_recall_18 ?_
  refine lv_iconst (v := 1) hx hb dX3_recall_21 (by decide) ?_
  refine lv_isub hx hb dX3_recall_22 ?_
  refine lv_topi (fun f1_4 ef1_4 => ?_)
  replace hF := nm_i hF ef1_4
  refine va_put (D := D) (ci := 3) (v := .int f1_4) (ty := .int) (C := RX3) (T := TX3) (N := 3) hx hb hts hin_RX3 tyX3 tyX3_ok nmX3 hown hK hP hD hS 2 rfl rfl 1 (by decide) hk_2 (fun _ h9 => h9) rfl (by decide +kernel) rfl rfl (Nat.le_of_ble_eq_true rfl) dX3_recall_23 (fun H locs hP hD hS => ?_)
  obtain ⟨zP_5, ezP_5⟩ : ∃ y : PS, y = (upd zP_3 1 f1_4) := ⟨_, rfl⟩
  replace hF := nm_i hF ezP_5
  have hP : va_P D vwCl ((wcS ci aS_0 aS_1 zS) ++ ((wcP ci aP_0 aP_1 aQ zP_5) ++ (wcQ ci aQ zQ))) H := by rw [ezP_5]; exact hP
  have hD : va_D A ((wcS ci aS_0 aS_1 zS) ++ ((wcP ci aP_0 aP_1 aQ zP_5) ++ (wcQ ci aQ zQ))) := by rw [ezP_5]; exact hD
  refine lv_aload_n hx hb dX3_recall_26 rfl (lv_at hl 1 rfl) ?_
  refine lv_aload_n hx hb dX3_recall_27 rfl (lv_at hl 0 rfl) ?_
  refine va_get (D := D) (ci := 3) (v := .ref aP_1) (C := RX3) (T := TX3) (N := 3) hx hb hts hin_RX3 hown hK hP 2 rfl rfl 0 (by decide) hk_3 (fun _ h9 => h9) rfl dX3_recall_28 ?_
  refine lv_aload_n hx hb dX3_recall_31 rfl (lv_at hl 0 rfl) ?_
  refine va_get (D := D) (ci := 3) (v := .int (zP_5 2)) (C := RX3) (T := TX3) (N := 3) hx hb hts hin_RX3 hown hK hP 2 rfl rfl 2 (by decide) hk_0 (fun _ h9 => h9) rfl dX3_recall_32 ?_
  refine lv_topi (fun k_6 ek_6 => ?_)
  replace hF := nm_i hF ek_6
  by_cases c_7 : k_6 = 0
  · replace hF := if_i c_7 hF
    subst c_7
    refine va_aldq hx hb hK hP 3 3 rfl rfl (i := 0) (show ¬ ((0 : Int32) < 0 ∨ 20 ≤ (0 : Int32).toNatClampNeg) by decide) dX3_recall_35 ?_
    refine W.eq (g2 := F0 m 36 ls [.ref (aQ 0), .ref aS_0]) rfl ?_
    replace hF := bnd hF
    obtain ⟨zS_8, hc_9, hF⟩ := hF
    refine cl_Vv (As := [.ref (aQ 0)]) (rest := []) (wc := ((wcS ci aS_0 aS_1 zS) ++ (wcS ci (aQ 0) (aQ 1) (zQ 0)))) (wr := ([2, 3, 6, 7, 8, 9, 10, 11, 12, 13, 14, 15, 16, 17, 18, 19, 20, 21, 22, 23, 24, 25, 26, 27, 28, 29, 30, 31, 32, 33, 34, 35, 36, 37, 38, 39, 40, 41, 42, 43].filterMap (fun i => ((wcS ci aS_0 aS_1 zS) ++ ((wcP ci aP_0 aP_1 aQ zP_5) ++ (wcQ ci aQ zQ)))[i]?))) (w1 := ((wcS ci aS_0 aS_1 zS_8) ++ (wcS ci (aQ 0) (aQ 1) (zQ 0)))) (wn := ((wcS ci aS_0 aS_1 zS_8) ++ ((wcP ci aP_0 aP_1 aQ zP_5) ++ (wcQ ci aQ zQ)))) ⟨hx, hb, hml, hown, hts⟩ (cwV 1 hts gX3_recall_X5_copyFrom rfl rfl rfl (by decide +kernel) ⟨Nat.le_of_ble_eq_true rfl, Nat.le_of_ble_eq_true rfl⟩) (c_X5_copyFrom l D ci aS_0 aS_1 (aQ 0) (aQ 1) H.size zS (zQ 0) _ hc_9) hK hP hD hS hA [0, 1, 4, 5] [2, 3, 6, 7, 8, 9, 10, 11, 12, 13, 14, 15, 16, 17, 18, 19, 20, 21, 22, 23, 24, 25, 26, 27, 28, 29, 30, 31, 32, 33, 34, 35, 36, 37, 38, 39, 40, 41, 42, 43] [40, 41, 0, 1, 42, 43, 2, 3, 4, 5, 6, 7, 8, 9, 10, 11, 12, 13, 14, 15, 16, 17, 18, 19, 20, 21, 22, 23, 24, 25, 26, 27, 28, 29, 30, 31, 32, 33, 34, 35, 36, 37, 38, 39] rfl rfl rfl (by decide) 0 rfl rfl rfl rfl hl.1 (Nat.le_of_ble_eq_true rfl) dX3_recall_36 (Nat.zero_le _) (Nat.zero_le _) (fun H locs hP hD hS => ?_)
    have hP : va_P D vwCl ((wcS ci aS_0 aS_1 zS_8) ++ ((wcP ci aP_0 aP_1 aQ zP_5) ++ (wcQ ci aQ zQ))) H := hP
    have hD : va_D A ((wcS ci aS_0 aS_1 zS_8) ++ ((wcP ci aP_0 aP_1 aQ zP_5) ++ (wcQ ci aQ zQ))) := hD
    obtain rfl := Option.some.inj hF
    exact W.vret hx hb hr (fun t ht hW => ⟨⟨(), rfl, trivial, by rw [ht]; exact hP, va_K.moved hW.alike hK, hD⟩, hS.F ht⟩) hS.2.2 dX3_recall_39
  replace hF := if_o c_7 hF
  by_cases c_10 : k_6 = 1
  · replace hF := if_i c_10 hF
    subst c_10
    refine va_aldq hx hb hK hP 3 3 rfl rfl (i := 1) (show ¬ ((1 : Int32) < 0 ∨ 20 ≤ (1 : Int32).toNatClampNeg) by decide) dX3_recall_35 ?_
    refine W.eq (g2 := F0 m 36 ls [.ref (aQ 2), .ref aS_0]) rfl ?_
    replace hF := bnd hF
    obtain ⟨zS_11, hc_12, hF⟩ := hF
    refine cl_Vv (As := [.ref (aQ 2)]) (rest := []) (wc := ((wcS ci aS_0 aS_1 zS) ++ (wcS ci (aQ 2) (aQ 3) (zQ 1)))) (wr := ([2, 3, 4, 5, 8, 9, 10, 11, 12, 13, 14, 15, 16, 17, 18, 19, 20, 21, 22, 23, 24, 25, 26, 27, 28, 29, 30, 31, 32, 33, 34, 35, 36, 37, 38, 39, 40, 41, 42, 43].filterMap (fun i => ((wcS ci aS_0 aS_1 zS) ++ ((wcP ci aP_0 aP_1 aQ zP_5) ++ (wcQ ci aQ zQ)))[i]?))) (w1 := ((wcS ci aS_0 aS_1 zS_11) ++ (wcS ci (aQ 2) (aQ 3) (zQ 1)))) (wn := ((wcS ci aS_0 aS_1 zS_11) ++ ((wcP ci aP_0 aP_1 aQ zP_5) ++ (wcQ ci aQ zQ)))) ⟨hx, hb, hml, hown, hts⟩ (cwV 1 hts gX3_recall_X5_copyFrom rfl rfl rfl (by decide +kernel) ⟨Nat.le_of_ble_eq_true rfl, Nat.le_of_ble_eq_true rfl⟩) (c_X5_copyFrom l D ci aS_0 aS_1 (aQ 2) (aQ 3) H.size zS (zQ 1) _ hc_12) hK hP hD hS hA [0, 1, 6, 7] [2, 3, 4, 5, 8, 9, 10, 11, 12, 13, 14, 15, 16, 17, 18, 19, 20, 21, 22, 23, 24, 25, 26, 27, 28, 29, 30, 31, 32, 33, 34, 35, 36, 37, 38, 39, 40, 41, 42, 43] [40, 41, 0, 1, 2, 3, 42, 43, 4, 5, 6, 7, 8, 9, 10, 11, 12, 13, 14, 15, 16, 17, 18, 19, 20, 21, 22, 23, 24, 25, 26, 27, 28, 29, 30, 31, 32, 33, 34, 35, 36, 37, 38, 39] rfl rfl rfl (by decide) 0 rfl rfl rfl rfl hl.1 (Nat.le_of_ble_eq_true rfl) dX3_recall_36 (Nat.zero_le _) (Nat.zero_le _) (fun H locs hP hD hS => ?_)
    have hP : va_P D vwCl ((wcS ci aS_0 aS_1 zS_11) ++ ((wcP ci aP_0 aP_1 aQ zP_5) ++ (wcQ ci aQ zQ))) H := hP
    have hD : va_D A ((wcS ci aS_0 aS_1 zS_11) ++ ((wcP ci aP_0 aP_1 aQ zP_5) ++ (wcQ ci aQ zQ))) := hD
    obtain rfl := Option.some.inj hF
    exact W.vret hx hb hr (fun t ht hW => ⟨⟨(), rfl, trivial, by rw [ht]; exact hP, va_K.moved hW.alike hK, hD⟩, hS.F ht⟩) hS.2.2 dX3_recall_39
  replace hF := if_o c_10 hF
  by_cases c_13 : k_6 = 2
  · replace hF := if_i c_13 hF
    subst c_13
    refine va_aldq hx hb hK hP 3 3 rfl rfl (i := 2) (show ¬ ((2 : Int32) < 0 ∨ 20 ≤ (2 : Int32).toNatClampNeg) by decide) dX3_recall_35 ?_
    refine W.eq (g2 := F0 m 36 ls [.ref (aQ 4), .ref aS_0]) rfl ?_
    replace hF := bnd hF
    obtain ⟨zS_14, hc_15, hF⟩ := hF
    refine cl_Vv (As := [.ref (aQ 4)]) (rest := []) (wc := ((wcS ci aS_0 aS_1 zS) ++ (wcS ci (aQ 4) (aQ 5) (zQ 2)))) (wr := ([2, 3, 4, 5, 6, 7, 10, 11, 12, 13, 14, 15, 16, 17, 18, 19, 20, 21, 22, 23, 24, 25, 26, 27, 28, 29, 30, 31, 32, 33, 34, 35, 36, 37, 38, 39, 40, 41, 42, 43].filterMap (fun i => ((wcS ci aS_0 aS_1 zS) ++ ((wcP ci aP_0 aP_1 aQ zP_5) ++ (wcQ ci aQ zQ)))[i]?))) (w1 := ((wcS ci aS_0 aS_1 zS_14) ++ (wcS ci (aQ 4) (aQ 5) (zQ 2)))) (wn := ((wcS ci aS_0 aS_1 zS_14) ++ ((wcP ci aP_0 aP_1 aQ zP_5) ++ (wcQ ci aQ zQ)))) ⟨hx, hb, hml, hown, hts⟩ (cwV 1 hts gX3_recall_X5_copyFrom rfl rfl rfl (by decide +kernel) ⟨Nat.le_of_ble_eq_true rfl, Nat.le_of_ble_eq_true rfl⟩) (c_X5_copyFrom l D ci aS_0 aS_1 (aQ 4) (aQ 5) H.size zS (zQ 2) _ hc_15) hK hP hD hS hA [0, 1, 8, 9] [2, 3, 4, 5, 6, 7, 10, 11, 12, 13, 14, 15, 16, 17, 18, 19, 20, 21, 22, 23, 24, 25, 26, 27, 28, 29, 30, 31, 32, 33, 34, 35, 36, 37, 38, 39, 40, 41, 42, 43] [40, 41, 0, 1, 2, 3, 4, 5, 42, 43, 6, 7, 8, 9, 10, 11, 12, 13, 14, 15, 16, 17, 18, 19, 20, 21, 22, 23, 24, 25, 26, 27, 28, 29, 30, 31, 32, 33, 34, 35, 36, 37, 38, 39] rfl rfl rfl (by decide) 0 rfl rfl rfl rfl hl.1 (Nat.le_of_ble_eq_true rfl) dX3_recall_36 (Nat.zero_le _) (Nat.zero_le _) (fun H locs hP hD hS => ?_)
    have hP : va_P D vwCl ((wcS ci aS_0 aS_1 zS_14) ++ ((wcP ci aP_0 aP_1 aQ zP_5) ++ (wcQ ci aQ zQ))) H := hP
    have hD : va_D A ((wcS ci aS_0 aS_1 zS_14) ++ ((wcP ci aP_0 aP_1 aQ zP_5) ++ (wcQ ci aQ zQ))) := hD
    obtain rfl := Option.some.inj hF
    exact W.vret hx hb hr (fun t ht hW => ⟨⟨(), rfl, trivial, by rw [ht]; exact hP, va_K.moved hW.alike hK, hD⟩, hS.F ht⟩) hS.2.2 dX3_recall_39
  replace hF := if_o c_13 hF
  by_cases c_16 : k_6 = 3
  · replace hF := if_i c_16 hF
    subst c_16
    refine va_aldq hx hb hK hP 3 3 rfl rfl (i := 3) (show ¬ ((3 : Int32) < 0 ∨ 20 ≤ (3 : Int32).toNatClampNeg) by decide) dX3_recall_35 ?_
    refine W.eq (g2 := F0 m 36 ls [.ref (aQ 6), .ref aS_0]) rfl ?_
    replace hF := bnd hF
    obtain ⟨zS_17, hc_18, hF⟩ := hF
    refine cl_Vv (As := [.ref (aQ 6)]) (rest := []) (wc := ((wcS ci aS_0 aS_1 zS) ++ (wcS ci (aQ 6) (aQ 7) (zQ 3)))) (wr := ([2, 3, 4, 5, 6, 7, 8, 9, 12, 13, 14, 15, 16, 17, 18, 19, 20, 21, 22, 23, 24, 25, 26, 27, 28, 29, 30, 31, 32, 33, 34, 35, 36, 37, 38, 39, 40, 41, 42, 43].filterMap (fun i => ((wcS ci aS_0 aS_1 zS) ++ ((wcP ci aP_0 aP_1 aQ zP_5) ++ (wcQ ci aQ zQ)))[i]?))) (w1 := ((wcS ci aS_0 aS_1 zS_17) ++ (wcS ci (aQ 6) (aQ 7) (zQ 3)))) (wn := ((wcS ci aS_0 aS_1 zS_17) ++ ((wcP ci aP_0 aP_1 aQ zP_5) ++ (wcQ ci aQ zQ)))) ⟨hx, hb, hml, hown, hts⟩ (cwV 1 hts gX3_recall_X5_copyFrom rfl rfl rfl (by decide +kernel) ⟨Nat.le_of_ble_eq_true rfl, Nat.le_of_ble_eq_true rfl⟩) (c_X5_copyFrom l D ci aS_0 aS_1 (aQ 6) (aQ 7) H.size zS (zQ 3) _ hc_18) hK hP hD hS hA [0, 1, 10, 11] [2, 3, 4, 5, 6, 7, 8, 9, 12, 13, 14, 15, 16, 17, 18, 19, 20, 21, 22, 23, 24, 25, 26, 27, 28, 29, 30, 31, 32, 33, 34, 35, 36, 37, 38, 39, 40, 41, 42, 43] [40, 41, 0, 1, 2, 3, 4, 5, 6, 7, 42, 43, 8, 9, 10, 11, 12, 13, 14, 15, 16, 17, 18, 19, 20, 21, 22, 23, 24, 25, 26, 27, 28, 29, 30, 31, 32, 33, 34, 35, 36, 37, 38, 39] rfl rfl rfl (by decide) 0 rfl rfl rfl rfl hl.1 (Nat.le_of_ble_eq_true rfl) dX3_recall_36 (Nat.zero_le _) (Nat.zero_le _) (fun H locs hP hD hS => ?_)
    have hP : va_P D vwCl ((wcS ci aS_0 aS_1 zS_17) ++ ((wcP ci aP_0 aP_1 aQ zP_5) ++ (wcQ ci aQ zQ))) H := hP
    have hD : va_D A ((wcS ci aS_0 aS_1 zS_17) ++ ((wcP ci aP_0 aP_1 aQ zP_5) ++ (wcQ ci aQ zQ))) := hD
    obtain rfl := Option.some.inj hF
    exact W.vret hx hb hr (fun t ht hW => ⟨⟨(), rfl, trivial, by rw [ht]; exact hP, va_K.moved hW.alike hK, hD⟩, hS.F ht⟩) hS.2.2 dX3_recall_39
  replace hF := if_o c_16 hF
  by_cases c_19 : k_6 = 4
  · replace hF := if_i c_19 hF
    subst c_19
    refine va_aldq hx hb hK hP 3 3 rfl rfl (i := 4) (show ¬ ((4 : Int32) < 0 ∨ 20 ≤ (4 : Int32).toNatClampNeg) by decide) dX3_recall_35 ?_
    refine W.eq (g2 := F0 m 36 ls [.ref (aQ 8), .ref aS_0]) rfl ?_
    replace hF := bnd hF
    obtain ⟨zS_20, hc_21, hF⟩ := hF
    refine cl_Vv (As := [.ref (aQ 8)]) (rest := []) (wc := ((wcS ci aS_0 aS_1 zS) ++ (wcS ci (aQ 8) (aQ 9) (zQ 4)))) (wr := ([2, 3, 4, 5, 6, 7, 8, 9, 10, 11, 14, 15, 16, 17, 18, 19, 20, 21, 22, 23, 24, 25, 26, 27, 28, 29, 30, 31, 32, 33, 34, 35, 36, 37, 38, 39, 40, 41, 42, 43].filterMap (fun i => ((wcS ci aS_0 aS_1 zS) ++ ((wcP ci aP_0 aP_1 aQ zP_5) ++ (wcQ ci aQ zQ)))[i]?))) (w1 := ((wcS ci aS_0 aS_1 zS_20) ++ (wcS ci (aQ 8) (aQ 9) (zQ 4)))) (wn := ((wcS ci aS_0 aS_1 zS_20) ++ ((wcP ci aP_0 aP_1 aQ zP_5) ++ (wcQ ci aQ zQ)))) ⟨hx, hb, hml, hown, hts⟩ (cwV 1 hts gX3_recall_X5_copyFrom rfl rfl rfl (by decide +kernel) ⟨Nat.le_of_ble_eq_true rfl, Nat.le_of_ble_eq_true rfl⟩) (c_X5_copyFrom l D ci aS_0 aS_1 (aQ 8) (aQ 9) H.size zS (zQ 4) _ hc_21) hK hP hD hS hA [0, 1, 12, 13] [2, 3, 4, 5, 6, 7, 8, 9, 10, 11, 14, 15, 16, 17, 18, 19, 20, 21, 22, 23, 24, 25, 26, 27, 28, 29, 30, 31, 32, 33, 34, 35, 36, 37, 38, 39, 40, 41, 42, 43] [40, 41, 0, 1, 2, 3, 4, 5, 6, 7, 8, 9, 42, 43, 10, 11, 12, 13, 14, 15, 16, 17, 18, 19, 20, 21, 22, 23, 24, 25, 26, 27, 28, 29, 30, 31, 32, 33, 34, 35, 36, 37, 38, 39] rfl rfl rfl (by decide) 0 rfl rfl rfl rfl hl.1 (Nat.le_of_ble_eq_true rfl) dX3_recall_36 (Nat.zero_le _) (Nat.zero_le _) (fun H locs hP hD hS => ?_)
    have hP : va_P D vwCl ((wcS ci aS_0 aS_1 zS_20) ++ ((wcP ci aP_0 aP_1 aQ zP_5) ++ (wcQ ci aQ zQ))) H := hP
    have hD : va_D A ((wcS ci aS_0 aS_1 zS_20) ++ ((wcP ci aP_0 aP_1 aQ zP_5) ++ (wcQ ci aQ zQ))) := hD
    obtain rfl := Option.some.inj hF
    exact W.vret hx hb hr (fun t ht hW => ⟨⟨(), rfl, trivial, by rw [ht]; exact hP, va_K.moved hW.alike hK, hD⟩, hS.F ht⟩) hS.2.2 dX3_recall_39
  replace hF := if_o c_19 hF
  by_cases c_22 : k_6 = 5
  · replace hF := if_i c_22 hF
    subst c_22
    refine va_aldq hx hb hK hP 3 3 rfl rfl (i := 5) (show ¬ ((5 : Int32) < 0 ∨ 20 ≤ (5 : Int32).toNatClampNeg) by decide) dX3_recall_35 ?_
    refine W.eq (g2 := F0 m 36 ls [.ref (aQ 10), .ref aS_0]) rfl ?_
    replace hF := bnd hF
    obtain ⟨zS_23, hc_24, hF⟩ := hF
    refine cl_Vv (As := [.ref (aQ 10)]) (rest := []) (wc := ((wcS ci aS_0 aS_1 zS) ++ (wcS ci (aQ 10) (aQ 11) (zQ 5)))) (wr := ([2, 3, 4, 5, 6, 7, 8, 9, 10, 11, 12, 13, 16, 17, 18, 19, 20, 21, 22, 23, 24, 25, 26, 27, 28, 29, 30, 31, 32, 33, 34, 35, 36, 37, 38, 39, 40, 41, 42, 43].filterMap (fun i => ((wcS ci aS_0 aS_1 zS) ++ ((wcP ci aP_0 aP_1 aQ zP_5) ++ (wcQ ci aQ zQ)))[i]?))) (w1 := ((wcS ci aS_0 aS_1 zS_23) ++ (wcS ci (aQ 10) (aQ 11) (zQ 5)))) (wn := ((wcS ci aS_0 aS_1 zS_23) ++ ((wcP ci aP_0 aP_1 aQ zP_5) ++ (wcQ ci aQ zQ)))) ⟨hx, hb, hml, hown, hts⟩ (cwV 1 hts gX3_recall_X5_copyFrom rfl rfl rfl (by decide +kernel) ⟨Nat.le_of_ble_eq_true rfl, Nat.le_of_ble_eq_true rfl⟩) (c_X5_copyFrom l D ci aS_0 aS_1 (aQ 10) (aQ 11) H.size zS (zQ 5) _ hc_24) hK hP hD hS hA [0, 1, 14, 15] [2, 3, 4, 5, 6, 7, 8, 9, 10, 11, 12, 13, 16, 17, 18, 19, 20, 21, 22, 23, 24, 25, 26, 27, 28, 29, 30, 31, 32, 33, 34, 35, 36, 37, 38, 39, 40, 41, 42, 43] [40, 41, 0, 1, 2, 3, 4, 5, 6, 7, 8, 9, 10, 11, 42, 43, 12, 13, 14, 15, 16, 17, 18, 19, 20, 21, 22, 23, 24, 25, 26, 27, 28, 29, 30, 31, 32, 33, 34, 35, 36, 37, 38, 39] rfl rfl rfl (by decide) 0 rfl rfl rfl rfl hl.1 (Nat.le_of_ble_eq_true rfl) dX3_recall_36 (Nat.zero_le _) (Nat.zero_le _) (fun H locs hP hD hS => ?_)
    have hP : va_P D vwCl ((wcS ci aS_0 aS_1 zS_23) ++ ((wcP ci aP_0 aP_1 aQ zP_5) ++ (wcQ ci aQ zQ))) H := hP
    have hD : va_D A ((wcS ci aS_0 aS_1 zS_23) ++ ((wcP ci aP_0 aP_1 aQ zP_5) ++ (wcQ ci aQ zQ))) := hD
    obtain rfl := Option.some.inj hF
    exact W.vret hx hb hr (fun t ht hW => ⟨⟨(), rfl, trivial, by rw [ht]; exact hP, va_K.moved hW.alike hK, hD⟩, hS.F ht⟩) hS.2.2 dX3_recall_39
  replace hF := if_o c_22 hF
  by_cases c_25 : k_6 = 6
  · replace hF := if_i c_25 hF
    subst c_25
    refine va_aldq hx hb hK hP 3 3 rfl rfl (i := 6) (show ¬ ((6 : Int32) < 0 ∨ 20 ≤ (6 : Int32).toNatClampNeg) by decide) dX3_recall_35 ?_
    refine W.eq (g2 := F0 m 36 ls [.ref (aQ 12), .ref aS_0]) rfl ?_
    replace hF := bnd hF
    obtain ⟨zS_26, hc_27, hF⟩ := hF
    refine cl_Vv (As := [.ref (aQ 12)]) (rest := []) (wc := ((wcS ci aS_0 aS_1 zS) ++ (wcS ci (aQ 12) (aQ 13) (zQ 6)))) (wr := ([2, 3, 4, 5, 6, 7, 8, 9, 10, 11, 12, 13, 14, 15, 18, 19, 20, 21, 22, 23, 24, 25, 26, 27, 28, 29, 30, 31, 32, 33, 34, 35, 36, 37, 38, 39, 40, 41, 42, 43].filterMap (fun i => ((wcS ci aS_0 aS_1 zS) ++ ((wcP ci aP_0 aP_1 aQ zP_5) ++ (wcQ ci aQ zQ)))[i]?))) (w1 := ((wcS ci aS_0 aS_1 zS_26) ++ (wcS ci (aQ 12) (aQ 13) (zQ 6)))) (wn := ((wcS ci aS_0 aS_1 zS_26) ++ ((wcP ci aP_0 aP_1 aQ zP_5) ++ (wcQ ci aQ zQ)))) ⟨hx, hb, hml, hown, hts⟩ (cwV 1 hts gX3_recall_X5_copyFrom rfl rfl rfl (by decide +kernel) ⟨Nat.le_of_ble_eq_true rfl, Nat.le_of_ble_eq_true rfl⟩) (c_X5_copyFrom l D ci aS_0 aS_1 (aQ 12) (aQ 13) H.size zS (zQ 6) _ hc_27) hK hP hD hS hA [0, 1, 16, 17] [2, 3, 4, 5, 6, 7, 8, 9, 10, 11, 12, 13, 14, 15, 18, 19, 20, 21, 22, 23, 24, 25, 26, 27, 28, 29, 30, 31, 32, 33, 34, 35, 36, 37, 38, 39, 40, 41, 42, 43] [40, 41, 0, 1, 2, 3, 4, 5, 6, 7, 8, 9, 10, 11, 12, 13, 42, 43, 14, 15, 16, 17, 18, 19, 20, 21, 22, 23, 24, 25, 26, 27, 28, 29, 30, 31, 32, 33, 34, 35, 36, 37, 38, 39] rfl rfl rfl (by decide) 0 rfl rfl rfl rfl hl.1 (Nat.le_of_ble_eq_true rfl) dX3_recall_36 (Nat.zero_le _) (Nat.zero_le _) (fun H locs hP hD hS => ?_)
    have hP : va_P D vwCl ((wcS ci aS_0 aS_1 zS_26) ++ ((wcP ci aP_0 aP_1 aQ zP_5) ++ (wcQ ci aQ zQ))) H := hP
    have hD : va_D A ((wcS ci aS_0 aS_1 zS_26) ++ ((wcP ci aP_0 aP_1 aQ zP_5) ++ (wcQ ci aQ zQ))) := hD
    obtain rfl := Option.some.inj hF
    exact W.vret hx hb hr (fun t ht hW => ⟨⟨(), rfl, trivial, by rw [ht]; exact hP, va_K.moved hW.alike hK, hD⟩, hS.F ht⟩) hS.2.2 dX3_recall_39
  replace hF := if_o c_25 hF
  by_cases c_28 : k_6 = 7
  · replace hF := if_i c_28 hF
    subst c_28
    refine va_aldq hx hb hK hP 3 3 rfl rfl (i := 7) (show ¬ ((7 : Int32) < 0 ∨ 20 ≤ (7 : Int32).toNatClampNeg) by decide) dX3_recall_35 ?_
    refine W.eq (g2 := F0 m 36 ls [.ref (aQ 14), .ref aS_0]) rfl ?_
    replace hF := bnd hF
    obtain ⟨zS_29, hc_30, hF⟩ := hF
    refine cl_Vv (As := [.ref (aQ 14)]) (rest := []) (wc := ((wcS ci aS_0 aS_1 zS) ++ (wcS ci (aQ 14) (aQ 15) (zQ 7)))) (wr := ([2, 3, 4, 5, 6, 7, 8, 9, 10, 11, 12, 13, 14, 15, 16, 17, 20, 21, 22, 23, 24, 25, 26, 27, 28, 29, 30, 31, 32, 33, 34, 35, 36, 37, 38, 39, 40, 41, 42, 43].filterMap (fun i => ((wcS ci aS_0 aS_1 zS) ++ ((wcP ci aP_0 aP_1 aQ zP_5) ++ (wcQ ci aQ zQ)))[i]?))) (w1 := ((wcS ci aS_0 aS_1 zS_29) ++ (wcS ci (aQ 14) (aQ 15) (zQ 7)))) (wn := ((wcS ci aS_0 aS_1 zS_29) ++ ((wcP ci aP_0 aP_1 aQ zP_5) ++ (wcQ ci aQ zQ)))) ⟨hx, hb, hml, hown, hts⟩ (cwV 1 hts gX3_recall_X5_copyFrom rfl rfl rfl (by decide +kernel) ⟨Nat.le_of_ble_eq_true rfl, Nat.le_of_ble_eq_true rfl⟩) (c_X5_copyFrom l D ci aS_0 aS_1 (aQ 14) (aQ 15) H.size zS (zQ 7) _ hc_30) hK hP hD hS hA [0, 1, 18, 19] [2, 3, 4, 5, 6, 7, 8, 9, 10, 11, 12, 13, 14, 15, 16, 17, 20, 21, 22, 23, 24, 25, 26, 27, 28, 29, 30, 31, 32, 33, 34, 35, 36, 37, 38, 39, 40, 41, 42, 43] [40, 41, 0, 1, 2, 3, 4, 5, 6, 7, 8, 9, 10, 11, 12, 13, 14, 15, 42, 43, 16, 17, 18, 19, 20, 21, 22, 23, 24, 25, 26, 27, 28, 29, 30, 31, 32, 33, 34, 35, 36, 37, 38, 39] rfl rfl rfl (by decide) 0 rfl rfl rfl rfl hl.1 (Nat.le_of_ble_eq_true rfl) dX3_recall_36 (Nat.zero_le _) (Nat.zero_le _) (fun H locs hP hD hS => ?_)
    have hP : va_P D vwCl ((wcS ci aS_0 aS_1 zS_29) ++ ((wcP ci aP_0 aP_1 aQ zP_5) ++ (wcQ ci aQ zQ))) H := hP
    have hD : va_D A ((wcS ci aS_0 aS_1 zS_29) ++ ((wcP ci aP_0 aP_1 aQ zP_5) ++ (wcQ ci aQ zQ))) := hD
    obtain rfl := Option.some.inj hF
    exact W.vret hx hb hr (fun t ht hW => ⟨⟨(), rfl, trivial, by rw [ht]; exact hP, va_K.moved hW.alike hK, hD⟩, hS.F ht⟩) hS.2.2 dX3_recall_39
  replace hF := if_o c_28 hF
  by_cases c_31 : k_6 = 8
  · replace hF := if_i c_31 hF
    subst c_31
    refine va_aldq hx hb hK hP 3 3 rfl rfl (i := 8) (show ¬ ((8 : Int32) < 0 ∨ 20 ≤ (8 : Int32).toNatClampNeg) by decide) dX3_recall_35 ?_
    refine W.eq (g2 := F0 m 36 ls [.ref (aQ 16), .ref aS_0]) rfl ?_
    replace hF := bnd hF
    obtain ⟨zS_32, hc_33, hF⟩ := hF
    refine cl_Vv (As := [.ref (aQ 16)]) (rest := []) (wc := ((wcS ci aS_0 aS_1 zS) ++ (wcS ci (aQ 16) (aQ 17) (zQ 8)))) (wr := ([2, 3, 4, 5, 6, 7, 8, 9, 10, 11, 12, 13, 14, 15, 16, 17, 18, 19, 22, 23, 24, 25, 26, 27, 28, 29, 30, 31, 32, 33, 34, 35, 36, 37, 38, 39, 40, 41, 42, 43].filterMap (fun i => ((wcS ci aS_0 aS_1 zS) ++ ((wcP ci aP_0 aP_1 aQ zP_5) ++ (wcQ ci aQ zQ)))[i]?))) (w1 := ((wcS ci aS_0 aS_1 zS_32) ++ (wcS ci (aQ 16) (aQ 17) (zQ 8)))) (wn := ((wcS ci aS_0 aS_1 zS_32) ++ ((wcP ci aP_0 aP_1 aQ zP_5) ++ (wcQ ci aQ zQ)))) ⟨hx, hb, hml, hown, hts⟩ (cwV 1 hts gX3_recall_X5_copyFrom rfl rfl rfl (by decide +kernel) ⟨Nat.le_of_ble_eq_true rfl, Nat.le_of_ble_eq_true rfl⟩) (c_X5_copyFrom l D ci aS_0 aS_1 (aQ 16) (aQ 17) H.size zS (zQ 8) _ hc_33) hK hP hD hS hA [0, 1, 20, 21] [2, 3, 4, 5, 6, 7, 8, 9, 10, 11, 12, 13, 14, 15, 16, 17, 18, 19, 22, 23, 24, 25, 26, 27, 28, 29, 30, 31, 32, 33, 34, 35, 36, 37, 38, 39, 40, 41, 42, 43] [40, 41, 0, 1, 2, 3, 4, 5, 6, 7, 8, 9, 10, 11, 12, 13, 14, 15, 16, 17, 42, 43, 18, 19, 20, 21, 22, 23, 24, 25, 26, 27, 28, 29, 30, 31, 32, 33, 34, 35, 36, 37, 38, 39] rfl rfl rfl (by decide) 0 rfl rfl rfl rfl hl.1 (Nat.le_of_ble_eq_true rfl) dX3_recall_36 (Nat.zero_le _) (Nat.zero_le _) (fun H locs hP hD hS => ?_)
    have hP : va_P D vwCl ((wcS ci aS_0 aS_1 zS_32) ++ ((wcP ci aP_0 aP_1 aQ zP_5) ++ (wcQ ci aQ zQ))) H := hP
    have hD : va_D A ((wcS ci aS_0 aS_1 zS_32) ++ ((wcP ci aP_0 aP_1 aQ zP_5) ++ (wcQ ci aQ zQ))) := hD
    obtain rfl := Option.some.inj hF
    exact W.vret hx hb hr (fun t ht hW => ⟨⟨(), rfl, trivial, by rw [ht]; exact hP, va_K.moved hW.alike hK, hD⟩, hS.F ht⟩) hS.2.2 dX3_recall_39
  replace hF := if_o c_31 hF
  by_cases c_34 : k_6 = 9
  · replace hF := if_i c_34 hF
    subst c_34
    refine va_aldq hx hb hK hP 3 3 rfl rfl (i := 9) (show ¬ ((9 : Int32) < 0 ∨ 20 ≤ (9 : Int32).toNatClampNeg) by decide) dX3_recall_35 ?_
    refine W.eq (g2 := F0 m 36 ls [.ref (aQ 18), .ref aS_0]) rfl ?_
    replace hF := bnd hF
    obtain ⟨zS_35, hc_36, hF⟩ := hF
    refine cl_Vv (As := [.ref (aQ 18)]) (rest := []) (wc := ((wcS ci aS_0 aS_1 zS) ++ (wcS ci (aQ 18) (aQ 19) (zQ 9)))) (wr := ([2, 3, 4, 5, 6, 7, 8, 9, 10, 11, 12, 13, 14, 15, 16, 17, 18, 19, 20, 21, 24, 25, 26, 27, 28, 29, 30, 31, 32, 33, 34, 35, 36, 37, 38, 39, 40, 41, 42, 43].filterMap (fun i => ((wcS ci aS_0 aS_1 zS) ++ ((wcP ci aP_0 aP_1 aQ zP_5) ++ (wcQ ci aQ zQ)))[i]?))) (w1 := ((wcS ci aS_0 aS_1 zS_35) ++ (wcS ci (aQ 18) (aQ 19) (zQ 9)))) (wn := ((wcS ci aS_0 aS_1 zS_35) ++ ((wcP ci aP_0 aP_1 aQ zP_5) ++ (wcQ ci aQ zQ)))) ⟨hx, hb, hml, hown, hts⟩ (cwV 1 hts gX3_recall_X5_copyFrom rfl rfl rfl (by decide +kernel) ⟨Nat.le_of_ble_eq_true rfl, Nat.le_of_ble_eq_true rfl⟩) (c_X5_copyFrom l D ci aS_0 aS_1 (aQ 18) (aQ 19) H.size zS (zQ 9) _ hc_36) hK hP hD hS hA [0, 1, 22, 23] [2, 3, 4, 5, 6, 7, 8, 9, 10, 11, 12, 13, 14, 15, 16, 17, 18, 19, 20, 21, 24, 25, 26, 27, 28, 29, 30, 31, 32, 33, 34, 35, 36, 37, 38, 39, 40, 41, 42, 43] [40, 41, 0, 1, 2, 3, 4, 5, 6, 7, 8, 9, 10, 11, 12, 13, 14, 15, 16, 17, 18, 19, 42, 43, 20, 21, 22, 23, 24, 25, 26, 27, 28, 29, 30, 31, 32, 33, 34, 35, 36, 37, 38, 39] rfl rfl rfl (by decide) 0 rfl rfl rfl rfl hl.1 (Nat.le_of_ble_eq_true rfl) dX3_recall_36 (Nat.zero_le _) (Nat.zero_le _) (fun H locs hP hD hS => ?_)
    have hP : va_P D vwCl ((wcS ci aS_0 aS_1 zS_35) ++ ((wcP ci aP_0 aP_1 aQ zP_5) ++ (wcQ ci aQ zQ))) H := hP
    have hD : va_D A ((wcS ci aS_0 aS_1 zS_35) ++ ((wcP ci aP_0 aP_1 aQ zP_5) ++ (wcQ ci aQ zQ))) := hD
    obtain rfl := Option.some.inj hF
    exact W.vret hx hb hr (fun t ht hW => ⟨⟨(), rfl, trivial, by rw [ht]; exact hP, va_K.moved hW.alike hK, hD⟩, hS.F ht⟩) hS.2.2 dX3_recall_39
  replace hF := if_o c_34 hF
  by_cases c_37 : k_6 = 10
  · replace hF := if_i c_37 hF
    subst c_37
    refine va_aldq hx hb hK hP 3 3 rfl rfl (i := 10) (show ¬ ((10 : Int32) < 0 ∨ 20 ≤ (10 : Int32).toNatClampNeg) by decide) dX3_recall_35 ?_
    refine W.eq (g2 := F0 m 36 ls [.ref (aQ 20), .ref aS_0]) rfl ?_
    replace hF := bnd hF
    obtain ⟨zS_38, hc_39, hF⟩ := hF
    refine cl_Vv (As := [.ref (aQ 20)]) (rest := []) (wc := ((wcS ci aS_0 aS_1 zS) ++ (wcS ci (aQ 20) (aQ 21) (zQ 10)))) (wr := ([2, 3, 4, 5, 6, 7, 8, 9, 10, 11, 12, 13, 14, 15, 16, 17, 18, 19, 20, 21, 22, 23, 26, 27, 28, 29, 30, 31, 32, 33, 34, 35, 36, 37, 38, 39, 40, 41, 42, 43].filterMap (fun i => ((wcS ci aS_0 aS_1 zS) ++ ((wcP ci aP_0 aP_1 aQ zP_5) ++ (wcQ ci aQ zQ)))[i]?))) (w1 := ((wcS ci aS_0 aS_1 zS_38) ++ (wcS ci (aQ 20) (aQ 21) (zQ 10)))) (wn := ((wcS ci aS_0 aS_1 zS_38) ++ ((wcP ci aP_0 aP_1 aQ zP_5) ++ (wcQ ci aQ zQ)))) ⟨hx, hb, hml, hown, hts⟩ (cwV 1 hts gX3_recall_X5_copyFrom rfl rfl rfl (by decide +kernel) ⟨Nat.le_of_ble_eq_true rfl, Nat.le_of_ble_eq_true rfl⟩) (c_X5_copyFrom l D ci aS_0 aS_1 (aQ 20) (aQ 21) H.size zS (zQ 10) _ hc_39) hK hP hD hS hA [0, 1, 24, 25] [2, 3, 4, 5, 6, 7, 8, 9, 10, 11, 12, 13, 14, 15, 16, 17, 18, 19, 20, 21, 22, 23, 26, 27, 28, 29, 30, 31, 32, 33, 34, 35, 36, 37, 38, 39, 40, 41, 42, 43] [40, 41, 0, 1, 2, 3, 4, 5, 6, 7, 8, 9, 10, 11, 12, 13, 14, 15, 16, 17, 18, 19, 20, 21, 42, 43, 22, 23, 24, 25, 26, 27, 28, 29, 30, 31, 32, 33, 34, 35, 36, 37, 38, 39] rfl rfl rfl (by decide) 0 rfl rfl rfl rfl hl.1 (Nat.le_of_ble_eq_true rfl) dX3_recall_36 (Nat.zero_le _) (Nat.zero_le _) (fun H locs hP hD hS => ?_)
    have hP : va_P D vwCl ((wcS ci aS_0 aS_1 zS_38) ++ ((wcP ci aP_0 aP_1 aQ zP_5) ++ (wcQ ci aQ zQ))) H := hP
    have hD : va_D A ((wcS ci aS_0 aS_1 zS_38) ++ ((wcP ci aP_0 aP_1 aQ zP_5) ++ (wcQ ci aQ zQ))) := hD
    obtain rfl := Option.some.inj hF
    exact W.vret hx hb hr (fun t ht hW => ⟨⟨(), rfl, trivial, by rw [ht]; exact hP, va_K.moved hW.alike hK, hD⟩, hS.F ht⟩) hS.2.2 dX3_recall_39
  replace hF := if_o c_37 hF
  by_cases c_40 : k_6 = 11
  · replace hF := if_i c_40 hF
    subst c_40
    refine va_aldq hx hb hK hP 3 3 rfl rfl (i := 11) (show ¬ ((11 : Int32) < 0 ∨ 20 ≤ (11 : Int32).toNatClampNeg) by decide) dX3_recall_35 ?_
    refine W.eq (g2 := F0 m 36 ls [.ref (aQ 22), .ref aS_0]) rfl ?_
    replace hF := bnd hF
    obtain ⟨zS_41, hc_42, hF⟩ := hF
    refine cl_Vv (As := [.ref (aQ 22)]) (rest := []) (wc := ((wcS ci aS_0 aS_1 zS) ++ (wcS ci (aQ 22) (aQ 23) (zQ 11)))) (wr := ([2, 3, 4, 5, 6, 7, 8, 9, 10, 11, 12, 13, 14, 15, 16, 17, 18, 19, 20, 21, 22, 23, 24, 25, 28, 29, 30, 31, 32, 33, 34, 35, 36, 37, 38, 39, 40, 41, 42, 43].filterMap (fun i => ((wcS ci aS_0 aS_1 zS) ++ ((wcP ci aP_0 aP_1 aQ zP_5) ++ (wcQ ci aQ zQ)))[i]?))) (w1 := ((wcS ci aS_0 aS_1 zS_41) ++ (wcS ci (aQ 22) (aQ 23) (zQ 11)))) (wn := ((wcS ci aS_0 aS_1 zS_41) ++ ((wcP ci aP_0 aP_1 aQ zP_5) ++ (wcQ ci aQ zQ)))) ⟨hx, hb, hml, hown, hts⟩ (cwV 1 hts gX3_recall_X5_copyFrom rfl rfl rfl (by decide +kernel) ⟨Nat.le_of_ble_eq_true rfl, Nat.le_of_ble_eq_true rfl⟩) (c_X5_copyFrom l D ci aS_0 aS_1 (aQ 22) (aQ 23) H.size zS (zQ 11) _ hc_42) hK hP hD hS hA [0, 1, 26, 27] [2, 3, 4, 5, 6, 7, 8, 9, 10, 11, 12, 13, 14, 15, 16, 17, 18, 19, 20, 21, 22, 23, 24, 25, 28, 29, 30, 31, 32, 33, 34, 35, 36, 37, 38, 39, 40, 41, 42, 43] [40, 41, 0, 1, 2, 3, 4, 5, 6, 7, 8, 9, 10, 11, 12, 13, 14, 15, 16, 17, 18, 19, 20, 21, 22, 23, 42, 43, 24, 25, 26, 27, 28, 29, 30, 31, 32, 33, 34, 35, 36, 37, 38, 39] rfl rfl rfl (by decide) 0 rfl rfl rfl rfl hl.1 (Nat.le_of_ble_eq_true rfl) dX3_recall_36 (Nat.zero_le _) (Nat.zero_le _) (fun H locs hP hD hS => ?_)
    have hP : va_P D vwCl ((wcS ci aS_0 aS_1 zS_41) ++ ((wcP ci aP_0 aP_1 aQ zP_5) ++ (wcQ ci aQ zQ))) H := hP
    have hD : va_D A ((wcS ci aS_0 aS_1 zS_41) ++ ((wcP ci aP_0 aP_1 aQ zP_5) ++ (wcQ ci aQ zQ))) := hD
    obtain rfl := Option.some.inj hF
    exact W.vret hx hb hr (fun t ht hW => ⟨⟨(), rfl, trivial, by rw [ht]; exact hP, va_K.moved hW.alike hK, hD⟩, hS.F ht⟩) hS.2.2 dX3_recall_39
  replace hF := if_o c_40 hF
  by_cases c_43 : k_6 = 12
  · replace hF := if_i c_43 hF
    subst c_43
    refine va_aldq hx hb hK hP 3 3 rfl rfl (i := 12) (show ¬ ((12 : Int32) < 0 ∨ 20 ≤ (12 : Int32).toNatClampNeg) by decide) dX3_recall_35 ?_
    refine W.eq (g2 := F0 m 36 ls [.ref (aQ 24), .ref aS_0]) rfl ?_
    replace hF := bnd hF
    obtain ⟨zS_44, hc_45, hF⟩ := hF
    refine cl_Vv (As := [.ref (aQ 24)]) (rest := []) (wc := ((wcS ci aS_0 aS_1 zS) ++ (wcS ci (aQ 24) (aQ 25) (zQ 12)))) (wr := ([2, 3, 4, 5, 6, 7, 8, 9, 10, 11, 12, 13, 14, 15, 16, 17, 18, 19, 20, 21, 22, 23, 24, 25, 26, 27, 30, 31, 32, 33, 34, 35, 36, 37, 38, 39, 40, 41, 42, 43].filterMap (fun i => ((wcS ci aS_0 aS_1 zS) ++ ((wcP ci aP_0 aP_1 aQ zP_5) ++ (wcQ ci aQ zQ)))[i]?))) (w1 := ((wcS ci aS_0 aS_1 zS_44) ++ (wcS ci (aQ 24) (aQ 25) (zQ 12)))) (wn := ((wcS ci aS_0 aS_1 zS_44) ++ ((wcP ci aP_0 aP_1 aQ zP_5) ++ (wcQ ci aQ zQ)))) ⟨hx, hb, hml, hown, hts⟩ (cwV 1 hts gX3_recall_X5_copyFrom rfl rfl rfl (by decide +kernel) ⟨Nat.le_of_ble_eq_true rfl, Nat.le_of_ble_eq_true rfl⟩) (c_X5_copyFrom l D ci aS_0 aS_1 (aQ 24) (aQ 25) H.size zS (zQ 12) _ hc_45) hK hP hD hS hA [0, 1, 28, 29] [2, 3, 4, 5, 6, 7, 8, 9, 10, 11, 12, 13, 14, 15, 16, 17, 18, 19, 20, 21, 22, 23, 24, 25, 26, 27, 30, 31, 32, 33, 34, 35, 36, 37, 38, 39, 40, 41, 42, 43] [40, 41, 0, 1, 2, 3, 4, 5, 6, 7, 8, 9, 10, 11, 12, 13, 14, 15, 16, 17, 18, 19, 20, 21, 22, 23, 24, 25, 42, 43, 26, 27, 28, 29, 30, 31, 32, 33, 34, 35, 36, 37, 38, 39] rfl rfl rfl (by decide) 0 rfl rfl rfl rfl hl.1 (Nat.le_of_ble_eq_true rfl) dX3_recall_36 (Nat.zero_le _) (Nat.zero_le _) (fun H locs hP hD hS => ?_)
    have hP : va_P D vwCl ((wcS ci aS_0 aS_1 zS_44) ++ ((wcP ci aP_0 aP_1 aQ zP_5) ++ (wcQ ci aQ zQ))) H := hP
    have hD : va_D A ((wcS ci aS_0 aS_1 zS_44) ++ ((wcP ci aP_0 aP_1 aQ zP_5) ++ (wcQ ci aQ zQ))) := hD
    obtain rfl := Option.some.inj hF
    exact W.vret hx hb hr (fun t ht hW => ⟨⟨(), rfl, trivial, by rw [ht]; exact hP, va_K.moved hW.alike hK, hD⟩, hS.F ht⟩) hS.2.2 dX3_recall_39
  replace hF := if_o c_43 hF
  by_cases c_46 : k_6 = 13
  · replace hF := if_i c_46 hF
    subst c_46
    refine va_aldq hx hb hK hP 3 3 rfl rfl (i := 13) (show ¬ ((13 : Int32) < 0 ∨ 20 ≤ (13 : Int32).toNatClampNeg) by decide) dX3_recall_35 ?_
    refine W.eq (g2 := F0 m 36 ls [.ref (aQ 26), .ref aS_0]) rfl ?_
    replace hF := bnd hF
    obtain ⟨zS_47, hc_48, hF⟩ := hF
    refine cl_Vv (As := [.ref (aQ 26)]) (rest := []) (wc := ((wcS ci aS_0 aS_1 zS) ++ (wcS ci (aQ 26) (aQ 27) (zQ 13)))) (wr := ([2, 3, 4, 5, 6, 7, 8, 9, 10, 11, 12, 13, 14, 15, 16, 17, 18, 19, 20, 21, 22, 23, 24, 25, 26, 27, 28, 29, 32, 33, 34, 35, 36, 37, 38, 39, 40, 41, 42, 43].filterMap (fun i => ((wcS ci aS_0 aS_1 zS) ++ ((wcP ci aP_0 aP_1 aQ zP_5) ++ (wcQ ci aQ zQ)))[i]?))) (w1 := ((wcS ci aS_0 aS_1 zS_47) ++ (wcS ci (aQ 26) (aQ 27) (zQ 13)))) (wn := ((wcS ci aS_0 aS_1 zS_47) ++ ((wcP ci aP_0 aP_1 aQ zP_5) ++ (wcQ ci aQ zQ)))) ⟨hx, hb, hml, hown, hts⟩ (cwV 1 hts gX3_recall_X5_copyFrom rfl rfl rfl (by decide +kernel) ⟨Nat.le_of_ble_eq_true rfl, Nat.le_of_ble_eq_true rfl⟩) (c_X5_copyFrom l D ci aS_0 aS_1 (aQ 26) (aQ 27) H.size zS (zQ 13) _ hc_48) hK hP hD hS hA [0, 1, 30, 31] [2, 3, 4, 5, 6, 7, 8, 9, 10, 11, 12, 13, 14, 15, 16, 17, 18, 19, 20, 21, 22, 23, 24, 25, 26, 27, 28, 29, 32, 33, 34, 35, 36, 37, 38, 39, 40, 41, 42, 43] [40, 41, 0, 1, 2, 3, 4, 5, 6, 7, 8, 9, 10, 11, 12, 13, 14, 15, 16, 17, 18, 19, 20, 21, 22, 23, 24, 25, 26, 27, 42, 43, 28, 29, 30, 31, 32, 33, 34, 35, 36, 37, 38, 39] rfl rfl rfl (by decide) 0 rfl rfl rfl rfl hl.1 (Nat.le_of_ble_eq_true rfl) dX3_recall_36 (Nat.zero_le _) (Nat.zero_le _) (fun H locs hP hD hS => ?_)
    have hP : va_P D vwCl ((wcS ci aS_0 aS_1 zS_47) ++ ((wcP ci aP_0 aP_1 aQ zP_5) ++ (wcQ ci aQ zQ))) H := hP
    have hD : va_D A ((wcS ci aS_0 aS_1 zS_47) ++ ((wcP ci aP_0 aP_1 aQ zP_5) ++ (wcQ ci aQ zQ))) := hD
    obtain rfl := Option.some.inj hF
    exact W.vret hx hb hr (fun t ht hW => ⟨⟨(), rfl, trivial, by rw [ht]; exact hP, va_K.moved hW.alike hK, hD⟩, hS.F ht⟩) hS.2.2 dX3_recall_39
  replace hF := if_o c_46 hF
  by_cases c_49 : k_6 = 14
  · replace hF := if_i c_49 hF
    subst c_49
    refine va_aldq hx hb hK hP 3 3 rfl rfl (i := 14) (show ¬ ((14 : Int32) < 0 ∨ 20 ≤ (14 : Int32).toNatClampNeg) by decide) dX3_recall_35 ?_
    refine W.eq (g2 := F0 m 36 ls [.ref (aQ 28), .ref aS_0]) rfl ?_
    replace hF := bnd hF
    obtain ⟨zS_50, hc_51, hF⟩ := hF
    refine cl_Vv (As := [.ref (aQ 28)]) (rest := []) (wc := ((wcS ci aS_0 aS_1 zS) ++ (wcS ci (aQ 28) (aQ 29) (zQ 14)))) (wr := ([2, 3, 4, 5, 6, 7, 8, 9, 10, 11, 12, 13, 14, 15, 16, 17, 18, 19, 20, 21, 22, 23, 24, 25, 26, 27, 28, 29, 30, 31, 34, 35, 36, 37, 38, 39, 40, 41, 42, 43].filterMap (fun i => ((wcS ci aS_0 aS_1 zS) ++ ((wcP ci aP_0 aP_1 aQ zP_5) ++ (wcQ ci aQ zQ)))[i]?))) (w1 := ((wcS ci aS_0 aS_1 zS_50) ++ (wcS ci (aQ 28) (aQ 29) (zQ 14)))) (wn := ((wcS ci aS_0 aS_1 zS_50) ++ ((wcP ci aP_0 aP_1 aQ zP_5) ++ (wcQ ci aQ zQ)))) ⟨hx, hb, hml, hown, hts⟩ (cwV 1 hts gX3_recall_X5_copyFrom rfl rfl rfl (by decide +kernel) ⟨Nat.le_of_ble_eq_true rfl, Nat.le_of_ble_eq_true rfl⟩) (c_X5_copyFrom l D ci aS_0 aS_1 (aQ 28) (aQ 29) H.size zS (zQ 14) _ hc_51) hK hP hD hS hA [0, 1, 32, 33] [2, 3, 4, 5, 6, 7, 8, 9, 10, 11, 12, 13, 14, 15, 16, 17, 18, 19, 20, 21, 22, 23, 24, 25, 26, 27, 28, 29, 30, 31, 34, 35, 36, 37, 38, 39, 40, 41, 42, 43] [40, 41, 0, 1, 2, 3, 4, 5, 6, 7, 8, 9, 10, 11, 12, 13, 14, 15, 16, 17, 18, 19, 20, 21, 22, 23, 24, 25, 26, 27, 28, 29, 42, 43, 30, 31, 32, 33, 34, 35, 36, 37, 38, 39] rfl rfl rfl (by decide) 0 rfl rfl rfl rfl hl.1 (Nat.le_of_ble_eq_true rfl) dX3_recall_36 (Nat.zero_le _) (Nat.zero_le _) (fun H locs hP hD hS => ?_)
    have hP : va_P D vwCl ((wcS ci aS_0 aS_1 zS_50) ++ ((wcP ci aP_0 aP_1 aQ zP_5) ++ (wcQ ci aQ zQ))) H := hP
    have hD : va_D A ((wcS ci aS_0 aS_1 zS_50) ++ ((wcP ci aP_0 aP_1 aQ zP_5) ++ (wcQ ci aQ zQ))) := hD
    obtain rfl := Option.some.inj hF
    exact W.vret hx hb hr (fun t ht hW => ⟨⟨(), rfl, trivial, by rw [ht]; exact hP, va_K.moved hW.alike hK, hD⟩, hS.F ht⟩) hS.2.2 dX3_recall_39
  replace hF := if_o c_49 hF
  by_cases c_52 : k_6 = 15
  · replace hF := if_i c_52 hF
    subst c_52
    refine va_aldq hx hb hK hP 3 3 rfl rfl (i := 15) (show ¬ ((15 : Int32) < 0 ∨ 20 ≤ (15 : Int32).toNatClampNeg) by decide) dX3_recall_35 ?_
    refine W.eq (g2 := F0 m 36 ls [.ref (aQ 30), .ref aS_0]) rfl ?_
    replace hF := bnd hF
    obtain ⟨zS_53, hc_54, hF⟩ := hF
    refine cl_Vv (As := [.ref (aQ 30)]) (rest := []) (wc := ((wcS ci aS_0 aS_1 zS) ++ (wcS ci (aQ 30) (aQ 31) (zQ 15)))) (wr := ([2, 3, 4, 5, 6, 7, 8, 9, 10, 11, 12, 13, 14, 15, 16, 17, 18, 19, 20, 21, 22, 23, 24, 25, 26, 27, 28, 29, 30, 31, 32, 33, 36, 37, 38, 39, 40, 41, 42, 43].filterMap (fun i => ((wcS ci aS_0 aS_1 zS) ++ ((wcP ci aP_0 aP_1 aQ zP_5) ++ (wcQ ci aQ zQ)))[i]?))) (w1 := ((wcS ci aS_0 aS_1 zS_53) ++ (wcS ci (aQ 30) (aQ 31) (zQ 15)))) (wn := ((wcS ci aS_0 aS_1 zS_53) ++ ((wcP ci aP_0 aP_1 aQ zP_5) ++ (wcQ ci aQ zQ)))) ⟨hx, hb, hml, hown, hts⟩ (cwV 1 hts gX3_recall_X5_copyFrom rfl rfl rfl (by decide +kernel) ⟨Nat.le_of_ble_eq_true rfl, Nat.le_of_ble_eq_true rfl⟩) (c_X5_copyFrom l D ci aS_0 aS_1 (aQ 30) (aQ 31) H.size zS (zQ 15) _ hc_54) hK hP hD hS hA [0, 1, 34, 35] [2, 3, 4, 5, 6, 7, 8, 9, 10, 11, 12, 13, 14, 15, 16, 17, 18, 19, 20, 21, 22, 23, 24, 25, 26, 27, 28, 29, 30, 31, 32, 33, 36, 37, 38, 39, 40, 41, 42, 43] [40, 41, 0, 1, 2, 3, 4, 5, 6, 7, 8, 9, 10, 11, 12, 13, 14, 15, 16, 17, 18, 19, 20, 21, 22, 23, 24, 25, 26, 27, 28, 29, 30, 31, 42, 43, 32, 33, 34, 35, 36, 37, 38, 39] rfl rfl rfl (by decide) 0 rfl rfl rfl rfl hl.1 (Nat.le_of_ble_eq_true rfl) dX3_recall_36 (Nat.zero_le _) (Nat.zero_le _) (fun H locs hP hD hS => ?_)
    have hP : va_P D vwCl ((wcS ci aS_0 aS_1 zS_53) ++ ((wcP ci aP_0 aP_1 aQ zP_5) ++ (wcQ ci aQ zQ))) H := hP
    have hD : va_D A ((wcS ci aS_0 aS_1 zS_53) ++ ((wcP ci aP_0 aP_1 aQ zP_5) ++ (wcQ ci aQ zQ))) := hD
    obtain rfl := Option.some.inj hF
    exact W.vret hx hb hr (fun t ht hW => ⟨⟨(), rfl, trivial, by rw [ht]; exact hP, va_K.moved hW.alike hK, hD⟩, hS.F ht⟩) hS.2.2 dX3_recall_39
  replace hF := if_o c_52 hF
  by_cases c_55 : k_6 = 16
  · replace hF := if_i c_55 hF
    subst c_55
    refine va_aldq hx hb hK hP 3 3 rfl rfl (i := 16) (show ¬ ((16 : Int32) < 0 ∨ 20 ≤ (16 : Int32).toNatClampNeg) by decide) dX3_recall_35 ?_
    refine W.eq (g2 := F0 m 36 ls [.ref (aQ 32), .ref aS_0]) rfl ?_
    replace hF := bnd hF
    obtain ⟨zS_56, hc_57, hF⟩ := hF
    refine cl_Vv (As := [.ref (aQ 32)]) (rest := []) (wc := ((wcS ci aS_0 aS_1 zS) ++ (wcS ci (aQ 32) (aQ 33) (zQ 16)))) (wr := ([2, 3, 4, 5, 6, 7, 8, 9, 10, 11, 12, 13, 14, 15, 16, 17, 18, 19, 20, 21, 22, 23, 24, 25, 26, 27, 28, 29, 30, 31, 32, 33, 34, 35, 38, 39, 40, 41, 42, 43].filterMap (fun i => ((wcS ci aS_0 aS_1 zS) ++ ((wcP ci aP_0 aP_1 aQ zP_5) ++ (wcQ ci aQ zQ)))[i]?))) (w1 := ((wcS ci aS_0 aS_1 zS_56) ++ (wcS ci (aQ 32) (aQ 33) (zQ 16)))) (wn := ((wcS ci aS_0 aS_1 zS_56) ++ ((wcP ci aP_0 aP_1 aQ zP_5) ++ (wcQ ci aQ zQ)))) ⟨hx, hb, hml, hown, hts⟩ (cwV 1 hts gX3_recall_X5_copyFrom rfl rfl rfl (by decide +kernel) ⟨Nat.le_of_ble_eq_true rfl, Nat.le_of_ble_eq_true rfl⟩) (c_X5_copyFrom l D ci aS_0 aS_1 (aQ 32) (aQ 33) H.size zS (zQ 16) _ hc_57) hK hP hD hS hA [0, 1, 36, 37] [2, 3, 4, 5, 6, 7, 8, 9, 10, 11, 12, 13, 14, 15, 16, 17, 18, 19, 20, 21, 22, 23, 24, 25, 26, 27, 28, 29, 30, 31, 32, 33, 34, 35, 38, 39, 40, 41, 42, 43] [40, 41, 0, 1, 2, 3, 4, 5, 6, 7, 8, 9, 10, 11, 12, 13, 14, 15, 16, 17, 18, 19, 20, 21, 22, 23, 24, 25, 26, 27, 28, 29, 30, 31, 32, 33, 42, 43, 34, 35, 36, 37, 38, 39] rfl rfl rfl (by decide) 0 rfl rfl rfl rfl hl.1 (Nat.le_of_ble_eq_true rfl) dX3_recall_36 (Nat.zero_le _) (Nat.zero_le _) (fun H locs hP hD hS => ?_)
    have hP : va_P D vwCl ((wcS ci aS_0 aS_1 zS_56) ++ ((wcP ci aP_0 aP_1 aQ zP_5) ++ (wcQ ci aQ zQ))) H := hP
    have hD : va_D A ((wcS ci aS_0 aS_1 zS_56) ++ ((wcP ci aP_0 aP_1 aQ zP_5) ++ (wcQ ci aQ zQ))) := hD
    obtain rfl := Option.some.inj hF
    exact W.vret hx hb hr (fun t ht hW => ⟨⟨(), rfl, trivial, by rw [ht]; exact hP, va_K.moved hW.alike hK, hD⟩, hS.F ht⟩) hS.2.2 dX3_recall_39
  replace hF := if_o c_55 hF
  by_cases c_58 : k_6 = 17
  · replace hF := if_i c_58 hF
    subst c_58
    refine va_aldq hx hb hK hP 3 3 rfl rfl (i := 17) (show ¬ ((17 : Int32) < 0 ∨ 20 ≤ (17 : Int32).toNatClampNeg) by decide) dX3_recall_35 ?_
    refine W.eq (g2 := F0 m 36 ls [.ref (aQ 34), .ref aS_0]) rfl ?_
    replace hF := bnd hF
    obtain ⟨zS_59, hc_60, hF⟩ := hF
    refine cl_Vv (As := [.ref (aQ 34)]) (rest := []) (wc := ((wcS ci aS_0 aS_1 zS) ++ (wcS ci (aQ 34) (aQ 35) (zQ 17)))) (wr := ([2, 3, 4, 5, 6, 7, 8, 9, 10, 11, 12, 13, 14, 15, 16, 17, 18, 19, 20, 21, 22, 23, 24, 25, 26, 27, 28, 29, 30, 31, 32, 33, 34, 35, 36, 37, 40, 41, 42, 43].filterMap (fun i => ((wcS ci aS_0 aS_1 zS) ++ ((wcP ci aP_0 aP_1 aQ zP_5) ++ (wcQ ci aQ zQ)))[i]?))) (w1 := ((wcS ci aS_0 aS_1 zS_59) ++ (wcS ci (aQ 34) (aQ 35) (zQ 17)))) (wn := ((wcS ci aS_0 aS_1 zS_59) ++ ((wcP ci aP_0 aP_1 aQ zP_5) ++ (wcQ ci aQ zQ)))) ⟨hx, hb, hml, hown, hts⟩ (cwV 1 hts gX3_recall_X5_copyFrom rfl rfl rfl (by decide +kernel) ⟨Nat.le_of_ble_eq_true rfl, Nat.le_of_ble_eq_true rfl⟩) (c_X5_copyFrom l D ci aS_0 aS_1 (aQ 34) (aQ 35) H.size zS (zQ 17) _ hc_60) hK hP hD hS hA [0, 1, 38, 39] [2, 3, 4, 5, 6, 7, 8, 9, 10, 11, 12, 13, 14, 15, 16, 17, 18, 19, 20, 21, 22, 23, 24, 25, 26, 27, 28, 29, 30, 31, 32, 33, 34, 35, 36, 37, 40, 41, 42, 43] [40, 41, 0, 1, 2, 3, 4, 5, 6, 7, 8, 9, 10, 11, 12, 13, 14, 15, 16, 17, 18, 19, 20, 21, 22, 23, 24, 25, 26, 27, 28, 29, 30, 31, 32, 33, 34, 35, 42, 43, 36, 37, 38, 39] rfl rfl rfl (by decide) 0 rfl rfl rfl rfl hl.1 (Nat.le_of_ble_eq_true rfl) dX3_recall_36 (Nat.zero_le _) (Nat.zero_le _) (fun H locs hP hD hS => ?_)
    have hP : va_P D vwCl ((wcS ci aS_0 aS_1 zS_59) ++ ((wcP ci aP_0 aP_1 aQ zP_5) ++ (wcQ ci aQ zQ))) H := hP
    have hD : va_D A ((wcS ci aS_0 aS_1 zS_59) ++ ((wcP ci aP_0 aP_1 aQ zP_5) ++ (wcQ ci aQ zQ))) := hD
    obtain rfl := Option.some.inj hF
    exact W.vret hx hb hr (fun t ht hW => ⟨⟨(), rfl, trivial, by rw [ht]; exact hP, va_K.moved hW.alike hK, hD⟩, hS.F ht⟩) hS.2.2 dX3_recall_39
  replace hF := if_o c_58 hF
  by_cases c_61 : k_6 = 18
  · replace hF := if_i c_61 hF
    subst c_61
    refine va_aldq hx hb hK hP 3 3 rfl rfl (i := 18) (show ¬ ((18 : Int32) < 0 ∨ 20 ≤ (18 : Int32).toNatClampNeg) by decide) dX3_recall_35 ?_
    refine W.eq (g2 := F0 m 36 ls [.ref (aQ 36), .ref aS_0]) rfl ?_
    replace hF := bnd hF
    obtain ⟨zS_62, hc_63, hF⟩ := hF
    refine cl_Vv (As := [.ref (aQ 36)]) (rest := []) (wc := ((wcS ci aS_0 aS_1 zS) ++ (wcS ci (aQ 36) (aQ 37) (zQ 18)))) (wr := ([2, 3, 4, 5, 6, 7, 8, 9, 10, 11, 12, 13, 14, 15, 16, 17, 18, 19, 20, 21, 22, 23, 24, 25, 26, 27, 28, 29, 30, 31, 32, 33, 34, 35, 36, 37, 38, 39, 42, 43].filterMap (fun i => ((wcS ci aS_0 aS_1 zS) ++ ((wcP ci aP_0 aP_1 aQ zP_5) ++ (wcQ ci aQ zQ)))[i]?))) (w1 := ((wcS ci aS_0 aS_1 zS_62) ++ (wcS ci (aQ 36) (aQ 37) (zQ 18)))) (wn := ((wcS ci aS_0 aS_1 zS_62) ++ ((wcP ci aP_0 aP_1 aQ zP_5) ++ (wcQ ci aQ zQ)))) ⟨hx, hb, hml, hown, hts⟩ (cwV 1 hts gX3_recall_X5_copyFrom rfl rfl rfl (by decide +kernel) ⟨Nat.le_of_ble_eq_true rfl, Nat.le_of_ble_eq_true rfl⟩) (c_X5_copyFrom l D ci aS_0 aS_1 (aQ 36) (aQ 37) H.size zS (zQ 18) _ hc_63) hK hP hD hS hA [0, 1, 40, 41] [2, 3, 4, 5, 6, 7, 8, 9, 10, 11, 12, 13, 14, 15, 16, 17, 18, 19, 20, 21, 22, 23, 24, 25, 26, 27, 28, 29, 30, 31, 32, 33, 34, 35, 36, 37, 38, 39, 42, 43] [40, 41, 0, 1, 2, 3, 4, 5, 6, 7, 8, 9, 10, 11, 12, 13, 14, 15, 16, 17, 18, 19, 20, 21, 22, 23, 24, 25, 26, 27, 28, 29, 30, 31, 32, 33, 34, 35, 36, 37, 42, 43, 38, 39] rfl rfl rfl (by decide) 0 rfl rfl rfl rfl hl.1 (Nat.le_of_ble_eq_true rfl) dX3_recall_36 (Nat.zero_le _) (Nat.zero_le _) (fun H locs hP hD hS => ?_)
    have hP : va_P D vwCl ((wcS ci aS_0 aS_1 zS_62) ++ ((wcP ci aP_0 aP_1 aQ zP_5) ++ (wcQ ci aQ zQ))) H := hP
    have hD : va_D A ((wcS ci aS_0 aS_1 zS_62) ++ ((wcP ci aP_0 aP_1 aQ zP_5) ++ (wcQ ci aQ zQ))) := hD
    obtain rfl := Option.some.inj hF
    exact W.vret hx hb hr (fun t ht hW => ⟨⟨(), rfl, trivial, by rw [ht]; exact hP, va_K.moved hW.alike hK, hD⟩, hS.F ht⟩) hS.2.2 dX3_recall_39
  replace hF := if_o c_61 hF
  by_cases c_64 : k_6 = 19
  · replace hF := if_i c_64 hF
    subst c_64
    refine va_aldq hx hb hK hP 3 3 rfl rfl (i := 19) (show ¬ ((19 : Int32) < 0 ∨ 20 ≤ (19 : Int32).toNatClampNeg) by decide) dX3_recall_35 ?_
    refine W.eq (g2 := F0 m 36 ls [.ref (aQ 38), .ref aS_0]) rfl ?_
    replace hF := bnd hF
    obtain ⟨zS_65, hc_66, hF⟩ := hF
    refine cl_Vv (As := [.ref (aQ 38)]) (rest := []) (wc := ((wcS ci aS_0 aS_1 zS) ++ (wcS ci (aQ 38) (aQ 39) (zQ 19)))) (wr := ([2, 3, 4, 5, 6, 7, 8, 9, 10, 11, 12, 13, 14, 15, 16, 17, 18, 19, 20, 21, 22, 23, 24, 25, 26, 27, 28, 29, 30, 31, 32, 33, 34, 35, 36, 37, 38, 39, 40, 41].filterMap (fun i => ((wcS ci aS_0 aS_1 zS) ++ ((wcP ci aP_0 aP_1 aQ zP_5) ++ (wcQ ci aQ zQ)))[i]?))) (w1 := ((wcS ci aS_0 aS_1 zS_65) ++ (wcS ci (aQ 38) (aQ 39) (zQ 19)))) (wn := ((wcS ci aS_0 aS_1 zS_65) ++ ((wcP ci aP_0 aP_1 aQ zP_5) ++ (wcQ ci aQ zQ)))) ⟨hx, hb, hml, hown, hts⟩ (cwV 1 hts gX3_recall_X5_copyFrom rfl rfl rfl (by decide +kernel) ⟨Nat.le_of_ble_eq_true rfl, Nat.le_of_ble_eq_true rfl⟩) (c_X5_copyFrom l D ci aS_0 aS_1 (aQ 38) (aQ 39) H.size zS (zQ 19) _ hc_66) hK hP hD hS hA [0, 1, 42, 43] [2, 3, 4, 5, 6, 7, 8, 9, 10, 11, 12, 13, 14, 15, 16, 17, 18, 19, 20, 21, 22, 23, 24, 25, 26, 27, 28, 29, 30, 31, 32, 33, 34, 35, 36, 37, 38, 39, 40, 41] [40, 41, 0, 1, 2, 3, 4, 5, 6, 7, 8, 9, 10, 11, 12, 13, 14, 15, 16, 17, 18, 19, 20, 21, 22, 23, 24, 25, 26, 27, 28, 29, 30, 31, 32, 33, 34, 35, 36, 37, 38, 39, 42, 43] rfl rfl rfl (by decide) 0 rfl rfl rfl rfl hl.1 (Nat.le_of_ble_eq_true rfl) dX3_recall_36 (Nat.zero_le _) (Nat.zero_le _) (fun H locs hP hD hS => ?_)
    have hP : va_P D vwCl ((wcS ci aS_0 aS_1 zS_65) ++ ((wcP ci aP_0 aP_1 aQ zP_5) ++ (wcQ ci aQ zQ))) H := hP
    have hD : va_D A ((wcS ci aS_0 aS_1 zS_65) ++ ((wcP ci aP_0 aP_1 aQ zP_5) ++ (wcQ ci aQ zQ))) := hD
    obtain rfl := Option.some.inj hF
    exact W.vret hx hb hr (fun t ht hW => ⟨⟨(), rfl, trivial, by rw [ht]; exact hP, va_K.moved hW.alike hK, hD⟩, hS.F ht⟩) hS.2.2 dX3_recall_39
  replace hF := if_o c_64 hF
  exact absurd hF (fun h => no_none h)

noncomputable def f_J6_bitCount_0f7a4 (p0 : Int32) : Option (Int32) := nm (p0 - ((iushr p0 1) &&& 1431655765)) fun v0_1 => nm ((v0_1 &&& 858993459) + ((iushr v0_1 2) &&& 858993459)) fun v0_2 => nm ((v0_2 + (iushr v0_2 4)) &&& 252645135) fun v0_3 => nm (v0_3 + (iushr v0_3 8)) fun v0_4 => nm (v0_4 + (iushr v0_4 16)) fun v0_5 => some (v0_5 &&& 63)
set_option maxHeartbeats 4000000 in
set_option maxRecDepth 100000 in
theorem c_J6_bitCount_0f7a4 (l : Launch) (D : va_G) (ci : Nat → ClassId) (sz : Nat) (p0 : Int32) (res : Int32) (hF : f_J6_bitCount_0f7a4 p0 = some res) : CtI l yJ6_bitCount_0f7a4 wsJ6_bitCount_0f7a4 { frames := 0, cells := 0, slots := 0, locals := 0 } [.int p0] D ci [] sz res [] := by
  refine Met.ofW (cc := cJ6_bitCount_0f7a4) (maxL := 1) (ret := (some .int)) (by decide) rfl ?_
  intro p e s m args below meth c s₁ B hml hv
  obtain ⟨rfl, hsz, hP, hK, hD0⟩ := hv
  have hx := B.exec
  have hb := B.bytes
  have hr := B.returns
  have hts := atoms_spec (ws := wsJ6_bitCount_0f7a4) B.pre
  have hown : s.vm.findClass RJ6 = some m.cls := findClass_of_methodNamed B.named
  have hlocks := B.notSynchronized
  subst hsz
  have hD := hD0.self (sz := s.heap.size)
  generalize hAe : va_A [] s.heap.size = A at hD ⊢
  have hA : ∀ q : Nat, s.heap.size ≤ q → A q := fun q h => by rw [← hAe]; exact Or.inr h
  clear hD0 hAe
  have hl := lv_entry ([.int p0]) (n := 1) (Nat.le_of_ble_eq_true rfl)
  rw [lg_entry_eq]
  generalize (lg_sl ([.int p0]) ++ List.replicate (1 - (lg_sl ([.int p0])).length) Slot.unset).toArray = ls at hl ⊢
  have hl : lv_has ls 1 [(0, .int p0)] := hl
  have hP : va_P D vwCl [] s.heap := hP
  generalize hH0 : s.heap = H at hP ⊢
  have hS : va_S A s.heap H [] := by rw [← hH0]; exact va_S.rf
  clear hH0
  generalize ([] : List Loc) = locs at hS ⊢
  have hk_0 := hts (.constant RJ6 265 (1431655765)) (by decide +kernel)
  have hk_1 := hts (.constant RJ6 266 (858993459)) (by decide +kernel)
  have hk_2 := hts (.constant RJ6 267 (252645135)) (by decide +kernel)
  unfold f_J6_bitCount_0f7a4 at hF
  refine lv_iload_n hx hb dJ6_bitCount_0f7a4_0 rfl (lv_at hl 0 rfl) ?_
  refine lv_iload_n hx hb dJ6_bitCount_0f7a4_1 rfl (lv_at hl 0 rfl) ?_
  refine lv_iconst (v := 1) hx hb dJ6_bitCount_0f7a4_2 (by decide) ?_
  refine lv_iushr (v := (iushr p0 1)) hx hb dJ6_bitCount_0f7a4_3 rfl ?_
  refine lv_ldcw (v := 1431655765) hx hb hown hk_0 dJ6_bitCount_0f7a4_4 ?_
  refine lv_iand hx hb dJ6_bitCount_0f7a4_7 ?_
  refine lv_isub hx hb dJ6_bitCount_0f7a4_8 ?_
  refine lv_topi (fun v0_1 ev0_1 => ?_)
  replace hF := nm_i hF ev0_1
  refine lv_istore_n (lv' := [(0, .int v0_1)]) hx hb dJ6_bitCount_0f7a4_9 rfl hl (by decide) rfl (fun ls hl => ?_)
  refine lv_iload_n hx hb dJ6_bitCount_0f7a4_10 rfl (lv_at hl 0 rfl) ?_
  refine lv_ldcw (v := 858993459) hx hb hown hk_1 dJ6_bitCount_0f7a4_11 ?_
  refine lv_iand hx hb dJ6_bitCount_0f7a4_14 ?_
  refine lv_iload_n hx hb dJ6_bitCount_0f7a4_15 rfl (lv_at hl 0 rfl) ?_
  refine lv_iconst (v := 2) hx hb dJ6_bitCount_0f7a4_16 (by decide) ?_
  refine lv_iushr (v := (iushr v0_1 2)) hx hb dJ6_bitCount_0f7a4_17 rfl ?_
  refine lv_ldcw (v := 858993459) hx hb hown hk_1 dJ6_bitCount_0f7a4_18 ?_
  refine lv_iand hx hb dJ6_bitCount_0f7a4_21 ?_
  refine lv_iadd hx hb dJ6_bitCount_0f7a4_22 ?_
  refine lv_topi (fun v0_2 ev0_2 => ?_)
  replace hF := nm_i hF ev0_2
  refine lv_istore_n (lv' := [(0, .int v0_2)]) hx hb dJ6_bitCount_0f7a4_23 rfl hl (by decide) rfl (fun ls hl => ?_)
  refine lv_iload_n hx hb dJ6_bitCount_0f7a4_24 rfl (lv_at hl 0 rfl) ?_
  refine lv_iload_n hx hb dJ6_bitCount_0f7a4_25 rfl (lv_at hl 0 rfl) ?_
  refine lv_iconst (v := 4) hx hb dJ6_bitCount_0f7a4_26 (by decide) ?_
  refine lv_iushr (v := (iushr v0_2 4)) hx hb dJ6_bitCount_0f7a4_27 rfl ?_
  refine lv_iadd hx hb dJ6_bitCount_0f7a4_28 ?_
  refine lv_ldcw (v := 252645135) hx hb hown hk_2 dJ6_bitCount_0f7a4_29 ?_
  refine lv_iand hx hb dJ6_bitCount_0f7a4_32 ?_
  refine lv_topi (fun v0_3 ev0_3 => ?_)
  replace hF := nm_i hF ev0_3
  refine lv_istore_n (lv' := [(0, .int v0_3)]) hx hb dJ6_bitCount_0f7a4_33 rfl hl (by decide) rfl (fun ls hl => ?_)
  refine lv_iload_n hx hb dJ6_bitCount_0f7a4_34 rfl (lv_at hl 0 rfl) ?_
  refine lv_iload_n hx hb dJ6_bitCount_0f7a4_35 rfl (lv_at hl 0 rfl) ?_
  refine lv_bipush (v := 8) hx hb dJ6_bitCount_0f7a4_36 (by decide) ?_
  refine lv_iushr (v := (iushr v0_3 8)) hx hb dJ6_bitCount_0f7a4_38 rfl ?_
  refine lv_iadd hx hb dJ6_bitCount_0f7a4_39 ?_
  refine lv_topi (fun v0_4 ev0_4 => ?_)
  replace hF := nm_i hF ev0_4
  refine lv_istore_n (lv' := [(0, .int v0_4)]) hx hb dJ6_bitCount_0f7a4_40 rfl hl (by decide) rfl (fun ls hl => ?_)
  refine lv_iload_n hx hb dJ6_bitCount_0f7a4_41 rfl (lv_at hl 0 rfl) ?_
  refine lv_iload_n hx hb dJ6_bitCount_0f7a4_42 rfl (lv_at hl 0 rfl) ?_
  refine lv_bipush (v := 16) hx hb dJ6_bitCount_0f7a4_43 (by decide) ?_
  refine lv_iushr (v := (iushr v0_4 16)) hx hb dJ6_bitCount_0f7a4_45 rfl ?_
  refine lv_iadd hx hb dJ6_bitCount_0f7a4_46 ?_
  refine lv_topi (fun v0_5 ev0_5 => ?_)
  replace hF := nm_i hF ev0_5
  refine lv_istore_n (lv' := [(0, .int v0_5)]) hx hb dJ6_bitCount_0f7a4_47 rfl hl (by decide) rfl (fun ls hl => ?_)
  refine lv_iload_n hx hb dJ6_bitCount_0f7a4_48 rfl (lv_at hl 0 rfl) ?_
  refine lv_bipush (v := 63) hx hb dJ6_bitCount_0f7a4_49 (by decide) ?_
  refine lv_iand hx hb dJ6_bitCount_0f7a4_51 ?_
  obtain rfl := Option.some.inj hF
  exact W.iret (v := (v0_5 &&& 63)) hx hb hr (fun t ht hW => ⟨⟨_, (), rfl, rfl, by rw [ht]; exact hP, va_K.moved hW.alike hK, hD⟩, hS.F ht⟩) hS.2.2 dJ6_bitCount_0f7a4_52
noncomputable def f_J13_bitCount_95d88 (p0 : Int64) : Option (Int32) := nm (p0 - ((lushr p0 1) &&& 6148914691236517205)) fun v0_1 => nm ((v0_1 &&& 3689348814741910323) + ((lushr v0_1 2) &&& 3689348814741910323)) fun v0_2 => nm ((v0_2 + (lushr v0_2 4)) &&& 1085102592571150095) fun v0_3 => nm (v0_3 + (lushr v0_3 8)) fun v0_4 => nm (v0_4 + (lushr v0_4 16)) fun v0_5 => nm (v0_5 + (lushr v0_5 32)) fun v0_6 => some ((Int64.toInt32 v0_6) &&& 127)
set_option maxHeartbeats 4000000 in
set_option maxRecDepth 100000 in
theorem c_J13_bitCount_95d88 (l : Launch) (D : va_G) (ci : Nat → ClassId) (sz : Nat) (p0 : Int64) (res : Int32) (hF : f_J13_bitCount_95d88 p0 = some res) : CtI l yJ13_bitCount_95d88 wsJ13_bitCount_95d88 { frames := 0, cells := 0, slots := 0, locals := 0 } [.long p0] D ci [] sz res [] := by
  refine Met.ofW (cc := cJ13_bitCount_95d88) (maxL := 2) (ret := (some .int)) (by decide) rfl ?_
  intro p e s m args below meth c s₁ B hml hv
  obtain ⟨rfl, hsz, hP, hK, hD0⟩ := hv
  have hx := B.exec
  have hb := B.bytes
  have hr := B.returns
  have hts := atoms_spec (ws := wsJ13_bitCount_95d88) B.pre
  have hown : s.vm.findClass RJ13 = some m.cls := findClass_of_methodNamed B.named
  have hlocks := B.notSynchronized
  subst hsz
  have hD := hD0.self (sz := s.heap.size)
  generalize hAe : va_A [] s.heap.size = A at hD ⊢
  have hA : ∀ q : Nat, s.heap.size ≤ q → A q := fun q h => by rw [← hAe]; exact Or.inr h
  clear hD0 hAe
  have hl := lv_entry ([.long p0]) (n := 2) (Nat.le_of_ble_eq_true rfl)
  rw [lg_entry_eq]
  generalize (lg_sl ([.long p0]) ++ List.replicate (2 - (lg_sl ([.long p0])).length) Slot.unset).toArray = ls at hl ⊢
  have hl : lv_has ls 2 [(0, .long p0)] := hl
  have hP : va_P D vwCl [] s.heap := hP
  generalize hH0 : s.heap = H at hP ⊢
  have hS : va_S A s.heap H [] := by rw [← hH0]; exact va_S.rf
  clear hH0
  generalize ([] : List Loc) = locs at hS ⊢
  have hk_0 := hts (.constantLong RJ13 314 (6148914691236517205)) (by decide +kernel)
  have hk_1 := hts (.constantLong RJ13 316 (3689348814741910323)) (by decide +kernel)
  have hk_2 := hts (.constantLong RJ13 318 (1085102592571150095)) (by decide +kernel)
  unfold f_J13_bitCount_95d88 at hF
  refine lv_lload_n hx hb dJ13_bitCount_95d88_0 rfl (lv_at hl 0 rfl) ?_
  refine lv_lload_n hx hb dJ13_bitCount_95d88_1 rfl (lv_at hl 0 rfl) ?_
  refine lv_iconst (v := 1) hx hb dJ13_bitCount_95d88_2 (by decide) ?_
  refine lv_lushr (v := (lushr p0 1)) hx hb dJ13_bitCount_95d88_3 rfl ?_
  refine lv_ldc2 (v := 6148914691236517205) hx hb hown hk_0 dJ13_bitCount_95d88_4 ?_
  refine lv_land hx hb dJ13_bitCount_95d88_7 ?_
  refine lv_lsub hx hb dJ13_bitCount_95d88_8 ?_
  refine lv_topl (fun v0_1 ev0_1 => ?_)
  replace hF := nm_i hF ev0_1
  refine lv_lstore_n (lv' := [(0, .long v0_1)]) hx hb dJ13_bitCount_95d88_9 rfl hl (by decide) rfl (fun ls hl => ?_)
  refine lv_lload_n hx hb dJ13_bitCount_95d88_10 rfl (lv_at hl 0 rfl) ?_
  refine lv_ldc2 (v := 3689348814741910323) hx hb hown hk_1 dJ13_bitCount_95d88_11 ?_
  refine lv_land hx hb dJ13_bitCount_95d88_14 ?_
  refine lv_lload_n hx hb dJ13_bitCount_95d88_15 rfl (lv_at hl 0 rfl) ?_
  refine lv_iconst (v := 2) hx hb dJ13_bitCount_95d88_16 (by decide) ?_
  refine lv_lushr (v := (lushr v0_1 2)) hx hb dJ13_bitCount_95d88_17 rfl ?_
  refine lv_ldc2 (v := 3689348814741910323) hx hb hown hk_1 dJ13_bitCount_95d88_18 ?_
  refine lv_land hx hb dJ13_bitCount_95d88_21 ?_
  refine lv_ladd hx hb dJ13_bitCount_95d88_22 ?_
  refine lv_topl (fun v0_2 ev0_2 => ?_)
  replace hF := nm_i hF ev0_2
  refine lv_lstore_n (lv' := [(0, .long v0_2)]) hx hb dJ13_bitCount_95d88_23 rfl hl (by decide) rfl (fun ls hl => ?_)
  refine lv_lload_n hx hb dJ13_bitCount_95d88_24 rfl (lv_at hl 0 rfl) ?_
  refine lv_lload_n hx hb dJ13_bitCount_95d88_25 rfl (lv_at hl 0 rfl) ?_
  refine lv_iconst (v := 4) hx hb dJ13_bitCount_95d88_26 (by decide) ?_
  refine lv_lushr (v := (lushr v0_2 4)) hx hb dJ13_bitCount_95d88_27 rfl ?_
  refine lv_ladd hx hb dJ13_bitCount_95d88_28 ?_
  refine lv_ldc2 (v := 1085102592571150095) hx hb hown hk_2 dJ13_bitCount_95d88_29 ?_
  refine lv_land hx hb dJ13_bitCount_95d88_32 ?_
  refine lv_topl (fun v0_3 ev0_3 => ?_)
  replace hF := nm_i hF ev0_3
  refine lv_lstore_n (lv' := [(0, .long v0_3)]) hx hb dJ13_bitCount_95d88_33 rfl hl (by decide) rfl (fun ls hl => ?_)
  refine lv_lload_n hx hb dJ13_bitCount_95d88_34 rfl (lv_at hl 0 rfl) ?_
  refine lv_lload_n hx hb dJ13_bitCount_95d88_35 rfl (lv_at hl 0 rfl) ?_
  refine lv_bipush (v := 8) hx hb dJ13_bitCount_95d88_36 (by decide) ?_
  refine lv_lushr (v := (lushr v0_3 8)) hx hb dJ13_bitCount_95d88_38 rfl ?_
  refine lv_ladd hx hb dJ13_bitCount_95d88_39 ?_
  refine lv_topl (fun v0_4 ev0_4 => ?_)
  replace hF := nm_i hF ev0_4
  refine lv_lstore_n (lv' := [(0, .long v0_4)]) hx hb dJ13_bitCount_95d88_40 rfl hl (by decide) rfl (fun ls hl => ?_)
  refine lv_lload_n hx hb dJ13_bitCount_95d88_41 rfl (lv_at hl 0 rfl) ?_
  refine lv_lload_n hx hb dJ13_bitCount_95d88_42 rfl (lv_at hl 0 rfl) ?_
  refine lv_bipush (v := 16) hx hb dJ13_bitCount_95d88_43 (by decide) ?_
  refine lv_lushr (v := (lushr v0_4 16)) hx hb dJ13_bitCount_95d88_45 rfl ?_
  refine lv_ladd hx hb dJ13_bitCount_95d88_46 ?_
  refine lv_topl (fun v0_5 ev0_5 => ?_)
  replace hF := nm_i hF ev0_5
  refine lv_lstore_n (lv' := [(0, .long v0_5)]) hx hb dJ13_bitCount_95d88_47 rfl hl (by decide) rfl (fun ls hl => ?_)
  refine lv_lload_n hx hb dJ13_bitCount_95d88_48 rfl (lv_at hl 0 rfl) ?_
  refine lv_lload_n hx hb dJ13_bitCount_95d88_49 rfl (lv_at hl 0 rfl) ?_
  refine lv_bipush (v := 32) hx hb dJ13_bitCount_95d88_50 (by decide) ?_
  refine lv_lushr (v := (lushr v0_5 32)) hx hb dJ13_bitCount_95d88_52 rfl ?_
  refine lv_ladd hx hb dJ13_bitCount_95d88_53 ?_
  refine lv_topl (fun v0_6 ev0_6 => ?_)
  replace hF := nm_i hF ev0_6
  refine lv_lstore_n (lv' := [(0, .long v0_6)]) hx hb dJ13_bitCount_95d88_54 rfl hl (by decide) rfl (fun ls hl => ?_)
  refine lv_lload_n hx hb dJ13_bitCount_95d88_55 rfl (lv_at hl 0 rfl) ?_
  refine lv_l2i (v := (Int64.toInt32 v0_6)) hx hb dJ13_bitCount_95d88_56 rfl ?_
  refine lv_bipush (v := 127) hx hb dJ13_bitCount_95d88_57 (by decide) ?_
  refine lv_iand hx hb dJ13_bitCount_95d88_59 ?_
  obtain rfl := Option.some.inj hF
  exact W.iret (v := ((Int64.toInt32 v0_6) &&& 127)) hx hb hr (fun t ht hW => ⟨⟨_, (), rfl, rfl, by rw [ht]; exact hP, va_K.moved hW.alike hK, hD⟩, hS.F ht⟩) hS.2.2 dJ13_bitCount_95d88_60
noncomputable def f_X0_clear (zG : GS) : Option (GS) := nm ((upd zG.1 0 0, zG.2) : GS) fun zG_1 => nm ((upd zG_1.1 1 0, zG_1.2) : GS) fun zG_2 => nm ((upd zG_2.1 2 0, zG_2.2) : GS) fun zG_3 => nm ((upd zG_3.1 3 0, zG_3.2) : GS) fun zG_4 => nm ((upd zG_4.1 4 0, zG_4.2) : GS) fun zG_5 => nm ((upd zG_5.1 5 0, zG_5.2) : GS) fun zG_6 => nm ((upd zG_6.1 6 0, zG_6.2) : GS) fun zG_7 => nm ((upd zG_7.1 7 0, zG_7.2) : GS) fun zG_8 => nm ((zG_8.1, 0, zG_8.2.2) : GS) fun zG_9 => some zG_9
set_option maxHeartbeats 4000000 in
set_option maxRecDepth 100000 in
theorem c_X0_clear (l : Launch) (D : va_G) (ci : Nat → ClassId) (aG_0 : Nat) (aG_1 : Nat) (aG_2 : Nat) (aG_3 : Nat) (aG_4 : Nat) (sz : Nat) (zG : GS) (res : GS) (hF : f_X0_clear zG = some res) : CtV l yX0_clear wsX0_clear { frames := 0, cells := 0, slots := 0, locals := 0 } [.ref aG_0] D ci (wcG ci aG_0 aG_1 aG_2 aG_3 aG_4 zG) sz (wcG ci aG_0 aG_1 aG_2 aG_3 aG_4 res) := by
  refine Met.ofW (cc := cX0_clear) (maxL := 1) (ret := none) (by decide) rfl ?_
  intro p e s m args below meth c s₁ B hml hv
  obtain ⟨rfl, hsz, hP, hK, hD0⟩ := hv
  have hx := B.exec
  have hb := B.bytes
  have hr := B.returns
  have hts := atoms_spec (ws := wsX0_clear) B.pre
  have hown : s.vm.findClass RX0 = some m.cls := findClass_of_methodNamed B.named
  have hlocks := B.notSynchronized
  subst hsz
  have hD := hD0.self (sz := s.heap.size)
  generalize hAe : va_A (wcG ci aG_0 aG_1 aG_2 aG_3 aG_4 zG) s.heap.size = A at hD ⊢
  have hA : ∀ q : Nat, s.heap.size ≤ q → A q := fun q h => by rw [← hAe]; exact Or.inr h
  clear hD0 hAe
  have hl := lv_entry ([.ref aG_0]) (n := 1) (Nat.le_of_ble_eq_true rfl)
  rw [lg_entry_eq]
  generalize (lg_sl ([.ref aG_0]) ++ List.replicate (1 - (lg_sl ([.ref aG_0])).length) Slot.unset).toArray = ls at hl ⊢
  have hl : lv_has ls 1 [(0, .ref aG_0)] := hl
  have hP : va_P D vwCl (wcG ci aG_0 aG_1 aG_2 aG_3 aG_4 zG) s.heap := hP
  generalize hH0 : s.heap = H at hP ⊢
  have hS : va_S A s.heap H [] := by rw [← hH0]; exact va_S.rf
  clear hH0
  generalize ([] : List Loc) = locs at hS ⊢
  have hk_0 := hts (.fieldLink RX0 25 "HedgeWar$Ground" "width" "I") (by decide +kernel)
  have hin_RX0 : ∀ w ∈ wsX00, w ∈ wsX0_clear := by decide +kernel
  have hk_2 := hts (.fieldLink RX0 29 "HedgeWar$Ground" "height" "I") (by decide +kernel)
  have hk_3 := hts (.fieldLink RX0 32 "HedgeWar$Ground" "fields" "I") (by decide +kernel)
  have hk_4 := hts (.fieldLink RX0 35 "HedgeWar$Ground" "edges" "I") (by decide +kernel)
  have hk_5 := hts (.fieldLink RX0 38 "HedgeWar$Ground" "all" "I") (by decide +kernel)
  have hk_6 := hts (.fieldLink RX0 41 "HedgeWar$Ground" "rim" "I") (by decide +kernel)
  have hk_7 := hts (.fieldLink RX0 44 "HedgeWar$Ground" "withRight" "I") (by decide +kernel)
  have hk_8 := hts (.fieldLink RX0 47 "HedgeWar$Ground" "withBelow" "I") (by decide +kernel)
  have hk_9 := hts (.fieldLink RX0 50 "HedgeWar$Ground" "paths" "J") (by decide +kernel)
  unfold f_X0_clear at hF
  refine lv_aload_n hx hb dX0_clear_0 rfl (lv_at hl 0 rfl) ?_
  refine lv_iconst (v := 0) hx hb dX0_clear_1 (by decide) ?_
  refine va_put (D := D) (ci := 0) (v := .int 0) (ty := .int) (C := RX0) (T := TX0) (N := 13) hx hb hts hin_RX0 tyX0 tyX0_ok nmX0 hown hK hP hD hS 0 rfl rfl 0 (by decide) hk_0 (fun _ h9 => h9) rfl (by decide +kernel) rfl rfl (Nat.le_of_ble_eq_true rfl) dX0_clear_2 (fun H locs hP hD hS => ?_)
  obtain ⟨zG_1, ezG_1⟩ : ∃ y : GS, y = (upd zG.1 0 0, zG.2) := ⟨_, rfl⟩
  replace hF := nm_i hF ezG_1
  have hP : va_P D vwCl (wcG ci aG_0 aG_1 aG_2 aG_3 aG_4 zG_1) H := by rw [ezG_1]; exact hP
  have hD : va_D A (wcG ci aG_0 aG_1 aG_2 aG_3 aG_4 zG_1) := by rw [ezG_1]; exact hD
  refine lv_aload_n hx hb dX0_clear_5 rfl (lv_at hl 0 rfl) ?_
  refine lv_iconst (v := 0) hx hb dX0_clear_6 (by decide) ?_
  refine va_put (D := D) (ci := 0) (v := .int 0) (ty := .int) (C := RX0) (T := TX0) (N := 13) hx hb hts hin_RX0 tyX0 tyX0_ok nmX0 hown hK hP hD hS 0 rfl rfl 1 (by decide) hk_2 (fun _ h9 => h9) rfl (by decide +kernel) rfl rfl (Nat.le_of_ble_eq_true rfl) dX0_clear_7 (fun H locs hP hD hS => ?_)
  obtain ⟨zG_2, ezG_2⟩ : ∃ y : GS, y = (upd zG_1.1 1 0, zG_1.2) := ⟨_, rfl⟩
  replace hF := nm_i hF ezG_2
  have hP : va_P D vwCl (wcG ci aG_0 aG_1 aG_2 aG_3 aG_4 zG_2) H := by rw [ezG_2]; exact hP
  have hD : va_D A (wcG ci aG_0 aG_1 aG_2 aG_3 aG_4 zG_2) := by rw [ezG_2]; exact hD
  refine lv_aload_n hx hb dX0_clear_10 rfl (lv_at hl 0 rfl) ?_
  refine lv_iconst (v := 0) hx hb dX0_clear_11 (by decide) ?_
  refine va_put (D := D) (ci := 0) (v := .int 0) (ty := .int) (C := RX0) (T := TX0) (N := 13) hx hb hts hin_RX0 tyX0 tyX0_ok nmX0 hown hK hP hD hS 0 rfl rfl 2 (by decide) hk_3 (fun _ h9 => h9) rfl (by decide +kernel) rfl rfl (Nat.le_of_ble_eq_true rfl) dX0_clear_12 (fun H locs hP hD hS => ?_)
  obtain ⟨zG_3, ezG_3⟩ : ∃ y : GS, y = (upd zG_2.1 2 0, zG_2.2) := ⟨_, rfl⟩
  replace hF := nm_i hF ezG_3
  have hP : va_P D vwCl (wcG ci aG_0 aG_1 aG_2 aG_3 aG_4 zG_3) H := by rw [ezG_3]; exact hP
  have hD : va_D A (wcG ci aG_0 aG_1 aG_2 aG_3 aG_4 zG_3) := by rw [ezG_3]; exact hD
  refine lv_aload_n hx hb dX0_clear_15 rfl (lv_at hl 0 rfl) ?_
  refine lv_iconst (v := 0) hx hb dX0_clear_16 (by decide) ?_
  refine va_put (D := D) (ci := 0) (v := .int 0) (ty := .int) (C := RX0) (T := TX0) (N := 13) hx hb hts hin_RX0 tyX0 tyX0_ok nmX0 hown hK hP hD hS 0 rfl rfl 3 (by decide) hk_4 (fun _ h9 => h9) rfl (by decide +kernel) rfl rfl (Nat.le_of_ble_eq_true rfl) dX0_clear_17 (fun H locs hP hD hS => ?_)
  obtain ⟨zG_4, ezG_4⟩ : ∃ y : GS, y = (upd zG_3.1 3 0, zG_3.2) := ⟨_, rfl⟩
  replace hF := nm_i hF ezG_4
  have hP : va_P D vwCl (wcG ci aG_0 aG_1 aG_2 aG_3 aG_4 zG_4) H := by rw [ezG_4]; exact hP
  have hD : va_D A (wcG ci aG_0 aG_1 aG_2 aG_3 aG_4 zG_4) := by rw [ezG_4]; exact hD
  refine lv_aload_n hx hb dX0_clear_20 rfl (lv_at hl 0 rfl) ?_
  refine lv_iconst (v := 0) hx hb dX0_clear_21 (by decide) ?_
  refine va_put (D := D) (ci := 0) (v := .int 0) (ty := .int) (C := RX0) (T := TX0) (N := 13) hx hb hts hin_RX0 tyX0 tyX0_ok nmX0 hown hK hP hD hS 0 rfl rfl 4 (by decide) hk_5 (fun _ h9 => h9) rfl (by decide +kernel) rfl rfl (Nat.le_of_ble_eq_true rfl) dX0_clear_22 (fun H locs hP hD hS => ?_)
  obtain ⟨zG_5, ezG_5⟩ : ∃ y : GS, y = (upd zG_4.1 4 0, zG_4.2) := ⟨_, rfl⟩
  replace hF := nm_i hF ezG_5
  have hP : va_P D vwCl (wcG ci aG_0 aG_1 aG_2 aG_3 aG_4 zG_5) H := by rw [ezG_5]; exact hP
  have hD : va_D A (wcG ci aG_0 aG_1 aG_2 aG_3 aG_4 zG_5) := by rw [ezG_5]; exact hD
  refine lv_aload_n hx hb dX0_clear_25 rfl (lv_at hl 0 rfl) ?_
  refine lv_iconst (v := 0) hx hb dX0_clear_26 (by decide) ?_
  refine va_put (D := D) (ci := 0) (v := .int 0) (ty := .int) (C := RX0) (T := TX0) (N := 13) hx hb hts hin_RX0 tyX0 tyX0_ok nmX0 hown hK hP hD hS 0 rfl rfl 5 (by decide) hk_6 (fun _ h9 => h9) rfl (by decide +kernel) rfl rfl (Nat.le_of_ble_eq_true rfl) dX0_clear_27 (fun H locs hP hD hS => ?_)
  obtain ⟨zG_6, ezG_6⟩ : ∃ y : GS, y = (upd zG_5.1 5 0, zG_5.2) := ⟨_, rfl⟩
  replace hF := nm_i hF ezG_6
  have hP : va_P D vwCl (wcG ci aG_0 aG_1 aG_2 aG_3 aG_4 zG_6) H := by rw [ezG_6]; exact hP
  have hD : va_D A (wcG ci aG_0 aG_1 aG_2 aG_3 aG_4 zG_6) := by rw [ezG_6]; exact hD
  refine lv_aload_n hx hb dX0_clear_30 rfl (lv_at hl 0 rfl) ?_
  refine lv_iconst (v := 0) hx hb dX0_clear_31 (by decide) ?_
  refine va_put (D := D) (ci := 0) (v := .int 0) (ty := .int) (C := RX0) (T := TX0) (N := 13) hx hb hts hin_RX0 tyX0 tyX0_ok nmX0 hown hK hP hD hS 0 rfl rfl 6 (by decide) hk_7 (fun _ h9 => h9) rfl (by decide +kernel) rfl rfl (Nat.le_of_ble_eq_true rfl) dX0_clear_32 (fun H locs hP hD hS => ?_)
  obtain ⟨zG_7, ezG_7⟩ : ∃ y : GS, y = (upd zG_6.1 6 0, zG_6.2) := ⟨_, rfl⟩
  replace hF := nm_i hF ezG_7
  have hP : va_P D vwCl (wcG ci aG_0 aG_1 aG_2 aG_3 aG_4 zG_7) H := by rw [ezG_7]; exact hP
  have hD : va_D A (wcG ci aG_0 aG_1 aG_2 aG_3 aG_4 zG_7) := by rw [ezG_7]; exact hD
  refine lv_aload_n hx hb dX0_clear_35 rfl (lv_at hl 0 rfl) ?_
  refine lv_iconst (v := 0) hx hb dX0_clear_36 (by decide) ?_
  refine va_put (D := D) (ci := 0) (v := .int 0) (ty := .int) (C := RX0) (T := TX0) (N := 13) hx hb hts hin_RX0 tyX0 tyX0_ok nmX0 hown hK hP hD hS 0 rfl rfl 7 (by decide) hk_8 (fun _ h9 => h9) rfl (by decide +kernel) rfl rfl (Nat.le_of_ble_eq_true rfl) dX0_clear_37 (fun H locs hP hD hS => ?_)
  obtain ⟨zG_8, ezG_8⟩ : ∃ y : GS, y = (upd zG_7.1 7 0, zG_7.2) := ⟨_, rfl⟩
  replace hF := nm_i hF ezG_8
  have hP : va_P D vwCl (wcG ci aG_0 aG_1 aG_2 aG_3 aG_4 zG_8) H := by rw [ezG_8]; exact hP
  have hD : va_D A (wcG ci aG_0 aG_1 aG_2 aG_3 aG_4 zG_8) := by rw [ezG_8]; exact hD
  refine lv_aload_n hx hb dX0_clear_40 rfl (lv_at hl 0 rfl) ?_
  refine lv_lconst (v := 0) hx hb dX0_clear_41 (by decide) ?_
  refine va_put (D := D) (ci := 0) (v := .long 0) (ty := .long) (C := RX0) (T := TX0) (N := 13) hx hb hts hin_RX0 tyX0 tyX0_ok nmX0 hown hK hP hD hS 0 rfl rfl 8 (by decide) hk_9 (fun _ h9 => h9) rfl (by decide +kernel) rfl rfl (Nat.le_of_ble_eq_true rfl) dX0_clear_42 (fun H locs hP hD hS => ?_)
  obtain ⟨zG_9, ezG_9⟩ : ∃ y : GS, y = (zG_8.1, 0, zG_8.2.2) := ⟨_, rfl⟩
  replace hF := nm_i hF ezG_9
  have hP : va_P D vwCl (wcG ci aG_0 aG_1 aG_2 aG_3 aG_4 zG_9) H := by rw [ezG_9]; exact hP
  have hD : va_D A (wcG ci aG_0 aG_1 aG_2 aG_3 aG_4 zG_9) := by rw [ezG_9]; exact hD
  obtain rfl := Option.some.inj hF
  exact W.vret hx hb hr (fun t ht hW => ⟨⟨(), rfl, trivial, by rw [ht]; exact hP, va_K.moved hW.alike hK, hD⟩, hS.F ht⟩) hS.2.2 dX0_clear_45
noncomputable def f_X0_copyFrom (zG : GS) (zG2 : GS) : Option (GS) := nm (zG2.1 0) fun f0_1 => nm ((upd zG.1 0 f0_1, zG.2) : GS) fun zG_2 => nm (zG2.1 1) fun f1_3 => nm ((upd zG_2.1 1 f1_3, zG_2.2) : GS) fun zG_4 => nm (zG2.1 2) fun f2_5 => nm ((upd zG_4.1 2 f2_5, zG_4.2) : GS) fun zG_6 => nm (zG2.1 3) fun f3_7 => nm ((upd zG_6.1 3 f3_7, zG_6.2) : GS) fun zG_8 => nm (zG2.1 4) fun f4_9 => nm ((upd zG_8.1 4 f4_9, zG_8.2) : GS) fun zG_10 => nm (zG2.1 5) fun f5_11 => nm ((upd zG_10.1 5 f5_11, zG_10.2) : GS) fun zG_12 => nm (zG2.1 6) fun f6_13 => nm ((upd zG_12.1 6 f6_13, zG_12.2) : GS) fun zG_14 => nm (zG2.1 7) fun f7_15 => nm ((upd zG_14.1 7 f7_15, zG_14.2) : GS) fun zG_16 => nm zG2.2.1 fun f8_17 => nm ((zG_16.1, f8_17, zG_16.2.2) : GS) fun zG_18 => nm ((zG_18.1, zG_18.2.1, va_up zG_18.2.2.1 9 (va_cpy (zG2.2.2.1 9) (zG_18.2.2.1 9) 0 0 25), zG_18.2.2.2) : GS) fun zG_19 => nm ((zG_19.1, zG_19.2.1, va_up zG_19.2.2.1 10 (va_cpy (zG2.2.2.1 10) (zG_19.2.2.1 10) 0 0 40), zG_19.2.2.2) : GS) fun zG_20 => nm ((zG_20.1, zG_20.2.1, va_up zG_20.2.2.1 11 (va_cpy (zG2.2.2.1 11) (zG_20.2.2.1 11) 0 0 40), zG_20.2.2.2) : GS) fun zG_21 => nm ((zG_21.1, zG_21.2.1, zG_21.2.2.1, (va_cpy zG2.2.2.2 zG_21.2.2.2 0 0 40)) : GS) fun zG_22 => some zG_22
set_option maxHeartbeats 4000000 in
set_option maxRecDepth 100000 in
theorem c_X0_copyFrom (l : Launch) (D : va_G) (ci : Nat → ClassId) (aG_0 : Nat) (aG_1 : Nat) (aG_2 : Nat) (aG_3 : Nat) (aG_4 : Nat) (aG2_0 : Nat) (aG2_1 : Nat) (aG2_2 : Nat) (aG2_3 : Nat) (aG2_4 : Nat) (sz : Nat) (zG : GS) (zG2 : GS) (res : GS) (hF : f_X0_copyFrom zG zG2 = some res) : CtV l yX0_copyFrom wsX0_copyFrom { frames := 1, cells := 0, slots := 0, locals := 40 } [.ref aG_0, .ref aG2_0] D ci ((wcG ci aG_0 aG_1 aG_2 aG_3 aG_4 zG) ++ (wcG ci aG2_0 aG2_1 aG2_2 aG2_3 aG2_4 zG2)) sz ((wcG ci aG_0 aG_1 aG_2 aG_3 aG_4 res) ++ (wcG ci aG2_0 aG2_1 aG2_2 aG2_3 aG2_4 zG2)) := by
  refine Met.ofW (cc := cX0_copyFrom) (maxL := 2) (ret := none) (by decide) rfl ?_
  intro p e s m args below meth c s₁ B hml hv
  obtain ⟨rfl, hsz, hP, hK, hD0⟩ := hv
  have hx := B.exec
  have hb := B.bytes
  have hr := B.returns
  have hts := atoms_spec (ws := wsX0_copyFrom) B.pre
  have hown : s.vm.findClass RX0 = some m.cls := findClass_of_methodNamed B.named
  have hlocks := B.notSynchronized
  subst hsz
  have hD := hD0.self (sz := s.heap.size)
  generalize hAe : va_A ((wcG ci aG_0 aG_1 aG_2 aG_3 aG_4 zG) ++ (wcG ci aG2_0 aG2_1 aG2_2 aG2_3 aG2_4 zG2)) s.heap.size = A at hD ⊢
  have hA : ∀ q : Nat, s.heap.size ≤ q → A q := fun q h => by rw [← hAe]; exact Or.inr h
  clear hD0 hAe
  have hl := lv_entry ([.ref aG_0, .ref aG2_0]) (n := 2) (Nat.le_of_ble_eq_true rfl)
  rw [lg_entry_eq]
  generalize (lg_sl ([.ref aG_0, .ref aG2_0]) ++ List.replicate (2 - (lg_sl ([.ref aG_0, .ref aG2_0])).length) Slot.unset).toArray = ls at hl ⊢
  have hl : lv_has ls 2 [(0, .ref aG_0), (1, .ref aG2_0)] := hl
  have hP : va_P D vwCl ((wcG ci aG_0 aG_1 aG_2 aG_3 aG_4 zG) ++ (wcG ci aG2_0 aG2_1 aG2_2 aG2_3 aG2_4 zG2)) s.heap := hP
  generalize hH0 : s.heap = H at hP ⊢
  have hS : va_S A s.heap H [] := by rw [← hH0]; exact va_S.rf
  clear hH0
  generalize ([] : List Loc) = locs at hS ⊢
  have hk_0 := hts (.fieldLink RX0 25 "HedgeWar$Ground" "width" "I") (by decide +kernel)
  have hin_RX0 : ∀ w ∈ wsX00, w ∈ wsX0_copyFrom := by decide +kernel
  have hk_2 := hts (.fieldLink RX0 29 "HedgeWar$Ground" "height" "I") (by decide +kernel)
  have hk_3 := hts (.fieldLink RX0 32 "HedgeWar$Ground" "fields" "I") (by decide +kernel)
  have hk_4 := hts (.fieldLink RX0 35 "HedgeWar$Ground" "edges" "I") (by decide +kernel)
  have hk_5 := hts (.fieldLink RX0 38 "HedgeWar$Ground" "all" "I") (by decide +kernel)
  have hk_6 := hts (.fieldLink RX0 41 "HedgeWar$Ground" "rim" "I") (by decide +kernel)
  have hk_7 := hts (.fieldLink RX0 44 "HedgeWar$Ground" "withRight" "I") (by decide +kernel)
  have hk_8 := hts (.fieldLink RX0 47 "HedgeWar$Ground" "withBelow" "I") (by decide +kernel)
  have hk_9 := hts (.fieldLink RX0 50 "HedgeWar$Ground" "paths" "J") (by decide +kernel)
  have hk_10 := hts (.fieldLink RX0 9 "HedgeWar$Ground" "soils" "[I") (by decide +kernel)
  have hk_11 := hts (.methodLink RX0 54 arraycopyName) (by decide +kernel)
  have hk_12 := hts (.native arraycopyName) (by decide +kernel)
  have hk_13 := hts (.static arraycopyName) (by decide +kernel)
  have hk_14 := hts (.initialized "java/lang/System") (by decide +kernel)
  have hk_15 := hts (.fieldLink RX0 15 "HedgeWar$Ground" "lesser" "[I") (by decide +kernel)
  have hk_16 := hts (.fieldLink RX0 18 "HedgeWar$Ground" "greater" "[I") (by decide +kernel)
  have hk_17 := hts (.fieldLink RX0 21 "HedgeWar$Ground" "places" "[J") (by decide +kernel)
  unfold f_X0_copyFrom at hF
  refine lv_aload_n hx hb dX0_copyFrom_0 rfl (lv_at hl 0 rfl) ?_
  refine lv_aload_n hx hb dX0_copyFrom_1 rfl (lv_at hl 1 rfl) ?_
  refine va_get (D := D) (ci := 0) (v := .int (zG2.1 0)) (C := RX0) (T := TX0) (N := 13) hx hb hts hin_RX0 hown hK hP 5 rfl rfl 0 (by decide) hk_0 (fun _ h9 => h9) rfl dX0_copyFrom_2 ?_
  refine lv_topi (fun f0_1 ef0_1 => ?_)
  replace hF := nm_i hF ef0_1
  refine va_put (D := D) (ci := 0) (v := .int f0_1) (ty := .int) (C := RX0) (T := TX0) (N := 13) hx hb hts hin_RX0 tyX0 tyX0_ok nmX0 hown hK hP hD hS 0 rfl rfl 0 (by decide) hk_0 (fun _ h9 => h9) rfl (by decide +kernel) rfl rfl (Nat.le_of_ble_eq_true rfl) dX0_copyFrom_5 (fun H locs hP hD hS => ?_)
  obtain ⟨zG_2, ezG_2⟩ : ∃ y : GS, y = (upd zG.1 0 f0_1, zG.2) := ⟨_, rfl⟩
  replace hF := nm_i hF ezG_2
  have hP : va_P D vwCl ((wcG ci aG_0 aG_1 aG_2 aG_3 aG_4 zG_2) ++ (wcG ci aG2_0 aG2_1 aG2_2 aG2_3 aG2_4 zG2)) H := by rw [ezG_2]; exact hP
  have hD : va_D A ((wcG ci aG_0 aG_1 aG_2 aG_3 aG_4 zG_2) ++ (wcG ci aG2_0 aG2_1 aG2_2 aG2_3 aG2_4 zG2)) := by rw [ezG_2]; exact hD
  refine lv_aload_n hx hb dX0_copyFrom_8 rfl (lv_at hl 0 rfl) ?_
  refine lv_aload_n hx hb dX0_copyFrom_9 rfl (lv_at hl 1 rfl) ?_
  refine va_get (D := D) (ci := 0) (v := .int (zG2.1 1)) (C := RX0) (T := TX0) (N := 13) hx hb hts hin_RX0 hown hK hP 5 rfl rfl 1 (by decide) hk_2 (fun _ h9 => h9) rfl dX0_copyFrom_10 ?_
  refine lv_topi (fun f1_3 ef1_3 => ?_)
  replace hF := nm_i hF ef1_3
  refine va_put (D := D) (ci := 0) (v := .int f1_3) (ty := .int) (C := RX0) (T := TX0) (N := 13) hx hb hts hin_RX0 tyX0 tyX0_ok nmX0 hown hK hP hD hS 0 rfl rfl 1 (by decide) hk_2 (fun _ h9 => h9) rfl (by decide +kernel) rfl rfl (Nat.le_of_ble_eq_true rfl) dX0_copyFrom_13 (fun H locs hP hD hS => ?_)
  obtain ⟨zG_4, ezG_4⟩ : ∃ y : GS, y = (upd zG_2.1 1 f1_3, zG_2.2) := ⟨_, rfl⟩
  replace hF := nm_i hF ezG_4
  have hP : va_P D vwCl ((wcG ci aG_0 aG_1 aG_2 aG_3 aG_4 zG_4) ++ (wcG ci aG2_0 aG2_1 aG2_2 aG2_3 aG2_4 zG2)) H := by rw [ezG_4]; exact hP
  have hD : va_D A ((wcG ci aG_0 aG_1 aG_2 aG_3 aG_4 zG_4) ++ (wcG ci aG2_0 aG2_1 aG2_2 aG2_3 aG2_4 zG2)) := by rw [ezG_4]; exact hD
  refine lv_aload_n hx hb dX0_copyFrom_16 rfl (lv_at hl 0 rfl) ?_
  refine lv_aload_n hx hb dX0_copyFrom_17 rfl (lv_at hl 1 rfl) ?_
  refine va_get (D := D) (ci := 0) (v := .int (zG2.1 2)) (C := RX0) (T := TX0) (N := 13) hx hb hts hin_RX0 hown hK hP 5 rfl rfl 2 (by decide) hk_3 (fun _ h9 => h9) rfl dX0_copyFrom_18 ?_
  refine lv_topi (fun f2_5 ef2_5 => ?_)
  replace hF := nm_i hF ef2_5
  refine va_put (D := D) (ci := 0) (v := .int f2_5) (ty := .int) (C := RX0) (T := TX0) (N := 13) hx hb hts hin_RX0 tyX0 tyX0_ok nmX0 hown hK hP hD hS 0 rfl rfl 2 (by decide) hk_3 (fun _ h9 => h9) rfl (by decide +kernel) rfl rfl (Nat.le_of_ble_eq_true rfl) dX0_copyFrom_21 (fun H locs hP hD hS => ?_)
  obtain ⟨zG_6, ezG_6⟩ : ∃ y : GS, y = (upd zG_4.1 2 f2_5, zG_4.2) := ⟨_, rfl⟩
  replace hF := nm_i hF ezG_6
  have hP : va_P D vwCl ((wcG ci aG_0 aG_1 aG_2 aG_3 aG_4 zG_6) ++ (wcG ci aG2_0 aG2_1 aG2_2 aG2_3 aG2_4 zG2)) H := by rw [ezG_6]; exact hP
  have hD : va_D A ((wcG ci aG_0 aG_1 aG_2 aG_3 aG_4 zG_6) ++ (wcG ci aG2_0 aG2_1 aG2_2 aG2_3 aG2_4 zG2)) := by rw [ezG_6]; exact hD
  refine lv_aload_n hx hb dX0_copyFrom_24 rfl (lv_at hl 0 rfl) ?_
  refine lv_aload_n hx hb dX0_copyFrom_25 rfl (lv_at hl 1 rfl) ?_
  refine va_get (D := D) (ci := 0) (v := .int (zG2.1 3)) (C := RX0) (T := TX0) (N := 13) hx hb hts hin_RX0 hown hK hP 5 rfl rfl 3 (by decide) hk_4 (fun _ h9 => h9) rfl dX0_copyFrom_26 ?_
  refine lv_topi (fun f3_7 ef3_7 => ?_)
  replace hF := nm_i hF ef3_7
  refine va_put (D := D) (ci := 0) (v := .int f3_7) (ty := .int) (C := RX0) (T := TX0) (N := 13) hx hb hts hin_RX0 tyX0 tyX0_ok nmX0 hown hK hP hD hS 0 rfl rfl 3 (by decide) hk_4 (fun _ h9 => h9) rfl (by decide +kernel) rfl rfl (Nat.le_of_ble_eq_true rfl) dX0_copyFrom_29 (fun H locs hP hD hS => ?_)
  obtain ⟨zG_8, ezG_8⟩ : ∃ y : GS, y = (upd zG_6.1 3 f3_7, zG_6.2) := ⟨_, rfl⟩
  replace hF := nm_i hF ezG_8
  have hP : va_P D vwCl ((wcG ci aG_0 aG_1 aG_2 aG_3 aG_4 zG_8) ++ (wcG ci aG2_0 aG2_1 aG2_2 aG2_3 aG2_4 zG2)) H := by rw [ezG_8]; exact hP
  have hD : va_D A ((wcG ci aG_0 aG_1 aG_2 aG_3 aG_4 zG_8) ++ (wcG ci aG2_0 aG2_1 aG2_2 aG2_3 aG2_4 zG2)) := by rw [ezG_8]; exact hD
  refine lv_aload_n hx hb dX0_copyFrom_32 rfl (lv_at hl 0 rfl) ?_
  refine lv_aload_n hx hb dX0_copyFrom_33 rfl (lv_at hl 1 rfl) ?_
  refine va_get (D := D) (ci := 0) (v := .int (zG2.1 4)) (C := RX0) (T := TX0) (N := 13) hx hb hts hin_RX0 hown hK hP 5 rfl rfl 4 (by decide) hk_5 (fun _ h9 => h9) rfl dX0_copyFrom_34 ?_
  refine lv_topi (fun f4_9 ef4_9 => ?_)
  replace hF := nm_i hF ef4_9
  refine va_put (D := D) (ci := 0) (v := .int f4_9) (ty := .int) (C := RX0) (T := TX0) (N := 13) hx hb hts hin_RX0 tyX0 tyX0_ok nmX0 hown hK hP hD hS 0 rfl rfl 4 (by decide) hk_5 (fun _ h9 => h9) rfl (by decide +kernel) rfl rfl (Nat.le_of_ble_eq_true rfl) dX0_copyFrom_37 (fun H locs hP hD hS => ?_)
  obtain ⟨zG_10, ezG_10⟩ : ∃ y : GS, y = (upd zG_8.1 4 f4_9, zG_8.2) := ⟨_, rfl⟩
  replace hF := nm_i hF ezG_10
  have hP : va_P D vwCl ((wcG ci aG_0 aG_1 aG_2 aG_3 aG_4 zG_10) ++ (wcG ci aG2_0 aG2_1 aG2_2 aG2_3 aG2_4 zG2)) H := by rw [ezG_10]; exact hP
  have hD : va_D A ((wcG ci aG_0 aG_1 aG_2 aG_3 aG_4 zG_10) ++ (wcG ci aG2_0 aG2_1 aG2_2 aG2_3 aG2_4 zG2)) := by rw [ezG_10]; exact hD
  refine lv_aload_n hx hb dX0_copyFrom_40 rfl (lv_at hl 0 rfl) ?_
  refine lv_aload_n hx hb dX0_copyFrom_41 rfl (lv_at hl 1 rfl) ?_
  refine va_get (D := D) (ci := 0) (v := .int (zG2.1 5)) (C := RX0) (T := TX0) (N := 13) hx hb hts hin_RX0 hown hK hP 5 rfl rfl 5 (by decide) hk_6 (fun _ h9 => h9) rfl dX0_copyFrom_42 ?_
  refine lv_topi (fun f5_11 ef5_11 => ?_)
  replace hF := nm_i hF ef5_11
  refine va_put (D := D) (ci := 0) (v := .int f5_11) (ty := .int) (C := RX0) (T := TX0) (N := 13) hx hb hts hin_RX0 tyX0 tyX0_ok nmX0 hown hK hP hD hS 0 rfl rfl 5 (by decide) hk_6 (fun _ h9 => h9) rfl (by decide +kernel) rfl rfl (Nat.le_of_ble_eq_true rfl) dX0_copyFrom_45 (fun H locs hP hD hS => ?_)
  obtain ⟨zG_12, ezG_12⟩ : ∃ y : GS, y = (upd zG_10.1 5 f5_11, zG_10.2) := ⟨_, rfl⟩
  replace hF := nm_i hF ezG_12
  have hP : va_P D vwCl ((wcG ci aG_0 aG_1 aG_2 aG_3 aG_4 zG_12) ++ (wcG ci aG2_0 aG2_1 aG2_2 aG2_3 aG2_4 zG2)) H := by rw [ezG_12]; exact hP
  have hD : va_D A ((wcG ci aG_0 aG_1 aG_2 aG_3 aG_4 zG_12) ++ (wcG ci aG2_0 aG2_1 aG2_2 aG2_3 aG2_4 zG2)) := by rw [ezG_12]; exact hD
  refine lv_aload_n hx hb dX0_copyFrom_48 rfl (lv_at hl 0 rfl) ?_
  refine lv_aload_n hx hb dX0_copyFrom_49 rfl (lv_at hl 1 rfl) ?_
  refine va_get (D := D) (ci := 0) (v := .int (zG2.1 6)) (C := RX0) (T := TX0) (N := 13) hx hb hts hin_RX0 hown hK hP 5 rfl rfl 6 (by decide) hk_7 (fun _ h9 => h9) rfl dX0_copyFrom_50 ?_
  refine lv_topi (fun f6_13 ef6_13 => ?_)
  replace hF := nm_i hF ef6_13
  refine va_put (D := D) (ci := 0) (v := .int f6_13) (ty := .int) (C := RX0) (T := TX0) (N := 13) hx hb hts hin_RX0 tyX0 tyX0_ok nmX0 hown hK hP hD hS 0 rfl rfl 6 (by decide) hk_7 (fun _ h9 => h9) rfl (by decide +kernel) rfl rfl (Nat.le_of_ble_eq_true rfl) dX0_copyFrom_53 (fun H locs hP hD hS => ?_)
  obtain ⟨zG_14, ezG_14⟩ : ∃ y : GS, y = (upd zG_12.1 6 f6_13, zG_12.2) := ⟨_, rfl⟩
  replace hF := nm_i hF ezG_14
  have hP : va_P D vwCl ((wcG ci aG_0 aG_1 aG_2 aG_3 aG_4 zG_14) ++ (wcG ci aG2_0 aG2_1 aG2_2 aG2_3 aG2_4 zG2)) H := by rw [ezG_14]; exact hP
  have hD : va_D A ((wcG ci aG_0 aG_1 aG_2 aG_3 aG_4 zG_14) ++ (wcG ci aG2_0 aG2_1 aG2_2 aG2_3 aG2_4 zG2)) := by rw [ezG_14]; exact hD
  refine lv_aload_n hx hb dX0_copyFrom_56 rfl (lv_at hl 0 rfl) ?_
  refine lv_aload_n hx hb dX0_copyFrom_57 rfl (lv_at hl 1 rfl) ?_
  refine va_get (D := D) (ci := 0) (v := .int (zG2.1 7)) (C := RX0) (T := TX0) (N := 13) hx hb hts hin_RX0 hown hK hP 5 rfl rfl 7 (by decide) hk_8 (fun _ h9 => h9) rfl dX0_copyFrom_58 ?_
  refine lv_topi (fun f7_15 ef7_15 => ?_)
  replace hF := nm_i hF ef7_15
  refine va_put (D := D) (ci := 0) (v := .int f7_15) (ty := .int) (C := RX0) (T := TX0) (N := 13) hx hb hts hin_RX0 tyX0 tyX0_ok nmX0 hown hK hP hD hS 0 rfl rfl 7 (by decide) hk_8 (fun _ h9 => h9) rfl (by decide +kernel) rfl rfl (Nat.le_of_ble_eq_true rfl) dX0_copyFrom_61 (fun H locs hP hD hS => ?_)
  obtain ⟨zG_16, ezG_16⟩ : ∃ y : GS, y = (upd zG_14.1 7 f7_15, zG_14.2) := ⟨_, rfl⟩
  replace hF := nm_i hF ezG_16
  have hP : va_P D vwCl ((wcG ci aG_0 aG_1 aG_2 aG_3 aG_4 zG_16) ++ (wcG ci aG2_0 aG2_1 aG2_2 aG2_3 aG2_4 zG2)) H := by rw [ezG_16]; exact hP
  have hD : va_D A ((wcG ci aG_0 aG_1 aG_2 aG_3 aG_4 zG_16) ++ (wcG ci aG2_0 aG2_1 aG2_2 aG2_3 aG2_4 zG2)) := by rw [ezG_16]; exact hD
  refine lv_aload_n hx hb dX0_copyFrom_64 rfl (lv_at hl 0 rfl) ?_
  refine lv_aload_n hx hb dX0_copyFrom_65 rfl (lv_at hl 1 rfl) ?_
  refine va_get (D := D) (ci := 0) (v := .long zG2.2.1) (C := RX0) (T := TX0) (N := 13) hx hb hts hin_RX0 hown hK hP 5 rfl rfl 8 (by decide) hk_9 (fun _ h9 => h9) rfl dX0_copyFrom_66 ?_
  refine lv_topl (fun f8_17 ef8_17 => ?_)
  replace hF := nm_i hF ef8_17
  refine va_put (D := D) (ci := 0) (v := .long f8_17) (ty := .long) (C := RX0) (T := TX0) (N := 13) hx hb hts hin_RX0 tyX0 tyX0_ok nmX0 hown hK hP hD hS 0 rfl rfl 8 (by decide) hk_9 (fun _ h9 => h9) rfl (by decide +kernel) rfl rfl (Nat.le_of_ble_eq_true rfl) dX0_copyFrom_69 (fun H locs hP hD hS => ?_)
  obtain ⟨zG_18, ezG_18⟩ : ∃ y : GS, y = (zG_16.1, f8_17, zG_16.2.2) := ⟨_, rfl⟩
  replace hF := nm_i hF ezG_18
  have hP : va_P D vwCl ((wcG ci aG_0 aG_1 aG_2 aG_3 aG_4 zG_18) ++ (wcG ci aG2_0 aG2_1 aG2_2 aG2_3 aG2_4 zG2)) H := by rw [ezG_18]; exact hP
  have hD : va_D A ((wcG ci aG_0 aG_1 aG_2 aG_3 aG_4 zG_18) ++ (wcG ci aG2_0 aG2_1 aG2_2 aG2_3 aG2_4 zG2)) := by rw [ezG_18]; exact hD
  refine lv_aload_n hx hb dX0_copyFrom_72 rfl (lv_at hl 1 rfl) ?_
  refine va_get (D := D) (ci := 0) (v := .ref aG2_1) (C := RX0) (T := TX0) (N := 13) hx hb hts hin_RX0 hown hK hP 5 rfl rfl 9 (by decide) hk_10 (fun _ h9 => h9) rfl dX0_copyFrom_73 ?_
  refine lv_iconst (v := 0) hx hb dX0_copyFrom_76 (by decide) ?_
  refine lv_aload_n hx hb dX0_copyFrom_77 rfl (lv_at hl 0 rfl) ?_
  refine va_get (D := D) (ci := 0) (v := .ref aG_1) (C := RX0) (T := TX0) (N := 13) hx hb hts hin_RX0 hown hK hP 0 rfl rfl 9 (by decide) hk_10 (fun _ h9 => h9) rfl dX0_copyFrom_78 ?_
  refine lv_iconst (v := 0) hx hb dX0_copyFrom_81 (by decide) ?_
  refine lv_bipush (v := 25) hx hb dX0_copyFrom_82 (by decide) ?_
  refine va_copyi hx hb (hml.trans hl.1.symm) hown hk_11 hk_12 hk_13 hk_14 hK hP hD hS 6 1 0 0 rfl rfl rfl rfl rfl (sp := 0) (dp := 0) (n := 25) (by decide) (by decide) (by decide) (by decide) (by decide) (fun _ _ => rfl) (Nat.le_of_ble_eq_true rfl) (by decide) dX0_copyFrom_84 (fun H locs hP hD hS => ?_)
  obtain ⟨zG_19, ezG_19⟩ : ∃ y : GS, y = (zG_18.1, zG_18.2.1, va_up zG_18.2.2.1 9 (va_cpy (zG2.2.2.1 9) (zG_18.2.2.1 9) 0 0 25), zG_18.2.2.2) := ⟨_, rfl⟩
  replace hF := nm_i hF ezG_19
  have hP : va_P D vwCl ((wcG ci aG_0 aG_1 aG_2 aG_3 aG_4 zG_19) ++ (wcG ci aG2_0 aG2_1 aG2_2 aG2_3 aG2_4 zG2)) H := by rw [ezG_19]; exact hP
  have hD : va_D A ((wcG ci aG_0 aG_1 aG_2 aG_3 aG_4 zG_19) ++ (wcG ci aG2_0 aG2_1 aG2_2 aG2_3 aG2_4 zG2)) := by rw [ezG_19]; exact hD
  refine lv_aload_n hx hb dX0_copyFrom_87 rfl (lv_at hl 1 rfl) ?_
  refine va_get (D := D) (ci := 0) (v := .ref aG2_2) (C := RX0) (T := TX0) (N := 13) hx hb hts hin_RX0 hown hK hP 5 rfl rfl 10 (by decide) hk_15 (fun _ h9 => h9) rfl dX0_copyFrom_88 ?_
  refine lv_iconst (v := 0) hx hb dX0_copyFrom_91 (by decide) ?_
  refine lv_aload_n hx hb dX0_copyFrom_92 rfl (lv_at hl 0 rfl) ?_
  refine va_get (D := D) (ci := 0) (v := .ref aG_2) (C := RX0) (T := TX0) (N := 13) hx hb hts hin_RX0 hown hK hP 0 rfl rfl 10 (by decide) hk_15 (fun _ h9 => h9) rfl dX0_copyFrom_93 ?_
  refine lv_iconst (v := 0) hx hb dX0_copyFrom_96 (by decide) ?_
  refine lv_bipush (v := 40) hx hb dX0_copyFrom_97 (by decide) ?_
  refine va_copyi hx hb (hml.trans hl.1.symm) hown hk_11 hk_12 hk_13 hk_14 hK hP hD hS 7 2 0 0 rfl rfl rfl rfl rfl (sp := 0) (dp := 0) (n := 40) (by decide) (by decide) (by decide) (by decide) (by decide) (fun _ _ => rfl) (Nat.le_of_ble_eq_true rfl) (by decide) dX0_copyFrom_99 (fun H locs hP hD hS => ?_)
  obtain ⟨zG_20, ezG_20⟩ : ∃ y : GS, y = (zG_19.1, zG_19.2.1, va_up zG_19.2.2.1 10 (va_cpy (zG2.2.2.1 10) (zG_19.2.2.1 10) 0 0 40), zG_19.2.2.2) := ⟨_, rfl⟩
  replace hF := nm_i hF ezG_20
  have hP : va_P D vwCl ((wcG ci aG_0 aG_1 aG_2 aG_3 aG_4 zG_20) ++ (wcG ci aG2_0 aG2_1 aG2_2 aG2_3 aG2_4 zG2)) H := by rw [ezG_20]; exact hP
  have hD : va_D A ((wcG ci aG_0 aG_1 aG_2 aG_3 aG_4 zG_20) ++ (wcG ci aG2_0 aG2_1 aG2_2 aG2_3 aG2_4 zG2)) := by rw [ezG_20]; exact hD
  refine lv_aload_n hx hb dX0_copyFrom_102 rfl (lv_at hl 1 rfl) ?_
  refine va_get (D := D) (ci := 0) (v := .ref aG2_3) (C := RX0) (T := TX0) (N := 13) hx hb hts hin_RX0 hown hK hP 5 rfl rfl 11 (by decide) hk_16 (fun _ h9 => h9) rfl dX0_copyFrom_103 ?_
  refine lv_iconst (v := 0) hx hb dX0_copyFrom_106 (by decide) ?_
  refine lv_aload_n hx hb dX0_copyFrom_107 rfl (lv_at hl 0 rfl) ?_
  refine va_get (D := D) (ci := 0) (v := .ref aG_3) (C := RX0) (T := TX0) (N := 13) hx hb hts hin_RX0 hown hK hP 0 rfl rfl 11 (by decide) hk_16 (fun _ h9 => h9) rfl dX0_copyFrom_108 ?_
  refine lv_iconst (v := 0) hx hb dX0_copyFrom_111 (by decide) ?_
  refine lv_bipush (v := 40) hx hb dX0_copyFrom_112 (by decide) ?_
  refine va_copyi hx hb (hml.trans hl.1.symm) hown hk_11 hk_12 hk_13 hk_14 hK hP hD hS 8 3 0 0 rfl rfl rfl rfl rfl (sp := 0) (dp := 0) (n := 40) (by decide) (by decide) (by decide) (by decide) (by decide) (fun _ _ => rfl) (Nat.le_of_ble_eq_true rfl) (by decide) dX0_copyFrom_114 (fun H locs hP hD hS => ?_)
  obtain ⟨zG_21, ezG_21⟩ : ∃ y : GS, y = (zG_20.1, zG_20.2.1, va_up zG_20.2.2.1 11 (va_cpy (zG2.2.2.1 11) (zG_20.2.2.1 11) 0 0 40), zG_20.2.2.2) := ⟨_, rfl⟩
  replace hF := nm_i hF ezG_21
  have hP : va_P D vwCl ((wcG ci aG_0 aG_1 aG_2 aG_3 aG_4 zG_21) ++ (wcG ci aG2_0 aG2_1 aG2_2 aG2_3 aG2_4 zG2)) H := by rw [ezG_21]; exact hP
  have hD : va_D A ((wcG ci aG_0 aG_1 aG_2 aG_3 aG_4 zG_21) ++ (wcG ci aG2_0 aG2_1 aG2_2 aG2_3 aG2_4 zG2)) := by rw [ezG_21]; exact hD
  refine lv_aload_n hx hb dX0_copyFrom_117 rfl (lv_at hl 1 rfl) ?_
  refine va_get (D := D) (ci := 0) (v := .ref aG2_4) (C := RX0) (T := TX0) (N := 13) hx hb hts hin_RX0 hown hK hP 5 rfl rfl 12 (by decide) hk_17 (fun _ h9 => h9) rfl dX0_copyFrom_118 ?_
  refine lv_iconst (v := 0) hx hb dX0_copyFrom_121 (by decide) ?_
  refine lv_aload_n hx hb dX0_copyFrom_122 rfl (lv_at hl 0 rfl) ?_
  refine va_get (D := D) (ci := 0) (v := .ref aG_4) (C := RX0) (T := TX0) (N := 13) hx hb hts hin_RX0 hown hK hP 0 rfl rfl 12 (by decide) hk_17 (fun _ h9 => h9) rfl dX0_copyFrom_123 ?_
  refine lv_iconst (v := 0) hx hb dX0_copyFrom_126 (by decide) ?_
  refine lv_bipush (v := 40) hx hb dX0_copyFrom_127 (by decide) ?_
  refine va_copyl hx hb (hml.trans hl.1.symm) hown hk_11 hk_12 hk_13 hk_14 hK hP hD hS 9 4 1 1 rfl rfl rfl rfl rfl (sp := 0) (dp := 0) (n := 40) (by decide) (by decide) (by decide) (by decide) (by decide) (fun _ _ => rfl) (Nat.le_of_ble_eq_true rfl) (by decide) dX0_copyFrom_129 (fun H locs hP hD hS => ?_)
  obtain ⟨zG_22, ezG_22⟩ : ∃ y : GS, y = (zG_21.1, zG_21.2.1, zG_21.2.2.1, (va_cpy zG2.2.2.2 zG_21.2.2.2 0 0 40)) := ⟨_, rfl⟩
  replace hF := nm_i hF ezG_22
  have hP : va_P D vwCl ((wcG ci aG_0 aG_1 aG_2 aG_3 aG_4 zG_22) ++ (wcG ci aG2_0 aG2_1 aG2_2 aG2_3 aG2_4 zG2)) H := by rw [ezG_22]; exact hP
  have hD : va_D A ((wcG ci aG_0 aG_1 aG_2 aG_3 aG_4 zG_22) ++ (wcG ci aG2_0 aG2_1 aG2_2 aG2_3 aG2_4 zG2)) := by rw [ezG_22]; exact hD
  obtain rfl := Option.some.inj hF
  exact W.vret hx hb hr (fun t ht hW => ⟨⟨(), rfl, trivial, by rw [ht]; exact hP, va_K.moved hW.alike hK, hD⟩, hS.F ht⟩) hS.2.2 dX0_copyFrom_132
noncomputable def f_X0_layField (zG : GS) (p1 : Int32) (p2 : Int32) : Option (GS) := nm ((1 : Int32) <<< (((p2 * (zG.1 0)) + p1) &&& 31)) fun v3_1 => (if p1 = 0 then (nm ((zG.1 5) ||| v3_1) fun f5_5 => nm ((upd zG.1 5 f5_5, zG.2) : GS) fun zG_6 => some (zG_6 : GS)) else (if p2 = 0 then (nm ((zG.1 5) ||| v3_1) fun f5_8 => nm ((upd zG.1 5 f5_8, zG.2) : GS) fun zG_9 => some (zG_9 : GS)) else (if p1 = ((zG.1 0) - 1) then (nm ((zG.1 5) ||| v3_1) fun f5_11 => nm ((upd zG.1 5 f5_11, zG.2) : GS) fun zG_12 => some (zG_12 : GS)) else (if p2 = ((zG.1 1) - 1) then (nm ((zG.1 5) ||| v3_1) fun f5_14 => nm ((upd zG.1 5 f5_14, zG.2) : GS) fun zG_15 => some (zG_15 : GS)) else (some (zG : GS)))))).bind fun zG_2 => (if ((zG_2.1 0) - 1) ≤ p1 then (some (zG_2 : GS)) else (nm ((zG_2.1 6) ||| v3_1) fun f6_20 => nm ((upd zG_2.1 6 f6_20, zG_2.2) : GS) fun zG_21 => some (zG_21 : GS))).bind fun zG_17 => if ((zG_17.1 1) - 1) ≤ p2 then (some zG_17) else (nm ((zG_17.1 7) ||| v3_1) fun f7_24 => nm ((upd zG_17.1 7 f7_24, zG_17.2) : GS) fun zG_25 => some zG_25)
set_option maxHeartbeats 4000000 in
set_option maxRecDepth 100000 in
theorem c_X0_layField (l : Launch) (D : va_G) (ci : Nat → ClassId) (aG_0 : Nat) (aG_1 : Nat) (aG_2 : Nat) (aG_3 : Nat) (aG_4 : Nat) (sz : Nat) (zG : GS) (p1 : Int32) (p2 : Int32) (res : GS) (hF : f_X0_layField zG p1 p2 = some res) : CtV l yX0_layField wsX0_layField { frames := 0, cells := 0, slots := 0, locals := 0 } [.ref aG_0, .int p1, .int p2] D ci (wcG ci aG_0 aG_1 aG_2 aG_3 aG_4 zG) sz (wcG ci aG_0 aG_1 aG_2 aG_3 aG_4 res) := by
  refine Met.ofW (cc := cX0_layField) (maxL := 4) (ret := none) (by decide) rfl ?_
  intro p e s m args below meth c s₁ B hml hv
  obtain ⟨rfl, hsz, hP, hK, hD0⟩ := hv
  have hx := B.exec
  have hb := B.bytes
  have hr := B.returns
  have hts := atoms_spec (ws := wsX0_layField) B.pre
  have hown : s.vm.findClass RX0 = some m.cls := findClass_of_methodNamed B.named
  have hlocks := B.notSynchronized
  subst hsz
  have hD := hD0.self (sz := s.heap.size)
  generalize hAe : va_A (wcG ci aG_0 aG_1 aG_2 aG_3 aG_4 zG) s.heap.size = A at hD ⊢
  have hA : ∀ q : Nat, s.heap.size ≤ q → A q := fun q h => by rw [← hAe]; exact Or.inr h
  clear hD0 hAe
  have hl := lv_entry ([.ref aG_0, .int p1, .int p2]) (n := 4) (Nat.le_of_ble_eq_true rfl)
  rw [lg_entry_eq]
  generalize (lg_sl ([.ref aG_0, .int p1, .int p2]) ++ List.replicate (4 - (lg_sl ([.ref aG_0, .int p1, .int p2])).length) Slot.unset).toArray = ls at hl ⊢
  have hl : lv_has ls 4 [(0, .ref aG_0), (1, .int p1), (2, .int p2)] := hl
  have hP : va_P D vwCl (wcG ci aG_0 aG_1 aG_2 aG_3 aG_4 zG) s.heap := hP
  generalize hH0 : s.heap = H at hP ⊢
  have hS : va_S A s.heap H [] := by rw [← hH0]; exact va_S.rf
  clear hH0
  generalize ([] : List Loc) = locs at hS ⊢
  have hk_0 := hts (.fieldLink RX0 25 "HedgeWar$Ground" "width" "I") (by decide +kernel)
  have hin_RX0 : ∀ w ∈ wsX00, w ∈ wsX0_layField := by decide +kernel
  have hk_2 := hts (.fieldLink RX0 41 "HedgeWar$Ground" "rim" "I") (by decide +kernel)
  have hk_3 := hts (.fieldLink RX0 29 "HedgeWar$Ground" "height" "I") (by decide +kernel)
  have hk_4 := hts (.fieldLink RX0 44 "HedgeWar$Ground" "withRight" "I") (by decide +kernel)
  have hk_5 := hts (.fieldLink RX0 47 "HedgeWar$Ground" "withBelow" "I") (by decide +kernel)
  unfold f_X0_layField at hF
  refine lv_iconst (v := 1) hx hb dX0_layField_0 (by decide) ?_
  refine lv_iload_n hx hb dX0_layField_1 rfl (lv_at hl 2 rfl) ?_
  refine lv_aload_n hx hb dX0_layField_2 rfl (lv_at hl 0 rfl) ?_
  refine va_get (D := D) (ci := 0) (v := .int (zG.1 0)) (C := RX0) (T := TX0) (N := 13) hx hb hts hin_RX0 hown hK hP 0 rfl rfl 0 (by decide) hk_0 (fun _ h9 => h9) rfl dX0_layField_3 ?_
  refine lv_imul hx hb dX0_layField_6 ?_
  refine lv_iload_n hx hb dX0_layField_7 rfl (lv_at hl 1 rfl) ?_
  refine lv_iadd hx hb dX0_layField_8 ?_
  refine lv_ishl hx hb dX0_layField_9 ?_
  refine lv_topi (fun v3_1 ev3_1 => ?_)
  replace hF := nm_i hF ev3_1
  refine lv_istore_n (lv' := [(3, .int v3_1), (0, .ref aG_0), (1, .int p1), (2, .int p2)]) hx hb dX0_layField_10 rfl hl (by decide) rfl (fun ls hl => ?_)
  refine lv_iload_n hx hb dX0_layField_11 rfl (lv_at hl 2 rfl) ?_
  replace hF := bnd hF
  obtain ⟨zG_2, hv_16, hF⟩ := hF
  refine jn (P := fun H locs ls => va_P D vwCl (wcG ci aG_0 aG_1 aG_2 aG_3 aG_4 zG_2) H ∧ va_D A (wcG ci aG_0 aG_1 aG_2 aG_3 aG_4 zG_2) ∧ va_S A s.heap H locs ∧ lv_has ls 4 [(0, .ref aG_0), (1, .int p1), (2, .int p2), (3, .int v3_1)]) (pcJ := 49) (st := []) ?_ ?_
  · intro H locs ls hJ
    obtain ⟨hP, hD, hS, hl⟩ := hJ
    refine lv_iload_n hx hb dX0_layField_49 rfl (lv_at hl 1 rfl) ?_
    refine lv_aload_n hx hb dX0_layField_50 rfl (lv_at hl 0 rfl) ?_
    refine va_get (D := D) (ci := 0) (v := .int (zG_2.1 0)) (C := RX0) (T := TX0) (N := 13) hx hb hts hin_RX0 hown hK hP 0 rfl rfl 0 (by decide) hk_0 (fun _ h9 => h9) rfl dX0_layField_51 ?_
    refine lv_iconst (v := 1) hx hb dX0_layField_54 (by decide) ?_
    refine lv_isub hx hb dX0_layField_55 ?_
    replace hF := bnd hF
    obtain ⟨zG_17, hv_22, hF⟩ := hF
    refine jn (P := fun H locs ls => va_P D vwCl (wcG ci aG_0 aG_1 aG_2 aG_3 aG_4 zG_17) H ∧ va_D A (wcG ci aG_0 aG_1 aG_2 aG_3 aG_4 zG_17) ∧ va_S A s.heap H locs ∧ lv_has ls 4 [(0, .ref aG_0), (1, .int p1), (2, .int p2), (3, .int v3_1)]) (pcJ := 69) (st := []) ?_ ?_
    · intro H locs ls hJ
      obtain ⟨hP, hD, hS, hl⟩ := hJ
      refine lv_iload_n hx hb dX0_layField_69 rfl (lv_at hl 2 rfl) ?_
      refine lv_aload_n hx hb dX0_layField_70 rfl (lv_at hl 0 rfl) ?_
      refine va_get (D := D) (ci := 0) (v := .int (zG_17.1 1)) (C := RX0) (T := TX0) (N := 13) hx hb hts hin_RX0 hown hK hP 0 rfl rfl 1 (by decide) hk_3 (fun _ h9 => h9) rfl dX0_layField_71 ?_
      refine lv_iconst (v := 1) hx hb dX0_layField_74 (by decide) ?_
      refine lv_isub hx hb dX0_layField_75 ?_
      refine lv_icmp_ge (tgt := 89) hx hb dX0_layField_76 (by decide) (fun c_23 => ?_) (fun c_23 => ?_)
      · replace hF := if_i c_23 hF
        obtain rfl := Option.some.inj hF
        exact W.vret hx hb hr (fun t ht hW => ⟨⟨(), rfl, trivial, by rw [ht]; exact hP, va_K.moved hW.alike hK, hD⟩, hS.F ht⟩) hS.2.2 dX0_layField_89
      · replace hF := if_o c_23 hF
        refine lv_aload_n hx hb dX0_layField_79 rfl (lv_at hl 0 rfl) ?_
        refine lv_dup hx hb dX0_layField_80 rfl ?_
        refine va_get (D := D) (ci := 0) (v := .int (zG_17.1 7)) (C := RX0) (T := TX0) (N := 13) hx hb hts hin_RX0 hown hK hP 0 rfl rfl 7 (by decide) hk_5 (fun _ h9 => h9) rfl dX0_layField_81 ?_
        refine lv_iload_n hx hb dX0_layField_84 rfl (lv_at hl 3 rfl) ?_
        refine lv_ior hx hb dX0_layField_85 ?_
        refine lv_topi (fun f7_24 ef7_24 => ?_)
        replace hF := nm_i hF ef7_24
        refine va_put (D := D) (ci := 0) (v := .int f7_24) (ty := .int) (C := RX0) (T := TX0) (N := 13) hx hb hts hin_RX0 tyX0 tyX0_ok nmX0 hown hK hP hD hS 0 rfl rfl 7 (by decide) hk_5 (fun _ h9 => h9) rfl (by decide +kernel) rfl rfl (Nat.le_of_ble_eq_true rfl) dX0_layField_86 (fun H locs hP hD hS => ?_)
        obtain ⟨zG_25, ezG_25⟩ : ∃ y : GS, y = (upd zG_17.1 7 f7_24, zG_17.2) := ⟨_, rfl⟩
        replace hF := nm_i hF ezG_25
        have hP : va_P D vwCl (wcG ci aG_0 aG_1 aG_2 aG_3 aG_4 zG_25) H := by rw [ezG_25]; exact hP
        have hD : va_D A (wcG ci aG_0 aG_1 aG_2 aG_3 aG_4 zG_25) := by rw [ezG_25]; exact hD
        obtain rfl := Option.some.inj hF
        exact W.vret hx hb hr (fun t ht hW => ⟨⟨(), rfl, trivial, by rw [ht]; exact hP, va_K.moved hW.alike hK, hD⟩, hS.F ht⟩) hS.2.2 dX0_layField_89
    · intro J_18
      clear hF
      have hF := hv_22
      refine lv_icmp_ge (tgt := 69) hx hb dX0_layField_56 (by decide) (fun c_19 => ?_) (fun c_19 => ?_)
      · replace hF := if_i c_19 hF
        obtain rfl := Option.some.inj hF
        exact J_18 H locs ls ⟨hP, hD, hS, lv_sub hl [0, 1, 2, 3] rfl⟩
      · replace hF := if_o c_19 hF
        refine lv_aload_n hx hb dX0_layField_59 rfl (lv_at hl 0 rfl) ?_
        refine lv_dup hx hb dX0_layField_60 rfl ?_
        refine va_get (D := D) (ci := 0) (v := .int (zG_2.1 6)) (C := RX0) (T := TX0) (N := 13) hx hb hts hin_RX0 hown hK hP 0 rfl rfl 6 (by decide) hk_4 (fun _ h9 => h9) rfl dX0_layField_61 ?_
        refine lv_iload_n hx hb dX0_layField_64 rfl (lv_at hl 3 rfl) ?_
        refine lv_ior hx hb dX0_layField_65 ?_
        refine lv_topi (fun f6_20 ef6_20 => ?_)
        replace hF := nm_i hF ef6_20
        refine va_put (D := D) (ci := 0) (v := .int f6_20) (ty := .int) (C := RX0) (T := TX0) (N := 13) hx hb hts hin_RX0 tyX0 tyX0_ok nmX0 hown hK hP hD hS 0 rfl rfl 6 (by decide) hk_4 (fun _ h9 => h9) rfl (by decide +kernel) rfl rfl (Nat.le_of_ble_eq_true rfl) dX0_layField_66 (fun H locs hP hD hS => ?_)
        obtain ⟨zG_21, ezG_21⟩ : ∃ y : GS, y = (upd zG_2.1 6 f6_20, zG_2.2) := ⟨_, rfl⟩
        replace hF := nm_i hF ezG_21
        have hP : va_P D vwCl (wcG ci aG_0 aG_1 aG_2 aG_3 aG_4 zG_21) H := by rw [ezG_21]; exact hP
        have hD : va_D A (wcG ci aG_0 aG_1 aG_2 aG_3 aG_4 zG_21) := by rw [ezG_21]; exact hD
        obtain rfl := Option.some.inj hF
        exact J_18 H locs ls ⟨hP, hD, hS, lv_sub hl [0, 1, 2, 3] rfl⟩
  · intro J_3
    clear hF
    have hF := hv_16
    refine lv_if_eq (tgt := 39) hx hb dX0_layField_12 (by decide) (fun c_4 => ?_) (fun c_4 => ?_)
    · replace hF := if_i c_4 hF
      refine lv_aload_n hx hb dX0_layField_39 rfl (lv_at hl 1 rfl) ?_
      refine lv_dup hx hb dX0_layField_40 rfl ?_
      refine va_get (D := D) (ci := 0) (v := .int (zG.1 5)) (C := RX0) (T := TX0) (N := 13) hx hb hts hin_RX0 hown hK hP 0 rfl rfl 5 (by decide) hk_2 (fun _ h9 => h9) rfl dX0_layField_41 ?_
      refine lv_iload_n hx hb dX0_layField_44 rfl (lv_at hl 0 rfl) ?_
      refine lv_ior hx hb dX0_layField_45 ?_
      refine lv_topi (fun f5_5 ef5_5 => ?_)
      replace hF := nm_i hF ef5_5
      refine va_put (D := D) (ci := 0) (v := .int f5_5) (ty := .int) (C := RX0) (T := TX0) (N := 13) hx hb hts hin_RX0 tyX0 tyX0_ok nmX0 hown hK hP hD hS 0 rfl rfl 5 (by decide) hk_2 (fun _ h9 => h9) rfl (by decide +kernel) rfl rfl (Nat.le_of_ble_eq_true rfl) dX0_layField_46 (fun H locs hP hD hS => ?_)
      obtain ⟨zG_6, ezG_6⟩ : ∃ y : GS, y = (upd zG.1 5 f5_5, zG.2) := ⟨_, rfl⟩
      replace hF := nm_i hF ezG_6
      have hP : va_P D vwCl (wcG ci aG_0 aG_1 aG_2 aG_3 aG_4 zG_6) H := by rw [ezG_6]; exact hP
      have hD : va_D A (wcG ci aG_0 aG_1 aG_2 aG_3 aG_4 zG_6) := by rw [ezG_6]; exact hD
      obtain rfl := Option.some.inj hF
      exact J_3 H locs ls ⟨hP, hD, hS, lv_sub hl [1, 2, 3, 0] rfl⟩
    · replace hF := if_o c_4 hF
      refine lv_iload_n hx hb dX0_layField_15 rfl (lv_at hl 3 rfl) ?_
      refine lv_if_eq (tgt := 39) hx hb dX0_layField_16 (by decide) (fun c_7 => ?_) (fun c_7 => ?_)
      · replace hF := if_i c_7 hF
        refine lv_aload_n hx hb dX0_layField_39 rfl (lv_at hl 1 rfl) ?_
        refine lv_dup hx hb dX0_layField_40 rfl ?_
        refine va_get (D := D) (ci := 0) (v := .int (zG.1 5)) (C := RX0) (T := TX0) (N := 13) hx hb hts hin_RX0 hown hK hP 0 rfl rfl 5 (by decide) hk_2 (fun _ h9 => h9) rfl dX0_layField_41 ?_
        refine lv_iload_n hx hb dX0_layField_44 rfl (lv_at hl 0 rfl) ?_
        refine lv_ior hx hb dX0_layField_45 ?_
        refine lv_topi (fun f5_8 ef5_8 => ?_)
        replace hF := nm_i hF ef5_8
        refine va_put (D := D) (ci := 0) (v := .int f5_8) (ty := .int) (C := RX0) (T := TX0) (N := 13) hx hb hts hin_RX0 tyX0 tyX0_ok nmX0 hown hK hP hD hS 0 rfl rfl 5 (by decide) hk_2 (fun _ h9 => h9) rfl (by decide +kernel) rfl rfl (Nat.le_of_ble_eq_true rfl) dX0_layField_46 (fun H locs hP hD hS => ?_)
        obtain ⟨zG_9, ezG_9⟩ : ∃ y : GS, y = (upd zG.1 5 f5_8, zG.2) := ⟨_, rfl⟩
        replace hF := nm_i hF ezG_9
        have hP : va_P D vwCl (wcG ci aG_0 aG_1 aG_2 aG_3 aG_4 zG_9) H := by rw [ezG_9]; exact hP
        have hD : va_D A (wcG ci aG_0 aG_1 aG_2 aG_3 aG_4 zG_9) := by rw [ezG_9]; exact hD
        obtain rfl := Option.some.inj hF
        exact J_3 H locs ls ⟨hP, hD, hS, lv_sub hl [1, 2, 3, 0] rfl⟩
      · replace hF := if_o c_7 hF
        refine lv_iload_n hx hb dX0_layField_19 rfl (lv_at hl 2 rfl) ?_
        refine lv_aload_n hx hb dX0_layField_20 rfl (lv_at hl 1 rfl) ?_
        refine va_get (D := D) (ci := 0) (v := .int (zG.1 0)) (C := RX0) (T := TX0) (N := 13) hx hb hts hin_RX0 hown hK hP 0 rfl rfl 0 (by decide) hk_0 (fun _ h9 => h9) rfl dX0_layField_21 ?_
        refine lv_iconst (v := 1) hx hb dX0_layField_24 (by decide) ?_
        refine lv_isub hx hb dX0_layField_25 ?_
        refine lv_icmp_eq (tgt := 39) hx hb dX0_layField_26 (by decide) (fun c_10 => ?_) (fun c_10 => ?_)
        · replace hF := if_i c_10 hF
          refine lv_aload_n hx hb dX0_layField_39 rfl (lv_at hl 1 rfl) ?_
          refine lv_dup hx hb dX0_layField_40 rfl ?_
          refine va_get (D := D) (ci := 0) (v := .int (zG.1 5)) (C := RX0) (T := TX0) (N := 13) hx hb hts hin_RX0 hown hK hP 0 rfl rfl 5 (by decide) hk_2 (fun _ h9 => h9) rfl dX0_layField_41 ?_
          refine lv_iload_n hx hb dX0_layField_44 rfl (lv_at hl 0 rfl) ?_
          refine lv_ior hx hb dX0_layField_45 ?_
          refine lv_topi (fun f5_11 ef5_11 => ?_)
          replace hF := nm_i hF ef5_11
          refine va_put (D := D) (ci := 0) (v := .int f5_11) (ty := .int) (C := RX0) (T := TX0) (N := 13) hx hb hts hin_RX0 tyX0 tyX0_ok nmX0 hown hK hP hD hS 0 rfl rfl 5 (by decide) hk_2 (fun _ h9 => h9) rfl (by decide +kernel) rfl rfl (Nat.le_of_ble_eq_true rfl) dX0_layField_46 (fun H locs hP hD hS => ?_)
          obtain ⟨zG_12, ezG_12⟩ : ∃ y : GS, y = (upd zG.1 5 f5_11, zG.2) := ⟨_, rfl⟩
          replace hF := nm_i hF ezG_12
          have hP : va_P D vwCl (wcG ci aG_0 aG_1 aG_2 aG_3 aG_4 zG_12) H := by rw [ezG_12]; exact hP
          have hD : va_D A (wcG ci aG_0 aG_1 aG_2 aG_3 aG_4 zG_12) := by rw [ezG_12]; exact hD
          obtain rfl := Option.some.inj hF
          exact J_3 H locs ls ⟨hP, hD, hS, lv_sub hl [1, 2, 3, 0] rfl⟩
        · replace hF := if_o c_10 hF
          refine lv_iload_n hx hb dX0_layField_29 rfl (lv_at hl 3 rfl) ?_
          refine lv_aload_n hx hb dX0_layField_30 rfl (lv_at hl 1 rfl) ?_
          refine va_get (D := D) (ci := 0) (v := .int (zG.1 1)) (C := RX0) (T := TX0) (N := 13) hx hb hts hin_RX0 hown hK hP 0 rfl rfl 1 (by decide) hk_3 (fun _ h9 => h9) rfl dX0_layField_31 ?_
          refine lv_iconst (v := 1) hx hb dX0_layField_34 (by decide) ?_
          refine lv_isub hx hb dX0_layField_35 ?_
          refine lv_icmp_ne (tgt := 49) hx hb dX0_layField_36 (by decide) (fun c_13 => ?_) (fun c_13 => ?_)
          · replace hF := if_o c_13 hF
            obtain rfl := Option.some.inj hF
            exact J_3 H locs ls ⟨hP, hD, hS, lv_sub hl [1, 2, 3, 0] rfl⟩
          · replace hF := if_i c_13 hF
            refine lv_aload_n hx hb dX0_layField_39 rfl (lv_at hl 1 rfl) ?_
            refine lv_dup hx hb dX0_layField_40 rfl ?_
            refine va_get (D := D) (ci := 0) (v := .int (zG.1 5)) (C := RX0) (T := TX0) (N := 13) hx hb hts hin_RX0 hown hK hP 0 rfl rfl 5 (by decide) hk_2 (fun _ h9 => h9) rfl dX0_layField_41 ?_
            refine lv_iload_n hx hb dX0_layField_44 rfl (lv_at hl 0 rfl) ?_
            refine lv_ior hx hb dX0_layField_45 ?_
            refine lv_topi (fun f5_14 ef5_14 => ?_)
            replace hF := nm_i hF ef5_14
            refine va_put (D := D) (ci := 0) (v := .int f5_14) (ty := .int) (C := RX0) (T := TX0) (N := 13) hx hb hts hin_RX0 tyX0 tyX0_ok nmX0 hown hK hP hD hS 0 rfl rfl 5 (by decide) hk_2 (fun _ h9 => h9) rfl (by decide +kernel) rfl rfl (Nat.le_of_ble_eq_true rfl) dX0_layField_46 (fun H locs hP hD hS => ?_)
            obtain ⟨zG_15, ezG_15⟩ : ∃ y : GS, y = (upd zG.1 5 f5_14, zG.2) := ⟨_, rfl⟩
            replace hF := nm_i hF ezG_15
            have hP : va_P D vwCl (wcG ci aG_0 aG_1 aG_2 aG_3 aG_4 zG_15) H := by rw [ezG_15]; exact hP
            have hD : va_D A (wcG ci aG_0 aG_1 aG_2 aG_3 aG_4 zG_15) := by rw [ezG_15]; exact hD
            obtain rfl := Option.some.inj hF
            exact J_3 H locs ls ⟨hP, hD, hS, lv_sub hl [1, 2, 3, 0] rfl⟩
noncomputable def f_X0_addEdge (zG : GS) (p1 : Int32) (p2 : Int32) (p3 : Int64) : Option (GS) := if (40 : Int32) ≤ (zG.1 3) then (some zG) else (ast 40 (zG.1 3) <| nm ((zG.1, zG.2.1, va_up zG.2.2.1 10 (upd (zG.2.2.1 10) (Int32.toNatClampNeg (zG.1 3)) p1), zG.2.2.2) : GS) fun zG_3 => ast 40 (zG_3.1 3) <| nm ((zG_3.1, zG_3.2.1, va_up zG_3.2.2.1 11 (upd (zG_3.2.2.1 11) (Int32.toNatClampNeg (zG_3.1 3)) p2), zG_3.2.2.2) : GS) fun zG_5 => ast 40 (zG_5.1 3) <| nm ((zG_5.1, zG_5.2.1, zG_5.2.2.1, (vp_updL zG_5.2.2.2 (Int32.toNatClampNeg (zG_5.1 3)) p3)) : GS) fun zG_7 => nm ((zG_7.1 3) + 1) fun f3_8 => nm ((upd zG_7.1 3 f3_8, zG_7.2) : GS) fun zG_9 => some zG_9)
set_option maxHeartbeats 4000000 in
set_option maxRecDepth 100000 in
theorem c_X0_addEdge (l : Launch) (D : va_G) (ci : Nat → ClassId) (aG_0 : Nat) (aG_1 : Nat) (aG_2 : Nat) (aG_3 : Nat) (aG_4 : Nat) (sz : Nat) (zG : GS) (p1 : Int32) (p2 : Int32) (p3 : Int64) (res : GS) (hF : f_X0_addEdge zG p1 p2 p3 = some res) : CtV l yX0_addEdge wsX0_addEdge { frames := 0, cells := 0, slots := 0, locals := 0 } [.ref aG_0, .int p1, .int p2, .long p3] D ci (wcG ci aG_0 aG_1 aG_2 aG_3 aG_4 zG) sz (wcG ci aG_0 aG_1 aG_2 aG_3 aG_4 res) := by
  refine Met.ofW (cc := cX0_addEdge) (maxL := 5) (ret := none) (by decide) rfl ?_
  intro p e s m args below meth c s₁ B hml hv
  obtain ⟨rfl, hsz, hP, hK, hD0⟩ := hv
  have hx := B.exec
  have hb := B.bytes
  have hr := B.returns
  have hts := atoms_spec (ws := wsX0_addEdge) B.pre
  have hown : s.vm.findClass RX0 = some m.cls := findClass_of_methodNamed B.named
  have hlocks := B.notSynchronized
  subst hsz
  have hD := hD0.self (sz := s.heap.size)
  generalize hAe : va_A (wcG ci aG_0 aG_1 aG_2 aG_3 aG_4 zG) s.heap.size = A at hD ⊢
  have hA : ∀ q : Nat, s.heap.size ≤ q → A q := fun q h => by rw [← hAe]; exact Or.inr h
  clear hD0 hAe
  have hl := lv_entry ([.ref aG_0, .int p1, .int p2, .long p3]) (n := 5) (Nat.le_of_ble_eq_true rfl)
  rw [lg_entry_eq]
  generalize (lg_sl ([.ref aG_0, .int p1, .int p2, .long p3]) ++ List.replicate (5 - (lg_sl ([.ref aG_0, .int p1, .int p2, .long p3])).length) Slot.unset).toArray = ls at hl ⊢
  have hl : lv_has ls 5 [(0, .ref aG_0), (1, .int p1), (2, .int p2), (3, .long p3)] := hl
  have hP : va_P D vwCl (wcG ci aG_0 aG_1 aG_2 aG_3 aG_4 zG) s.heap := hP
  generalize hH0 : s.heap = H at hP ⊢
  have hS : va_S A s.heap H [] := by rw [← hH0]; exact va_S.rf
  clear hH0
  generalize ([] : List Loc) = locs at hS ⊢
  have hk_0 := hts (.fieldLink RX0 35 "HedgeWar$Ground" "edges" "I") (by decide +kernel)
  have hin_RX0 : ∀ w ∈ wsX00, w ∈ wsX0_addEdge := by decide +kernel
  have hk_2 := hts (.fieldLink RX0 15 "HedgeWar$Ground" "lesser" "[I") (by decide +kernel)
  have hk_3 := hts (.fieldLink RX0 18 "HedgeWar$Ground" "greater" "[I") (by decide +kernel)
  have hk_4 := hts (.fieldLink RX0 21 "HedgeWar$Ground" "places" "[J") (by decide +kernel)
  unfold f_X0_addEdge at hF
  refine lv_aload_n hx hb dX0_addEdge_0 rfl (lv_at hl 0 rfl) ?_
  refine va_get (D := D) (ci := 0) (v := .int (zG.1 3)) (C := RX0) (T := TX0) (N := 13) hx hb hts hin_RX0 hown hK hP 0 rfl rfl 3 (by decide) hk_0 (fun _ h9 => h9) rfl dX0_addEdge_1 ?_
  refine lv_bipush (v := 40) hx hb dX0_addEdge_4 (by decide) ?_
  refine lv_icmp_ge (tgt := 49) hx hb dX0_addEdge_6 (by decide) (fun c_1 => ?_) (fun c_1 => ?_)
  · replace hF := if_i c_1 hF
    obtain rfl := Option.some.inj hF
    exact W.vret hx hb hr (fun t ht hW => ⟨⟨(), rfl, trivial, by rw [ht]; exact hP, va_K.moved hW.alike hK, hD⟩, hS.F ht⟩) hS.2.2 dX0_addEdge_49
  · replace hF := if_o c_1 hF
    refine lv_aload_n hx hb dX0_addEdge_9 rfl (lv_at hl 0 rfl) ?_
    refine va_get (D := D) (ci := 0) (v := .ref aG_2) (C := RX0) (T := TX0) (N := 13) hx hb hts hin_RX0 hown hK hP 0 rfl rfl 10 (by decide) hk_2 (fun _ h9 => h9) rfl dX0_addEdge_10 ?_
    refine lv_aload_n hx hb dX0_addEdge_13 rfl (lv_at hl 0 rfl) ?_
    refine va_get (D := D) (ci := 0) (v := .int (zG.1 3)) (C := RX0) (T := TX0) (N := 13) hx hb hts hin_RX0 hown hK hP 0 rfl rfl 3 (by decide) hk_0 (fun _ h9 => h9) rfl dX0_addEdge_14 ?_
    refine lv_iload_n hx hb dX0_addEdge_17 rfl (lv_at hl 1 rfl) ?_
    replace hF := ast_i hF
    obtain ⟨hin_2, hF⟩ := hF
    refine va_iast (x := p1) hx hb hK hP hD hS 2 0 rfl rfl hin_2 dX0_addEdge_18 (fun H locs hP hD hS => ?_)
    obtain ⟨zG_3, ezG_3⟩ : ∃ y : GS, y = (zG.1, zG.2.1, va_up zG.2.2.1 10 (upd (zG.2.2.1 10) (Int32.toNatClampNeg (zG.1 3)) p1), zG.2.2.2) := ⟨_, rfl⟩
    replace hF := nm_i hF ezG_3
    have hP : va_P D vwCl (wcG ci aG_0 aG_1 aG_2 aG_3 aG_4 zG_3) H := by rw [ezG_3]; exact hP
    have hD : va_D A (wcG ci aG_0 aG_1 aG_2 aG_3 aG_4 zG_3) := by rw [ezG_3]; exact hD
    refine lv_aload_n hx hb dX0_addEdge_19 rfl (lv_at hl 0 rfl) ?_
    refine va_get (D := D) (ci := 0) (v := .ref aG_3) (C := RX0) (T := TX0) (N := 13) hx hb hts hin_RX0 hown hK hP 0 rfl rfl 11 (by decide) hk_3 (fun _ h9 => h9) rfl dX0_addEdge_20 ?_
    refine lv_aload_n hx hb dX0_addEdge_23 rfl (lv_at hl 0 rfl) ?_
    refine va_get (D := D) (ci := 0) (v := .int (zG_3.1 3)) (C := RX0) (T := TX0) (N := 13) hx hb hts hin_RX0 hown hK hP 0 rfl rfl 3 (by decide) hk_0 (fun _ h9 => h9) rfl dX0_addEdge_24 ?_
    refine lv_iload_n hx hb dX0_addEdge_27 rfl (lv_at hl 2 rfl) ?_
    replace hF := ast_i hF
    obtain ⟨hin_4, hF⟩ := hF
    refine va_iast (x := p2) hx hb hK hP hD hS 3 0 rfl rfl hin_4 dX0_addEdge_28 (fun H locs hP hD hS => ?_)
    obtain ⟨zG_5, ezG_5⟩ : ∃ y : GS, y = (zG_3.1, zG_3.2.1, va_up zG_3.2.2.1 11 (upd (zG_3.2.2.1 11) (Int32.toNatClampNeg (zG_3.1 3)) p2), zG_3.2.2.2) := ⟨_, rfl⟩
    replace hF := nm_i hF ezG_5
    have hP : va_P D vwCl (wcG ci aG_0 aG_1 aG_2 aG_3 aG_4 zG_5) H := by rw [ezG_5]; exact hP
    have hD : va_D A (wcG ci aG_0 aG_1 aG_2 aG_3 aG_4 zG_5) := by rw [ezG_5]; exact hD
    refine lv_aload_n hx hb dX0_addEdge_29 rfl (lv_at hl 0 rfl) ?_
    refine va_get (D := D) (ci := 0) (v := .ref aG_4) (C := RX0) (T := TX0) (N := 13) hx hb hts hin_RX0 hown hK hP 0 rfl rfl 12 (by decide) hk_4 (fun _ h9 => h9) rfl dX0_addEdge_30 ?_
    refine lv_aload_n hx hb dX0_addEdge_33 rfl (lv_at hl 0 rfl) ?_
    refine va_get (D := D) (ci := 0) (v := .int (zG_5.1 3)) (C := RX0) (T := TX0) (N := 13) hx hb hts hin_RX0 hown hK hP 0 rfl rfl 3 (by decide) hk_0 (fun _ h9 => h9) rfl dX0_addEdge_34 ?_
    refine lv_lload_n hx hb dX0_addEdge_37 rfl (lv_at hl 3 rfl) ?_
    replace hF := ast_i hF
    obtain ⟨hin_6, hF⟩ := hF
    refine va_last (x := p3) hx hb hK hP hD hS 4 1 rfl rfl hin_6 dX0_addEdge_38 (fun H locs hP hD hS => ?_)
    obtain ⟨zG_7, ezG_7⟩ : ∃ y : GS, y = (zG_5.1, zG_5.2.1, zG_5.2.2.1, (vp_updL zG_5.2.2.2 (Int32.toNatClampNeg (zG_5.1 3)) p3)) := ⟨_, rfl⟩
    replace hF := nm_i hF ezG_7
    have hP : va_P D vwCl (wcG ci aG_0 aG_1 aG_2 aG_3 aG_4 zG_7) H := by rw [ezG_7]; exact hP
    have hD : va_D A (wcG ci aG_0 aG_1 aG_2 aG_3 aG_4 zG_7) := by rw [ezG_7]; exact hD
    refine lv_aload_n hx hb dX0_addEdge_39 rfl (lv_at hl 0 rfl) ?_
    refine lv_dup hx hb dX0_addEdge_40 rfl ?_
    refine va_get (D := D) (ci := 0) (v := .int (zG_7.1 3)) (C := RX0) (T := TX0) (N := 13) hx hb hts hin_RX0 hown hK hP 0 rfl rfl 3 (by decide) hk_0 (fun _ h9 => h9) rfl dX0_addEdge_41 ?_
    refine lv_iconst (v := 1) hx hb dX0_addEdge_44 (by decide) ?_
    refine lv_iadd hx hb dX0_addEdge_45 ?_
    refine lv_topi (fun f3_8 ef3_8 => ?_)
    replace hF := nm_i hF ef3_8
    refine va_put (D := D) (ci := 0) (v := .int f3_8) (ty := .int) (C := RX0) (T := TX0) (N := 13) hx hb hts hin_RX0 tyX0 tyX0_ok nmX0 hown hK hP hD hS 0 rfl rfl 3 (by decide) hk_0 (fun _ h9 => h9) rfl (by decide +kernel) rfl rfl (Nat.le_of_ble_eq_true rfl) dX0_addEdge_46 (fun H locs hP hD hS => ?_)
    obtain ⟨zG_9, ezG_9⟩ : ∃ y : GS, y = (upd zG_7.1 3 f3_8, zG_7.2) := ⟨_, rfl⟩
    replace hF := nm_i hF ezG_9
    have hP : va_P D vwCl (wcG ci aG_0 aG_1 aG_2 aG_3 aG_4 zG_9) H := by rw [ezG_9]; exact hP
    have hD : va_D A (wcG ci aG_0 aG_1 aG_2 aG_3 aG_4 zG_9) := by rw [ezG_9]; exact hD
    obtain rfl := Option.some.inj hF
    exact W.vret hx hb hr (fun t ht hW => ⟨⟨(), rfl, trivial, by rw [ht]; exact hP, va_K.moved hW.alike hK, hD⟩, hS.F ht⟩) hS.2.2 dX0_addEdge_49
noncomputable def L_X0_layOut_24 (p1 : Int32) (p2 : Int32) (p3 : Int32) : Nat → Int32 → GS → Option (Int32 × GS)
  | 0, _, _ => none
  | n + 1, v4_8, zG_9 => if (zG_9.1 2) ≤ v4_8 then (some (v4_8, zG_9)) else (if (25 : Int32) ≤ v4_8 then (some (v4_8, zG_9)) else (ast 25 v4_8 <| nm ((zG_9.1, zG_9.2.1, va_up zG_9.2.2.1 9 (upd (zG_9.2.2.1 9) (Int32.toNatClampNeg v4_8) p3), zG_9.2.2.2) : GS) fun zG_21 => nm ((zG_21.1 4) ||| ((1 : Int32) <<< (v4_8 &&& 31))) fun f4_22 => nm ((upd zG_21.1 4 f4_22, zG_21.2) : GS) fun zG_23 => nm (v4_8 + 1) fun v4_24 => L_X0_layOut_24 p1 p2 p3 n v4_24 zG_23))
noncomputable def L_X0_layOut_79 (p1 : Int32) (p2 : Int32) (p3 : Int32) (v4_27 : Int32) : Nat → Int32 → GS → Option (Int32 × GS)
  | 0, _, _ => none
  | n + 1, v5_37, zG_38 => if p1 ≤ v5_37 then (some (v5_37, zG_38)) else ((f_X0_layField zG_38 v5_37 v4_27).bind fun zG_46 => nm (v5_37 + 1) fun v5_48 => L_X0_layOut_79 p1 p2 p3 v4_27 n v5_48 zG_46)
noncomputable def L_X0_layOut_70 (p1 : Int32) (p2 : Int32) (p3 : Int32) : Nat → Int32 → GS → Option (Int32 × GS)
  | 0, _, _ => none
  | n + 1, v4_27, zG_28 => if p2 ≤ v4_27 then (some (v4_27, zG_28)) else (nm (0 : Int32) fun v5_36 => (L_X0_layOut_79 p1 p2 p3 v4_27 3000 v5_36 zG_28).bind fun q_51 => nm q_51.1 fun v5_41 => nm q_51.2 fun zG_42 => nm (v4_27 + 1) fun v4_50 => L_X0_layOut_70 p1 p2 p3 n v4_50 zG_42)
noncomputable def L_X0_layOut_108 (p1 : Int32) (p2 : Int32) (p3 : Int32) : Nat → Int32 → GS → Option (Int32 × GS)
  | 0, _, _ => none
  | n + 1, v4_54, zG_55 => if (zG_55.1 2) ≤ v4_54 then (some (v4_54, zG_55)) else (if ((zG_55.1 6) &&& ((1 : Int32) <<< (v4_54 &&& 31))) = 0 then (nm (v4_54 + 1) fun v4_64 => L_X0_layOut_108 p1 p2 p3 n v4_64 zG_55) else ((f_X0_addEdge zG_55 v4_54 (v4_54 + 1) (lshl 1 v4_54)).bind fun zG_65 => nm (v4_54 + 1) fun v4_67 => L_X0_layOut_108 p1 p2 p3 n v4_67 zG_65))
noncomputable def L_X0_layOut_152 (p1 : Int32) (p2 : Int32) (p3 : Int32) : Nat → Int32 → GS → Option (Int32 × GS)
  | 0, _, _ => none
  | n + 1, v4_70, zG_71 => if (zG_71.1 2) ≤ v4_70 then (some (v4_70, zG_71)) else (if ((zG_71.1 7) &&& ((1 : Int32) <<< (v4_70 &&& 31))) = 0 then (nm (v4_70 + 1) fun v4_80 => L_X0_layOut_152 p1 p2 p3 n v4_80 zG_71) else ((f_X0_addEdge zG_71 v4_70 (v4_70 + p1) (lshl 1 (32 + v4_70))).bind fun zG_81 => nm (v4_70 + 1) fun v4_83 => L_X0_layOut_152 p1 p2 p3 n v4_83 zG_81))
noncomputable def f_X0_layOut (zG : GS) (p1 : Int32) (p2 : Int32) (p3 : Int32) : Option (GS) := (f_X0_clear zG).bind fun zG_1 => nm ((upd zG_1.1 0 p1, zG_1.2) : GS) fun zG_3 => nm ((upd zG_3.1 1 p2, zG_3.2) : GS) fun zG_4 => nm (p1 * p2) fun f2_5 => nm ((upd zG_4.1 2 f2_5, zG_4.2) : GS) fun zG_6 => nm (0 : Int32) fun v4_7 => (L_X0_layOut_24 p1 p2 p3 3000 v4_7 zG_6).bind fun q_88 => nm q_88.1 fun v4_12 => nm q_88.2 fun zG_13 => nm (0 : Int32) fun v4_26 => (L_X0_layOut_70 p1 p2 p3 3000 v4_26 zG_13).bind fun q_87 => nm q_87.1 fun v4_31 => nm q_87.2 fun zG_32 => nm (0 : Int32) fun v4_53 => (L_X0_layOut_108 p1 p2 p3 3000 v4_53 zG_32).bind fun q_86 => nm q_86.1 fun v4_58 => nm q_86.2 fun zG_59 => nm (0 : Int32) fun v4_69 => (L_X0_layOut_152 p1 p2 p3 3000 v4_69 zG_59).bind fun q_85 => nm q_85.1 fun v4_74 => nm q_85.2 fun zG_75 => some zG_75
set_option maxHeartbeats 4000000 in
set_option maxRecDepth 100000 in
theorem c_X0_layOut (l : Launch) (D : va_G) (ci : Nat → ClassId) (aG_0 : Nat) (aG_1 : Nat) (aG_2 : Nat) (aG_3 : Nat) (aG_4 : Nat) (sz : Nat) (zG : GS) (p1 : Int32) (p2 : Int32) (p3 : Int32) (res : GS) (hF : f_X0_layOut zG p1 p2 p3 = some res) : CtV l yX0_layOut wsX0_layOut { frames := 1, cells := 0, slots := 0, locals := 24 } [.ref aG_0, .int p1, .int p2, .int p3] D ci (wcG ci aG_0 aG_1 aG_2 aG_3 aG_4 zG) sz (wcG ci aG_0 aG_1 aG_2 aG_3 aG_4 res) := by
  refine Met.ofW (cc := cX0_layOut) (maxL := 6) (ret := none) (by decide) rfl ?_
  intro p e s m args below meth c s₁ B hml hv
  obtain ⟨rfl, hsz, hP, hK, hD0⟩ := hv
  have hx := B.exec
  have hb := B.bytes
  have hr := B.returns
  have hts := atoms_spec (ws := wsX0_layOut) B.pre
  have hown : s.vm.findClass RX0 = some m.cls := findClass_of_methodNamed B.named
  have hlocks := B.notSynchronized
  subst hsz
  have hD := hD0.self (sz := s.heap.size)
  generalize hAe : va_A (wcG ci aG_0 aG_1 aG_2 aG_3 aG_4 zG) s.heap.size = A at hD ⊢
  have hA : ∀ q : Nat, s.heap.size ≤ q → A q := fun q h => by rw [← hAe]; exact Or.inr h
  clear hD0 hAe
  have hl := lv_entry ([.ref aG_0, .int p1, .int p2, .int p3]) (n := 6) (Nat.le_of_ble_eq_true rfl)
  rw [lg_entry_eq]
  generalize (lg_sl ([.ref aG_0, .int p1, .int p2, .int p3]) ++ List.replicate (6 - (lg_sl ([.ref aG_0, .int p1, .int p2, .int p3])).length) Slot.unset).toArray = ls at hl ⊢
  have hl : lv_has ls 6 [(0, .ref aG_0), (1, .int p1), (2, .int p2), (3, .int p3)] := hl
  have hP : va_P D vwCl (wcG ci aG_0 aG_1 aG_2 aG_3 aG_4 zG) s.heap := hP
  generalize hH0 : s.heap = H at hP ⊢
  have hS : va_S A s.heap H [] := by rw [← hH0]; exact va_S.rf
  clear hH0
  generalize ([] : List Loc) = locs at hS ⊢
  have hk_0 := hts (.fieldLink RX0 25 "HedgeWar$Ground" "width" "I") (by decide +kernel)
  have hin_RX0 : ∀ w ∈ wsX00, w ∈ wsX0_layOut := by decide +kernel
  have hk_2 := hts (.fieldLink RX0 29 "HedgeWar$Ground" "height" "I") (by decide +kernel)
  have hk_3 := hts (.fieldLink RX0 32 "HedgeWar$Ground" "fields" "I") (by decide +kernel)
  have hk_4 := hts (.fieldLink RX0 9 "HedgeWar$Ground" "soils" "[I") (by decide +kernel)
  have hk_5 := hts (.fieldLink RX0 38 "HedgeWar$Ground" "all" "I") (by decide +kernel)
  have hk_6 := hts (.fieldLink RX0 44 "HedgeWar$Ground" "withRight" "I") (by decide +kernel)
  have hk_7 := hts (.fieldLink RX0 47 "HedgeWar$Ground" "withBelow" "I") (by decide +kernel)
  unfold f_X0_layOut at hF
  refine lv_aload_n hx hb dX0_layOut_0 rfl (lv_at hl 0 rfl) ?_
  replace hF := bnd hF
  obtain ⟨zG_1, hc_2, hF⟩ := hF
  refine cl_Vv0 (As := []) (rest := []) ⟨hx, hb, hml, hown, hts⟩ (cwV 0 hts gX0_layOut_X0_clear rfl rfl rfl (by decide +kernel) ⟨Nat.le_of_ble_eq_true rfl, Nat.le_of_ble_eq_true rfl⟩) (c_X0_clear l D ci aG_0 aG_1 aG_2 aG_3 aG_4 H.size zG _ hc_2) hK hP hD hS hA 0 rfl rfl rfl rfl hl.1 (Nat.le_of_ble_eq_true rfl) dX0_layOut_1 (Nat.zero_le _) (Nat.zero_le _) (fun H locs hP hD hS => ?_)
  have hP : va_P D vwCl (wcG ci aG_0 aG_1 aG_2 aG_3 aG_4 zG_1) H := hP
  have hD : va_D A (wcG ci aG_0 aG_1 aG_2 aG_3 aG_4 zG_1) := hD
  refine lv_aload_n hx hb dX0_layOut_4 rfl (lv_at hl 0 rfl) ?_
  refine lv_iload_n hx hb dX0_layOut_5 rfl (lv_at hl 1 rfl) ?_
  refine va_put (D := D) (ci := 0) (v := .int p1) (ty := .int) (C := RX0) (T := TX0) (N := 13) hx hb hts hin_RX0 tyX0 tyX0_ok nmX0 hown hK hP hD hS 0 rfl rfl 0 (by decide) hk_0 (fun _ h9 => h9) rfl (by decide +kernel) rfl rfl (Nat.le_of_ble_eq_true rfl) dX0_layOut_6 (fun H locs hP hD hS => ?_)
  obtain ⟨zG_3, ezG_3⟩ : ∃ y : GS, y = (upd zG_1.1 0 p1, zG_1.2) := ⟨_, rfl⟩
  replace hF := nm_i hF ezG_3
  have hP : va_P D vwCl (wcG ci aG_0 aG_1 aG_2 aG_3 aG_4 zG_3) H := by rw [ezG_3]; exact hP
  have hD : va_D A (wcG ci aG_0 aG_1 aG_2 aG_3 aG_4 zG_3) := by rw [ezG_3]; exact hD
  refine lv_aload_n hx hb dX0_layOut_9 rfl (lv_at hl 0 rfl) ?_
  refine lv_iload_n hx hb dX0_layOut_10 rfl (lv_at hl 2 rfl) ?_
  refine va_put (D := D) (ci := 0) (v := .int p2) (ty := .int) (C := RX0) (T := TX0) (N := 13) hx hb hts hin_RX0 tyX0 tyX0_ok nmX0 hown hK hP hD hS 0 rfl rfl 1 (by decide) hk_2 (fun _ h9 => h9) rfl (by decide +kernel) rfl rfl (Nat.le_of_ble_eq_true rfl) dX0_layOut_11 (fun H locs hP hD hS => ?_)
  obtain ⟨zG_4, ezG_4⟩ : ∃ y : GS, y = (upd zG_3.1 1 p2, zG_3.2) := ⟨_, rfl⟩
  replace hF := nm_i hF ezG_4
  have hP : va_P D vwCl (wcG ci aG_0 aG_1 aG_2 aG_3 aG_4 zG_4) H := by rw [ezG_4]; exact hP
  have hD : va_D A (wcG ci aG_0 aG_1 aG_2 aG_3 aG_4 zG_4) := by rw [ezG_4]; exact hD
  refine lv_aload_n hx hb dX0_layOut_14 rfl (lv_at hl 0 rfl) ?_
  refine lv_iload_n hx hb dX0_layOut_15 rfl (lv_at hl 1 rfl) ?_
  refine lv_iload_n hx hb dX0_layOut_16 rfl (lv_at hl 2 rfl) ?_
  refine lv_imul hx hb dX0_layOut_17 ?_
  refine lv_topi (fun f2_5 ef2_5 => ?_)
  replace hF := nm_i hF ef2_5
  refine va_put (D := D) (ci := 0) (v := .int f2_5) (ty := .int) (C := RX0) (T := TX0) (N := 13) hx hb hts hin_RX0 tyX0 tyX0_ok nmX0 hown hK hP hD hS 0 rfl rfl 2 (by decide) hk_3 (fun _ h9 => h9) rfl (by decide +kernel) rfl rfl (Nat.le_of_ble_eq_true rfl) dX0_layOut_18 (fun H locs hP hD hS => ?_)
  obtain ⟨zG_6, ezG_6⟩ : ∃ y : GS, y = (upd zG_4.1 2 f2_5, zG_4.2) := ⟨_, rfl⟩
  replace hF := nm_i hF ezG_6
  have hP : va_P D vwCl (wcG ci aG_0 aG_1 aG_2 aG_3 aG_4 zG_6) H := by rw [ezG_6]; exact hP
  have hD : va_D A (wcG ci aG_0 aG_1 aG_2 aG_3 aG_4 zG_6) := by rw [ezG_6]; exact hD
  refine lv_iconst (v := 0) hx hb dX0_layOut_21 (by decide) ?_
  refine lv_topi (fun v4_7 ev4_7 => ?_)
  replace hF := nm_i hF ev4_7
  refine lv_istore (lv' := [(4, .int v4_7), (0, .ref aG_0), (1, .int p1), (2, .int p2), (3, .int p3)]) hx hb dX0_layOut_22 hl (by decide) rfl (fun ls hl => ?_)
  replace hF := bnd hF
  obtain ⟨q_88, hv_25, hF⟩ := hF
  obtain ⟨v4_12, ev4_12⟩ : ∃ y : Int32, y = q_88.1 := ⟨_, rfl⟩
  replace hF := nm_i hF ev4_12
  obtain ⟨zG_13, ezG_13⟩ : ∃ y : GS, y = q_88.2 := ⟨_, rfl⟩
  replace hF := nm_i hF ezG_13
  obtain rfl : q_88 = (v4_12, zG_13) := by rw [ev4_12, ezG_13]
  clear ev4_12
  clear ezG_13
  refine jn (P := fun H locs ls => va_P D vwCl (wcG ci aG_0 aG_1 aG_2 aG_3 aG_4 zG_13) H ∧ va_D A (wcG ci aG_0 aG_1 aG_2 aG_3 aG_4 zG_13) ∧ va_S A s.heap H locs ∧ lv_has ls 6 [(0, .ref aG_0), (1, .int p1), (2, .int p2), (3, .int p3), (4, .int v4_12)]) (pcJ := 67) (st := []) ?_ ?_
  · intro H locs ls hJ
    obtain ⟨hP, hD, hS, hl⟩ := hJ
    refine lv_iconst (v := 0) hx hb dX0_layOut_67 (by decide) ?_
    refine lv_topi (fun v4_26 ev4_26 => ?_)
    replace hF := nm_i hF ev4_26
    refine lv_istore (lv' := [(4, .int v4_26), (0, .ref aG_0), (1, .int p1), (2, .int p2), (3, .int p3)]) hx hb dX0_layOut_68 hl (by decide) rfl (fun ls hl => ?_)
    replace hF := bnd hF
    obtain ⟨q_87, hv_52, hF⟩ := hF
    obtain ⟨v4_31, ev4_31⟩ : ∃ y : Int32, y = q_87.1 := ⟨_, rfl⟩
    replace hF := nm_i hF ev4_31
    obtain ⟨zG_32, ezG_32⟩ : ∃ y : GS, y = q_87.2 := ⟨_, rfl⟩
    replace hF := nm_i hF ezG_32
    obtain rfl : q_87 = (v4_31, zG_32) := by rw [ev4_31, ezG_32]
    clear ev4_31
    clear ezG_32
    refine jn (P := fun H locs ls => va_P D vwCl (wcG ci aG_0 aG_1 aG_2 aG_3 aG_4 zG_32) H ∧ va_D A (wcG ci aG_0 aG_1 aG_2 aG_3 aG_4 zG_32) ∧ va_S A s.heap H locs ∧ lv_has ls 6 [(0, .ref aG_0), (1, .int p1), (2, .int p2), (3, .int p3), (4, .int v4_31)]) (pcJ := 105) (st := []) ?_ ?_
    · intro H locs ls hJ
      obtain ⟨hP, hD, hS, hl⟩ := hJ
      refine lv_iconst (v := 0) hx hb dX0_layOut_105 (by decide) ?_
      refine lv_topi (fun v4_53 ev4_53 => ?_)
      replace hF := nm_i hF ev4_53
      refine lv_istore (lv' := [(4, .int v4_53), (0, .ref aG_0), (1, .int p1), (2, .int p2), (3, .int p3)]) hx hb dX0_layOut_106 hl (by decide) rfl (fun ls hl => ?_)
      replace hF := bnd hF
      obtain ⟨q_86, hv_68, hF⟩ := hF
      obtain ⟨v4_58, ev4_58⟩ : ∃ y : Int32, y = q_86.1 := ⟨_, rfl⟩
      replace hF := nm_i hF ev4_58
      obtain ⟨zG_59, ezG_59⟩ : ∃ y : GS, y = q_86.2 := ⟨_, rfl⟩
      replace hF := nm_i hF ezG_59
      obtain rfl : q_86 = (v4_58, zG_59) := by rw [ev4_58, ezG_59]
      clear ev4_58
      clear ezG_59
      refine jn (P := fun H locs ls => va_P D vwCl (wcG ci aG_0 aG_1 aG_2 aG_3 aG_4 zG_59) H ∧ va_D A (wcG ci aG_0 aG_1 aG_2 aG_3 aG_4 zG_59) ∧ va_S A s.heap H locs ∧ lv_has ls 6 [(0, .ref aG_0), (1, .int p1), (2, .int p2), (3, .int p3), (4, .int v4_58)]) (pcJ := 149) (st := []) ?_ ?_
      · intro H locs ls hJ
        obtain ⟨hP, hD, hS, hl⟩ := hJ
        refine lv_iconst (v := 0) hx hb dX0_layOut_149 (by decide) ?_
        refine lv_topi (fun v4_69 ev4_69 => ?_)
        replace hF := nm_i hF ev4_69
        refine lv_istore (lv' := [(4, .int v4_69), (0, .ref aG_0), (1, .int p1), (2, .int p2), (3, .int p3)]) hx hb dX0_layOut_150 hl (by decide) rfl (fun ls hl => ?_)
        replace hF := bnd hF
        obtain ⟨q_85, hv_84, hF⟩ := hF
        obtain ⟨v4_74, ev4_74⟩ : ∃ y : Int32, y = q_85.1 := ⟨_, rfl⟩
        replace hF := nm_i hF ev4_74
        obtain ⟨zG_75, ezG_75⟩ : ∃ y : GS, y = q_85.2 := ⟨_, rfl⟩
        replace hF := nm_i hF ezG_75
        obtain rfl : q_85 = (v4_74, zG_75) := by rw [ev4_74, ezG_75]
        clear ev4_74
        clear ezG_75
        refine jn (P := fun H locs ls => va_P D vwCl (wcG ci aG_0 aG_1 aG_2 aG_3 aG_4 zG_75) H ∧ va_D A (wcG ci aG_0 aG_1 aG_2 aG_3 aG_4 zG_75) ∧ va_S A s.heap H locs ∧ lv_has ls 6 [(0, .ref aG_0), (1, .int p1), (2, .int p2), (3, .int p3), (4, .int v4_74)]) (pcJ := 196) (st := []) ?_ ?_
        · intro H locs ls hJ
          obtain ⟨hP, hD, hS, hl⟩ := hJ
          obtain rfl := Option.some.inj hF
          exact W.vret hx hb hr (fun t ht hW => ⟨⟨(), rfl, trivial, by rw [ht]; exact hP, va_K.moved hW.alike hK, hD⟩, hS.F ht⟩) hS.2.2 dX0_layOut_196
        · intro J_73
          clear hF
          have hF := hv_84
          refine lpW (σ := Int32 × GS) (I := fun n v H locs ls => L_X0_layOut_152 p1 p2 p3 n v.1 v.2 = some (v4_74, zG_75) ∧ va_P D vwCl (wcG ci aG_0 aG_1 aG_2 aG_3 aG_4 v.2) H ∧ va_D A (wcG ci aG_0 aG_1 aG_2 aG_3 aG_4 v.2) ∧ va_S A s.heap H locs ∧ lv_has ls 6 [(0, .ref aG_0), (1, .int p1), (2, .int p2), (3, .int p3), (4, .int v.1)]) 3000 (v4_69, zG_59) (fun _ _ _ _ h => no_none h.1) ⟨hF, hP, hD, hS, lv_sub hl [1, 2, 3, 4, 0] rfl⟩ ?_
          clear hF hP hD hS hl
          intro n ih_72 vq H locs ls hI
          obtain ⟨v4_70, zG_71⟩ := vq
          obtain ⟨hF, hP, hD, hS, hl⟩ := hI
          have hP : va_P D vwCl (wcG ci aG_0 aG_1 aG_2 aG_3 aG_4 zG_71) H := hP
          have hD : va_D A (wcG ci aG_0 aG_1 aG_2 aG_3 aG_4 zG_71) := hD
          have hl : lv_has ls 6 [(0, .ref aG_0), (1, .int p1), (2, .int p2), (3, .int p3), (4, .int v4_70)] := hl
          replace hF : L_X0_layOut_152 p1 p2 p3 (n + 1) v4_70 zG_71 = some (v4_74, zG_75) := hF
          rw [L_X0_layOut_152] at hF
          refine lv_iload hx hb dX0_layOut_152 (lv_at hl 4 rfl) ?_
          refine lv_aload_n hx hb dX0_layOut_154 rfl (lv_at hl 0 rfl) ?_
          refine va_get (D := D) (ci := 0) (v := .int (zG_71.1 2)) (C := RX0) (T := TX0) (N := 13) hx hb hts hin_RX0 hown hK hP 0 rfl rfl 2 (by decide) hk_3 (fun _ h9 => h9) rfl dX0_layOut_155 ?_
          refine lv_icmp_ge (tgt := 196) hx hb dX0_layOut_158 (by decide) (fun c_76 => ?_) (fun c_76 => ?_)
          · replace hF := if_i c_76 hF
            obtain ⟨g_77, g_78⟩ : v4_70 = v4_74 ∧ zG_71 = zG_75 := by have h9 := Option.some.inj hF; simpa only [Prod.mk.injEq] using h9
            subst g_77
            subst g_78
            exact J_73 H locs ls ⟨hP, hD, hS, lv_sub hl [0, 1, 2, 3, 4] rfl⟩
          · replace hF := if_o c_76 hF
            refine lv_aload_n hx hb dX0_layOut_161 rfl (lv_at hl 0 rfl) ?_
            refine va_get (D := D) (ci := 0) (v := .int (zG_71.1 7)) (C := RX0) (T := TX0) (N := 13) hx hb hts hin_RX0 hown hK hP 0 rfl rfl 7 (by decide) hk_7 (fun _ h9 => h9) rfl dX0_layOut_162 ?_
            refine lv_iconst (v := 1) hx hb dX0_layOut_165 (by decide) ?_
            refine lv_iload hx hb dX0_layOut_166 (lv_at hl 4 rfl) ?_
            refine lv_ishl hx hb dX0_layOut_168 ?_
            refine lv_iand hx hb dX0_layOut_169 ?_
            refine lv_if_eq (tgt := 190) hx hb dX0_layOut_170 (by decide) (fun c_79 => ?_) (fun c_79 => ?_)
            · replace hF := if_i c_79 hF
              obtain ⟨v4_80, ev4_80⟩ : ∃ y : Int32, y = v4_70 + 1 := ⟨_, rfl⟩
              replace hF := nm_i hF ev4_80
              refine lv_iinc (v := v4_80) (lv' := [(4, .int v4_80), (0, .ref aG_0), (1, .int p1), (2, .int p2), (3, .int p3)]) hx hb dX0_layOut_190 hl (k := 4) rfl (by rw [ev4_80]; rfl) (by decide) rfl (fun ls hl => ?_)
              refine lv_goto (tgt := 152) hx hb dX0_layOut_193 (by decide) ?_
              exact ih_72 (v4_80, zG_71) H locs ls ⟨hF, hP, hD, hS, lv_sub hl [1, 2, 3, 4, 0] rfl⟩
            · replace hF := if_o c_79 hF
              refine lv_aload_n hx hb dX0_layOut_173 rfl (lv_at hl 0 rfl) ?_
              refine lv_iload hx hb dX0_layOut_174 (lv_at hl 4 rfl) ?_
              refine lv_iload hx hb dX0_layOut_176 (lv_at hl 4 rfl) ?_
              refine lv_iload_n hx hb dX0_layOut_178 rfl (lv_at hl 1 rfl) ?_
              refine lv_iadd hx hb dX0_layOut_179 ?_
              refine lv_lconst (v := 1) hx hb dX0_layOut_180 (by decide) ?_
              refine lv_bipush (v := 32) hx hb dX0_layOut_181 (by decide) ?_
              refine lv_iload hx hb dX0_layOut_183 (lv_at hl 4 rfl) ?_
              refine lv_iadd hx hb dX0_layOut_185 ?_
              refine lv_lshl (v := (lshl 1 (32 + v4_70))) hx hb dX0_layOut_186 rfl ?_
              replace hF := bnd hF
              obtain ⟨zG_81, hc_82, hF⟩ := hF
              refine cl_Vv0 (As := [.int v4_70, .int (v4_70 + p1), .long (lshl 1 (32 + v4_70))]) (rest := []) ⟨hx, hb, hml, hown, hts⟩ (cwV 3 hts gX0_layOut_X0_addEdge rfl rfl rfl (by decide +kernel) ⟨Nat.le_of_ble_eq_true rfl, Nat.le_of_ble_eq_true rfl⟩) (c_X0_addEdge l D ci aG_0 aG_1 aG_2 aG_3 aG_4 H.size zG_71 v4_70 (v4_70 + p1) (lshl 1 (32 + v4_70)) _ hc_82) hK hP hD hS hA 0 rfl rfl rfl rfl hl.1 (Nat.le_of_ble_eq_true rfl) dX0_layOut_187 (Nat.zero_le _) (Nat.zero_le _) (fun H locs hP hD hS => ?_)
              have hP : va_P D vwCl (wcG ci aG_0 aG_1 aG_2 aG_3 aG_4 zG_81) H := hP
              have hD : va_D A (wcG ci aG_0 aG_1 aG_2 aG_3 aG_4 zG_81) := hD
              obtain ⟨v4_83, ev4_83⟩ : ∃ y : Int32, y = v4_70 + 1 := ⟨_, rfl⟩
              replace hF := nm_i hF ev4_83
              refine lv_iinc (v := v4_83) (lv' := [(4, .int v4_83), (0, .ref aG_0), (1, .int p1), (2, .int p2), (3, .int p3)]) hx hb dX0_layOut_190 hl (k := 4) rfl (by rw [ev4_83]; rfl) (by decide) rfl (fun ls hl => ?_)
              refine lv_goto (tgt := 152) hx hb dX0_layOut_193 (by decide) ?_
              exact ih_72 (v4_83, zG_81) H locs ls ⟨hF, hP, hD, hS, lv_sub hl [1, 2, 3, 4, 0] rfl⟩
      · intro J_57
        clear hF
        have hF := hv_68
        refine lpW (σ := Int32 × GS) (I := fun n v H locs ls => L_X0_layOut_108 p1 p2 p3 n v.1 v.2 = some (v4_58, zG_59) ∧ va_P D vwCl (wcG ci aG_0 aG_1 aG_2 aG_3 aG_4 v.2) H ∧ va_D A (wcG ci aG_0 aG_1 aG_2 aG_3 aG_4 v.2) ∧ va_S A s.heap H locs ∧ lv_has ls 6 [(0, .ref aG_0), (1, .int p1), (2, .int p2), (3, .int p3), (4, .int v.1)]) 3000 (v4_53, zG_32) (fun _ _ _ _ h => no_none h.1) ⟨hF, hP, hD, hS, lv_sub hl [1, 2, 3, 4, 0] rfl⟩ ?_
        clear hF hP hD hS hl
        intro n ih_56 vq H locs ls hI
        obtain ⟨v4_54, zG_55⟩ := vq
        obtain ⟨hF, hP, hD, hS, hl⟩ := hI
        have hP : va_P D vwCl (wcG ci aG_0 aG_1 aG_2 aG_3 aG_4 zG_55) H := hP
        have hD : va_D A (wcG ci aG_0 aG_1 aG_2 aG_3 aG_4 zG_55) := hD
        have hl : lv_has ls 6 [(0, .ref aG_0), (1, .int p1), (2, .int p2), (3, .int p3), (4, .int v4_54)] := hl
        replace hF : L_X0_layOut_108 p1 p2 p3 (n + 1) v4_54 zG_55 = some (v4_58, zG_59) := hF
        rw [L_X0_layOut_108] at hF
        refine lv_iload hx hb dX0_layOut_108 (lv_at hl 4 rfl) ?_
        refine lv_aload_n hx hb dX0_layOut_110 rfl (lv_at hl 0 rfl) ?_
        refine va_get (D := D) (ci := 0) (v := .int (zG_55.1 2)) (C := RX0) (T := TX0) (N := 13) hx hb hts hin_RX0 hown hK hP 0 rfl rfl 2 (by decide) hk_3 (fun _ h9 => h9) rfl dX0_layOut_111 ?_
        refine lv_icmp_ge (tgt := 149) hx hb dX0_layOut_114 (by decide) (fun c_60 => ?_) (fun c_60 => ?_)
        · replace hF := if_i c_60 hF
          obtain ⟨g_61, g_62⟩ : v4_54 = v4_58 ∧ zG_55 = zG_59 := by have h9 := Option.some.inj hF; simpa only [Prod.mk.injEq] using h9
          subst g_61
          subst g_62
          exact J_57 H locs ls ⟨hP, hD, hS, lv_sub hl [0, 1, 2, 3, 4] rfl⟩
        · replace hF := if_o c_60 hF
          refine lv_aload_n hx hb dX0_layOut_117 rfl (lv_at hl 0 rfl) ?_
          refine va_get (D := D) (ci := 0) (v := .int (zG_55.1 6)) (C := RX0) (T := TX0) (N := 13) hx hb hts hin_RX0 hown hK hP 0 rfl rfl 6 (by decide) hk_6 (fun _ h9 => h9) rfl dX0_layOut_118 ?_
          refine lv_iconst (v := 1) hx hb dX0_layOut_121 (by decide) ?_
          refine lv_iload hx hb dX0_layOut_122 (lv_at hl 4 rfl) ?_
          refine lv_ishl hx hb dX0_layOut_124 ?_
          refine lv_iand hx hb dX0_layOut_125 ?_
          refine lv_if_eq (tgt := 143) hx hb dX0_layOut_126 (by decide) (fun c_63 => ?_) (fun c_63 => ?_)
          · replace hF := if_i c_63 hF
            obtain ⟨v4_64, ev4_64⟩ : ∃ y : Int32, y = v4_54 + 1 := ⟨_, rfl⟩
            replace hF := nm_i hF ev4_64
            refine lv_iinc (v := v4_64) (lv' := [(4, .int v4_64), (0, .ref aG_0), (1, .int p1), (2, .int p2), (3, .int p3)]) hx hb dX0_layOut_143 hl (k := 4) rfl (by rw [ev4_64]; rfl) (by decide) rfl (fun ls hl => ?_)
            refine lv_goto (tgt := 108) hx hb dX0_layOut_146 (by decide) ?_
            exact ih_56 (v4_64, zG_55) H locs ls ⟨hF, hP, hD, hS, lv_sub hl [1, 2, 3, 4, 0] rfl⟩
          · replace hF := if_o c_63 hF
            refine lv_aload_n hx hb dX0_layOut_129 rfl (lv_at hl 0 rfl) ?_
            refine lv_iload hx hb dX0_layOut_130 (lv_at hl 4 rfl) ?_
            refine lv_iload hx hb dX0_layOut_132 (lv_at hl 4 rfl) ?_
            refine lv_iconst (v := 1) hx hb dX0_layOut_134 (by decide) ?_
            refine lv_iadd hx hb dX0_layOut_135 ?_
            refine lv_lconst (v := 1) hx hb dX0_layOut_136 (by decide) ?_
            refine lv_iload hx hb dX0_layOut_137 (lv_at hl 4 rfl) ?_
            refine lv_lshl (v := (lshl 1 v4_54)) hx hb dX0_layOut_139 rfl ?_
            replace hF := bnd hF
            obtain ⟨zG_65, hc_66, hF⟩ := hF
            refine cl_Vv0 (As := [.int v4_54, .int (v4_54 + 1), .long (lshl 1 v4_54)]) (rest := []) ⟨hx, hb, hml, hown, hts⟩ (cwV 3 hts gX0_layOut_X0_addEdge rfl rfl rfl (by decide +kernel) ⟨Nat.le_of_ble_eq_true rfl, Nat.le_of_ble_eq_true rfl⟩) (c_X0_addEdge l D ci aG_0 aG_1 aG_2 aG_3 aG_4 H.size zG_55 v4_54 (v4_54 + 1) (lshl 1 v4_54) _ hc_66) hK hP hD hS hA 0 rfl rfl rfl rfl hl.1 (Nat.le_of_ble_eq_true rfl) dX0_layOut_140 (Nat.zero_le _) (Nat.zero_le _) (fun H locs hP hD hS => ?_)
            have hP : va_P D vwCl (wcG ci aG_0 aG_1 aG_2 aG_3 aG_4 zG_65) H := hP
            have hD : va_D A (wcG ci aG_0 aG_1 aG_2 aG_3 aG_4 zG_65) := hD
            obtain ⟨v4_67, ev4_67⟩ : ∃ y : Int32, y = v4_54 + 1 := ⟨_, rfl⟩
            replace hF := nm_i hF ev4_67
            refine lv_iinc (v := v4_67) (lv' := [(4, .int v4_67), (0, .ref aG_0), (1, .int p1), (2, .int p2), (3, .int p3)]) hx hb dX0_layOut_143 hl (k := 4) rfl (by rw [ev4_67]; rfl) (by decide) rfl (fun ls hl => ?_)
            refine lv_goto (tgt := 108) hx hb dX0_layOut_146 (by decide) ?_
            exact ih_56 (v4_67, zG_65) H locs ls ⟨hF, hP, hD, hS, lv_sub hl [1, 2, 3, 4, 0] rfl⟩
    · intro J_30
      clear hF
      have hF := hv_52
      refine lpW (σ := Int32 × GS) (I := fun n v H locs ls => L_X0_layOut_70 p1 p2 p3 n v.1 v.2 = some (v4_31, zG_32) ∧ va_P D vwCl (wcG ci aG_0 aG_1 aG_2 aG_3 aG_4 v.2) H ∧ va_D A (wcG ci aG_0 aG_1 aG_2 aG_3 aG_4 v.2) ∧ va_S A s.heap H locs ∧ lv_has ls 6 [(0, .ref aG_0), (1, .int p1), (2, .int p2), (3, .int p3), (4, .int v.1)]) 3000 (v4_26, zG_13) (fun _ _ _ _ h => no_none h.1) ⟨hF, hP, hD, hS, lv_sub hl [1, 2, 3, 4, 0] rfl⟩ ?_
      clear hF hP hD hS hl
      intro n ih_29 vq H locs ls hI
      obtain ⟨v4_27, zG_28⟩ := vq
      obtain ⟨hF, hP, hD, hS, hl⟩ := hI
      have hP : va_P D vwCl (wcG ci aG_0 aG_1 aG_2 aG_3 aG_4 zG_28) H := hP
      have hD : va_D A (wcG ci aG_0 aG_1 aG_2 aG_3 aG_4 zG_28) := hD
      have hl : lv_has ls 6 [(0, .ref aG_0), (1, .int p1), (2, .int p2), (3, .int p3), (4, .int v4_27)] := hl
      replace hF : L_X0_layOut_70 p1 p2 p3 (n + 1) v4_27 zG_28 = some (v4_31, zG_32) := hF
      rw [L_X0_layOut_70] at hF
      refine lv_iload hx hb dX0_layOut_70 (lv_at hl 4 rfl) ?_
      refine lv_iload_n hx hb dX0_layOut_72 rfl (lv_at hl 2 rfl) ?_
      refine lv_icmp_ge (tgt := 105) hx hb dX0_layOut_73 (by decide) (fun c_33 => ?_) (fun c_33 => ?_)
      · replace hF := if_i c_33 hF
        obtain ⟨g_34, g_35⟩ : v4_27 = v4_31 ∧ zG_28 = zG_32 := by have h9 := Option.some.inj hF; simpa only [Prod.mk.injEq] using h9
        subst g_34
        subst g_35
        exact J_30 H locs ls ⟨hP, hD, hS, lv_sub hl [0, 1, 2, 3, 4] rfl⟩
      · replace hF := if_o c_33 hF
        refine lv_iconst (v := 0) hx hb dX0_layOut_76 (by decide) ?_
        refine lv_topi (fun v5_36 ev5_36 => ?_)
        replace hF := nm_i hF ev5_36
        refine lv_istore (lv' := [(5, .int v5_36), (0, .ref aG_0), (1, .int p1), (2, .int p2), (3, .int p3), (4, .int v4_27)]) hx hb dX0_layOut_77 hl (by decide) rfl (fun ls hl => ?_)
        replace hF := bnd hF
        obtain ⟨q_51, hv_49, hF⟩ := hF
        obtain ⟨v5_41, ev5_41⟩ : ∃ y : Int32, y = q_51.1 := ⟨_, rfl⟩
        replace hF := nm_i hF ev5_41
        obtain ⟨zG_42, ezG_42⟩ : ∃ y : GS, y = q_51.2 := ⟨_, rfl⟩
        replace hF := nm_i hF ezG_42
        obtain rfl : q_51 = (v5_41, zG_42) := by rw [ev5_41, ezG_42]
        clear ev5_41
        clear ezG_42
        refine jn (P := fun H locs ls => va_P D vwCl (wcG ci aG_0 aG_1 aG_2 aG_3 aG_4 zG_42) H ∧ va_D A (wcG ci aG_0 aG_1 aG_2 aG_3 aG_4 zG_42) ∧ va_S A s.heap H locs ∧ lv_has ls 6 [(0, .ref aG_0), (1, .int p1), (2, .int p2), (3, .int p3), (4, .int v4_27), (5, .int v5_41)]) (pcJ := 99) (st := []) ?_ ?_
        · intro H locs ls hJ
          obtain ⟨hP, hD, hS, hl⟩ := hJ
          obtain ⟨v4_50, ev4_50⟩ : ∃ y : Int32, y = v4_27 + 1 := ⟨_, rfl⟩
          replace hF := nm_i hF ev4_50
          refine lv_iinc (v := v4_50) (lv' := [(4, .int v4_50), (0, .ref aG_0), (1, .int p1), (2, .int p2), (3, .int p3), (5, .int v5_41)]) hx hb dX0_layOut_99 hl (k := 4) rfl (by rw [ev4_50]; rfl) (by decide) rfl (fun ls hl => ?_)
          refine lv_goto (tgt := 70) hx hb dX0_layOut_102 (by decide) ?_
          exact ih_29 (v4_50, zG_42) H locs ls ⟨hF, hP, hD, hS, lv_sub hl [1, 2, 3, 4, 0] rfl⟩
        · intro J_40
          clear hF
          have hF := hv_49
          refine lpW (σ := Int32 × GS) (I := fun n v H locs ls => L_X0_layOut_79 p1 p2 p3 v4_27 n v.1 v.2 = some (v5_41, zG_42) ∧ va_P D vwCl (wcG ci aG_0 aG_1 aG_2 aG_3 aG_4 v.2) H ∧ va_D A (wcG ci aG_0 aG_1 aG_2 aG_3 aG_4 v.2) ∧ va_S A s.heap H locs ∧ lv_has ls 6 [(0, .ref aG_0), (1, .int p1), (2, .int p2), (3, .int p3), (4, .int v4_27), (5, .int v.1)]) 3000 (v5_36, zG_28) (fun _ _ _ _ h => no_none h.1) ⟨hF, hP, hD, hS, lv_sub hl [1, 2, 3, 4, 5, 0] rfl⟩ ?_
          clear hF hP hD hS hl
          intro n ih_39 vq H locs ls hI
          obtain ⟨v5_37, zG_38⟩ := vq
          obtain ⟨hF, hP, hD, hS, hl⟩ := hI
          have hP : va_P D vwCl (wcG ci aG_0 aG_1 aG_2 aG_3 aG_4 zG_38) H := hP
          have hD : va_D A (wcG ci aG_0 aG_1 aG_2 aG_3 aG_4 zG_38) := hD
          have hl : lv_has ls 6 [(0, .ref aG_0), (1, .int p1), (2, .int p2), (3, .int p3), (4, .int v4_27), (5, .int v5_37)] := hl
          replace hF : L_X0_layOut_79 p1 p2 p3 v4_27 (n + 1) v5_37 zG_38 = some (v5_41, zG_42) := hF
          rw [L_X0_layOut_79] at hF
          refine lv_iload hx hb dX0_layOut_79 (lv_at hl 5 rfl) ?_
          refine lv_iload_n hx hb dX0_layOut_81 rfl (lv_at hl 1 rfl) ?_
          refine lv_icmp_ge (tgt := 99) hx hb dX0_layOut_82 (by decide) (fun c_43 => ?_) (fun c_43 => ?_)
          · replace hF := if_i c_43 hF
            obtain ⟨g_44, g_45⟩ : v5_37 = v5_41 ∧ zG_38 = zG_42 := by have h9 := Option.some.inj hF; simpa only [Prod.mk.injEq] using h9
            subst g_44
            subst g_45
            exact J_40 H locs ls ⟨hP, hD, hS, lv_sub hl [0, 1, 2, 3, 4, 5] rfl⟩
          · replace hF := if_o c_43 hF
            refine lv_aload_n hx hb dX0_layOut_85 rfl (lv_at hl 0 rfl) ?_
            refine lv_iload hx hb dX0_layOut_86 (lv_at hl 5 rfl) ?_
            refine lv_iload hx hb dX0_layOut_88 (lv_at hl 4 rfl) ?_
            replace hF := bnd hF
            obtain ⟨zG_46, hc_47, hF⟩ := hF
            refine cl_Vv0 (As := [.int v5_37, .int v4_27]) (rest := []) ⟨hx, hb, hml, hown, hts⟩ (cwV 2 hts gX0_layOut_X0_layField rfl rfl rfl (by decide +kernel) ⟨Nat.le_of_ble_eq_true rfl, Nat.le_of_ble_eq_true rfl⟩) (c_X0_layField l D ci aG_0 aG_1 aG_2 aG_3 aG_4 H.size zG_38 v5_37 v4_27 _ hc_47) hK hP hD hS hA 0 rfl rfl rfl rfl hl.1 (Nat.le_of_ble_eq_true rfl) dX0_layOut_90 (Nat.zero_le _) (Nat.zero_le _) (fun H locs hP hD hS => ?_)
            have hP : va_P D vwCl (wcG ci aG_0 aG_1 aG_2 aG_3 aG_4 zG_46) H := hP
            have hD : va_D A (wcG ci aG_0 aG_1 aG_2 aG_3 aG_4 zG_46) := hD
            obtain ⟨v5_48, ev5_48⟩ : ∃ y : Int32, y = v5_37 + 1 := ⟨_, rfl⟩
            replace hF := nm_i hF ev5_48
            refine lv_iinc (v := v5_48) (lv' := [(5, .int v5_48), (0, .ref aG_0), (1, .int p1), (2, .int p2), (3, .int p3), (4, .int v4_27)]) hx hb dX0_layOut_93 hl (k := 5) rfl (by rw [ev5_48]; rfl) (by decide) rfl (fun ls hl => ?_)
            refine lv_goto (tgt := 79) hx hb dX0_layOut_96 (by decide) ?_
            exact ih_39 (v5_48, zG_46) H locs ls ⟨hF, hP, hD, hS, lv_sub hl [1, 2, 3, 4, 5, 0] rfl⟩
  · intro J_11
    clear hF
    have hF := hv_25
    refine lpW (σ := Int32 × GS) (I := fun n v H locs ls => L_X0_layOut_24 p1 p2 p3 n v.1 v.2 = some (v4_12, zG_13) ∧ va_P D vwCl (wcG ci aG_0 aG_1 aG_2 aG_3 aG_4 v.2) H ∧ va_D A (wcG ci aG_0 aG_1 aG_2 aG_3 aG_4 v.2) ∧ va_S A s.heap H locs ∧ lv_has ls 6 [(0, .ref aG_0), (1, .int p1), (2, .int p2), (3, .int p3), (4, .int v.1)]) 3000 (v4_7, zG_6) (fun _ _ _ _ h => no_none h.1) ⟨hF, hP, hD, hS, lv_sub hl [1, 2, 3, 4, 0] rfl⟩ ?_
    clear hF hP hD hS hl
    intro n ih_10 vq H locs ls hI
    obtain ⟨v4_8, zG_9⟩ := vq
    obtain ⟨hF, hP, hD, hS, hl⟩ := hI
    have hP : va_P D vwCl (wcG ci aG_0 aG_1 aG_2 aG_3 aG_4 zG_9) H := hP
    have hD : va_D A (wcG ci aG_0 aG_1 aG_2 aG_3 aG_4 zG_9) := hD
    have hl : lv_has ls 6 [(0, .ref aG_0), (1, .int p1), (2, .int p2), (3, .int p3), (4, .int v4_8)] := hl
    replace hF : L_X0_layOut_24 p1 p2 p3 (n + 1) v4_8 zG_9 = some (v4_12, zG_13) := hF
    rw [L_X0_layOut_24] at hF
    refine lv_iload hx hb dX0_layOut_24 (lv_at hl 4 rfl) ?_
    refine lv_aload_n hx hb dX0_layOut_26 rfl (lv_at hl 0 rfl) ?_
    refine va_get (D := D) (ci := 0) (v := .int (zG_9.1 2)) (C := RX0) (T := TX0) (N := 13) hx hb hts hin_RX0 hown hK hP 0 rfl rfl 2 (by decide) hk_3 (fun _ h9 => h9) rfl dX0_layOut_27 ?_
    refine lv_icmp_ge (tgt := 67) hx hb dX0_layOut_30 (by decide) (fun c_14 => ?_) (fun c_14 => ?_)
    · replace hF := if_i c_14 hF
      obtain ⟨g_15, g_16⟩ : v4_8 = v4_12 ∧ zG_9 = zG_13 := by have h9 := Option.some.inj hF; simpa only [Prod.mk.injEq] using h9
      subst g_15
      subst g_16
      exact J_11 H locs ls ⟨hP, hD, hS, lv_sub hl [0, 1, 2, 3, 4] rfl⟩
    · replace hF := if_o c_14 hF
      refine lv_iload hx hb dX0_layOut_33 (lv_at hl 4 rfl) ?_
      refine lv_bipush (v := 25) hx hb dX0_layOut_35 (by decide) ?_
      refine lv_icmp_ge (tgt := 67) hx hb dX0_layOut_37 (by decide) (fun c_17 => ?_) (fun c_17 => ?_)
      · replace hF := if_i c_17 hF
        obtain ⟨g_18, g_19⟩ : v4_8 = v4_12 ∧ zG_9 = zG_13 := by have h9 := Option.some.inj hF; simpa only [Prod.mk.injEq] using h9
        subst g_18
        subst g_19
        exact J_11 H locs ls ⟨hP, hD, hS, lv_sub hl [0, 1, 2, 3, 4] rfl⟩
      · replace hF := if_o c_17 hF
        refine lv_aload_n hx hb dX0_layOut_40 rfl (lv_at hl 0 rfl) ?_
        refine va_get (D := D) (ci := 0) (v := .ref aG_1) (C := RX0) (T := TX0) (N := 13) hx hb hts hin_RX0 hown hK hP 0 rfl rfl 9 (by decide) hk_4 (fun _ h9 => h9) rfl dX0_layOut_41 ?_
        refine lv_iload hx hb dX0_layOut_44 (lv_at hl 4 rfl) ?_
        refine lv_iload_n hx hb dX0_layOut_46 rfl (lv_at hl 3 rfl) ?_
        replace hF := ast_i hF
        obtain ⟨hin_20, hF⟩ := hF
        refine va_iast (x := p3) hx hb hK hP hD hS 1 0 rfl rfl hin_20 dX0_layOut_47 (fun H locs hP hD hS => ?_)
        obtain ⟨zG_21, ezG_21⟩ : ∃ y : GS, y = (zG_9.1, zG_9.2.1, va_up zG_9.2.2.1 9 (upd (zG_9.2.2.1 9) (Int32.toNatClampNeg v4_8) p3), zG_9.2.2.2) := ⟨_, rfl⟩
        replace hF := nm_i hF ezG_21
        have hP : va_P D vwCl (wcG ci aG_0 aG_1 aG_2 aG_3 aG_4 zG_21) H := by rw [ezG_21]; exact hP
        have hD : va_D A (wcG ci aG_0 aG_1 aG_2 aG_3 aG_4 zG_21) := by rw [ezG_21]; exact hD
        refine lv_aload_n hx hb dX0_layOut_48 rfl (lv_at hl 0 rfl) ?_
        refine lv_dup hx hb dX0_layOut_49 rfl ?_
        refine va_get (D := D) (ci := 0) (v := .int (zG_21.1 4)) (C := RX0) (T := TX0) (N := 13) hx hb hts hin_RX0 hown hK hP 0 rfl rfl 4 (by decide) hk_5 (fun _ h9 => h9) rfl dX0_layOut_50 ?_
        refine lv_iconst (v := 1) hx hb dX0_layOut_53 (by decide) ?_
        refine lv_iload hx hb dX0_layOut_54 (lv_at hl 4 rfl) ?_
        refine lv_ishl hx hb dX0_layOut_56 ?_
        refine lv_ior hx hb dX0_layOut_57 ?_
        refine lv_topi (fun f4_22 ef4_22 => ?_)
        replace hF := nm_i hF ef4_22
        refine va_put (D := D) (ci := 0) (v := .int f4_22) (ty := .int) (C := RX0) (T := TX0) (N := 13) hx hb hts hin_RX0 tyX0 tyX0_ok nmX0 hown hK hP hD hS 0 rfl rfl 4 (by decide) hk_5 (fun _ h9 => h9) rfl (by decide +kernel) rfl rfl (Nat.le_of_ble_eq_true rfl) dX0_layOut_58 (fun H locs hP hD hS => ?_)
        obtain ⟨zG_23, ezG_23⟩ : ∃ y : GS, y = (upd zG_21.1 4 f4_22, zG_21.2) := ⟨_, rfl⟩
        replace hF := nm_i hF ezG_23
        have hP : va_P D vwCl (wcG ci aG_0 aG_1 aG_2 aG_3 aG_4 zG_23) H := by rw [ezG_23]; exact hP
        have hD : va_D A (wcG ci aG_0 aG_1 aG_2 aG_3 aG_4 zG_23) := by rw [ezG_23]; exact hD
        obtain ⟨v4_24, ev4_24⟩ : ∃ y : Int32, y = v4_8 + 1 := ⟨_, rfl⟩
        replace hF := nm_i hF ev4_24
        refine lv_iinc (v := v4_24) (lv' := [(4, .int v4_24), (0, .ref aG_0), (1, .int p1), (2, .int p2), (3, .int p3)]) hx hb dX0_layOut_61 hl (k := 4) rfl (by rw [ev4_24]; rfl) (by decide) rfl (fun ls hl => ?_)
        refine lv_goto (tgt := 24) hx hb dX0_layOut_64 (by decide) ?_
        exact ih_10 (v4_24, zG_23) H locs ls ⟨hF, hP, hD, hS, lv_sub hl [1, 2, 3, 4, 0] rfl⟩
noncomputable def f_X0_hasField (zG : GS) (p1 : Int32) : Option (Int32) := if p1 < 0 then (some (0 : Int32)) else (if (zG.1 2) ≤ p1 then (some (0 : Int32)) else (some (1 : Int32)))
set_option maxHeartbeats 4000000 in
set_option maxRecDepth 100000 in
theorem c_X0_hasField (l : Launch) (D : va_G) (ci : Nat → ClassId) (aG_0 : Nat) (aG_1 : Nat) (aG_2 : Nat) (aG_3 : Nat) (aG_4 : Nat) (sz : Nat) (zG : GS) (p1 : Int32) (res : Int32) (hF : f_X0_hasField zG p1 = some res) : CtI l yX0_hasField wsX0_hasField { frames := 0, cells := 0, slots := 0, locals := 0 } [.ref aG_0, .int p1] D ci (wcG ci aG_0 aG_1 aG_2 aG_3 aG_4 zG) sz res (wcG ci aG_0 aG_1 aG_2 aG_3 aG_4 zG) := by
  refine Met.ofW (cc := cX0_hasField) (maxL := 2) (ret := (some .boolean)) (by decide) rfl ?_
  intro p e s m args below meth c s₁ B hml hv
  obtain ⟨rfl, hsz, hP, hK, hD0⟩ := hv
  have hx := B.exec
  have hb := B.bytes
  have hr := B.returns
  have hts := atoms_spec (ws := wsX0_hasField) B.pre
  have hown : s.vm.findClass RX0 = some m.cls := findClass_of_methodNamed B.named
  have hlocks := B.notSynchronized
  subst hsz
  have hD := hD0.self (sz := s.heap.size)
  generalize hAe : va_A (wcG ci aG_0 aG_1 aG_2 aG_3 aG_4 zG) s.heap.size = A at hD ⊢
  have hA : ∀ q : Nat, s.heap.size ≤ q → A q := fun q h => by rw [← hAe]; exact Or.inr h
  clear hD0 hAe
  have hl := lv_entry ([.ref aG_0, .int p1]) (n := 2) (Nat.le_of_ble_eq_true rfl)
  rw [lg_entry_eq]
  generalize (lg_sl ([.ref aG_0, .int p1]) ++ List.replicate (2 - (lg_sl ([.ref aG_0, .int p1])).length) Slot.unset).toArray = ls at hl ⊢
  have hl : lv_has ls 2 [(0, .ref aG_0), (1, .int p1)] := hl
  have hP : va_P D vwCl (wcG ci aG_0 aG_1 aG_2 aG_3 aG_4 zG) s.heap := hP
  generalize hH0 : s.heap = H at hP ⊢
  have hS : va_S A s.heap H [] := by rw [← hH0]; exact va_S.rf
  clear hH0
  generalize ([] : List Loc) = locs at hS ⊢
  have hk_0 := hts (.fieldLink RX0 32 "HedgeWar$Ground" "fields" "I") (by decide +kernel)
  have hin_RX0 : ∀ w ∈ wsX00, w ∈ wsX0_hasField := by decide +kernel
  unfold f_X0_hasField at hF
  refine lv_iload_n hx hb dX0_hasField_0 rfl (lv_at hl 1 rfl) ?_
  refine lv_if_lt (tgt := 16) hx hb dX0_hasField_1 (by decide) (fun c_1 => ?_) (fun c_1 => ?_)
  · replace hF := if_i c_1 hF
    refine lv_iconst (v := 0) hx hb dX0_hasField_16 (by decide) ?_
    obtain rfl := Option.some.inj hF
    exact W.zret (v := 0) (ty := .boolean) hx hb hr rfl (fun t ht hW => ⟨⟨_, (), rfl, rfl, by rw [ht]; exact hP, va_K.moved hW.alike hK, hD⟩, hS.F ht⟩) hS.2.2 dX0_hasField_17
  · replace hF := if_o c_1 hF
    refine lv_iload_n hx hb dX0_hasField_4 rfl (lv_at hl 1 rfl) ?_
    refine lv_aload_n hx hb dX0_hasField_5 rfl (lv_at hl 0 rfl) ?_
    refine va_get (D := D) (ci := 0) (v := .int (zG.1 2)) (C := RX0) (T := TX0) (N := 13) hx hb hts hin_RX0 hown hK hP 0 rfl rfl 2 (by decide) hk_0 (fun _ h9 => h9) rfl dX0_hasField_6 ?_
    refine lv_icmp_ge (tgt := 16) hx hb dX0_hasField_9 (by decide) (fun c_2 => ?_) (fun c_2 => ?_)
    · replace hF := if_i c_2 hF
      refine lv_iconst (v := 0) hx hb dX0_hasField_16 (by decide) ?_
      obtain rfl := Option.some.inj hF
      exact W.zret (v := 0) (ty := .boolean) hx hb hr rfl (fun t ht hW => ⟨⟨_, (), rfl, rfl, by rw [ht]; exact hP, va_K.moved hW.alike hK, hD⟩, hS.F ht⟩) hS.2.2 dX0_hasField_17
    · replace hF := if_o c_2 hF
      refine lv_iconst (v := 1) hx hb dX0_hasField_12 (by decide) ?_
      refine lv_goto (tgt := 17) hx hb dX0_hasField_13 (by decide) ?_
      obtain rfl := Option.some.inj hF
      exact W.zret (v := 1) (ty := .boolean) hx hb hr rfl (fun t ht hW => ⟨⟨_, (), rfl, rfl, by rw [ht]; exact hP, va_K.moved hW.alike hK, hD⟩, hS.F ht⟩) hS.2.2 dX0_hasField_17
noncomputable def f_X0_hasEdge (zG : GS) (p1 : Int32) : Option (Int32) := if p1 < 0 then (some (0 : Int32)) else (if (zG.1 3) ≤ p1 then (some (0 : Int32)) else (some (1 : Int32)))
set_option maxHeartbeats 4000000 in
set_option maxRecDepth 100000 in
theorem c_X0_hasEdge (l : Launch) (D : va_G) (ci : Nat → ClassId) (aG_0 : Nat) (aG_1 : Nat) (aG_2 : Nat) (aG_3 : Nat) (aG_4 : Nat) (sz : Nat) (zG : GS) (p1 : Int32) (res : Int32) (hF : f_X0_hasEdge zG p1 = some res) : CtI l yX0_hasEdge wsX0_hasEdge { frames := 0, cells := 0, slots := 0, locals := 0 } [.ref aG_0, .int p1] D ci (wcG ci aG_0 aG_1 aG_2 aG_3 aG_4 zG) sz res (wcG ci aG_0 aG_1 aG_2 aG_3 aG_4 zG) := by
  refine Met.ofW (cc := cX0_hasEdge) (maxL := 2) (ret := (some .boolean)) (by decide) rfl ?_
  intro p e s m args below meth c s₁ B hml hv
  obtain ⟨rfl, hsz, hP, hK, hD0⟩ := hv
  have hx := B.exec
  have hb := B.bytes
  have hr := B.returns
  have hts := atoms_spec (ws := wsX0_hasEdge) B.pre
  have hown : s.vm.findClass RX0 = some m.cls := findClass_of_methodNamed B.named
  have hlocks := B.notSynchronized
  subst hsz
  have hD := hD0.self (sz := s.heap.size)
  generalize hAe : va_A (wcG ci aG_0 aG_1 aG_2 aG_3 aG_4 zG) s.heap.size = A at hD ⊢
  have hA : ∀ q : Nat, s.heap.size ≤ q → A q := fun q h => by rw [← hAe]; exact Or.inr h
  clear hD0 hAe
  have hl := lv_entry ([.ref aG_0, .int p1]) (n := 2) (Nat.le_of_ble_eq_true rfl)
  rw [lg_entry_eq]
  generalize (lg_sl ([.ref aG_0, .int p1]) ++ List.replicate (2 - (lg_sl ([.ref aG_0, .int p1])).length) Slot.unset).toArray = ls at hl ⊢
  have hl : lv_has ls 2 [(0, .ref aG_0), (1, .int p1)] := hl
  have hP : va_P D vwCl (wcG ci aG_0 aG_1 aG_2 aG_3 aG_4 zG) s.heap := hP
  generalize hH0 : s.heap = H at hP ⊢
  have hS : va_S A s.heap H [] := by rw [← hH0]; exact va_S.rf
  clear hH0
  generalize ([] : List Loc) = locs at hS ⊢
  have hk_0 := hts (.fieldLink RX0 35 "HedgeWar$Ground" "edges" "I") (by decide +kernel)
  have hin_RX0 : ∀ w ∈ wsX00, w ∈ wsX0_hasEdge := by decide +kernel
  unfold f_X0_hasEdge at hF
  refine lv_iload_n hx hb dX0_hasEdge_0 rfl (lv_at hl 1 rfl) ?_
  refine lv_if_lt (tgt := 16) hx hb dX0_hasEdge_1 (by decide) (fun c_1 => ?_) (fun c_1 => ?_)
  · replace hF := if_i c_1 hF
    refine lv_iconst (v := 0) hx hb dX0_hasEdge_16 (by decide) ?_
    obtain rfl := Option.some.inj hF
    exact W.zret (v := 0) (ty := .boolean) hx hb hr rfl (fun t ht hW => ⟨⟨_, (), rfl, rfl, by rw [ht]; exact hP, va_K.moved hW.alike hK, hD⟩, hS.F ht⟩) hS.2.2 dX0_hasEdge_17
  · replace hF := if_o c_1 hF
    refine lv_iload_n hx hb dX0_hasEdge_4 rfl (lv_at hl 1 rfl) ?_
    refine lv_aload_n hx hb dX0_hasEdge_5 rfl (lv_at hl 0 rfl) ?_
    refine va_get (D := D) (ci := 0) (v := .int (zG.1 3)) (C := RX0) (T := TX0) (N := 13) hx hb hts hin_RX0 hown hK hP 0 rfl rfl 3 (by decide) hk_0 (fun _ h9 => h9) rfl dX0_hasEdge_6 ?_
    refine lv_icmp_ge (tgt := 16) hx hb dX0_hasEdge_9 (by decide) (fun c_2 => ?_) (fun c_2 => ?_)
    · replace hF := if_i c_2 hF
      refine lv_iconst (v := 0) hx hb dX0_hasEdge_16 (by decide) ?_
      obtain rfl := Option.some.inj hF
      exact W.zret (v := 0) (ty := .boolean) hx hb hr rfl (fun t ht hW => ⟨⟨_, (), rfl, rfl, by rw [ht]; exact hP, va_K.moved hW.alike hK, hD⟩, hS.F ht⟩) hS.2.2 dX0_hasEdge_17
    · replace hF := if_o c_2 hF
      refine lv_iconst (v := 1) hx hb dX0_hasEdge_12 (by decide) ?_
      refine lv_goto (tgt := 17) hx hb dX0_hasEdge_13 (by decide) ?_
      obtain rfl := Option.some.inj hF
      exact W.zret (v := 1) (ty := .boolean) hx hb hr rfl (fun t ht hW => ⟨⟨_, (), rfl, rfl, by rw [ht]; exact hP, va_K.moved hW.alike hK, hD⟩, hS.F ht⟩) hS.2.2 dX0_hasEdge_17
noncomputable def f_X0_growthOn (zG : GS) (p1 : Int32) : Option (Int32) := ald 40 (zG.2.2.1 10) p1 fun x_2 => ald 25 (zG.2.2.1 9) x_2 fun x_4 => ald 40 (zG.2.2.1 11) p1 fun x_6 => ald 25 (zG.2.2.1 9) x_6 fun x_8 => dvi (4 : Int32) <| some (2 + ((x_4 + x_8) / 4))
set_option maxHeartbeats 4000000 in
set_option maxRecDepth 100000 in
theorem c_X0_growthOn (l : Launch) (D : va_G) (ci : Nat → ClassId) (aG_0 : Nat) (aG_1 : Nat) (aG_2 : Nat) (aG_3 : Nat) (aG_4 : Nat) (sz : Nat) (zG : GS) (p1 : Int32) (res : Int32) (hF : f_X0_growthOn zG p1 = some res) : CtI l yX0_growthOn wsX0_growthOn { frames := 0, cells := 0, slots := 0, locals := 0 } [.ref aG_0, .int p1] D ci (wcG ci aG_0 aG_1 aG_2 aG_3 aG_4 zG) sz res (wcG ci aG_0 aG_1 aG_2 aG_3 aG_4 zG) := by
  refine Met.ofW (cc := cX0_growthOn) (maxL := 2) (ret := (some .int)) (by decide) rfl ?_
  intro p e s m args below meth c s₁ B hml hv
  obtain ⟨rfl, hsz, hP, hK, hD0⟩ := hv
  have hx := B.exec
  have hb := B.bytes
  have hr := B.returns
  have hts := atoms_spec (ws := wsX0_growthOn) B.pre
  have hown : s.vm.findClass RX0 = some m.cls := findClass_of_methodNamed B.named
  have hlocks := B.notSynchronized
  subst hsz
  have hD := hD0.self (sz := s.heap.size)
  generalize hAe : va_A (wcG ci aG_0 aG_1 aG_2 aG_3 aG_4 zG) s.heap.size = A at hD ⊢
  have hA : ∀ q : Nat, s.heap.size ≤ q → A q := fun q h => by rw [← hAe]; exact Or.inr h
  clear hD0 hAe
  have hl := lv_entry ([.ref aG_0, .int p1]) (n := 2) (Nat.le_of_ble_eq_true rfl)
  rw [lg_entry_eq]
  generalize (lg_sl ([.ref aG_0, .int p1]) ++ List.replicate (2 - (lg_sl ([.ref aG_0, .int p1])).length) Slot.unset).toArray = ls at hl ⊢
  have hl : lv_has ls 2 [(0, .ref aG_0), (1, .int p1)] := hl
  have hP : va_P D vwCl (wcG ci aG_0 aG_1 aG_2 aG_3 aG_4 zG) s.heap := hP
  generalize hH0 : s.heap = H at hP ⊢
  have hS : va_S A s.heap H [] := by rw [← hH0]; exact va_S.rf
  clear hH0
  generalize ([] : List Loc) = locs at hS ⊢
  have hk_0 := hts (.fieldLink RX0 9 "HedgeWar$Ground" "soils" "[I") (by decide +kernel)
  have hin_RX0 : ∀ w ∈ wsX00, w ∈ wsX0_growthOn := by decide +kernel
  have hk_2 := hts (.fieldLink RX0 15 "HedgeWar$Ground" "lesser" "[I") (by decide +kernel)
  have hk_3 := hts (.fieldLink RX0 18 "HedgeWar$Ground" "greater" "[I") (by decide +kernel)
  unfold f_X0_growthOn at hF
  refine lv_iconst (v := 2) hx hb dX0_growthOn_0 (by decide) ?_
  refine lv_aload_n hx hb dX0_growthOn_1 rfl (lv_at hl 0 rfl) ?_
  refine va_get (D := D) (ci := 0) (v := .ref aG_1) (C := RX0) (T := TX0) (N := 13) hx hb hts hin_RX0 hown hK hP 0 rfl rfl 9 (by decide) hk_0 (fun _ h9 => h9) rfl dX0_growthOn_2 ?_
  refine lv_aload_n hx hb dX0_growthOn_5 rfl (lv_at hl 0 rfl) ?_
  refine va_get (D := D) (ci := 0) (v := .ref aG_2) (C := RX0) (T := TX0) (N := 13) hx hb hts hin_RX0 hown hK hP 0 rfl rfl 10 (by decide) hk_2 (fun _ h9 => h9) rfl dX0_growthOn_6 ?_
  refine lv_iload_n hx hb dX0_growthOn_9 rfl (lv_at hl 1 rfl) ?_
  replace hF := ald_i hF
  obtain ⟨hin_1, hF⟩ := hF
  refine va_iald hx hb hK hP 2 0 rfl rfl hin_1 dX0_growthOn_10 ?_
  refine lv_topi (fun x_2 ex_2 => ?_)
  replace hF := nm_i hF ex_2
  replace hF := ald_i hF
  obtain ⟨hin_3, hF⟩ := hF
  refine va_iald hx hb hK hP 1 0 rfl rfl hin_3 dX0_growthOn_11 ?_
  refine lv_topi (fun x_4 ex_4 => ?_)
  replace hF := nm_i hF ex_4
  refine lv_aload_n hx hb dX0_growthOn_12 rfl (lv_at hl 0 rfl) ?_
  refine va_get (D := D) (ci := 0) (v := .ref aG_1) (C := RX0) (T := TX0) (N := 13) hx hb hts hin_RX0 hown hK hP 0 rfl rfl 9 (by decide) hk_0 (fun _ h9 => h9) rfl dX0_growthOn_13 ?_
  refine lv_aload_n hx hb dX0_growthOn_16 rfl (lv_at hl 0 rfl) ?_
  refine va_get (D := D) (ci := 0) (v := .ref aG_3) (C := RX0) (T := TX0) (N := 13) hx hb hts hin_RX0 hown hK hP 0 rfl rfl 11 (by decide) hk_3 (fun _ h9 => h9) rfl dX0_growthOn_17 ?_
  refine lv_iload_n hx hb dX0_growthOn_20 rfl (lv_at hl 1 rfl) ?_
  replace hF := ald_i hF
  obtain ⟨hin_5, hF⟩ := hF
  refine va_iald hx hb hK hP 3 0 rfl rfl hin_5 dX0_growthOn_21 ?_
  refine lv_topi (fun x_6 ex_6 => ?_)
  replace hF := nm_i hF ex_6
  replace hF := ald_i hF
  obtain ⟨hin_7, hF⟩ := hF
  refine va_iald hx hb hK hP 1 0 rfl rfl hin_7 dX0_growthOn_22 ?_
  refine lv_topi (fun x_8 ex_8 => ?_)
  replace hF := nm_i hF ex_8
  refine lv_iadd hx hb dX0_growthOn_23 ?_
  refine lv_iconst (v := 4) hx hb dX0_growthOn_24 (by decide) ?_
  replace hF := dvi_i hF
  obtain ⟨hne_9, hF⟩ := hF
  refine lv_idiv hx hb dX0_growthOn_25 hne_9 ?_
  refine lv_iadd hx hb dX0_growthOn_26 ?_
  obtain rfl := Option.some.inj hF
  exact W.iret (v := (2 + ((x_4 + x_8) / 4))) hx hb hr (fun t ht hW => ⟨⟨_, (), rfl, rfl, by rw [ht]; exact hP, va_K.moved hW.alike hK, hD⟩, hS.F ht⟩) hS.2.2 dX0_growthOn_27
noncomputable def f_X0_heightOn (zG : GS) (p1 : Int32) (p2 : Int32) : Option (Int32) := (f_X0_growthOn zG p1).bind fun r_1 => some (imin 99 (p2 * r_1))
set_option maxHeartbeats 4000000 in
set_option maxRecDepth 100000 in
theorem c_X0_heightOn (l : Launch) (D : va_G) (ci : Nat → ClassId) (aG_0 : Nat) (aG_1 : Nat) (aG_2 : Nat) (aG_3 : Nat) (aG_4 : Nat) (sz : Nat) (zG : GS) (p1 : Int32) (p2 : Int32) (res : Int32) (hF : f_X0_heightOn zG p1 p2 = some res) : CtI l yX0_heightOn wsX0_heightOn { frames := 1, cells := 0, slots := 0, locals := 21 } [.ref aG_0, .int p1, .int p2] D ci (wcG ci aG_0 aG_1 aG_2 aG_3 aG_4 zG) sz res (wcG ci aG_0 aG_1 aG_2 aG_3 aG_4 zG) := by
  refine Met.ofW (cc := cX0_heightOn) (maxL := 3) (ret := (some .int)) (by decide) rfl ?_
  intro p e s m args below meth c s₁ B hml hv
  obtain ⟨rfl, hsz, hP, hK, hD0⟩ := hv
  have hx := B.exec
  have hb := B.bytes
  have hr := B.returns
  have hts := atoms_spec (ws := wsX0_heightOn) B.pre
  have hown : s.vm.findClass RX0 = some m.cls := findClass_of_methodNamed B.named
  have hlocks := B.notSynchronized
  subst hsz
  have hD := hD0.self (sz := s.heap.size)
  generalize hAe : va_A (wcG ci aG_0 aG_1 aG_2 aG_3 aG_4 zG) s.heap.size = A at hD ⊢
  have hA : ∀ q : Nat, s.heap.size ≤ q → A q := fun q h => by rw [← hAe]; exact Or.inr h
  clear hD0 hAe
  have hl := lv_entry ([.ref aG_0, .int p1, .int p2]) (n := 3) (Nat.le_of_ble_eq_true rfl)
  rw [lg_entry_eq]
  generalize (lg_sl ([.ref aG_0, .int p1, .int p2]) ++ List.replicate (3 - (lg_sl ([.ref aG_0, .int p1, .int p2])).length) Slot.unset).toArray = ls at hl ⊢
  have hl : lv_has ls 3 [(0, .ref aG_0), (1, .int p1), (2, .int p2)] := hl
  have hP : va_P D vwCl (wcG ci aG_0 aG_1 aG_2 aG_3 aG_4 zG) s.heap := hP
  generalize hH0 : s.heap = H at hP ⊢
  have hS : va_S A s.heap H [] := by rw [← hH0]; exact va_S.rf
  clear hH0
  generalize ([] : List Loc) = locs at hS ⊢
  have hk_0 := hts (.methodLink RX0 75 Lib.Math.min.name) (by decide +kernel)
  have hk_1 := hts (.static Lib.Math.min.name) (by decide +kernel)
  have hk_2 := hts (.initialized "java/lang/Math") (by decide +kernel)
  have hk_3 := hts (.code Lib.Math.min.name Lib.Math.min.code 2 (some .int)) (by decide +kernel)
  unfold f_X0_heightOn at hF
  refine lv_bipush (v := 99) hx hb dX0_heightOn_0 (by decide) ?_
  refine lv_iload_n hx hb dX0_heightOn_2 rfl (lv_at hl 2 rfl) ?_
  refine lv_aload_n hx hb dX0_heightOn_3 rfl (lv_at hl 0 rfl) ?_
  refine lv_iload_n hx hb dX0_heightOn_4 rfl (lv_at hl 1 rfl) ?_
  replace hF := bnd hF
  obtain ⟨r_1, hc_2, hF⟩ := hF
  refine cl_Vi0 (As := [.int p1]) (rest := [.int p2, .int 99]) ⟨hx, hb, hml, hown, hts⟩ (cwV 1 hts gX0_heightOn_X0_growthOn rfl rfl rfl (by decide +kernel) ⟨Nat.le_of_ble_eq_true rfl, Nat.le_of_ble_eq_true rfl⟩) (c_X0_growthOn l D ci aG_0 aG_1 aG_2 aG_3 aG_4 H.size zG p1 _ hc_2) hK hP hD hS hA 0 rfl rfl rfl rfl hl.1 (Nat.le_of_ble_eq_true rfl) dX0_heightOn_5 (Nat.zero_le _) (Nat.zero_le _) (fun H locs hP hD hS => ?_)
  have hP : va_P D vwCl (wcG ci aG_0 aG_1 aG_2 aG_3 aG_4 zG) H := hP
  have hD : va_D A (wcG ci aG_0 aG_1 aG_2 aG_3 aG_4 zG) := hD
  refine lv_imul hx hb dX0_heightOn_8 ?_
  refine va_mmin hx hb (hml.trans hl.1.symm) hown hk_0 hk_1 hk_2 hk_3 (Nat.le_of_ble_eq_true rfl) (Nat.le_of_ble_eq_true rfl) (Nat.zero_le _) (Nat.zero_le _) dX0_heightOn_9 ?_
  refine W.eq (g2 := F0 m 12 ls [.int (imin 99 (p2 * r_1))]) rfl ?_
  obtain rfl := Option.some.inj hF
  exact W.iret (v := (imin 99 (p2 * r_1))) hx hb hr (fun t ht hW => ⟨⟨_, (), rfl, rfl, by rw [ht]; exact hP, va_K.moved hW.alike hK, hD⟩, hS.F ht⟩) hS.2.2 dX0_heightOn_12
noncomputable def L_X0_ageWhenTall_8 (zG : GS) (p1 : Int32) (r_1 : Int32) : Nat → Int32 → Option (Int32)
  | 0, _ => none
  | n + 1, v3_4 => if (12 : Int32) ≤ v3_4 then (some v3_4) else (if (12 : Int32) ≤ (v3_4 * r_1) then (some v3_4) else (nm (v3_4 + 1) fun v3_10 => L_X0_ageWhenTall_8 zG p1 r_1 n v3_10))
noncomputable def f_X0_ageWhenTall (zG : GS) (p1 : Int32) : Option (Int32) := (f_X0_growthOn zG p1).bind fun r_1 => nm (0 : Int32) fun v3_3 => (L_X0_ageWhenTall_8 zG p1 r_1 3000 v3_3).bind fun v3_7 => some v3_7
set_option maxHeartbeats 4000000 in
set_option maxRecDepth 100000 in
theorem c_X0_ageWhenTall (l : Launch) (D : va_G) (ci : Nat → ClassId) (aG_0 : Nat) (aG_1 : Nat) (aG_2 : Nat) (aG_3 : Nat) (aG_4 : Nat) (sz : Nat) (zG : GS) (p1 : Int32) (res : Int32) (hF : f_X0_ageWhenTall zG p1 = some res) : CtI l yX0_ageWhenTall wsX0_ageWhenTall { frames := 1, cells := 0, slots := 0, locals := 21 } [.ref aG_0, .int p1] D ci (wcG ci aG_0 aG_1 aG_2 aG_3 aG_4 zG) sz res (wcG ci aG_0 aG_1 aG_2 aG_3 aG_4 zG) := by
  refine Met.ofW (cc := cX0_ageWhenTall) (maxL := 4) (ret := (some .int)) (by decide) rfl ?_
  intro p e s m args below meth c s₁ B hml hv
  obtain ⟨rfl, hsz, hP, hK, hD0⟩ := hv
  have hx := B.exec
  have hb := B.bytes
  have hr := B.returns
  have hts := atoms_spec (ws := wsX0_ageWhenTall) B.pre
  have hown : s.vm.findClass RX0 = some m.cls := findClass_of_methodNamed B.named
  have hlocks := B.notSynchronized
  subst hsz
  have hD := hD0.self (sz := s.heap.size)
  generalize hAe : va_A (wcG ci aG_0 aG_1 aG_2 aG_3 aG_4 zG) s.heap.size = A at hD ⊢
  have hA : ∀ q : Nat, s.heap.size ≤ q → A q := fun q h => by rw [← hAe]; exact Or.inr h
  clear hD0 hAe
  have hl := lv_entry ([.ref aG_0, .int p1]) (n := 4) (Nat.le_of_ble_eq_true rfl)
  rw [lg_entry_eq]
  generalize (lg_sl ([.ref aG_0, .int p1]) ++ List.replicate (4 - (lg_sl ([.ref aG_0, .int p1])).length) Slot.unset).toArray = ls at hl ⊢
  have hl : lv_has ls 4 [(0, .ref aG_0), (1, .int p1)] := hl
  have hP : va_P D vwCl (wcG ci aG_0 aG_1 aG_2 aG_3 aG_4 zG) s.heap := hP
  generalize hH0 : s.heap = H at hP ⊢
  have hS : va_S A s.heap H [] := by rw [← hH0]; exact va_S.rf
  clear hH0
  generalize ([] : List Loc) = locs at hS ⊢
  unfold f_X0_ageWhenTall at hF
  refine lv_aload_n hx hb dX0_ageWhenTall_0 rfl (lv_at hl 0 rfl) ?_
  refine lv_iload_n hx hb dX0_ageWhenTall_1 rfl (lv_at hl 1 rfl) ?_
  replace hF := bnd hF
  obtain ⟨r_1, hc_2, hF⟩ := hF
  refine cl_Vi0 (As := [.int p1]) (rest := []) ⟨hx, hb, hml, hown, hts⟩ (cwV 1 hts gX0_ageWhenTall_X0_growthOn rfl rfl rfl (by decide +kernel) ⟨Nat.le_of_ble_eq_true rfl, Nat.le_of_ble_eq_true rfl⟩) (c_X0_growthOn l D ci aG_0 aG_1 aG_2 aG_3 aG_4 H.size zG p1 _ hc_2) hK hP hD hS hA 0 rfl rfl rfl rfl hl.1 (Nat.le_of_ble_eq_true rfl) dX0_ageWhenTall_2 (Nat.zero_le _) (Nat.zero_le _) (fun H locs hP hD hS => ?_)
  have hP : va_P D vwCl (wcG ci aG_0 aG_1 aG_2 aG_3 aG_4 zG) H := hP
  have hD : va_D A (wcG ci aG_0 aG_1 aG_2 aG_3 aG_4 zG) := hD
  refine lv_istore_n (lv' := [(2, .int r_1), (0, .ref aG_0), (1, .int p1)]) hx hb dX0_ageWhenTall_5 rfl hl (by decide) rfl (fun ls hl => ?_)
  refine lv_iconst (v := 0) hx hb dX0_ageWhenTall_6 (by decide) ?_
  refine lv_topi (fun v3_3 ev3_3 => ?_)
  replace hF := nm_i hF ev3_3
  refine lv_istore_n (lv' := [(3, .int v3_3), (2, .int r_1), (0, .ref aG_0), (1, .int p1)]) hx hb dX0_ageWhenTall_7 rfl hl (by decide) rfl (fun ls hl => ?_)
  replace hF := bnd hF
  obtain ⟨v3_7, hv_11, hF⟩ := hF
  refine jn (P := fun H locs ls => va_P D vwCl (wcG ci aG_0 aG_1 aG_2 aG_3 aG_4 zG) H ∧ va_D A (wcG ci aG_0 aG_1 aG_2 aG_3 aG_4 zG) ∧ va_S A s.heap H locs ∧ lv_has ls 4 [(0, .ref aG_0), (1, .int p1), (2, .int r_1), (3, .int v3_7)]) (pcJ := 28) (st := []) ?_ ?_
  · intro H locs ls hJ
    obtain ⟨hP, hD, hS, hl⟩ := hJ
    refine lv_iload_n hx hb dX0_ageWhenTall_28 rfl (lv_at hl 3 rfl) ?_
    obtain rfl := Option.some.inj hF
    exact W.iret (v := v3_7) hx hb hr (fun t ht hW => ⟨⟨_, (), rfl, rfl, by rw [ht]; exact hP, va_K.moved hW.alike hK, hD⟩, hS.F ht⟩) hS.2.2 dX0_ageWhenTall_29
  · intro J_6
    clear hF
    have hF := hv_11
    refine lpW (σ := Int32) (I := fun n v H locs ls => L_X0_ageWhenTall_8 zG p1 r_1 n v = some v3_7 ∧ va_P D vwCl (wcG ci aG_0 aG_1 aG_2 aG_3 aG_4 zG) H ∧ va_D A (wcG ci aG_0 aG_1 aG_2 aG_3 aG_4 zG) ∧ va_S A s.heap H locs ∧ lv_has ls 4 [(0, .ref aG_0), (1, .int p1), (2, .int r_1), (3, .int v)]) 3000 v3_3 (fun _ _ _ _ h => no_none h.1) ⟨hF, hP, hD, hS, lv_sub hl [2, 3, 1, 0] rfl⟩ ?_
    clear hF hP hD hS hl
    intro n ih_5 vq H locs ls hI
    obtain ⟨v3_4, rfl⟩ : ∃ y, y = vq := ⟨_, rfl⟩
    obtain ⟨hF, hP, hD, hS, hl⟩ := hI
    have hP : va_P D vwCl (wcG ci aG_0 aG_1 aG_2 aG_3 aG_4 zG) H := hP
    have hD : va_D A (wcG ci aG_0 aG_1 aG_2 aG_3 aG_4 zG) := hD
    have hl : lv_has ls 4 [(0, .ref aG_0), (1, .int p1), (2, .int r_1), (3, .int v3_4)] := hl
    replace hF : L_X0_ageWhenTall_8 zG p1 r_1 (n + 1) v3_4 = some v3_7 := hF
    rw [L_X0_ageWhenTall_8] at hF
    refine lv_iload_n hx hb dX0_ageWhenTall_8 rfl (lv_at hl 3 rfl) ?_
    refine lv_bipush (v := 12) hx hb dX0_ageWhenTall_9 (by decide) ?_
    refine lv_icmp_ge (tgt := 28) hx hb dX0_ageWhenTall_11 (by decide) (fun c_8 => ?_) (fun c_8 => ?_)
    · replace hF := if_i c_8 hF
      obtain rfl := Option.some.inj hF
      exact J_6 H locs ls ⟨hP, hD, hS, lv_sub hl [0, 1, 2, 3] rfl⟩
    · replace hF := if_o c_8 hF
      refine lv_iload_n hx hb dX0_ageWhenTall_14 rfl (lv_at hl 3 rfl) ?_
      refine lv_iload_n hx hb dX0_ageWhenTall_15 rfl (lv_at hl 2 rfl) ?_
      refine lv_imul hx hb dX0_ageWhenTall_16 ?_
      refine lv_bipush (v := 12) hx hb dX0_ageWhenTall_17 (by decide) ?_
      refine lv_icmp_ge (tgt := 28) hx hb dX0_ageWhenTall_19 (by decide) (fun c_9 => ?_) (fun c_9 => ?_)
      · replace hF := if_i c_9 hF
        obtain rfl := Option.some.inj hF
        exact J_6 H locs ls ⟨hP, hD, hS, lv_sub hl [0, 1, 2, 3] rfl⟩
      · replace hF := if_o c_9 hF
        obtain ⟨v3_10, ev3_10⟩ : ∃ y : Int32, y = v3_4 + 1 := ⟨_, rfl⟩
        replace hF := nm_i hF ev3_10
        refine lv_iinc (v := v3_10) (lv' := [(3, .int v3_10), (0, .ref aG_0), (1, .int p1), (2, .int r_1)]) hx hb dX0_ageWhenTall_22 hl (k := 3) rfl (by rw [ev3_10]; rfl) (by decide) rfl (fun ls hl => ?_)
        refine lv_goto (tgt := 8) hx hb dX0_ageWhenTall_25 (by decide) ?_
        exact ih_5 v3_10 H locs ls ⟨hF, hP, hD, hS, lv_sub hl [1, 2, 3, 0] rfl⟩
noncomputable def L_X0_mostAlikeOn_18 (zG : GS) (p1 : Int32) (p2 : Int32) (v3_3 : Int32) (v4_4 : Int32) : Nat → Int32 → Int32 → Option (Int32 × Int32)
  | 0, _, _ => none
  | n + 1, v5_14, v6_15 => if (20 : Int32) < v6_15 then (some (v5_14, v6_15)) else (if (p2 &&& ((1 : Int32) <<< (v6_15 &&& 31))) = 0 then (nm (v6_15 + 1) fun v6_24 => L_X0_mostAlikeOn_18 zG p1 p2 v3_3 v4_4 n v5_14 v6_24) else ((f_X0_heightOn zG p1 v4_4).bind fun r_25 => (f_X0_heightOn zG p1 v6_15).bind fun r_27 => if r_25 = r_27 then (nm (v5_14 + 1) fun v5_31 => nm (v6_15 + 1) fun v6_32 => L_X0_mostAlikeOn_18 zG p1 p2 v3_3 v4_4 n v5_31 v6_32) else (nm (v6_15 + 1) fun v6_30 => L_X0_mostAlikeOn_18 zG p1 p2 v3_3 v4_4 n v5_14 v6_30)))
noncomputable def L_X0_mostAlikeOn_5 (zG : GS) (p1 : Int32) (p2 : Int32) : Nat → Int32 → Int32 → Option (Int32 × Int32)
  | 0, _, _ => none
  | n + 1, v3_3, v4_4 => if (20 : Int32) < v4_4 then (some (v3_3, v4_4)) else (nm (0 : Int32) fun v5_12 => nm (0 : Int32) fun v6_13 => (L_X0_mostAlikeOn_18 zG p1 p2 v3_3 v4_4 3000 v5_12 v6_13).bind fun q_36 => nm q_36.1 fun v5_18 => nm q_36.2 fun v6_19 => nm (imax v3_3 v5_18) fun v3_34 => nm (v4_4 + 1) fun v4_35 => L_X0_mostAlikeOn_5 zG p1 p2 n v3_34 v4_35)
noncomputable def f_X0_mostAlikeOn (zG : GS) (p1 : Int32) (p2 : Int32) : Option (Int32) := nm (0 : Int32) fun v3_1 => nm (0 : Int32) fun v4_2 => (L_X0_mostAlikeOn_5 zG p1 p2 3000 v3_1 v4_2).bind fun q_38 => nm q_38.1 fun v3_7 => nm q_38.2 fun v4_8 => some v3_7
set_option maxHeartbeats 4000000 in
set_option maxRecDepth 100000 in
theorem c_X0_mostAlikeOn (l : Launch) (D : va_G) (ci : Nat → ClassId) (aG_0 : Nat) (aG_1 : Nat) (aG_2 : Nat) (aG_3 : Nat) (aG_4 : Nat) (sz : Nat) (zG : GS) (p1 : Int32) (p2 : Int32) (res : Int32) (hF : f_X0_mostAlikeOn zG p1 p2 = some res) : CtI l yX0_mostAlikeOn wsX0_mostAlikeOn { frames := 2, cells := 0, slots := 0, locals := 43 } [.ref aG_0, .int p1, .int p2] D ci (wcG ci aG_0 aG_1 aG_2 aG_3 aG_4 zG) sz res (wcG ci aG_0 aG_1 aG_2 aG_3 aG_4 zG) := by
  refine Met.ofW (cc := cX0_mostAlikeOn) (maxL := 7) (ret := (some .int)) (by decide) rfl ?_
  intro p e s m args below meth c s₁ B hml hv
  obtain ⟨rfl, hsz, hP, hK, hD0⟩ := hv
  have hx := B.exec
  have hb := B.bytes
  have hr := B.returns
  have hts := atoms_spec (ws := wsX0_mostAlikeOn) B.pre
  have hown : s.vm.findClass RX0 = some m.cls := findClass_of_methodNamed B.named
  have hlocks := B.notSynchronized
  subst hsz
  have hD := hD0.self (sz := s.heap.size)
  generalize hAe : va_A (wcG ci aG_0 aG_1 aG_2 aG_3 aG_4 zG) s.heap.size = A at hD ⊢
  have hA : ∀ q : Nat, s.heap.size ≤ q → A q := fun q h => by rw [← hAe]; exact Or.inr h
  clear hD0 hAe
  have hl := lv_entry ([.ref aG_0, .int p1, .int p2]) (n := 7) (Nat.le_of_ble_eq_true rfl)
  rw [lg_entry_eq]
  generalize (lg_sl ([.ref aG_0, .int p1, .int p2]) ++ List.replicate (7 - (lg_sl ([.ref aG_0, .int p1, .int p2])).length) Slot.unset).toArray = ls at hl ⊢
  have hl : lv_has ls 7 [(0, .ref aG_0), (1, .int p1), (2, .int p2)] := hl
  have hP : va_P D vwCl (wcG ci aG_0 aG_1 aG_2 aG_3 aG_4 zG) s.heap := hP
  generalize hH0 : s.heap = H at hP ⊢
  have hS : va_S A s.heap H [] := by rw [← hH0]; exact va_S.rf
  clear hH0
  generalize ([] : List Loc) = locs at hS ⊢
  have hk_0 := hts (.methodLink RX0 84 Lib.Math.max.name) (by decide +kernel)
  have hk_1 := hts (.static Lib.Math.max.name) (by decide +kernel)
  have hk_2 := hts (.initialized "java/lang/Math") (by decide +kernel)
  have hk_3 := hts (.code Lib.Math.max.name Lib.Math.max.code 2 (some .int)) (by decide +kernel)
  unfold f_X0_mostAlikeOn at hF
  refine lv_iconst (v := 0) hx hb dX0_mostAlikeOn_0 (by decide) ?_
  refine lv_topi (fun v3_1 ev3_1 => ?_)
  replace hF := nm_i hF ev3_1
  refine lv_istore_n (lv' := [(3, .int v3_1), (0, .ref aG_0), (1, .int p1), (2, .int p2)]) hx hb dX0_mostAlikeOn_1 rfl hl (by decide) rfl (fun ls hl => ?_)
  refine lv_iconst (v := 0) hx hb dX0_mostAlikeOn_2 (by decide) ?_
  refine lv_topi (fun v4_2 ev4_2 => ?_)
  replace hF := nm_i hF ev4_2
  refine lv_istore (lv' := [(4, .int v4_2), (3, .int v3_1), (0, .ref aG_0), (1, .int p1), (2, .int p2)]) hx hb dX0_mostAlikeOn_3 hl (by decide) rfl (fun ls hl => ?_)
  replace hF := bnd hF
  obtain ⟨q_38, hv_37, hF⟩ := hF
  obtain ⟨v3_7, ev3_7⟩ : ∃ y : Int32, y = q_38.1 := ⟨_, rfl⟩
  replace hF := nm_i hF ev3_7
  obtain ⟨v4_8, ev4_8⟩ : ∃ y : Int32, y = q_38.2 := ⟨_, rfl⟩
  replace hF := nm_i hF ev4_8
  obtain rfl : q_38 = (v3_7, v4_8) := by rw [ev3_7, ev4_8]
  clear ev3_7
  clear ev4_8
  refine jn (P := fun H locs ls => va_P D vwCl (wcG ci aG_0 aG_1 aG_2 aG_3 aG_4 zG) H ∧ va_D A (wcG ci aG_0 aG_1 aG_2 aG_3 aG_4 zG) ∧ va_S A s.heap H locs ∧ lv_has ls 7 [(0, .ref aG_0), (1, .int p1), (2, .int p2), (3, .int v3_7), (4, .int v4_8)]) (pcJ := 73) (st := []) ?_ ?_
  · intro H locs ls hJ
    obtain ⟨hP, hD, hS, hl⟩ := hJ
    refine lv_iload_n hx hb dX0_mostAlikeOn_73 rfl (lv_at hl 3 rfl) ?_
    obtain rfl := Option.some.inj hF
    exact W.iret (v := v3_7) hx hb hr (fun t ht hW => ⟨⟨_, (), rfl, rfl, by rw [ht]; exact hP, va_K.moved hW.alike hK, hD⟩, hS.F ht⟩) hS.2.2 dX0_mostAlikeOn_74
  · intro J_6
    clear hF
    have hF := hv_37
    refine lpW (σ := Int32 × Int32) (I := fun n v H locs ls => L_X0_mostAlikeOn_5 zG p1 p2 n v.1 v.2 = some (v3_7, v4_8) ∧ va_P D vwCl (wcG ci aG_0 aG_1 aG_2 aG_3 aG_4 zG) H ∧ va_D A (wcG ci aG_0 aG_1 aG_2 aG_3 aG_4 zG) ∧ va_S A s.heap H locs ∧ lv_has ls 7 [(0, .ref aG_0), (1, .int p1), (2, .int p2), (3, .int v.1), (4, .int v.2)]) 3000 (v3_1, v4_2) (fun _ _ _ _ h => no_none h.1) ⟨hF, hP, hD, hS, lv_sub hl [2, 3, 4, 1, 0] rfl⟩ ?_
    clear hF hP hD hS hl
    intro n ih_5 vq H locs ls hI
    obtain ⟨v3_3, v4_4⟩ := vq
    obtain ⟨hF, hP, hD, hS, hl⟩ := hI
    have hP : va_P D vwCl (wcG ci aG_0 aG_1 aG_2 aG_3 aG_4 zG) H := hP
    have hD : va_D A (wcG ci aG_0 aG_1 aG_2 aG_3 aG_4 zG) := hD
    have hl : lv_has ls 7 [(0, .ref aG_0), (1, .int p1), (2, .int p2), (3, .int v3_3), (4, .int v4_4)] := hl
    replace hF : L_X0_mostAlikeOn_5 zG p1 p2 (n + 1) v3_3 v4_4 = some (v3_7, v4_8) := hF
    rw [L_X0_mostAlikeOn_5] at hF
    refine lv_iload hx hb dX0_mostAlikeOn_5 (lv_at hl 4 rfl) ?_
    refine lv_bipush (v := 20) hx hb dX0_mostAlikeOn_7 (by decide) ?_
    refine lv_icmp_gt (tgt := 73) hx hb dX0_mostAlikeOn_9 (by decide) (fun c_9 => ?_) (fun c_9 => ?_)
    · replace hF := if_i c_9 hF
      obtain ⟨g_10, g_11⟩ : v3_3 = v3_7 ∧ v4_4 = v4_8 := by have h9 := Option.some.inj hF; simpa only [Prod.mk.injEq] using h9
      subst g_10
      subst g_11
      exact J_6 H locs ls ⟨hP, hD, hS, lv_sub hl [0, 1, 2, 3, 4] rfl⟩
    · replace hF := if_o c_9 hF
      refine lv_iconst (v := 0) hx hb dX0_mostAlikeOn_12 (by decide) ?_
      refine lv_topi (fun v5_12 ev5_12 => ?_)
      replace hF := nm_i hF ev5_12
      refine lv_istore (lv' := [(5, .int v5_12), (0, .ref aG_0), (1, .int p1), (2, .int p2), (3, .int v3_3), (4, .int v4_4)]) hx hb dX0_mostAlikeOn_13 hl (by decide) rfl (fun ls hl => ?_)
      refine lv_iconst (v := 0) hx hb dX0_mostAlikeOn_15 (by decide) ?_
      refine lv_topi (fun v6_13 ev6_13 => ?_)
      replace hF := nm_i hF ev6_13
      refine lv_istore (lv' := [(6, .int v6_13), (5, .int v5_12), (0, .ref aG_0), (1, .int p1), (2, .int p2), (3, .int v3_3), (4, .int v4_4)]) hx hb dX0_mostAlikeOn_16 hl (by decide) rfl (fun ls hl => ?_)
      replace hF := bnd hF
      obtain ⟨q_36, hv_33, hF⟩ := hF
      obtain ⟨v5_18, ev5_18⟩ : ∃ y : Int32, y = q_36.1 := ⟨_, rfl⟩
      replace hF := nm_i hF ev5_18
      obtain ⟨v6_19, ev6_19⟩ : ∃ y : Int32, y = q_36.2 := ⟨_, rfl⟩
      replace hF := nm_i hF ev6_19
      obtain rfl : q_36 = (v5_18, v6_19) := by rw [ev5_18, ev6_19]
      clear ev5_18
      clear ev6_19
      refine jn (P := fun H locs ls => va_P D vwCl (wcG ci aG_0 aG_1 aG_2 aG_3 aG_4 zG) H ∧ va_D A (wcG ci aG_0 aG_1 aG_2 aG_3 aG_4 zG) ∧ va_S A s.heap H locs ∧ lv_has ls 7 [(0, .ref aG_0), (1, .int p1), (2, .int p2), (3, .int v3_3), (4, .int v4_4), (5, .int v5_18), (6, .int v6_19)]) (pcJ := 60) (st := []) ?_ ?_
      · intro H locs ls hJ
        obtain ⟨hP, hD, hS, hl⟩ := hJ
        refine lv_iload_n hx hb dX0_mostAlikeOn_60 rfl (lv_at hl 3 rfl) ?_
        refine lv_iload hx hb dX0_mostAlikeOn_61 (lv_at hl 5 rfl) ?_
        refine va_mmax hx hb (hml.trans hl.1.symm) hown hk_0 hk_1 hk_2 hk_3 (Nat.le_of_ble_eq_true rfl) (Nat.le_of_ble_eq_true rfl) (Nat.zero_le _) (Nat.zero_le _) dX0_mostAlikeOn_63 ?_
        refine W.eq (g2 := F0 m 66 ls [.int (imax v3_3 v5_18)]) rfl ?_
        refine lv_topi (fun v3_34 ev3_34 => ?_)
        replace hF := nm_i hF ev3_34
        refine lv_istore_n (lv' := [(3, .int v3_34), (0, .ref aG_0), (1, .int p1), (2, .int p2), (4, .int v4_4), (5, .int v5_18), (6, .int v6_19)]) hx hb dX0_mostAlikeOn_66 rfl hl (by decide) rfl (fun ls hl => ?_)
        obtain ⟨v4_35, ev4_35⟩ : ∃ y : Int32, y = v4_4 + 1 := ⟨_, rfl⟩
        replace hF := nm_i hF ev4_35
        refine lv_iinc (v := v4_35) (lv' := [(4, .int v4_35), (3, .int v3_34), (0, .ref aG_0), (1, .int p1), (2, .int p2), (5, .int v5_18), (6, .int v6_19)]) hx hb dX0_mostAlikeOn_67 hl (k := 4) rfl (by rw [ev4_35]; rfl) (by decide) rfl (fun ls hl => ?_)
        refine lv_goto (tgt := 5) hx hb dX0_mostAlikeOn_70 (by decide) ?_
        exact ih_5 (v3_34, v4_35) H locs ls ⟨hF, hP, hD, hS, lv_sub hl [2, 3, 4, 1, 0] rfl⟩
      · intro J_17
        clear hF
        have hF := hv_33
        refine lpW (σ := Int32 × Int32) (I := fun n v H locs ls => L_X0_mostAlikeOn_18 zG p1 p2 v3_3 v4_4 n v.1 v.2 = some (v5_18, v6_19) ∧ va_P D vwCl (wcG ci aG_0 aG_1 aG_2 aG_3 aG_4 zG) H ∧ va_D A (wcG ci aG_0 aG_1 aG_2 aG_3 aG_4 zG) ∧ va_S A s.heap H locs ∧ lv_has ls 7 [(0, .ref aG_0), (1, .int p1), (2, .int p2), (3, .int v3_3), (4, .int v4_4), (5, .int v.1), (6, .int v.2)]) 3000 (v5_12, v6_13) (fun _ _ _ _ h => no_none h.1) ⟨hF, hP, hD, hS, lv_sub hl [2, 3, 4, 5, 6, 1, 0] rfl⟩ ?_
        clear hF hP hD hS hl
        intro n ih_16 vq H locs ls hI
        obtain ⟨v5_14, v6_15⟩ := vq
        obtain ⟨hF, hP, hD, hS, hl⟩ := hI
        have hP : va_P D vwCl (wcG ci aG_0 aG_1 aG_2 aG_3 aG_4 zG) H := hP
        have hD : va_D A (wcG ci aG_0 aG_1 aG_2 aG_3 aG_4 zG) := hD
        have hl : lv_has ls 7 [(0, .ref aG_0), (1, .int p1), (2, .int p2), (3, .int v3_3), (4, .int v4_4), (5, .int v5_14), (6, .int v6_15)] := hl
        replace hF : L_X0_mostAlikeOn_18 zG p1 p2 v3_3 v4_4 (n + 1) v5_14 v6_15 = some (v5_18, v6_19) := hF
        rw [L_X0_mostAlikeOn_18] at hF
        refine lv_iload hx hb dX0_mostAlikeOn_18 (lv_at hl 6 rfl) ?_
        refine lv_bipush (v := 20) hx hb dX0_mostAlikeOn_20 (by decide) ?_
        refine lv_icmp_gt (tgt := 60) hx hb dX0_mostAlikeOn_22 (by decide) (fun c_20 => ?_) (fun c_20 => ?_)
        · replace hF := if_i c_20 hF
          obtain ⟨g_21, g_22⟩ : v5_14 = v5_18 ∧ v6_15 = v6_19 := by have h9 := Option.some.inj hF; simpa only [Prod.mk.injEq] using h9
          subst g_21
          subst g_22
          exact J_17 H locs ls ⟨hP, hD, hS, lv_sub hl [0, 1, 2, 3, 4, 5, 6] rfl⟩
        · replace hF := if_o c_20 hF
          refine lv_iload_n hx hb dX0_mostAlikeOn_25 rfl (lv_at hl 2 rfl) ?_
          refine lv_iconst (v := 1) hx hb dX0_mostAlikeOn_26 (by decide) ?_
          refine lv_iload hx hb dX0_mostAlikeOn_27 (lv_at hl 6 rfl) ?_
          refine lv_ishl hx hb dX0_mostAlikeOn_29 ?_
          refine lv_iand hx hb dX0_mostAlikeOn_30 ?_
          refine lv_if_eq (tgt := 54) hx hb dX0_mostAlikeOn_31 (by decide) (fun c_23 => ?_) (fun c_23 => ?_)
          · replace hF := if_i c_23 hF
            obtain ⟨v6_24, ev6_24⟩ : ∃ y : Int32, y = v6_15 + 1 := ⟨_, rfl⟩
            replace hF := nm_i hF ev6_24
            refine lv_iinc (v := v6_24) (lv' := [(6, .int v6_24), (0, .ref aG_0), (1, .int p1), (2, .int p2), (3, .int v3_3), (4, .int v4_4), (5, .int v5_14)]) hx hb dX0_mostAlikeOn_54 hl (k := 6) rfl (by rw [ev6_24]; rfl) (by decide) rfl (fun ls hl => ?_)
            refine lv_goto (tgt := 18) hx hb dX0_mostAlikeOn_57 (by decide) ?_
            exact ih_16 (v5_14, v6_24) H locs ls ⟨hF, hP, hD, hS, lv_sub hl [1, 2, 3, 4, 5, 6, 0] rfl⟩
          · replace hF := if_o c_23 hF
            refine lv_aload_n hx hb dX0_mostAlikeOn_34 rfl (lv_at hl 0 rfl) ?_
            refine lv_iload_n hx hb dX0_mostAlikeOn_35 rfl (lv_at hl 1 rfl) ?_
            refine lv_iload hx hb dX0_mostAlikeOn_36 (lv_at hl 4 rfl) ?_
            replace hF := bnd hF
            obtain ⟨r_25, hc_26, hF⟩ := hF
            refine cl_Vi0 (As := [.int p1, .int v4_4]) (rest := []) ⟨hx, hb, hml, hown, hts⟩ (cwV 2 hts gX0_mostAlikeOn_X0_heightOn rfl rfl rfl (by decide +kernel) ⟨Nat.le_of_ble_eq_true rfl, Nat.le_of_ble_eq_true rfl⟩) (c_X0_heightOn l D ci aG_0 aG_1 aG_2 aG_3 aG_4 H.size zG p1 v4_4 _ hc_26) hK hP hD hS hA 0 rfl rfl rfl rfl hl.1 (Nat.le_of_ble_eq_true rfl) dX0_mostAlikeOn_38 (Nat.zero_le _) (Nat.zero_le _) (fun H locs hP hD hS => ?_)
            have hP : va_P D vwCl (wcG ci aG_0 aG_1 aG_2 aG_3 aG_4 zG) H := hP
            have hD : va_D A (wcG ci aG_0 aG_1 aG_2 aG_3 aG_4 zG) := hD
            refine lv_aload_n hx hb dX0_mostAlikeOn_41 rfl (lv_at hl 0 rfl) ?_
            refine lv_iload_n hx hb dX0_mostAlikeOn_42 rfl (lv_at hl 1 rfl) ?_
            refine lv_iload hx hb dX0_mostAlikeOn_43 (lv_at hl 6 rfl) ?_
            replace hF := bnd hF
            obtain ⟨r_27, hc_28, hF⟩ := hF
            refine cl_Vi0 (As := [.int p1, .int v6_15]) (rest := [.int r_25]) ⟨hx, hb, hml, hown, hts⟩ (cwV 2 hts gX0_mostAlikeOn_X0_heightOn rfl rfl rfl (by decide +kernel) ⟨Nat.le_of_ble_eq_true rfl, Nat.le_of_ble_eq_true rfl⟩) (c_X0_heightOn l D ci aG_0 aG_1 aG_2 aG_3 aG_4 H.size zG p1 v6_15 _ hc_28) hK hP hD hS hA 0 rfl rfl rfl rfl hl.1 (Nat.le_of_ble_eq_true rfl) dX0_mostAlikeOn_45 (Nat.zero_le _) (Nat.zero_le _) (fun H locs hP hD hS => ?_)
            have hP : va_P D vwCl (wcG ci aG_0 aG_1 aG_2 aG_3 aG_4 zG) H := hP
            have hD : va_D A (wcG ci aG_0 aG_1 aG_2 aG_3 aG_4 zG) := hD
            refine lv_icmp_ne (tgt := 54) hx hb dX0_mostAlikeOn_48 (by decide) (fun c_29 => ?_) (fun c_29 => ?_)
            · replace hF := if_o c_29 hF
              obtain ⟨v6_30, ev6_30⟩ : ∃ y : Int32, y = v6_15 + 1 := ⟨_, rfl⟩
              replace hF := nm_i hF ev6_30
              refine lv_iinc (v := v6_30) (lv' := [(6, .int v6_30), (0, .ref aG_0), (1, .int p1), (2, .int p2), (3, .int v3_3), (4, .int v4_4), (5, .int v5_14)]) hx hb dX0_mostAlikeOn_54 hl (k := 6) rfl (by rw [ev6_30]; rfl) (by decide) rfl (fun ls hl => ?_)
              refine lv_goto (tgt := 18) hx hb dX0_mostAlikeOn_57 (by decide) ?_
              exact ih_16 (v5_14, v6_30) H locs ls ⟨hF, hP, hD, hS, lv_sub hl [1, 2, 3, 4, 5, 6, 0] rfl⟩
            · replace hF := if_i c_29 hF
              obtain ⟨v5_31, ev5_31⟩ : ∃ y : Int32, y = v5_14 + 1 := ⟨_, rfl⟩
              replace hF := nm_i hF ev5_31
              refine lv_iinc (v := v5_31) (lv' := [(5, .int v5_31), (0, .ref aG_0), (1, .int p1), (2, .int p2), (3, .int v3_3), (4, .int v4_4), (6, .int v6_15)]) hx hb dX0_mostAlikeOn_51 hl (k := 5) rfl (by rw [ev5_31]; rfl) (by decide) rfl (fun ls hl => ?_)
              obtain ⟨v6_32, ev6_32⟩ : ∃ y : Int32, y = v6_15 + 1 := ⟨_, rfl⟩
              replace hF := nm_i hF ev6_32
              refine lv_iinc (v := v6_32) (lv' := [(6, .int v6_32), (5, .int v5_31), (0, .ref aG_0), (1, .int p1), (2, .int p2), (3, .int v3_3), (4, .int v4_4)]) hx hb dX0_mostAlikeOn_54 hl (k := 6) rfl (by rw [ev6_32]; rfl) (by decide) rfl (fun ls hl => ?_)
              refine lv_goto (tgt := 18) hx hb dX0_mostAlikeOn_57 (by decide) ?_
              exact ih_16 (v5_31, v6_32) H locs ls ⟨hF, hP, hD, hS, lv_sub hl [2, 3, 4, 5, 6, 1, 0] rfl⟩
noncomputable def f_X0_oneStepFrom (zG : GS) (p1 : Int32) (p2 : Int64) : Option (Int32) := nm ((zG.1 6) &&& ((Int64.toInt32 p2) ^^^ (-1))) fun v4_1 => nm ((zG.1 7) &&& ((Int64.toInt32 (lushr p2 32)) ^^^ (-1))) fun v5_2 => nm (((p1 &&& v4_1) <<< ((1 : Int32) &&& 31)) ||| ((iushr p1 1) &&& v4_1)) fun v6_3 => nm (((p1 &&& v5_2) <<< ((zG.1 0) &&& 31)) ||| ((iushr p1 (zG.1 0)) &&& v5_2)) fun v7_4 => some ((p1 ||| v6_3) ||| v7_4)
set_option maxHeartbeats 4000000 in
set_option maxRecDepth 100000 in
theorem c_X0_oneStepFrom (l : Launch) (D : va_G) (ci : Nat → ClassId) (aG_0 : Nat) (aG_1 : Nat) (aG_2 : Nat) (aG_3 : Nat) (aG_4 : Nat) (sz : Nat) (zG : GS) (p1 : Int32) (p2 : Int64) (res : Int32) (hF : f_X0_oneStepFrom zG p1 p2 = some res) : CtI l yX0_oneStepFrom wsX0_oneStepFrom { frames := 0, cells := 0, slots := 0, locals := 0 } [.ref aG_0, .int p1, .long p2] D ci (wcG ci aG_0 aG_1 aG_2 aG_3 aG_4 zG) sz res (wcG ci aG_0 aG_1 aG_2 aG_3 aG_4 zG) := by
  refine Met.ofW (cc := cX0_oneStepFrom) (maxL := 8) (ret := (some .int)) (by decide) rfl ?_
  intro p e s m args below meth c s₁ B hml hv
  obtain ⟨rfl, hsz, hP, hK, hD0⟩ := hv
  have hx := B.exec
  have hb := B.bytes
  have hr := B.returns
  have hts := atoms_spec (ws := wsX0_oneStepFrom) B.pre
  have hown : s.vm.findClass RX0 = some m.cls := findClass_of_methodNamed B.named
  have hlocks := B.notSynchronized
  subst hsz
  have hD := hD0.self (sz := s.heap.size)
  generalize hAe : va_A (wcG ci aG_0 aG_1 aG_2 aG_3 aG_4 zG) s.heap.size = A at hD ⊢
  have hA : ∀ q : Nat, s.heap.size ≤ q → A q := fun q h => by rw [← hAe]; exact Or.inr h
  clear hD0 hAe
  have hl := lv_entry ([.ref aG_0, .int p1, .long p2]) (n := 8) (Nat.le_of_ble_eq_true rfl)
  rw [lg_entry_eq]
  generalize (lg_sl ([.ref aG_0, .int p1, .long p2]) ++ List.replicate (8 - (lg_sl ([.ref aG_0, .int p1, .long p2])).length) Slot.unset).toArray = ls at hl ⊢
  have hl : lv_has ls 8 [(0, .ref aG_0), (1, .int p1), (2, .long p2)] := hl
  have hP : va_P D vwCl (wcG ci aG_0 aG_1 aG_2 aG_3 aG_4 zG) s.heap := hP
  generalize hH0 : s.heap = H at hP ⊢
  have hS : va_S A s.heap H [] := by rw [← hH0]; exact va_S.rf
  clear hH0
  generalize ([] : List Loc) = locs at hS ⊢
  have hk_0 := hts (.fieldLink RX0 44 "HedgeWar$Ground" "withRight" "I") (by decide +kernel)
  have hin_RX0 : ∀ w ∈ wsX00, w ∈ wsX0_oneStepFrom := by decide +kernel
  have hk_2 := hts (.fieldLink RX0 47 "HedgeWar$Ground" "withBelow" "I") (by decide +kernel)
  have hk_3 := hts (.fieldLink RX0 25 "HedgeWar$Ground" "width" "I") (by decide +kernel)
  unfold f_X0_oneStepFrom at hF
  refine lv_aload_n hx hb dX0_oneStepFrom_0 rfl (lv_at hl 0 rfl) ?_
  refine va_get (D := D) (ci := 0) (v := .int (zG.1 6)) (C := RX0) (T := TX0) (N := 13) hx hb hts hin_RX0 hown hK hP 0 rfl rfl 6 (by decide) hk_0 (fun _ h9 => h9) rfl dX0_oneStepFrom_1 ?_
  refine lv_lload_n hx hb dX0_oneStepFrom_4 rfl (lv_at hl 2 rfl) ?_
  refine lv_l2i (v := (Int64.toInt32 p2)) hx hb dX0_oneStepFrom_5 rfl ?_
  refine lv_iconst (v := (-1)) hx hb dX0_oneStepFrom_6 (by decide) ?_
  refine lv_ixor hx hb dX0_oneStepFrom_7 ?_
  refine lv_iand hx hb dX0_oneStepFrom_8 ?_
  refine lv_topi (fun v4_1 ev4_1 => ?_)
  replace hF := nm_i hF ev4_1
  refine lv_istore (lv' := [(4, .int v4_1), (0, .ref aG_0), (1, .int p1), (2, .long p2)]) hx hb dX0_oneStepFrom_9 hl (by decide) rfl (fun ls hl => ?_)
  refine lv_aload_n hx hb dX0_oneStepFrom_11 rfl (lv_at hl 1 rfl) ?_
  refine va_get (D := D) (ci := 0) (v := .int (zG.1 7)) (C := RX0) (T := TX0) (N := 13) hx hb hts hin_RX0 hown hK hP 0 rfl rfl 7 (by decide) hk_2 (fun _ h9 => h9) rfl dX0_oneStepFrom_12 ?_
  refine lv_lload_n hx hb dX0_oneStepFrom_15 rfl (lv_at hl 3 rfl) ?_
  refine lv_bipush (v := 32) hx hb dX0_oneStepFrom_16 (by decide) ?_
  refine lv_lushr (v := (lushr p2 32)) hx hb dX0_oneStepFrom_18 rfl ?_
  refine lv_l2i (v := (Int64.toInt32 (lushr p2 32))) hx hb dX0_oneStepFrom_19 rfl ?_
  refine lv_iconst (v := (-1)) hx hb dX0_oneStepFrom_20 (by decide) ?_
  refine lv_ixor hx hb dX0_oneStepFrom_21 ?_
  refine lv_iand hx hb dX0_oneStepFrom_22 ?_
  refine lv_topi (fun v5_2 ev5_2 => ?_)
  replace hF := nm_i hF ev5_2
  refine lv_istore (lv' := [(5, .int v5_2), (4, .int v4_1), (0, .ref aG_0), (1, .int p1), (2, .long p2)]) hx hb dX0_oneStepFrom_23 hl (by decide) rfl (fun ls hl => ?_)
  refine lv_iload_n hx hb dX0_oneStepFrom_25 rfl (lv_at hl 3 rfl) ?_
  refine lv_iload hx hb dX0_oneStepFrom_26 (lv_at hl 1 rfl) ?_
  refine lv_iand hx hb dX0_oneStepFrom_28 ?_
  refine lv_iconst (v := 1) hx hb dX0_oneStepFrom_29 (by decide) ?_
  refine lv_ishl hx hb dX0_oneStepFrom_30 ?_
  refine lv_iload_n hx hb dX0_oneStepFrom_31 rfl (lv_at hl 3 rfl) ?_
  refine lv_iconst (v := 1) hx hb dX0_oneStepFrom_32 (by decide) ?_
  refine lv_iushr (v := (iushr p1 1)) hx hb dX0_oneStepFrom_33 rfl ?_
  refine lv_iload hx hb dX0_oneStepFrom_34 (lv_at hl 1 rfl) ?_
  refine lv_iand hx hb dX0_oneStepFrom_36 ?_
  refine lv_ior hx hb dX0_oneStepFrom_37 ?_
  refine lv_topi (fun v6_3 ev6_3 => ?_)
  replace hF := nm_i hF ev6_3
  refine lv_istore (lv' := [(6, .int v6_3), (5, .int v5_2), (4, .int v4_1), (0, .ref aG_0), (1, .int p1), (2, .long p2)]) hx hb dX0_oneStepFrom_38 hl (by decide) rfl (fun ls hl => ?_)
  refine lv_iload_n hx hb dX0_oneStepFrom_40 rfl (lv_at hl 4 rfl) ?_
  refine lv_iload hx hb dX0_oneStepFrom_41 (lv_at hl 1 rfl) ?_
  refine lv_iand hx hb dX0_oneStepFrom_43 ?_
  refine lv_aload_n hx hb dX0_oneStepFrom_44 rfl (lv_at hl 3 rfl) ?_
  refine va_get (D := D) (ci := 0) (v := .int (zG.1 0)) (C := RX0) (T := TX0) (N := 13) hx hb hts hin_RX0 hown hK hP 0 rfl rfl 0 (by decide) hk_3 (fun _ h9 => h9) rfl dX0_oneStepFrom_45 ?_
  refine lv_ishl hx hb dX0_oneStepFrom_48 ?_
  refine lv_iload_n hx hb dX0_oneStepFrom_49 rfl (lv_at hl 4 rfl) ?_
  refine lv_aload_n hx hb dX0_oneStepFrom_50 rfl (lv_at hl 3 rfl) ?_
  refine va_get (D := D) (ci := 0) (v := .int (zG.1 0)) (C := RX0) (T := TX0) (N := 13) hx hb hts hin_RX0 hown hK hP 0 rfl rfl 0 (by decide) hk_3 (fun _ h9 => h9) rfl dX0_oneStepFrom_51 ?_
  refine lv_iushr (v := (iushr p1 (zG.1 0))) hx hb dX0_oneStepFrom_54 rfl ?_
  refine lv_iload hx hb dX0_oneStepFrom_55 (lv_at hl 1 rfl) ?_
  refine lv_iand hx hb dX0_oneStepFrom_57 ?_
  refine lv_ior hx hb dX0_oneStepFrom_58 ?_
  refine lv_topi (fun v7_4 ev7_4 => ?_)
  replace hF := nm_i hF ev7_4
  refine lv_istore (lv' := [(7, .int v7_4), (6, .int v6_3), (5, .int v5_2), (4, .int v4_1), (0, .ref aG_0), (1, .int p1), (2, .long p2)]) hx hb dX0_oneStepFrom_59 hl (by decide) rfl (fun ls hl => ?_)
  refine lv_iload_n hx hb dX0_oneStepFrom_61 rfl (lv_at hl 5 rfl) ?_
  refine lv_iload hx hb dX0_oneStepFrom_62 (lv_at hl 1 rfl) ?_
  refine lv_ior hx hb dX0_oneStepFrom_64 ?_
  refine lv_iload hx hb dX0_oneStepFrom_65 (lv_at hl 0 rfl) ?_
  refine lv_ior hx hb dX0_oneStepFrom_67 ?_
  obtain rfl := Option.some.inj hF
  exact W.iret (v := ((p1 ||| v6_3) ||| v7_4)) hx hb hr (fun t ht hW => ⟨⟨_, (), rfl, rfl, by rw [ht]; exact hP, va_K.moved hW.alike hK, hD⟩, hS.F ht⟩) hS.2.2 dX0_oneStepFrom_68
noncomputable def L_X0_landFrom_6 (zG : GS) (p1 : Int32) (p2 : Int64) : Nat → Int32 → Int32 → Option (Int32 × Int32)
  | 0, _, _ => none
  | n + 1, v4_2, v5_3 => if (25 : Int32) ≤ v5_3 then (some (v4_2, v5_3)) else ((f_X0_oneStepFrom zG v4_2 p2).bind fun r_11 => if r_11 = v4_2 then (some (v4_2, v5_3)) else (nm (v5_3 + 1) fun v5_14 => L_X0_landFrom_6 zG p1 p2 n r_11 v5_14))
noncomputable def f_X0_landFrom (zG : GS) (p1 : Int32) (p2 : Int64) : Option (Int32) := nm (0 : Int32) fun v5_1 => (L_X0_landFrom_6 zG p1 p2 3000 p1 v5_1).bind fun q_18 => nm q_18.1 fun v4_6 => nm q_18.2 fun v5_7 => some v4_6
set_option maxHeartbeats 4000000 in
set_option maxRecDepth 100000 in
theorem c_X0_landFrom (l : Launch) (D : va_G) (ci : Nat → ClassId) (aG_0 : Nat) (aG_1 : Nat) (aG_2 : Nat) (aG_3 : Nat) (aG_4 : Nat) (sz : Nat) (zG : GS) (p1 : Int32) (p2 : Int64) (res : Int32) (hF : f_X0_landFrom zG p1 p2 = some res) : CtI l yX0_landFrom wsX0_landFrom { frames := 1, cells := 0, slots := 0, locals := 27 } [.ref aG_0, .int p1, .long p2] D ci (wcG ci aG_0 aG_1 aG_2 aG_3 aG_4 zG) sz res (wcG ci aG_0 aG_1 aG_2 aG_3 aG_4 zG) := by
  refine Met.ofW (cc := cX0_landFrom) (maxL := 7) (ret := (some .int)) (by decide) rfl ?_
  intro p e s m args below meth c s₁ B hml hv
  obtain ⟨rfl, hsz, hP, hK, hD0⟩ := hv
  have hx := B.exec
  have hb := B.bytes
  have hr := B.returns
  have hts := atoms_spec (ws := wsX0_landFrom) B.pre
  have hown : s.vm.findClass RX0 = some m.cls := findClass_of_methodNamed B.named
  have hlocks := B.notSynchronized
  subst hsz
  have hD := hD0.self (sz := s.heap.size)
  generalize hAe : va_A (wcG ci aG_0 aG_1 aG_2 aG_3 aG_4 zG) s.heap.size = A at hD ⊢
  have hA : ∀ q : Nat, s.heap.size ≤ q → A q := fun q h => by rw [← hAe]; exact Or.inr h
  clear hD0 hAe
  have hl := lv_entry ([.ref aG_0, .int p1, .long p2]) (n := 7) (Nat.le_of_ble_eq_true rfl)
  rw [lg_entry_eq]
  generalize (lg_sl ([.ref aG_0, .int p1, .long p2]) ++ List.replicate (7 - (lg_sl ([.ref aG_0, .int p1, .long p2])).length) Slot.unset).toArray = ls at hl ⊢
  have hl : lv_has ls 7 [(0, .ref aG_0), (1, .int p1), (2, .long p2)] := hl
  have hP : va_P D vwCl (wcG ci aG_0 aG_1 aG_2 aG_3 aG_4 zG) s.heap := hP
  generalize hH0 : s.heap = H at hP ⊢
  have hS : va_S A s.heap H [] := by rw [← hH0]; exact va_S.rf
  clear hH0
  generalize ([] : List Loc) = locs at hS ⊢
  unfold f_X0_landFrom at hF
  refine lv_iload_n hx hb dX0_landFrom_0 rfl (lv_at hl 1 rfl) ?_
  refine lv_istore (lv' := [(4, .int p1), (0, .ref aG_0), (1, .int p1), (2, .long p2)]) hx hb dX0_landFrom_1 hl (by decide) rfl (fun ls hl => ?_)
  refine lv_iconst (v := 0) hx hb dX0_landFrom_3 (by decide) ?_
  refine lv_topi (fun v5_1 ev5_1 => ?_)
  replace hF := nm_i hF ev5_1
  refine lv_istore (lv' := [(5, .int v5_1), (4, .int p1), (0, .ref aG_0), (1, .int p1), (2, .long p2)]) hx hb dX0_landFrom_4 hl (by decide) rfl (fun ls hl => ?_)
  replace hF := bnd hF
  obtain ⟨q_18, hv_17, hF⟩ := hF
  obtain ⟨v4_6, ev4_6⟩ : ∃ y : Int32, y = q_18.1 := ⟨_, rfl⟩
  replace hF := nm_i hF ev4_6
  obtain ⟨v5_7, ev5_7⟩ : ∃ y : Int32, y = q_18.2 := ⟨_, rfl⟩
  replace hF := nm_i hF ev5_7
  obtain rfl : q_18 = (v4_6, v5_7) := by rw [ev4_6, ev5_7]
  clear ev4_6
  clear ev5_7
  refine jn (P := fun H locs ls => va_P D vwCl (wcG ci aG_0 aG_1 aG_2 aG_3 aG_4 zG) H ∧ va_D A (wcG ci aG_0 aG_1 aG_2 aG_3 aG_4 zG) ∧ va_S A s.heap H locs ∧ lv_has ls 7 [(0, .ref aG_0), (1, .int p1), (2, .long p2), (4, .int v4_6), (5, .int v5_7)]) (pcJ := 42) (st := []) ?_ ?_
  · intro H locs ls hJ
    obtain ⟨hP, hD, hS, hl⟩ := hJ
    refine lv_iload hx hb dX0_landFrom_42 (lv_at hl 3 rfl) ?_
    obtain rfl := Option.some.inj hF
    exact W.iret (v := v4_6) hx hb hr (fun t ht hW => ⟨⟨_, (), rfl, rfl, by rw [ht]; exact hP, va_K.moved hW.alike hK, hD⟩, hS.F ht⟩) hS.2.2 dX0_landFrom_44
  · intro J_5
    clear hF
    have hF := hv_17
    refine lpW (σ := Int32 × Int32) (I := fun n v H locs ls => L_X0_landFrom_6 zG p1 p2 n v.1 v.2 = some (v4_6, v5_7) ∧ va_P D vwCl (wcG ci aG_0 aG_1 aG_2 aG_3 aG_4 zG) H ∧ va_D A (wcG ci aG_0 aG_1 aG_2 aG_3 aG_4 zG) ∧ va_S A s.heap H locs ∧ lv_has ls 7 [(0, .ref aG_0), (1, .int p1), (2, .long p2), (4, .int v.1), (5, .int v.2)]) 3000 (p1, v5_1) (fun _ _ _ _ h => no_none h.1) ⟨hF, hP, hD, hS, lv_sub hl [2, 3, 4, 1, 0] rfl⟩ ?_
    clear hF hP hD hS hl
    intro n ih_4 vq H locs ls hI
    obtain ⟨v4_2, v5_3⟩ := vq
    obtain ⟨hF, hP, hD, hS, hl⟩ := hI
    have hP : va_P D vwCl (wcG ci aG_0 aG_1 aG_2 aG_3 aG_4 zG) H := hP
    have hD : va_D A (wcG ci aG_0 aG_1 aG_2 aG_3 aG_4 zG) := hD
    have hl : lv_has ls 7 [(0, .ref aG_0), (1, .int p1), (2, .long p2), (4, .int v4_2), (5, .int v5_3)] := hl
    replace hF : L_X0_landFrom_6 zG p1 p2 (n + 1) v4_2 v5_3 = some (v4_6, v5_7) := hF
    rw [L_X0_landFrom_6] at hF
    refine lv_iload hx hb dX0_landFrom_6 (lv_at hl 4 rfl) ?_
    refine lv_bipush (v := 25) hx hb dX0_landFrom_8 (by decide) ?_
    refine lv_icmp_ge (tgt := 42) hx hb dX0_landFrom_10 (by decide) (fun c_8 => ?_) (fun c_8 => ?_)
    · replace hF := if_i c_8 hF
      obtain ⟨g_9, g_10⟩ : v4_2 = v4_6 ∧ v5_3 = v5_7 := by have h9 := Option.some.inj hF; simpa only [Prod.mk.injEq] using h9
      subst g_9
      subst g_10
      exact J_5 H locs ls ⟨hP, hD, hS, lv_sub hl [0, 1, 2, 3, 4] rfl⟩
    · replace hF := if_o c_8 hF
      refine lv_aload_n hx hb dX0_landFrom_13 rfl (lv_at hl 0 rfl) ?_
      refine lv_iload hx hb dX0_landFrom_14 (lv_at hl 3 rfl) ?_
      refine lv_lload_n hx hb dX0_landFrom_16 rfl (lv_at hl 2 rfl) ?_
      replace hF := bnd hF
      obtain ⟨r_11, hc_12, hF⟩ := hF
      refine cl_Vi0 (As := [.int v4_2, .long p2]) (rest := []) ⟨hx, hb, hml, hown, hts⟩ (cwV 2 hts gX0_landFrom_X0_oneStepFrom rfl rfl rfl (by decide +kernel) ⟨Nat.le_of_ble_eq_true rfl, Nat.le_of_ble_eq_true rfl⟩) (c_X0_oneStepFrom l D ci aG_0 aG_1 aG_2 aG_3 aG_4 H.size zG v4_2 p2 _ hc_12) hK hP hD hS hA 0 rfl rfl rfl rfl hl.1 (Nat.le_of_ble_eq_true rfl) dX0_landFrom_17 (Nat.zero_le _) (Nat.zero_le _) (fun H locs hP hD hS => ?_)
      have hP : va_P D vwCl (wcG ci aG_0 aG_1 aG_2 aG_3 aG_4 zG) H := hP
      have hD : va_D A (wcG ci aG_0 aG_1 aG_2 aG_3 aG_4 zG) := hD
      refine lv_istore (lv' := [(6, .int r_11), (0, .ref aG_0), (1, .int p1), (2, .long p2), (4, .int v4_2), (5, .int v5_3)]) hx hb dX0_landFrom_20 hl (by decide) rfl (fun ls hl => ?_)
      refine lv_iload hx hb dX0_landFrom_22 (lv_at hl 0 rfl) ?_
      refine lv_iload hx hb dX0_landFrom_24 (lv_at hl 4 rfl) ?_
      refine lv_icmp_ne (tgt := 32) hx hb dX0_landFrom_26 (by decide) (fun c_13 => ?_) (fun c_13 => ?_)
      · replace hF := if_o c_13 hF
        refine lv_iload hx hb dX0_landFrom_32 (lv_at hl 0 rfl) ?_
        refine lv_istore (lv' := [(4, .int r_11), (6, .int r_11), (0, .ref aG_0), (1, .int p1), (2, .long p2), (5, .int v5_3)]) hx hb dX0_landFrom_34 hl (by decide) rfl (fun ls hl => ?_)
        obtain ⟨v5_14, ev5_14⟩ : ∃ y : Int32, y = v5_3 + 1 := ⟨_, rfl⟩
        replace hF := nm_i hF ev5_14
        refine lv_iinc (v := v5_14) (lv' := [(5, .int v5_14), (4, .int r_11), (6, .int r_11), (0, .ref aG_0), (1, .int p1), (2, .long p2)]) hx hb dX0_landFrom_36 hl (k := 5) rfl (by rw [ev5_14]; rfl) (by decide) rfl (fun ls hl => ?_)
        refine lv_goto (tgt := 6) hx hb dX0_landFrom_39 (by decide) ?_
        exact ih_4 (r_11, v5_14) H locs ls ⟨hF, hP, hD, hS, lv_sub hl [3, 4, 5, 1, 0] rfl⟩
      · replace hF := if_i c_13 hF
        refine lv_goto (tgt := 42) hx hb dX0_landFrom_29 (by decide) ?_
        obtain ⟨g_15, g_16⟩ : v4_2 = v4_6 ∧ v5_3 = v5_7 := by have h9 := Option.some.inj hF; simpa only [Prod.mk.injEq] using h9
        subst g_15
        subst g_16
        exact J_5 H locs ls ⟨hP, hD, hS, lv_sub hl [1, 2, 3, 4, 5] rfl⟩
noncomputable def f_X0_edgesRound (zG : GS) (p1 : Int32) : Option (Int64) := nm ((p1 ^^^ (iushr p1 1)) &&& (zG.1 6)) fun v2_1 => nm ((p1 ^^^ (iushr p1 (zG.1 0))) &&& (zG.1 7)) fun v3_2 => some ((lshl (Int32.toInt64 v3_2) 32) ||| (Int32.toInt64 v2_1))
set_option maxHeartbeats 4000000 in
set_option maxRecDepth 100000 in
theorem c_X0_edgesRound (l : Launch) (D : va_G) (ci : Nat → ClassId) (aG_0 : Nat) (aG_1 : Nat) (aG_2 : Nat) (aG_3 : Nat) (aG_4 : Nat) (sz : Nat) (zG : GS) (p1 : Int32) (res : Int64) (hF : f_X0_edgesRound zG p1 = some res) : CtL l yX0_edgesRound wsX0_edgesRound { frames := 0, cells := 0, slots := 0, locals := 0 } [.ref aG_0, .int p1] D ci (wcG ci aG_0 aG_1 aG_2 aG_3 aG_4 zG) sz res (wcG ci aG_0 aG_1 aG_2 aG_3 aG_4 zG) := by
  refine Met.ofW (cc := cX0_edgesRound) (maxL := 4) (ret := (some .long)) (by decide) rfl ?_
  intro p e s m args below meth c s₁ B hml hv
  obtain ⟨rfl, hsz, hP, hK, hD0⟩ := hv
  have hx := B.exec
  have hb := B.bytes
  have hr := B.returns
  have hts := atoms_spec (ws := wsX0_edgesRound) B.pre
  have hown : s.vm.findClass RX0 = some m.cls := findClass_of_methodNamed B.named
  have hlocks := B.notSynchronized
  subst hsz
  have hD := hD0.self (sz := s.heap.size)
  generalize hAe : va_A (wcG ci aG_0 aG_1 aG_2 aG_3 aG_4 zG) s.heap.size = A at hD ⊢
  have hA : ∀ q : Nat, s.heap.size ≤ q → A q := fun q h => by rw [← hAe]; exact Or.inr h
  clear hD0 hAe
  have hl := lv_entry ([.ref aG_0, .int p1]) (n := 4) (Nat.le_of_ble_eq_true rfl)
  rw [lg_entry_eq]
  generalize (lg_sl ([.ref aG_0, .int p1]) ++ List.replicate (4 - (lg_sl ([.ref aG_0, .int p1])).length) Slot.unset).toArray = ls at hl ⊢
  have hl : lv_has ls 4 [(0, .ref aG_0), (1, .int p1)] := hl
  have hP : va_P D vwCl (wcG ci aG_0 aG_1 aG_2 aG_3 aG_4 zG) s.heap := hP
  generalize hH0 : s.heap = H at hP ⊢
  have hS : va_S A s.heap H [] := by rw [← hH0]; exact va_S.rf
  clear hH0
  generalize ([] : List Loc) = locs at hS ⊢
  have hk_0 := hts (.fieldLink RX0 44 "HedgeWar$Ground" "withRight" "I") (by decide +kernel)
  have hin_RX0 : ∀ w ∈ wsX00, w ∈ wsX0_edgesRound := by decide +kernel
  have hk_2 := hts (.fieldLink RX0 25 "HedgeWar$Ground" "width" "I") (by decide +kernel)
  have hk_3 := hts (.fieldLink RX0 47 "HedgeWar$Ground" "withBelow" "I") (by decide +kernel)
  unfold f_X0_edgesRound at hF
  refine lv_iload_n hx hb dX0_edgesRound_0 rfl (lv_at hl 1 rfl) ?_
  refine lv_iload_n hx hb dX0_edgesRound_1 rfl (lv_at hl 1 rfl) ?_
  refine lv_iconst (v := 1) hx hb dX0_edgesRound_2 (by decide) ?_
  refine lv_iushr (v := (iushr p1 1)) hx hb dX0_edgesRound_3 rfl ?_
  refine lv_ixor hx hb dX0_edgesRound_4 ?_
  refine lv_aload_n hx hb dX0_edgesRound_5 rfl (lv_at hl 0 rfl) ?_
  refine va_get (D := D) (ci := 0) (v := .int (zG.1 6)) (C := RX0) (T := TX0) (N := 13) hx hb hts hin_RX0 hown hK hP 0 rfl rfl 6 (by decide) hk_0 (fun _ h9 => h9) rfl dX0_edgesRound_6 ?_
  refine lv_iand hx hb dX0_edgesRound_9 ?_
  refine lv_topi (fun v2_1 ev2_1 => ?_)
  replace hF := nm_i hF ev2_1
  refine lv_istore_n (lv' := [(2, .int v2_1), (0, .ref aG_0), (1, .int p1)]) hx hb dX0_edgesRound_10 rfl hl (by decide) rfl (fun ls hl => ?_)
  refine lv_iload_n hx hb dX0_edgesRound_11 rfl (lv_at hl 2 rfl) ?_
  refine lv_iload_n hx hb dX0_edgesRound_12 rfl (lv_at hl 2 rfl) ?_
  refine lv_aload_n hx hb dX0_edgesRound_13 rfl (lv_at hl 1 rfl) ?_
  refine va_get (D := D) (ci := 0) (v := .int (zG.1 0)) (C := RX0) (T := TX0) (N := 13) hx hb hts hin_RX0 hown hK hP 0 rfl rfl 0 (by decide) hk_2 (fun _ h9 => h9) rfl dX0_edgesRound_14 ?_
  refine lv_iushr (v := (iushr p1 (zG.1 0))) hx hb dX0_edgesRound_17 rfl ?_
  refine lv_ixor hx hb dX0_edgesRound_18 ?_
  refine lv_aload_n hx hb dX0_edgesRound_19 rfl (lv_at hl 1 rfl) ?_
  refine va_get (D := D) (ci := 0) (v := .int (zG.1 7)) (C := RX0) (T := TX0) (N := 13) hx hb hts hin_RX0 hown hK hP 0 rfl rfl 7 (by decide) hk_3 (fun _ h9 => h9) rfl dX0_edgesRound_20 ?_
  refine lv_iand hx hb dX0_edgesRound_23 ?_
  refine lv_topi (fun v3_2 ev3_2 => ?_)
  replace hF := nm_i hF ev3_2
  refine lv_istore_n (lv' := [(3, .int v3_2), (2, .int v2_1), (0, .ref aG_0), (1, .int p1)]) hx hb dX0_edgesRound_24 rfl hl (by decide) rfl (fun ls hl => ?_)
  refine lv_iload_n hx hb dX0_edgesRound_25 rfl (lv_at hl 0 rfl) ?_
  refine lv_i2l (v := (Int32.toInt64 v3_2)) hx hb dX0_edgesRound_26 rfl ?_
  refine lv_bipush (v := 32) hx hb dX0_edgesRound_27 (by decide) ?_
  refine lv_lshl (v := (lshl (Int32.toInt64 v3_2) 32)) hx hb dX0_edgesRound_29 rfl ?_
  refine lv_iload_n hx hb dX0_edgesRound_30 rfl (lv_at hl 1 rfl) ?_
  refine lv_i2l (v := (Int32.toInt64 v2_1)) hx hb dX0_edgesRound_31 rfl ?_
  refine lv_lor hx hb dX0_edgesRound_32 ?_
  obtain rfl := Option.some.inj hF
  exact W.lret (v := ((lshl (Int32.toInt64 v3_2) 32) ||| (Int32.toInt64 v2_1))) hx hb hr (fun t ht hW => ⟨⟨_, (), rfl, rfl, by rw [ht]; exact hP, va_K.moved hW.alike hK, hD⟩, hS.F ht⟩) hS.2.2 dX0_edgesRound_33
noncomputable def f_X0_shutInBy (zG : GS) (p1 : Int32) (p2 : Int64) : Option (Int32) := if (p1 &&& (zG.1 5)) = 0 then ((f_X0_edgesRound zG p1).bind fun r_2 => if (lg_cmp (r_2 &&& p2) 0) = 0 then (some (0 : Int32)) else (if (lg_cmp (r_2 &&& (p2 ^^^ (-1))) 0) = 0 then (some (1 : Int32)) else (some (-1 : Int32)))) else (some (-1 : Int32))
set_option maxHeartbeats 4000000 in
set_option maxRecDepth 100000 in
theorem c_X0_shutInBy (l : Launch) (D : va_G) (ci : Nat → ClassId) (aG_0 : Nat) (aG_1 : Nat) (aG_2 : Nat) (aG_3 : Nat) (aG_4 : Nat) (sz : Nat) (zG : GS) (p1 : Int32) (p2 : Int64) (res : Int32) (hF : f_X0_shutInBy zG p1 p2 = some res) : CtI l yX0_shutInBy wsX0_shutInBy { frames := 1, cells := 0, slots := 0, locals := 23 } [.ref aG_0, .int p1, .long p2] D ci (wcG ci aG_0 aG_1 aG_2 aG_3 aG_4 zG) sz res (wcG ci aG_0 aG_1 aG_2 aG_3 aG_4 zG) := by
  refine Met.ofW (cc := cX0_shutInBy) (maxL := 6) (ret := (some .int)) (by decide) rfl ?_
  intro p e s m args below meth c s₁ B hml hv
  obtain ⟨rfl, hsz, hP, hK, hD0⟩ := hv
  have hx := B.exec
  have hb := B.bytes
  have hr := B.returns
  have hts := atoms_spec (ws := wsX0_shutInBy) B.pre
  have hown : s.vm.findClass RX0 = some m.cls := findClass_of_methodNamed B.named
  have hlocks := B.notSynchronized
  subst hsz
  have hD := hD0.self (sz := s.heap.size)
  generalize hAe : va_A (wcG ci aG_0 aG_1 aG_2 aG_3 aG_4 zG) s.heap.size = A at hD ⊢
  have hA : ∀ q : Nat, s.heap.size ≤ q → A q := fun q h => by rw [← hAe]; exact Or.inr h
  clear hD0 hAe
  have hl := lv_entry ([.ref aG_0, .int p1, .long p2]) (n := 6) (Nat.le_of_ble_eq_true rfl)
  rw [lg_entry_eq]
  generalize (lg_sl ([.ref aG_0, .int p1, .long p2]) ++ List.replicate (6 - (lg_sl ([.ref aG_0, .int p1, .long p2])).length) Slot.unset).toArray = ls at hl ⊢
  have hl : lv_has ls 6 [(0, .ref aG_0), (1, .int p1), (2, .long p2)] := hl
  have hP : va_P D vwCl (wcG ci aG_0 aG_1 aG_2 aG_3 aG_4 zG) s.heap := hP
  generalize hH0 : s.heap = H at hP ⊢
  have hS : va_S A s.heap H [] := by rw [← hH0]; exact va_S.rf
  clear hH0
  generalize ([] : List Loc) = locs at hS ⊢
  have hk_0 := hts (.fieldLink RX0 41 "HedgeWar$Ground" "rim" "I") (by decide +kernel)
  have hin_RX0 : ∀ w ∈ wsX00, w ∈ wsX0_shutInBy := by decide +kernel
  have hk_2 := hts (.constantLong RX0 95 (-1)) (by decide +kernel)
  unfold f_X0_shutInBy at hF
  refine lv_iload_n hx hb dX0_shutInBy_0 rfl (lv_at hl 1 rfl) ?_
  refine lv_aload_n hx hb dX0_shutInBy_1 rfl (lv_at hl 0 rfl) ?_
  refine va_get (D := D) (ci := 0) (v := .int (zG.1 5)) (C := RX0) (T := TX0) (N := 13) hx hb hts hin_RX0 hown hK hP 0 rfl rfl 5 (by decide) hk_0 (fun _ h9 => h9) rfl dX0_shutInBy_2 ?_
  refine lv_iand hx hb dX0_shutInBy_5 ?_
  refine lv_if_eq (tgt := 11) hx hb dX0_shutInBy_6 (by decide) (fun c_1 => ?_) (fun c_1 => ?_)
  · replace hF := if_i c_1 hF
    refine lv_aload_n hx hb dX0_shutInBy_11 rfl (lv_at hl 0 rfl) ?_
    refine lv_iload_n hx hb dX0_shutInBy_12 rfl (lv_at hl 1 rfl) ?_
    replace hF := bnd hF
    obtain ⟨r_2, hc_3, hF⟩ := hF
    refine cl_Vl0 (As := [.int p1]) (rest := []) ⟨hx, hb, hml, hown, hts⟩ (cwV 1 hts gX0_shutInBy_X0_edgesRound rfl rfl rfl (by decide +kernel) ⟨Nat.le_of_ble_eq_true rfl, Nat.le_of_ble_eq_true rfl⟩) (c_X0_edgesRound l D ci aG_0 aG_1 aG_2 aG_3 aG_4 H.size zG p1 _ hc_3) hK hP hD hS hA 0 rfl rfl rfl rfl hl.1 (Nat.le_of_ble_eq_true rfl) dX0_shutInBy_13 (Nat.zero_le _) (Nat.zero_le _) (fun H locs hP hD hS => ?_)
    have hP : va_P D vwCl (wcG ci aG_0 aG_1 aG_2 aG_3 aG_4 zG) H := hP
    have hD : va_D A (wcG ci aG_0 aG_1 aG_2 aG_3 aG_4 zG) := hD
    refine lv_lstore (lv' := [(4, .long r_2), (0, .ref aG_0), (1, .int p1), (2, .long p2)]) hx hb dX0_shutInBy_16 hl (by decide) rfl (fun ls hl => ?_)
    refine lv_lload hx hb dX0_shutInBy_18 (lv_at hl 0 rfl) ?_
    refine lv_lload_n hx hb dX0_shutInBy_20 rfl (lv_at hl 3 rfl) ?_
    refine lv_land hx hb dX0_shutInBy_21 ?_
    refine lv_lconst (v := 0) hx hb dX0_shutInBy_22 (by decide) ?_
    refine W.lcmp hx hb dX0_shutInBy_23 ?_
    refine lv_if_ne (tgt := 29) hx hb dX0_shutInBy_24 (by decide) (fun c_4 => ?_) (fun c_4 => ?_)
    · replace hF := if_o c_4 hF
      refine lv_lload hx hb dX0_shutInBy_29 (lv_at hl 0 rfl) ?_
      refine lv_lload_n hx hb dX0_shutInBy_31 rfl (lv_at hl 3 rfl) ?_
      refine lv_ldc2 (v := (-1)) hx hb hown hk_2 dX0_shutInBy_32 ?_
      refine lv_lxor hx hb dX0_shutInBy_35 ?_
      refine lv_land hx hb dX0_shutInBy_36 ?_
      refine lv_lconst (v := 0) hx hb dX0_shutInBy_37 (by decide) ?_
      refine W.lcmp hx hb dX0_shutInBy_38 ?_
      refine lv_if_ne (tgt := 46) hx hb dX0_shutInBy_39 (by decide) (fun c_5 => ?_) (fun c_5 => ?_)
      · replace hF := if_o c_5 hF
        refine lv_iconst (v := (-1)) hx hb dX0_shutInBy_46 (by decide) ?_
        obtain rfl := Option.some.inj hF
        exact W.iret (v := (-1)) hx hb hr (fun t ht hW => ⟨⟨_, (), rfl, rfl, by rw [ht]; exact hP, va_K.moved hW.alike hK, hD⟩, hS.F ht⟩) hS.2.2 dX0_shutInBy_47
      · replace hF := if_i c_5 hF
        refine lv_iconst (v := 1) hx hb dX0_shutInBy_42 (by decide) ?_
        refine lv_goto (tgt := 47) hx hb dX0_shutInBy_43 (by decide) ?_
        obtain rfl := Option.some.inj hF
        exact W.iret (v := 1) hx hb hr (fun t ht hW => ⟨⟨_, (), rfl, rfl, by rw [ht]; exact hP, va_K.moved hW.alike hK, hD⟩, hS.F ht⟩) hS.2.2 dX0_shutInBy_47
    · replace hF := if_i c_4 hF
      refine lv_iconst (v := 0) hx hb dX0_shutInBy_27 (by decide) ?_
      obtain rfl := Option.some.inj hF
      exact W.iret (v := 0) hx hb hr (fun t ht hW => ⟨⟨_, (), rfl, rfl, by rw [ht]; exact hP, va_K.moved hW.alike hK, hD⟩, hS.F ht⟩) hS.2.2 dX0_shutInBy_28
  · replace hF := if_o c_1 hF
    refine lv_iconst (v := (-1)) hx hb dX0_shutInBy_9 (by decide) ?_
    obtain rfl := Option.some.inj hF
    exact W.iret (v := (-1)) hx hb hr (fun t ht hW => ⟨⟨_, (), rfl, rfl, by rw [ht]; exact hP, va_K.moved hW.alike hK, hD⟩, hS.F ht⟩) hS.2.2 dX0_shutInBy_10
noncomputable def L_X0_ownedAfterMarch_25 (zG : GS) (p1 : Int64) (p3 : Int64) (p5 : Int32) : Nat → Int32 → Int32 → Int32 → Option (Int32 × Int32 × Int32)
  | 0, _, _, _ => none
  | n + 1, v6_5, v7_6, v8_7 => if (25 : Int32) ≤ v8_7 then (some (v6_5, v7_6, v8_7)) else (if v7_6 = 0 then (some (v6_5, v7_6, v8_7)) else ((f_X0_landFrom zG (v7_6 &&& (-v7_6)) p1).bind fun r_21 => (f_X0_shutInBy zG r_21 p3).bind fun r_23 => if r_23 = 1 then (nm (v6_5 ||| r_21) fun v6_32 => nm (v7_6 &&& (r_21 ^^^ (-1))) fun v7_33 => nm (v8_7 + 1) fun v8_34 => L_X0_ownedAfterMarch_25 zG p1 p3 p5 n v6_32 v7_33 v8_34) else (if r_23 = 0 then (nm (v6_5 &&& (r_21 ^^^ (-1))) fun v6_29 => nm (v7_6 &&& (r_21 ^^^ (-1))) fun v7_30 => nm (v8_7 + 1) fun v8_31 => L_X0_ownedAfterMarch_25 zG p1 p3 p5 n v6_29 v7_30 v8_31) else (nm (v7_6 &&& (r_21 ^^^ (-1))) fun v7_27 => nm (v8_7 + 1) fun v8_28 => L_X0_ownedAfterMarch_25 zG p1 p3 p5 n v6_5 v7_27 v8_28))))
noncomputable def f_X0_ownedAfterMarch (zG : GS) (p1 : Int64) (p3 : Int64) (p5 : Int32) : Option (Int32) := (f_X0_landFrom zG (zG.1 5) p1).bind fun r_1 => nm ((zG.1 4) &&& (r_1 ^^^ (-1))) fun v7_3 => nm (0 : Int32) fun v8_4 => (L_X0_ownedAfterMarch_25 zG p1 p3 p5 3000 p5 v7_3 v8_4).bind fun q_36 => nm q_36.1 fun v6_10 => nm q_36.2.1 fun v7_11 => nm q_36.2.2 fun v8_12 => some v6_10
set_option maxHeartbeats 4000000 in
set_option maxRecDepth 100000 in
theorem c_X0_ownedAfterMarch (l : Launch) (D : va_G) (ci : Nat → ClassId) (aG_0 : Nat) (aG_1 : Nat) (aG_2 : Nat) (aG_3 : Nat) (aG_4 : Nat) (sz : Nat) (zG : GS) (p1 : Int64) (p3 : Int64) (p5 : Int32) (res : Int32) (hF : f_X0_ownedAfterMarch zG p1 p3 p5 = some res) : CtI l yX0_ownedAfterMarch wsX0_ownedAfterMarch { frames := 2, cells := 0, slots := 0, locals := 53 } [.ref aG_0, .long p1, .long p3, .int p5] D ci (wcG ci aG_0 aG_1 aG_2 aG_3 aG_4 zG) sz res (wcG ci aG_0 aG_1 aG_2 aG_3 aG_4 zG) := by
  refine Met.ofW (cc := cX0_ownedAfterMarch) (maxL := 11) (ret := (some .int)) (by decide) rfl ?_
  intro p e s m args below meth c s₁ B hml hv
  obtain ⟨rfl, hsz, hP, hK, hD0⟩ := hv
  have hx := B.exec
  have hb := B.bytes
  have hr := B.returns
  have hts := atoms_spec (ws := wsX0_ownedAfterMarch) B.pre
  have hown : s.vm.findClass RX0 = some m.cls := findClass_of_methodNamed B.named
  have hlocks := B.notSynchronized
  subst hsz
  have hD := hD0.self (sz := s.heap.size)
  generalize hAe : va_A (wcG ci aG_0 aG_1 aG_2 aG_3 aG_4 zG) s.heap.size = A at hD ⊢
  have hA : ∀ q : Nat, s.heap.size ≤ q → A q := fun q h => by rw [← hAe]; exact Or.inr h
  clear hD0 hAe
  have hl := lv_entry ([.ref aG_0, .long p1, .long p3, .int p5]) (n := 11) (Nat.le_of_ble_eq_true rfl)
  rw [lg_entry_eq]
  generalize (lg_sl ([.ref aG_0, .long p1, .long p3, .int p5]) ++ List.replicate (11 - (lg_sl ([.ref aG_0, .long p1, .long p3, .int p5])).length) Slot.unset).toArray = ls at hl ⊢
  have hl : lv_has ls 11 [(0, .ref aG_0), (1, .long p1), (3, .long p3), (5, .int p5)] := hl
  have hP : va_P D vwCl (wcG ci aG_0 aG_1 aG_2 aG_3 aG_4 zG) s.heap := hP
  generalize hH0 : s.heap = H at hP ⊢
  have hS : va_S A s.heap H [] := by rw [← hH0]; exact va_S.rf
  clear hH0
  generalize ([] : List Loc) = locs at hS ⊢
  have hk_0 := hts (.fieldLink RX0 38 "HedgeWar$Ground" "all" "I") (by decide +kernel)
  have hin_RX0 : ∀ w ∈ wsX00, w ∈ wsX0_ownedAfterMarch := by decide +kernel
  have hk_2 := hts (.fieldLink RX0 41 "HedgeWar$Ground" "rim" "I") (by decide +kernel)
  unfold f_X0_ownedAfterMarch at hF
  refine lv_iload hx hb dX0_ownedAfterMarch_0 (lv_at hl 3 rfl) ?_
  refine lv_istore (lv' := [(6, .int p5), (0, .ref aG_0), (1, .long p1), (3, .long p3), (5, .int p5)]) hx hb dX0_ownedAfterMarch_2 hl (by decide) rfl (fun ls hl => ?_)
  refine lv_aload_n hx hb dX0_ownedAfterMarch_4 rfl (lv_at hl 1 rfl) ?_
  refine va_get (D := D) (ci := 0) (v := .int (zG.1 4)) (C := RX0) (T := TX0) (N := 13) hx hb hts hin_RX0 hown hK hP 0 rfl rfl 4 (by decide) hk_0 (fun _ h9 => h9) rfl dX0_ownedAfterMarch_5 ?_
  refine lv_aload_n hx hb dX0_ownedAfterMarch_8 rfl (lv_at hl 1 rfl) ?_
  refine lv_aload_n hx hb dX0_ownedAfterMarch_9 rfl (lv_at hl 1 rfl) ?_
  refine va_get (D := D) (ci := 0) (v := .int (zG.1 5)) (C := RX0) (T := TX0) (N := 13) hx hb hts hin_RX0 hown hK hP 0 rfl rfl 5 (by decide) hk_2 (fun _ h9 => h9) rfl dX0_ownedAfterMarch_10 ?_
  refine lv_lload_n hx hb dX0_ownedAfterMarch_13 rfl (lv_at hl 2 rfl) ?_
  replace hF := bnd hF
  obtain ⟨r_1, hc_2, hF⟩ := hF
  refine cl_Vi0 (As := [.int (zG.1 5), .long p1]) (rest := [.int (zG.1 4)]) ⟨hx, hb, hml, hown, hts⟩ (cwV 2 hts gX0_ownedAfterMarch_X0_landFrom rfl rfl rfl (by decide +kernel) ⟨Nat.le_of_ble_eq_true rfl, Nat.le_of_ble_eq_true rfl⟩) (c_X0_landFrom l D ci aG_0 aG_1 aG_2 aG_3 aG_4 H.size zG (zG.1 5) p1 _ hc_2) hK hP hD hS hA 0 rfl rfl rfl rfl hl.1 (Nat.le_of_ble_eq_true rfl) dX0_ownedAfterMarch_14 (Nat.zero_le _) (Nat.zero_le _) (fun H locs hP hD hS => ?_)
  have hP : va_P D vwCl (wcG ci aG_0 aG_1 aG_2 aG_3 aG_4 zG) H := hP
  have hD : va_D A (wcG ci aG_0 aG_1 aG_2 aG_3 aG_4 zG) := hD
  refine lv_iconst (v := (-1)) hx hb dX0_ownedAfterMarch_17 (by decide) ?_
  refine lv_ixor hx hb dX0_ownedAfterMarch_18 ?_
  refine lv_iand hx hb dX0_ownedAfterMarch_19 ?_
  refine lv_topi (fun v7_3 ev7_3 => ?_)
  replace hF := nm_i hF ev7_3
  refine lv_istore (lv' := [(7, .int v7_3), (6, .int p5), (0, .ref aG_0), (1, .long p1), (3, .long p3), (5, .int p5)]) hx hb dX0_ownedAfterMarch_20 hl (by decide) rfl (fun ls hl => ?_)
  refine lv_iconst (v := 0) hx hb dX0_ownedAfterMarch_22 (by decide) ?_
  refine lv_topi (fun v8_4 ev8_4 => ?_)
  replace hF := nm_i hF ev8_4
  refine lv_istore (lv' := [(8, .int v8_4), (7, .int v7_3), (6, .int p5), (0, .ref aG_0), (1, .long p1), (3, .long p3), (5, .int p5)]) hx hb dX0_ownedAfterMarch_23 hl (by decide) rfl (fun ls hl => ?_)
  replace hF := bnd hF
  obtain ⟨q_36, hv_35, hF⟩ := hF
  obtain ⟨v6_10, ev6_10⟩ : ∃ y : Int32, y = q_36.1 := ⟨_, rfl⟩
  replace hF := nm_i hF ev6_10
  obtain ⟨v7_11, ev7_11⟩ : ∃ y : Int32, y = q_36.2.1 := ⟨_, rfl⟩
  replace hF := nm_i hF ev7_11
  obtain ⟨v8_12, ev8_12⟩ : ∃ y : Int32, y = q_36.2.2 := ⟨_, rfl⟩
  replace hF := nm_i hF ev8_12
  obtain rfl : q_36 = (v6_10, v7_11, v8_12) := by rw [ev6_10, ev7_11, ev8_12]
  clear ev6_10
  clear ev7_11
  clear ev8_12
  refine jn (P := fun H locs ls => va_P D vwCl (wcG ci aG_0 aG_1 aG_2 aG_3 aG_4 zG) H ∧ va_D A (wcG ci aG_0 aG_1 aG_2 aG_3 aG_4 zG) ∧ va_S A s.heap H locs ∧ lv_has ls 11 [(0, .ref aG_0), (1, .long p1), (3, .long p3), (5, .int p5), (6, .int v6_10), (7, .int v7_11), (8, .int v8_12)]) (pcJ := 104) (st := []) ?_ ?_
  · intro H locs ls hJ
    obtain ⟨hP, hD, hS, hl⟩ := hJ
    refine lv_iload hx hb dX0_ownedAfterMarch_104 (lv_at hl 4 rfl) ?_
    obtain rfl := Option.some.inj hF
    exact W.iret (v := v6_10) hx hb hr (fun t ht hW => ⟨⟨_, (), rfl, rfl, by rw [ht]; exact hP, va_K.moved hW.alike hK, hD⟩, hS.F ht⟩) hS.2.2 dX0_ownedAfterMarch_106
  · intro J_9
    clear hF
    have hF := hv_35
    refine lpW (σ := Int32 × Int32 × Int32) (I := fun n v H locs ls => L_X0_ownedAfterMarch_25 zG p1 p3 p5 n v.1 v.2.1 v.2.2 = some (v6_10, v7_11, v8_12) ∧ va_P D vwCl (wcG ci aG_0 aG_1 aG_2 aG_3 aG_4 zG) H ∧ va_D A (wcG ci aG_0 aG_1 aG_2 aG_3 aG_4 zG) ∧ va_S A s.heap H locs ∧ lv_has ls 11 [(0, .ref aG_0), (1, .long p1), (3, .long p3), (5, .int p5), (6, .int v.1), (7, .int v.2.1), (8, .int v.2.2)]) 3000 (p5, v7_3, v8_4) (fun _ _ _ _ h => no_none h.1) ⟨hF, hP, hD, hS, lv_sub hl [3, 4, 5, 6, 2, 1, 0] rfl⟩ ?_
    clear hF hP hD hS hl
    intro n ih_8 vq H locs ls hI
    obtain ⟨v6_5, v7_6, v8_7⟩ := vq
    obtain ⟨hF, hP, hD, hS, hl⟩ := hI
    have hP : va_P D vwCl (wcG ci aG_0 aG_1 aG_2 aG_3 aG_4 zG) H := hP
    have hD : va_D A (wcG ci aG_0 aG_1 aG_2 aG_3 aG_4 zG) := hD
    have hl : lv_has ls 11 [(0, .ref aG_0), (1, .long p1), (3, .long p3), (5, .int p5), (6, .int v6_5), (7, .int v7_6), (8, .int v8_7)] := hl
    replace hF : L_X0_ownedAfterMarch_25 zG p1 p3 p5 (n + 1) v6_5 v7_6 v8_7 = some (v6_10, v7_11, v8_12) := hF
    rw [L_X0_ownedAfterMarch_25] at hF
    refine lv_iload hx hb dX0_ownedAfterMarch_25 (lv_at hl 6 rfl) ?_
    refine lv_bipush (v := 25) hx hb dX0_ownedAfterMarch_27 (by decide) ?_
    refine lv_icmp_ge (tgt := 104) hx hb dX0_ownedAfterMarch_29 (by decide) (fun c_13 => ?_) (fun c_13 => ?_)
    · replace hF := if_i c_13 hF
      obtain ⟨g_14, g_15, g_16⟩ : v6_5 = v6_10 ∧ v7_6 = v7_11 ∧ v8_7 = v8_12 := by have h9 := Option.some.inj hF; simpa only [Prod.mk.injEq] using h9
      subst g_14
      subst g_15
      subst g_16
      exact J_9 H locs ls ⟨hP, hD, hS, lv_sub hl [0, 1, 2, 3, 4, 5, 6] rfl⟩
    · replace hF := if_o c_13 hF
      refine lv_iload hx hb dX0_ownedAfterMarch_32 (lv_at hl 5 rfl) ?_
      refine lv_if_eq (tgt := 104) hx hb dX0_ownedAfterMarch_34 (by decide) (fun c_17 => ?_) (fun c_17 => ?_)
      · replace hF := if_i c_17 hF
        obtain ⟨g_18, g_19, g_20⟩ : v6_5 = v6_10 ∧ v7_6 = v7_11 ∧ v8_7 = v8_12 := by have h9 := Option.some.inj hF; simpa only [Prod.mk.injEq] using h9
        subst g_18
        subst g_19
        subst g_20
        exact J_9 H locs ls ⟨hP, hD, hS, lv_sub hl [0, 1, 2, 3, 4, 5, 6] rfl⟩
      · replace hF := if_o c_17 hF
        refine lv_aload_n hx hb dX0_ownedAfterMarch_37 rfl (lv_at hl 0 rfl) ?_
        refine lv_iload hx hb dX0_ownedAfterMarch_38 (lv_at hl 5 rfl) ?_
        refine lv_iload hx hb dX0_ownedAfterMarch_40 (lv_at hl 5 rfl) ?_
        refine lv_ineg hx hb dX0_ownedAfterMarch_42 ?_
        refine lv_iand hx hb dX0_ownedAfterMarch_43 ?_
        refine lv_lload_n hx hb dX0_ownedAfterMarch_44 rfl (lv_at hl 1 rfl) ?_
        replace hF := bnd hF
        obtain ⟨r_21, hc_22, hF⟩ := hF
        refine cl_Vi0 (As := [.int (v7_6 &&& (-v7_6)), .long p1]) (rest := []) ⟨hx, hb, hml, hown, hts⟩ (cwV 2 hts gX0_ownedAfterMarch_X0_landFrom rfl rfl rfl (by decide +kernel) ⟨Nat.le_of_ble_eq_true rfl, Nat.le_of_ble_eq_true rfl⟩) (c_X0_landFrom l D ci aG_0 aG_1 aG_2 aG_3 aG_4 H.size zG (v7_6 &&& (-v7_6)) p1 _ hc_22) hK hP hD hS hA 0 rfl rfl rfl rfl hl.1 (Nat.le_of_ble_eq_true rfl) dX0_ownedAfterMarch_45 (Nat.zero_le _) (Nat.zero_le _) (fun H locs hP hD hS => ?_)
        have hP : va_P D vwCl (wcG ci aG_0 aG_1 aG_2 aG_3 aG_4 zG) H := hP
        have hD : va_D A (wcG ci aG_0 aG_1 aG_2 aG_3 aG_4 zG) := hD
        refine lv_istore (lv' := [(9, .int r_21), (0, .ref aG_0), (1, .long p1), (3, .long p3), (5, .int p5), (6, .int v6_5), (7, .int v7_6), (8, .int v8_7)]) hx hb dX0_ownedAfterMarch_48 hl (by decide) rfl (fun ls hl => ?_)
        refine lv_aload_n hx hb dX0_ownedAfterMarch_50 rfl (lv_at hl 1 rfl) ?_
        refine lv_iload hx hb dX0_ownedAfterMarch_51 (lv_at hl 0 rfl) ?_
        refine lv_lload_n hx hb dX0_ownedAfterMarch_53 rfl (lv_at hl 3 rfl) ?_
        replace hF := bnd hF
        obtain ⟨r_23, hc_24, hF⟩ := hF
        refine cl_Vi0 (As := [.int r_21, .long p3]) (rest := []) ⟨hx, hb, hml, hown, hts⟩ (cwV 2 hts gX0_ownedAfterMarch_X0_shutInBy rfl rfl rfl (by decide +kernel) ⟨Nat.le_of_ble_eq_true rfl, Nat.le_of_ble_eq_true rfl⟩) (c_X0_shutInBy l D ci aG_0 aG_1 aG_2 aG_3 aG_4 H.size zG r_21 p3 _ hc_24) hK hP hD hS hA 0 rfl rfl rfl rfl hl.1 (Nat.le_of_ble_eq_true rfl) dX0_ownedAfterMarch_54 (Nat.zero_le _) (Nat.zero_le _) (fun H locs hP hD hS => ?_)
        have hP : va_P D vwCl (wcG ci aG_0 aG_1 aG_2 aG_3 aG_4 zG) H := hP
        have hD : va_D A (wcG ci aG_0 aG_1 aG_2 aG_3 aG_4 zG) := hD
        refine lv_istore (lv' := [(10, .int r_23), (9, .int r_21), (0, .ref aG_0), (1, .long p1), (3, .long p3), (5, .int p5), (6, .int v6_5), (7, .int v7_6), (8, .int v8_7)]) hx hb dX0_ownedAfterMarch_57 hl (by decide) rfl (fun ls hl => ?_)
        refine lv_iload hx hb dX0_ownedAfterMarch_59 (lv_at hl 0 rfl) ?_
        refine lv_iconst (v := 1) hx hb dX0_ownedAfterMarch_61 (by decide) ?_
        refine lv_icmp_ne (tgt := 75) hx hb dX0_ownedAfterMarch_62 (by decide) (fun c_25 => ?_) (fun c_25 => ?_)
        · replace hF := if_o c_25 hF
          refine lv_iload hx hb dX0_ownedAfterMarch_75 (lv_at hl 0 rfl) ?_
          refine lv_if_ne (tgt := 89) hx hb dX0_ownedAfterMarch_77 (by decide) (fun c_26 => ?_) (fun c_26 => ?_)
          · replace hF := if_o c_26 hF
            refine lv_iload hx hb dX0_ownedAfterMarch_89 (lv_at hl 7 rfl) ?_
            refine lv_iload hx hb dX0_ownedAfterMarch_91 (lv_at hl 1 rfl) ?_
            refine lv_iconst (v := (-1)) hx hb dX0_ownedAfterMarch_93 (by decide) ?_
            refine lv_ixor hx hb dX0_ownedAfterMarch_94 ?_
            refine lv_iand hx hb dX0_ownedAfterMarch_95 ?_
            refine lv_topi (fun v7_27 ev7_27 => ?_)
            replace hF := nm_i hF ev7_27
            refine lv_istore (lv' := [(7, .int v7_27), (10, .int r_23), (9, .int r_21), (0, .ref aG_0), (1, .long p1), (3, .long p3), (5, .int p5), (6, .int v6_5), (8, .int v8_7)]) hx hb dX0_ownedAfterMarch_96 hl (by decide) rfl (fun ls hl => ?_)
            obtain ⟨v8_28, ev8_28⟩ : ∃ y : Int32, y = v8_7 + 1 := ⟨_, rfl⟩
            replace hF := nm_i hF ev8_28
            refine lv_iinc (v := v8_28) (lv' := [(8, .int v8_28), (7, .int v7_27), (10, .int r_23), (9, .int r_21), (0, .ref aG_0), (1, .long p1), (3, .long p3), (5, .int p5), (6, .int v6_5)]) hx hb dX0_ownedAfterMarch_98 hl (k := 8) rfl (by rw [ev8_28]; rfl) (by decide) rfl (fun ls hl => ?_)
            refine lv_goto (tgt := 25) hx hb dX0_ownedAfterMarch_101 (by decide) ?_
            exact ih_8 (v6_5, v7_27, v8_28) H locs ls ⟨hF, hP, hD, hS, lv_sub hl [4, 5, 6, 7, 8, 1, 0] rfl⟩
          · replace hF := if_i c_26 hF
            refine lv_iload hx hb dX0_ownedAfterMarch_80 (lv_at hl 6 rfl) ?_
            refine lv_iload hx hb dX0_ownedAfterMarch_82 (lv_at hl 1 rfl) ?_
            refine lv_iconst (v := (-1)) hx hb dX0_ownedAfterMarch_84 (by decide) ?_
            refine lv_ixor hx hb dX0_ownedAfterMarch_85 ?_
            refine lv_iand hx hb dX0_ownedAfterMarch_86 ?_
            refine lv_topi (fun v6_29 ev6_29 => ?_)
            replace hF := nm_i hF ev6_29
            refine lv_istore (lv' := [(6, .int v6_29), (10, .int r_23), (9, .int r_21), (0, .ref aG_0), (1, .long p1), (3, .long p3), (5, .int p5), (7, .int v7_6), (8, .int v8_7)]) hx hb dX0_ownedAfterMarch_87 hl (by decide) rfl (fun ls hl => ?_)
            refine lv_iload hx hb dX0_ownedAfterMarch_89 (lv_at hl 7 rfl) ?_
            refine lv_iload hx hb dX0_ownedAfterMarch_91 (lv_at hl 2 rfl) ?_
            refine lv_iconst (v := (-1)) hx hb dX0_ownedAfterMarch_93 (by decide) ?_
            refine lv_ixor hx hb dX0_ownedAfterMarch_94 ?_
            refine lv_iand hx hb dX0_ownedAfterMarch_95 ?_
            refine lv_topi (fun v7_30 ev7_30 => ?_)
            replace hF := nm_i hF ev7_30
            refine lv_istore (lv' := [(7, .int v7_30), (6, .int v6_29), (10, .int r_23), (9, .int r_21), (0, .ref aG_0), (1, .long p1), (3, .long p3), (5, .int p5), (8, .int v8_7)]) hx hb dX0_ownedAfterMarch_96 hl (by decide) rfl (fun ls hl => ?_)
            obtain ⟨v8_31, ev8_31⟩ : ∃ y : Int32, y = v8_7 + 1 := ⟨_, rfl⟩
            replace hF := nm_i hF ev8_31
            refine lv_iinc (v := v8_31) (lv' := [(8, .int v8_31), (7, .int v7_30), (6, .int v6_29), (10, .int r_23), (9, .int r_21), (0, .ref aG_0), (1, .long p1), (3, .long p3), (5, .int p5)]) hx hb dX0_ownedAfterMarch_98 hl (k := 8) rfl (by rw [ev8_31]; rfl) (by decide) rfl (fun ls hl => ?_)
            refine lv_goto (tgt := 25) hx hb dX0_ownedAfterMarch_101 (by decide) ?_
            exact ih_8 (v6_29, v7_30, v8_31) H locs ls ⟨hF, hP, hD, hS, lv_sub hl [5, 6, 7, 8, 2, 1, 0] rfl⟩
        · replace hF := if_i c_25 hF
          refine lv_iload hx hb dX0_ownedAfterMarch_65 (lv_at hl 6 rfl) ?_
          refine lv_iload hx hb dX0_ownedAfterMarch_67 (lv_at hl 1 rfl) ?_
          refine lv_ior hx hb dX0_ownedAfterMarch_69 ?_
          refine lv_topi (fun v6_32 ev6_32 => ?_)
          replace hF := nm_i hF ev6_32
          refine lv_istore (lv' := [(6, .int v6_32), (10, .int r_23), (9, .int r_21), (0, .ref aG_0), (1, .long p1), (3, .long p3), (5, .int p5), (7, .int v7_6), (8, .int v8_7)]) hx hb dX0_ownedAfterMarch_70 hl (by decide) rfl (fun ls hl => ?_)
          refine lv_goto (tgt := 89) hx hb dX0_ownedAfterMarch_72 (by decide) ?_
          refine lv_iload hx hb dX0_ownedAfterMarch_89 (lv_at hl 7 rfl) ?_
          refine lv_iload hx hb dX0_ownedAfterMarch_91 (lv_at hl 2 rfl) ?_
          refine lv_iconst (v := (-1)) hx hb dX0_ownedAfterMarch_93 (by decide) ?_
          refine lv_ixor hx hb dX0_ownedAfterMarch_94 ?_
          refine lv_iand hx hb dX0_ownedAfterMarch_95 ?_
          refine lv_topi (fun v7_33 ev7_33 => ?_)
          replace hF := nm_i hF ev7_33
          refine lv_istore (lv' := [(7, .int v7_33), (6, .int v6_32), (10, .int r_23), (9, .int r_21), (0, .ref aG_0), (1, .long p1), (3, .long p3), (5, .int p5), (8, .int v8_7)]) hx hb dX0_ownedAfterMarch_96 hl (by decide) rfl (fun ls hl => ?_)
          obtain ⟨v8_34, ev8_34⟩ : ∃ y : Int32, y = v8_7 + 1 := ⟨_, rfl⟩
          replace hF := nm_i hF ev8_34
          refine lv_iinc (v := v8_34) (lv' := [(8, .int v8_34), (7, .int v7_33), (6, .int v6_32), (10, .int r_23), (9, .int r_21), (0, .ref aG_0), (1, .long p1), (3, .long p3), (5, .int p5)]) hx hb dX0_ownedAfterMarch_98 hl (k := 8) rfl (by rw [ev8_34]; rfl) (by decide) rfl (fun ls hl => ?_)
          refine lv_goto (tgt := 25) hx hb dX0_ownedAfterMarch_101 (by decide) ?_
          exact ih_8 (v6_32, v7_33, v8_34) H locs ls ⟨hF, hP, hD, hS, lv_sub hl [5, 6, 7, 8, 2, 1, 0] rfl⟩

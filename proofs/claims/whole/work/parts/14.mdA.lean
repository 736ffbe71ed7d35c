noncomputable def f_X7_in (p0 : Int64) (p2 : Int64) (p4 : Int64) : Option (Int32) := if (lg_cmp p0 p2) < 0 then (some (0 : Int32)) else (if (0 : Int32) < (lg_cmp p0 p4) then (some (0 : Int32)) else (some (1 : Int32)))
set_option maxHeartbeats 4000000 in
set_option maxRecDepth 100000 in
theorem c_X7_in (l : Launch) (D : va_G) (ci : Nat → ClassId) (sz : Nat) (p0 : Int64) (p2 : Int64) (p4 : Int64) (res : Int32) (hF : f_X7_in p0 p2 p4 = some res) : CtI l yX7_in wsX7_in { frames := 0, cells := 0, slots := 0, locals := 0 } [.long p0, .long p2, .long p4] D ci [] sz res [] := by
  refine Met.ofW (cc := cX7_in) (maxL := 6) (ret := (some .boolean)) (by decide) rfl ?_
  intro p e s m args below meth c s₁ B hml hv
  obtain ⟨rfl, hsz, hP, hK, hD0⟩ := hv
  have hx := B.exec
  have hb := B.bytes
  have hr := B.returns
  have hts := atoms_spec (ws := wsX7_in) B.pre
  have hown : s.vm.findClass RX7 = some m.cls := findClass_of_methodNamed B.named
  have hlocks := B.notSynchronized
  subst hsz
  have hD := hD0.self (sz := s.heap.size)
  generalize hAe : va_A [] s.heap.size = A at hD ⊢
  have hA : ∀ q : Nat, s.heap.size ≤ q → A q := fun q h => by rw [← hAe]; exact Or.inr h
  clear hD0 hAe
  have hl := lv_entry ([.long p0, .long p2, .long p4]) (n := 6) (Nat.le_of_ble_eq_true rfl)
  rw [lg_entry_eq]
  generalize (lg_sl ([.long p0, .long p2, .long p4]) ++ List.replicate (6 - (lg_sl ([.long p0, .long p2, .long p4])).length) Slot.unset).toArray = ls at hl ⊢
  have hl : lv_has ls 6 [(0, .long p0), (2, .long p2), (4, .long p4)] := hl
  have hP : va_P D vwCl [] s.heap := hP
  generalize hH0 : s.heap = H at hP ⊢
  have hS : va_S A s.heap H [] := by rw [← hH0]; exact va_S.rf
  clear hH0
  generalize ([] : List Loc) = locs at hS ⊢
  unfold f_X7_in at hF
  refine lv_lload_n hx hb dX7_in_0 rfl (lv_at hl 0 rfl) ?_
  refine lv_lload_n hx hb dX7_in_1 rfl (lv_at hl 1 rfl) ?_
  refine W.lcmp hx hb dX7_in_2 ?_
  refine lv_if_lt (tgt := 17) hx hb dX7_in_3 (by decide) (fun c_1 => ?_) (fun c_1 => ?_)
  · replace hF := if_i c_1 hF
    refine lv_iconst (v := 0) hx hb dX7_in_17 (by decide) ?_
    obtain rfl := Option.some.inj hF
    exact W.zret (v := 0) (ty := .boolean) hx hb hr rfl (fun t ht hW => ⟨⟨_, (), rfl, rfl, by rw [ht]; exact hP, va_K.moved hW.alike hK, hD⟩, hS.F ht⟩) hS.2.2 dX7_in_18
  · replace hF := if_o c_1 hF
    refine lv_lload_n hx hb dX7_in_6 rfl (lv_at hl 0 rfl) ?_
    refine lv_lload hx hb dX7_in_7 (lv_at hl 2 rfl) ?_
    refine W.lcmp hx hb dX7_in_9 ?_
    refine lv_if_gt (tgt := 17) hx hb dX7_in_10 (by decide) (fun c_2 => ?_) (fun c_2 => ?_)
    · replace hF := if_i c_2 hF
      refine lv_iconst (v := 0) hx hb dX7_in_17 (by decide) ?_
      obtain rfl := Option.some.inj hF
      exact W.zret (v := 0) (ty := .boolean) hx hb hr rfl (fun t ht hW => ⟨⟨_, (), rfl, rfl, by rw [ht]; exact hP, va_K.moved hW.alike hK, hD⟩, hS.F ht⟩) hS.2.2 dX7_in_18
    · replace hF := if_o c_2 hF
      refine lv_iconst (v := 1) hx hb dX7_in_13 (by decide) ?_
      refine lv_goto (tgt := 18) hx hb dX7_in_14 (by decide) ?_
      obtain rfl := Option.some.inj hF
      exact W.zret (v := 1) (ty := .boolean) hx hb hr rfl (fun t ht hW => ⟨⟨_, (), rfl, rfl, by rw [ht]; exact hP, va_K.moved hW.alike hK, hD⟩, hS.F ht⟩) hS.2.2 dX7_in_18
noncomputable def f_X7_has (p0 : Int32) (p1 : Int32) : Option (Int32) := if ((p0 >>> (p1 &&& 31)) &&& 1) = 1 then (some (1 : Int32)) else (some (0 : Int32))
set_option maxHeartbeats 4000000 in
set_option maxRecDepth 100000 in
theorem c_X7_has (l : Launch) (D : va_G) (ci : Nat → ClassId) (sz : Nat) (p0 : Int32) (p1 : Int32) (res : Int32) (hF : f_X7_has p0 p1 = some res) : CtI l yX7_has wsX7_has { frames := 0, cells := 0, slots := 0, locals := 0 } [.int p0, .int p1] D ci [] sz res [] := by
  refine Met.ofW (cc := cX7_has) (maxL := 2) (ret := (some .boolean)) (by decide) rfl ?_
  intro p e s m args below meth c s₁ B hml hv
  obtain ⟨rfl, hsz, hP, hK, hD0⟩ := hv
  have hx := B.exec
  have hb := B.bytes
  have hr := B.returns
  have hts := atoms_spec (ws := wsX7_has) B.pre
  have hown : s.vm.findClass RX7 = some m.cls := findClass_of_methodNamed B.named
  have hlocks := B.notSynchronized
  subst hsz
  have hD := hD0.self (sz := s.heap.size)
  generalize hAe : va_A [] s.heap.size = A at hD ⊢
  have hA : ∀ q : Nat, s.heap.size ≤ q → A q := fun q h => by rw [← hAe]; exact Or.inr h
  clear hD0 hAe
  have hl := lv_entry ([.int p0, .int p1]) (n := 2) (Nat.le_of_ble_eq_true rfl)
  rw [lg_entry_eq]
  generalize (lg_sl ([.int p0, .int p1]) ++ List.replicate (2 - (lg_sl ([.int p0, .int p1])).length) Slot.unset).toArray = ls at hl ⊢
  have hl : lv_has ls 2 [(0, .int p0), (1, .int p1)] := hl
  have hP : va_P D vwCl [] s.heap := hP
  generalize hH0 : s.heap = H at hP ⊢
  have hS : va_S A s.heap H [] := by rw [← hH0]; exact va_S.rf
  clear hH0
  generalize ([] : List Loc) = locs at hS ⊢
  unfold f_X7_has at hF
  refine lv_iload_n hx hb dX7_has_0 rfl (lv_at hl 0 rfl) ?_
  refine lv_iload_n hx hb dX7_has_1 rfl (lv_at hl 1 rfl) ?_
  refine lv_ishr hx hb dX7_has_2 ?_
  refine lv_iconst (v := 1) hx hb dX7_has_3 (by decide) ?_
  refine lv_iand hx hb dX7_has_4 ?_
  refine lv_iconst (v := 1) hx hb dX7_has_5 (by decide) ?_
  refine lv_icmp_ne (tgt := 13) hx hb dX7_has_6 (by decide) (fun c_1 => ?_) (fun c_1 => ?_)
  · replace hF := if_o c_1 hF
    refine lv_iconst (v := 0) hx hb dX7_has_13 (by decide) ?_
    obtain rfl := Option.some.inj hF
    exact W.zret (v := 0) (ty := .boolean) hx hb hr rfl (fun t ht hW => ⟨⟨_, (), rfl, rfl, by rw [ht]; exact hP, va_K.moved hW.alike hK, hD⟩, hS.F ht⟩) hS.2.2 dX7_has_14
  · replace hF := if_i c_1 hF
    refine lv_iconst (v := 1) hx hb dX7_has_9 (by decide) ?_
    refine lv_goto (tgt := 14) hx hb dX7_has_10 (by decide) ?_
    obtain rfl := Option.some.inj hF
    exact W.zret (v := 1) (ty := .boolean) hx hb hr rfl (fun t ht hW => ⟨⟨_, (), rfl, rfl, by rw [ht]; exact hP, va_K.moved hW.alike hK, hD⟩, hS.F ht⟩) hS.2.2 dX7_has_14
noncomputable def L_X7_bits_4 (p0 : Int32) : Nat → Int32 → Int32 → Option (Int32 × Int32)
  | 0, _, _ => none
  | n + 1, v1_3, v2_4 => if (25 : Int32) ≤ v2_4 then (some (v1_3, v2_4)) else (nm (v1_3 + ((p0 >>> (v2_4 &&& 31)) &&& 1)) fun v1_12 => nm (v2_4 + 1) fun v2_13 => L_X7_bits_4 p0 n v1_12 v2_13)
noncomputable def f_X7_bits (p0 : Int32) : Option (Int32) := nm (0 : Int32) fun v1_1 => nm (0 : Int32) fun v2_2 => (L_X7_bits_4 p0 3000 v1_1 v2_2).bind fun q_15 => nm q_15.1 fun v1_7 => nm q_15.2 fun v2_8 => some v1_7
set_option maxHeartbeats 4000000 in
set_option maxRecDepth 100000 in
theorem c_X7_bits (l : Launch) (D : va_G) (ci : Nat → ClassId) (sz : Nat) (p0 : Int32) (res : Int32) (hF : f_X7_bits p0 = some res) : CtI l yX7_bits wsX7_bits { frames := 0, cells := 0, slots := 0, locals := 0 } [.int p0] D ci [] sz res [] := by
  refine Met.ofW (cc := cX7_bits) (maxL := 3) (ret := (some .int)) (by decide) rfl ?_
  intro p e s m args below meth c s₁ B hml hv
  obtain ⟨rfl, hsz, hP, hK, hD0⟩ := hv
  have hx := B.exec
  have hb := B.bytes
  have hr := B.returns
  have hts := atoms_spec (ws := wsX7_bits) B.pre
  have hown : s.vm.findClass RX7 = some m.cls := findClass_of_methodNamed B.named
  have hlocks := B.notSynchronized
  subst hsz
  have hD := hD0.self (sz := s.heap.size)
  generalize hAe : va_A [] s.heap.size = A at hD ⊢
  have hA : ∀ q : Nat, s.heap.size ≤ q → A q := fun q h => by rw [← hAe]; exact Or.inr h
  clear hD0 hAe
  have hl := lv_entry ([.int p0]) (n := 3) (Nat.le_of_ble_eq_true rfl)
  rw [lg_entry_eq]
  generalize (lg_sl ([.int p0]) ++ List.replicate (3 - (lg_sl ([.int p0])).length) Slot.unset).toArray = ls at hl ⊢
  have hl : lv_has ls 3 [(0, .int p0)] := hl
  have hP : va_P D vwCl [] s.heap := hP
  generalize hH0 : s.heap = H at hP ⊢
  have hS : va_S A s.heap H [] := by rw [← hH0]; exact va_S.rf
  clear hH0
  generalize ([] : List Loc) = locs at hS ⊢
  unfold f_X7_bits at hF
  refine lv_iconst (v := 0) hx hb dX7_bits_0 (by decide) ?_
  refine lv_topi (fun v1_1 ev1_1 => ?_)
  replace hF := nm_i hF ev1_1
  refine lv_istore_n (lv' := [(1, .int v1_1), (0, .int p0)]) hx hb dX7_bits_1 rfl hl (by decide) rfl (fun ls hl => ?_)
  refine lv_iconst (v := 0) hx hb dX7_bits_2 (by decide) ?_
  refine lv_topi (fun v2_2 ev2_2 => ?_)
  replace hF := nm_i hF ev2_2
  refine lv_istore_n (lv' := [(2, .int v2_2), (1, .int v1_1), (0, .int p0)]) hx hb dX7_bits_3 rfl hl (by decide) rfl (fun ls hl => ?_)
  replace hF := bnd hF
  obtain ⟨q_15, hv_14, hF⟩ := hF
  obtain ⟨v1_7, ev1_7⟩ : ∃ y : Int32, y = q_15.1 := ⟨_, rfl⟩
  replace hF := nm_i hF ev1_7
  obtain ⟨v2_8, ev2_8⟩ : ∃ y : Int32, y = q_15.2 := ⟨_, rfl⟩
  replace hF := nm_i hF ev2_8
  obtain rfl : q_15 = (v1_7, v2_8) := by rw [ev1_7, ev2_8]
  clear ev1_7
  clear ev2_8
  refine jn (P := fun H locs ls => va_P D vwCl [] H ∧ va_D A [] ∧ va_S A s.heap H locs ∧ lv_has ls 3 [(0, .int p0), (1, .int v1_7), (2, .int v2_8)]) (pcJ := 24) (st := []) ?_ ?_
  · intro H locs ls hJ
    obtain ⟨hP, hD, hS, hl⟩ := hJ
    refine lv_iload_n hx hb dX7_bits_24 rfl (lv_at hl 1 rfl) ?_
    obtain rfl := Option.some.inj hF
    exact W.iret (v := v1_7) hx hb hr (fun t ht hW => ⟨⟨_, (), rfl, rfl, by rw [ht]; exact hP, va_K.moved hW.alike hK, hD⟩, hS.F ht⟩) hS.2.2 dX7_bits_25
  · intro J_6
    clear hF
    have hF := hv_14
    refine lpW (σ := Int32 × Int32) (I := fun n v H locs ls => L_X7_bits_4 p0 n v.1 v.2 = some (v1_7, v2_8) ∧ va_P D vwCl [] H ∧ va_D A [] ∧ va_S A s.heap H locs ∧ lv_has ls 3 [(0, .int p0), (1, .int v.1), (2, .int v.2)]) 3000 (v1_1, v2_2) (fun _ _ _ _ h => no_none h.1) ⟨hF, hP, hD, hS, lv_sub hl [2, 1, 0] rfl⟩ ?_
    clear hF hP hD hS hl
    intro n ih_5 vq H locs ls hI
    obtain ⟨v1_3, v2_4⟩ := vq
    obtain ⟨hF, hP, hD, hS, hl⟩ := hI
    have hP : va_P D vwCl [] H := hP
    have hD : va_D A [] := hD
    have hl : lv_has ls 3 [(0, .int p0), (1, .int v1_3), (2, .int v2_4)] := hl
    replace hF : L_X7_bits_4 p0 (n + 1) v1_3 v2_4 = some (v1_7, v2_8) := hF
    rw [L_X7_bits_4] at hF
    refine lv_iload_n hx hb dX7_bits_4 rfl (lv_at hl 2 rfl) ?_
    refine lv_bipush (v := 25) hx hb dX7_bits_5 (by decide) ?_
    refine lv_icmp_ge (tgt := 24) hx hb dX7_bits_7 (by decide) (fun c_9 => ?_) (fun c_9 => ?_)
    · replace hF := if_i c_9 hF
      obtain ⟨g_10, g_11⟩ : v1_3 = v1_7 ∧ v2_4 = v2_8 := by have h9 := Option.some.inj hF; simpa only [Prod.mk.injEq] using h9
      subst g_10
      subst g_11
      exact J_6 H locs ls ⟨hP, hD, hS, lv_sub hl [0, 1, 2] rfl⟩
    · replace hF := if_o c_9 hF
      refine lv_iload_n hx hb dX7_bits_10 rfl (lv_at hl 1 rfl) ?_
      refine lv_iload_n hx hb dX7_bits_11 rfl (lv_at hl 0 rfl) ?_
      refine lv_iload_n hx hb dX7_bits_12 rfl (lv_at hl 2 rfl) ?_
      refine lv_ishr hx hb dX7_bits_13 ?_
      refine lv_iconst (v := 1) hx hb dX7_bits_14 (by decide) ?_
      refine lv_iand hx hb dX7_bits_15 ?_
      refine lv_iadd hx hb dX7_bits_16 ?_
      refine lv_topi (fun v1_12 ev1_12 => ?_)
      replace hF := nm_i hF ev1_12
      refine lv_istore_n (lv' := [(1, .int v1_12), (0, .int p0), (2, .int v2_4)]) hx hb dX7_bits_17 rfl hl (by decide) rfl (fun ls hl => ?_)
      obtain ⟨v2_13, ev2_13⟩ : ∃ y : Int32, y = v2_4 + 1 := ⟨_, rfl⟩
      replace hF := nm_i hF ev2_13
      refine lv_iinc (v := v2_13) (lv' := [(2, .int v2_13), (1, .int v1_12), (0, .int p0)]) hx hb dX7_bits_18 hl (k := 2) rfl (by rw [ev2_13]; rfl) (by decide) rfl (fun ls hl => ?_)
      refine lv_goto (tgt := 4) hx hb dX7_bits_21 (by decide) ?_
      exact ih_5 (v1_12, v2_13) H locs ls ⟨hF, hP, hD, hS, lv_sub hl [2, 1, 0] rfl⟩
noncomputable def f_X7_isField (zM : MS) (p1 : Int32) : Option (Int32) := (f_X7_in (Int32.toInt64 p1) (0 : Int64) (Int32.toInt64 ((zM.1 2) - 1))).bind fun r_1 => bz r_1 <| some r_1
set_option maxHeartbeats 4000000 in
set_option maxRecDepth 100000 in
theorem c_X7_isField (l : Launch) (D : va_G) (ci : Nat → ClassId) (aM : Nat → Nat) (sz : Nat) (zM : MS) (p1 : Int32) (res : Int32) (hF : f_X7_isField zM p1 = some res) : CtI l yX7_isField wsX7_isField { frames := 1, cells := 0, slots := 0, locals := 25 } [.ref (aM 0), .int p1] D ci (wcM ci aM zM) sz res (wcM ci aM zM) := by
  refine Met.ofW (cc := cX7_isField) (maxL := 2) (ret := (some .boolean)) (by decide) rfl ?_
  intro p e s m args below meth c s₁ B hml hv
  obtain ⟨rfl, hsz, hP, hK, hD0⟩ := hv
  have hx := B.exec
  have hb := B.bytes
  have hr := B.returns
  have hts := atoms_spec (ws := wsX7_isField) B.pre
  have hown : s.vm.findClass RX7 = some m.cls := findClass_of_methodNamed B.named
  have hlocks := B.notSynchronized
  subst hsz
  have hD := hD0.self (sz := s.heap.size)
  generalize hAe : va_A (wcM ci aM zM) s.heap.size = A at hD ⊢
  have hA : ∀ q : Nat, s.heap.size ≤ q → A q := fun q h => by rw [← hAe]; exact Or.inr h
  clear hD0 hAe
  have hl := lv_entry ([.ref (aM 0), .int p1]) (n := 2) (Nat.le_of_ble_eq_true rfl)
  rw [lg_entry_eq]
  generalize (lg_sl ([.ref (aM 0), .int p1]) ++ List.replicate (2 - (lg_sl ([.ref (aM 0), .int p1])).length) Slot.unset).toArray = ls at hl ⊢
  have hl : lv_has ls 2 [(0, .ref (aM 0)), (1, .int p1)] := hl
  have hP : va_P D vwCl (wcM ci aM zM) s.heap := hP
  generalize hH0 : s.heap = H at hP ⊢
  have hS : va_S A s.heap H [] := by rw [← hH0]; exact va_S.rf
  clear hH0
  generalize ([] : List Loc) = locs at hS ⊢
  have hk_0 := hts (.fieldLink RX7 84 "HedgeWarModel" "fields" "I") (by decide +kernel)
  have hin_RX7 : ∀ w ∈ wsX70, w ∈ wsX7_isField := by decide +kernel
  unfold f_X7_isField at hF
  refine lv_iload_n hx hb dX7_isField_0 rfl (lv_at hl 1 rfl) ?_
  refine lv_i2l (v := (Int32.toInt64 p1)) hx hb dX7_isField_1 rfl ?_
  refine lv_lconst (v := 0) hx hb dX7_isField_2 (by decide) ?_
  refine lv_aload_n hx hb dX7_isField_3 rfl (lv_at hl 0 rfl) ?_
  refine va_get (D := D) (ci := 7) (v := .int (zM.1 2)) (C := RX7) (T := TX7) (N := 38) hx hb hts hin_RX7 hown hK hP 0 rfl rfl 2 (by decide) hk_0 (fun _ h9 => h9) rfl dX7_isField_4 ?_
  refine lv_iconst (v := 1) hx hb dX7_isField_7 (by decide) ?_
  refine lv_isub hx hb dX7_isField_8 ?_
  refine lv_i2l (v := (Int32.toInt64 ((zM.1 2) - 1))) hx hb dX7_isField_9 rfl ?_
  replace hF := bnd hF
  obtain ⟨r_1, hc_2, hF⟩ := hF
  refine cl_Sie (As := [.long (Int32.toInt64 p1), .long 0, .long (Int32.toInt64 ((zM.1 2) - 1))]) (rest := []) ⟨hx, hb, hml, hown, hts⟩ (va_cwS 3 hts gX7_isField_X7_in rfl rfl rfl (by decide +kernel) ⟨Nat.le_of_ble_eq_true rfl, Nat.le_of_ble_eq_true rfl⟩) (c_X7_in l D ci  H.size (Int32.toInt64 p1) (0 : Int64) (Int32.toInt64 ((zM.1 2) - 1)) _ hc_2) hK hP hD hS hA rfl rfl hl.1 (Nat.le_of_ble_eq_true rfl) dX7_isField_10 (Nat.zero_le _) (Nat.zero_le _) (fun H locs hP hD hS => ?_)
  have hP : va_P D vwCl (wcM ci aM zM) H := hP
  have hD : va_D A (wcM ci aM zM) := hD
  replace hF := bz_i hF
  obtain ⟨hz_3, hF⟩ := hF
  obtain rfl := Option.some.inj hF
  exact W.zret (v := r_1) (ty := .boolean) hx hb hr hz_3 (fun t ht hW => ⟨⟨_, (), rfl, rfl, by rw [ht]; exact hP, va_K.moved hW.alike hK, hD⟩, hS.F ht⟩) hS.2.2 dX7_isField_13
noncomputable def f_X7_isEdge (zM : MS) (p1 : Int32) : Option (Int32) := (f_X7_in (Int32.toInt64 p1) (0 : Int64) (Int32.toInt64 ((zM.1 3) - 1))).bind fun r_1 => bz r_1 <| some r_1
set_option maxHeartbeats 4000000 in
set_option maxRecDepth 100000 in
theorem c_X7_isEdge (l : Launch) (D : va_G) (ci : Nat → ClassId) (aM : Nat → Nat) (sz : Nat) (zM : MS) (p1 : Int32) (res : Int32) (hF : f_X7_isEdge zM p1 = some res) : CtI l yX7_isEdge wsX7_isEdge { frames := 1, cells := 0, slots := 0, locals := 25 } [.ref (aM 0), .int p1] D ci (wcM ci aM zM) sz res (wcM ci aM zM) := by
  refine Met.ofW (cc := cX7_isEdge) (maxL := 2) (ret := (some .boolean)) (by decide) rfl ?_
  intro p e s m args below meth c s₁ B hml hv
  obtain ⟨rfl, hsz, hP, hK, hD0⟩ := hv
  have hx := B.exec
  have hb := B.bytes
  have hr := B.returns
  have hts := atoms_spec (ws := wsX7_isEdge) B.pre
  have hown : s.vm.findClass RX7 = some m.cls := findClass_of_methodNamed B.named
  have hlocks := B.notSynchronized
  subst hsz
  have hD := hD0.self (sz := s.heap.size)
  generalize hAe : va_A (wcM ci aM zM) s.heap.size = A at hD ⊢
  have hA : ∀ q : Nat, s.heap.size ≤ q → A q := fun q h => by rw [← hAe]; exact Or.inr h
  clear hD0 hAe
  have hl := lv_entry ([.ref (aM 0), .int p1]) (n := 2) (Nat.le_of_ble_eq_true rfl)
  rw [lg_entry_eq]
  generalize (lg_sl ([.ref (aM 0), .int p1]) ++ List.replicate (2 - (lg_sl ([.ref (aM 0), .int p1])).length) Slot.unset).toArray = ls at hl ⊢
  have hl : lv_has ls 2 [(0, .ref (aM 0)), (1, .int p1)] := hl
  have hP : va_P D vwCl (wcM ci aM zM) s.heap := hP
  generalize hH0 : s.heap = H at hP ⊢
  have hS : va_S A s.heap H [] := by rw [← hH0]; exact va_S.rf
  clear hH0
  generalize ([] : List Loc) = locs at hS ⊢
  have hk_0 := hts (.fieldLink RX7 91 "HedgeWarModel" "edges" "I") (by decide +kernel)
  have hin_RX7 : ∀ w ∈ wsX70, w ∈ wsX7_isEdge := by decide +kernel
  unfold f_X7_isEdge at hF
  refine lv_iload_n hx hb dX7_isEdge_0 rfl (lv_at hl 1 rfl) ?_
  refine lv_i2l (v := (Int32.toInt64 p1)) hx hb dX7_isEdge_1 rfl ?_
  refine lv_lconst (v := 0) hx hb dX7_isEdge_2 (by decide) ?_
  refine lv_aload_n hx hb dX7_isEdge_3 rfl (lv_at hl 0 rfl) ?_
  refine va_get (D := D) (ci := 7) (v := .int (zM.1 3)) (C := RX7) (T := TX7) (N := 38) hx hb hts hin_RX7 hown hK hP 0 rfl rfl 3 (by decide) hk_0 (fun _ h9 => h9) rfl dX7_isEdge_4 ?_
  refine lv_iconst (v := 1) hx hb dX7_isEdge_7 (by decide) ?_
  refine lv_isub hx hb dX7_isEdge_8 ?_
  refine lv_i2l (v := (Int32.toInt64 ((zM.1 3) - 1))) hx hb dX7_isEdge_9 rfl ?_
  replace hF := bnd hF
  obtain ⟨r_1, hc_2, hF⟩ := hF
  refine cl_Sie (As := [.long (Int32.toInt64 p1), .long 0, .long (Int32.toInt64 ((zM.1 3) - 1))]) (rest := []) ⟨hx, hb, hml, hown, hts⟩ (va_cwS 3 hts gX7_isEdge_X7_in rfl rfl rfl (by decide +kernel) ⟨Nat.le_of_ble_eq_true rfl, Nat.le_of_ble_eq_true rfl⟩) (c_X7_in l D ci  H.size (Int32.toInt64 p1) (0 : Int64) (Int32.toInt64 ((zM.1 3) - 1)) _ hc_2) hK hP hD hS hA rfl rfl hl.1 (Nat.le_of_ble_eq_true rfl) dX7_isEdge_10 (Nat.zero_le _) (Nat.zero_le _) (fun H locs hP hD hS => ?_)
  have hP : va_P D vwCl (wcM ci aM zM) H := hP
  have hD : va_D A (wcM ci aM zM) := hD
  replace hF := bz_i hF
  obtain ⟨hz_3, hF⟩ := hF
  obtain rfl := Option.some.inj hF
  exact W.zret (v := r_1) (ty := .boolean) hx hb hr hz_3 (fun t ht hW => ⟨⟨_, (), rfl, rfl, by rw [ht]; exact hP, va_K.moved hW.alike hK, hD⟩, hS.F ht⟩) hS.2.2 dX7_isEdge_13
noncomputable def f_X7_isEstate (p0 : Int32) : Option (Int32) := if p0 = 0 then (some (1 : Int32)) else (if p0 = 1 then (some (1 : Int32)) else (some (0 : Int32)))
set_option maxHeartbeats 4000000 in
set_option maxRecDepth 100000 in
theorem c_X7_isEstate (l : Launch) (D : va_G) (ci : Nat → ClassId) (sz : Nat) (p0 : Int32) (res : Int32) (hF : f_X7_isEstate p0 = some res) : CtI l yX7_isEstate wsX7_isEstate { frames := 0, cells := 0, slots := 0, locals := 0 } [.int p0] D ci [] sz res [] := by
  refine Met.ofW (cc := cX7_isEstate) (maxL := 1) (ret := (some .boolean)) (by decide) rfl ?_
  intro p e s m args below meth c s₁ B hml hv
  obtain ⟨rfl, hsz, hP, hK, hD0⟩ := hv
  have hx := B.exec
  have hb := B.bytes
  have hr := B.returns
  have hts := atoms_spec (ws := wsX7_isEstate) B.pre
  have hown : s.vm.findClass RX7 = some m.cls := findClass_of_methodNamed B.named
  have hlocks := B.notSynchronized
  subst hsz
  have hD := hD0.self (sz := s.heap.size)
  generalize hAe : va_A [] s.heap.size = A at hD ⊢
  have hA : ∀ q : Nat, s.heap.size ≤ q → A q := fun q h => by rw [← hAe]; exact Or.inr h
  clear hD0 hAe
  have hl := lv_entry ([.int p0]) (n := 1) (Nat.le_of_ble_eq_true rfl)
  rw [lg_entry_eq]
  generalize (lg_sl ([.int p0]) ++ List.replicate (1 - (lg_sl ([.int p0])).length) Slot.unset).toArray = ls at hl ⊢
  have hl : lv_has ls 1 [(0, .int p0)] := hl
  have hP : va_P D vwCl [] s.heap := hP
  generalize hH0 : s.heap = H at hP ⊢
  have hS : va_S A s.heap H [] := by rw [← hH0]; exact va_S.rf
  clear hH0
  generalize ([] : List Loc) = locs at hS ⊢
  unfold f_X7_isEstate at hF
  refine lv_iload_n hx hb dX7_isEstate_0 rfl (lv_at hl 0 rfl) ?_
  refine lv_if_eq (tgt := 9) hx hb dX7_isEstate_1 (by decide) (fun c_1 => ?_) (fun c_1 => ?_)
  · replace hF := if_i c_1 hF
    refine lv_iconst (v := 1) hx hb dX7_isEstate_9 (by decide) ?_
    refine lv_goto (tgt := 14) hx hb dX7_isEstate_10 (by decide) ?_
    obtain rfl := Option.some.inj hF
    exact W.zret (v := 1) (ty := .boolean) hx hb hr rfl (fun t ht hW => ⟨⟨_, (), rfl, rfl, by rw [ht]; exact hP, va_K.moved hW.alike hK, hD⟩, hS.F ht⟩) hS.2.2 dX7_isEstate_14
  · replace hF := if_o c_1 hF
    refine lv_iload_n hx hb dX7_isEstate_4 rfl (lv_at hl 0 rfl) ?_
    refine lv_iconst (v := 1) hx hb dX7_isEstate_5 (by decide) ?_
    refine lv_icmp_ne (tgt := 13) hx hb dX7_isEstate_6 (by decide) (fun c_2 => ?_) (fun c_2 => ?_)
    · replace hF := if_o c_2 hF
      refine lv_iconst (v := 0) hx hb dX7_isEstate_13 (by decide) ?_
      obtain rfl := Option.some.inj hF
      exact W.zret (v := 0) (ty := .boolean) hx hb hr rfl (fun t ht hW => ⟨⟨_, (), rfl, rfl, by rw [ht]; exact hP, va_K.moved hW.alike hK, hD⟩, hS.F ht⟩) hS.2.2 dX7_isEstate_14
    · replace hF := if_i c_2 hF
      refine lv_iconst (v := 1) hx hb dX7_isEstate_9 (by decide) ?_
      refine lv_goto (tgt := 14) hx hb dX7_isEstate_10 (by decide) ?_
      obtain rfl := Option.some.inj hF
      exact W.zret (v := 1) (ty := .boolean) hx hb hr rfl (fun t ht hW => ⟨⟨_, (), rfl, rfl, by rw [ht]; exact hP, va_K.moved hW.alike hK, hD⟩, hS.F ht⟩) hS.2.2 dX7_isEstate_14
noncomputable def f_X7_feed (zM : MS) (p1 : Int32) : Option (Int32 × MS) := (f_X7_in (Int32.toInt64 p1) (0 : Int64) (255 : Int64)).bind fun r_1 => if r_1 = 0 then (some ((-1000000002 : Int32), zM)) else (if (zM.1 11) = 240 then (some ((-1000000004 : Int32), zM)) else (ast 240 (zM.1 11) <| nm ((zM.1, va_up zM.2 10 (upd (zM.2 10) (Int32.toNatClampNeg (zM.1 11)) p1)) : MS) fun zM_6 => nm ((zM_6.1 11) + 1) fun f11_7 => nm ((upd zM_6.1 11 f11_7, zM_6.2) : MS) fun zM_8 => some ((zM_8.1 11), zM_8)))
set_option maxHeartbeats 4000000 in
set_option maxRecDepth 100000 in
theorem c_X7_feed (l : Launch) (D : va_G) (ci : Nat → ClassId) (aM : Nat → Nat) (sz : Nat) (zM : MS) (p1 : Int32) (res : Int32 × MS) (hF : f_X7_feed zM p1 = some res) : CtI l yX7_feed wsX7_feed { frames := 1, cells := 0, slots := 0, locals := 25 } [.ref (aM 0), .int p1] D ci (wcM ci aM zM) sz res.1 (wcM ci aM res.2) := by
  refine Met.ofW (cc := cX7_feed) (maxL := 2) (ret := (some .int)) (by decide) rfl ?_
  intro p e s m args below meth c s₁ B hml hv
  obtain ⟨rfl, hsz, hP, hK, hD0⟩ := hv
  have hx := B.exec
  have hb := B.bytes
  have hr := B.returns
  have hts := atoms_spec (ws := wsX7_feed) B.pre
  have hown : s.vm.findClass RX7 = some m.cls := findClass_of_methodNamed B.named
  have hlocks := B.notSynchronized
  subst hsz
  have hD := hD0.self (sz := s.heap.size)
  generalize hAe : va_A (wcM ci aM zM) s.heap.size = A at hD ⊢
  have hA : ∀ q : Nat, s.heap.size ≤ q → A q := fun q h => by rw [← hAe]; exact Or.inr h
  clear hD0 hAe
  have hl := lv_entry ([.ref (aM 0), .int p1]) (n := 2) (Nat.le_of_ble_eq_true rfl)
  rw [lg_entry_eq]
  generalize (lg_sl ([.ref (aM 0), .int p1]) ++ List.replicate (2 - (lg_sl ([.ref (aM 0), .int p1])).length) Slot.unset).toArray = ls at hl ⊢
  have hl : lv_has ls 2 [(0, .ref (aM 0)), (1, .int p1)] := hl
  have hP : va_P D vwCl (wcM ci aM zM) s.heap := hP
  generalize hH0 : s.heap = H at hP ⊢
  have hS : va_S A s.heap H [] := by rw [← hH0]; exact va_S.rf
  clear hH0
  generalize ([] : List Loc) = locs at hS ⊢
  have hk_0 := hts (.constantLong RX7 94 (255)) (by decide +kernel)
  have hk_1 := hts (.fieldLink RX7 97 "HedgeWarModel" "texted" "I") (by decide +kernel)
  have hin_RX7 : ∀ w ∈ wsX70, w ∈ wsX7_feed := by decide +kernel
  have hk_3 := hts (.fieldLink RX7 26 "HedgeWarModel" "text" "[I") (by decide +kernel)
  have hk_4 := hts (.constant RX7 100 (-1000000004)) (by decide +kernel)
  have hk_5 := hts (.constant RX7 96 (-1000000002)) (by decide +kernel)
  unfold f_X7_feed at hF
  refine lv_iload_n hx hb dX7_feed_0 rfl (lv_at hl 1 rfl) ?_
  refine lv_i2l (v := (Int32.toInt64 p1)) hx hb dX7_feed_1 rfl ?_
  refine lv_lconst (v := 0) hx hb dX7_feed_2 (by decide) ?_
  refine lv_ldc2 (v := 255) hx hb hown hk_0 dX7_feed_3 ?_
  replace hF := bnd hF
  obtain ⟨r_1, hc_2, hF⟩ := hF
  refine cl_Sie (As := [.long (Int32.toInt64 p1), .long 0, .long 255]) (rest := []) ⟨hx, hb, hml, hown, hts⟩ (va_cwS 3 hts gX7_feed_X7_in rfl rfl rfl (by decide +kernel) ⟨Nat.le_of_ble_eq_true rfl, Nat.le_of_ble_eq_true rfl⟩) (c_X7_in l D ci  H.size (Int32.toInt64 p1) (0 : Int64) (255 : Int64) _ hc_2) hK hP hD hS hA rfl rfl hl.1 (Nat.le_of_ble_eq_true rfl) dX7_feed_6 (Nat.zero_le _) (Nat.zero_le _) (fun H locs hP hD hS => ?_)
  have hP : va_P D vwCl (wcM ci aM zM) H := hP
  have hD : va_D A (wcM ci aM zM) := hD
  refine lv_if_ne (tgt := 15) hx hb dX7_feed_9 (by decide) (fun c_3 => ?_) (fun c_3 => ?_)
  · replace hF := if_o c_3 hF
    refine lv_aload_n hx hb dX7_feed_15 rfl (lv_at hl 0 rfl) ?_
    refine va_get (D := D) (ci := 7) (v := .int (zM.1 11)) (C := RX7) (T := TX7) (N := 38) hx hb hts hin_RX7 hown hK hP 0 rfl rfl 11 (by decide) hk_1 (fun _ h9 => h9) rfl dX7_feed_16 ?_
    refine lv_sipush (v := 240) hx hb dX7_feed_19 (by decide) ?_
    refine lv_icmp_ne (tgt := 28) hx hb dX7_feed_22 (by decide) (fun c_4 => ?_) (fun c_4 => ?_)
    · replace hF := if_o c_4 hF
      refine lv_aload_n hx hb dX7_feed_28 rfl (lv_at hl 0 rfl) ?_
      refine va_get (D := D) (ci := 7) (v := .ref (aM 10)) (C := RX7) (T := TX7) (N := 38) hx hb hts hin_RX7 hown hK hP 0 rfl rfl 10 (by decide) hk_3 (fun _ h9 => h9) rfl dX7_feed_29 ?_
      refine lv_aload_n hx hb dX7_feed_32 rfl (lv_at hl 0 rfl) ?_
      refine va_get (D := D) (ci := 7) (v := .int (zM.1 11)) (C := RX7) (T := TX7) (N := 38) hx hb hts hin_RX7 hown hK hP 0 rfl rfl 11 (by decide) hk_1 (fun _ h9 => h9) rfl dX7_feed_33 ?_
      refine lv_iload_n hx hb dX7_feed_36 rfl (lv_at hl 1 rfl) ?_
      replace hF := ast_i hF
      obtain ⟨hin_5, hF⟩ := hF
      refine va_iast (x := p1) hx hb hK hP hD hS 6 0 rfl rfl hin_5 dX7_feed_37 (fun H locs hP hD hS => ?_)
      obtain ⟨zM_6, ezM_6⟩ : ∃ y : MS, y = (zM.1, va_up zM.2 10 (upd (zM.2 10) (Int32.toNatClampNeg (zM.1 11)) p1)) := ⟨_, rfl⟩
      replace hF := nm_i hF ezM_6
      have hP : va_P D vwCl (wcM ci aM zM_6) H := by rw [ezM_6]; exact hP
      have hD : va_D A (wcM ci aM zM_6) := by rw [ezM_6]; exact hD
      refine lv_aload_n hx hb dX7_feed_38 rfl (lv_at hl 0 rfl) ?_
      refine lv_dup hx hb dX7_feed_39 rfl ?_
      refine va_get (D := D) (ci := 7) (v := .int (zM_6.1 11)) (C := RX7) (T := TX7) (N := 38) hx hb hts hin_RX7 hown hK hP 0 rfl rfl 11 (by decide) hk_1 (fun _ h9 => h9) rfl dX7_feed_40 ?_
      refine lv_iconst (v := 1) hx hb dX7_feed_43 (by decide) ?_
      refine lv_iadd hx hb dX7_feed_44 ?_
      refine lv_topi (fun f11_7 ef11_7 => ?_)
      replace hF := nm_i hF ef11_7
      refine va_put (D := D) (ci := 7) (v := .int f11_7) (ty := .int) (C := RX7) (T := TX7) (N := 38) hx hb hts hin_RX7 tyX7 tyX7_ok nmX7 hown hK hP hD hS 0 rfl rfl 11 (by decide) hk_1 (fun _ h9 => h9) rfl (by decide +kernel) rfl rfl (Nat.le_of_ble_eq_true rfl) dX7_feed_45 (fun H locs hP hD hS => ?_)
      obtain ⟨zM_8, ezM_8⟩ : ∃ y : MS, y = (upd zM_6.1 11 f11_7, zM_6.2) := ⟨_, rfl⟩
      replace hF := nm_i hF ezM_8
      have hP : va_P D vwCl (wcM ci aM zM_8) H := by rw [ezM_8]; exact hP
      have hD : va_D A (wcM ci aM zM_8) := by rw [ezM_8]; exact hD
      refine lv_aload_n hx hb dX7_feed_48 rfl (lv_at hl 0 rfl) ?_
      refine va_get (D := D) (ci := 7) (v := .int (zM_8.1 11)) (C := RX7) (T := TX7) (N := 38) hx hb hts hin_RX7 hown hK hP 0 rfl rfl 11 (by decide) hk_1 (fun _ h9 => h9) rfl dX7_feed_49 ?_
      obtain rfl := Option.some.inj hF
      exact W.iret (v := (zM_8.1 11)) hx hb hr (fun t ht hW => ⟨⟨_, (), rfl, rfl, by rw [ht]; exact hP, va_K.moved hW.alike hK, hD⟩, hS.F ht⟩) hS.2.2 dX7_feed_52
    · replace hF := if_i c_4 hF
      refine lv_ldc (v := (-1000000004)) hx hb hown hk_4 dX7_feed_25 ?_
      obtain rfl := Option.some.inj hF
      exact W.iret (v := (-1000000004)) hx hb hr (fun t ht hW => ⟨⟨_, (), rfl, rfl, by rw [ht]; exact hP, va_K.moved hW.alike hK, hD⟩, hS.F ht⟩) hS.2.2 dX7_feed_27
  · replace hF := if_i c_3 hF
    refine lv_ldc (v := (-1000000002)) hx hb hown hk_5 dX7_feed_12 ?_
    obtain rfl := Option.some.inj hF
    exact W.iret (v := (-1000000002)) hx hb hr (fun t ht hW => ⟨⟨_, (), rfl, rfl, by rw [ht]; exact hP, va_K.moved hW.alike hK, hD⟩, hS.F ht⟩) hS.2.2 dX7_feed_14
noncomputable def L_X7_here_0 : Nat → MS → Option (MS)
  | 0, _ => none
  | n + 1, zM_1 => if (zM_1.1 11) ≤ (zM_1.1 13) then (some zM_1) else (ald 240 (zM_1.2 10) (zM_1.1 13) fun x_7 => if x_7 = 32 then (nm ((zM_1.1 13) + 1) fun f13_9 => nm ((upd zM_1.1 13 f13_9, zM_1.2) : MS) fun zM_10 => L_X7_here_0 n zM_10) else (some zM_1))
noncomputable def f_X7_here (zM : MS) : Option (Int32 × MS) := (L_X7_here_0 3000 zM).bind fun zM_4 => if (zM_4.1 11) ≤ (zM_4.1 13) then (some ((-1 : Int32), zM_4)) else (ald 240 (zM_4.2 10) (zM_4.1 13) fun x_14 => some (x_14, zM_4))
set_option maxHeartbeats 4000000 in
set_option maxRecDepth 100000 in
theorem c_X7_here (l : Launch) (D : va_G) (ci : Nat → ClassId) (aM : Nat → Nat) (sz : Nat) (zM : MS) (res : Int32 × MS) (hF : f_X7_here zM = some res) : CtI l yX7_here wsX7_here { frames := 0, cells := 0, slots := 0, locals := 0 } [.ref (aM 0)] D ci (wcM ci aM zM) sz res.1 (wcM ci aM res.2) := by
  refine Met.ofW (cc := cX7_here) (maxL := 1) (ret := (some .int)) (by decide) rfl ?_
  intro p e s m args below meth c s₁ B hml hv
  obtain ⟨rfl, hsz, hP, hK, hD0⟩ := hv
  have hx := B.exec
  have hb := B.bytes
  have hr := B.returns
  have hts := atoms_spec (ws := wsX7_here) B.pre
  have hown : s.vm.findClass RX7 = some m.cls := findClass_of_methodNamed B.named
  have hlocks := B.notSynchronized
  subst hsz
  have hD := hD0.self (sz := s.heap.size)
  generalize hAe : va_A (wcM ci aM zM) s.heap.size = A at hD ⊢
  have hA : ∀ q : Nat, s.heap.size ≤ q → A q := fun q h => by rw [← hAe]; exact Or.inr h
  clear hD0 hAe
  have hl := lv_entry ([.ref (aM 0)]) (n := 1) (Nat.le_of_ble_eq_true rfl)
  rw [lg_entry_eq]
  generalize (lg_sl ([.ref (aM 0)]) ++ List.replicate (1 - (lg_sl ([.ref (aM 0)])).length) Slot.unset).toArray = ls at hl ⊢
  have hl : lv_has ls 1 [(0, .ref (aM 0))] := hl
  have hP : va_P D vwCl (wcM ci aM zM) s.heap := hP
  generalize hH0 : s.heap = H at hP ⊢
  have hS : va_S A s.heap H [] := by rw [← hH0]; exact va_S.rf
  clear hH0
  generalize ([] : List Loc) = locs at hS ⊢
  have hk_0 := hts (.fieldLink RX7 101 "HedgeWarModel" "at0" "I") (by decide +kernel)
  have hin_RX7 : ∀ w ∈ wsX70, w ∈ wsX7_here := by decide +kernel
  have hk_2 := hts (.fieldLink RX7 97 "HedgeWarModel" "texted" "I") (by decide +kernel)
  have hk_3 := hts (.fieldLink RX7 26 "HedgeWarModel" "text" "[I") (by decide +kernel)
  unfold f_X7_here at hF
  replace hF := bnd hF
  obtain ⟨zM_4, hv_11, hF⟩ := hF
  refine jn (P := fun H locs ls => va_P D vwCl (wcM ci aM zM_4) H ∧ va_D A (wcM ci aM zM_4) ∧ va_S A s.heap H locs ∧ lv_has ls 1 [(0, .ref (aM 0))]) (pcJ := 38) (st := []) ?_ ?_
  · intro H locs ls hJ
    obtain ⟨hP, hD, hS, hl⟩ := hJ
    refine lv_aload_n hx hb dX7_here_38 rfl (lv_at hl 0 rfl) ?_
    refine va_get (D := D) (ci := 7) (v := .int (zM_4.1 13)) (C := RX7) (T := TX7) (N := 38) hx hb hts hin_RX7 hown hK hP 0 rfl rfl 13 (by decide) hk_0 (fun _ h9 => h9) rfl dX7_here_39 ?_
    refine lv_aload_n hx hb dX7_here_42 rfl (lv_at hl 0 rfl) ?_
    refine va_get (D := D) (ci := 7) (v := .int (zM_4.1 11)) (C := RX7) (T := TX7) (N := 38) hx hb hts hin_RX7 hown hK hP 0 rfl rfl 11 (by decide) hk_2 (fun _ h9 => h9) rfl dX7_here_43 ?_
    refine lv_icmp_ge (tgt := 61) hx hb dX7_here_46 (by decide) (fun c_12 => ?_) (fun c_12 => ?_)
    · replace hF := if_i c_12 hF
      refine lv_iconst (v := (-1)) hx hb dX7_here_61 (by decide) ?_
      obtain rfl := Option.some.inj hF
      exact W.iret (v := (-1)) hx hb hr (fun t ht hW => ⟨⟨_, (), rfl, rfl, by rw [ht]; exact hP, va_K.moved hW.alike hK, hD⟩, hS.F ht⟩) hS.2.2 dX7_here_62
    · replace hF := if_o c_12 hF
      refine lv_aload_n hx hb dX7_here_49 rfl (lv_at hl 0 rfl) ?_
      refine va_get (D := D) (ci := 7) (v := .ref (aM 10)) (C := RX7) (T := TX7) (N := 38) hx hb hts hin_RX7 hown hK hP 0 rfl rfl 10 (by decide) hk_3 (fun _ h9 => h9) rfl dX7_here_50 ?_
      refine lv_aload_n hx hb dX7_here_53 rfl (lv_at hl 0 rfl) ?_
      refine va_get (D := D) (ci := 7) (v := .int (zM_4.1 13)) (C := RX7) (T := TX7) (N := 38) hx hb hts hin_RX7 hown hK hP 0 rfl rfl 13 (by decide) hk_0 (fun _ h9 => h9) rfl dX7_here_54 ?_
      replace hF := ald_i hF
      obtain ⟨hin_13, hF⟩ := hF
      refine va_iald hx hb hK hP 6 0 rfl rfl hin_13 dX7_here_57 ?_
      refine lv_topi (fun x_14 ex_14 => ?_)
      replace hF := nm_i hF ex_14
      refine lv_goto (tgt := 62) hx hb dX7_here_58 (by decide) ?_
      obtain rfl := Option.some.inj hF
      exact W.iret (v := x_14) hx hb hr (fun t ht hW => ⟨⟨_, (), rfl, rfl, by rw [ht]; exact hP, va_K.moved hW.alike hK, hD⟩, hS.F ht⟩) hS.2.2 dX7_here_62
  · intro J_3
    clear hF
    have hF := hv_11
    refine lpW (σ := MS) (I := fun n v H locs ls => L_X7_here_0 n v = some zM_4 ∧ va_P D vwCl (wcM ci aM v) H ∧ va_D A (wcM ci aM v) ∧ va_S A s.heap H locs ∧ lv_has ls 1 [(0, .ref (aM 0))]) 3000 zM (fun _ _ _ _ h => no_none h.1) ⟨hF, hP, hD, hS, lv_sub hl [0] rfl⟩ ?_
    clear hF hP hD hS hl
    intro n ih_2 vq H locs ls hI
    obtain ⟨zM_1, rfl⟩ : ∃ y, y = vq := ⟨_, rfl⟩
    obtain ⟨hF, hP, hD, hS, hl⟩ := hI
    have hP : va_P D vwCl (wcM ci aM zM_1) H := hP
    have hD : va_D A (wcM ci aM zM_1) := hD
    have hl : lv_has ls 1 [(0, .ref (aM 0))] := hl
    replace hF : L_X7_here_0 (n + 1) zM_1 = some zM_4 := hF
    rw [L_X7_here_0] at hF
    refine lv_aload_n hx hb dX7_here_0 rfl (lv_at hl 0 rfl) ?_
    refine va_get (D := D) (ci := 7) (v := .int (zM_1.1 13)) (C := RX7) (T := TX7) (N := 38) hx hb hts hin_RX7 hown hK hP 0 rfl rfl 13 (by decide) hk_0 (fun _ h9 => h9) rfl dX7_here_1 ?_
    refine lv_aload_n hx hb dX7_here_4 rfl (lv_at hl 0 rfl) ?_
    refine va_get (D := D) (ci := 7) (v := .int (zM_1.1 11)) (C := RX7) (T := TX7) (N := 38) hx hb hts hin_RX7 hown hK hP 0 rfl rfl 11 (by decide) hk_2 (fun _ h9 => h9) rfl dX7_here_5 ?_
    refine lv_icmp_ge (tgt := 38) hx hb dX7_here_8 (by decide) (fun c_5 => ?_) (fun c_5 => ?_)
    · replace hF := if_i c_5 hF
      obtain rfl := Option.some.inj hF
      exact J_3 H locs ls ⟨hP, hD, hS, lv_sub hl [0] rfl⟩
    · replace hF := if_o c_5 hF
      refine lv_aload_n hx hb dX7_here_11 rfl (lv_at hl 0 rfl) ?_
      refine va_get (D := D) (ci := 7) (v := .ref (aM 10)) (C := RX7) (T := TX7) (N := 38) hx hb hts hin_RX7 hown hK hP 0 rfl rfl 10 (by decide) hk_3 (fun _ h9 => h9) rfl dX7_here_12 ?_
      refine lv_aload_n hx hb dX7_here_15 rfl (lv_at hl 0 rfl) ?_
      refine va_get (D := D) (ci := 7) (v := .int (zM_1.1 13)) (C := RX7) (T := TX7) (N := 38) hx hb hts hin_RX7 hown hK hP 0 rfl rfl 13 (by decide) hk_0 (fun _ h9 => h9) rfl dX7_here_16 ?_
      replace hF := ald_i hF
      obtain ⟨hin_6, hF⟩ := hF
      refine va_iald hx hb hK hP 6 0 rfl rfl hin_6 dX7_here_19 ?_
      refine lv_topi (fun x_7 ex_7 => ?_)
      replace hF := nm_i hF ex_7
      refine lv_bipush (v := 32) hx hb dX7_here_20 (by decide) ?_
      refine lv_icmp_ne (tgt := 38) hx hb dX7_here_22 (by decide) (fun c_8 => ?_) (fun c_8 => ?_)
      · replace hF := if_o c_8 hF
        obtain rfl := Option.some.inj hF
        exact J_3 H locs ls ⟨hP, hD, hS, lv_sub hl [0] rfl⟩
      · replace hF := if_i c_8 hF
        refine lv_aload_n hx hb dX7_here_25 rfl (lv_at hl 0 rfl) ?_
        refine lv_dup hx hb dX7_here_26 rfl ?_
        refine va_get (D := D) (ci := 7) (v := .int (zM_1.1 13)) (C := RX7) (T := TX7) (N := 38) hx hb hts hin_RX7 hown hK hP 0 rfl rfl 13 (by decide) hk_0 (fun _ h9 => h9) rfl dX7_here_27 ?_
        refine lv_iconst (v := 1) hx hb dX7_here_30 (by decide) ?_
        refine lv_iadd hx hb dX7_here_31 ?_
        refine lv_topi (fun f13_9 ef13_9 => ?_)
        replace hF := nm_i hF ef13_9
        refine va_put (D := D) (ci := 7) (v := .int f13_9) (ty := .int) (C := RX7) (T := TX7) (N := 38) hx hb hts hin_RX7 tyX7 tyX7_ok nmX7 hown hK hP hD hS 0 rfl rfl 13 (by decide) hk_0 (fun _ h9 => h9) rfl (by decide +kernel) rfl rfl (Nat.le_of_ble_eq_true rfl) dX7_here_32 (fun H locs hP hD hS => ?_)
        obtain ⟨zM_10, ezM_10⟩ : ∃ y : MS, y = (upd zM_1.1 13 f13_9, zM_1.2) := ⟨_, rfl⟩
        replace hF := nm_i hF ezM_10
        have hP : va_P D vwCl (wcM ci aM zM_10) H := by rw [ezM_10]; exact hP
        have hD : va_D A (wcM ci aM zM_10) := by rw [ezM_10]; exact hD
        refine lv_goto (tgt := 0) hx hb dX7_here_35 (by decide) ?_
        exact ih_2 zM_10 H locs ls ⟨hF, hP, hD, hS, lv_sub hl [0] rfl⟩
noncomputable def f_X7_fails (zM : MS) (p1 : Int32) (p2 : Int32) : Option (Int32 × MS) := nm ((upd zM.1 12 p2, zM.2) : MS) fun zM_1 => some (p1, zM_1)
set_option maxHeartbeats 4000000 in
set_option maxRecDepth 100000 in
theorem c_X7_fails (l : Launch) (D : va_G) (ci : Nat → ClassId) (aM : Nat → Nat) (sz : Nat) (zM : MS) (p1 : Int32) (p2 : Int32) (res : Int32 × MS) (hF : f_X7_fails zM p1 p2 = some res) : CtI l yX7_fails wsX7_fails { frames := 0, cells := 0, slots := 0, locals := 0 } [.ref (aM 0), .int p1, .int p2] D ci (wcM ci aM zM) sz res.1 (wcM ci aM res.2) := by
  refine Met.ofW (cc := cX7_fails) (maxL := 3) (ret := (some .int)) (by decide) rfl ?_
  intro p e s m args below meth c s₁ B hml hv
  obtain ⟨rfl, hsz, hP, hK, hD0⟩ := hv
  have hx := B.exec
  have hb := B.bytes
  have hr := B.returns
  have hts := atoms_spec (ws := wsX7_fails) B.pre
  have hown : s.vm.findClass RX7 = some m.cls := findClass_of_methodNamed B.named
  have hlocks := B.notSynchronized
  subst hsz
  have hD := hD0.self (sz := s.heap.size)
  generalize hAe : va_A (wcM ci aM zM) s.heap.size = A at hD ⊢
  have hA : ∀ q : Nat, s.heap.size ≤ q → A q := fun q h => by rw [← hAe]; exact Or.inr h
  clear hD0 hAe
  have hl := lv_entry ([.ref (aM 0), .int p1, .int p2]) (n := 3) (Nat.le_of_ble_eq_true rfl)
  rw [lg_entry_eq]
  generalize (lg_sl ([.ref (aM 0), .int p1, .int p2]) ++ List.replicate (3 - (lg_sl ([.ref (aM 0), .int p1, .int p2])).length) Slot.unset).toArray = ls at hl ⊢
  have hl : lv_has ls 3 [(0, .ref (aM 0)), (1, .int p1), (2, .int p2)] := hl
  have hP : va_P D vwCl (wcM ci aM zM) s.heap := hP
  generalize hH0 : s.heap = H at hP ⊢
  have hS : va_S A s.heap H [] := by rw [← hH0]; exact va_S.rf
  clear hH0
  generalize ([] : List Loc) = locs at hS ⊢
  have hk_0 := hts (.fieldLink RX7 29 "HedgeWarModel" "faultPlace" "I") (by decide +kernel)
  have hin_RX7 : ∀ w ∈ wsX70, w ∈ wsX7_fails := by decide +kernel
  unfold f_X7_fails at hF
  refine lv_aload_n hx hb dX7_fails_0 rfl (lv_at hl 0 rfl) ?_
  refine lv_iload_n hx hb dX7_fails_1 rfl (lv_at hl 2 rfl) ?_
  refine va_put (D := D) (ci := 7) (v := .int p2) (ty := .int) (C := RX7) (T := TX7) (N := 38) hx hb hts hin_RX7 tyX7 tyX7_ok nmX7 hown hK hP hD hS 0 rfl rfl 12 (by decide) hk_0 (fun _ h9 => h9) rfl (by decide +kernel) rfl rfl (Nat.le_of_ble_eq_true rfl) dX7_fails_2 (fun H locs hP hD hS => ?_)
  obtain ⟨zM_1, ezM_1⟩ : ∃ y : MS, y = (upd zM.1 12 p2, zM.2) := ⟨_, rfl⟩
  replace hF := nm_i hF ezM_1
  have hP : va_P D vwCl (wcM ci aM zM_1) H := by rw [ezM_1]; exact hP
  have hD : va_D A (wcM ci aM zM_1) := by rw [ezM_1]; exact hD
  refine lv_iload_n hx hb dX7_fails_5 rfl (lv_at hl 1 rfl) ?_
  obtain rfl := Option.some.inj hF
  exact W.iret (v := p1) hx hb hr (fun t ht hW => ⟨⟨_, (), rfl, rfl, by rw [ht]; exact hP, va_K.moved hW.alike hK, hD⟩, hS.F ht⟩) hS.2.2 dX7_fails_6
noncomputable def L_X7_takeNumber_42 (p1 : Int32) (p2 : Int32) (r_1 : Int32) : Nat → MS → Option (MS)
  | 0, _ => none
  | n + 1, zM_11 => if (zM_11.1 11) ≤ (zM_11.1 13) then (some zM_11) else (ald 240 (zM_11.2 10) (zM_11.1 13) fun x_17 => (f_X7_in (Int32.toInt64 x_17) (48 : Int64) (57 : Int64)).bind fun r_18 => if r_18 = 0 then (some zM_11) else ((if (zM_11.1 14) ≤ 10000 then (ald 240 (zM_11.2 10) (zM_11.1 13) fun x_25 => some ((((10 * (zM_11.1 14)) + x_25) - 48) : Int32)) else (some ((zM_11.1 14) : Int32))).bind fun t_21 => nm ((upd zM_11.1 14 t_21, zM_11.2) : MS) fun zM_27 => nm ((zM_27.1 13) + 1) fun f13_28 => nm ((upd zM_27.1 13 f13_28, zM_27.2) : MS) fun zM_29 => L_X7_takeNumber_42 p1 p2 r_1 n zM_29))
noncomputable def f_X7_takeNumber (zM : MS) (p1 : Int32) (p2 : Int32) : Option (Int32 × MS) := (f_X7_here zM).bind fun q_4 => nm q_4.1 fun r_1 => nm q_4.2 fun zM_2 => (f_X7_in (Int32.toInt64 r_1) (48 : Int64) (57 : Int64)).bind fun r_5 => if r_5 = 0 then ((f_X7_fails zM_2 (1 : Int32) (zM_2.1 13)).bind fun q_46 => nm q_46.1 fun r_43 => nm q_46.2 fun zM_44 => some (r_43, zM_44)) else (nm (zM_2.1 13) fun f15_8 => nm ((upd zM_2.1 15 f15_8, zM_2.2) : MS) fun zM_9 => nm ((upd zM_9.1 14 0, zM_9.2) : MS) fun zM_10 => (L_X7_takeNumber_42 p1 p2 r_1 3000 zM_10).bind fun zM_14 => if (3 : Int32) < ((zM_14.1 13) - (zM_14.1 15)) then ((f_X7_fails zM_14 (2 : Int32) (zM_14.1 15)).bind fun q_35 => nm q_35.1 fun r_32 => nm q_35.2 fun zM_33 => some (r_32, zM_33)) else ((f_X7_in (Int32.toInt64 (zM_14.1 14)) (Int32.toInt64 p1) (Int32.toInt64 p2)).bind fun r_36 => if r_36 = 0 then ((f_X7_fails zM_14 (2 : Int32) (zM_14.1 15)).bind fun q_42 => nm q_42.1 fun r_39 => nm q_42.2 fun zM_40 => some (r_39, zM_40)) else (some ((0 : Int32), zM_14))))
set_option maxHeartbeats 4000000 in
set_option maxRecDepth 100000 in
theorem c_X7_takeNumber (l : Launch) (D : va_G) (ci : Nat → ClassId) (aM : Nat → Nat) (sz : Nat) (zM : MS) (p1 : Int32) (p2 : Int32) (res : Int32 × MS) (hF : f_X7_takeNumber zM p1 p2 = some res) : CtI l yX7_takeNumber wsX7_takeNumber { frames := 1, cells := 0, slots := 0, locals := 25 } [.ref (aM 0), .int p1, .int p2] D ci (wcM ci aM zM) sz res.1 (wcM ci aM res.2) := by
  refine Met.ofW (cc := cX7_takeNumber) (maxL := 4) (ret := (some .int)) (by decide) rfl ?_
  intro p e s m args below meth c s₁ B hml hv
  obtain ⟨rfl, hsz, hP, hK, hD0⟩ := hv
  have hx := B.exec
  have hb := B.bytes
  have hr := B.returns
  have hts := atoms_spec (ws := wsX7_takeNumber) B.pre
  have hown : s.vm.findClass RX7 = some m.cls := findClass_of_methodNamed B.named
  have hlocks := B.notSynchronized
  subst hsz
  have hD := hD0.self (sz := s.heap.size)
  generalize hAe : va_A (wcM ci aM zM) s.heap.size = A at hD ⊢
  have hA : ∀ q : Nat, s.heap.size ≤ q → A q := fun q h => by rw [← hAe]; exact Or.inr h
  clear hD0 hAe
  have hl := lv_entry ([.ref (aM 0), .int p1, .int p2]) (n := 4) (Nat.le_of_ble_eq_true rfl)
  rw [lg_entry_eq]
  generalize (lg_sl ([.ref (aM 0), .int p1, .int p2]) ++ List.replicate (4 - (lg_sl ([.ref (aM 0), .int p1, .int p2])).length) Slot.unset).toArray = ls at hl ⊢
  have hl : lv_has ls 4 [(0, .ref (aM 0)), (1, .int p1), (2, .int p2)] := hl
  have hP : va_P D vwCl (wcM ci aM zM) s.heap := hP
  generalize hH0 : s.heap = H at hP ⊢
  have hS : va_S A s.heap H [] := by rw [← hH0]; exact va_S.rf
  clear hH0
  generalize ([] : List Loc) = locs at hS ⊢
  have hk_0 := hts (.constantLong RX7 108 (48)) (by decide +kernel)
  have hk_1 := hts (.constantLong RX7 110 (57)) (by decide +kernel)
  have hk_2 := hts (.fieldLink RX7 101 "HedgeWarModel" "at0" "I") (by decide +kernel)
  have hin_RX7 : ∀ w ∈ wsX70, w ∈ wsX7_takeNumber := by decide +kernel
  have hk_4 := hts (.fieldLink RX7 116 "HedgeWarModel" "numberAt" "I") (by decide +kernel)
  have hk_5 := hts (.fieldLink RX7 119 "HedgeWarModel" "number" "I") (by decide +kernel)
  have hk_6 := hts (.fieldLink RX7 97 "HedgeWarModel" "texted" "I") (by decide +kernel)
  have hk_7 := hts (.fieldLink RX7 26 "HedgeWarModel" "text" "[I") (by decide +kernel)
  unfold f_X7_takeNumber at hF
  refine lv_aload_n hx hb dX7_takeNumber_0 rfl (lv_at hl 0 rfl) ?_
  replace hF := bnd hF
  obtain ⟨q_4, hc_3, hF⟩ := hF
  obtain ⟨r_1, er_1⟩ : ∃ y : Int32, y = q_4.1 := ⟨_, rfl⟩
  replace hF := nm_i hF er_1
  obtain ⟨zM_2, ezM_2⟩ : ∃ y : MS, y = q_4.2 := ⟨_, rfl⟩
  replace hF := nm_i hF ezM_2
  obtain rfl : q_4 = (r_1, zM_2) := by rw [er_1, ezM_2]
  clear er_1
  clear ezM_2
  refine cl_Vi0 (As := []) (rest := []) ⟨hx, hb, hml, hown, hts⟩ (cwV 0 hts gX7_takeNumber_X7_here rfl rfl rfl (by decide +kernel) ⟨Nat.le_of_ble_eq_true rfl, Nat.le_of_ble_eq_true rfl⟩) (c_X7_here l D ci aM H.size zM _ hc_3) hK hP hD hS hA 0 rfl rfl rfl rfl hl.1 (Nat.le_of_ble_eq_true rfl) dX7_takeNumber_1 (Nat.zero_le _) (Nat.zero_le _) (fun H locs hP hD hS => ?_)
  have hP : va_P D vwCl (wcM ci aM zM_2) H := hP
  have hD : va_D A (wcM ci aM zM_2) := hD
  refine lv_istore_n (lv' := [(3, .int r_1), (0, .ref (aM 0)), (1, .int p1), (2, .int p2)]) hx hb dX7_takeNumber_4 rfl hl (by decide) rfl (fun ls hl => ?_)
  refine lv_iload_n hx hb dX7_takeNumber_5 rfl (lv_at hl 0 rfl) ?_
  refine lv_i2l (v := (Int32.toInt64 r_1)) hx hb dX7_takeNumber_6 rfl ?_
  refine lv_ldc2 (v := 48) hx hb hown hk_0 dX7_takeNumber_7 ?_
  refine lv_ldc2 (v := 57) hx hb hown hk_1 dX7_takeNumber_10 ?_
  replace hF := bnd hF
  obtain ⟨r_5, hc_6, hF⟩ := hF
  refine cl_Sie (As := [.long (Int32.toInt64 r_1), .long 48, .long 57]) (rest := []) ⟨hx, hb, hml, hown, hts⟩ (va_cwS 3 hts gX7_takeNumber_X7_in rfl rfl rfl (by decide +kernel) ⟨Nat.le_of_ble_eq_true rfl, Nat.le_of_ble_eq_true rfl⟩) (c_X7_in l D ci  H.size (Int32.toInt64 r_1) (48 : Int64) (57 : Int64) _ hc_6) hK hP hD hS hA rfl rfl hl.1 (Nat.le_of_ble_eq_true rfl) dX7_takeNumber_13 (Nat.zero_le _) (Nat.zero_le _) (fun H locs hP hD hS => ?_)
  have hP : va_P D vwCl (wcM ci aM zM_2) H := hP
  have hD : va_D A (wcM ci aM zM_2) := hD
  refine lv_if_ne (tgt := 29) hx hb dX7_takeNumber_16 (by decide) (fun c_7 => ?_) (fun c_7 => ?_)
  · replace hF := if_o c_7 hF
    refine lv_aload_n hx hb dX7_takeNumber_29 rfl (lv_at hl 1 rfl) ?_
    refine lv_aload_n hx hb dX7_takeNumber_30 rfl (lv_at hl 1 rfl) ?_
    refine va_get (D := D) (ci := 7) (v := .int (zM_2.1 13)) (C := RX7) (T := TX7) (N := 38) hx hb hts hin_RX7 hown hK hP 0 rfl rfl 13 (by decide) hk_2 (fun _ h9 => h9) rfl dX7_takeNumber_31 ?_
    refine lv_topi (fun f15_8 ef15_8 => ?_)
    replace hF := nm_i hF ef15_8
    refine va_put (D := D) (ci := 7) (v := .int f15_8) (ty := .int) (C := RX7) (T := TX7) (N := 38) hx hb hts hin_RX7 tyX7 tyX7_ok nmX7 hown hK hP hD hS 0 rfl rfl 15 (by decide) hk_4 (fun _ h9 => h9) rfl (by decide +kernel) rfl rfl (Nat.le_of_ble_eq_true rfl) dX7_takeNumber_34 (fun H locs hP hD hS => ?_)
    obtain ⟨zM_9, ezM_9⟩ : ∃ y : MS, y = (upd zM_2.1 15 f15_8, zM_2.2) := ⟨_, rfl⟩
    replace hF := nm_i hF ezM_9
    have hP : va_P D vwCl (wcM ci aM zM_9) H := by rw [ezM_9]; exact hP
    have hD : va_D A (wcM ci aM zM_9) := by rw [ezM_9]; exact hD
    refine lv_aload_n hx hb dX7_takeNumber_37 rfl (lv_at hl 1 rfl) ?_
    refine lv_iconst (v := 0) hx hb dX7_takeNumber_38 (by decide) ?_
    refine va_put (D := D) (ci := 7) (v := .int 0) (ty := .int) (C := RX7) (T := TX7) (N := 38) hx hb hts hin_RX7 tyX7 tyX7_ok nmX7 hown hK hP hD hS 0 rfl rfl 14 (by decide) hk_5 (fun _ h9 => h9) rfl (by decide +kernel) rfl rfl (Nat.le_of_ble_eq_true rfl) dX7_takeNumber_39 (fun H locs hP hD hS => ?_)
    obtain ⟨zM_10, ezM_10⟩ : ∃ y : MS, y = (upd zM_9.1 14 0, zM_9.2) := ⟨_, rfl⟩
    replace hF := nm_i hF ezM_10
    have hP : va_P D vwCl (wcM ci aM zM_10) H := by rw [ezM_10]; exact hP
    have hD : va_D A (wcM ci aM zM_10) := by rw [ezM_10]; exact hD
    replace hF := bnd hF
    obtain ⟨zM_14, hv_30, hF⟩ := hF
    refine jn (P := fun H locs ls => va_P D vwCl (wcM ci aM zM_14) H ∧ va_D A (wcM ci aM zM_14) ∧ va_S A s.heap H locs ∧ lv_has ls 4 [(0, .ref (aM 0)), (1, .int p1), (2, .int p2), (3, .int r_1)]) (pcJ := 129) (st := []) ?_ ?_
    · intro H locs ls hJ
      obtain ⟨hP, hD, hS, hl⟩ := hJ
      refine lv_aload_n hx hb dX7_takeNumber_129 rfl (lv_at hl 0 rfl) ?_
      refine va_get (D := D) (ci := 7) (v := .int (zM_14.1 13)) (C := RX7) (T := TX7) (N := 38) hx hb hts hin_RX7 hown hK hP 0 rfl rfl 13 (by decide) hk_2 (fun _ h9 => h9) rfl dX7_takeNumber_130 ?_
      refine lv_aload_n hx hb dX7_takeNumber_133 rfl (lv_at hl 0 rfl) ?_
      refine va_get (D := D) (ci := 7) (v := .int (zM_14.1 15)) (C := RX7) (T := TX7) (N := 38) hx hb hts hin_RX7 hown hK hP 0 rfl rfl 15 (by decide) hk_4 (fun _ h9 => h9) rfl dX7_takeNumber_134 ?_
      refine lv_isub hx hb dX7_takeNumber_137 ?_
      refine lv_iconst (v := 3) hx hb dX7_takeNumber_138 (by decide) ?_
      refine lv_icmp_gt (tgt := 157) hx hb dX7_takeNumber_139 (by decide) (fun c_31 => ?_) (fun c_31 => ?_)
      · replace hF := if_i c_31 hF
        refine lv_aload_n hx hb dX7_takeNumber_157 rfl (lv_at hl 0 rfl) ?_
        refine lv_iconst (v := 2) hx hb dX7_takeNumber_158 (by decide) ?_
        refine lv_aload_n hx hb dX7_takeNumber_159 rfl (lv_at hl 0 rfl) ?_
        refine va_get (D := D) (ci := 7) (v := .int (zM_14.1 15)) (C := RX7) (T := TX7) (N := 38) hx hb hts hin_RX7 hown hK hP 0 rfl rfl 15 (by decide) hk_4 (fun _ h9 => h9) rfl dX7_takeNumber_160 ?_
        replace hF := bnd hF
        obtain ⟨q_35, hc_34, hF⟩ := hF
        obtain ⟨r_32, er_32⟩ : ∃ y : Int32, y = q_35.1 := ⟨_, rfl⟩
        replace hF := nm_i hF er_32
        obtain ⟨zM_33, ezM_33⟩ : ∃ y : MS, y = q_35.2 := ⟨_, rfl⟩
        replace hF := nm_i hF ezM_33
        obtain rfl : q_35 = (r_32, zM_33) := by rw [er_32, ezM_33]
        clear er_32
        clear ezM_33
        refine cl_Vi0 (As := [.int 2, .int (zM_14.1 15)]) (rest := []) ⟨hx, hb, hml, hown, hts⟩ (cwV 2 hts gX7_takeNumber_X7_fails rfl rfl rfl (by decide +kernel) ⟨Nat.le_of_ble_eq_true rfl, Nat.le_of_ble_eq_true rfl⟩) (c_X7_fails l D ci aM H.size zM_14 (2 : Int32) (zM_14.1 15) _ hc_34) hK hP hD hS hA 0 rfl rfl rfl rfl hl.1 (Nat.le_of_ble_eq_true rfl) dX7_takeNumber_163 (Nat.zero_le _) (Nat.zero_le _) (fun H locs hP hD hS => ?_)
        have hP : va_P D vwCl (wcM ci aM zM_33) H := hP
        have hD : va_D A (wcM ci aM zM_33) := hD
        refine lv_goto (tgt := 170) hx hb dX7_takeNumber_166 (by decide) ?_
        obtain rfl := Option.some.inj hF
        exact W.iret (v := r_32) hx hb hr (fun t ht hW => ⟨⟨_, (), rfl, rfl, by rw [ht]; exact hP, va_K.moved hW.alike hK, hD⟩, hS.F ht⟩) hS.2.2 dX7_takeNumber_170
      · replace hF := if_o c_31 hF
        refine lv_aload_n hx hb dX7_takeNumber_142 rfl (lv_at hl 0 rfl) ?_
        refine va_get (D := D) (ci := 7) (v := .int (zM_14.1 14)) (C := RX7) (T := TX7) (N := 38) hx hb hts hin_RX7 hown hK hP 0 rfl rfl 14 (by decide) hk_5 (fun _ h9 => h9) rfl dX7_takeNumber_143 ?_
        refine lv_i2l (v := (Int32.toInt64 (zM_14.1 14))) hx hb dX7_takeNumber_146 rfl ?_
        refine lv_iload_n hx hb dX7_takeNumber_147 rfl (lv_at hl 1 rfl) ?_
        refine lv_i2l (v := (Int32.toInt64 p1)) hx hb dX7_takeNumber_148 rfl ?_
        refine lv_iload_n hx hb dX7_takeNumber_149 rfl (lv_at hl 2 rfl) ?_
        refine lv_i2l (v := (Int32.toInt64 p2)) hx hb dX7_takeNumber_150 rfl ?_
        replace hF := bnd hF
        obtain ⟨r_36, hc_37, hF⟩ := hF
        refine cl_Sie (As := [.long (Int32.toInt64 (zM_14.1 14)), .long (Int32.toInt64 p1), .long (Int32.toInt64 p2)]) (rest := []) ⟨hx, hb, hml, hown, hts⟩ (va_cwS 3 hts gX7_takeNumber_X7_in rfl rfl rfl (by decide +kernel) ⟨Nat.le_of_ble_eq_true rfl, Nat.le_of_ble_eq_true rfl⟩) (c_X7_in l D ci  H.size (Int32.toInt64 (zM_14.1 14)) (Int32.toInt64 p1) (Int32.toInt64 p2) _ hc_37) hK hP hD hS hA rfl rfl hl.1 (Nat.le_of_ble_eq_true rfl) dX7_takeNumber_151 (Nat.zero_le _) (Nat.zero_le _) (fun H locs hP hD hS => ?_)
        have hP : va_P D vwCl (wcM ci aM zM_14) H := hP
        have hD : va_D A (wcM ci aM zM_14) := hD
        refine lv_if_ne (tgt := 169) hx hb dX7_takeNumber_154 (by decide) (fun c_38 => ?_) (fun c_38 => ?_)
        · replace hF := if_o c_38 hF
          refine lv_iconst (v := 0) hx hb dX7_takeNumber_169 (by decide) ?_
          obtain rfl := Option.some.inj hF
          exact W.iret (v := 0) hx hb hr (fun t ht hW => ⟨⟨_, (), rfl, rfl, by rw [ht]; exact hP, va_K.moved hW.alike hK, hD⟩, hS.F ht⟩) hS.2.2 dX7_takeNumber_170
        · replace hF := if_i c_38 hF
          refine lv_aload_n hx hb dX7_takeNumber_157 rfl (lv_at hl 0 rfl) ?_
          refine lv_iconst (v := 2) hx hb dX7_takeNumber_158 (by decide) ?_
          refine lv_aload_n hx hb dX7_takeNumber_159 rfl (lv_at hl 0 rfl) ?_
          refine va_get (D := D) (ci := 7) (v := .int (zM_14.1 15)) (C := RX7) (T := TX7) (N := 38) hx hb hts hin_RX7 hown hK hP 0 rfl rfl 15 (by decide) hk_4 (fun _ h9 => h9) rfl dX7_takeNumber_160 ?_
          replace hF := bnd hF
          obtain ⟨q_42, hc_41, hF⟩ := hF
          obtain ⟨r_39, er_39⟩ : ∃ y : Int32, y = q_42.1 := ⟨_, rfl⟩
          replace hF := nm_i hF er_39
          obtain ⟨zM_40, ezM_40⟩ : ∃ y : MS, y = q_42.2 := ⟨_, rfl⟩
          replace hF := nm_i hF ezM_40
          obtain rfl : q_42 = (r_39, zM_40) := by rw [er_39, ezM_40]
          clear er_39
          clear ezM_40
          refine cl_Vi0 (As := [.int 2, .int (zM_14.1 15)]) (rest := []) ⟨hx, hb, hml, hown, hts⟩ (cwV 2 hts gX7_takeNumber_X7_fails rfl rfl rfl (by decide +kernel) ⟨Nat.le_of_ble_eq_true rfl, Nat.le_of_ble_eq_true rfl⟩) (c_X7_fails l D ci aM H.size zM_14 (2 : Int32) (zM_14.1 15) _ hc_41) hK hP hD hS hA 0 rfl rfl rfl rfl hl.1 (Nat.le_of_ble_eq_true rfl) dX7_takeNumber_163 (Nat.zero_le _) (Nat.zero_le _) (fun H locs hP hD hS => ?_)
          have hP : va_P D vwCl (wcM ci aM zM_40) H := hP
          have hD : va_D A (wcM ci aM zM_40) := hD
          refine lv_goto (tgt := 170) hx hb dX7_takeNumber_166 (by decide) ?_
          obtain rfl := Option.some.inj hF
          exact W.iret (v := r_39) hx hb hr (fun t ht hW => ⟨⟨_, (), rfl, rfl, by rw [ht]; exact hP, va_K.moved hW.alike hK, hD⟩, hS.F ht⟩) hS.2.2 dX7_takeNumber_170
    · intro J_13
      clear hF
      have hF := hv_30
      refine lpW (σ := MS) (I := fun n v H locs ls => L_X7_takeNumber_42 p1 p2 r_1 n v = some zM_14 ∧ va_P D vwCl (wcM ci aM v) H ∧ va_D A (wcM ci aM v) ∧ va_S A s.heap H locs ∧ lv_has ls 4 [(0, .ref (aM 0)), (1, .int p1), (2, .int p2), (3, .int r_1)]) 3000 zM_10 (fun _ _ _ _ h => no_none h.1) ⟨hF, hP, hD, hS, lv_sub hl [1, 2, 3, 0] rfl⟩ ?_
      clear hF hP hD hS hl
      intro n ih_12 vq H locs ls hI
      obtain ⟨zM_11, rfl⟩ : ∃ y, y = vq := ⟨_, rfl⟩
      obtain ⟨hF, hP, hD, hS, hl⟩ := hI
      have hP : va_P D vwCl (wcM ci aM zM_11) H := hP
      have hD : va_D A (wcM ci aM zM_11) := hD
      have hl : lv_has ls 4 [(0, .ref (aM 0)), (1, .int p1), (2, .int p2), (3, .int r_1)] := hl
      replace hF : L_X7_takeNumber_42 p1 p2 r_1 (n + 1) zM_11 = some zM_14 := hF
      rw [L_X7_takeNumber_42] at hF
      refine lv_aload_n hx hb dX7_takeNumber_42 rfl (lv_at hl 0 rfl) ?_
      refine va_get (D := D) (ci := 7) (v := .int (zM_11.1 13)) (C := RX7) (T := TX7) (N := 38) hx hb hts hin_RX7 hown hK hP 0 rfl rfl 13 (by decide) hk_2 (fun _ h9 => h9) rfl dX7_takeNumber_43 ?_
      refine lv_aload_n hx hb dX7_takeNumber_46 rfl (lv_at hl 0 rfl) ?_
      refine va_get (D := D) (ci := 7) (v := .int (zM_11.1 11)) (C := RX7) (T := TX7) (N := 38) hx hb hts hin_RX7 hown hK hP 0 rfl rfl 11 (by decide) hk_6 (fun _ h9 => h9) rfl dX7_takeNumber_47 ?_
      refine lv_icmp_ge (tgt := 129) hx hb dX7_takeNumber_50 (by decide) (fun c_15 => ?_) (fun c_15 => ?_)
      · replace hF := if_i c_15 hF
        obtain rfl := Option.some.inj hF
        exact J_13 H locs ls ⟨hP, hD, hS, lv_sub hl [0, 1, 2, 3] rfl⟩
      · replace hF := if_o c_15 hF
        refine lv_aload_n hx hb dX7_takeNumber_53 rfl (lv_at hl 0 rfl) ?_
        refine va_get (D := D) (ci := 7) (v := .ref (aM 10)) (C := RX7) (T := TX7) (N := 38) hx hb hts hin_RX7 hown hK hP 0 rfl rfl 10 (by decide) hk_7 (fun _ h9 => h9) rfl dX7_takeNumber_54 ?_
        refine lv_aload_n hx hb dX7_takeNumber_57 rfl (lv_at hl 0 rfl) ?_
        refine va_get (D := D) (ci := 7) (v := .int (zM_11.1 13)) (C := RX7) (T := TX7) (N := 38) hx hb hts hin_RX7 hown hK hP 0 rfl rfl 13 (by decide) hk_2 (fun _ h9 => h9) rfl dX7_takeNumber_58 ?_
        replace hF := ald_i hF
        obtain ⟨hin_16, hF⟩ := hF
        refine va_iald hx hb hK hP 6 0 rfl rfl hin_16 dX7_takeNumber_61 ?_
        refine lv_topi (fun x_17 ex_17 => ?_)
        replace hF := nm_i hF ex_17
        refine lv_i2l (v := (Int32.toInt64 x_17)) hx hb dX7_takeNumber_62 rfl ?_
        refine lv_ldc2 (v := 48) hx hb hown hk_0 dX7_takeNumber_63 ?_
        refine lv_ldc2 (v := 57) hx hb hown hk_1 dX7_takeNumber_66 ?_
        replace hF := bnd hF
        obtain ⟨r_18, hc_19, hF⟩ := hF
        refine cl_Sie (As := [.long (Int32.toInt64 x_17), .long 48, .long 57]) (rest := []) ⟨hx, hb, hml, hown, hts⟩ (va_cwS 3 hts gX7_takeNumber_X7_in rfl rfl rfl (by decide +kernel) ⟨Nat.le_of_ble_eq_true rfl, Nat.le_of_ble_eq_true rfl⟩) (c_X7_in l D ci  H.size (Int32.toInt64 x_17) (48 : Int64) (57 : Int64) _ hc_19) hK hP hD hS hA rfl rfl hl.1 (Nat.le_of_ble_eq_true rfl) dX7_takeNumber_69 (Nat.zero_le _) (Nat.zero_le _) (fun H locs hP hD hS => ?_)
        have hP : va_P D vwCl (wcM ci aM zM_11) H := hP
        have hD : va_D A (wcM ci aM zM_11) := hD
        refine lv_if_eq (tgt := 129) hx hb dX7_takeNumber_72 (by decide) (fun c_20 => ?_) (fun c_20 => ?_)
        · replace hF := if_i c_20 hF
          obtain rfl := Option.some.inj hF
          exact J_13 H locs ls ⟨hP, hD, hS, lv_sub hl [0, 1, 2, 3] rfl⟩
        · replace hF := if_o c_20 hF
          refine lv_aload_n hx hb dX7_takeNumber_75 rfl (lv_at hl 0 rfl) ?_
          refine lv_aload_n hx hb dX7_takeNumber_76 rfl (lv_at hl 0 rfl) ?_
          refine va_get (D := D) (ci := 7) (v := .int (zM_11.1 14)) (C := RX7) (T := TX7) (N := 38) hx hb hts hin_RX7 hown hK hP 0 rfl rfl 14 (by decide) hk_5 (fun _ h9 => h9) rfl dX7_takeNumber_77 ?_
          refine lv_sipush (v := 10000) hx hb dX7_takeNumber_80 (by decide) ?_
          replace hF := bnd hF
          obtain ⟨t_21, hv_26, hF⟩ := hF
          refine jn (P := fun H locs ls => va_P D vwCl (wcM ci aM zM_11) H ∧ va_D A (wcM ci aM zM_11) ∧ va_S A s.heap H locs ∧ lv_has ls 4 [(0, .ref (aM 0)), (1, .int p1), (2, .int p2), (3, .int r_1)]) (pcJ := 113) (st := [.int t_21, .ref (aM 0)]) ?_ ?_
          · intro H locs ls hJ
            obtain ⟨hP, hD, hS, hl⟩ := hJ
            refine va_put (D := D) (ci := 7) (v := .int t_21) (ty := .int) (C := RX7) (T := TX7) (N := 38) hx hb hts hin_RX7 tyX7 tyX7_ok nmX7 hown hK hP hD hS 0 rfl rfl 14 (by decide) hk_5 (fun _ h9 => h9) rfl (by decide +kernel) rfl rfl (Nat.le_of_ble_eq_true rfl) dX7_takeNumber_113 (fun H locs hP hD hS => ?_)
            obtain ⟨zM_27, ezM_27⟩ : ∃ y : MS, y = (upd zM_11.1 14 t_21, zM_11.2) := ⟨_, rfl⟩
            replace hF := nm_i hF ezM_27
            have hP : va_P D vwCl (wcM ci aM zM_27) H := by rw [ezM_27]; exact hP
            have hD : va_D A (wcM ci aM zM_27) := by rw [ezM_27]; exact hD
            refine lv_aload_n hx hb dX7_takeNumber_116 rfl (lv_at hl 0 rfl) ?_
            refine lv_dup hx hb dX7_takeNumber_117 rfl ?_
            refine va_get (D := D) (ci := 7) (v := .int (zM_27.1 13)) (C := RX7) (T := TX7) (N := 38) hx hb hts hin_RX7 hown hK hP 0 rfl rfl 13 (by decide) hk_2 (fun _ h9 => h9) rfl dX7_takeNumber_118 ?_
            refine lv_iconst (v := 1) hx hb dX7_takeNumber_121 (by decide) ?_
            refine lv_iadd hx hb dX7_takeNumber_122 ?_
            refine lv_topi (fun f13_28 ef13_28 => ?_)
            replace hF := nm_i hF ef13_28
            refine va_put (D := D) (ci := 7) (v := .int f13_28) (ty := .int) (C := RX7) (T := TX7) (N := 38) hx hb hts hin_RX7 tyX7 tyX7_ok nmX7 hown hK hP hD hS 0 rfl rfl 13 (by decide) hk_2 (fun _ h9 => h9) rfl (by decide +kernel) rfl rfl (Nat.le_of_ble_eq_true rfl) dX7_takeNumber_123 (fun H locs hP hD hS => ?_)
            obtain ⟨zM_29, ezM_29⟩ : ∃ y : MS, y = (upd zM_27.1 13 f13_28, zM_27.2) := ⟨_, rfl⟩
            replace hF := nm_i hF ezM_29
            have hP : va_P D vwCl (wcM ci aM zM_29) H := by rw [ezM_29]; exact hP
            have hD : va_D A (wcM ci aM zM_29) := by rw [ezM_29]; exact hD
            refine lv_goto (tgt := 42) hx hb dX7_takeNumber_126 (by decide) ?_
            exact ih_12 zM_29 H locs ls ⟨hF, hP, hD, hS, lv_sub hl [0, 1, 2, 3] rfl⟩
          · intro J_22
            clear hF
            have hF := hv_26
            refine lv_icmp_le (tgt := 93) hx hb dX7_takeNumber_83 (by decide) (fun c_23 => ?_) (fun c_23 => ?_)
            · replace hF := if_i c_23 hF
              refine lv_bipush (v := 10) hx hb dX7_takeNumber_93 (by decide) ?_
              refine lv_aload_n hx hb dX7_takeNumber_95 rfl (lv_at hl 0 rfl) ?_
              refine va_get (D := D) (ci := 7) (v := .int (zM_11.1 14)) (C := RX7) (T := TX7) (N := 38) hx hb hts hin_RX7 hown hK hP 0 rfl rfl 14 (by decide) hk_5 (fun _ h9 => h9) rfl dX7_takeNumber_96 ?_
              refine lv_imul hx hb dX7_takeNumber_99 ?_
              refine lv_aload_n hx hb dX7_takeNumber_100 rfl (lv_at hl 0 rfl) ?_
              refine va_get (D := D) (ci := 7) (v := .ref (aM 10)) (C := RX7) (T := TX7) (N := 38) hx hb hts hin_RX7 hown hK hP 0 rfl rfl 10 (by decide) hk_7 (fun _ h9 => h9) rfl dX7_takeNumber_101 ?_
              refine lv_aload_n hx hb dX7_takeNumber_104 rfl (lv_at hl 0 rfl) ?_
              refine va_get (D := D) (ci := 7) (v := .int (zM_11.1 13)) (C := RX7) (T := TX7) (N := 38) hx hb hts hin_RX7 hown hK hP 0 rfl rfl 13 (by decide) hk_2 (fun _ h9 => h9) rfl dX7_takeNumber_105 ?_
              replace hF := ald_i hF
              obtain ⟨hin_24, hF⟩ := hF
              refine va_iald hx hb hK hP 6 0 rfl rfl hin_24 dX7_takeNumber_108 ?_
              refine lv_topi (fun x_25 ex_25 => ?_)
              replace hF := nm_i hF ex_25
              refine lv_iadd hx hb dX7_takeNumber_109 ?_
              refine lv_bipush (v := 48) hx hb dX7_takeNumber_110 (by decide) ?_
              refine lv_isub hx hb dX7_takeNumber_112 ?_
              obtain rfl := Option.some.inj hF
              exact J_22 H locs ls ⟨hP, hD, hS, lv_sub hl [0, 1, 2, 3] rfl⟩
            · replace hF := if_o c_23 hF
              refine lv_aload_n hx hb dX7_takeNumber_86 rfl (lv_at hl 0 rfl) ?_
              refine va_get (D := D) (ci := 7) (v := .int (zM_11.1 14)) (C := RX7) (T := TX7) (N := 38) hx hb hts hin_RX7 hown hK hP 0 rfl rfl 14 (by decide) hk_5 (fun _ h9 => h9) rfl dX7_takeNumber_87 ?_
              refine lv_goto (tgt := 113) hx hb dX7_takeNumber_90 (by decide) ?_
              obtain rfl := Option.some.inj hF
              exact J_22 H locs ls ⟨hP, hD, hS, lv_sub hl [0, 1, 2, 3] rfl⟩
  · replace hF := if_i c_7 hF
    refine lv_aload_n hx hb dX7_takeNumber_19 rfl (lv_at hl 1 rfl) ?_
    refine lv_iconst (v := 1) hx hb dX7_takeNumber_20 (by decide) ?_
    refine lv_aload_n hx hb dX7_takeNumber_21 rfl (lv_at hl 1 rfl) ?_
    refine va_get (D := D) (ci := 7) (v := .int (zM_2.1 13)) (C := RX7) (T := TX7) (N := 38) hx hb hts hin_RX7 hown hK hP 0 rfl rfl 13 (by decide) hk_2 (fun _ h9 => h9) rfl dX7_takeNumber_22 ?_
    replace hF := bnd hF
    obtain ⟨q_46, hc_45, hF⟩ := hF
    obtain ⟨r_43, er_43⟩ : ∃ y : Int32, y = q_46.1 := ⟨_, rfl⟩
    replace hF := nm_i hF er_43
    obtain ⟨zM_44, ezM_44⟩ : ∃ y : MS, y = q_46.2 := ⟨_, rfl⟩
    replace hF := nm_i hF ezM_44
    obtain rfl : q_46 = (r_43, zM_44) := by rw [er_43, ezM_44]
    clear er_43
    clear ezM_44
    refine cl_Vi0 (As := [.int 1, .int (zM_2.1 13)]) (rest := []) ⟨hx, hb, hml, hown, hts⟩ (cwV 2 hts gX7_takeNumber_X7_fails rfl rfl rfl (by decide +kernel) ⟨Nat.le_of_ble_eq_true rfl, Nat.le_of_ble_eq_true rfl⟩) (c_X7_fails l D ci aM H.size zM_2 (1 : Int32) (zM_2.1 13) _ hc_45) hK hP hD hS hA 0 rfl rfl rfl rfl hl.1 (Nat.le_of_ble_eq_true rfl) dX7_takeNumber_25 (Nat.zero_le _) (Nat.zero_le _) (fun H locs hP hD hS => ?_)
    have hP : va_P D vwCl (wcM ci aM zM_44) H := hP
    have hD : va_D A (wcM ci aM zM_44) := hD
    obtain rfl := Option.some.inj hF
    exact W.iret (v := r_43) hx hb hr (fun t ht hW => ⟨⟨_, (), rfl, rfl, by rw [ht]; exact hP, va_K.moved hW.alike hK, hD⟩, hS.F ht⟩) hS.2.2 dX7_takeNumber_28
noncomputable def f_X7_into (zM : MS) (p2 : Int32) (p3 : Int32) (p4 : Int32) : Option (Int32 × MS) := (f_X7_takeNumber zM p3 p4).bind fun q_4 => nm q_4.1 fun r_1 => nm q_4.2 fun zM_2 => nm (zM_2.1 14) fun y_6 => ast 3 p2 <| nm ((zM_2.1, va_up zM_2.2 16 (upd (zM_2.2 16) (Int32.toNatClampNeg p2) y_6)) : MS) fun zM_7 => some (r_1, zM_7)
set_option maxHeartbeats 4000000 in
set_option maxRecDepth 100000 in
theorem c_X7_into (l : Launch) (D : va_G) (ci : Nat → ClassId) (aM : Nat → Nat) (sz : Nat) (zM : MS) (p2 : Int32) (p3 : Int32) (p4 : Int32) (res : Int32 × MS) (hF : f_X7_into zM p2 p3 p4 = some res) : CtI l yX7_into wsX7_into { frames := 2, cells := 0, slots := 0, locals := 48 } [.ref (aM 0), .ref (aM 16), .int p2, .int p3, .int p4] D ci (wcM ci aM zM) sz res.1 (wcM ci aM res.2) := by
  refine Met.ofW (cc := cX7_into) (maxL := 6) (ret := (some .int)) (by decide) rfl ?_
  intro p e s m args below meth c s₁ B hml hv
  obtain ⟨rfl, hsz, hP, hK, hD0⟩ := hv
  have hx := B.exec
  have hb := B.bytes
  have hr := B.returns
  have hts := atoms_spec (ws := wsX7_into) B.pre
  have hown : s.vm.findClass RX7 = some m.cls := findClass_of_methodNamed B.named
  have hlocks := B.notSynchronized
  subst hsz
  have hD := hD0.self (sz := s.heap.size)
  generalize hAe : va_A (wcM ci aM zM) s.heap.size = A at hD ⊢
  have hA : ∀ q : Nat, s.heap.size ≤ q → A q := fun q h => by rw [← hAe]; exact Or.inr h
  clear hD0 hAe
  have hl := lv_entry ([.ref (aM 0), .ref (aM 16), .int p2, .int p3, .int p4]) (n := 6) (Nat.le_of_ble_eq_true rfl)
  rw [lg_entry_eq]
  generalize (lg_sl ([.ref (aM 0), .ref (aM 16), .int p2, .int p3, .int p4]) ++ List.replicate (6 - (lg_sl ([.ref (aM 0), .ref (aM 16), .int p2, .int p3, .int p4])).length) Slot.unset).toArray = ls at hl ⊢
  have hl : lv_has ls 6 [(0, .ref (aM 0)), (1, .ref (aM 16)), (2, .int p2), (3, .int p3), (4, .int p4)] := hl
  have hP : va_P D vwCl (wcM ci aM zM) s.heap := hP
  generalize hH0 : s.heap = H at hP ⊢
  have hS : va_S A s.heap H [] := by rw [← hH0]; exact va_S.rf
  clear hH0
  generalize ([] : List Loc) = locs at hS ⊢
  have hk_0 := hts (.fieldLink RX7 119 "HedgeWarModel" "number" "I") (by decide +kernel)
  have hin_RX7 : ∀ w ∈ wsX70, w ∈ wsX7_into := by decide +kernel
  unfold f_X7_into at hF
  refine lv_aload_n hx hb dX7_into_0 rfl (lv_at hl 0 rfl) ?_
  refine lv_iload_n hx hb dX7_into_1 rfl (lv_at hl 3 rfl) ?_
  refine lv_iload hx hb dX7_into_2 (lv_at hl 4 rfl) ?_
  replace hF := bnd hF
  obtain ⟨q_4, hc_3, hF⟩ := hF
  obtain ⟨r_1, er_1⟩ : ∃ y : Int32, y = q_4.1 := ⟨_, rfl⟩
  replace hF := nm_i hF er_1
  obtain ⟨zM_2, ezM_2⟩ : ∃ y : MS, y = q_4.2 := ⟨_, rfl⟩
  replace hF := nm_i hF ezM_2
  obtain rfl : q_4 = (r_1, zM_2) := by rw [er_1, ezM_2]
  clear er_1
  clear ezM_2
  refine cl_Vi0 (As := [.int p3, .int p4]) (rest := []) ⟨hx, hb, hml, hown, hts⟩ (cwV 2 hts gX7_into_X7_takeNumber rfl rfl rfl (by decide +kernel) ⟨Nat.le_of_ble_eq_true rfl, Nat.le_of_ble_eq_true rfl⟩) (c_X7_takeNumber l D ci aM H.size zM p3 p4 _ hc_3) hK hP hD hS hA 0 rfl rfl rfl rfl hl.1 (Nat.le_of_ble_eq_true rfl) dX7_into_4 (Nat.zero_le _) (Nat.zero_le _) (fun H locs hP hD hS => ?_)
  have hP : va_P D vwCl (wcM ci aM zM_2) H := hP
  have hD : va_D A (wcM ci aM zM_2) := hD
  refine lv_istore (lv' := [(5, .int r_1), (0, .ref (aM 0)), (1, .ref (aM 16)), (2, .int p2), (3, .int p3), (4, .int p4)]) hx hb dX7_into_7 hl (by decide) rfl (fun ls hl => ?_)
  refine lv_aload_n hx hb dX7_into_9 rfl (lv_at hl 2 rfl) ?_
  refine lv_iload_n hx hb dX7_into_10 rfl (lv_at hl 3 rfl) ?_
  refine lv_aload_n hx hb dX7_into_11 rfl (lv_at hl 1 rfl) ?_
  refine va_get (D := D) (ci := 7) (v := .int (zM_2.1 14)) (C := RX7) (T := TX7) (N := 38) hx hb hts hin_RX7 hown hK hP 0 rfl rfl 14 (by decide) hk_0 (fun _ h9 => h9) rfl dX7_into_12 ?_
  refine lv_topi (fun y_6 ey_6 => ?_)
  replace hF := nm_i hF ey_6
  replace hF := ast_i hF
  obtain ⟨hin_5, hF⟩ := hF
  refine va_iast (x := y_6) hx hb hK hP hD hS 7 0 rfl rfl hin_5 dX7_into_15 (fun H locs hP hD hS => ?_)
  obtain ⟨zM_7, ezM_7⟩ : ∃ y : MS, y = (zM_2.1, va_up zM_2.2 16 (upd (zM_2.2 16) (Int32.toNatClampNeg p2) y_6)) := ⟨_, rfl⟩
  replace hF := nm_i hF ezM_7
  have hP : va_P D vwCl (wcM ci aM zM_7) H := by rw [ezM_7]; exact hP
  have hD : va_D A (wcM ci aM zM_7) := by rw [ezM_7]; exact hD
  refine lv_iload hx hb dX7_into_16 (lv_at hl 0 rfl) ?_
  obtain rfl := Option.some.inj hF
  exact W.iret (v := r_1) hx hb hr (fun t ht hW => ⟨⟨_, (), rfl, rfl, by rw [ht]; exact hP, va_K.moved hW.alike hK, hD⟩, hS.F ht⟩) hS.2.2 dX7_into_18
noncomputable def f_X7_readFields (zM : MS) : Option (Int32) := ald 3 (zM.2 16) (0 : Int32) fun x_2 => ald 3 (zM.2 16) (1 : Int32) fun x_4 => some (x_2 * x_4)
set_option maxHeartbeats 4000000 in
set_option maxRecDepth 100000 in
theorem c_X7_readFields (l : Launch) (D : va_G) (ci : Nat → ClassId) (aM : Nat → Nat) (sz : Nat) (zM : MS) (res : Int32) (hF : f_X7_readFields zM = some res) : CtI l yX7_readFields wsX7_readFields { frames := 0, cells := 0, slots := 0, locals := 0 } [.ref (aM 0)] D ci (wcM ci aM zM) sz res (wcM ci aM zM) := by
  refine Met.ofW (cc := cX7_readFields) (maxL := 1) (ret := (some .int)) (by decide) rfl ?_
  intro p e s m args below meth c s₁ B hml hv
  obtain ⟨rfl, hsz, hP, hK, hD0⟩ := hv
  have hx := B.exec
  have hb := B.bytes
  have hr := B.returns
  have hts := atoms_spec (ws := wsX7_readFields) B.pre
  have hown : s.vm.findClass RX7 = some m.cls := findClass_of_methodNamed B.named
  have hlocks := B.notSynchronized
  subst hsz
  have hD := hD0.self (sz := s.heap.size)
  generalize hAe : va_A (wcM ci aM zM) s.heap.size = A at hD ⊢
  have hA : ∀ q : Nat, s.heap.size ≤ q → A q := fun q h => by rw [← hAe]; exact Or.inr h
  clear hD0 hAe
  have hl := lv_entry ([.ref (aM 0)]) (n := 1) (Nat.le_of_ble_eq_true rfl)
  rw [lg_entry_eq]
  generalize (lg_sl ([.ref (aM 0)]) ++ List.replicate (1 - (lg_sl ([.ref (aM 0)])).length) Slot.unset).toArray = ls at hl ⊢
  have hl : lv_has ls 1 [(0, .ref (aM 0))] := hl
  have hP : va_P D vwCl (wcM ci aM zM) s.heap := hP
  generalize hH0 : s.heap = H at hP ⊢
  have hS : va_S A s.heap H [] := by rw [← hH0]; exact va_S.rf
  clear hH0
  generalize ([] : List Loc) = locs at hS ⊢
  have hk_0 := hts (.fieldLink RX7 33 "HedgeWarModel" "readGround" "[I") (by decide +kernel)
  have hin_RX7 : ∀ w ∈ wsX70, w ∈ wsX7_readFields := by decide +kernel
  unfold f_X7_readFields at hF
  refine lv_aload_n hx hb dX7_readFields_0 rfl (lv_at hl 0 rfl) ?_
  refine va_get (D := D) (ci := 7) (v := .ref (aM 16)) (C := RX7) (T := TX7) (N := 38) hx hb hts hin_RX7 hown hK hP 0 rfl rfl 16 (by decide) hk_0 (fun _ h9 => h9) rfl dX7_readFields_1 ?_
  refine lv_iconst (v := 0) hx hb dX7_readFields_4 (by decide) ?_
  replace hF := ald_i hF
  obtain ⟨hin_1, hF⟩ := hF
  refine va_iald hx hb hK hP 7 0 rfl rfl hin_1 dX7_readFields_5 ?_
  refine lv_topi (fun x_2 ex_2 => ?_)
  replace hF := nm_i hF ex_2
  refine lv_aload_n hx hb dX7_readFields_6 rfl (lv_at hl 0 rfl) ?_
  refine va_get (D := D) (ci := 7) (v := .ref (aM 16)) (C := RX7) (T := TX7) (N := 38) hx hb hts hin_RX7 hown hK hP 0 rfl rfl 16 (by decide) hk_0 (fun _ h9 => h9) rfl dX7_readFields_7 ?_
  refine lv_iconst (v := 1) hx hb dX7_readFields_10 (by decide) ?_
  replace hF := ald_i hF
  obtain ⟨hin_3, hF⟩ := hF
  refine va_iald hx hb hK hP 7 0 rfl rfl hin_3 dX7_readFields_11 ?_
  refine lv_topi (fun x_4 ex_4 => ?_)
  replace hF := nm_i hF ex_4
  refine lv_imul hx hb dX7_readFields_12 ?_
  obtain rfl := Option.some.inj hF
  exact W.iret (v := (x_2 * x_4)) hx hb hr (fun t ht hW => ⟨⟨_, (), rfl, rfl, by rw [ht]; exact hP, va_K.moved hW.alike hK, hD⟩, hS.F ht⟩) hS.2.2 dX7_readFields_13
noncomputable def f_X7_readEdges (zM : MS) : Option (Int32) := ald 3 (zM.2 16) (0 : Int32) fun x_2 => ald 3 (zM.2 16) (1 : Int32) fun x_4 => ald 3 (zM.2 16) (0 : Int32) fun x_6 => ald 3 (zM.2 16) (1 : Int32) fun x_8 => some (((x_2 - 1) * x_4) + (x_6 * (x_8 - 1)))
set_option maxHeartbeats 4000000 in
set_option maxRecDepth 100000 in
theorem c_X7_readEdges (l : Launch) (D : va_G) (ci : Nat → ClassId) (aM : Nat → Nat) (sz : Nat) (zM : MS) (res : Int32) (hF : f_X7_readEdges zM = some res) : CtI l yX7_readEdges wsX7_readEdges { frames := 0, cells := 0, slots := 0, locals := 0 } [.ref (aM 0)] D ci (wcM ci aM zM) sz res (wcM ci aM zM) := by
  refine Met.ofW (cc := cX7_readEdges) (maxL := 1) (ret := (some .int)) (by decide) rfl ?_
  intro p e s m args below meth c s₁ B hml hv
  obtain ⟨rfl, hsz, hP, hK, hD0⟩ := hv
  have hx := B.exec
  have hb := B.bytes
  have hr := B.returns
  have hts := atoms_spec (ws := wsX7_readEdges) B.pre
  have hown : s.vm.findClass RX7 = some m.cls := findClass_of_methodNamed B.named
  have hlocks := B.notSynchronized
  subst hsz
  have hD := hD0.self (sz := s.heap.size)
  generalize hAe : va_A (wcM ci aM zM) s.heap.size = A at hD ⊢
  have hA : ∀ q : Nat, s.heap.size ≤ q → A q := fun q h => by rw [← hAe]; exact Or.inr h
  clear hD0 hAe
  have hl := lv_entry ([.ref (aM 0)]) (n := 1) (Nat.le_of_ble_eq_true rfl)
  rw [lg_entry_eq]
  generalize (lg_sl ([.ref (aM 0)]) ++ List.replicate (1 - (lg_sl ([.ref (aM 0)])).length) Slot.unset).toArray = ls at hl ⊢
  have hl : lv_has ls 1 [(0, .ref (aM 0))] := hl
  have hP : va_P D vwCl (wcM ci aM zM) s.heap := hP
  generalize hH0 : s.heap = H at hP ⊢
  have hS : va_S A s.heap H [] := by rw [← hH0]; exact va_S.rf
  clear hH0
  generalize ([] : List Loc) = locs at hS ⊢
  have hk_0 := hts (.fieldLink RX7 33 "HedgeWarModel" "readGround" "[I") (by decide +kernel)
  have hin_RX7 : ∀ w ∈ wsX70, w ∈ wsX7_readEdges := by decide +kernel
  unfold f_X7_readEdges at hF
  refine lv_aload_n hx hb dX7_readEdges_0 rfl (lv_at hl 0 rfl) ?_
  refine va_get (D := D) (ci := 7) (v := .ref (aM 16)) (C := RX7) (T := TX7) (N := 38) hx hb hts hin_RX7 hown hK hP 0 rfl rfl 16 (by decide) hk_0 (fun _ h9 => h9) rfl dX7_readEdges_1 ?_
  refine lv_iconst (v := 0) hx hb dX7_readEdges_4 (by decide) ?_
  replace hF := ald_i hF
  obtain ⟨hin_1, hF⟩ := hF
  refine va_iald hx hb hK hP 7 0 rfl rfl hin_1 dX7_readEdges_5 ?_
  refine lv_topi (fun x_2 ex_2 => ?_)
  replace hF := nm_i hF ex_2
  refine lv_iconst (v := 1) hx hb dX7_readEdges_6 (by decide) ?_
  refine lv_isub hx hb dX7_readEdges_7 ?_
  refine lv_aload_n hx hb dX7_readEdges_8 rfl (lv_at hl 0 rfl) ?_
  refine va_get (D := D) (ci := 7) (v := .ref (aM 16)) (C := RX7) (T := TX7) (N := 38) hx hb hts hin_RX7 hown hK hP 0 rfl rfl 16 (by decide) hk_0 (fun _ h9 => h9) rfl dX7_readEdges_9 ?_
  refine lv_iconst (v := 1) hx hb dX7_readEdges_12 (by decide) ?_
  replace hF := ald_i hF
  obtain ⟨hin_3, hF⟩ := hF
  refine va_iald hx hb hK hP 7 0 rfl rfl hin_3 dX7_readEdges_13 ?_
  refine lv_topi (fun x_4 ex_4 => ?_)
  replace hF := nm_i hF ex_4
  refine lv_imul hx hb dX7_readEdges_14 ?_
  refine lv_aload_n hx hb dX7_readEdges_15 rfl (lv_at hl 0 rfl) ?_
  refine va_get (D := D) (ci := 7) (v := .ref (aM 16)) (C := RX7) (T := TX7) (N := 38) hx hb hts hin_RX7 hown hK hP 0 rfl rfl 16 (by decide) hk_0 (fun _ h9 => h9) rfl dX7_readEdges_16 ?_
  refine lv_iconst (v := 0) hx hb dX7_readEdges_19 (by decide) ?_
  replace hF := ald_i hF
  obtain ⟨hin_5, hF⟩ := hF
  refine va_iald hx hb hK hP 7 0 rfl rfl hin_5 dX7_readEdges_20 ?_
  refine lv_topi (fun x_6 ex_6 => ?_)
  replace hF := nm_i hF ex_6
  refine lv_aload_n hx hb dX7_readEdges_21 rfl (lv_at hl 0 rfl) ?_
  refine va_get (D := D) (ci := 7) (v := .ref (aM 16)) (C := RX7) (T := TX7) (N := 38) hx hb hts hin_RX7 hown hK hP 0 rfl rfl 16 (by decide) hk_0 (fun _ h9 => h9) rfl dX7_readEdges_22 ?_
  refine lv_iconst (v := 1) hx hb dX7_readEdges_25 (by decide) ?_
  replace hF := ald_i hF
  obtain ⟨hin_7, hF⟩ := hF
  refine va_iald hx hb hK hP 7 0 rfl rfl hin_7 dX7_readEdges_26 ?_
  refine lv_topi (fun x_8 ex_8 => ?_)
  replace hF := nm_i hF ex_8
  refine lv_iconst (v := 1) hx hb dX7_readEdges_27 (by decide) ?_
  refine lv_isub hx hb dX7_readEdges_28 ?_
  refine lv_imul hx hb dX7_readEdges_29 ?_
  refine lv_iadd hx hb dX7_readEdges_30 ?_
  obtain rfl := Option.some.inj hF
  exact W.iret (v := (((x_2 - 1) * x_4) + (x_6 * (x_8 - 1)))) hx hb hr (fun t ht hW => ⟨⟨_, (), rfl, rfl, by rw [ht]; exact hP, va_K.moved hW.alike hK, hD⟩, hS.F ht⟩) hS.2.2 dX7_readEdges_31
noncomputable def L_X7_takeGround_55 (t_18 : Int32) : Nat → Int32 → MS → Option (Int32 × MS)
  | 0, _, _ => none
  | n + 1, v2_32, zM_33 => if (25 : Int32) ≤ v2_32 then (some (v2_32, zM_33)) else (ald 3 (zM_33.2 16) (2 : Int32) fun x_42 => ast 25 v2_32 <| nm ((zM_33.1, va_up zM_33.2 17 (upd (zM_33.2 17) (Int32.toNatClampNeg v2_32) x_42)) : MS) fun zM_44 => nm (v2_32 + 1) fun v2_45 => L_X7_takeGround_55 t_18 n v2_45 zM_44)
noncomputable def f_X7_takeGround (zM : MS) : Option (Int32 × MS) := (f_X7_into zM (0 : Int32) (2 : Int32) (5 : Int32)).bind fun q_4 => nm q_4.1 fun r_1 => nm q_4.2 fun zM_2 => (if r_1 ≤ 0 then ((f_X7_into zM_2 (1 : Int32) (2 : Int32) (5 : Int32)).bind fun q_12 => nm q_12.1 fun r_9 => nm q_12.2 fun zM_10 => some ((r_9 : Int32), (zM_10 : MS))) else (some ((r_1 : Int32), (zM_2 : MS))) : Option (Int32 × MS)).bind fun q_49 => nm q_49.1 fun t_5 => nm q_49.2 fun zM_6 => (if t_5 ≤ 0 then ((f_X7_into zM_6 (2 : Int32) (0 : Int32) (9 : Int32)).bind fun q_25 => nm q_25.1 fun r_22 => nm q_25.2 fun zM_23 => some ((r_22 : Int32), (zM_23 : MS))) else (some ((t_5 : Int32), (zM_6 : MS))) : Option (Int32 × MS)).bind fun q_48 => nm q_48.1 fun t_18 => nm q_48.2 fun zM_19 => nm (0 : Int32) fun v2_31 => (L_X7_takeGround_55 t_18 3000 v2_31 zM_19).bind fun q_47 => nm q_47.1 fun v2_36 => nm q_47.2 fun zM_37 => some (t_18, zM_37)
set_option maxHeartbeats 4000000 in
set_option maxRecDepth 100000 in
theorem c_X7_takeGround (l : Launch) (D : va_G) (ci : Nat → ClassId) (aM : Nat → Nat) (sz : Nat) (zM : MS) (res : Int32 × MS) (hF : f_X7_takeGround zM = some res) : CtI l yX7_takeGround wsX7_takeGround { frames := 3, cells := 0, slots := 0, locals := 73 } [.ref (aM 0)] D ci (wcM ci aM zM) sz res.1 (wcM ci aM res.2) := by
  refine Met.ofW (cc := cX7_takeGround) (maxL := 3) (ret := (some .int)) (by decide) rfl ?_
  intro p e s m args below meth c s₁ B hml hv
  obtain ⟨rfl, hsz, hP, hK, hD0⟩ := hv
  have hx := B.exec
  have hb := B.bytes
  have hr := B.returns
  have hts := atoms_spec (ws := wsX7_takeGround) B.pre
  have hown : s.vm.findClass RX7 = some m.cls := findClass_of_methodNamed B.named
  have hlocks := B.notSynchronized
  subst hsz
  have hD := hD0.self (sz := s.heap.size)
  generalize hAe : va_A (wcM ci aM zM) s.heap.size = A at hD ⊢
  have hA : ∀ q : Nat, s.heap.size ≤ q → A q := fun q h => by rw [← hAe]; exact Or.inr h
  clear hD0 hAe
  have hl := lv_entry ([.ref (aM 0)]) (n := 3) (Nat.le_of_ble_eq_true rfl)
  rw [lg_entry_eq]
  generalize (lg_sl ([.ref (aM 0)]) ++ List.replicate (3 - (lg_sl ([.ref (aM 0)])).length) Slot.unset).toArray = ls at hl ⊢
  have hl : lv_has ls 3 [(0, .ref (aM 0))] := hl
  have hP : va_P D vwCl (wcM ci aM zM) s.heap := hP
  generalize hH0 : s.heap = H at hP ⊢
  have hS : va_S A s.heap H [] := by rw [← hH0]; exact va_S.rf
  clear hH0
  generalize ([] : List Loc) = locs at hS ⊢
  have hk_0 := hts (.fieldLink RX7 33 "HedgeWarModel" "readGround" "[I") (by decide +kernel)
  have hin_RX7 : ∀ w ∈ wsX70, w ∈ wsX7_takeGround := by decide +kernel
  have hk_2 := hts (.fieldLink RX7 36 "HedgeWarModel" "readSoil" "[I") (by decide +kernel)
  unfold f_X7_takeGround at hF
  refine lv_aload_n hx hb dX7_takeGround_0 rfl (lv_at hl 0 rfl) ?_
  refine lv_aload_n hx hb dX7_takeGround_1 rfl (lv_at hl 0 rfl) ?_
  refine va_get (D := D) (ci := 7) (v := .ref (aM 16)) (C := RX7) (T := TX7) (N := 38) hx hb hts hin_RX7 hown hK hP 0 rfl rfl 16 (by decide) hk_0 (fun _ h9 => h9) rfl dX7_takeGround_2 ?_
  refine lv_iconst (v := 0) hx hb dX7_takeGround_5 (by decide) ?_
  refine lv_iconst (v := 2) hx hb dX7_takeGround_6 (by decide) ?_
  refine lv_iconst (v := 5) hx hb dX7_takeGround_7 (by decide) ?_
  replace hF := bnd hF
  obtain ⟨q_4, hc_3, hF⟩ := hF
  obtain ⟨r_1, er_1⟩ : ∃ y : Int32, y = q_4.1 := ⟨_, rfl⟩
  replace hF := nm_i hF er_1
  obtain ⟨zM_2, ezM_2⟩ : ∃ y : MS, y = q_4.2 := ⟨_, rfl⟩
  replace hF := nm_i hF ezM_2
  obtain rfl : q_4 = (r_1, zM_2) := by rw [er_1, ezM_2]
  clear er_1
  clear ezM_2
  refine cl_Vi0 (As := [.ref (aM 16), .int 0, .int 2, .int 5]) (rest := []) ⟨hx, hb, hml, hown, hts⟩ (cwV 4 hts gX7_takeGround_X7_into rfl rfl rfl (by decide +kernel) ⟨Nat.le_of_ble_eq_true rfl, Nat.le_of_ble_eq_true rfl⟩) (c_X7_into l D ci aM H.size zM (0 : Int32) (2 : Int32) (5 : Int32) _ hc_3) hK hP hD hS hA 0 rfl rfl rfl rfl hl.1 (Nat.le_of_ble_eq_true rfl) dX7_takeGround_8 (Nat.zero_le _) (Nat.zero_le _) (fun H locs hP hD hS => ?_)
  have hP : va_P D vwCl (wcM ci aM zM_2) H := hP
  have hD : va_D A (wcM ci aM zM_2) := hD
  refine lv_istore_n (lv' := [(1, .int r_1), (0, .ref (aM 0))]) hx hb dX7_takeGround_11 rfl hl (by decide) rfl (fun ls hl => ?_)
  refine lv_iload_n hx hb dX7_takeGround_12 rfl (lv_at hl 0 rfl) ?_
  replace hF := bnd hF
  obtain ⟨q_49, hv_17, hF⟩ := hF
  obtain ⟨t_5, et_5⟩ : ∃ y : Int32, y = q_49.1 := ⟨_, rfl⟩
  replace hF := nm_i hF et_5
  obtain ⟨zM_6, ezM_6⟩ : ∃ y : MS, y = q_49.2 := ⟨_, rfl⟩
  replace hF := nm_i hF ezM_6
  obtain rfl : q_49 = (t_5, zM_6) := by rw [et_5, ezM_6]
  clear et_5
  clear ezM_6
  refine jn (P := fun H locs ls => va_P D vwCl (wcM ci aM zM_6) H ∧ va_D A (wcM ci aM zM_6) ∧ va_S A s.heap H locs ∧ lv_has ls 3 [(0, .ref (aM 0)), (1, .int r_1)]) (pcJ := 31) (st := [.int t_5]) ?_ ?_
  · intro H locs ls hJ
    obtain ⟨hP, hD, hS, hl⟩ := hJ
    refine lv_istore_n (lv' := [(1, .int t_5), (0, .ref (aM 0))]) hx hb dX7_takeGround_31 rfl hl (by decide) rfl (fun ls hl => ?_)
    refine lv_iload_n hx hb dX7_takeGround_32 rfl (lv_at hl 0 rfl) ?_
    replace hF := bnd hF
    obtain ⟨q_48, hv_30, hF⟩ := hF
    obtain ⟨t_18, et_18⟩ : ∃ y : Int32, y = q_48.1 := ⟨_, rfl⟩
    replace hF := nm_i hF et_18
    obtain ⟨zM_19, ezM_19⟩ : ∃ y : MS, y = q_48.2 := ⟨_, rfl⟩
    replace hF := nm_i hF ezM_19
    obtain rfl : q_48 = (t_18, zM_19) := by rw [et_18, ezM_19]
    clear et_18
    clear ezM_19
    refine jn (P := fun H locs ls => va_P D vwCl (wcM ci aM zM_19) H ∧ va_D A (wcM ci aM zM_19) ∧ va_S A s.heap H locs ∧ lv_has ls 3 [(0, .ref (aM 0)), (1, .int t_5)]) (pcJ := 52) (st := [.int t_18]) ?_ ?_
    · intro H locs ls hJ
      obtain ⟨hP, hD, hS, hl⟩ := hJ
      refine lv_istore_n (lv' := [(1, .int t_18), (0, .ref (aM 0))]) hx hb dX7_takeGround_52 rfl hl (by decide) rfl (fun ls hl => ?_)
      refine lv_iconst (v := 0) hx hb dX7_takeGround_53 (by decide) ?_
      refine lv_topi (fun v2_31 ev2_31 => ?_)
      replace hF := nm_i hF ev2_31
      refine lv_istore_n (lv' := [(2, .int v2_31), (1, .int t_18), (0, .ref (aM 0))]) hx hb dX7_takeGround_54 rfl hl (by decide) rfl (fun ls hl => ?_)
      replace hF := bnd hF
      obtain ⟨q_47, hv_46, hF⟩ := hF
      obtain ⟨v2_36, ev2_36⟩ : ∃ y : Int32, y = q_47.1 := ⟨_, rfl⟩
      replace hF := nm_i hF ev2_36
      obtain ⟨zM_37, ezM_37⟩ : ∃ y : MS, y = q_47.2 := ⟨_, rfl⟩
      replace hF := nm_i hF ezM_37
      obtain rfl : q_47 = (v2_36, zM_37) := by rw [ev2_36, ezM_37]
      clear ev2_36
      clear ezM_37
      refine jn (P := fun H locs ls => va_P D vwCl (wcM ci aM zM_37) H ∧ va_D A (wcM ci aM zM_37) ∧ va_S A s.heap H locs ∧ lv_has ls 3 [(0, .ref (aM 0)), (1, .int t_18), (2, .int v2_36)]) (pcJ := 79) (st := []) ?_ ?_
      · intro H locs ls hJ
        obtain ⟨hP, hD, hS, hl⟩ := hJ
        refine lv_iload_n hx hb dX7_takeGround_79 rfl (lv_at hl 1 rfl) ?_
        obtain rfl := Option.some.inj hF
        exact W.iret (v := t_18) hx hb hr (fun t ht hW => ⟨⟨_, (), rfl, rfl, by rw [ht]; exact hP, va_K.moved hW.alike hK, hD⟩, hS.F ht⟩) hS.2.2 dX7_takeGround_80
      · intro J_35
        clear hF
        have hF := hv_46
        refine lpW (σ := Int32 × MS) (I := fun n v H locs ls => L_X7_takeGround_55 t_18 n v.1 v.2 = some (v2_36, zM_37) ∧ va_P D vwCl (wcM ci aM v.2) H ∧ va_D A (wcM ci aM v.2) ∧ va_S A s.heap H locs ∧ lv_has ls 3 [(0, .ref (aM 0)), (1, .int t_18), (2, .int v.1)]) 3000 (v2_31, zM_19) (fun _ _ _ _ h => no_none h.1) ⟨hF, hP, hD, hS, lv_sub hl [2, 1, 0] rfl⟩ ?_
        clear hF hP hD hS hl
        intro n ih_34 vq H locs ls hI
        obtain ⟨v2_32, zM_33⟩ := vq
        obtain ⟨hF, hP, hD, hS, hl⟩ := hI
        have hP : va_P D vwCl (wcM ci aM zM_33) H := hP
        have hD : va_D A (wcM ci aM zM_33) := hD
        have hl : lv_has ls 3 [(0, .ref (aM 0)), (1, .int t_18), (2, .int v2_32)] := hl
        replace hF : L_X7_takeGround_55 t_18 (n + 1) v2_32 zM_33 = some (v2_36, zM_37) := hF
        rw [L_X7_takeGround_55] at hF
        refine lv_iload_n hx hb dX7_takeGround_55 rfl (lv_at hl 2 rfl) ?_
        refine lv_bipush (v := 25) hx hb dX7_takeGround_56 (by decide) ?_
        refine lv_icmp_ge (tgt := 79) hx hb dX7_takeGround_58 (by decide) (fun c_38 => ?_) (fun c_38 => ?_)
        · replace hF := if_i c_38 hF
          obtain ⟨g_39, g_40⟩ : v2_32 = v2_36 ∧ zM_33 = zM_37 := by have h9 := Option.some.inj hF; simpa only [Prod.mk.injEq] using h9
          subst g_39
          subst g_40
          exact J_35 H locs ls ⟨hP, hD, hS, lv_sub hl [0, 1, 2] rfl⟩
        · replace hF := if_o c_38 hF
          refine lv_aload_n hx hb dX7_takeGround_61 rfl (lv_at hl 0 rfl) ?_
          refine va_get (D := D) (ci := 7) (v := .ref (aM 17)) (C := RX7) (T := TX7) (N := 38) hx hb hts hin_RX7 hown hK hP 0 rfl rfl 17 (by decide) hk_2 (fun _ h9 => h9) rfl dX7_takeGround_62 ?_
          refine lv_iload_n hx hb dX7_takeGround_65 rfl (lv_at hl 2 rfl) ?_
          refine lv_aload_n hx hb dX7_takeGround_66 rfl (lv_at hl 0 rfl) ?_
          refine va_get (D := D) (ci := 7) (v := .ref (aM 16)) (C := RX7) (T := TX7) (N := 38) hx hb hts hin_RX7 hown hK hP 0 rfl rfl 16 (by decide) hk_0 (fun _ h9 => h9) rfl dX7_takeGround_67 ?_
          refine lv_iconst (v := 2) hx hb dX7_takeGround_70 (by decide) ?_
          replace hF := ald_i hF
          obtain ⟨hin_41, hF⟩ := hF
          refine va_iald hx hb hK hP 7 0 rfl rfl hin_41 dX7_takeGround_71 ?_
          refine lv_topi (fun x_42 ex_42 => ?_)
          replace hF := nm_i hF ex_42
          replace hF := ast_i hF
          obtain ⟨hin_43, hF⟩ := hF
          refine va_iast (x := x_42) hx hb hK hP hD hS 8 0 rfl rfl hin_43 dX7_takeGround_72 (fun H locs hP hD hS => ?_)
          obtain ⟨zM_44, ezM_44⟩ : ∃ y : MS, y = (zM_33.1, va_up zM_33.2 17 (upd (zM_33.2 17) (Int32.toNatClampNeg v2_32) x_42)) := ⟨_, rfl⟩
          replace hF := nm_i hF ezM_44
          have hP : va_P D vwCl (wcM ci aM zM_44) H := by rw [ezM_44]; exact hP
          have hD : va_D A (wcM ci aM zM_44) := by rw [ezM_44]; exact hD
          obtain ⟨v2_45, ev2_45⟩ : ∃ y : Int32, y = v2_32 + 1 := ⟨_, rfl⟩
          replace hF := nm_i hF ev2_45
          refine lv_iinc (v := v2_45) (lv' := [(2, .int v2_45), (0, .ref (aM 0)), (1, .int t_18)]) hx hb dX7_takeGround_73 hl (k := 2) rfl (by rw [ev2_45]; rfl) (by decide) rfl (fun ls hl => ?_)
          refine lv_goto (tgt := 55) hx hb dX7_takeGround_76 (by decide) ?_
          exact ih_34 (v2_45, zM_44) H locs ls ⟨hF, hP, hD, hS, lv_sub hl [1, 2, 0] rfl⟩
    · intro J_20
      clear hF
      have hF := hv_30
      refine lv_if_le (tgt := 40) hx hb dX7_takeGround_33 (by decide) (fun c_21 => ?_) (fun c_21 => ?_)
      · replace hF := if_i c_21 hF
        refine lv_aload_n hx hb dX7_takeGround_40 rfl (lv_at hl 1 rfl) ?_
        refine lv_aload_n hx hb dX7_takeGround_41 rfl (lv_at hl 1 rfl) ?_
        refine va_get (D := D) (ci := 7) (v := .ref (aM 16)) (C := RX7) (T := TX7) (N := 38) hx hb hts hin_RX7 hown hK hP 0 rfl rfl 16 (by decide) hk_0 (fun _ h9 => h9) rfl dX7_takeGround_42 ?_
        refine lv_iconst (v := 2) hx hb dX7_takeGround_45 (by decide) ?_
        refine lv_iconst (v := 0) hx hb dX7_takeGround_46 (by decide) ?_
        refine lv_bipush (v := 9) hx hb dX7_takeGround_47 (by decide) ?_
        replace hF := bnd hF
        obtain ⟨q_25, hc_24, hF⟩ := hF
        obtain ⟨r_22, er_22⟩ : ∃ y : Int32, y = q_25.1 := ⟨_, rfl⟩
        replace hF := nm_i hF er_22
        obtain ⟨zM_23, ezM_23⟩ : ∃ y : MS, y = q_25.2 := ⟨_, rfl⟩
        replace hF := nm_i hF ezM_23
        obtain rfl : q_25 = (r_22, zM_23) := by rw [er_22, ezM_23]
        clear er_22
        clear ezM_23
        refine cl_Vi0 (As := [.ref (aM 16), .int 2, .int 0, .int 9]) (rest := []) ⟨hx, hb, hml, hown, hts⟩ (cwV 4 hts gX7_takeGround_X7_into rfl rfl rfl (by decide +kernel) ⟨Nat.le_of_ble_eq_true rfl, Nat.le_of_ble_eq_true rfl⟩) (c_X7_into l D ci aM H.size zM_6 (2 : Int32) (0 : Int32) (9 : Int32) _ hc_24) hK hP hD hS hA 0 rfl rfl rfl rfl hl.1 (Nat.le_of_ble_eq_true rfl) dX7_takeGround_49 (Nat.zero_le _) (Nat.zero_le _) (fun H locs hP hD hS => ?_)
        have hP : va_P D vwCl (wcM ci aM zM_23) H := hP
        have hD : va_D A (wcM ci aM zM_23) := hD
        obtain ⟨g_26, g_27⟩ : (r_22 : Int32) = t_18 ∧ (zM_23 : MS) = zM_19 := by have h9 := Option.some.inj hF; simpa only [Prod.mk.injEq] using h9
        subst g_26
        subst g_27
        exact J_20 H locs ls ⟨hP, hD, hS, lv_sub hl [1, 0] rfl⟩
      · replace hF := if_o c_21 hF
        refine lv_iload_n hx hb dX7_takeGround_36 rfl (lv_at hl 0 rfl) ?_
        refine lv_goto (tgt := 52) hx hb dX7_takeGround_37 (by decide) ?_
        obtain ⟨g_28, g_29⟩ : (t_5 : Int32) = t_18 ∧ (zM_6 : MS) = zM_19 := by have h9 := Option.some.inj hF; simpa only [Prod.mk.injEq] using h9
        subst g_28
        subst g_29
        exact J_20 H locs ls ⟨hP, hD, hS, lv_sub hl [1, 0] rfl⟩
  · intro J_7
    clear hF
    have hF := hv_17
    refine lv_if_le (tgt := 20) hx hb dX7_takeGround_13 (by decide) (fun c_8 => ?_) (fun c_8 => ?_)
    · replace hF := if_i c_8 hF
      refine lv_aload_n hx hb dX7_takeGround_20 rfl (lv_at hl 1 rfl) ?_
      refine lv_aload_n hx hb dX7_takeGround_21 rfl (lv_at hl 1 rfl) ?_
      refine va_get (D := D) (ci := 7) (v := .ref (aM 16)) (C := RX7) (T := TX7) (N := 38) hx hb hts hin_RX7 hown hK hP 0 rfl rfl 16 (by decide) hk_0 (fun _ h9 => h9) rfl dX7_takeGround_22 ?_
      refine lv_iconst (v := 1) hx hb dX7_takeGround_25 (by decide) ?_
      refine lv_iconst (v := 2) hx hb dX7_takeGround_26 (by decide) ?_
      refine lv_iconst (v := 5) hx hb dX7_takeGround_27 (by decide) ?_
      replace hF := bnd hF
      obtain ⟨q_12, hc_11, hF⟩ := hF
      obtain ⟨r_9, er_9⟩ : ∃ y : Int32, y = q_12.1 := ⟨_, rfl⟩
      replace hF := nm_i hF er_9
      obtain ⟨zM_10, ezM_10⟩ : ∃ y : MS, y = q_12.2 := ⟨_, rfl⟩
      replace hF := nm_i hF ezM_10
      obtain rfl : q_12 = (r_9, zM_10) := by rw [er_9, ezM_10]
      clear er_9
      clear ezM_10
      refine cl_Vi0 (As := [.ref (aM 16), .int 1, .int 2, .int 5]) (rest := []) ⟨hx, hb, hml, hown, hts⟩ (cwV 4 hts gX7_takeGround_X7_into rfl rfl rfl (by decide +kernel) ⟨Nat.le_of_ble_eq_true rfl, Nat.le_of_ble_eq_true rfl⟩) (c_X7_into l D ci aM H.size zM_2 (1 : Int32) (2 : Int32) (5 : Int32) _ hc_11) hK hP hD hS hA 0 rfl rfl rfl rfl hl.1 (Nat.le_of_ble_eq_true rfl) dX7_takeGround_28 (Nat.zero_le _) (Nat.zero_le _) (fun H locs hP hD hS => ?_)
      have hP : va_P D vwCl (wcM ci aM zM_10) H := hP
      have hD : va_D A (wcM ci aM zM_10) := hD
      obtain ⟨g_13, g_14⟩ : (r_9 : Int32) = t_5 ∧ (zM_10 : MS) = zM_6 := by have h9 := Option.some.inj hF; simpa only [Prod.mk.injEq] using h9
      subst g_13
      subst g_14
      exact J_7 H locs ls ⟨hP, hD, hS, lv_sub hl [1, 0] rfl⟩
    · replace hF := if_o c_8 hF
      refine lv_iload_n hx hb dX7_takeGround_16 rfl (lv_at hl 0 rfl) ?_
      refine lv_goto (tgt := 31) hx hb dX7_takeGround_17 (by decide) ?_
      obtain ⟨g_15, g_16⟩ : (r_1 : Int32) = t_5 ∧ (zM_2 : MS) = zM_6 := by have h9 := Option.some.inj hF; simpa only [Prod.mk.injEq] using h9
      subst g_15
      subst g_16
      exact J_7 H locs ls ⟨hP, hD, hS, lv_sub hl [1, 0] rfl⟩
noncomputable def f_X7_takeSoil (zM : MS) : Option (Int32 × MS) := (f_X7_readFields zM).bind fun r_1 => (f_X7_takeNumber zM (0 : Int32) (r_1 - 1)).bind fun q_6 => nm q_6.1 fun r_3 => nm q_6.2 fun zM_4 => nm (zM_4.1 14) fun v2_7 => (if r_3 ≤ 0 then ((f_X7_takeNumber zM_4 (0 : Int32) (9 : Int32)).bind fun q_15 => nm q_15.1 fun r_12 => nm q_15.2 fun zM_13 => some ((r_12 : Int32), (zM_13 : MS))) else (some ((r_3 : Int32), (zM_4 : MS))) : Option (Int32 × MS)).bind fun q_25 => nm q_25.1 fun t_8 => nm q_25.2 fun zM_9 => if t_8 = 0 then (nm (zM_9.1 14) fun y_23 => ast 25 v2_7 <| nm ((zM_9.1, va_up zM_9.2 17 (upd (zM_9.2 17) (Int32.toNatClampNeg v2_7) y_23)) : MS) fun zM_24 => some (t_8, zM_24)) else (some (t_8, zM_9))
set_option maxHeartbeats 4000000 in
set_option maxRecDepth 100000 in
theorem c_X7_takeSoil (l : Launch) (D : va_G) (ci : Nat → ClassId) (aM : Nat → Nat) (sz : Nat) (zM : MS) (res : Int32 × MS) (hF : f_X7_takeSoil zM = some res) : CtI l yX7_takeSoil wsX7_takeSoil { frames := 2, cells := 0, slots := 0, locals := 48 } [.ref (aM 0)] D ci (wcM ci aM zM) sz res.1 (wcM ci aM res.2) := by
  refine Met.ofW (cc := cX7_takeSoil) (maxL := 3) (ret := (some .int)) (by decide) rfl ?_
  intro p e s m args below meth c s₁ B hml hv
  obtain ⟨rfl, hsz, hP, hK, hD0⟩ := hv
  have hx := B.exec
  have hb := B.bytes
  have hr := B.returns
  have hts := atoms_spec (ws := wsX7_takeSoil) B.pre
  have hown : s.vm.findClass RX7 = some m.cls := findClass_of_methodNamed B.named
  have hlocks := B.notSynchronized
  subst hsz
  have hD := hD0.self (sz := s.heap.size)
  generalize hAe : va_A (wcM ci aM zM) s.heap.size = A at hD ⊢
  have hA : ∀ q : Nat, s.heap.size ≤ q → A q := fun q h => by rw [← hAe]; exact Or.inr h
  clear hD0 hAe
  have hl := lv_entry ([.ref (aM 0)]) (n := 3) (Nat.le_of_ble_eq_true rfl)
  rw [lg_entry_eq]
  generalize (lg_sl ([.ref (aM 0)]) ++ List.replicate (3 - (lg_sl ([.ref (aM 0)])).length) Slot.unset).toArray = ls at hl ⊢
  have hl : lv_has ls 3 [(0, .ref (aM 0))] := hl
  have hP : va_P D vwCl (wcM ci aM zM) s.heap := hP
  generalize hH0 : s.heap = H at hP ⊢
  have hS : va_S A s.heap H [] := by rw [← hH0]; exact va_S.rf
  clear hH0
  generalize ([] : List Loc) = locs at hS ⊢
  have hk_0 := hts (.fieldLink RX7 119 "HedgeWarModel" "number" "I") (by decide +kernel)
  have hin_RX7 : ∀ w ∈ wsX70, w ∈ wsX7_takeSoil := by decide +kernel
  have hk_2 := hts (.fieldLink RX7 36 "HedgeWarModel" "readSoil" "[I") (by decide +kernel)
  unfold f_X7_takeSoil at hF
  refine lv_aload_n hx hb dX7_takeSoil_0 rfl (lv_at hl 0 rfl) ?_
  refine lv_iconst (v := 0) hx hb dX7_takeSoil_1 (by decide) ?_
  refine lv_aload_n hx hb dX7_takeSoil_2 rfl (lv_at hl 0 rfl) ?_
  replace hF := bnd hF
  obtain ⟨r_1, hc_2, hF⟩ := hF
  refine cl_Vi0 (As := []) (rest := [.int 0, .ref (aM 0)]) ⟨hx, hb, hml, hown, hts⟩ (cwV 0 hts gX7_takeSoil_X7_readFields rfl rfl rfl (by decide +kernel) ⟨Nat.le_of_ble_eq_true rfl, Nat.le_of_ble_eq_true rfl⟩) (c_X7_readFields l D ci aM H.size zM _ hc_2) hK hP hD hS hA 0 rfl rfl rfl rfl hl.1 (Nat.le_of_ble_eq_true rfl) dX7_takeSoil_3 (Nat.zero_le _) (Nat.zero_le _) (fun H locs hP hD hS => ?_)
  have hP : va_P D vwCl (wcM ci aM zM) H := hP
  have hD : va_D A (wcM ci aM zM) := hD
  refine lv_iconst (v := 1) hx hb dX7_takeSoil_6 (by decide) ?_
  refine lv_isub hx hb dX7_takeSoil_7 ?_
  replace hF := bnd hF
  obtain ⟨q_6, hc_5, hF⟩ := hF
  obtain ⟨r_3, er_3⟩ : ∃ y : Int32, y = q_6.1 := ⟨_, rfl⟩
  replace hF := nm_i hF er_3
  obtain ⟨zM_4, ezM_4⟩ : ∃ y : MS, y = q_6.2 := ⟨_, rfl⟩
  replace hF := nm_i hF ezM_4
  obtain rfl : q_6 = (r_3, zM_4) := by rw [er_3, ezM_4]
  clear er_3
  clear ezM_4
  refine cl_Vi0 (As := [.int 0, .int (r_1 - 1)]) (rest := []) ⟨hx, hb, hml, hown, hts⟩ (cwV 2 hts gX7_takeSoil_X7_takeNumber rfl rfl rfl (by decide +kernel) ⟨Nat.le_of_ble_eq_true rfl, Nat.le_of_ble_eq_true rfl⟩) (c_X7_takeNumber l D ci aM H.size zM (0 : Int32) (r_1 - 1) _ hc_5) hK hP hD hS hA 0 rfl rfl rfl rfl hl.1 (Nat.le_of_ble_eq_true rfl) dX7_takeSoil_8 (Nat.zero_le _) (Nat.zero_le _) (fun H locs hP hD hS => ?_)
  have hP : va_P D vwCl (wcM ci aM zM_4) H := hP
  have hD : va_D A (wcM ci aM zM_4) := hD
  refine lv_istore_n (lv' := [(1, .int r_3), (0, .ref (aM 0))]) hx hb dX7_takeSoil_11 rfl hl (by decide) rfl (fun ls hl => ?_)
  refine lv_aload_n hx hb dX7_takeSoil_12 rfl (lv_at hl 1 rfl) ?_
  refine va_get (D := D) (ci := 7) (v := .int (zM_4.1 14)) (C := RX7) (T := TX7) (N := 38) hx hb hts hin_RX7 hown hK hP 0 rfl rfl 14 (by decide) hk_0 (fun _ h9 => h9) rfl dX7_takeSoil_13 ?_
  refine lv_topi (fun v2_7 ev2_7 => ?_)
  replace hF := nm_i hF ev2_7
  refine lv_istore_n (lv' := [(2, .int v2_7), (1, .int r_3), (0, .ref (aM 0))]) hx hb dX7_takeSoil_16 rfl hl (by decide) rfl (fun ls hl => ?_)
  refine lv_iload_n hx hb dX7_takeSoil_17 rfl (lv_at hl 1 rfl) ?_
  replace hF := bnd hF
  obtain ⟨q_25, hv_20, hF⟩ := hF
  obtain ⟨t_8, et_8⟩ : ∃ y : Int32, y = q_25.1 := ⟨_, rfl⟩
  replace hF := nm_i hF et_8
  obtain ⟨zM_9, ezM_9⟩ : ∃ y : MS, y = q_25.2 := ⟨_, rfl⟩
  replace hF := nm_i hF ezM_9
  obtain rfl : q_25 = (t_8, zM_9) := by rw [et_8, ezM_9]
  clear et_8
  clear ezM_9
  refine jn (P := fun H locs ls => va_P D vwCl (wcM ci aM zM_9) H ∧ va_D A (wcM ci aM zM_9) ∧ va_S A s.heap H locs ∧ lv_has ls 3 [(0, .ref (aM 0)), (1, .int r_3), (2, .int v2_7)]) (pcJ := 32) (st := [.int t_8]) ?_ ?_
  · intro H locs ls hJ
    obtain ⟨hP, hD, hS, hl⟩ := hJ
    refine lv_istore_n (lv' := [(1, .int t_8), (0, .ref (aM 0)), (2, .int v2_7)]) hx hb dX7_takeSoil_32 rfl hl (by decide) rfl (fun ls hl => ?_)
    refine lv_iload_n hx hb dX7_takeSoil_33 rfl (lv_at hl 0 rfl) ?_
    refine lv_if_ne (tgt := 47) hx hb dX7_takeSoil_34 (by decide) (fun c_21 => ?_) (fun c_21 => ?_)
    · replace hF := if_o c_21 hF
      refine lv_iload_n hx hb dX7_takeSoil_47 rfl (lv_at hl 0 rfl) ?_
      obtain rfl := Option.some.inj hF
      exact W.iret (v := t_8) hx hb hr (fun t ht hW => ⟨⟨_, (), rfl, rfl, by rw [ht]; exact hP, va_K.moved hW.alike hK, hD⟩, hS.F ht⟩) hS.2.2 dX7_takeSoil_48
    · replace hF := if_i c_21 hF
      refine lv_aload_n hx hb dX7_takeSoil_37 rfl (lv_at hl 1 rfl) ?_
      refine va_get (D := D) (ci := 7) (v := .ref (aM 17)) (C := RX7) (T := TX7) (N := 38) hx hb hts hin_RX7 hown hK hP 0 rfl rfl 17 (by decide) hk_2 (fun _ h9 => h9) rfl dX7_takeSoil_38 ?_
      refine lv_iload_n hx hb dX7_takeSoil_41 rfl (lv_at hl 2 rfl) ?_
      refine lv_aload_n hx hb dX7_takeSoil_42 rfl (lv_at hl 1 rfl) ?_
      refine va_get (D := D) (ci := 7) (v := .int (zM_9.1 14)) (C := RX7) (T := TX7) (N := 38) hx hb hts hin_RX7 hown hK hP 0 rfl rfl 14 (by decide) hk_0 (fun _ h9 => h9) rfl dX7_takeSoil_43 ?_
      refine lv_topi (fun y_23 ey_23 => ?_)
      replace hF := nm_i hF ey_23
      replace hF := ast_i hF
      obtain ⟨hin_22, hF⟩ := hF
      refine va_iast (x := y_23) hx hb hK hP hD hS 8 0 rfl rfl hin_22 dX7_takeSoil_46 (fun H locs hP hD hS => ?_)
      obtain ⟨zM_24, ezM_24⟩ : ∃ y : MS, y = (zM_9.1, va_up zM_9.2 17 (upd (zM_9.2 17) (Int32.toNatClampNeg v2_7) y_23)) := ⟨_, rfl⟩
      replace hF := nm_i hF ezM_24
      have hP : va_P D vwCl (wcM ci aM zM_24) H := by rw [ezM_24]; exact hP
      have hD : va_D A (wcM ci aM zM_24) := by rw [ezM_24]; exact hD
      refine lv_iload_n hx hb dX7_takeSoil_47 rfl (lv_at hl 0 rfl) ?_
      obtain rfl := Option.some.inj hF
      exact W.iret (v := t_8) hx hb hr (fun t ht hW => ⟨⟨_, (), rfl, rfl, by rw [ht]; exact hP, va_K.moved hW.alike hK, hD⟩, hS.F ht⟩) hS.2.2 dX7_takeSoil_48
  · intro J_10
    clear hF
    have hF := hv_20
    refine lv_if_le (tgt := 25) hx hb dX7_takeSoil_18 (by decide) (fun c_11 => ?_) (fun c_11 => ?_)
    · replace hF := if_i c_11 hF
      refine lv_aload_n hx hb dX7_takeSoil_25 rfl (lv_at hl 2 rfl) ?_
      refine lv_iconst (v := 0) hx hb dX7_takeSoil_26 (by decide) ?_
      refine lv_bipush (v := 9) hx hb dX7_takeSoil_27 (by decide) ?_
      replace hF := bnd hF
      obtain ⟨q_15, hc_14, hF⟩ := hF
      obtain ⟨r_12, er_12⟩ : ∃ y : Int32, y = q_15.1 := ⟨_, rfl⟩
      replace hF := nm_i hF er_12
      obtain ⟨zM_13, ezM_13⟩ : ∃ y : MS, y = q_15.2 := ⟨_, rfl⟩
      replace hF := nm_i hF ezM_13
      obtain rfl : q_15 = (r_12, zM_13) := by rw [er_12, ezM_13]
      clear er_12
      clear ezM_13
      refine cl_Vi0 (As := [.int 0, .int 9]) (rest := []) ⟨hx, hb, hml, hown, hts⟩ (cwV 2 hts gX7_takeSoil_X7_takeNumber rfl rfl rfl (by decide +kernel) ⟨Nat.le_of_ble_eq_true rfl, Nat.le_of_ble_eq_true rfl⟩) (c_X7_takeNumber l D ci aM H.size zM_4 (0 : Int32) (9 : Int32) _ hc_14) hK hP hD hS hA 0 rfl rfl rfl rfl hl.1 (Nat.le_of_ble_eq_true rfl) dX7_takeSoil_29 (Nat.zero_le _) (Nat.zero_le _) (fun H locs hP hD hS => ?_)
      have hP : va_P D vwCl (wcM ci aM zM_13) H := hP
      have hD : va_D A (wcM ci aM zM_13) := hD
      obtain ⟨g_16, g_17⟩ : (r_12 : Int32) = t_8 ∧ (zM_13 : MS) = zM_9 := by have h9 := Option.some.inj hF; simpa only [Prod.mk.injEq] using h9
      subst g_16
      subst g_17
      exact J_10 H locs ls ⟨hP, hD, hS, lv_sub hl [2, 1, 0] rfl⟩
    · replace hF := if_o c_11 hF
      refine lv_iload_n hx hb dX7_takeSoil_21 rfl (lv_at hl 1 rfl) ?_
      refine lv_goto (tgt := 32) hx hb dX7_takeSoil_22 (by decide) ?_
      obtain ⟨g_18, g_19⟩ : (r_3 : Int32) = t_8 ∧ (zM_4 : MS) = zM_9 := by have h9 := Option.some.inj hF; simpa only [Prod.mk.injEq] using h9
      subst g_18
      subst g_19
      exact J_10 H locs ls ⟨hP, hD, hS, lv_sub hl [2, 1, 0] rfl⟩
noncomputable def f_X7_takeOwn (zM : MS) : Option (Int32 × MS) := (f_X7_readFields zM).bind fun r_1 => (f_X7_takeNumber zM (0 : Int32) (r_1 - 1)).bind fun q_6 => nm q_6.1 fun r_3 => nm q_6.2 fun zM_4 => if r_3 = 0 then ((f_X7_has (zM_4.1 18) (zM_4.1 14)).bind fun r_11 => if r_11 = 0 then (if r_3 = 0 then (nm ((zM_4.1 18) ||| ((1 : Int32) <<< ((zM_4.1 14) &&& 31))) fun f18_15 => nm ((upd zM_4.1 18 f18_15, zM_4.2) : MS) fun zM_16 => some (r_3, zM_16)) else (some (r_3, zM_4))) else ((f_X7_fails zM_4 (4 : Int32) (zM_4.1 15)).bind fun q_20 => nm q_20.1 fun r_17 => nm q_20.2 fun zM_18 => some (r_17, zM_18))) else (if r_3 = 0 then (nm ((zM_4.1 18) ||| ((1 : Int32) <<< ((zM_4.1 14) &&& 31))) fun f18_9 => nm ((upd zM_4.1 18 f18_9, zM_4.2) : MS) fun zM_10 => some (r_3, zM_10)) else (some (r_3, zM_4)))
set_option maxHeartbeats 4000000 in
set_option maxRecDepth 100000 in
theorem c_X7_takeOwn (l : Launch) (D : va_G) (ci : Nat → ClassId) (aM : Nat → Nat) (sz : Nat) (zM : MS) (res : Int32 × MS) (hF : f_X7_takeOwn zM = some res) : CtI l yX7_takeOwn wsX7_takeOwn { frames := 2, cells := 0, slots := 0, locals := 48 } [.ref (aM 0)] D ci (wcM ci aM zM) sz res.1 (wcM ci aM res.2) := by
  refine Met.ofW (cc := cX7_takeOwn) (maxL := 2) (ret := (some .int)) (by decide) rfl ?_
  intro p e s m args below meth c s₁ B hml hv
  obtain ⟨rfl, hsz, hP, hK, hD0⟩ := hv
  have hx := B.exec
  have hb := B.bytes
  have hr := B.returns
  have hts := atoms_spec (ws := wsX7_takeOwn) B.pre
  have hown : s.vm.findClass RX7 = some m.cls := findClass_of_methodNamed B.named
  have hlocks := B.notSynchronized
  subst hsz
  have hD := hD0.self (sz := s.heap.size)
  generalize hAe : va_A (wcM ci aM zM) s.heap.size = A at hD ⊢
  have hA : ∀ q : Nat, s.heap.size ≤ q → A q := fun q h => by rw [← hAe]; exact Or.inr h
  clear hD0 hAe
  have hl := lv_entry ([.ref (aM 0)]) (n := 2) (Nat.le_of_ble_eq_true rfl)
  rw [lg_entry_eq]
  generalize (lg_sl ([.ref (aM 0)]) ++ List.replicate (2 - (lg_sl ([.ref (aM 0)])).length) Slot.unset).toArray = ls at hl ⊢
  have hl : lv_has ls 2 [(0, .ref (aM 0))] := hl
  have hP : va_P D vwCl (wcM ci aM zM) s.heap := hP
  generalize hH0 : s.heap = H at hP ⊢
  have hS : va_S A s.heap H [] := by rw [← hH0]; exact va_S.rf
  clear hH0
  generalize ([] : List Loc) = locs at hS ⊢
  have hk_0 := hts (.fieldLink RX7 132 "HedgeWarModel" "readOwn" "I") (by decide +kernel)
  have hin_RX7 : ∀ w ∈ wsX70, w ∈ wsX7_takeOwn := by decide +kernel
  have hk_2 := hts (.fieldLink RX7 119 "HedgeWarModel" "number" "I") (by decide +kernel)
  have hk_3 := hts (.fieldLink RX7 116 "HedgeWarModel" "numberAt" "I") (by decide +kernel)
  unfold f_X7_takeOwn at hF
  refine lv_aload_n hx hb dX7_takeOwn_0 rfl (lv_at hl 0 rfl) ?_
  refine lv_iconst (v := 0) hx hb dX7_takeOwn_1 (by decide) ?_
  refine lv_aload_n hx hb dX7_takeOwn_2 rfl (lv_at hl 0 rfl) ?_
  replace hF := bnd hF
  obtain ⟨r_1, hc_2, hF⟩ := hF
  refine cl_Vi0 (As := []) (rest := [.int 0, .ref (aM 0)]) ⟨hx, hb, hml, hown, hts⟩ (cwV 0 hts gX7_takeOwn_X7_readFields rfl rfl rfl (by decide +kernel) ⟨Nat.le_of_ble_eq_true rfl, Nat.le_of_ble_eq_true rfl⟩) (c_X7_readFields l D ci aM H.size zM _ hc_2) hK hP hD hS hA 0 rfl rfl rfl rfl hl.1 (Nat.le_of_ble_eq_true rfl) dX7_takeOwn_3 (Nat.zero_le _) (Nat.zero_le _) (fun H locs hP hD hS => ?_)
  have hP : va_P D vwCl (wcM ci aM zM) H := hP
  have hD : va_D A (wcM ci aM zM) := hD
  refine lv_iconst (v := 1) hx hb dX7_takeOwn_6 (by decide) ?_
  refine lv_isub hx hb dX7_takeOwn_7 ?_
  replace hF := bnd hF
  obtain ⟨q_6, hc_5, hF⟩ := hF
  obtain ⟨r_3, er_3⟩ : ∃ y : Int32, y = q_6.1 := ⟨_, rfl⟩
  replace hF := nm_i hF er_3
  obtain ⟨zM_4, ezM_4⟩ : ∃ y : MS, y = q_6.2 := ⟨_, rfl⟩
  replace hF := nm_i hF ezM_4
  obtain rfl : q_6 = (r_3, zM_4) := by rw [er_3, ezM_4]
  clear er_3
  clear ezM_4
  refine cl_Vi0 (As := [.int 0, .int (r_1 - 1)]) (rest := []) ⟨hx, hb, hml, hown, hts⟩ (cwV 2 hts gX7_takeOwn_X7_takeNumber rfl rfl rfl (by decide +kernel) ⟨Nat.le_of_ble_eq_true rfl, Nat.le_of_ble_eq_true rfl⟩) (c_X7_takeNumber l D ci aM H.size zM (0 : Int32) (r_1 - 1) _ hc_5) hK hP hD hS hA 0 rfl rfl rfl rfl hl.1 (Nat.le_of_ble_eq_true rfl) dX7_takeOwn_8 (Nat.zero_le _) (Nat.zero_le _) (fun H locs hP hD hS => ?_)
  have hP : va_P D vwCl (wcM ci aM zM_4) H := hP
  have hD : va_D A (wcM ci aM zM_4) := hD
  refine lv_istore_n (lv' := [(1, .int r_3), (0, .ref (aM 0))]) hx hb dX7_takeOwn_11 rfl hl (by decide) rfl (fun ls hl => ?_)
  refine lv_iload_n hx hb dX7_takeOwn_12 rfl (lv_at hl 0 rfl) ?_
  refine lv_if_ne (tgt := 40) hx hb dX7_takeOwn_13 (by decide) (fun c_7 => ?_) (fun c_7 => ?_)
  · replace hF := if_o c_7 hF
    refine lv_iload_n hx hb dX7_takeOwn_40 rfl (lv_at hl 0 rfl) ?_
    refine lv_if_ne (tgt := 59) hx hb dX7_takeOwn_41 (by decide) (fun c_8 => ?_) (fun c_8 => ?_)
    · replace hF := if_o c_8 hF
      refine lv_iload_n hx hb dX7_takeOwn_59 rfl (lv_at hl 0 rfl) ?_
      obtain rfl := Option.some.inj hF
      exact W.iret (v := r_3) hx hb hr (fun t ht hW => ⟨⟨_, (), rfl, rfl, by rw [ht]; exact hP, va_K.moved hW.alike hK, hD⟩, hS.F ht⟩) hS.2.2 dX7_takeOwn_60
    · replace hF := if_i c_8 hF
      refine lv_aload_n hx hb dX7_takeOwn_44 rfl (lv_at hl 1 rfl) ?_
      refine lv_dup hx hb dX7_takeOwn_45 rfl ?_
      refine va_get (D := D) (ci := 7) (v := .int (zM_4.1 18)) (C := RX7) (T := TX7) (N := 38) hx hb hts hin_RX7 hown hK hP 0 rfl rfl 18 (by decide) hk_0 (fun _ h9 => h9) rfl dX7_takeOwn_46 ?_
      refine lv_iconst (v := 1) hx hb dX7_takeOwn_49 (by decide) ?_
      refine lv_aload_n hx hb dX7_takeOwn_50 rfl (lv_at hl 1 rfl) ?_
      refine va_get (D := D) (ci := 7) (v := .int (zM_4.1 14)) (C := RX7) (T := TX7) (N := 38) hx hb hts hin_RX7 hown hK hP 0 rfl rfl 14 (by decide) hk_2 (fun _ h9 => h9) rfl dX7_takeOwn_51 ?_
      refine lv_ishl hx hb dX7_takeOwn_54 ?_
      refine lv_ior hx hb dX7_takeOwn_55 ?_
      refine lv_topi (fun f18_9 ef18_9 => ?_)
      replace hF := nm_i hF ef18_9
      refine va_put (D := D) (ci := 7) (v := .int f18_9) (ty := .int) (C := RX7) (T := TX7) (N := 38) hx hb hts hin_RX7 tyX7 tyX7_ok nmX7 hown hK hP hD hS 0 rfl rfl 18 (by decide) hk_0 (fun _ h9 => h9) rfl (by decide +kernel) rfl rfl (Nat.le_of_ble_eq_true rfl) dX7_takeOwn_56 (fun H locs hP hD hS => ?_)
      obtain ⟨zM_10, ezM_10⟩ : ∃ y : MS, y = (upd zM_4.1 18 f18_9, zM_4.2) := ⟨_, rfl⟩
      replace hF := nm_i hF ezM_10
      have hP : va_P D vwCl (wcM ci aM zM_10) H := by rw [ezM_10]; exact hP
      have hD : va_D A (wcM ci aM zM_10) := by rw [ezM_10]; exact hD
      refine lv_iload_n hx hb dX7_takeOwn_59 rfl (lv_at hl 0 rfl) ?_
      obtain rfl := Option.some.inj hF
      exact W.iret (v := r_3) hx hb hr (fun t ht hW => ⟨⟨_, (), rfl, rfl, by rw [ht]; exact hP, va_K.moved hW.alike hK, hD⟩, hS.F ht⟩) hS.2.2 dX7_takeOwn_60
  · replace hF := if_i c_7 hF
    refine lv_aload_n hx hb dX7_takeOwn_16 rfl (lv_at hl 1 rfl) ?_
    refine va_get (D := D) (ci := 7) (v := .int (zM_4.1 18)) (C := RX7) (T := TX7) (N := 38) hx hb hts hin_RX7 hown hK hP 0 rfl rfl 18 (by decide) hk_0 (fun _ h9 => h9) rfl dX7_takeOwn_17 ?_
    refine lv_aload_n hx hb dX7_takeOwn_20 rfl (lv_at hl 1 rfl) ?_
    refine va_get (D := D) (ci := 7) (v := .int (zM_4.1 14)) (C := RX7) (T := TX7) (N := 38) hx hb hts hin_RX7 hown hK hP 0 rfl rfl 14 (by decide) hk_2 (fun _ h9 => h9) rfl dX7_takeOwn_21 ?_
    replace hF := bnd hF
    obtain ⟨r_11, hc_12, hF⟩ := hF
    refine cl_Sie (As := [.int (zM_4.1 18), .int (zM_4.1 14)]) (rest := []) ⟨hx, hb, hml, hown, hts⟩ (va_cwS 2 hts gX7_takeOwn_X7_has rfl rfl rfl (by decide +kernel) ⟨Nat.le_of_ble_eq_true rfl, Nat.le_of_ble_eq_true rfl⟩) (c_X7_has l D ci  H.size (zM_4.1 18) (zM_4.1 14) _ hc_12) hK hP hD hS hA rfl rfl hl.1 (Nat.le_of_ble_eq_true rfl) dX7_takeOwn_24 (Nat.zero_le _) (Nat.zero_le _) (fun H locs hP hD hS => ?_)
    have hP : va_P D vwCl (wcM ci aM zM_4) H := hP
    have hD : va_D A (wcM ci aM zM_4) := hD
    refine lv_if_eq (tgt := 40) hx hb dX7_takeOwn_27 (by decide) (fun c_13 => ?_) (fun c_13 => ?_)
    · replace hF := if_i c_13 hF
      refine lv_iload_n hx hb dX7_takeOwn_40 rfl (lv_at hl 0 rfl) ?_
      refine lv_if_ne (tgt := 59) hx hb dX7_takeOwn_41 (by decide) (fun c_14 => ?_) (fun c_14 => ?_)
      · replace hF := if_o c_14 hF
        refine lv_iload_n hx hb dX7_takeOwn_59 rfl (lv_at hl 0 rfl) ?_
        obtain rfl := Option.some.inj hF
        exact W.iret (v := r_3) hx hb hr (fun t ht hW => ⟨⟨_, (), rfl, rfl, by rw [ht]; exact hP, va_K.moved hW.alike hK, hD⟩, hS.F ht⟩) hS.2.2 dX7_takeOwn_60
      · replace hF := if_i c_14 hF
        refine lv_aload_n hx hb dX7_takeOwn_44 rfl (lv_at hl 1 rfl) ?_
        refine lv_dup hx hb dX7_takeOwn_45 rfl ?_
        refine va_get (D := D) (ci := 7) (v := .int (zM_4.1 18)) (C := RX7) (T := TX7) (N := 38) hx hb hts hin_RX7 hown hK hP 0 rfl rfl 18 (by decide) hk_0 (fun _ h9 => h9) rfl dX7_takeOwn_46 ?_
        refine lv_iconst (v := 1) hx hb dX7_takeOwn_49 (by decide) ?_
        refine lv_aload_n hx hb dX7_takeOwn_50 rfl (lv_at hl 1 rfl) ?_
        refine va_get (D := D) (ci := 7) (v := .int (zM_4.1 14)) (C := RX7) (T := TX7) (N := 38) hx hb hts hin_RX7 hown hK hP 0 rfl rfl 14 (by decide) hk_2 (fun _ h9 => h9) rfl dX7_takeOwn_51 ?_
        refine lv_ishl hx hb dX7_takeOwn_54 ?_
        refine lv_ior hx hb dX7_takeOwn_55 ?_
        refine lv_topi (fun f18_15 ef18_15 => ?_)
        replace hF := nm_i hF ef18_15
        refine va_put (D := D) (ci := 7) (v := .int f18_15) (ty := .int) (C := RX7) (T := TX7) (N := 38) hx hb hts hin_RX7 tyX7 tyX7_ok nmX7 hown hK hP hD hS 0 rfl rfl 18 (by decide) hk_0 (fun _ h9 => h9) rfl (by decide +kernel) rfl rfl (Nat.le_of_ble_eq_true rfl) dX7_takeOwn_56 (fun H locs hP hD hS => ?_)
        obtain ⟨zM_16, ezM_16⟩ : ∃ y : MS, y = (upd zM_4.1 18 f18_15, zM_4.2) := ⟨_, rfl⟩
        replace hF := nm_i hF ezM_16
        have hP : va_P D vwCl (wcM ci aM zM_16) H := by rw [ezM_16]; exact hP
        have hD : va_D A (wcM ci aM zM_16) := by rw [ezM_16]; exact hD
        refine lv_iload_n hx hb dX7_takeOwn_59 rfl (lv_at hl 0 rfl) ?_
        obtain rfl := Option.some.inj hF
        exact W.iret (v := r_3) hx hb hr (fun t ht hW => ⟨⟨_, (), rfl, rfl, by rw [ht]; exact hP, va_K.moved hW.alike hK, hD⟩, hS.F ht⟩) hS.2.2 dX7_takeOwn_60
    · replace hF := if_o c_13 hF
      refine lv_aload_n hx hb dX7_takeOwn_30 rfl (lv_at hl 1 rfl) ?_
      refine lv_iconst (v := 4) hx hb dX7_takeOwn_31 (by decide) ?_
      refine lv_aload_n hx hb dX7_takeOwn_32 rfl (lv_at hl 1 rfl) ?_
      refine va_get (D := D) (ci := 7) (v := .int (zM_4.1 15)) (C := RX7) (T := TX7) (N := 38) hx hb hts hin_RX7 hown hK hP 0 rfl rfl 15 (by decide) hk_3 (fun _ h9 => h9) rfl dX7_takeOwn_33 ?_
      replace hF := bnd hF
      obtain ⟨q_20, hc_19, hF⟩ := hF
      obtain ⟨r_17, er_17⟩ : ∃ y : Int32, y = q_20.1 := ⟨_, rfl⟩
      replace hF := nm_i hF er_17
      obtain ⟨zM_18, ezM_18⟩ : ∃ y : MS, y = q_20.2 := ⟨_, rfl⟩
      replace hF := nm_i hF ezM_18
      obtain rfl : q_20 = (r_17, zM_18) := by rw [er_17, ezM_18]
      clear er_17
      clear ezM_18
      refine cl_Vi0 (As := [.int 4, .int (zM_4.1 15)]) (rest := []) ⟨hx, hb, hml, hown, hts⟩ (cwV 2 hts gX7_takeOwn_X7_fails rfl rfl rfl (by decide +kernel) ⟨Nat.le_of_ble_eq_true rfl, Nat.le_of_ble_eq_true rfl⟩) (c_X7_fails l D ci aM H.size zM_4 (4 : Int32) (zM_4.1 15) _ hc_19) hK hP hD hS hA 0 rfl rfl rfl rfl hl.1 (Nat.le_of_ble_eq_true rfl) dX7_takeOwn_36 (Nat.zero_le _) (Nat.zero_le _) (fun H locs hP hD hS => ?_)
      have hP : va_P D vwCl (wcM ci aM zM_18) H := hP
      have hD : va_D A (wcM ci aM zM_18) := hD
      obtain rfl := Option.some.inj hF
      exact W.iret (v := r_17) hx hb hr (fun t ht hW => ⟨⟨_, (), rfl, rfl, by rw [ht]; exact hP, va_K.moved hW.alike hK, hD⟩, hS.F ht⟩) hS.2.2 dX7_takeOwn_39
noncomputable def f_X7_takeEdge (zM : MS) : Option (Int32 × MS) := (f_X7_readEdges zM).bind fun r_1 => (f_X7_takeNumber zM (0 : Int32) (r_1 - 1)).bind fun q_6 => nm q_6.1 fun r_3 => nm q_6.2 fun zM_4 => if r_3 = 0 then (ald 40 (zM_4.2 19) (zM_4.1 14) fun x_9 => if x_9 = 0 then (ald 40 (zM_4.2 20) (zM_4.1 14) fun x_16 => if x_16 < 0 then (some (r_3, zM_4)) else ((f_X7_fails zM_4 (4 : Int32) (zM_4.1 15)).bind fun q_21 => nm q_21.1 fun r_18 => nm q_21.2 fun zM_19 => some (r_18, zM_19))) else ((f_X7_fails zM_4 (4 : Int32) (zM_4.1 15)).bind fun q_14 => nm q_14.1 fun r_11 => nm q_14.2 fun zM_12 => some (r_11, zM_12))) else (some (r_3, zM_4))
set_option maxHeartbeats 4000000 in
set_option maxRecDepth 100000 in
theorem c_X7_takeEdge (l : Launch) (D : va_G) (ci : Nat → ClassId) (aM : Nat → Nat) (sz : Nat) (zM : MS) (res : Int32 × MS) (hF : f_X7_takeEdge zM = some res) : CtI l yX7_takeEdge wsX7_takeEdge { frames := 2, cells := 0, slots := 0, locals := 48 } [.ref (aM 0)] D ci (wcM ci aM zM) sz res.1 (wcM ci aM res.2) := by
  refine Met.ofW (cc := cX7_takeEdge) (maxL := 2) (ret := (some .int)) (by decide) rfl ?_
  intro p e s m args below meth c s₁ B hml hv
  obtain ⟨rfl, hsz, hP, hK, hD0⟩ := hv
  have hx := B.exec
  have hb := B.bytes
  have hr := B.returns
  have hts := atoms_spec (ws := wsX7_takeEdge) B.pre
  have hown : s.vm.findClass RX7 = some m.cls := findClass_of_methodNamed B.named
  have hlocks := B.notSynchronized
  subst hsz
  have hD := hD0.self (sz := s.heap.size)
  generalize hAe : va_A (wcM ci aM zM) s.heap.size = A at hD ⊢
  have hA : ∀ q : Nat, s.heap.size ≤ q → A q := fun q h => by rw [← hAe]; exact Or.inr h
  clear hD0 hAe
  have hl := lv_entry ([.ref (aM 0)]) (n := 2) (Nat.le_of_ble_eq_true rfl)
  rw [lg_entry_eq]
  generalize (lg_sl ([.ref (aM 0)]) ++ List.replicate (2 - (lg_sl ([.ref (aM 0)])).length) Slot.unset).toArray = ls at hl ⊢
  have hl : lv_has ls 2 [(0, .ref (aM 0))] := hl
  have hP : va_P D vwCl (wcM ci aM zM) s.heap := hP
  generalize hH0 : s.heap = H at hP ⊢
  have hS : va_S A s.heap H [] := by rw [← hH0]; exact va_S.rf
  clear hH0
  generalize ([] : List Loc) = locs at hS ⊢
  have hk_0 := hts (.fieldLink RX7 39 "HedgeWarModel" "readPath" "[Z") (by decide +kernel)
  have hin_RX7 : ∀ w ∈ wsX70, w ∈ wsX7_takeEdge := by decide +kernel
  have hk_2 := hts (.fieldLink RX7 119 "HedgeWarModel" "number" "I") (by decide +kernel)
  have hk_3 := hts (.fieldLink RX7 116 "HedgeWarModel" "numberAt" "I") (by decide +kernel)
  have hk_4 := hts (.fieldLink RX7 42 "HedgeWarModel" "readHedge" "[I") (by decide +kernel)
  unfold f_X7_takeEdge at hF
  refine lv_aload_n hx hb dX7_takeEdge_0 rfl (lv_at hl 0 rfl) ?_
  refine lv_iconst (v := 0) hx hb dX7_takeEdge_1 (by decide) ?_
  refine lv_aload_n hx hb dX7_takeEdge_2 rfl (lv_at hl 0 rfl) ?_
  replace hF := bnd hF
  obtain ⟨r_1, hc_2, hF⟩ := hF
  refine cl_Vi0 (As := []) (rest := [.int 0, .ref (aM 0)]) ⟨hx, hb, hml, hown, hts⟩ (cwV 0 hts gX7_takeEdge_X7_readEdges rfl rfl rfl (by decide +kernel) ⟨Nat.le_of_ble_eq_true rfl, Nat.le_of_ble_eq_true rfl⟩) (c_X7_readEdges l D ci aM H.size zM _ hc_2) hK hP hD hS hA 0 rfl rfl rfl rfl hl.1 (Nat.le_of_ble_eq_true rfl) dX7_takeEdge_3 (Nat.zero_le _) (Nat.zero_le _) (fun H locs hP hD hS => ?_)
  have hP : va_P D vwCl (wcM ci aM zM) H := hP
  have hD : va_D A (wcM ci aM zM) := hD
  refine lv_iconst (v := 1) hx hb dX7_takeEdge_6 (by decide) ?_
  refine lv_isub hx hb dX7_takeEdge_7 ?_
  replace hF := bnd hF
  obtain ⟨q_6, hc_5, hF⟩ := hF
  obtain ⟨r_3, er_3⟩ : ∃ y : Int32, y = q_6.1 := ⟨_, rfl⟩
  replace hF := nm_i hF er_3
  obtain ⟨zM_4, ezM_4⟩ : ∃ y : MS, y = q_6.2 := ⟨_, rfl⟩
  replace hF := nm_i hF ezM_4
  obtain rfl : q_6 = (r_3, zM_4) := by rw [er_3, ezM_4]
  clear er_3
  clear ezM_4
  refine cl_Vi0 (As := [.int 0, .int (r_1 - 1)]) (rest := []) ⟨hx, hb, hml, hown, hts⟩ (cwV 2 hts gX7_takeEdge_X7_takeNumber rfl rfl rfl (by decide +kernel) ⟨Nat.le_of_ble_eq_true rfl, Nat.le_of_ble_eq_true rfl⟩) (c_X7_takeNumber l D ci aM H.size zM (0 : Int32) (r_1 - 1) _ hc_5) hK hP hD hS hA 0 rfl rfl rfl rfl hl.1 (Nat.le_of_ble_eq_true rfl) dX7_takeEdge_8 (Nat.zero_le _) (Nat.zero_le _) (fun H locs hP hD hS => ?_)
  have hP : va_P D vwCl (wcM ci aM zM_4) H := hP
  have hD : va_D A (wcM ci aM zM_4) := hD
  refine lv_istore_n (lv' := [(1, .int r_3), (0, .ref (aM 0))]) hx hb dX7_takeEdge_11 rfl hl (by decide) rfl (fun ls hl => ?_)
  refine lv_iload_n hx hb dX7_takeEdge_12 rfl (lv_at hl 0 rfl) ?_
  refine lv_if_ne (tgt := 50) hx hb dX7_takeEdge_13 (by decide) (fun c_7 => ?_) (fun c_7 => ?_)
  · replace hF := if_o c_7 hF
    refine lv_iload_n hx hb dX7_takeEdge_50 rfl (lv_at hl 0 rfl) ?_
    obtain rfl := Option.some.inj hF
    exact W.iret (v := r_3) hx hb hr (fun t ht hW => ⟨⟨_, (), rfl, rfl, by rw [ht]; exact hP, va_K.moved hW.alike hK, hD⟩, hS.F ht⟩) hS.2.2 dX7_takeEdge_51
  · replace hF := if_i c_7 hF
    refine lv_aload_n hx hb dX7_takeEdge_16 rfl (lv_at hl 1 rfl) ?_
    refine va_get (D := D) (ci := 7) (v := .ref (aM 19)) (C := RX7) (T := TX7) (N := 38) hx hb hts hin_RX7 hown hK hP 0 rfl rfl 19 (by decide) hk_0 (fun _ h9 => h9) rfl dX7_takeEdge_17 ?_
    refine lv_aload_n hx hb dX7_takeEdge_20 rfl (lv_at hl 1 rfl) ?_
    refine va_get (D := D) (ci := 7) (v := .int (zM_4.1 14)) (C := RX7) (T := TX7) (N := 38) hx hb hts hin_RX7 hown hK hP 0 rfl rfl 14 (by decide) hk_2 (fun _ h9 => h9) rfl dX7_takeEdge_21 ?_
    replace hF := ald_i hF
    obtain ⟨hin_8, hF⟩ := hF
    refine va_zald hx hb hK hP 9 2 rfl rfl hin_8 dX7_takeEdge_24 ?_
    refine lv_topi (fun x_9 ex_9 => ?_)
    replace hF := nm_i hF ex_9
    refine lv_if_ne (tgt := 40) hx hb dX7_takeEdge_25 (by decide) (fun c_10 => ?_) (fun c_10 => ?_)
    · replace hF := if_o c_10 hF
      refine lv_aload_n hx hb dX7_takeEdge_40 rfl (lv_at hl 1 rfl) ?_
      refine lv_iconst (v := 4) hx hb dX7_takeEdge_41 (by decide) ?_
      refine lv_aload_n hx hb dX7_takeEdge_42 rfl (lv_at hl 1 rfl) ?_
      refine va_get (D := D) (ci := 7) (v := .int (zM_4.1 15)) (C := RX7) (T := TX7) (N := 38) hx hb hts hin_RX7 hown hK hP 0 rfl rfl 15 (by decide) hk_3 (fun _ h9 => h9) rfl dX7_takeEdge_43 ?_
      replace hF := bnd hF
      obtain ⟨q_14, hc_13, hF⟩ := hF
      obtain ⟨r_11, er_11⟩ : ∃ y : Int32, y = q_14.1 := ⟨_, rfl⟩
      replace hF := nm_i hF er_11
      obtain ⟨zM_12, ezM_12⟩ : ∃ y : MS, y = q_14.2 := ⟨_, rfl⟩
      replace hF := nm_i hF ezM_12
      obtain rfl : q_14 = (r_11, zM_12) := by rw [er_11, ezM_12]
      clear er_11
      clear ezM_12
      refine cl_Vi0 (As := [.int 4, .int (zM_4.1 15)]) (rest := []) ⟨hx, hb, hml, hown, hts⟩ (cwV 2 hts gX7_takeEdge_X7_fails rfl rfl rfl (by decide +kernel) ⟨Nat.le_of_ble_eq_true rfl, Nat.le_of_ble_eq_true rfl⟩) (c_X7_fails l D ci aM H.size zM_4 (4 : Int32) (zM_4.1 15) _ hc_13) hK hP hD hS hA 0 rfl rfl rfl rfl hl.1 (Nat.le_of_ble_eq_true rfl) dX7_takeEdge_46 (Nat.zero_le _) (Nat.zero_le _) (fun H locs hP hD hS => ?_)
      have hP : va_P D vwCl (wcM ci aM zM_12) H := hP
      have hD : va_D A (wcM ci aM zM_12) := hD
      obtain rfl := Option.some.inj hF
      exact W.iret (v := r_11) hx hb hr (fun t ht hW => ⟨⟨_, (), rfl, rfl, by rw [ht]; exact hP, va_K.moved hW.alike hK, hD⟩, hS.F ht⟩) hS.2.2 dX7_takeEdge_49
    · replace hF := if_i c_10 hF
      refine lv_aload_n hx hb dX7_takeEdge_28 rfl (lv_at hl 1 rfl) ?_
      refine va_get (D := D) (ci := 7) (v := .ref (aM 20)) (C := RX7) (T := TX7) (N := 38) hx hb hts hin_RX7 hown hK hP 0 rfl rfl 20 (by decide) hk_4 (fun _ h9 => h9) rfl dX7_takeEdge_29 ?_
      refine lv_aload_n hx hb dX7_takeEdge_32 rfl (lv_at hl 1 rfl) ?_
      refine va_get (D := D) (ci := 7) (v := .int (zM_4.1 14)) (C := RX7) (T := TX7) (N := 38) hx hb hts hin_RX7 hown hK hP 0 rfl rfl 14 (by decide) hk_2 (fun _ h9 => h9) rfl dX7_takeEdge_33 ?_
      replace hF := ald_i hF
      obtain ⟨hin_15, hF⟩ := hF
      refine va_iald hx hb hK hP 10 0 rfl rfl hin_15 dX7_takeEdge_36 ?_
      refine lv_topi (fun x_16 ex_16 => ?_)
      replace hF := nm_i hF ex_16
      refine lv_if_lt (tgt := 50) hx hb dX7_takeEdge_37 (by decide) (fun c_17 => ?_) (fun c_17 => ?_)
      · replace hF := if_i c_17 hF
        refine lv_iload_n hx hb dX7_takeEdge_50 rfl (lv_at hl 0 rfl) ?_
        obtain rfl := Option.some.inj hF
        exact W.iret (v := r_3) hx hb hr (fun t ht hW => ⟨⟨_, (), rfl, rfl, by rw [ht]; exact hP, va_K.moved hW.alike hK, hD⟩, hS.F ht⟩) hS.2.2 dX7_takeEdge_51
      · replace hF := if_o c_17 hF
        refine lv_aload_n hx hb dX7_takeEdge_40 rfl (lv_at hl 1 rfl) ?_
        refine lv_iconst (v := 4) hx hb dX7_takeEdge_41 (by decide) ?_
        refine lv_aload_n hx hb dX7_takeEdge_42 rfl (lv_at hl 1 rfl) ?_
        refine va_get (D := D) (ci := 7) (v := .int (zM_4.1 15)) (C := RX7) (T := TX7) (N := 38) hx hb hts hin_RX7 hown hK hP 0 rfl rfl 15 (by decide) hk_3 (fun _ h9 => h9) rfl dX7_takeEdge_43 ?_
        replace hF := bnd hF
        obtain ⟨q_21, hc_20, hF⟩ := hF
        obtain ⟨r_18, er_18⟩ : ∃ y : Int32, y = q_21.1 := ⟨_, rfl⟩
        replace hF := nm_i hF er_18
        obtain ⟨zM_19, ezM_19⟩ : ∃ y : MS, y = q_21.2 := ⟨_, rfl⟩
        replace hF := nm_i hF ezM_19
        obtain rfl : q_21 = (r_18, zM_19) := by rw [er_18, ezM_19]
        clear er_18
        clear ezM_19
        refine cl_Vi0 (As := [.int 4, .int (zM_4.1 15)]) (rest := []) ⟨hx, hb, hml, hown, hts⟩ (cwV 2 hts gX7_takeEdge_X7_fails rfl rfl rfl (by decide +kernel) ⟨Nat.le_of_ble_eq_true rfl, Nat.le_of_ble_eq_true rfl⟩) (c_X7_fails l D ci aM H.size zM_4 (4 : Int32) (zM_4.1 15) _ hc_20) hK hP hD hS hA 0 rfl rfl rfl rfl hl.1 (Nat.le_of_ble_eq_true rfl) dX7_takeEdge_46 (Nat.zero_le _) (Nat.zero_le _) (fun H locs hP hD hS => ?_)
        have hP : va_P D vwCl (wcM ci aM zM_19) H := hP
        have hD : va_D A (wcM ci aM zM_19) := hD
        obtain rfl := Option.some.inj hF
        exact W.iret (v := r_18) hx hb hr (fun t ht hW => ⟨⟨_, (), rfl, rfl, by rw [ht]; exact hP, va_K.moved hW.alike hK, hD⟩, hS.F ht⟩) hS.2.2 dX7_takeEdge_49
noncomputable def f_X7_takePath (zM : MS) : Option (Int32 × MS) := (f_X7_takeEdge zM).bind fun q_4 => nm q_4.1 fun r_1 => nm q_4.2 fun zM_2 => if r_1 = 0 then (ast 40 (zM_2.1 14) <| nm ((zM_2.1, va_up zM_2.2 19 (upd (zM_2.2 19) (Int32.toNatClampNeg (zM_2.1 14)) (vp_nar .boolean 1))) : MS) fun zM_7 => some (r_1, zM_7)) else (some (r_1, zM_2))
set_option maxHeartbeats 4000000 in
set_option maxRecDepth 100000 in
theorem c_X7_takePath (l : Launch) (D : va_G) (ci : Nat → ClassId) (aM : Nat → Nat) (sz : Nat) (zM : MS) (res : Int32 × MS) (hF : f_X7_takePath zM = some res) : CtI l yX7_takePath wsX7_takePath { frames := 3, cells := 0, slots := 0, locals := 69 } [.ref (aM 0)] D ci (wcM ci aM zM) sz res.1 (wcM ci aM res.2) := by
  refine Met.ofW (cc := cX7_takePath) (maxL := 2) (ret := (some .int)) (by decide) rfl ?_
  intro p e s m args below meth c s₁ B hml hv
  obtain ⟨rfl, hsz, hP, hK, hD0⟩ := hv
  have hx := B.exec
  have hb := B.bytes
  have hr := B.returns
  have hts := atoms_spec (ws := wsX7_takePath) B.pre
  have hown : s.vm.findClass RX7 = some m.cls := findClass_of_methodNamed B.named
  have hlocks := B.notSynchronized
  subst hsz
  have hD := hD0.self (sz := s.heap.size)
  generalize hAe : va_A (wcM ci aM zM) s.heap.size = A at hD ⊢
  have hA : ∀ q : Nat, s.heap.size ≤ q → A q := fun q h => by rw [← hAe]; exact Or.inr h
  clear hD0 hAe
  have hl := lv_entry ([.ref (aM 0)]) (n := 2) (Nat.le_of_ble_eq_true rfl)
  rw [lg_entry_eq]
  generalize (lg_sl ([.ref (aM 0)]) ++ List.replicate (2 - (lg_sl ([.ref (aM 0)])).length) Slot.unset).toArray = ls at hl ⊢
  have hl : lv_has ls 2 [(0, .ref (aM 0))] := hl
  have hP : va_P D vwCl (wcM ci aM zM) s.heap := hP
  generalize hH0 : s.heap = H at hP ⊢
  have hS : va_S A s.heap H [] := by rw [← hH0]; exact va_S.rf
  clear hH0
  generalize ([] : List Loc) = locs at hS ⊢
  have hk_0 := hts (.fieldLink RX7 39 "HedgeWarModel" "readPath" "[Z") (by decide +kernel)
  have hin_RX7 : ∀ w ∈ wsX70, w ∈ wsX7_takePath := by decide +kernel
  have hk_2 := hts (.fieldLink RX7 119 "HedgeWarModel" "number" "I") (by decide +kernel)
  unfold f_X7_takePath at hF
  refine lv_aload_n hx hb dX7_takePath_0 rfl (lv_at hl 0 rfl) ?_
  replace hF := bnd hF
  obtain ⟨q_4, hc_3, hF⟩ := hF
  obtain ⟨r_1, er_1⟩ : ∃ y : Int32, y = q_4.1 := ⟨_, rfl⟩
  replace hF := nm_i hF er_1
  obtain ⟨zM_2, ezM_2⟩ : ∃ y : MS, y = q_4.2 := ⟨_, rfl⟩
  replace hF := nm_i hF ezM_2
  obtain rfl : q_4 = (r_1, zM_2) := by rw [er_1, ezM_2]
  clear er_1
  clear ezM_2
  refine cl_Vi0 (As := []) (rest := []) ⟨hx, hb, hml, hown, hts⟩ (cwV 0 hts gX7_takePath_X7_takeEdge rfl rfl rfl (by decide +kernel) ⟨Nat.le_of_ble_eq_true rfl, Nat.le_of_ble_eq_true rfl⟩) (c_X7_takeEdge l D ci aM H.size zM _ hc_3) hK hP hD hS hA 0 rfl rfl rfl rfl hl.1 (Nat.le_of_ble_eq_true rfl) dX7_takePath_1 (Nat.zero_le _) (Nat.zero_le _) (fun H locs hP hD hS => ?_)
  have hP : va_P D vwCl (wcM ci aM zM_2) H := hP
  have hD : va_D A (wcM ci aM zM_2) := hD
  refine lv_istore_n (lv' := [(1, .int r_1), (0, .ref (aM 0))]) hx hb dX7_takePath_4 rfl hl (by decide) rfl (fun ls hl => ?_)
  refine lv_iload_n hx hb dX7_takePath_5 rfl (lv_at hl 0 rfl) ?_
  refine lv_if_ne (tgt := 19) hx hb dX7_takePath_6 (by decide) (fun c_5 => ?_) (fun c_5 => ?_)
  · replace hF := if_o c_5 hF
    refine lv_iload_n hx hb dX7_takePath_19 rfl (lv_at hl 0 rfl) ?_
    obtain rfl := Option.some.inj hF
    exact W.iret (v := r_1) hx hb hr (fun t ht hW => ⟨⟨_, (), rfl, rfl, by rw [ht]; exact hP, va_K.moved hW.alike hK, hD⟩, hS.F ht⟩) hS.2.2 dX7_takePath_20
  · replace hF := if_i c_5 hF
    refine lv_aload_n hx hb dX7_takePath_9 rfl (lv_at hl 1 rfl) ?_
    refine va_get (D := D) (ci := 7) (v := .ref (aM 19)) (C := RX7) (T := TX7) (N := 38) hx hb hts hin_RX7 hown hK hP 0 rfl rfl 19 (by decide) hk_0 (fun _ h9 => h9) rfl dX7_takePath_10 ?_
    refine lv_aload_n hx hb dX7_takePath_13 rfl (lv_at hl 1 rfl) ?_
    refine va_get (D := D) (ci := 7) (v := .int (zM_2.1 14)) (C := RX7) (T := TX7) (N := 38) hx hb hts hin_RX7 hown hK hP 0 rfl rfl 14 (by decide) hk_2 (fun _ h9 => h9) rfl dX7_takePath_14 ?_
    refine lv_iconst (v := 1) hx hb dX7_takePath_17 (by decide) ?_
    replace hF := ast_i hF
    obtain ⟨hin_6, hF⟩ := hF
    refine va_zast (x := 1) hx hb hK hP hD hS 9 2 rfl rfl hin_6 dX7_takePath_18 (fun H locs hP hD hS => ?_)
    obtain ⟨zM_7, ezM_7⟩ : ∃ y : MS, y = (zM_2.1, va_up zM_2.2 19 (upd (zM_2.2 19) (Int32.toNatClampNeg (zM_2.1 14)) (vp_nar .boolean 1))) := ⟨_, rfl⟩
    replace hF := nm_i hF ezM_7
    have hP : va_P D vwCl (wcM ci aM zM_7) H := by rw [ezM_7]; exact hP
    have hD : va_D A (wcM ci aM zM_7) := by rw [ezM_7]; exact hD
    refine lv_iload_n hx hb dX7_takePath_19 rfl (lv_at hl 0 rfl) ?_
    obtain rfl := Option.some.inj hF
    exact W.iret (v := r_1) hx hb hr (fun t ht hW => ⟨⟨_, (), rfl, rfl, by rw [ht]; exact hP, va_K.moved hW.alike hK, hD⟩, hS.F ht⟩) hS.2.2 dX7_takePath_20
noncomputable def f_X7_takeHedge (zM : MS) : Option (Int32 × MS) := (f_X7_takeEdge zM).bind fun q_4 => nm q_4.1 fun r_1 => nm q_4.2 fun zM_2 => nm (zM_2.1 14) fun v2_5 => (if r_1 ≤ 0 then ((f_X7_takeNumber zM_2 (0 : Int32) (1 : Int32)).bind fun q_13 => nm q_13.1 fun r_10 => nm q_13.2 fun zM_11 => some ((r_10 : Int32), (zM_11 : MS))) else (some ((r_1 : Int32), (zM_2 : MS))) : Option (Int32 × MS)).bind fun q_40 => nm q_40.1 fun t_6 => nm q_40.2 fun zM_7 => nm (zM_7.1 14) fun v3_19 => (if t_6 ≤ 0 then ((f_X7_takeNumber zM_7 (1 : Int32) (99 : Int32)).bind fun q_27 => nm q_27.1 fun r_24 => nm q_27.2 fun zM_25 => some ((r_24 : Int32), (zM_25 : MS))) else (some ((t_6 : Int32), (zM_7 : MS))) : Option (Int32 × MS)).bind fun q_39 => nm q_39.1 fun t_20 => nm q_39.2 fun zM_21 => if t_20 = 0 then (ast 40 v2_5 <| nm ((zM_21.1, va_up zM_21.2 20 (upd (zM_21.2 20) (Int32.toNatClampNeg v2_5) v3_19)) : MS) fun zM_35 => nm (zM_35.1 14) fun y_37 => ast 40 v2_5 <| nm ((zM_35.1, va_up zM_35.2 21 (upd (zM_35.2 21) (Int32.toNatClampNeg v2_5) y_37)) : MS) fun zM_38 => some (t_20, zM_38)) else (some (t_20, zM_21))
set_option maxHeartbeats 4000000 in
set_option maxRecDepth 100000 in
theorem c_X7_takeHedge (l : Launch) (D : va_G) (ci : Nat → ClassId) (aM : Nat → Nat) (sz : Nat) (zM : MS) (res : Int32 × MS) (hF : f_X7_takeHedge zM = some res) : CtI l yX7_takeHedge wsX7_takeHedge { frames := 3, cells := 0, slots := 0, locals := 69 } [.ref (aM 0)] D ci (wcM ci aM zM) sz res.1 (wcM ci aM res.2) := by
  refine Met.ofW (cc := cX7_takeHedge) (maxL := 4) (ret := (some .int)) (by decide) rfl ?_
  intro p e s m args below meth c s₁ B hml hv
  obtain ⟨rfl, hsz, hP, hK, hD0⟩ := hv
  have hx := B.exec
  have hb := B.bytes
  have hr := B.returns
  have hts := atoms_spec (ws := wsX7_takeHedge) B.pre
  have hown : s.vm.findClass RX7 = some m.cls := findClass_of_methodNamed B.named
  have hlocks := B.notSynchronized
  subst hsz
  have hD := hD0.self (sz := s.heap.size)
  generalize hAe : va_A (wcM ci aM zM) s.heap.size = A at hD ⊢
  have hA : ∀ q : Nat, s.heap.size ≤ q → A q := fun q h => by rw [← hAe]; exact Or.inr h
  clear hD0 hAe
  have hl := lv_entry ([.ref (aM 0)]) (n := 4) (Nat.le_of_ble_eq_true rfl)
  rw [lg_entry_eq]
  generalize (lg_sl ([.ref (aM 0)]) ++ List.replicate (4 - (lg_sl ([.ref (aM 0)])).length) Slot.unset).toArray = ls at hl ⊢
  have hl : lv_has ls 4 [(0, .ref (aM 0))] := hl
  have hP : va_P D vwCl (wcM ci aM zM) s.heap := hP
  generalize hH0 : s.heap = H at hP ⊢
  have hS : va_S A s.heap H [] := by rw [← hH0]; exact va_S.rf
  clear hH0
  generalize ([] : List Loc) = locs at hS ⊢
  have hk_0 := hts (.fieldLink RX7 119 "HedgeWarModel" "number" "I") (by decide +kernel)
  have hin_RX7 : ∀ w ∈ wsX70, w ∈ wsX7_takeHedge := by decide +kernel
  have hk_2 := hts (.fieldLink RX7 42 "HedgeWarModel" "readHedge" "[I") (by decide +kernel)
  have hk_3 := hts (.fieldLink RX7 45 "HedgeWarModel" "readAge" "[I") (by decide +kernel)
  unfold f_X7_takeHedge at hF
  refine lv_aload_n hx hb dX7_takeHedge_0 rfl (lv_at hl 0 rfl) ?_
  replace hF := bnd hF
  obtain ⟨q_4, hc_3, hF⟩ := hF
  obtain ⟨r_1, er_1⟩ : ∃ y : Int32, y = q_4.1 := ⟨_, rfl⟩
  replace hF := nm_i hF er_1
  obtain ⟨zM_2, ezM_2⟩ : ∃ y : MS, y = q_4.2 := ⟨_, rfl⟩
  replace hF := nm_i hF ezM_2
  obtain rfl : q_4 = (r_1, zM_2) := by rw [er_1, ezM_2]
  clear er_1
  clear ezM_2
  refine cl_Vi0 (As := []) (rest := []) ⟨hx, hb, hml, hown, hts⟩ (cwV 0 hts gX7_takeHedge_X7_takeEdge rfl rfl rfl (by decide +kernel) ⟨Nat.le_of_ble_eq_true rfl, Nat.le_of_ble_eq_true rfl⟩) (c_X7_takeEdge l D ci aM H.size zM _ hc_3) hK hP hD hS hA 0 rfl rfl rfl rfl hl.1 (Nat.le_of_ble_eq_true rfl) dX7_takeHedge_1 (Nat.zero_le _) (Nat.zero_le _) (fun H locs hP hD hS => ?_)
  have hP : va_P D vwCl (wcM ci aM zM_2) H := hP
  have hD : va_D A (wcM ci aM zM_2) := hD
  refine lv_istore_n (lv' := [(1, .int r_1), (0, .ref (aM 0))]) hx hb dX7_takeHedge_4 rfl hl (by decide) rfl (fun ls hl => ?_)
  refine lv_aload_n hx hb dX7_takeHedge_5 rfl (lv_at hl 1 rfl) ?_
  refine va_get (D := D) (ci := 7) (v := .int (zM_2.1 14)) (C := RX7) (T := TX7) (N := 38) hx hb hts hin_RX7 hown hK hP 0 rfl rfl 14 (by decide) hk_0 (fun _ h9 => h9) rfl dX7_takeHedge_6 ?_
  refine lv_topi (fun v2_5 ev2_5 => ?_)
  replace hF := nm_i hF ev2_5
  refine lv_istore_n (lv' := [(2, .int v2_5), (1, .int r_1), (0, .ref (aM 0))]) hx hb dX7_takeHedge_9 rfl hl (by decide) rfl (fun ls hl => ?_)
  refine lv_iload_n hx hb dX7_takeHedge_10 rfl (lv_at hl 1 rfl) ?_
  replace hF := bnd hF
  obtain ⟨q_40, hv_18, hF⟩ := hF
  obtain ⟨t_6, et_6⟩ : ∃ y : Int32, y = q_40.1 := ⟨_, rfl⟩
  replace hF := nm_i hF et_6
  obtain ⟨zM_7, ezM_7⟩ : ∃ y : MS, y = q_40.2 := ⟨_, rfl⟩
  replace hF := nm_i hF ezM_7
  obtain rfl : q_40 = (t_6, zM_7) := by rw [et_6, ezM_7]
  clear et_6
  clear ezM_7
  refine jn (P := fun H locs ls => va_P D vwCl (wcM ci aM zM_7) H ∧ va_D A (wcM ci aM zM_7) ∧ va_S A s.heap H locs ∧ lv_has ls 4 [(0, .ref (aM 0)), (1, .int r_1), (2, .int v2_5)]) (pcJ := 24) (st := [.int t_6]) ?_ ?_
  · intro H locs ls hJ
    obtain ⟨hP, hD, hS, hl⟩ := hJ
    refine lv_istore_n (lv' := [(1, .int t_6), (0, .ref (aM 0)), (2, .int v2_5)]) hx hb dX7_takeHedge_24 rfl hl (by decide) rfl (fun ls hl => ?_)
    refine lv_aload_n hx hb dX7_takeHedge_25 rfl (lv_at hl 1 rfl) ?_
    refine va_get (D := D) (ci := 7) (v := .int (zM_7.1 14)) (C := RX7) (T := TX7) (N := 38) hx hb hts hin_RX7 hown hK hP 0 rfl rfl 14 (by decide) hk_0 (fun _ h9 => h9) rfl dX7_takeHedge_26 ?_
    refine lv_topi (fun v3_19 ev3_19 => ?_)
    replace hF := nm_i hF ev3_19
    refine lv_istore_n (lv' := [(3, .int v3_19), (1, .int t_6), (0, .ref (aM 0)), (2, .int v2_5)]) hx hb dX7_takeHedge_29 rfl hl (by decide) rfl (fun ls hl => ?_)
    refine lv_iload_n hx hb dX7_takeHedge_30 rfl (lv_at hl 1 rfl) ?_
    replace hF := bnd hF
    obtain ⟨q_39, hv_32, hF⟩ := hF
    obtain ⟨t_20, et_20⟩ : ∃ y : Int32, y = q_39.1 := ⟨_, rfl⟩
    replace hF := nm_i hF et_20
    obtain ⟨zM_21, ezM_21⟩ : ∃ y : MS, y = q_39.2 := ⟨_, rfl⟩
    replace hF := nm_i hF ezM_21
    obtain rfl : q_39 = (t_20, zM_21) := by rw [et_20, ezM_21]
    clear et_20
    clear ezM_21
    refine jn (P := fun H locs ls => va_P D vwCl (wcM ci aM zM_21) H ∧ va_D A (wcM ci aM zM_21) ∧ va_S A s.heap H locs ∧ lv_has ls 4 [(0, .ref (aM 0)), (1, .int t_6), (2, .int v2_5), (3, .int v3_19)]) (pcJ := 45) (st := [.int t_20]) ?_ ?_
    · intro H locs ls hJ
      obtain ⟨hP, hD, hS, hl⟩ := hJ
      refine lv_istore_n (lv' := [(1, .int t_20), (0, .ref (aM 0)), (2, .int v2_5), (3, .int v3_19)]) hx hb dX7_takeHedge_45 rfl hl (by decide) rfl (fun ls hl => ?_)
      refine lv_iload_n hx hb dX7_takeHedge_46 rfl (lv_at hl 0 rfl) ?_
      refine lv_if_ne (tgt := 67) hx hb dX7_takeHedge_47 (by decide) (fun c_33 => ?_) (fun c_33 => ?_)
      · replace hF := if_o c_33 hF
        refine lv_iload_n hx hb dX7_takeHedge_67 rfl (lv_at hl 0 rfl) ?_
        obtain rfl := Option.some.inj hF
        exact W.iret (v := t_20) hx hb hr (fun t ht hW => ⟨⟨_, (), rfl, rfl, by rw [ht]; exact hP, va_K.moved hW.alike hK, hD⟩, hS.F ht⟩) hS.2.2 dX7_takeHedge_68
      · replace hF := if_i c_33 hF
        refine lv_aload_n hx hb dX7_takeHedge_50 rfl (lv_at hl 1 rfl) ?_
        refine va_get (D := D) (ci := 7) (v := .ref (aM 20)) (C := RX7) (T := TX7) (N := 38) hx hb hts hin_RX7 hown hK hP 0 rfl rfl 20 (by decide) hk_2 (fun _ h9 => h9) rfl dX7_takeHedge_51 ?_
        refine lv_iload_n hx hb dX7_takeHedge_54 rfl (lv_at hl 2 rfl) ?_
        refine lv_iload_n hx hb dX7_takeHedge_55 rfl (lv_at hl 3 rfl) ?_
        replace hF := ast_i hF
        obtain ⟨hin_34, hF⟩ := hF
        refine va_iast (x := v3_19) hx hb hK hP hD hS 10 0 rfl rfl hin_34 dX7_takeHedge_56 (fun H locs hP hD hS => ?_)
        obtain ⟨zM_35, ezM_35⟩ : ∃ y : MS, y = (zM_21.1, va_up zM_21.2 20 (upd (zM_21.2 20) (Int32.toNatClampNeg v2_5) v3_19)) := ⟨_, rfl⟩
        replace hF := nm_i hF ezM_35
        have hP : va_P D vwCl (wcM ci aM zM_35) H := by rw [ezM_35]; exact hP
        have hD : va_D A (wcM ci aM zM_35) := by rw [ezM_35]; exact hD
        refine lv_aload_n hx hb dX7_takeHedge_57 rfl (lv_at hl 1 rfl) ?_
        refine va_get (D := D) (ci := 7) (v := .ref (aM 21)) (C := RX7) (T := TX7) (N := 38) hx hb hts hin_RX7 hown hK hP 0 rfl rfl 21 (by decide) hk_3 (fun _ h9 => h9) rfl dX7_takeHedge_58 ?_
        refine lv_iload_n hx hb dX7_takeHedge_61 rfl (lv_at hl 2 rfl) ?_
        refine lv_aload_n hx hb dX7_takeHedge_62 rfl (lv_at hl 1 rfl) ?_
        refine va_get (D := D) (ci := 7) (v := .int (zM_35.1 14)) (C := RX7) (T := TX7) (N := 38) hx hb hts hin_RX7 hown hK hP 0 rfl rfl 14 (by decide) hk_0 (fun _ h9 => h9) rfl dX7_takeHedge_63 ?_
        refine lv_topi (fun y_37 ey_37 => ?_)
        replace hF := nm_i hF ey_37
        replace hF := ast_i hF
        obtain ⟨hin_36, hF⟩ := hF
        refine va_iast (x := y_37) hx hb hK hP hD hS 11 0 rfl rfl hin_36 dX7_takeHedge_66 (fun H locs hP hD hS => ?_)
        obtain ⟨zM_38, ezM_38⟩ : ∃ y : MS, y = (zM_35.1, va_up zM_35.2 21 (upd (zM_35.2 21) (Int32.toNatClampNeg v2_5) y_37)) := ⟨_, rfl⟩
        replace hF := nm_i hF ezM_38
        have hP : va_P D vwCl (wcM ci aM zM_38) H := by rw [ezM_38]; exact hP
        have hD : va_D A (wcM ci aM zM_38) := by rw [ezM_38]; exact hD
        refine lv_iload_n hx hb dX7_takeHedge_67 rfl (lv_at hl 0 rfl) ?_
        obtain rfl := Option.some.inj hF
        exact W.iret (v := t_20) hx hb hr (fun t ht hW => ⟨⟨_, (), rfl, rfl, by rw [ht]; exact hP, va_K.moved hW.alike hK, hD⟩, hS.F ht⟩) hS.2.2 dX7_takeHedge_68
    · intro J_22
      clear hF
      have hF := hv_32
      refine lv_if_le (tgt := 38) hx hb dX7_takeHedge_31 (by decide) (fun c_23 => ?_) (fun c_23 => ?_)
      · replace hF := if_i c_23 hF
        refine lv_aload_n hx hb dX7_takeHedge_38 rfl (lv_at hl 2 rfl) ?_
        refine lv_iconst (v := 1) hx hb dX7_takeHedge_39 (by decide) ?_
        refine lv_bipush (v := 99) hx hb dX7_takeHedge_40 (by decide) ?_
        replace hF := bnd hF
        obtain ⟨q_27, hc_26, hF⟩ := hF
        obtain ⟨r_24, er_24⟩ : ∃ y : Int32, y = q_27.1 := ⟨_, rfl⟩
        replace hF := nm_i hF er_24
        obtain ⟨zM_25, ezM_25⟩ : ∃ y : MS, y = q_27.2 := ⟨_, rfl⟩
        replace hF := nm_i hF ezM_25
        obtain rfl : q_27 = (r_24, zM_25) := by rw [er_24, ezM_25]
        clear er_24
        clear ezM_25
        refine cl_Vi0 (As := [.int 1, .int 99]) (rest := []) ⟨hx, hb, hml, hown, hts⟩ (cwV 2 hts gX7_takeHedge_X7_takeNumber rfl rfl rfl (by decide +kernel) ⟨Nat.le_of_ble_eq_true rfl, Nat.le_of_ble_eq_true rfl⟩) (c_X7_takeNumber l D ci aM H.size zM_7 (1 : Int32) (99 : Int32) _ hc_26) hK hP hD hS hA 0 rfl rfl rfl rfl hl.1 (Nat.le_of_ble_eq_true rfl) dX7_takeHedge_42 (Nat.zero_le _) (Nat.zero_le _) (fun H locs hP hD hS => ?_)
        have hP : va_P D vwCl (wcM ci aM zM_25) H := hP
        have hD : va_D A (wcM ci aM zM_25) := hD
        obtain ⟨g_28, g_29⟩ : (r_24 : Int32) = t_20 ∧ (zM_25 : MS) = zM_21 := by have h9 := Option.some.inj hF; simpa only [Prod.mk.injEq] using h9
        subst g_28
        subst g_29
        exact J_22 H locs ls ⟨hP, hD, hS, lv_sub hl [2, 1, 3, 0] rfl⟩
      · replace hF := if_o c_23 hF
        refine lv_iload_n hx hb dX7_takeHedge_34 rfl (lv_at hl 1 rfl) ?_
        refine lv_goto (tgt := 45) hx hb dX7_takeHedge_35 (by decide) ?_
        obtain ⟨g_30, g_31⟩ : (t_6 : Int32) = t_20 ∧ (zM_7 : MS) = zM_21 := by have h9 := Option.some.inj hF; simpa only [Prod.mk.injEq] using h9
        subst g_30
        subst g_31
        exact J_22 H locs ls ⟨hP, hD, hS, lv_sub hl [2, 1, 3, 0] rfl⟩
  · intro J_8
    clear hF
    have hF := hv_18
    refine lv_if_le (tgt := 18) hx hb dX7_takeHedge_11 (by decide) (fun c_9 => ?_) (fun c_9 => ?_)
    · replace hF := if_i c_9 hF
      refine lv_aload_n hx hb dX7_takeHedge_18 rfl (lv_at hl 2 rfl) ?_
      refine lv_iconst (v := 0) hx hb dX7_takeHedge_19 (by decide) ?_
      refine lv_iconst (v := 1) hx hb dX7_takeHedge_20 (by decide) ?_
      replace hF := bnd hF
      obtain ⟨q_13, hc_12, hF⟩ := hF
      obtain ⟨r_10, er_10⟩ : ∃ y : Int32, y = q_13.1 := ⟨_, rfl⟩
      replace hF := nm_i hF er_10
      obtain ⟨zM_11, ezM_11⟩ : ∃ y : MS, y = q_13.2 := ⟨_, rfl⟩
      replace hF := nm_i hF ezM_11
      obtain rfl : q_13 = (r_10, zM_11) := by rw [er_10, ezM_11]
      clear er_10
      clear ezM_11
      refine cl_Vi0 (As := [.int 0, .int 1]) (rest := []) ⟨hx, hb, hml, hown, hts⟩ (cwV 2 hts gX7_takeHedge_X7_takeNumber rfl rfl rfl (by decide +kernel) ⟨Nat.le_of_ble_eq_true rfl, Nat.le_of_ble_eq_true rfl⟩) (c_X7_takeNumber l D ci aM H.size zM_2 (0 : Int32) (1 : Int32) _ hc_12) hK hP hD hS hA 0 rfl rfl rfl rfl hl.1 (Nat.le_of_ble_eq_true rfl) dX7_takeHedge_21 (Nat.zero_le _) (Nat.zero_le _) (fun H locs hP hD hS => ?_)
      have hP : va_P D vwCl (wcM ci aM zM_11) H := hP
      have hD : va_D A (wcM ci aM zM_11) := hD
      obtain ⟨g_14, g_15⟩ : (r_10 : Int32) = t_6 ∧ (zM_11 : MS) = zM_7 := by have h9 := Option.some.inj hF; simpa only [Prod.mk.injEq] using h9
      subst g_14
      subst g_15
      exact J_8 H locs ls ⟨hP, hD, hS, lv_sub hl [2, 1, 0] rfl⟩
    · replace hF := if_o c_9 hF
      refine lv_iload_n hx hb dX7_takeHedge_14 rfl (lv_at hl 1 rfl) ?_
      refine lv_goto (tgt := 24) hx hb dX7_takeHedge_15 (by decide) ?_
      obtain ⟨g_16, g_17⟩ : (r_1 : Int32) = t_6 ∧ (zM_2 : MS) = zM_7 := by have h9 := Option.some.inj hF; simpa only [Prod.mk.injEq] using h9
      subst g_16
      subst g_17
      exact J_8 H locs ls ⟨hP, hD, hS, lv_sub hl [2, 1, 0] rfl⟩

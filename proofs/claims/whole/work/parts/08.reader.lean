noncomputable def f_X4_isFigure (p0 : Int32) : Option (Int32) := if p0 < 48 then (some (0 : Int32)) else (if (57 : Int32) < p0 then (some (0 : Int32)) else (some (1 : Int32)))
set_option maxHeartbeats 4000000 in
set_option maxRecDepth 100000 in
theorem c_X4_isFigure (l : Launch) (D : va_G) (ci : Nat → ClassId) (sz : Nat) (p0 : Int32) (res : Int32) (hF : f_X4_isFigure p0 = some res) : CtI l yX4_isFigure wsX4_isFigure { frames := 0, cells := 0, slots := 0, locals := 0 } [.int p0] D ci [] sz res [] := by
  refine Met.ofW (cc := cX4_isFigure) (maxL := 1) (ret := (some .boolean)) (by decide) rfl ?_
  intro p e s m args below meth c s₁ B hml hv
  obtain ⟨rfl, hsz, hP, hK, hD0⟩ := hv
  have hx := B.exec
  have hb := B.bytes
  have hr := B.returns
  have hts := atoms_spec (ws := wsX4_isFigure) B.pre
  have hown : s.vm.findClass RX4 = some m.cls := findClass_of_methodNamed B.named
  have hlocks := B.notSynchronized
  subst hsz
  have hD := hD0.self (sz := s.heap.size)
  generalize hAe : va_A [] s.heap.size = A at hD ⊢
  have hA : ∀ q : Nat, s.heap.size ≤ q → A q := fun q h => by rw [← hAe]; exact Or.inr h
  clear hD0 hAe
  have hl := lv_entry ([.int p0]) (n := 1) (Nat.le_of_ble_eq_true rfl)
  rw [lg_entry_eq]
  generalize (lg_sl ([.int p0]) ++ List.replicate (1 - (lg_sl ([.int p0])).length) Slot.unset).toArray = ls at hl ⊢
  have hl : lv_has ls 1 [(0, .int p0)] := hl
  have hP : va_P D vwCl [] s.heap := hP
  generalize hH0 : s.heap = H at hP ⊢
  have hS : va_S A s.heap H [] := by rw [← hH0]; exact va_S.rf
  clear hH0
  generalize ([] : List Loc) = locs at hS ⊢
  unfold f_X4_isFigure at hF
  refine lv_iload_n hx hb dX4_isFigure_0 rfl (lv_at hl 0 rfl) ?_
  refine lv_bipush (v := 48) hx hb dX4_isFigure_1 (by decide) ?_
  refine lv_icmp_lt (tgt := 16) hx hb dX4_isFigure_3 (by decide) (fun c_1 => ?_) (fun c_1 => ?_)
  · replace hF := if_i c_1 hF
    refine lv_iconst (v := 0) hx hb dX4_isFigure_16 (by decide) ?_
    obtain rfl := Option.some.inj hF
    exact W.zret (v := 0) (ty := .boolean) hx hb hr rfl (fun t ht hW => ⟨⟨_, (), rfl, rfl, by rw [ht]; exact hP, va_K.moved hW.alike hK, hD⟩, hS.F ht⟩) hS.2.2 dX4_isFigure_17
  · replace hF := if_o c_1 hF
    refine lv_iload_n hx hb dX4_isFigure_6 rfl (lv_at hl 0 rfl) ?_
    refine lv_bipush (v := 57) hx hb dX4_isFigure_7 (by decide) ?_
    refine lv_icmp_gt (tgt := 16) hx hb dX4_isFigure_9 (by decide) (fun c_2 => ?_) (fun c_2 => ?_)
    · replace hF := if_i c_2 hF
      refine lv_iconst (v := 0) hx hb dX4_isFigure_16 (by decide) ?_
      obtain rfl := Option.some.inj hF
      exact W.zret (v := 0) (ty := .boolean) hx hb hr rfl (fun t ht hW => ⟨⟨_, (), rfl, rfl, by rw [ht]; exact hP, va_K.moved hW.alike hK, hD⟩, hS.F ht⟩) hS.2.2 dX4_isFigure_17
    · replace hF := if_o c_2 hF
      refine lv_iconst (v := 1) hx hb dX4_isFigure_12 (by decide) ?_
      refine lv_goto (tgt := 17) hx hb dX4_isFigure_13 (by decide) ?_
      obtain rfl := Option.some.inj hF
      exact W.zret (v := 1) (ty := .boolean) hx hb hr rfl (fun t ht hW => ⟨⟨_, (), rfl, rfl, by rw [ht]; exact hP, va_K.moved hW.alike hK, hD⟩, hS.F ht⟩) hS.2.2 dX4_isFigure_17
noncomputable def f_X4_fail (zR : RS) (p1 : Int32) (p2 : Int32) : Option (RS) := if (zR.1 6) = 0 then (nm ((upd zR.1 6 p1, zR.2) : RS) fun zR_2 => nm ((upd zR_2.1 7 p2, zR_2.2) : RS) fun zR_3 => some zR_3) else (some zR)
set_option maxHeartbeats 4000000 in
set_option maxRecDepth 100000 in
theorem c_X4_fail (l : Launch) (D : va_G) (ci : Nat → ClassId) (aR_0 : Nat) (aR_1 : Nat) (aRG_0 : Nat) (aRS_0 : Nat) (sz : Nat) (zR : RS) (p1 : Int32) (p2 : Int32) (res : RS) (hF : f_X4_fail zR p1 p2 = some res) : CtV l yX4_fail wsX4_fail { frames := 0, cells := 0, slots := 0, locals := 0 } [.ref aR_0, .int p1, .int p2] D ci (wcR ci aR_0 aR_1 aRG_0 aRS_0 zR) sz (wcR ci aR_0 aR_1 aRG_0 aRS_0 res) := by
  refine Met.ofW (cc := cX4_fail) (maxL := 3) (ret := none) (by decide) rfl ?_
  intro p e s m args below meth c s₁ B hml hv
  obtain ⟨rfl, hsz, hP, hK, hD0⟩ := hv
  have hx := B.exec
  have hb := B.bytes
  have hr := B.returns
  have hts := atoms_spec (ws := wsX4_fail) B.pre
  have hown : s.vm.findClass RX4 = some m.cls := findClass_of_methodNamed B.named
  have hlocks := B.notSynchronized
  subst hsz
  have hD := hD0.self (sz := s.heap.size)
  generalize hAe : va_A (wcR ci aR_0 aR_1 aRG_0 aRS_0 zR) s.heap.size = A at hD ⊢
  have hA : ∀ q : Nat, s.heap.size ≤ q → A q := fun q h => by rw [← hAe]; exact Or.inr h
  clear hD0 hAe
  have hl := lv_entry ([.ref aR_0, .int p1, .int p2]) (n := 3) (Nat.le_of_ble_eq_true rfl)
  rw [lg_entry_eq]
  generalize (lg_sl ([.ref aR_0, .int p1, .int p2]) ++ List.replicate (3 - (lg_sl ([.ref aR_0, .int p1, .int p2])).length) Slot.unset).toArray = ls at hl ⊢
  have hl : lv_has ls 3 [(0, .ref aR_0), (1, .int p1), (2, .int p2)] := hl
  have hP : va_P D vwCl (wcR ci aR_0 aR_1 aRG_0 aRS_0 zR) s.heap := hP
  generalize hH0 : s.heap = H at hP ⊢
  have hS : va_S A s.heap H [] := by rw [← hH0]; exact va_S.rf
  clear hH0
  generalize ([] : List Loc) = locs at hS ⊢
  have hk_0 := hts (.fieldLink RX4 37 "HedgeWar$Reader" "faultNumber" "I") (by decide +kernel)
  have hin_RX4 : ∀ w ∈ wsX40, w ∈ wsX4_fail := by decide +kernel
  have hk_2 := hts (.fieldLink RX4 40 "HedgeWar$Reader" "faultPlace" "I") (by decide +kernel)
  unfold f_X4_fail at hF
  refine lv_aload_n hx hb dX4_fail_0 rfl (lv_at hl 0 rfl) ?_
  refine va_get (D := D) (ci := 4) (v := .int (zR.1 6)) (C := RX4) (T := TX4) (N := 8) hx hb hts hin_RX4 hown hK hP 0 rfl rfl 6 (by decide) hk_0 (fun _ h9 => h9) rfl dX4_fail_1 ?_
  refine lv_if_ne (tgt := 17) hx hb dX4_fail_4 (by decide) (fun c_1 => ?_) (fun c_1 => ?_)
  · replace hF := if_o c_1 hF
    obtain rfl := Option.some.inj hF
    exact W.vret hx hb hr (fun t ht hW => ⟨⟨(), rfl, trivial, by rw [ht]; exact hP, va_K.moved hW.alike hK, hD⟩, hS.F ht⟩) hS.2.2 dX4_fail_17
  · replace hF := if_i c_1 hF
    refine lv_aload_n hx hb dX4_fail_7 rfl (lv_at hl 0 rfl) ?_
    refine lv_iload_n hx hb dX4_fail_8 rfl (lv_at hl 1 rfl) ?_
    refine va_put (D := D) (ci := 4) (v := .int p1) (ty := .int) (C := RX4) (T := TX4) (N := 8) hx hb hts hin_RX4 tyX4 tyX4_ok nmX4 hown hK hP hD hS 0 rfl rfl 6 (by decide) hk_0 (fun _ h9 => h9) rfl (by decide +kernel) rfl rfl (Nat.le_of_ble_eq_true rfl) dX4_fail_9 (fun H locs hP hD hS => ?_)
    obtain ⟨zR_2, ezR_2⟩ : ∃ y : RS, y = (upd zR.1 6 p1, zR.2) := ⟨_, rfl⟩
    replace hF := nm_i hF ezR_2
    have hP : va_P D vwCl (wcR ci aR_0 aR_1 aRG_0 aRS_0 zR_2) H := by rw [ezR_2]; exact hP
    have hD : va_D A (wcR ci aR_0 aR_1 aRG_0 aRS_0 zR_2) := by rw [ezR_2]; exact hD
    refine lv_aload_n hx hb dX4_fail_12 rfl (lv_at hl 0 rfl) ?_
    refine lv_iload_n hx hb dX4_fail_13 rfl (lv_at hl 2 rfl) ?_
    refine va_put (D := D) (ci := 4) (v := .int p2) (ty := .int) (C := RX4) (T := TX4) (N := 8) hx hb hts hin_RX4 tyX4 tyX4_ok nmX4 hown hK hP hD hS 0 rfl rfl 7 (by decide) hk_2 (fun _ h9 => h9) rfl (by decide +kernel) rfl rfl (Nat.le_of_ble_eq_true rfl) dX4_fail_14 (fun H locs hP hD hS => ?_)
    obtain ⟨zR_3, ezR_3⟩ : ∃ y : RS, y = (upd zR_2.1 7 p2, zR_2.2) := ⟨_, rfl⟩
    replace hF := nm_i hF ezR_3
    have hP : va_P D vwCl (wcR ci aR_0 aR_1 aRG_0 aRS_0 zR_3) H := by rw [ezR_3]; exact hP
    have hD : va_D A (wcR ci aR_0 aR_1 aRG_0 aRS_0 zR_3) := by rw [ezR_3]; exact hD
    obtain rfl := Option.some.inj hF
    exact W.vret hx hb hr (fun t ht hW => ⟨⟨(), rfl, trivial, by rw [ht]; exact hP, va_K.moved hW.alike hK, hD⟩, hS.F ht⟩) hS.2.2 dX4_fail_17
noncomputable def L_X4_skipBlanks_0 : Nat → RS → Option (RS)
  | 0, _ => none
  | n + 1, zR_1 => if (zR_1.1 3) ≤ (zR_1.1 4) then (some zR_1) else (ald 240 zR_1.2 (zR_1.1 4) fun x_7 => if x_7 = 32 then (nm ((zR_1.1 4) + 1) fun f4_9 => nm ((upd zR_1.1 4 f4_9, zR_1.2) : RS) fun zR_10 => L_X4_skipBlanks_0 n zR_10) else (some zR_1))
noncomputable def f_X4_skipBlanks (zR : RS) : Option (RS) := (L_X4_skipBlanks_0 3000 zR).bind fun zR_4 => some zR_4
set_option maxHeartbeats 4000000 in
set_option maxRecDepth 100000 in
theorem c_X4_skipBlanks (l : Launch) (D : va_G) (ci : Nat → ClassId) (aR_0 : Nat) (aR_1 : Nat) (aRG_0 : Nat) (aRS_0 : Nat) (sz : Nat) (zR : RS) (res : RS) (hF : f_X4_skipBlanks zR = some res) : CtV l yX4_skipBlanks wsX4_skipBlanks { frames := 0, cells := 0, slots := 0, locals := 0 } [.ref aR_0] D ci (wcR ci aR_0 aR_1 aRG_0 aRS_0 zR) sz (wcR ci aR_0 aR_1 aRG_0 aRS_0 res) := by
  refine Met.ofW (cc := cX4_skipBlanks) (maxL := 1) (ret := none) (by decide) rfl ?_
  intro p e s m args below meth c s₁ B hml hv
  obtain ⟨rfl, hsz, hP, hK, hD0⟩ := hv
  have hx := B.exec
  have hb := B.bytes
  have hr := B.returns
  have hts := atoms_spec (ws := wsX4_skipBlanks) B.pre
  have hown : s.vm.findClass RX4 = some m.cls := findClass_of_methodNamed B.named
  have hlocks := B.notSynchronized
  subst hsz
  have hD := hD0.self (sz := s.heap.size)
  generalize hAe : va_A (wcR ci aR_0 aR_1 aRG_0 aRS_0 zR) s.heap.size = A at hD ⊢
  have hA : ∀ q : Nat, s.heap.size ≤ q → A q := fun q h => by rw [← hAe]; exact Or.inr h
  clear hD0 hAe
  have hl := lv_entry ([.ref aR_0]) (n := 1) (Nat.le_of_ble_eq_true rfl)
  rw [lg_entry_eq]
  generalize (lg_sl ([.ref aR_0]) ++ List.replicate (1 - (lg_sl ([.ref aR_0])).length) Slot.unset).toArray = ls at hl ⊢
  have hl : lv_has ls 1 [(0, .ref aR_0)] := hl
  have hP : va_P D vwCl (wcR ci aR_0 aR_1 aRG_0 aRS_0 zR) s.heap := hP
  generalize hH0 : s.heap = H at hP ⊢
  have hS : va_S A s.heap H [] := by rw [← hH0]; exact va_S.rf
  clear hH0
  generalize ([] : List Loc) = locs at hS ⊢
  have hk_0 := hts (.fieldLink RX4 33 "HedgeWar$Reader" "at" "I") (by decide +kernel)
  have hin_RX4 : ∀ w ∈ wsX40, w ∈ wsX4_skipBlanks := by decide +kernel
  have hk_2 := hts (.fieldLink RX4 46 "HedgeWar$Reader" "letters" "I") (by decide +kernel)
  have hk_3 := hts (.fieldLink RX4 9 "HedgeWar$Reader" "text" "[I") (by decide +kernel)
  unfold f_X4_skipBlanks at hF
  replace hF := bnd hF
  obtain ⟨zR_4, hv_11, hF⟩ := hF
  refine jn (P := fun H locs ls => va_P D vwCl (wcR ci aR_0 aR_1 aRG_0 aRS_0 zR_4) H ∧ va_D A (wcR ci aR_0 aR_1 aRG_0 aRS_0 zR_4) ∧ va_S A s.heap H locs ∧ lv_has ls 1 [(0, .ref aR_0)]) (pcJ := 38) (st := []) ?_ ?_
  · intro H locs ls hJ
    obtain ⟨hP, hD, hS, hl⟩ := hJ
    obtain rfl := Option.some.inj hF
    exact W.vret hx hb hr (fun t ht hW => ⟨⟨(), rfl, trivial, by rw [ht]; exact hP, va_K.moved hW.alike hK, hD⟩, hS.F ht⟩) hS.2.2 dX4_skipBlanks_38
  · intro J_3
    clear hF
    have hF := hv_11
    refine lpW (σ := RS) (I := fun n v H locs ls => L_X4_skipBlanks_0 n v = some zR_4 ∧ va_P D vwCl (wcR ci aR_0 aR_1 aRG_0 aRS_0 v) H ∧ va_D A (wcR ci aR_0 aR_1 aRG_0 aRS_0 v) ∧ va_S A s.heap H locs ∧ lv_has ls 1 [(0, .ref aR_0)]) 3000 zR (fun _ _ _ _ h => no_none h.1) ⟨hF, hP, hD, hS, lv_sub hl [0] rfl⟩ ?_
    clear hF hP hD hS hl
    intro n ih_2 vq H locs ls hI
    obtain ⟨zR_1, rfl⟩ : ∃ y, y = vq := ⟨_, rfl⟩
    obtain ⟨hF, hP, hD, hS, hl⟩ := hI
    have hP : va_P D vwCl (wcR ci aR_0 aR_1 aRG_0 aRS_0 zR_1) H := hP
    have hD : va_D A (wcR ci aR_0 aR_1 aRG_0 aRS_0 zR_1) := hD
    have hl : lv_has ls 1 [(0, .ref aR_0)] := hl
    replace hF : L_X4_skipBlanks_0 (n + 1) zR_1 = some zR_4 := hF
    rw [L_X4_skipBlanks_0] at hF
    refine lv_aload_n hx hb dX4_skipBlanks_0 rfl (lv_at hl 0 rfl) ?_
    refine va_get (D := D) (ci := 4) (v := .int (zR_1.1 4)) (C := RX4) (T := TX4) (N := 8) hx hb hts hin_RX4 hown hK hP 0 rfl rfl 4 (by decide) hk_0 (fun _ h9 => h9) rfl dX4_skipBlanks_1 ?_
    refine lv_aload_n hx hb dX4_skipBlanks_4 rfl (lv_at hl 0 rfl) ?_
    refine va_get (D := D) (ci := 4) (v := .int (zR_1.1 3)) (C := RX4) (T := TX4) (N := 8) hx hb hts hin_RX4 hown hK hP 0 rfl rfl 3 (by decide) hk_2 (fun _ h9 => h9) rfl dX4_skipBlanks_5 ?_
    refine lv_icmp_ge (tgt := 38) hx hb dX4_skipBlanks_8 (by decide) (fun c_5 => ?_) (fun c_5 => ?_)
    · replace hF := if_i c_5 hF
      obtain rfl := Option.some.inj hF
      exact J_3 H locs ls ⟨hP, hD, hS, lv_sub hl [0] rfl⟩
    · replace hF := if_o c_5 hF
      refine lv_aload_n hx hb dX4_skipBlanks_11 rfl (lv_at hl 0 rfl) ?_
      refine va_get (D := D) (ci := 4) (v := .ref aR_1) (C := RX4) (T := TX4) (N := 8) hx hb hts hin_RX4 hown hK hP 0 rfl rfl 0 (by decide) hk_3 (fun _ h9 => h9) rfl dX4_skipBlanks_12 ?_
      refine lv_aload_n hx hb dX4_skipBlanks_15 rfl (lv_at hl 0 rfl) ?_
      refine va_get (D := D) (ci := 4) (v := .int (zR_1.1 4)) (C := RX4) (T := TX4) (N := 8) hx hb hts hin_RX4 hown hK hP 0 rfl rfl 4 (by decide) hk_0 (fun _ h9 => h9) rfl dX4_skipBlanks_16 ?_
      replace hF := ald_i hF
      obtain ⟨hin_6, hF⟩ := hF
      refine va_iald hx hb hK hP 1 0 rfl rfl hin_6 dX4_skipBlanks_19 ?_
      refine lv_topi (fun x_7 ex_7 => ?_)
      replace hF := nm_i hF ex_7
      refine lv_bipush (v := 32) hx hb dX4_skipBlanks_20 (by decide) ?_
      refine lv_icmp_ne (tgt := 38) hx hb dX4_skipBlanks_22 (by decide) (fun c_8 => ?_) (fun c_8 => ?_)
      · replace hF := if_o c_8 hF
        obtain rfl := Option.some.inj hF
        exact J_3 H locs ls ⟨hP, hD, hS, lv_sub hl [0] rfl⟩
      · replace hF := if_i c_8 hF
        refine lv_aload_n hx hb dX4_skipBlanks_25 rfl (lv_at hl 0 rfl) ?_
        refine lv_dup hx hb dX4_skipBlanks_26 rfl ?_
        refine va_get (D := D) (ci := 4) (v := .int (zR_1.1 4)) (C := RX4) (T := TX4) (N := 8) hx hb hts hin_RX4 hown hK hP 0 rfl rfl 4 (by decide) hk_0 (fun _ h9 => h9) rfl dX4_skipBlanks_27 ?_
        refine lv_iconst (v := 1) hx hb dX4_skipBlanks_30 (by decide) ?_
        refine lv_iadd hx hb dX4_skipBlanks_31 ?_
        refine lv_topi (fun f4_9 ef4_9 => ?_)
        replace hF := nm_i hF ef4_9
        refine va_put (D := D) (ci := 4) (v := .int f4_9) (ty := .int) (C := RX4) (T := TX4) (N := 8) hx hb hts hin_RX4 tyX4 tyX4_ok nmX4 hown hK hP hD hS 0 rfl rfl 4 (by decide) hk_0 (fun _ h9 => h9) rfl (by decide +kernel) rfl rfl (Nat.le_of_ble_eq_true rfl) dX4_skipBlanks_32 (fun H locs hP hD hS => ?_)
        obtain ⟨zR_10, ezR_10⟩ : ∃ y : RS, y = (upd zR_1.1 4 f4_9, zR_1.2) := ⟨_, rfl⟩
        replace hF := nm_i hF ezR_10
        have hP : va_P D vwCl (wcR ci aR_0 aR_1 aRG_0 aRS_0 zR_10) H := by rw [ezR_10]; exact hP
        have hD : va_D A (wcR ci aR_0 aR_1 aRG_0 aRS_0 zR_10) := by rw [ezR_10]; exact hD
        refine lv_goto (tgt := 0) hx hb dX4_skipBlanks_35 (by decide) ?_
        exact ih_2 zR_10 H locs ls ⟨hF, hP, hD, hS, lv_sub hl [0] rfl⟩
noncomputable def L_X4_readNumber_23 (p1 : Int32) (p2 : Int32) : Nat → Int32 → RS → Option (Int32 × RS)
  | 0, _, _ => none
  | n + 1, v3_7, zR_8 => if (zR_8.1 3) ≤ (zR_8.1 4) then (some (v3_7, zR_8)) else (ald 240 zR_8.2 (zR_8.1 4) fun x_17 => (f_X4_isFigure x_17).bind fun r_18 => if r_18 = 0 then (some (v3_7, zR_8)) else (ald 240 zR_8.2 (zR_8.1 4) fun x_24 => nm (imin 1000 (((v3_7 * 10) + x_24) - 48)) fun v3_25 => nm ((zR_8.1 4) + 1) fun f4_26 => nm ((upd zR_8.1 4 f4_26, zR_8.2) : RS) fun zR_27 => L_X4_readNumber_23 p1 p2 n v3_25 zR_27))
noncomputable def f_X4_readNumber (zR : RS) (p1 : Int32) (p2 : Int32) : Option (Int32 × RS) := if (zR.1 6) = 0 then ((f_X4_skipBlanks zR).bind fun zR_2 => nm (zR_2.1 4) fun f5_4 => nm ((upd zR_2.1 5 f5_4, zR_2.2) : RS) fun zR_5 => nm (0 : Int32) fun v3_6 => (L_X4_readNumber_23 p1 p2 3000 v3_6 zR_5).bind fun q_41 => nm q_41.1 fun v3_11 => nm q_41.2 fun zR_12 => if (zR_12.1 4) = (zR_12.1 5) then ((f_X4_fail zR_12 (1 : Int32) (zR_12.1 4)).bind fun zR_39 => some (v3_11, zR_39)) else (if (3 : Int32) < ((zR_12.1 4) - (zR_12.1 5)) then ((f_X4_fail zR_12 (2 : Int32) (zR_12.1 5)).bind fun zR_31 => some (v3_11, zR_31)) else (if v3_11 < p1 then ((f_X4_fail zR_12 (2 : Int32) (zR_12.1 5)).bind fun zR_34 => some (v3_11, zR_34)) else (if v3_11 ≤ p2 then (some (v3_11, zR_12)) else ((f_X4_fail zR_12 (2 : Int32) (zR_12.1 5)).bind fun zR_37 => some (v3_11, zR_37)))))) else (some (p1, zR))
set_option maxHeartbeats 4000000 in
set_option maxRecDepth 100000 in
theorem c_X4_readNumber (l : Launch) (D : va_G) (ci : Nat → ClassId) (aR_0 : Nat) (aR_1 : Nat) (aRG_0 : Nat) (aRS_0 : Nat) (sz : Nat) (zR : RS) (p1 : Int32) (p2 : Int32) (res : Int32 × RS) (hF : f_X4_readNumber zR p1 p2 = some res) : CtI l yX4_readNumber wsX4_readNumber { frames := 1, cells := 0, slots := 0, locals := 22 } [.ref aR_0, .int p1, .int p2] D ci (wcR ci aR_0 aR_1 aRG_0 aRS_0 zR) sz res.1 (wcR ci aR_0 aR_1 aRG_0 aRS_0 res.2) := by
  refine Met.ofW (cc := cX4_readNumber) (maxL := 4) (ret := (some .int)) (by decide) rfl ?_
  intro p e s m args below meth c s₁ B hml hv
  obtain ⟨rfl, hsz, hP, hK, hD0⟩ := hv
  have hx := B.exec
  have hb := B.bytes
  have hr := B.returns
  have hts := atoms_spec (ws := wsX4_readNumber) B.pre
  have hown : s.vm.findClass RX4 = some m.cls := findClass_of_methodNamed B.named
  have hlocks := B.notSynchronized
  subst hsz
  have hD := hD0.self (sz := s.heap.size)
  generalize hAe : va_A (wcR ci aR_0 aR_1 aRG_0 aRS_0 zR) s.heap.size = A at hD ⊢
  have hA : ∀ q : Nat, s.heap.size ≤ q → A q := fun q h => by rw [← hAe]; exact Or.inr h
  clear hD0 hAe
  have hl := lv_entry ([.ref aR_0, .int p1, .int p2]) (n := 4) (Nat.le_of_ble_eq_true rfl)
  rw [lg_entry_eq]
  generalize (lg_sl ([.ref aR_0, .int p1, .int p2]) ++ List.replicate (4 - (lg_sl ([.ref aR_0, .int p1, .int p2])).length) Slot.unset).toArray = ls at hl ⊢
  have hl : lv_has ls 4 [(0, .ref aR_0), (1, .int p1), (2, .int p2)] := hl
  have hP : va_P D vwCl (wcR ci aR_0 aR_1 aRG_0 aRS_0 zR) s.heap := hP
  generalize hH0 : s.heap = H at hP ⊢
  have hS : va_S A s.heap H [] := by rw [← hH0]; exact va_S.rf
  clear hH0
  generalize ([] : List Loc) = locs at hS ⊢
  have hk_0 := hts (.fieldLink RX4 37 "HedgeWar$Reader" "faultNumber" "I") (by decide +kernel)
  have hin_RX4 : ∀ w ∈ wsX40, w ∈ wsX4_readNumber := by decide +kernel
  have hk_2 := hts (.fieldLink RX4 33 "HedgeWar$Reader" "at" "I") (by decide +kernel)
  have hk_3 := hts (.fieldLink RX4 93 "HedgeWar$Reader" "numberPlace" "I") (by decide +kernel)
  have hk_4 := hts (.fieldLink RX4 46 "HedgeWar$Reader" "letters" "I") (by decide +kernel)
  have hk_5 := hts (.fieldLink RX4 9 "HedgeWar$Reader" "text" "[I") (by decide +kernel)
  have hk_6 := hts (.methodLink RX4 125 Lib.Math.min.name) (by decide +kernel)
  have hk_7 := hts (.static Lib.Math.min.name) (by decide +kernel)
  have hk_8 := hts (.initialized "java/lang/Math") (by decide +kernel)
  have hk_9 := hts (.code Lib.Math.min.name Lib.Math.min.code 2 (some .int)) (by decide +kernel)
  unfold f_X4_readNumber at hF
  refine lv_aload_n hx hb dX4_readNumber_0 rfl (lv_at hl 0 rfl) ?_
  refine va_get (D := D) (ci := 4) (v := .int (zR.1 6)) (C := RX4) (T := TX4) (N := 8) hx hb hts hin_RX4 hown hK hP 0 rfl rfl 6 (by decide) hk_0 (fun _ h9 => h9) rfl dX4_readNumber_1 ?_
  refine lv_if_eq (tgt := 9) hx hb dX4_readNumber_4 (by decide) (fun c_1 => ?_) (fun c_1 => ?_)
  · replace hF := if_i c_1 hF
    refine lv_aload_n hx hb dX4_readNumber_9 rfl (lv_at hl 0 rfl) ?_
    replace hF := bnd hF
    obtain ⟨zR_2, hc_3, hF⟩ := hF
    refine cl_Vv0 (As := []) (rest := []) ⟨hx, hb, hml, hown, hts⟩ (cwV 0 hts gX4_readNumber_X4_skipBlanks rfl rfl rfl (by decide +kernel) ⟨Nat.le_of_ble_eq_true rfl, Nat.le_of_ble_eq_true rfl⟩) (c_X4_skipBlanks l D ci aR_0 aR_1 aRG_0 aRS_0 H.size zR _ hc_3) hK hP hD hS hA 0 rfl rfl rfl rfl hl.1 (Nat.le_of_ble_eq_true rfl) dX4_readNumber_10 (Nat.zero_le _) (Nat.zero_le _) (fun H locs hP hD hS => ?_)
    have hP : va_P D vwCl (wcR ci aR_0 aR_1 aRG_0 aRS_0 zR_2) H := hP
    have hD : va_D A (wcR ci aR_0 aR_1 aRG_0 aRS_0 zR_2) := hD
    refine lv_aload_n hx hb dX4_readNumber_13 rfl (lv_at hl 0 rfl) ?_
    refine lv_aload_n hx hb dX4_readNumber_14 rfl (lv_at hl 0 rfl) ?_
    refine va_get (D := D) (ci := 4) (v := .int (zR_2.1 4)) (C := RX4) (T := TX4) (N := 8) hx hb hts hin_RX4 hown hK hP 0 rfl rfl 4 (by decide) hk_2 (fun _ h9 => h9) rfl dX4_readNumber_15 ?_
    refine lv_topi (fun f5_4 ef5_4 => ?_)
    replace hF := nm_i hF ef5_4
    refine va_put (D := D) (ci := 4) (v := .int f5_4) (ty := .int) (C := RX4) (T := TX4) (N := 8) hx hb hts hin_RX4 tyX4 tyX4_ok nmX4 hown hK hP hD hS 0 rfl rfl 5 (by decide) hk_3 (fun _ h9 => h9) rfl (by decide +kernel) rfl rfl (Nat.le_of_ble_eq_true rfl) dX4_readNumber_18 (fun H locs hP hD hS => ?_)
    obtain ⟨zR_5, ezR_5⟩ : ∃ y : RS, y = (upd zR_2.1 5 f5_4, zR_2.2) := ⟨_, rfl⟩
    replace hF := nm_i hF ezR_5
    have hP : va_P D vwCl (wcR ci aR_0 aR_1 aRG_0 aRS_0 zR_5) H := by rw [ezR_5]; exact hP
    have hD : va_D A (wcR ci aR_0 aR_1 aRG_0 aRS_0 zR_5) := by rw [ezR_5]; exact hD
    refine lv_iconst (v := 0) hx hb dX4_readNumber_21 (by decide) ?_
    refine lv_topi (fun v3_6 ev3_6 => ?_)
    replace hF := nm_i hF ev3_6
    refine lv_istore_n (lv' := [(3, .int v3_6), (0, .ref aR_0), (1, .int p1), (2, .int p2)]) hx hb dX4_readNumber_22 rfl hl (by decide) rfl (fun ls hl => ?_)
    replace hF := bnd hF
    obtain ⟨q_41, hv_28, hF⟩ := hF
    obtain ⟨v3_11, ev3_11⟩ : ∃ y : Int32, y = q_41.1 := ⟨_, rfl⟩
    replace hF := nm_i hF ev3_11
    obtain ⟨zR_12, ezR_12⟩ : ∃ y : RS, y = q_41.2 := ⟨_, rfl⟩
    replace hF := nm_i hF ezR_12
    obtain rfl : q_41 = (v3_11, zR_12) := by rw [ev3_11, ezR_12]
    clear ev3_11
    clear ezR_12
    refine jn (P := fun H locs ls => va_P D vwCl (wcR ci aR_0 aR_1 aRG_0 aRS_0 zR_12) H ∧ va_D A (wcR ci aR_0 aR_1 aRG_0 aRS_0 zR_12) ∧ va_S A s.heap H locs ∧ lv_has ls 4 [(0, .ref aR_0), (1, .int p1), (2, .int p2), (3, .int v3_11)]) (pcJ := 86) (st := []) ?_ ?_
    · intro H locs ls hJ
      obtain ⟨hP, hD, hS, hl⟩ := hJ
      refine lv_aload_n hx hb dX4_readNumber_86 rfl (lv_at hl 0 rfl) ?_
      refine va_get (D := D) (ci := 4) (v := .int (zR_12.1 4)) (C := RX4) (T := TX4) (N := 8) hx hb hts hin_RX4 hown hK hP 0 rfl rfl 4 (by decide) hk_2 (fun _ h9 => h9) rfl dX4_readNumber_87 ?_
      refine lv_aload_n hx hb dX4_readNumber_90 rfl (lv_at hl 0 rfl) ?_
      refine va_get (D := D) (ci := 4) (v := .int (zR_12.1 5)) (C := RX4) (T := TX4) (N := 8) hx hb hts hin_RX4 hown hK hP 0 rfl rfl 5 (by decide) hk_3 (fun _ h9 => h9) rfl dX4_readNumber_91 ?_
      refine lv_icmp_ne (tgt := 109) hx hb dX4_readNumber_94 (by decide) (fun c_29 => ?_) (fun c_29 => ?_)
      · replace hF := if_o c_29 hF
        refine lv_aload_n hx hb dX4_readNumber_109 rfl (lv_at hl 0 rfl) ?_
        refine va_get (D := D) (ci := 4) (v := .int (zR_12.1 4)) (C := RX4) (T := TX4) (N := 8) hx hb hts hin_RX4 hown hK hP 0 rfl rfl 4 (by decide) hk_2 (fun _ h9 => h9) rfl dX4_readNumber_110 ?_
        refine lv_aload_n hx hb dX4_readNumber_113 rfl (lv_at hl 0 rfl) ?_
        refine va_get (D := D) (ci := 4) (v := .int (zR_12.1 5)) (C := RX4) (T := TX4) (N := 8) hx hb hts hin_RX4 hown hK hP 0 rfl rfl 5 (by decide) hk_3 (fun _ h9 => h9) rfl dX4_readNumber_114 ?_
        refine lv_isub hx hb dX4_readNumber_117 ?_
        refine lv_iconst (v := 3) hx hb dX4_readNumber_118 (by decide) ?_
        refine lv_icmp_gt (tgt := 132) hx hb dX4_readNumber_119 (by decide) (fun c_30 => ?_) (fun c_30 => ?_)
        · replace hF := if_i c_30 hF
          refine lv_aload_n hx hb dX4_readNumber_132 rfl (lv_at hl 0 rfl) ?_
          refine lv_iconst (v := 2) hx hb dX4_readNumber_133 (by decide) ?_
          refine lv_aload_n hx hb dX4_readNumber_134 rfl (lv_at hl 0 rfl) ?_
          refine va_get (D := D) (ci := 4) (v := .int (zR_12.1 5)) (C := RX4) (T := TX4) (N := 8) hx hb hts hin_RX4 hown hK hP 0 rfl rfl 5 (by decide) hk_3 (fun _ h9 => h9) rfl dX4_readNumber_135 ?_
          replace hF := bnd hF
          obtain ⟨zR_31, hc_32, hF⟩ := hF
          refine cl_Vv0 (As := [.int 2, .int (zR_12.1 5)]) (rest := []) ⟨hx, hb, hml, hown, hts⟩ (cwV 2 hts gX4_readNumber_X4_fail rfl rfl rfl (by decide +kernel) ⟨Nat.le_of_ble_eq_true rfl, Nat.le_of_ble_eq_true rfl⟩) (c_X4_fail l D ci aR_0 aR_1 aRG_0 aRS_0 H.size zR_12 (2 : Int32) (zR_12.1 5) _ hc_32) hK hP hD hS hA 0 rfl rfl rfl rfl hl.1 (Nat.le_of_ble_eq_true rfl) dX4_readNumber_138 (Nat.zero_le _) (Nat.zero_le _) (fun H locs hP hD hS => ?_)
          have hP : va_P D vwCl (wcR ci aR_0 aR_1 aRG_0 aRS_0 zR_31) H := hP
          have hD : va_D A (wcR ci aR_0 aR_1 aRG_0 aRS_0 zR_31) := hD
          refine lv_iload_n hx hb dX4_readNumber_141 rfl (lv_at hl 3 rfl) ?_
          obtain rfl := Option.some.inj hF
          exact W.iret (v := v3_11) hx hb hr (fun t ht hW => ⟨⟨_, (), rfl, rfl, by rw [ht]; exact hP, va_K.moved hW.alike hK, hD⟩, hS.F ht⟩) hS.2.2 dX4_readNumber_142
        · replace hF := if_o c_30 hF
          refine lv_iload_n hx hb dX4_readNumber_122 rfl (lv_at hl 3 rfl) ?_
          refine lv_iload_n hx hb dX4_readNumber_123 rfl (lv_at hl 1 rfl) ?_
          refine lv_icmp_lt (tgt := 132) hx hb dX4_readNumber_124 (by decide) (fun c_33 => ?_) (fun c_33 => ?_)
          · replace hF := if_i c_33 hF
            refine lv_aload_n hx hb dX4_readNumber_132 rfl (lv_at hl 0 rfl) ?_
            refine lv_iconst (v := 2) hx hb dX4_readNumber_133 (by decide) ?_
            refine lv_aload_n hx hb dX4_readNumber_134 rfl (lv_at hl 0 rfl) ?_
            refine va_get (D := D) (ci := 4) (v := .int (zR_12.1 5)) (C := RX4) (T := TX4) (N := 8) hx hb hts hin_RX4 hown hK hP 0 rfl rfl 5 (by decide) hk_3 (fun _ h9 => h9) rfl dX4_readNumber_135 ?_
            replace hF := bnd hF
            obtain ⟨zR_34, hc_35, hF⟩ := hF
            refine cl_Vv0 (As := [.int 2, .int (zR_12.1 5)]) (rest := []) ⟨hx, hb, hml, hown, hts⟩ (cwV 2 hts gX4_readNumber_X4_fail rfl rfl rfl (by decide +kernel) ⟨Nat.le_of_ble_eq_true rfl, Nat.le_of_ble_eq_true rfl⟩) (c_X4_fail l D ci aR_0 aR_1 aRG_0 aRS_0 H.size zR_12 (2 : Int32) (zR_12.1 5) _ hc_35) hK hP hD hS hA 0 rfl rfl rfl rfl hl.1 (Nat.le_of_ble_eq_true rfl) dX4_readNumber_138 (Nat.zero_le _) (Nat.zero_le _) (fun H locs hP hD hS => ?_)
            have hP : va_P D vwCl (wcR ci aR_0 aR_1 aRG_0 aRS_0 zR_34) H := hP
            have hD : va_D A (wcR ci aR_0 aR_1 aRG_0 aRS_0 zR_34) := hD
            refine lv_iload_n hx hb dX4_readNumber_141 rfl (lv_at hl 3 rfl) ?_
            obtain rfl := Option.some.inj hF
            exact W.iret (v := v3_11) hx hb hr (fun t ht hW => ⟨⟨_, (), rfl, rfl, by rw [ht]; exact hP, va_K.moved hW.alike hK, hD⟩, hS.F ht⟩) hS.2.2 dX4_readNumber_142
          · replace hF := if_o c_33 hF
            refine lv_iload_n hx hb dX4_readNumber_127 rfl (lv_at hl 3 rfl) ?_
            refine lv_iload_n hx hb dX4_readNumber_128 rfl (lv_at hl 2 rfl) ?_
            refine lv_icmp_le (tgt := 141) hx hb dX4_readNumber_129 (by decide) (fun c_36 => ?_) (fun c_36 => ?_)
            · replace hF := if_i c_36 hF
              refine lv_iload_n hx hb dX4_readNumber_141 rfl (lv_at hl 3 rfl) ?_
              obtain rfl := Option.some.inj hF
              exact W.iret (v := v3_11) hx hb hr (fun t ht hW => ⟨⟨_, (), rfl, rfl, by rw [ht]; exact hP, va_K.moved hW.alike hK, hD⟩, hS.F ht⟩) hS.2.2 dX4_readNumber_142
            · replace hF := if_o c_36 hF
              refine lv_aload_n hx hb dX4_readNumber_132 rfl (lv_at hl 0 rfl) ?_
              refine lv_iconst (v := 2) hx hb dX4_readNumber_133 (by decide) ?_
              refine lv_aload_n hx hb dX4_readNumber_134 rfl (lv_at hl 0 rfl) ?_
              refine va_get (D := D) (ci := 4) (v := .int (zR_12.1 5)) (C := RX4) (T := TX4) (N := 8) hx hb hts hin_RX4 hown hK hP 0 rfl rfl 5 (by decide) hk_3 (fun _ h9 => h9) rfl dX4_readNumber_135 ?_
              replace hF := bnd hF
              obtain ⟨zR_37, hc_38, hF⟩ := hF
              refine cl_Vv0 (As := [.int 2, .int (zR_12.1 5)]) (rest := []) ⟨hx, hb, hml, hown, hts⟩ (cwV 2 hts gX4_readNumber_X4_fail rfl rfl rfl (by decide +kernel) ⟨Nat.le_of_ble_eq_true rfl, Nat.le_of_ble_eq_true rfl⟩) (c_X4_fail l D ci aR_0 aR_1 aRG_0 aRS_0 H.size zR_12 (2 : Int32) (zR_12.1 5) _ hc_38) hK hP hD hS hA 0 rfl rfl rfl rfl hl.1 (Nat.le_of_ble_eq_true rfl) dX4_readNumber_138 (Nat.zero_le _) (Nat.zero_le _) (fun H locs hP hD hS => ?_)
              have hP : va_P D vwCl (wcR ci aR_0 aR_1 aRG_0 aRS_0 zR_37) H := hP
              have hD : va_D A (wcR ci aR_0 aR_1 aRG_0 aRS_0 zR_37) := hD
              refine lv_iload_n hx hb dX4_readNumber_141 rfl (lv_at hl 3 rfl) ?_
              obtain rfl := Option.some.inj hF
              exact W.iret (v := v3_11) hx hb hr (fun t ht hW => ⟨⟨_, (), rfl, rfl, by rw [ht]; exact hP, va_K.moved hW.alike hK, hD⟩, hS.F ht⟩) hS.2.2 dX4_readNumber_142
      · replace hF := if_i c_29 hF
        refine lv_aload_n hx hb dX4_readNumber_97 rfl (lv_at hl 0 rfl) ?_
        refine lv_iconst (v := 1) hx hb dX4_readNumber_98 (by decide) ?_
        refine lv_aload_n hx hb dX4_readNumber_99 rfl (lv_at hl 0 rfl) ?_
        refine va_get (D := D) (ci := 4) (v := .int (zR_12.1 4)) (C := RX4) (T := TX4) (N := 8) hx hb hts hin_RX4 hown hK hP 0 rfl rfl 4 (by decide) hk_2 (fun _ h9 => h9) rfl dX4_readNumber_100 ?_
        replace hF := bnd hF
        obtain ⟨zR_39, hc_40, hF⟩ := hF
        refine cl_Vv0 (As := [.int 1, .int (zR_12.1 4)]) (rest := []) ⟨hx, hb, hml, hown, hts⟩ (cwV 2 hts gX4_readNumber_X4_fail rfl rfl rfl (by decide +kernel) ⟨Nat.le_of_ble_eq_true rfl, Nat.le_of_ble_eq_true rfl⟩) (c_X4_fail l D ci aR_0 aR_1 aRG_0 aRS_0 H.size zR_12 (1 : Int32) (zR_12.1 4) _ hc_40) hK hP hD hS hA 0 rfl rfl rfl rfl hl.1 (Nat.le_of_ble_eq_true rfl) dX4_readNumber_103 (Nat.zero_le _) (Nat.zero_le _) (fun H locs hP hD hS => ?_)
        have hP : va_P D vwCl (wcR ci aR_0 aR_1 aRG_0 aRS_0 zR_39) H := hP
        have hD : va_D A (wcR ci aR_0 aR_1 aRG_0 aRS_0 zR_39) := hD
        refine lv_goto (tgt := 141) hx hb dX4_readNumber_106 (by decide) ?_
        refine lv_iload_n hx hb dX4_readNumber_141 rfl (lv_at hl 3 rfl) ?_
        obtain rfl := Option.some.inj hF
        exact W.iret (v := v3_11) hx hb hr (fun t ht hW => ⟨⟨_, (), rfl, rfl, by rw [ht]; exact hP, va_K.moved hW.alike hK, hD⟩, hS.F ht⟩) hS.2.2 dX4_readNumber_142
    · intro J_10
      clear hF
      have hF := hv_28
      refine lpW (σ := Int32 × RS) (I := fun n v H locs ls => L_X4_readNumber_23 p1 p2 n v.1 v.2 = some (v3_11, zR_12) ∧ va_P D vwCl (wcR ci aR_0 aR_1 aRG_0 aRS_0 v.2) H ∧ va_D A (wcR ci aR_0 aR_1 aRG_0 aRS_0 v.2) ∧ va_S A s.heap H locs ∧ lv_has ls 4 [(0, .ref aR_0), (1, .int p1), (2, .int p2), (3, .int v.1)]) 3000 (v3_6, zR_5) (fun _ _ _ _ h => no_none h.1) ⟨hF, hP, hD, hS, lv_sub hl [1, 2, 3, 0] rfl⟩ ?_
      clear hF hP hD hS hl
      intro n ih_9 vq H locs ls hI
      obtain ⟨v3_7, zR_8⟩ := vq
      obtain ⟨hF, hP, hD, hS, hl⟩ := hI
      have hP : va_P D vwCl (wcR ci aR_0 aR_1 aRG_0 aRS_0 zR_8) H := hP
      have hD : va_D A (wcR ci aR_0 aR_1 aRG_0 aRS_0 zR_8) := hD
      have hl : lv_has ls 4 [(0, .ref aR_0), (1, .int p1), (2, .int p2), (3, .int v3_7)] := hl
      replace hF : L_X4_readNumber_23 p1 p2 (n + 1) v3_7 zR_8 = some (v3_11, zR_12) := hF
      rw [L_X4_readNumber_23] at hF
      refine lv_aload_n hx hb dX4_readNumber_23 rfl (lv_at hl 0 rfl) ?_
      refine va_get (D := D) (ci := 4) (v := .int (zR_8.1 4)) (C := RX4) (T := TX4) (N := 8) hx hb hts hin_RX4 hown hK hP 0 rfl rfl 4 (by decide) hk_2 (fun _ h9 => h9) rfl dX4_readNumber_24 ?_
      refine lv_aload_n hx hb dX4_readNumber_27 rfl (lv_at hl 0 rfl) ?_
      refine va_get (D := D) (ci := 4) (v := .int (zR_8.1 3)) (C := RX4) (T := TX4) (N := 8) hx hb hts hin_RX4 hown hK hP 0 rfl rfl 3 (by decide) hk_4 (fun _ h9 => h9) rfl dX4_readNumber_28 ?_
      refine lv_icmp_ge (tgt := 86) hx hb dX4_readNumber_31 (by decide) (fun c_13 => ?_) (fun c_13 => ?_)
      · replace hF := if_i c_13 hF
        obtain ⟨g_14, g_15⟩ : v3_7 = v3_11 ∧ zR_8 = zR_12 := by have h9 := Option.some.inj hF; simpa only [Prod.mk.injEq] using h9
        subst g_14
        subst g_15
        exact J_10 H locs ls ⟨hP, hD, hS, lv_sub hl [0, 1, 2, 3] rfl⟩
      · replace hF := if_o c_13 hF
        refine lv_aload_n hx hb dX4_readNumber_34 rfl (lv_at hl 0 rfl) ?_
        refine va_get (D := D) (ci := 4) (v := .ref aR_1) (C := RX4) (T := TX4) (N := 8) hx hb hts hin_RX4 hown hK hP 0 rfl rfl 0 (by decide) hk_5 (fun _ h9 => h9) rfl dX4_readNumber_35 ?_
        refine lv_aload_n hx hb dX4_readNumber_38 rfl (lv_at hl 0 rfl) ?_
        refine va_get (D := D) (ci := 4) (v := .int (zR_8.1 4)) (C := RX4) (T := TX4) (N := 8) hx hb hts hin_RX4 hown hK hP 0 rfl rfl 4 (by decide) hk_2 (fun _ h9 => h9) rfl dX4_readNumber_39 ?_
        replace hF := ald_i hF
        obtain ⟨hin_16, hF⟩ := hF
        refine va_iald hx hb hK hP 1 0 rfl rfl hin_16 dX4_readNumber_42 ?_
        refine lv_topi (fun x_17 ex_17 => ?_)
        replace hF := nm_i hF ex_17
        replace hF := bnd hF
        obtain ⟨r_18, hc_19, hF⟩ := hF
        refine cl_Sie (As := [.int x_17]) (rest := []) ⟨hx, hb, hml, hown, hts⟩ (va_cwS 1 hts gX4_readNumber_X4_isFigure rfl rfl rfl (by decide +kernel) ⟨Nat.le_of_ble_eq_true rfl, Nat.le_of_ble_eq_true rfl⟩) (c_X4_isFigure l D ci  H.size x_17 _ hc_19) hK hP hD hS hA rfl rfl hl.1 (Nat.le_of_ble_eq_true rfl) dX4_readNumber_43 (Nat.zero_le _) (Nat.zero_le _) (fun H locs hP hD hS => ?_)
        have hP : va_P D vwCl (wcR ci aR_0 aR_1 aRG_0 aRS_0 zR_8) H := hP
        have hD : va_D A (wcR ci aR_0 aR_1 aRG_0 aRS_0 zR_8) := hD
        refine lv_if_eq (tgt := 86) hx hb dX4_readNumber_46 (by decide) (fun c_20 => ?_) (fun c_20 => ?_)
        · replace hF := if_i c_20 hF
          obtain ⟨g_21, g_22⟩ : v3_7 = v3_11 ∧ zR_8 = zR_12 := by have h9 := Option.some.inj hF; simpa only [Prod.mk.injEq] using h9
          subst g_21
          subst g_22
          exact J_10 H locs ls ⟨hP, hD, hS, lv_sub hl [0, 1, 2, 3] rfl⟩
        · replace hF := if_o c_20 hF
          refine lv_sipush (v := 1000) hx hb dX4_readNumber_49 (by decide) ?_
          refine lv_iload_n hx hb dX4_readNumber_52 rfl (lv_at hl 3 rfl) ?_
          refine lv_bipush (v := 10) hx hb dX4_readNumber_53 (by decide) ?_
          refine lv_imul hx hb dX4_readNumber_55 ?_
          refine lv_aload_n hx hb dX4_readNumber_56 rfl (lv_at hl 0 rfl) ?_
          refine va_get (D := D) (ci := 4) (v := .ref aR_1) (C := RX4) (T := TX4) (N := 8) hx hb hts hin_RX4 hown hK hP 0 rfl rfl 0 (by decide) hk_5 (fun _ h9 => h9) rfl dX4_readNumber_57 ?_
          refine lv_aload_n hx hb dX4_readNumber_60 rfl (lv_at hl 0 rfl) ?_
          refine va_get (D := D) (ci := 4) (v := .int (zR_8.1 4)) (C := RX4) (T := TX4) (N := 8) hx hb hts hin_RX4 hown hK hP 0 rfl rfl 4 (by decide) hk_2 (fun _ h9 => h9) rfl dX4_readNumber_61 ?_
          replace hF := ald_i hF
          obtain ⟨hin_23, hF⟩ := hF
          refine va_iald hx hb hK hP 1 0 rfl rfl hin_23 dX4_readNumber_64 ?_
          refine lv_topi (fun x_24 ex_24 => ?_)
          replace hF := nm_i hF ex_24
          refine lv_iadd hx hb dX4_readNumber_65 ?_
          refine lv_bipush (v := 48) hx hb dX4_readNumber_66 (by decide) ?_
          refine lv_isub hx hb dX4_readNumber_68 ?_
          refine va_mmin hx hb (hml.trans hl.1.symm) hown hk_6 hk_7 hk_8 hk_9 (Nat.le_of_ble_eq_true rfl) (Nat.le_of_ble_eq_true rfl) (Nat.zero_le _) (Nat.zero_le _) dX4_readNumber_69 ?_
          refine W.eq (g2 := F0 m 72 ls [.int (imin 1000 (((v3_7 * 10) + x_24) - 48))]) rfl ?_
          refine lv_topi (fun v3_25 ev3_25 => ?_)
          replace hF := nm_i hF ev3_25
          refine lv_istore_n (lv' := [(3, .int v3_25), (0, .ref aR_0), (1, .int p1), (2, .int p2)]) hx hb dX4_readNumber_72 rfl hl (by decide) rfl (fun ls hl => ?_)
          refine lv_aload_n hx hb dX4_readNumber_73 rfl (lv_at hl 1 rfl) ?_
          refine lv_dup hx hb dX4_readNumber_74 rfl ?_
          refine va_get (D := D) (ci := 4) (v := .int (zR_8.1 4)) (C := RX4) (T := TX4) (N := 8) hx hb hts hin_RX4 hown hK hP 0 rfl rfl 4 (by decide) hk_2 (fun _ h9 => h9) rfl dX4_readNumber_75 ?_
          refine lv_iconst (v := 1) hx hb dX4_readNumber_78 (by decide) ?_
          refine lv_iadd hx hb dX4_readNumber_79 ?_
          refine lv_topi (fun f4_26 ef4_26 => ?_)
          replace hF := nm_i hF ef4_26
          refine va_put (D := D) (ci := 4) (v := .int f4_26) (ty := .int) (C := RX4) (T := TX4) (N := 8) hx hb hts hin_RX4 tyX4 tyX4_ok nmX4 hown hK hP hD hS 0 rfl rfl 4 (by decide) hk_2 (fun _ h9 => h9) rfl (by decide +kernel) rfl rfl (Nat.le_of_ble_eq_true rfl) dX4_readNumber_80 (fun H locs hP hD hS => ?_)
          obtain ⟨zR_27, ezR_27⟩ : ∃ y : RS, y = (upd zR_8.1 4 f4_26, zR_8.2) := ⟨_, rfl⟩
          replace hF := nm_i hF ezR_27
          have hP : va_P D vwCl (wcR ci aR_0 aR_1 aRG_0 aRS_0 zR_27) H := by rw [ezR_27]; exact hP
          have hD : va_D A (wcR ci aR_0 aR_1 aRG_0 aRS_0 zR_27) := by rw [ezR_27]; exact hD
          refine lv_goto (tgt := 23) hx hb dX4_readNumber_83 (by decide) ?_
          exact ih_9 (v3_25, zR_27) H locs ls ⟨hF, hP, hD, hS, lv_sub hl [1, 2, 3, 0] rfl⟩
  · replace hF := if_o c_1 hF
    refine lv_iload_n hx hb dX4_readNumber_7 rfl (lv_at hl 1 rfl) ?_
    obtain rfl := Option.some.inj hF
    exact W.iret (v := p1) hx hb hr (fun t ht hW => ⟨⟨_, (), rfl, rfl, by rw [ht]; exact hP, va_K.moved hW.alike hK, hD⟩, hS.F ht⟩) hS.2.2 dX4_readNumber_8
noncomputable def f_X4_readEnd (zR : RS) : Option (RS) := (f_X4_skipBlanks zR).bind fun zR_1 => if (zR_1.1 3) ≤ (zR_1.1 4) then ((f_X4_fail zR_1 (1 : Int32) (zR_1.1 4)).bind fun zR_4 => some zR_4) else (ald 240 zR_1.2 (zR_1.1 4) fun x_7 => if x_7 = 59 then (nm ((zR_1.1 4) + 1) fun f4_11 => nm ((upd zR_1.1 4 f4_11, zR_1.2) : RS) fun zR_12 => some zR_12) else ((f_X4_fail zR_1 (1 : Int32) (zR_1.1 4)).bind fun zR_9 => some zR_9))
set_option maxHeartbeats 4000000 in
set_option maxRecDepth 100000 in
theorem c_X4_readEnd (l : Launch) (D : va_G) (ci : Nat → ClassId) (aR_0 : Nat) (aR_1 : Nat) (aRG_0 : Nat) (aRS_0 : Nat) (sz : Nat) (zR : RS) (res : RS) (hF : f_X4_readEnd zR = some res) : CtV l yX4_readEnd wsX4_readEnd { frames := 1, cells := 0, slots := 0, locals := 22 } [.ref aR_0] D ci (wcR ci aR_0 aR_1 aRG_0 aRS_0 zR) sz (wcR ci aR_0 aR_1 aRG_0 aRS_0 res) := by
  refine Met.ofW (cc := cX4_readEnd) (maxL := 1) (ret := none) (by decide) rfl ?_
  intro p e s m args below meth c s₁ B hml hv
  obtain ⟨rfl, hsz, hP, hK, hD0⟩ := hv
  have hx := B.exec
  have hb := B.bytes
  have hr := B.returns
  have hts := atoms_spec (ws := wsX4_readEnd) B.pre
  have hown : s.vm.findClass RX4 = some m.cls := findClass_of_methodNamed B.named
  have hlocks := B.notSynchronized
  subst hsz
  have hD := hD0.self (sz := s.heap.size)
  generalize hAe : va_A (wcR ci aR_0 aR_1 aRG_0 aRS_0 zR) s.heap.size = A at hD ⊢
  have hA : ∀ q : Nat, s.heap.size ≤ q → A q := fun q h => by rw [← hAe]; exact Or.inr h
  clear hD0 hAe
  have hl := lv_entry ([.ref aR_0]) (n := 1) (Nat.le_of_ble_eq_true rfl)
  rw [lg_entry_eq]
  generalize (lg_sl ([.ref aR_0]) ++ List.replicate (1 - (lg_sl ([.ref aR_0])).length) Slot.unset).toArray = ls at hl ⊢
  have hl : lv_has ls 1 [(0, .ref aR_0)] := hl
  have hP : va_P D vwCl (wcR ci aR_0 aR_1 aRG_0 aRS_0 zR) s.heap := hP
  generalize hH0 : s.heap = H at hP ⊢
  have hS : va_S A s.heap H [] := by rw [← hH0]; exact va_S.rf
  clear hH0
  generalize ([] : List Loc) = locs at hS ⊢
  have hk_0 := hts (.fieldLink RX4 33 "HedgeWar$Reader" "at" "I") (by decide +kernel)
  have hin_RX4 : ∀ w ∈ wsX40, w ∈ wsX4_readEnd := by decide +kernel
  have hk_2 := hts (.fieldLink RX4 46 "HedgeWar$Reader" "letters" "I") (by decide +kernel)
  have hk_3 := hts (.fieldLink RX4 9 "HedgeWar$Reader" "text" "[I") (by decide +kernel)
  unfold f_X4_readEnd at hF
  refine lv_aload_n hx hb dX4_readEnd_0 rfl (lv_at hl 0 rfl) ?_
  replace hF := bnd hF
  obtain ⟨zR_1, hc_2, hF⟩ := hF
  refine cl_Vv0 (As := []) (rest := []) ⟨hx, hb, hml, hown, hts⟩ (cwV 0 hts gX4_readEnd_X4_skipBlanks rfl rfl rfl (by decide +kernel) ⟨Nat.le_of_ble_eq_true rfl, Nat.le_of_ble_eq_true rfl⟩) (c_X4_skipBlanks l D ci aR_0 aR_1 aRG_0 aRS_0 H.size zR _ hc_2) hK hP hD hS hA 0 rfl rfl rfl rfl hl.1 (Nat.le_of_ble_eq_true rfl) dX4_readEnd_1 (Nat.zero_le _) (Nat.zero_le _) (fun H locs hP hD hS => ?_)
  have hP : va_P D vwCl (wcR ci aR_0 aR_1 aRG_0 aRS_0 zR_1) H := hP
  have hD : va_D A (wcR ci aR_0 aR_1 aRG_0 aRS_0 zR_1) := hD
  refine lv_aload_n hx hb dX4_readEnd_4 rfl (lv_at hl 0 rfl) ?_
  refine va_get (D := D) (ci := 4) (v := .int (zR_1.1 4)) (C := RX4) (T := TX4) (N := 8) hx hb hts hin_RX4 hown hK hP 0 rfl rfl 4 (by decide) hk_0 (fun _ h9 => h9) rfl dX4_readEnd_5 ?_
  refine lv_aload_n hx hb dX4_readEnd_8 rfl (lv_at hl 0 rfl) ?_
  refine va_get (D := D) (ci := 4) (v := .int (zR_1.1 3)) (C := RX4) (T := TX4) (N := 8) hx hb hts hin_RX4 hown hK hP 0 rfl rfl 3 (by decide) hk_2 (fun _ h9 => h9) rfl dX4_readEnd_9 ?_
  refine lv_icmp_ge (tgt := 42) hx hb dX4_readEnd_12 (by decide) (fun c_3 => ?_) (fun c_3 => ?_)
  · replace hF := if_i c_3 hF
    refine lv_aload_n hx hb dX4_readEnd_42 rfl (lv_at hl 0 rfl) ?_
    refine lv_iconst (v := 1) hx hb dX4_readEnd_43 (by decide) ?_
    refine lv_aload_n hx hb dX4_readEnd_44 rfl (lv_at hl 0 rfl) ?_
    refine va_get (D := D) (ci := 4) (v := .int (zR_1.1 4)) (C := RX4) (T := TX4) (N := 8) hx hb hts hin_RX4 hown hK hP 0 rfl rfl 4 (by decide) hk_0 (fun _ h9 => h9) rfl dX4_readEnd_45 ?_
    replace hF := bnd hF
    obtain ⟨zR_4, hc_5, hF⟩ := hF
    refine cl_Vv0 (As := [.int 1, .int (zR_1.1 4)]) (rest := []) ⟨hx, hb, hml, hown, hts⟩ (cwV 2 hts gX4_readEnd_X4_fail rfl rfl rfl (by decide +kernel) ⟨Nat.le_of_ble_eq_true rfl, Nat.le_of_ble_eq_true rfl⟩) (c_X4_fail l D ci aR_0 aR_1 aRG_0 aRS_0 H.size zR_1 (1 : Int32) (zR_1.1 4) _ hc_5) hK hP hD hS hA 0 rfl rfl rfl rfl hl.1 (Nat.le_of_ble_eq_true rfl) dX4_readEnd_48 (Nat.zero_le _) (Nat.zero_le _) (fun H locs hP hD hS => ?_)
    have hP : va_P D vwCl (wcR ci aR_0 aR_1 aRG_0 aRS_0 zR_4) H := hP
    have hD : va_D A (wcR ci aR_0 aR_1 aRG_0 aRS_0 zR_4) := hD
    obtain rfl := Option.some.inj hF
    exact W.vret hx hb hr (fun t ht hW => ⟨⟨(), rfl, trivial, by rw [ht]; exact hP, va_K.moved hW.alike hK, hD⟩, hS.F ht⟩) hS.2.2 dX4_readEnd_51
  · replace hF := if_o c_3 hF
    refine lv_aload_n hx hb dX4_readEnd_15 rfl (lv_at hl 0 rfl) ?_
    refine va_get (D := D) (ci := 4) (v := .ref aR_1) (C := RX4) (T := TX4) (N := 8) hx hb hts hin_RX4 hown hK hP 0 rfl rfl 0 (by decide) hk_3 (fun _ h9 => h9) rfl dX4_readEnd_16 ?_
    refine lv_aload_n hx hb dX4_readEnd_19 rfl (lv_at hl 0 rfl) ?_
    refine va_get (D := D) (ci := 4) (v := .int (zR_1.1 4)) (C := RX4) (T := TX4) (N := 8) hx hb hts hin_RX4 hown hK hP 0 rfl rfl 4 (by decide) hk_0 (fun _ h9 => h9) rfl dX4_readEnd_20 ?_
    replace hF := ald_i hF
    obtain ⟨hin_6, hF⟩ := hF
    refine va_iald hx hb hK hP 1 0 rfl rfl hin_6 dX4_readEnd_23 ?_
    refine lv_topi (fun x_7 ex_7 => ?_)
    replace hF := nm_i hF ex_7
    refine lv_bipush (v := 59) hx hb dX4_readEnd_24 (by decide) ?_
    refine lv_icmp_ne (tgt := 42) hx hb dX4_readEnd_26 (by decide) (fun c_8 => ?_) (fun c_8 => ?_)
    · replace hF := if_o c_8 hF
      refine lv_aload_n hx hb dX4_readEnd_42 rfl (lv_at hl 0 rfl) ?_
      refine lv_iconst (v := 1) hx hb dX4_readEnd_43 (by decide) ?_
      refine lv_aload_n hx hb dX4_readEnd_44 rfl (lv_at hl 0 rfl) ?_
      refine va_get (D := D) (ci := 4) (v := .int (zR_1.1 4)) (C := RX4) (T := TX4) (N := 8) hx hb hts hin_RX4 hown hK hP 0 rfl rfl 4 (by decide) hk_0 (fun _ h9 => h9) rfl dX4_readEnd_45 ?_
      replace hF := bnd hF
      obtain ⟨zR_9, hc_10, hF⟩ := hF
      refine cl_Vv0 (As := [.int 1, .int (zR_1.1 4)]) (rest := []) ⟨hx, hb, hml, hown, hts⟩ (cwV 2 hts gX4_readEnd_X4_fail rfl rfl rfl (by decide +kernel) ⟨Nat.le_of_ble_eq_true rfl, Nat.le_of_ble_eq_true rfl⟩) (c_X4_fail l D ci aR_0 aR_1 aRG_0 aRS_0 H.size zR_1 (1 : Int32) (zR_1.1 4) _ hc_10) hK hP hD hS hA 0 rfl rfl rfl rfl hl.1 (Nat.le_of_ble_eq_true rfl) dX4_readEnd_48 (Nat.zero_le _) (Nat.zero_le _) (fun H locs hP hD hS => ?_)
      have hP : va_P D vwCl (wcR ci aR_0 aR_1 aRG_0 aRS_0 zR_9) H := hP
      have hD : va_D A (wcR ci aR_0 aR_1 aRG_0 aRS_0 zR_9) := hD
      obtain rfl := Option.some.inj hF
      exact W.vret hx hb hr (fun t ht hW => ⟨⟨(), rfl, trivial, by rw [ht]; exact hP, va_K.moved hW.alike hK, hD⟩, hS.F ht⟩) hS.2.2 dX4_readEnd_51
    · replace hF := if_i c_8 hF
      refine lv_aload_n hx hb dX4_readEnd_29 rfl (lv_at hl 0 rfl) ?_
      refine lv_dup hx hb dX4_readEnd_30 rfl ?_
      refine va_get (D := D) (ci := 4) (v := .int (zR_1.1 4)) (C := RX4) (T := TX4) (N := 8) hx hb hts hin_RX4 hown hK hP 0 rfl rfl 4 (by decide) hk_0 (fun _ h9 => h9) rfl dX4_readEnd_31 ?_
      refine lv_iconst (v := 1) hx hb dX4_readEnd_34 (by decide) ?_
      refine lv_iadd hx hb dX4_readEnd_35 ?_
      refine lv_topi (fun f4_11 ef4_11 => ?_)
      replace hF := nm_i hF ef4_11
      refine va_put (D := D) (ci := 4) (v := .int f4_11) (ty := .int) (C := RX4) (T := TX4) (N := 8) hx hb hts hin_RX4 tyX4 tyX4_ok nmX4 hown hK hP hD hS 0 rfl rfl 4 (by decide) hk_0 (fun _ h9 => h9) rfl (by decide +kernel) rfl rfl (Nat.le_of_ble_eq_true rfl) dX4_readEnd_36 (fun H locs hP hD hS => ?_)
      obtain ⟨zR_12, ezR_12⟩ : ∃ y : RS, y = (upd zR_1.1 4 f4_11, zR_1.2) := ⟨_, rfl⟩
      replace hF := nm_i hF ezR_12
      have hP : va_P D vwCl (wcR ci aR_0 aR_1 aRG_0 aRS_0 zR_12) H := by rw [ezR_12]; exact hP
      have hD : va_D A (wcR ci aR_0 aR_1 aRG_0 aRS_0 zR_12) := by rw [ezR_12]; exact hD
      refine lv_goto (tgt := 51) hx hb dX4_readEnd_39 (by decide) ?_
      obtain rfl := Option.some.inj hF
      exact W.vret hx hb hr (fun t ht hW => ⟨⟨(), rfl, trivial, by rw [ht]; exact hP, va_K.moved hW.alike hK, hD⟩, hS.F ht⟩) hS.2.2 dX4_readEnd_51
noncomputable def f_X4_readGround (zR : RS) (zRG : GS) (p1 : Int32) : Option (RS × GS) := (if (zRG.1 2) = 0 then (some (zR : RS)) else ((f_X4_fail zR (3 : Int32) p1).bind fun zR_4 => some (zR_4 : RS))).bind fun zR_1 => (f_X4_readNumber zR_1 (2 : Int32) (5 : Int32)).bind fun q_10 => nm q_10.1 fun r_7 => nm q_10.2 fun zR_8 => (f_X4_readNumber zR_8 (2 : Int32) (5 : Int32)).bind fun q_14 => nm q_14.1 fun r_11 => nm q_14.2 fun zR_12 => (f_X4_readNumber zR_12 (0 : Int32) (9 : Int32)).bind fun q_18 => nm q_18.1 fun r_15 => nm q_18.2 fun zR_16 => if (zR_16.1 6) = 0 then ((f_X0_layOut zRG r_7 r_11 r_15).bind fun zRG_20 => some (zR_16, zRG_20)) else (some (zR_16, zRG))
set_option maxHeartbeats 4000000 in
set_option maxRecDepth 100000 in
theorem c_X4_readGround (l : Launch) (D : va_G) (ci : Nat → ClassId) (aR_0 : Nat) (aR_1 : Nat) (aRG_0 : Nat) (aRS_0 : Nat) (aRG_1 : Nat) (aRG_2 : Nat) (aRG_3 : Nat) (aRG_4 : Nat) (sz : Nat) (zR : RS) (zRG : GS) (p1 : Int32) (res : RS × GS) (hF : f_X4_readGround zR zRG p1 = some res) : CtV l yX4_readGround wsX4_readGround { frames := 2, cells := 0, slots := 0, locals := 49 } [.ref aR_0, .int p1] D ci ((wcR ci aR_0 aR_1 aRG_0 aRS_0 zR) ++ (wcG ci aRG_0 aRG_1 aRG_2 aRG_3 aRG_4 zRG)) sz ((wcR ci aR_0 aR_1 aRG_0 aRS_0 res.1) ++ (wcG ci aRG_0 aRG_1 aRG_2 aRG_3 aRG_4 res.2)) := by
  refine Met.ofW (cc := cX4_readGround) (maxL := 5) (ret := none) (by decide) rfl ?_
  intro p e s m args below meth c s₁ B hml hv
  obtain ⟨rfl, hsz, hP, hK, hD0⟩ := hv
  have hx := B.exec
  have hb := B.bytes
  have hr := B.returns
  have hts := atoms_spec (ws := wsX4_readGround) B.pre
  have hown : s.vm.findClass RX4 = some m.cls := findClass_of_methodNamed B.named
  have hlocks := B.notSynchronized
  subst hsz
  have hD := hD0.self (sz := s.heap.size)
  generalize hAe : va_A ((wcR ci aR_0 aR_1 aRG_0 aRS_0 zR) ++ (wcG ci aRG_0 aRG_1 aRG_2 aRG_3 aRG_4 zRG)) s.heap.size = A at hD ⊢
  have hA : ∀ q : Nat, s.heap.size ≤ q → A q := fun q h => by rw [← hAe]; exact Or.inr h
  clear hD0 hAe
  have hl := lv_entry ([.ref aR_0, .int p1]) (n := 5) (Nat.le_of_ble_eq_true rfl)
  rw [lg_entry_eq]
  generalize (lg_sl ([.ref aR_0, .int p1]) ++ List.replicate (5 - (lg_sl ([.ref aR_0, .int p1])).length) Slot.unset).toArray = ls at hl ⊢
  have hl : lv_has ls 5 [(0, .ref aR_0), (1, .int p1)] := hl
  have hP : va_P D vwCl ((wcR ci aR_0 aR_1 aRG_0 aRS_0 zR) ++ (wcG ci aRG_0 aRG_1 aRG_2 aRG_3 aRG_4 zRG)) s.heap := hP
  generalize hH0 : s.heap = H at hP ⊢
  have hS : va_S A s.heap H [] := by rw [← hH0]; exact va_S.rf
  clear hH0
  generalize ([] : List Loc) = locs at hS ⊢
  have hk_0 := hts (.fieldLink RX4 18 "HedgeWar$Reader" "ground" "LHedgeWar$Ground;") (by decide +kernel)
  have hin_RX4 : ∀ w ∈ wsX40, w ∈ wsX4_readGround := by decide +kernel
  have hk_2 := hts (.fieldLink RX4 52 "HedgeWar$Ground" "fields" "I") (by decide +kernel)
  have hin_RX0 : ∀ w ∈ wsX00, w ∈ wsX4_readGround := by decide +kernel
  have hk_4 := hts (.fieldLink RX4 37 "HedgeWar$Reader" "faultNumber" "I") (by decide +kernel)
  unfold f_X4_readGround at hF
  refine lv_aload_n hx hb dX4_readGround_0 rfl (lv_at hl 0 rfl) ?_
  refine va_get (D := D) (ci := 4) (v := .ref aRG_0) (C := RX4) (T := TX4) (N := 8) hx hb hts hin_RX4 hown hK hP 0 rfl rfl 1 (by decide) hk_0 (fun _ h9 => h9) rfl dX4_readGround_1 ?_
  refine va_get (D := D) (ci := 0) (v := .int (zRG.1 2)) (C := RX0) (T := TX0) (N := 13) hx hb hts hin_RX0 hown hK hP 2 rfl rfl 2 (by decide) hk_2 (fun _ h9 => h9) rfl dX4_readGround_4 ?_
  replace hF := bnd hF
  obtain ⟨zR_1, hv_6, hF⟩ := hF
  refine jn (P := fun H locs ls => va_P D vwCl ((wcR ci aR_0 aR_1 aRG_0 aRS_0 zR_1) ++ (wcG ci aRG_0 aRG_1 aRG_2 aRG_3 aRG_4 zRG)) H ∧ va_D A ((wcR ci aR_0 aR_1 aRG_0 aRS_0 zR_1) ++ (wcG ci aRG_0 aRG_1 aRG_2 aRG_3 aRG_4 zRG)) ∧ va_S A s.heap H locs ∧ lv_has ls 5 [(0, .ref aR_0), (1, .int p1)]) (pcJ := 16) (st := []) ?_ ?_
  · intro H locs ls hJ
    obtain ⟨hP, hD, hS, hl⟩ := hJ
    refine lv_aload_n hx hb dX4_readGround_16 rfl (lv_at hl 0 rfl) ?_
    refine lv_iconst (v := 2) hx hb dX4_readGround_17 (by decide) ?_
    refine lv_iconst (v := 5) hx hb dX4_readGround_18 (by decide) ?_
    replace hF := bnd hF
    obtain ⟨q_10, hc_9, hF⟩ := hF
    obtain ⟨r_7, er_7⟩ : ∃ y : Int32, y = q_10.1 := ⟨_, rfl⟩
    replace hF := nm_i hF er_7
    obtain ⟨zR_8, ezR_8⟩ : ∃ y : RS, y = q_10.2 := ⟨_, rfl⟩
    replace hF := nm_i hF ezR_8
    obtain rfl : q_10 = (r_7, zR_8) := by rw [er_7, ezR_8]
    clear er_7
    clear ezR_8
    refine cl_Vi (As := [.int 2, .int 5]) (rest := []) (wc := (wcR ci aR_0 aR_1 aRG_0 aRS_0 zR_1)) (wr := ([2, 3, 4, 5, 6].filterMap (fun i => ((wcR ci aR_0 aR_1 aRG_0 aRS_0 zR_1) ++ (wcG ci aRG_0 aRG_1 aRG_2 aRG_3 aRG_4 zRG))[i]?))) (w1 := (wcR ci aR_0 aR_1 aRG_0 aRS_0 zR_8)) (wn := ((wcR ci aR_0 aR_1 aRG_0 aRS_0 zR_8) ++ (wcG ci aRG_0 aRG_1 aRG_2 aRG_3 aRG_4 zRG))) ⟨hx, hb, hml, hown, hts⟩ (cwV 2 hts gX4_readGround_X4_readNumber rfl rfl rfl (by decide +kernel) ⟨Nat.le_of_ble_eq_true rfl, Nat.le_of_ble_eq_true rfl⟩) (c_X4_readNumber l D ci aR_0 aR_1 aRG_0 aRS_0 H.size zR_1 (2 : Int32) (5 : Int32) _ hc_9) hK hP hD hS hA [0, 1] [2, 3, 4, 5, 6] [5, 6, 0, 1, 2, 3, 4] rfl rfl rfl (by decide) 0 rfl rfl rfl rfl hl.1 (Nat.le_of_ble_eq_true rfl) dX4_readGround_19 (Nat.zero_le _) (Nat.zero_le _) (fun H locs hP hD hS => ?_)
    have hP : va_P D vwCl ((wcR ci aR_0 aR_1 aRG_0 aRS_0 zR_8) ++ (wcG ci aRG_0 aRG_1 aRG_2 aRG_3 aRG_4 zRG)) H := hP
    have hD : va_D A ((wcR ci aR_0 aR_1 aRG_0 aRS_0 zR_8) ++ (wcG ci aRG_0 aRG_1 aRG_2 aRG_3 aRG_4 zRG)) := hD
    refine lv_istore_n (lv' := [(2, .int r_7), (0, .ref aR_0), (1, .int p1)]) hx hb dX4_readGround_22 rfl hl (by decide) rfl (fun ls hl => ?_)
    refine lv_aload_n hx hb dX4_readGround_23 rfl (lv_at hl 1 rfl) ?_
    refine lv_iconst (v := 2) hx hb dX4_readGround_24 (by decide) ?_
    refine lv_iconst (v := 5) hx hb dX4_readGround_25 (by decide) ?_
    replace hF := bnd hF
    obtain ⟨q_14, hc_13, hF⟩ := hF
    obtain ⟨r_11, er_11⟩ : ∃ y : Int32, y = q_14.1 := ⟨_, rfl⟩
    replace hF := nm_i hF er_11
    obtain ⟨zR_12, ezR_12⟩ : ∃ y : RS, y = q_14.2 := ⟨_, rfl⟩
    replace hF := nm_i hF ezR_12
    obtain rfl : q_14 = (r_11, zR_12) := by rw [er_11, ezR_12]
    clear er_11
    clear ezR_12
    refine cl_Vi (As := [.int 2, .int 5]) (rest := []) (wc := (wcR ci aR_0 aR_1 aRG_0 aRS_0 zR_8)) (wr := ([2, 3, 4, 5, 6].filterMap (fun i => ((wcR ci aR_0 aR_1 aRG_0 aRS_0 zR_8) ++ (wcG ci aRG_0 aRG_1 aRG_2 aRG_3 aRG_4 zRG))[i]?))) (w1 := (wcR ci aR_0 aR_1 aRG_0 aRS_0 zR_12)) (wn := ((wcR ci aR_0 aR_1 aRG_0 aRS_0 zR_12) ++ (wcG ci aRG_0 aRG_1 aRG_2 aRG_3 aRG_4 zRG))) ⟨hx, hb, hml, hown, hts⟩ (cwV 2 hts gX4_readGround_X4_readNumber rfl rfl rfl (by decide +kernel) ⟨Nat.le_of_ble_eq_true rfl, Nat.le_of_ble_eq_true rfl⟩) (c_X4_readNumber l D ci aR_0 aR_1 aRG_0 aRS_0 H.size zR_8 (2 : Int32) (5 : Int32) _ hc_13) hK hP hD hS hA [0, 1] [2, 3, 4, 5, 6] [5, 6, 0, 1, 2, 3, 4] rfl rfl rfl (by decide) 0 rfl rfl rfl rfl hl.1 (Nat.le_of_ble_eq_true rfl) dX4_readGround_26 (Nat.zero_le _) (Nat.zero_le _) (fun H locs hP hD hS => ?_)
    have hP : va_P D vwCl ((wcR ci aR_0 aR_1 aRG_0 aRS_0 zR_12) ++ (wcG ci aRG_0 aRG_1 aRG_2 aRG_3 aRG_4 zRG)) H := hP
    have hD : va_D A ((wcR ci aR_0 aR_1 aRG_0 aRS_0 zR_12) ++ (wcG ci aRG_0 aRG_1 aRG_2 aRG_3 aRG_4 zRG)) := hD
    refine lv_istore_n (lv' := [(3, .int r_11), (2, .int r_7), (0, .ref aR_0), (1, .int p1)]) hx hb dX4_readGround_29 rfl hl (by decide) rfl (fun ls hl => ?_)
    refine lv_aload_n hx hb dX4_readGround_30 rfl (lv_at hl 2 rfl) ?_
    refine lv_iconst (v := 0) hx hb dX4_readGround_31 (by decide) ?_
    refine lv_bipush (v := 9) hx hb dX4_readGround_32 (by decide) ?_
    replace hF := bnd hF
    obtain ⟨q_18, hc_17, hF⟩ := hF
    obtain ⟨r_15, er_15⟩ : ∃ y : Int32, y = q_18.1 := ⟨_, rfl⟩
    replace hF := nm_i hF er_15
    obtain ⟨zR_16, ezR_16⟩ : ∃ y : RS, y = q_18.2 := ⟨_, rfl⟩
    replace hF := nm_i hF ezR_16
    obtain rfl : q_18 = (r_15, zR_16) := by rw [er_15, ezR_16]
    clear er_15
    clear ezR_16
    refine cl_Vi (As := [.int 0, .int 9]) (rest := []) (wc := (wcR ci aR_0 aR_1 aRG_0 aRS_0 zR_12)) (wr := ([2, 3, 4, 5, 6].filterMap (fun i => ((wcR ci aR_0 aR_1 aRG_0 aRS_0 zR_12) ++ (wcG ci aRG_0 aRG_1 aRG_2 aRG_3 aRG_4 zRG))[i]?))) (w1 := (wcR ci aR_0 aR_1 aRG_0 aRS_0 zR_16)) (wn := ((wcR ci aR_0 aR_1 aRG_0 aRS_0 zR_16) ++ (wcG ci aRG_0 aRG_1 aRG_2 aRG_3 aRG_4 zRG))) ⟨hx, hb, hml, hown, hts⟩ (cwV 2 hts gX4_readGround_X4_readNumber rfl rfl rfl (by decide +kernel) ⟨Nat.le_of_ble_eq_true rfl, Nat.le_of_ble_eq_true rfl⟩) (c_X4_readNumber l D ci aR_0 aR_1 aRG_0 aRS_0 H.size zR_12 (0 : Int32) (9 : Int32) _ hc_17) hK hP hD hS hA [0, 1] [2, 3, 4, 5, 6] [5, 6, 0, 1, 2, 3, 4] rfl rfl rfl (by decide) 0 rfl rfl rfl rfl hl.1 (Nat.le_of_ble_eq_true rfl) dX4_readGround_34 (Nat.zero_le _) (Nat.zero_le _) (fun H locs hP hD hS => ?_)
    have hP : va_P D vwCl ((wcR ci aR_0 aR_1 aRG_0 aRS_0 zR_16) ++ (wcG ci aRG_0 aRG_1 aRG_2 aRG_3 aRG_4 zRG)) H := hP
    have hD : va_D A ((wcR ci aR_0 aR_1 aRG_0 aRS_0 zR_16) ++ (wcG ci aRG_0 aRG_1 aRG_2 aRG_3 aRG_4 zRG)) := hD
    refine lv_istore (lv' := [(4, .int r_15), (3, .int r_11), (2, .int r_7), (0, .ref aR_0), (1, .int p1)]) hx hb dX4_readGround_37 hl (by decide) rfl (fun ls hl => ?_)
    refine lv_aload_n hx hb dX4_readGround_39 rfl (lv_at hl 3 rfl) ?_
    refine va_get (D := D) (ci := 4) (v := .int (zR_16.1 6)) (C := RX4) (T := TX4) (N := 8) hx hb hts hin_RX4 hown hK hP 0 rfl rfl 6 (by decide) hk_4 (fun _ h9 => h9) rfl dX4_readGround_40 ?_
    refine lv_if_ne (tgt := 57) hx hb dX4_readGround_43 (by decide) (fun c_19 => ?_) (fun c_19 => ?_)
    · replace hF := if_o c_19 hF
      obtain rfl := Option.some.inj hF
      exact W.vret hx hb hr (fun t ht hW => ⟨⟨(), rfl, trivial, by rw [ht]; exact hP, va_K.moved hW.alike hK, hD⟩, hS.F ht⟩) hS.2.2 dX4_readGround_57
    · replace hF := if_i c_19 hF
      refine lv_aload_n hx hb dX4_readGround_46 rfl (lv_at hl 3 rfl) ?_
      refine va_get (D := D) (ci := 4) (v := .ref aRG_0) (C := RX4) (T := TX4) (N := 8) hx hb hts hin_RX4 hown hK hP 0 rfl rfl 1 (by decide) hk_0 (fun _ h9 => h9) rfl dX4_readGround_47 ?_
      refine lv_iload_n hx hb dX4_readGround_50 rfl (lv_at hl 2 rfl) ?_
      refine lv_iload_n hx hb dX4_readGround_51 rfl (lv_at hl 1 rfl) ?_
      refine lv_iload hx hb dX4_readGround_52 (lv_at hl 0 rfl) ?_
      replace hF := bnd hF
      obtain ⟨zRG_20, hc_21, hF⟩ := hF
      refine cl_Vv (As := [.int r_7, .int r_11, .int r_15]) (rest := []) (wc := (wcG ci aRG_0 aRG_1 aRG_2 aRG_3 aRG_4 zRG)) (wr := ([0, 1].filterMap (fun i => ((wcR ci aR_0 aR_1 aRG_0 aRS_0 zR_16) ++ (wcG ci aRG_0 aRG_1 aRG_2 aRG_3 aRG_4 zRG))[i]?))) (w1 := (wcG ci aRG_0 aRG_1 aRG_2 aRG_3 aRG_4 zRG_20)) (wn := ((wcR ci aR_0 aR_1 aRG_0 aRS_0 zR_16) ++ (wcG ci aRG_0 aRG_1 aRG_2 aRG_3 aRG_4 zRG_20))) ⟨hx, hb, hml, hown, hts⟩ (cwV 3 hts gX4_readGround_X0_layOut rfl rfl rfl (by decide +kernel) ⟨Nat.le_of_ble_eq_true rfl, Nat.le_of_ble_eq_true rfl⟩) (c_X0_layOut l D ci aRG_0 aRG_1 aRG_2 aRG_3 aRG_4 H.size zRG r_7 r_11 r_15 _ hc_21) hK hP hD hS hA [2, 3, 4, 5, 6] [0, 1] [0, 1, 2, 3, 4, 5, 6] rfl rfl rfl (by decide) 0 rfl rfl rfl rfl hl.1 (Nat.le_of_ble_eq_true rfl) dX4_readGround_54 (Nat.zero_le _) (Nat.zero_le _) (fun H locs hP hD hS => ?_)
      have hP : va_P D vwCl ((wcR ci aR_0 aR_1 aRG_0 aRS_0 zR_16) ++ (wcG ci aRG_0 aRG_1 aRG_2 aRG_3 aRG_4 zRG_20)) H := hP
      have hD : va_D A ((wcR ci aR_0 aR_1 aRG_0 aRS_0 zR_16) ++ (wcG ci aRG_0 aRG_1 aRG_2 aRG_3 aRG_4 zRG_20)) := hD
      obtain rfl := Option.some.inj hF
      exact W.vret hx hb hr (fun t ht hW => ⟨⟨(), rfl, trivial, by rw [ht]; exact hP, va_K.moved hW.alike hK, hD⟩, hS.F ht⟩) hS.2.2 dX4_readGround_57
  · intro J_2
    clear hF
    have hF := hv_6
    refine lv_if_eq (tgt := 16) hx hb dX4_readGround_7 (by decide) (fun c_3 => ?_) (fun c_3 => ?_)
    · replace hF := if_i c_3 hF
      obtain rfl := Option.some.inj hF
      exact J_2 H locs ls ⟨hP, hD, hS, lv_sub hl [0, 1] rfl⟩
    · replace hF := if_o c_3 hF
      refine lv_aload_n hx hb dX4_readGround_10 rfl (lv_at hl 0 rfl) ?_
      refine lv_iconst (v := 3) hx hb dX4_readGround_11 (by decide) ?_
      refine lv_iload_n hx hb dX4_readGround_12 rfl (lv_at hl 1 rfl) ?_
      replace hF := bnd hF
      obtain ⟨zR_4, hc_5, hF⟩ := hF
      refine cl_Vv (As := [.int 3, .int p1]) (rest := []) (wc := (wcR ci aR_0 aR_1 aRG_0 aRS_0 zR)) (wr := ([2, 3, 4, 5, 6].filterMap (fun i => ((wcR ci aR_0 aR_1 aRG_0 aRS_0 zR) ++ (wcG ci aRG_0 aRG_1 aRG_2 aRG_3 aRG_4 zRG))[i]?))) (w1 := (wcR ci aR_0 aR_1 aRG_0 aRS_0 zR_4)) (wn := ((wcR ci aR_0 aR_1 aRG_0 aRS_0 zR_4) ++ (wcG ci aRG_0 aRG_1 aRG_2 aRG_3 aRG_4 zRG))) ⟨hx, hb, hml, hown, hts⟩ (cwV 2 hts gX4_readGround_X4_fail rfl rfl rfl (by decide +kernel) ⟨Nat.le_of_ble_eq_true rfl, Nat.le_of_ble_eq_true rfl⟩) (c_X4_fail l D ci aR_0 aR_1 aRG_0 aRS_0 H.size zR (3 : Int32) p1 _ hc_5) hK hP hD hS hA [0, 1] [2, 3, 4, 5, 6] [5, 6, 0, 1, 2, 3, 4] rfl rfl rfl (by decide) 0 rfl rfl rfl rfl hl.1 (Nat.le_of_ble_eq_true rfl) dX4_readGround_13 (Nat.zero_le _) (Nat.zero_le _) (fun H locs hP hD hS => ?_)
      have hP : va_P D vwCl ((wcR ci aR_0 aR_1 aRG_0 aRS_0 zR_4) ++ (wcG ci aRG_0 aRG_1 aRG_2 aRG_3 aRG_4 zRG)) H := hP
      have hD : va_D A ((wcR ci aR_0 aR_1 aRG_0 aRS_0 zR_4) ++ (wcG ci aRG_0 aRG_1 aRG_2 aRG_3 aRG_4 zRG)) := hD
      obtain rfl := Option.some.inj hF
      exact J_2 H locs ls ⟨hP, hD, hS, lv_sub hl [0, 1] rfl⟩
noncomputable def f_X4_readSoil (zR : RS) (zRG : GS) : Option (RS × GS) := (f_X4_readNumber zR (0 : Int32) ((zRG.1 2) - 1)).bind fun q_4 => nm q_4.1 fun r_1 => nm q_4.2 fun zR_2 => (f_X4_readNumber zR_2 (0 : Int32) (9 : Int32)).bind fun q_8 => nm q_8.1 fun r_5 => nm q_8.2 fun zR_6 => if (zR_6.1 6) = 0 then (ast 25 r_1 <| nm ((zRG.1, zRG.2.1, va_up zRG.2.2.1 9 (upd (zRG.2.2.1 9) (Int32.toNatClampNeg r_1) r_5), zRG.2.2.2) : GS) fun zRG_11 => some (zR_6, zRG_11)) else (some (zR_6, zRG))
set_option maxHeartbeats 4000000 in
set_option maxRecDepth 100000 in
theorem c_X4_readSoil (l : Launch) (D : va_G) (ci : Nat → ClassId) (aR_0 : Nat) (aR_1 : Nat) (aRG_0 : Nat) (aRS_0 : Nat) (aRG_1 : Nat) (aRG_2 : Nat) (aRG_3 : Nat) (aRG_4 : Nat) (sz : Nat) (zR : RS) (zRG : GS) (res : RS × GS) (hF : f_X4_readSoil zR zRG = some res) : CtV l yX4_readSoil wsX4_readSoil { frames := 2, cells := 0, slots := 0, locals := 45 } [.ref aR_0] D ci ((wcR ci aR_0 aR_1 aRG_0 aRS_0 zR) ++ (wcG ci aRG_0 aRG_1 aRG_2 aRG_3 aRG_4 zRG)) sz ((wcR ci aR_0 aR_1 aRG_0 aRS_0 res.1) ++ (wcG ci aRG_0 aRG_1 aRG_2 aRG_3 aRG_4 res.2)) := by
  refine Met.ofW (cc := cX4_readSoil) (maxL := 3) (ret := none) (by decide) rfl ?_
  intro p e s m args below meth c s₁ B hml hv
  obtain ⟨rfl, hsz, hP, hK, hD0⟩ := hv
  have hx := B.exec
  have hb := B.bytes
  have hr := B.returns
  have hts := atoms_spec (ws := wsX4_readSoil) B.pre
  have hown : s.vm.findClass RX4 = some m.cls := findClass_of_methodNamed B.named
  have hlocks := B.notSynchronized
  subst hsz
  have hD := hD0.self (sz := s.heap.size)
  generalize hAe : va_A ((wcR ci aR_0 aR_1 aRG_0 aRS_0 zR) ++ (wcG ci aRG_0 aRG_1 aRG_2 aRG_3 aRG_4 zRG)) s.heap.size = A at hD ⊢
  have hA : ∀ q : Nat, s.heap.size ≤ q → A q := fun q h => by rw [← hAe]; exact Or.inr h
  clear hD0 hAe
  have hl := lv_entry ([.ref aR_0]) (n := 3) (Nat.le_of_ble_eq_true rfl)
  rw [lg_entry_eq]
  generalize (lg_sl ([.ref aR_0]) ++ List.replicate (3 - (lg_sl ([.ref aR_0])).length) Slot.unset).toArray = ls at hl ⊢
  have hl : lv_has ls 3 [(0, .ref aR_0)] := hl
  have hP : va_P D vwCl ((wcR ci aR_0 aR_1 aRG_0 aRS_0 zR) ++ (wcG ci aRG_0 aRG_1 aRG_2 aRG_3 aRG_4 zRG)) s.heap := hP
  generalize hH0 : s.heap = H at hP ⊢
  have hS : va_S A s.heap H [] := by rw [← hH0]; exact va_S.rf
  clear hH0
  generalize ([] : List Loc) = locs at hS ⊢
  have hk_0 := hts (.fieldLink RX4 18 "HedgeWar$Reader" "ground" "LHedgeWar$Ground;") (by decide +kernel)
  have hin_RX4 : ∀ w ∈ wsX40, w ∈ wsX4_readSoil := by decide +kernel
  have hk_2 := hts (.fieldLink RX4 52 "HedgeWar$Ground" "fields" "I") (by decide +kernel)
  have hin_RX0 : ∀ w ∈ wsX00, w ∈ wsX4_readSoil := by decide +kernel
  have hk_4 := hts (.fieldLink RX4 37 "HedgeWar$Reader" "faultNumber" "I") (by decide +kernel)
  have hk_5 := hts (.fieldLink RX4 86 "HedgeWar$Ground" "soils" "[I") (by decide +kernel)
  unfold f_X4_readSoil at hF
  refine lv_aload_n hx hb dX4_readSoil_0 rfl (lv_at hl 0 rfl) ?_
  refine lv_iconst (v := 0) hx hb dX4_readSoil_1 (by decide) ?_
  refine lv_aload_n hx hb dX4_readSoil_2 rfl (lv_at hl 0 rfl) ?_
  refine va_get (D := D) (ci := 4) (v := .ref aRG_0) (C := RX4) (T := TX4) (N := 8) hx hb hts hin_RX4 hown hK hP 0 rfl rfl 1 (by decide) hk_0 (fun _ h9 => h9) rfl dX4_readSoil_3 ?_
  refine va_get (D := D) (ci := 0) (v := .int (zRG.1 2)) (C := RX0) (T := TX0) (N := 13) hx hb hts hin_RX0 hown hK hP 2 rfl rfl 2 (by decide) hk_2 (fun _ h9 => h9) rfl dX4_readSoil_6 ?_
  refine lv_iconst (v := 1) hx hb dX4_readSoil_9 (by decide) ?_
  refine lv_isub hx hb dX4_readSoil_10 ?_
  replace hF := bnd hF
  obtain ⟨q_4, hc_3, hF⟩ := hF
  obtain ⟨r_1, er_1⟩ : ∃ y : Int32, y = q_4.1 := ⟨_, rfl⟩
  replace hF := nm_i hF er_1
  obtain ⟨zR_2, ezR_2⟩ : ∃ y : RS, y = q_4.2 := ⟨_, rfl⟩
  replace hF := nm_i hF ezR_2
  obtain rfl : q_4 = (r_1, zR_2) := by rw [er_1, ezR_2]
  clear er_1
  clear ezR_2
  refine cl_Vi (As := [.int 0, .int ((zRG.1 2) - 1)]) (rest := []) (wc := (wcR ci aR_0 aR_1 aRG_0 aRS_0 zR)) (wr := ([2, 3, 4, 5, 6].filterMap (fun i => ((wcR ci aR_0 aR_1 aRG_0 aRS_0 zR) ++ (wcG ci aRG_0 aRG_1 aRG_2 aRG_3 aRG_4 zRG))[i]?))) (w1 := (wcR ci aR_0 aR_1 aRG_0 aRS_0 zR_2)) (wn := ((wcR ci aR_0 aR_1 aRG_0 aRS_0 zR_2) ++ (wcG ci aRG_0 aRG_1 aRG_2 aRG_3 aRG_4 zRG))) ⟨hx, hb, hml, hown, hts⟩ (cwV 2 hts gX4_readSoil_X4_readNumber rfl rfl rfl (by decide +kernel) ⟨Nat.le_of_ble_eq_true rfl, Nat.le_of_ble_eq_true rfl⟩) (c_X4_readNumber l D ci aR_0 aR_1 aRG_0 aRS_0 H.size zR (0 : Int32) ((zRG.1 2) - 1) _ hc_3) hK hP hD hS hA [0, 1] [2, 3, 4, 5, 6] [5, 6, 0, 1, 2, 3, 4] rfl rfl rfl (by decide) 0 rfl rfl rfl rfl hl.1 (Nat.le_of_ble_eq_true rfl) dX4_readSoil_11 (Nat.zero_le _) (Nat.zero_le _) (fun H locs hP hD hS => ?_)
  have hP : va_P D vwCl ((wcR ci aR_0 aR_1 aRG_0 aRS_0 zR_2) ++ (wcG ci aRG_0 aRG_1 aRG_2 aRG_3 aRG_4 zRG)) H := hP
  have hD : va_D A ((wcR ci aR_0 aR_1 aRG_0 aRS_0 zR_2) ++ (wcG ci aRG_0 aRG_1 aRG_2 aRG_3 aRG_4 zRG)) := hD
  refine lv_istore_n (lv' := [(1, .int r_1), (0, .ref aR_0)]) hx hb dX4_readSoil_14 rfl hl (by decide) rfl (fun ls hl => ?_)
  refine lv_aload_n hx hb dX4_readSoil_15 rfl (lv_at hl 1 rfl) ?_
  refine lv_iconst (v := 0) hx hb dX4_readSoil_16 (by decide) ?_
  refine lv_bipush (v := 9) hx hb dX4_readSoil_17 (by decide) ?_
  replace hF := bnd hF
  obtain ⟨q_8, hc_7, hF⟩ := hF
  obtain ⟨r_5, er_5⟩ : ∃ y : Int32, y = q_8.1 := ⟨_, rfl⟩
  replace hF := nm_i hF er_5
  obtain ⟨zR_6, ezR_6⟩ : ∃ y : RS, y = q_8.2 := ⟨_, rfl⟩
  replace hF := nm_i hF ezR_6
  obtain rfl : q_8 = (r_5, zR_6) := by rw [er_5, ezR_6]
  clear er_5
  clear ezR_6
  refine cl_Vi (As := [.int 0, .int 9]) (rest := []) (wc := (wcR ci aR_0 aR_1 aRG_0 aRS_0 zR_2)) (wr := ([2, 3, 4, 5, 6].filterMap (fun i => ((wcR ci aR_0 aR_1 aRG_0 aRS_0 zR_2) ++ (wcG ci aRG_0 aRG_1 aRG_2 aRG_3 aRG_4 zRG))[i]?))) (w1 := (wcR ci aR_0 aR_1 aRG_0 aRS_0 zR_6)) (wn := ((wcR ci aR_0 aR_1 aRG_0 aRS_0 zR_6) ++ (wcG ci aRG_0 aRG_1 aRG_2 aRG_3 aRG_4 zRG))) ⟨hx, hb, hml, hown, hts⟩ (cwV 2 hts gX4_readSoil_X4_readNumber rfl rfl rfl (by decide +kernel) ⟨Nat.le_of_ble_eq_true rfl, Nat.le_of_ble_eq_true rfl⟩) (c_X4_readNumber l D ci aR_0 aR_1 aRG_0 aRS_0 H.size zR_2 (0 : Int32) (9 : Int32) _ hc_7) hK hP hD hS hA [0, 1] [2, 3, 4, 5, 6] [5, 6, 0, 1, 2, 3, 4] rfl rfl rfl (by decide) 0 rfl rfl rfl rfl hl.1 (Nat.le_of_ble_eq_true rfl) dX4_readSoil_19 (Nat.zero_le _) (Nat.zero_le _) (fun H locs hP hD hS => ?_)
  have hP : va_P D vwCl ((wcR ci aR_0 aR_1 aRG_0 aRS_0 zR_6) ++ (wcG ci aRG_0 aRG_1 aRG_2 aRG_3 aRG_4 zRG)) H := hP
  have hD : va_D A ((wcR ci aR_0 aR_1 aRG_0 aRS_0 zR_6) ++ (wcG ci aRG_0 aRG_1 aRG_2 aRG_3 aRG_4 zRG)) := hD
  refine lv_istore_n (lv' := [(2, .int r_5), (1, .int r_1), (0, .ref aR_0)]) hx hb dX4_readSoil_22 rfl hl (by decide) rfl (fun ls hl => ?_)
  refine lv_aload_n hx hb dX4_readSoil_23 rfl (lv_at hl 2 rfl) ?_
  refine va_get (D := D) (ci := 4) (v := .int (zR_6.1 6)) (C := RX4) (T := TX4) (N := 8) hx hb hts hin_RX4 hown hK hP 0 rfl rfl 6 (by decide) hk_4 (fun _ h9 => h9) rfl dX4_readSoil_24 ?_
  refine lv_if_ne (tgt := 40) hx hb dX4_readSoil_27 (by decide) (fun c_9 => ?_) (fun c_9 => ?_)
  · replace hF := if_o c_9 hF
    obtain rfl := Option.some.inj hF
    exact W.vret hx hb hr (fun t ht hW => ⟨⟨(), rfl, trivial, by rw [ht]; exact hP, va_K.moved hW.alike hK, hD⟩, hS.F ht⟩) hS.2.2 dX4_readSoil_40
  · replace hF := if_i c_9 hF
    refine lv_aload_n hx hb dX4_readSoil_30 rfl (lv_at hl 2 rfl) ?_
    refine va_get (D := D) (ci := 4) (v := .ref aRG_0) (C := RX4) (T := TX4) (N := 8) hx hb hts hin_RX4 hown hK hP 0 rfl rfl 1 (by decide) hk_0 (fun _ h9 => h9) rfl dX4_readSoil_31 ?_
    refine va_get (D := D) (ci := 0) (v := .ref aRG_1) (C := RX0) (T := TX0) (N := 13) hx hb hts hin_RX0 hown hK hP 2 rfl rfl 9 (by decide) hk_5 (fun _ h9 => h9) rfl dX4_readSoil_34 ?_
    refine lv_iload_n hx hb dX4_readSoil_37 rfl (lv_at hl 1 rfl) ?_
    refine lv_iload_n hx hb dX4_readSoil_38 rfl (lv_at hl 0 rfl) ?_
    replace hF := ast_i hF
    obtain ⟨hin_10, hF⟩ := hF
    refine va_iast (x := r_5) hx hb hK hP hD hS 3 0 rfl rfl hin_10 dX4_readSoil_39 (fun H locs hP hD hS => ?_)
    obtain ⟨zRG_11, ezRG_11⟩ : ∃ y : GS, y = (zRG.1, zRG.2.1, va_up zRG.2.2.1 9 (upd (zRG.2.2.1 9) (Int32.toNatClampNeg r_1) r_5), zRG.2.2.2) := ⟨_, rfl⟩
    replace hF := nm_i hF ezRG_11
    have hP : va_P D vwCl ((wcR ci aR_0 aR_1 aRG_0 aRS_0 zR_6) ++ (wcG ci aRG_0 aRG_1 aRG_2 aRG_3 aRG_4 zRG_11)) H := by rw [ezRG_11]; exact hP
    have hD : va_D A ((wcR ci aR_0 aR_1 aRG_0 aRS_0 zR_6) ++ (wcG ci aRG_0 aRG_1 aRG_2 aRG_3 aRG_4 zRG_11)) := by rw [ezRG_11]; exact hD
    obtain rfl := Option.some.inj hF
    exact W.vret hx hb hr (fun t ht hW => ⟨⟨(), rfl, trivial, by rw [ht]; exact hP, va_K.moved hW.alike hK, hD⟩, hS.F ht⟩) hS.2.2 dX4_readSoil_40
noncomputable def f_X4_readOwned (zR : RS) (zRG : GS) (zRS : SS) : Option (RS × SS) := (f_X4_readNumber zR (0 : Int32) ((zRG.1 2) - 1)).bind fun q_4 => nm q_4.1 fun r_1 => nm q_4.2 fun zR_2 => (if (zR_2.1 6) = 0 then ((f_X5_ownerOf zRS r_1).bind fun r_8 => if r_8 = 1 then ((f_X4_fail zR_2 (4 : Int32) (zR_2.1 5)).bind fun zR_11 => some (zR_11 : RS)) else (some (zR_2 : RS))) else (some (zR_2 : RS))).bind fun zR_5 => if (zR_5.1 6) = 0 then (nm ((zRS.2.1 3) ||| ((1 : Int32) <<< (r_1 &&& 31))) fun f3_15 => nm ((zRS.1, upd zRS.2.1 3 f3_15, zRS.2.2) : SS) fun zRS_16 => some (zR_5, zRS_16)) else (some (zR_5, zRS))
set_option maxHeartbeats 4000000 in
set_option maxRecDepth 100000 in
theorem c_X4_readOwned (l : Launch) (D : va_G) (ci : Nat → ClassId) (aR_0 : Nat) (aR_1 : Nat) (aRG_0 : Nat) (aRS_0 : Nat) (aRG_1 : Nat) (aRG_2 : Nat) (aRG_3 : Nat) (aRG_4 : Nat) (aRS_1 : Nat) (sz : Nat) (zR : RS) (zRG : GS) (zRS : SS) (res : RS × SS) (hF : f_X4_readOwned zR zRG zRS = some res) : CtV l yX4_readOwned wsX4_readOwned { frames := 2, cells := 0, slots := 0, locals := 45 } [.ref aR_0] D ci ((wcR ci aR_0 aR_1 aRG_0 aRS_0 zR) ++ ((wcG ci aRG_0 aRG_1 aRG_2 aRG_3 aRG_4 zRG) ++ (wcS ci aRS_0 aRS_1 zRS))) sz ((wcR ci aR_0 aR_1 aRG_0 aRS_0 res.1) ++ ((wcG ci aRG_0 aRG_1 aRG_2 aRG_3 aRG_4 zRG) ++ (wcS ci aRS_0 aRS_1 res.2))) := by
  refine Met.ofW (cc := cX4_readOwned) (maxL := 2) (ret := none) (by decide) rfl ?_
  intro p e s m args below meth c s₁ B hml hv
  obtain ⟨rfl, hsz, hP, hK, hD0⟩ := hv
  have hx := B.exec
  have hb := B.bytes
  have hr := B.returns
  have hts := atoms_spec (ws := wsX4_readOwned) B.pre
  have hown : s.vm.findClass RX4 = some m.cls := findClass_of_methodNamed B.named
  have hlocks := B.notSynchronized
  subst hsz
  have hD := hD0.self (sz := s.heap.size)
  generalize hAe : va_A ((wcR ci aR_0 aR_1 aRG_0 aRS_0 zR) ++ ((wcG ci aRG_0 aRG_1 aRG_2 aRG_3 aRG_4 zRG) ++ (wcS ci aRS_0 aRS_1 zRS))) s.heap.size = A at hD ⊢
  have hA : ∀ q : Nat, s.heap.size ≤ q → A q := fun q h => by rw [← hAe]; exact Or.inr h
  clear hD0 hAe
  have hl := lv_entry ([.ref aR_0]) (n := 2) (Nat.le_of_ble_eq_true rfl)
  rw [lg_entry_eq]
  generalize (lg_sl ([.ref aR_0]) ++ List.replicate (2 - (lg_sl ([.ref aR_0])).length) Slot.unset).toArray = ls at hl ⊢
  have hl : lv_has ls 2 [(0, .ref aR_0)] := hl
  have hP : va_P D vwCl ((wcR ci aR_0 aR_1 aRG_0 aRS_0 zR) ++ ((wcG ci aRG_0 aRG_1 aRG_2 aRG_3 aRG_4 zRG) ++ (wcS ci aRS_0 aRS_1 zRS))) s.heap := hP
  generalize hH0 : s.heap = H at hP ⊢
  have hS : va_S A s.heap H [] := by rw [← hH0]; exact va_S.rf
  clear hH0
  generalize ([] : List Loc) = locs at hS ⊢
  have hk_0 := hts (.fieldLink RX4 18 "HedgeWar$Reader" "ground" "LHedgeWar$Ground;") (by decide +kernel)
  have hin_RX4 : ∀ w ∈ wsX40, w ∈ wsX4_readOwned := by decide +kernel
  have hk_2 := hts (.fieldLink RX4 52 "HedgeWar$Ground" "fields" "I") (by decide +kernel)
  have hin_RX0 : ∀ w ∈ wsX00, w ∈ wsX4_readOwned := by decide +kernel
  have hk_4 := hts (.fieldLink RX4 37 "HedgeWar$Reader" "faultNumber" "I") (by decide +kernel)
  have hk_5 := hts (.fieldLink RX4 25 "HedgeWar$Reader" "stand" "LHedgeWar$Stand;") (by decide +kernel)
  have hk_6 := hts (.fieldLink RX4 93 "HedgeWar$Reader" "numberPlace" "I") (by decide +kernel)
  have hk_7 := hts (.fieldLink RX4 96 "HedgeWar$Stand" "ownedByOne" "I") (by decide +kernel)
  have hin_RX5 : ∀ w ∈ wsX50, w ∈ wsX4_readOwned := by decide +kernel
  unfold f_X4_readOwned at hF
  refine lv_aload_n hx hb dX4_readOwned_0 rfl (lv_at hl 0 rfl) ?_
  refine lv_iconst (v := 0) hx hb dX4_readOwned_1 (by decide) ?_
  refine lv_aload_n hx hb dX4_readOwned_2 rfl (lv_at hl 0 rfl) ?_
  refine va_get (D := D) (ci := 4) (v := .ref aRG_0) (C := RX4) (T := TX4) (N := 8) hx hb hts hin_RX4 hown hK hP 0 rfl rfl 1 (by decide) hk_0 (fun _ h9 => h9) rfl dX4_readOwned_3 ?_
  refine va_get (D := D) (ci := 0) (v := .int (zRG.1 2)) (C := RX0) (T := TX0) (N := 13) hx hb hts hin_RX0 hown hK hP 2 rfl rfl 2 (by decide) hk_2 (fun _ h9 => h9) rfl dX4_readOwned_6 ?_
  refine lv_iconst (v := 1) hx hb dX4_readOwned_9 (by decide) ?_
  refine lv_isub hx hb dX4_readOwned_10 ?_
  replace hF := bnd hF
  obtain ⟨q_4, hc_3, hF⟩ := hF
  obtain ⟨r_1, er_1⟩ : ∃ y : Int32, y = q_4.1 := ⟨_, rfl⟩
  replace hF := nm_i hF er_1
  obtain ⟨zR_2, ezR_2⟩ : ∃ y : RS, y = q_4.2 := ⟨_, rfl⟩
  replace hF := nm_i hF ezR_2
  obtain rfl : q_4 = (r_1, zR_2) := by rw [er_1, ezR_2]
  clear er_1
  clear ezR_2
  refine cl_Vi (As := [.int 0, .int ((zRG.1 2) - 1)]) (rest := []) (wc := (wcR ci aR_0 aR_1 aRG_0 aRS_0 zR)) (wr := ([2, 3, 4, 5, 6, 7, 8].filterMap (fun i => ((wcR ci aR_0 aR_1 aRG_0 aRS_0 zR) ++ ((wcG ci aRG_0 aRG_1 aRG_2 aRG_3 aRG_4 zRG) ++ (wcS ci aRS_0 aRS_1 zRS)))[i]?))) (w1 := (wcR ci aR_0 aR_1 aRG_0 aRS_0 zR_2)) (wn := ((wcR ci aR_0 aR_1 aRG_0 aRS_0 zR_2) ++ ((wcG ci aRG_0 aRG_1 aRG_2 aRG_3 aRG_4 zRG) ++ (wcS ci aRS_0 aRS_1 zRS)))) ⟨hx, hb, hml, hown, hts⟩ (cwV 2 hts gX4_readOwned_X4_readNumber rfl rfl rfl (by decide +kernel) ⟨Nat.le_of_ble_eq_true rfl, Nat.le_of_ble_eq_true rfl⟩) (c_X4_readNumber l D ci aR_0 aR_1 aRG_0 aRS_0 H.size zR (0 : Int32) ((zRG.1 2) - 1) _ hc_3) hK hP hD hS hA [0, 1] [2, 3, 4, 5, 6, 7, 8] [7, 8, 0, 1, 2, 3, 4, 5, 6] rfl rfl rfl (by decide) 0 rfl rfl rfl rfl hl.1 (Nat.le_of_ble_eq_true rfl) dX4_readOwned_11 (Nat.zero_le _) (Nat.zero_le _) (fun H locs hP hD hS => ?_)
  have hP : va_P D vwCl ((wcR ci aR_0 aR_1 aRG_0 aRS_0 zR_2) ++ ((wcG ci aRG_0 aRG_1 aRG_2 aRG_3 aRG_4 zRG) ++ (wcS ci aRS_0 aRS_1 zRS))) H := hP
  have hD : va_D A ((wcR ci aR_0 aR_1 aRG_0 aRS_0 zR_2) ++ ((wcG ci aRG_0 aRG_1 aRG_2 aRG_3 aRG_4 zRG) ++ (wcS ci aRS_0 aRS_1 zRS))) := hD
  refine lv_istore_n (lv' := [(1, .int r_1), (0, .ref aR_0)]) hx hb dX4_readOwned_14 rfl hl (by decide) rfl (fun ls hl => ?_)
  refine lv_aload_n hx hb dX4_readOwned_15 rfl (lv_at hl 1 rfl) ?_
  refine va_get (D := D) (ci := 4) (v := .int (zR_2.1 6)) (C := RX4) (T := TX4) (N := 8) hx hb hts hin_RX4 hown hK hP 0 rfl rfl 6 (by decide) hk_4 (fun _ h9 => h9) rfl dX4_readOwned_16 ?_
  replace hF := bnd hF
  obtain ⟨zR_5, hv_13, hF⟩ := hF
  refine jn (P := fun H locs ls => va_P D vwCl ((wcR ci aR_0 aR_1 aRG_0 aRS_0 zR_5) ++ ((wcG ci aRG_0 aRG_1 aRG_2 aRG_3 aRG_4 zRG) ++ (wcS ci aRS_0 aRS_1 zRS))) H ∧ va_D A ((wcR ci aR_0 aR_1 aRG_0 aRS_0 zR_5) ++ ((wcG ci aRG_0 aRG_1 aRG_2 aRG_3 aRG_4 zRG) ++ (wcS ci aRS_0 aRS_1 zRS))) ∧ va_S A s.heap H locs ∧ lv_has ls 2 [(0, .ref aR_0), (1, .int r_1)]) (pcJ := 43) (st := []) ?_ ?_
  · intro H locs ls hJ
    obtain ⟨hP, hD, hS, hl⟩ := hJ
    refine lv_aload_n hx hb dX4_readOwned_43 rfl (lv_at hl 0 rfl) ?_
    refine va_get (D := D) (ci := 4) (v := .int (zR_5.1 6)) (C := RX4) (T := TX4) (N := 8) hx hb hts hin_RX4 hown hK hP 0 rfl rfl 6 (by decide) hk_4 (fun _ h9 => h9) rfl dX4_readOwned_44 ?_
    refine lv_if_ne (tgt := 65) hx hb dX4_readOwned_47 (by decide) (fun c_14 => ?_) (fun c_14 => ?_)
    · replace hF := if_o c_14 hF
      obtain rfl := Option.some.inj hF
      exact W.vret hx hb hr (fun t ht hW => ⟨⟨(), rfl, trivial, by rw [ht]; exact hP, va_K.moved hW.alike hK, hD⟩, hS.F ht⟩) hS.2.2 dX4_readOwned_65
    · replace hF := if_i c_14 hF
      refine lv_aload_n hx hb dX4_readOwned_50 rfl (lv_at hl 0 rfl) ?_
      refine va_get (D := D) (ci := 4) (v := .ref aRS_0) (C := RX4) (T := TX4) (N := 8) hx hb hts hin_RX4 hown hK hP 0 rfl rfl 2 (by decide) hk_5 (fun _ h9 => h9) rfl dX4_readOwned_51 ?_
      refine lv_dup hx hb dX4_readOwned_54 rfl ?_
      refine va_get (D := D) (ci := 5) (v := .int (zRS.2.1 3)) (C := RX5) (T := TX5) (N := 6) hx hb hts hin_RX5 hown hK hP 7 rfl rfl 3 (by decide) hk_7 (fun _ h9 => h9) rfl dX4_readOwned_55 ?_
      refine lv_iconst (v := 1) hx hb dX4_readOwned_58 (by decide) ?_
      refine lv_iload_n hx hb dX4_readOwned_59 rfl (lv_at hl 1 rfl) ?_
      refine lv_ishl hx hb dX4_readOwned_60 ?_
      refine lv_ior hx hb dX4_readOwned_61 ?_
      refine lv_topi (fun f3_15 ef3_15 => ?_)
      replace hF := nm_i hF ef3_15
      refine va_put (D := D) (ci := 5) (v := .int f3_15) (ty := .int) (C := RX5) (T := TX5) (N := 6) hx hb hts hin_RX5 tyX5 tyX5_ok nmX5 hown hK hP hD hS 7 rfl rfl 3 (by decide) hk_7 (fun _ h9 => h9) rfl (by decide +kernel) rfl rfl (Nat.le_of_ble_eq_true rfl) dX4_readOwned_62 (fun H locs hP hD hS => ?_)
      obtain ⟨zRS_16, ezRS_16⟩ : ∃ y : SS, y = (zRS.1, upd zRS.2.1 3 f3_15, zRS.2.2) := ⟨_, rfl⟩
      replace hF := nm_i hF ezRS_16
      have hP : va_P D vwCl ((wcR ci aR_0 aR_1 aRG_0 aRS_0 zR_5) ++ ((wcG ci aRG_0 aRG_1 aRG_2 aRG_3 aRG_4 zRG) ++ (wcS ci aRS_0 aRS_1 zRS_16))) H := by rw [ezRS_16]; exact hP
      have hD : va_D A ((wcR ci aR_0 aR_1 aRG_0 aRS_0 zR_5) ++ ((wcG ci aRG_0 aRG_1 aRG_2 aRG_3 aRG_4 zRG) ++ (wcS ci aRS_0 aRS_1 zRS_16))) := by rw [ezRS_16]; exact hD
      obtain rfl := Option.some.inj hF
      exact W.vret hx hb hr (fun t ht hW => ⟨⟨(), rfl, trivial, by rw [ht]; exact hP, va_K.moved hW.alike hK, hD⟩, hS.F ht⟩) hS.2.2 dX4_readOwned_65
  · intro J_6
    clear hF
    have hF := hv_13
    refine lv_if_ne (tgt := 43) hx hb dX4_readOwned_19 (by decide) (fun c_7 => ?_) (fun c_7 => ?_)
    · replace hF := if_o c_7 hF
      obtain rfl := Option.some.inj hF
      exact J_6 H locs ls ⟨hP, hD, hS, lv_sub hl [1, 0] rfl⟩
    · replace hF := if_i c_7 hF
      refine lv_aload_n hx hb dX4_readOwned_22 rfl (lv_at hl 1 rfl) ?_
      refine va_get (D := D) (ci := 4) (v := .ref aRS_0) (C := RX4) (T := TX4) (N := 8) hx hb hts hin_RX4 hown hK hP 0 rfl rfl 2 (by decide) hk_5 (fun _ h9 => h9) rfl dX4_readOwned_23 ?_
      refine lv_iload_n hx hb dX4_readOwned_26 rfl (lv_at hl 0 rfl) ?_
      replace hF := bnd hF
      obtain ⟨r_8, hc_9, hF⟩ := hF
      refine cl_Vi (As := [.int r_1]) (rest := []) (wc := (wcS ci aRS_0 aRS_1 zRS)) (wr := ([0, 1, 2, 3, 4, 5, 6].filterMap (fun i => ((wcR ci aR_0 aR_1 aRG_0 aRS_0 zR_2) ++ ((wcG ci aRG_0 aRG_1 aRG_2 aRG_3 aRG_4 zRG) ++ (wcS ci aRS_0 aRS_1 zRS)))[i]?))) (w1 := (wcS ci aRS_0 aRS_1 zRS)) (wn := ((wcR ci aR_0 aR_1 aRG_0 aRS_0 zR_2) ++ ((wcG ci aRG_0 aRG_1 aRG_2 aRG_3 aRG_4 zRG) ++ (wcS ci aRS_0 aRS_1 zRS)))) ⟨hx, hb, hml, hown, hts⟩ (cwV 1 hts gX4_readOwned_X5_ownerOf rfl rfl rfl (by decide +kernel) ⟨Nat.le_of_ble_eq_true rfl, Nat.le_of_ble_eq_true rfl⟩) (c_X5_ownerOf l D ci aRS_0 aRS_1 H.size zRS r_1 _ hc_9) hK hP hD hS hA [7, 8] [0, 1, 2, 3, 4, 5, 6] [0, 1, 2, 3, 4, 5, 6, 7, 8] rfl rfl rfl (by decide) 0 rfl rfl rfl rfl hl.1 (Nat.le_of_ble_eq_true rfl) dX4_readOwned_27 (Nat.zero_le _) (Nat.zero_le _) (fun H locs hP hD hS => ?_)
      have hP : va_P D vwCl ((wcR ci aR_0 aR_1 aRG_0 aRS_0 zR_2) ++ ((wcG ci aRG_0 aRG_1 aRG_2 aRG_3 aRG_4 zRG) ++ (wcS ci aRS_0 aRS_1 zRS))) H := hP
      have hD : va_D A ((wcR ci aR_0 aR_1 aRG_0 aRS_0 zR_2) ++ ((wcG ci aRG_0 aRG_1 aRG_2 aRG_3 aRG_4 zRG) ++ (wcS ci aRS_0 aRS_1 zRS))) := hD
      refine lv_iconst (v := 1) hx hb dX4_readOwned_30 (by decide) ?_
      refine lv_icmp_ne (tgt := 43) hx hb dX4_readOwned_31 (by decide) (fun c_10 => ?_) (fun c_10 => ?_)
      · replace hF := if_o c_10 hF
        obtain rfl := Option.some.inj hF
        exact J_6 H locs ls ⟨hP, hD, hS, lv_sub hl [1, 0] rfl⟩
      · replace hF := if_i c_10 hF
        refine lv_aload_n hx hb dX4_readOwned_34 rfl (lv_at hl 1 rfl) ?_
        refine lv_iconst (v := 4) hx hb dX4_readOwned_35 (by decide) ?_
        refine lv_aload_n hx hb dX4_readOwned_36 rfl (lv_at hl 1 rfl) ?_
        refine va_get (D := D) (ci := 4) (v := .int (zR_2.1 5)) (C := RX4) (T := TX4) (N := 8) hx hb hts hin_RX4 hown hK hP 0 rfl rfl 5 (by decide) hk_6 (fun _ h9 => h9) rfl dX4_readOwned_37 ?_
        replace hF := bnd hF
        obtain ⟨zR_11, hc_12, hF⟩ := hF
        refine cl_Vv (As := [.int 4, .int (zR_2.1 5)]) (rest := []) (wc := (wcR ci aR_0 aR_1 aRG_0 aRS_0 zR_2)) (wr := ([2, 3, 4, 5, 6, 7, 8].filterMap (fun i => ((wcR ci aR_0 aR_1 aRG_0 aRS_0 zR_2) ++ ((wcG ci aRG_0 aRG_1 aRG_2 aRG_3 aRG_4 zRG) ++ (wcS ci aRS_0 aRS_1 zRS)))[i]?))) (w1 := (wcR ci aR_0 aR_1 aRG_0 aRS_0 zR_11)) (wn := ((wcR ci aR_0 aR_1 aRG_0 aRS_0 zR_11) ++ ((wcG ci aRG_0 aRG_1 aRG_2 aRG_3 aRG_4 zRG) ++ (wcS ci aRS_0 aRS_1 zRS)))) ⟨hx, hb, hml, hown, hts⟩ (cwV 2 hts gX4_readOwned_X4_fail rfl rfl rfl (by decide +kernel) ⟨Nat.le_of_ble_eq_true rfl, Nat.le_of_ble_eq_true rfl⟩) (c_X4_fail l D ci aR_0 aR_1 aRG_0 aRS_0 H.size zR_2 (4 : Int32) (zR_2.1 5) _ hc_12) hK hP hD hS hA [0, 1] [2, 3, 4, 5, 6, 7, 8] [7, 8, 0, 1, 2, 3, 4, 5, 6] rfl rfl rfl (by decide) 0 rfl rfl rfl rfl hl.1 (Nat.le_of_ble_eq_true rfl) dX4_readOwned_40 (Nat.zero_le _) (Nat.zero_le _) (fun H locs hP hD hS => ?_)
        have hP : va_P D vwCl ((wcR ci aR_0 aR_1 aRG_0 aRS_0 zR_11) ++ ((wcG ci aRG_0 aRG_1 aRG_2 aRG_3 aRG_4 zRG) ++ (wcS ci aRS_0 aRS_1 zRS))) H := hP
        have hD : va_D A ((wcR ci aR_0 aR_1 aRG_0 aRS_0 zR_11) ++ ((wcG ci aRG_0 aRG_1 aRG_2 aRG_3 aRG_4 zRG) ++ (wcS ci aRS_0 aRS_1 zRS))) := hD
        obtain rfl := Option.some.inj hF
        exact J_6 H locs ls ⟨hP, hD, hS, lv_sub hl [1, 0] rfl⟩
noncomputable def f_X4_readFreeEdge (zR : RS) (zRG : GS) (zRS : SS) : Option (Int32 × RS) := (f_X4_readNumber zR (0 : Int32) ((zRG.1 3) - 1)).bind fun q_4 => nm q_4.1 fun r_1 => nm q_4.2 fun zR_2 => if (zR_2.1 6) = 0 then (ald 40 zRG.2.2.2 r_1 fun x_7 => if (lg_cmp ((zRG.2.1 ||| (zRS.1 0)) &&& x_7) 0) = 0 then (some (r_1, zR_2)) else ((f_X4_fail zR_2 (4 : Int32) (zR_2.1 5)).bind fun zR_9 => some (r_1, zR_9))) else (some (r_1, zR_2))
set_option maxHeartbeats 4000000 in
set_option maxRecDepth 100000 in
theorem c_X4_readFreeEdge (l : Launch) (D : va_G) (ci : Nat → ClassId) (aR_0 : Nat) (aR_1 : Nat) (aRG_0 : Nat) (aRS_0 : Nat) (aRG_1 : Nat) (aRG_2 : Nat) (aRG_3 : Nat) (aRG_4 : Nat) (aRS_1 : Nat) (sz : Nat) (zR : RS) (zRG : GS) (zRS : SS) (res : Int32 × RS) (hF : f_X4_readFreeEdge zR zRG zRS = some res) : CtI l yX4_readFreeEdge wsX4_readFreeEdge { frames := 2, cells := 0, slots := 0, locals := 45 } [.ref aR_0] D ci ((wcR ci aR_0 aR_1 aRG_0 aRS_0 zR) ++ ((wcG ci aRG_0 aRG_1 aRG_2 aRG_3 aRG_4 zRG) ++ (wcS ci aRS_0 aRS_1 zRS))) sz res.1 ((wcR ci aR_0 aR_1 aRG_0 aRS_0 res.2) ++ ((wcG ci aRG_0 aRG_1 aRG_2 aRG_3 aRG_4 zRG) ++ (wcS ci aRS_0 aRS_1 zRS))) := by
  refine Met.ofW (cc := cX4_readFreeEdge) (maxL := 2) (ret := (some .int)) (by decide) rfl ?_
  intro p e s m args below meth c s₁ B hml hv
  obtain ⟨rfl, hsz, hP, hK, hD0⟩ := hv
  have hx := B.exec
  have hb := B.bytes
  have hr := B.returns
  have hts := atoms_spec (ws := wsX4_readFreeEdge) B.pre
  have hown : s.vm.findClass RX4 = some m.cls := findClass_of_methodNamed B.named
  have hlocks := B.notSynchronized
  subst hsz
  have hD := hD0.self (sz := s.heap.size)
  generalize hAe : va_A ((wcR ci aR_0 aR_1 aRG_0 aRS_0 zR) ++ ((wcG ci aRG_0 aRG_1 aRG_2 aRG_3 aRG_4 zRG) ++ (wcS ci aRS_0 aRS_1 zRS))) s.heap.size = A at hD ⊢
  have hA : ∀ q : Nat, s.heap.size ≤ q → A q := fun q h => by rw [← hAe]; exact Or.inr h
  clear hD0 hAe
  have hl := lv_entry ([.ref aR_0]) (n := 2) (Nat.le_of_ble_eq_true rfl)
  rw [lg_entry_eq]
  generalize (lg_sl ([.ref aR_0]) ++ List.replicate (2 - (lg_sl ([.ref aR_0])).length) Slot.unset).toArray = ls at hl ⊢
  have hl : lv_has ls 2 [(0, .ref aR_0)] := hl
  have hP : va_P D vwCl ((wcR ci aR_0 aR_1 aRG_0 aRS_0 zR) ++ ((wcG ci aRG_0 aRG_1 aRG_2 aRG_3 aRG_4 zRG) ++ (wcS ci aRS_0 aRS_1 zRS))) s.heap := hP
  generalize hH0 : s.heap = H at hP ⊢
  have hS : va_S A s.heap H [] := by rw [← hH0]; exact va_S.rf
  clear hH0
  generalize ([] : List Loc) = locs at hS ⊢
  have hk_0 := hts (.fieldLink RX4 18 "HedgeWar$Reader" "ground" "LHedgeWar$Ground;") (by decide +kernel)
  have hin_RX4 : ∀ w ∈ wsX40, w ∈ wsX4_readFreeEdge := by decide +kernel
  have hk_2 := hts (.fieldLink RX4 115 "HedgeWar$Ground" "edges" "I") (by decide +kernel)
  have hin_RX0 : ∀ w ∈ wsX00, w ∈ wsX4_readFreeEdge := by decide +kernel
  have hk_4 := hts (.fieldLink RX4 37 "HedgeWar$Reader" "faultNumber" "I") (by decide +kernel)
  have hk_5 := hts (.fieldLink RX4 103 "HedgeWar$Ground" "paths" "J") (by decide +kernel)
  have hk_6 := hts (.fieldLink RX4 25 "HedgeWar$Reader" "stand" "LHedgeWar$Stand;") (by decide +kernel)
  have hk_7 := hts (.fieldLink RX4 118 "HedgeWar$Stand" "hedges" "J") (by decide +kernel)
  have hin_RX5 : ∀ w ∈ wsX50, w ∈ wsX4_readFreeEdge := by decide +kernel
  have hk_9 := hts (.fieldLink RX4 107 "HedgeWar$Ground" "places" "[J") (by decide +kernel)
  have hk_10 := hts (.fieldLink RX4 93 "HedgeWar$Reader" "numberPlace" "I") (by decide +kernel)
  unfold f_X4_readFreeEdge at hF
  refine lv_aload_n hx hb dX4_readFreeEdge_0 rfl (lv_at hl 0 rfl) ?_
  refine lv_iconst (v := 0) hx hb dX4_readFreeEdge_1 (by decide) ?_
  refine lv_aload_n hx hb dX4_readFreeEdge_2 rfl (lv_at hl 0 rfl) ?_
  refine va_get (D := D) (ci := 4) (v := .ref aRG_0) (C := RX4) (T := TX4) (N := 8) hx hb hts hin_RX4 hown hK hP 0 rfl rfl 1 (by decide) hk_0 (fun _ h9 => h9) rfl dX4_readFreeEdge_3 ?_
  refine va_get (D := D) (ci := 0) (v := .int (zRG.1 3)) (C := RX0) (T := TX0) (N := 13) hx hb hts hin_RX0 hown hK hP 2 rfl rfl 3 (by decide) hk_2 (fun _ h9 => h9) rfl dX4_readFreeEdge_6 ?_
  refine lv_iconst (v := 1) hx hb dX4_readFreeEdge_9 (by decide) ?_
  refine lv_isub hx hb dX4_readFreeEdge_10 ?_
  replace hF := bnd hF
  obtain ⟨q_4, hc_3, hF⟩ := hF
  obtain ⟨r_1, er_1⟩ : ∃ y : Int32, y = q_4.1 := ⟨_, rfl⟩
  replace hF := nm_i hF er_1
  obtain ⟨zR_2, ezR_2⟩ : ∃ y : RS, y = q_4.2 := ⟨_, rfl⟩
  replace hF := nm_i hF ezR_2
  obtain rfl : q_4 = (r_1, zR_2) := by rw [er_1, ezR_2]
  clear er_1
  clear ezR_2
  refine cl_Vi (As := [.int 0, .int ((zRG.1 3) - 1)]) (rest := []) (wc := (wcR ci aR_0 aR_1 aRG_0 aRS_0 zR)) (wr := ([2, 3, 4, 5, 6, 7, 8].filterMap (fun i => ((wcR ci aR_0 aR_1 aRG_0 aRS_0 zR) ++ ((wcG ci aRG_0 aRG_1 aRG_2 aRG_3 aRG_4 zRG) ++ (wcS ci aRS_0 aRS_1 zRS)))[i]?))) (w1 := (wcR ci aR_0 aR_1 aRG_0 aRS_0 zR_2)) (wn := ((wcR ci aR_0 aR_1 aRG_0 aRS_0 zR_2) ++ ((wcG ci aRG_0 aRG_1 aRG_2 aRG_3 aRG_4 zRG) ++ (wcS ci aRS_0 aRS_1 zRS)))) ⟨hx, hb, hml, hown, hts⟩ (cwV 2 hts gX4_readFreeEdge_X4_readNumber rfl rfl rfl (by decide +kernel) ⟨Nat.le_of_ble_eq_true rfl, Nat.le_of_ble_eq_true rfl⟩) (c_X4_readNumber l D ci aR_0 aR_1 aRG_0 aRS_0 H.size zR (0 : Int32) ((zRG.1 3) - 1) _ hc_3) hK hP hD hS hA [0, 1] [2, 3, 4, 5, 6, 7, 8] [7, 8, 0, 1, 2, 3, 4, 5, 6] rfl rfl rfl (by decide) 0 rfl rfl rfl rfl hl.1 (Nat.le_of_ble_eq_true rfl) dX4_readFreeEdge_11 (Nat.zero_le _) (Nat.zero_le _) (fun H locs hP hD hS => ?_)
  have hP : va_P D vwCl ((wcR ci aR_0 aR_1 aRG_0 aRS_0 zR_2) ++ ((wcG ci aRG_0 aRG_1 aRG_2 aRG_3 aRG_4 zRG) ++ (wcS ci aRS_0 aRS_1 zRS))) H := hP
  have hD : va_D A ((wcR ci aR_0 aR_1 aRG_0 aRS_0 zR_2) ++ ((wcG ci aRG_0 aRG_1 aRG_2 aRG_3 aRG_4 zRG) ++ (wcS ci aRS_0 aRS_1 zRS))) := hD
  refine lv_istore_n (lv' := [(1, .int r_1), (0, .ref aR_0)]) hx hb dX4_readFreeEdge_14 rfl hl (by decide) rfl (fun ls hl => ?_)
  refine lv_aload_n hx hb dX4_readFreeEdge_15 rfl (lv_at hl 1 rfl) ?_
  refine va_get (D := D) (ci := 4) (v := .int (zR_2.1 6)) (C := RX4) (T := TX4) (N := 8) hx hb hts hin_RX4 hown hK hP 0 rfl rfl 6 (by decide) hk_4 (fun _ h9 => h9) rfl dX4_readFreeEdge_16 ?_
  refine lv_if_ne (tgt := 61) hx hb dX4_readFreeEdge_19 (by decide) (fun c_5 => ?_) (fun c_5 => ?_)
  · replace hF := if_o c_5 hF
    refine lv_iload_n hx hb dX4_readFreeEdge_61 rfl (lv_at hl 0 rfl) ?_
    obtain rfl := Option.some.inj hF
    exact W.iret (v := r_1) hx hb hr (fun t ht hW => ⟨⟨_, (), rfl, rfl, by rw [ht]; exact hP, va_K.moved hW.alike hK, hD⟩, hS.F ht⟩) hS.2.2 dX4_readFreeEdge_62
  · replace hF := if_i c_5 hF
    refine lv_aload_n hx hb dX4_readFreeEdge_22 rfl (lv_at hl 1 rfl) ?_
    refine va_get (D := D) (ci := 4) (v := .ref aRG_0) (C := RX4) (T := TX4) (N := 8) hx hb hts hin_RX4 hown hK hP 0 rfl rfl 1 (by decide) hk_0 (fun _ h9 => h9) rfl dX4_readFreeEdge_23 ?_
    refine va_get (D := D) (ci := 0) (v := .long zRG.2.1) (C := RX0) (T := TX0) (N := 13) hx hb hts hin_RX0 hown hK hP 2 rfl rfl 8 (by decide) hk_5 (fun _ h9 => h9) rfl dX4_readFreeEdge_26 ?_
    refine lv_aload_n hx hb dX4_readFreeEdge_29 rfl (lv_at hl 1 rfl) ?_
    refine va_get (D := D) (ci := 4) (v := .ref aRS_0) (C := RX4) (T := TX4) (N := 8) hx hb hts hin_RX4 hown hK hP 0 rfl rfl 2 (by decide) hk_6 (fun _ h9 => h9) rfl dX4_readFreeEdge_30 ?_
    refine va_get (D := D) (ci := 5) (v := .long (zRS.1 0)) (C := RX5) (T := TX5) (N := 6) hx hb hts hin_RX5 hown hK hP 7 rfl rfl 0 (by decide) hk_7 (fun _ h9 => h9) rfl dX4_readFreeEdge_33 ?_
    refine lv_lor hx hb dX4_readFreeEdge_36 ?_
    refine lv_aload_n hx hb dX4_readFreeEdge_37 rfl (lv_at hl 1 rfl) ?_
    refine va_get (D := D) (ci := 4) (v := .ref aRG_0) (C := RX4) (T := TX4) (N := 8) hx hb hts hin_RX4 hown hK hP 0 rfl rfl 1 (by decide) hk_0 (fun _ h9 => h9) rfl dX4_readFreeEdge_38 ?_
    refine va_get (D := D) (ci := 0) (v := .ref aRG_4) (C := RX0) (T := TX0) (N := 13) hx hb hts hin_RX0 hown hK hP 2 rfl rfl 12 (by decide) hk_9 (fun _ h9 => h9) rfl dX4_readFreeEdge_41 ?_
    refine lv_iload_n hx hb dX4_readFreeEdge_44 rfl (lv_at hl 0 rfl) ?_
    replace hF := ald_i hF
    obtain ⟨hin_6, hF⟩ := hF
    refine va_lald hx hb hK hP 6 1 rfl rfl hin_6 dX4_readFreeEdge_45 ?_
    refine lv_topl (fun x_7 ex_7 => ?_)
    replace hF := nm_i hF ex_7
    refine lv_land hx hb dX4_readFreeEdge_46 ?_
    refine lv_lconst (v := 0) hx hb dX4_readFreeEdge_47 (by decide) ?_
    refine W.lcmp hx hb dX4_readFreeEdge_48 ?_
    refine lv_if_eq (tgt := 61) hx hb dX4_readFreeEdge_49 (by decide) (fun c_8 => ?_) (fun c_8 => ?_)
    · replace hF := if_i c_8 hF
      refine lv_iload_n hx hb dX4_readFreeEdge_61 rfl (lv_at hl 0 rfl) ?_
      obtain rfl := Option.some.inj hF
      exact W.iret (v := r_1) hx hb hr (fun t ht hW => ⟨⟨_, (), rfl, rfl, by rw [ht]; exact hP, va_K.moved hW.alike hK, hD⟩, hS.F ht⟩) hS.2.2 dX4_readFreeEdge_62
    · replace hF := if_o c_8 hF
      refine lv_aload_n hx hb dX4_readFreeEdge_52 rfl (lv_at hl 1 rfl) ?_
      refine lv_iconst (v := 4) hx hb dX4_readFreeEdge_53 (by decide) ?_
      refine lv_aload_n hx hb dX4_readFreeEdge_54 rfl (lv_at hl 1 rfl) ?_
      refine va_get (D := D) (ci := 4) (v := .int (zR_2.1 5)) (C := RX4) (T := TX4) (N := 8) hx hb hts hin_RX4 hown hK hP 0 rfl rfl 5 (by decide) hk_10 (fun _ h9 => h9) rfl dX4_readFreeEdge_55 ?_
      replace hF := bnd hF
      obtain ⟨zR_9, hc_10, hF⟩ := hF
      refine cl_Vv (As := [.int 4, .int (zR_2.1 5)]) (rest := []) (wc := (wcR ci aR_0 aR_1 aRG_0 aRS_0 zR_2)) (wr := ([2, 3, 4, 5, 6, 7, 8].filterMap (fun i => ((wcR ci aR_0 aR_1 aRG_0 aRS_0 zR_2) ++ ((wcG ci aRG_0 aRG_1 aRG_2 aRG_3 aRG_4 zRG) ++ (wcS ci aRS_0 aRS_1 zRS)))[i]?))) (w1 := (wcR ci aR_0 aR_1 aRG_0 aRS_0 zR_9)) (wn := ((wcR ci aR_0 aR_1 aRG_0 aRS_0 zR_9) ++ ((wcG ci aRG_0 aRG_1 aRG_2 aRG_3 aRG_4 zRG) ++ (wcS ci aRS_0 aRS_1 zRS)))) ⟨hx, hb, hml, hown, hts⟩ (cwV 2 hts gX4_readFreeEdge_X4_fail rfl rfl rfl (by decide +kernel) ⟨Nat.le_of_ble_eq_true rfl, Nat.le_of_ble_eq_true rfl⟩) (c_X4_fail l D ci aR_0 aR_1 aRG_0 aRS_0 H.size zR_2 (4 : Int32) (zR_2.1 5) _ hc_10) hK hP hD hS hA [0, 1] [2, 3, 4, 5, 6, 7, 8] [7, 8, 0, 1, 2, 3, 4, 5, 6] rfl rfl rfl (by decide) 0 rfl rfl rfl rfl hl.1 (Nat.le_of_ble_eq_true rfl) dX4_readFreeEdge_58 (Nat.zero_le _) (Nat.zero_le _) (fun H locs hP hD hS => ?_)
      have hP : va_P D vwCl ((wcR ci aR_0 aR_1 aRG_0 aRS_0 zR_9) ++ ((wcG ci aRG_0 aRG_1 aRG_2 aRG_3 aRG_4 zRG) ++ (wcS ci aRS_0 aRS_1 zRS))) H := hP
      have hD : va_D A ((wcR ci aR_0 aR_1 aRG_0 aRS_0 zR_9) ++ ((wcG ci aRG_0 aRG_1 aRG_2 aRG_3 aRG_4 zRG) ++ (wcS ci aRS_0 aRS_1 zRS))) := hD
      refine lv_iload_n hx hb dX4_readFreeEdge_61 rfl (lv_at hl 0 rfl) ?_
      obtain rfl := Option.some.inj hF
      exact W.iret (v := r_1) hx hb hr (fun t ht hW => ⟨⟨_, (), rfl, rfl, by rw [ht]; exact hP, va_K.moved hW.alike hK, hD⟩, hS.F ht⟩) hS.2.2 dX4_readFreeEdge_62
noncomputable def f_X4_readPath (zR : RS) (zRG : GS) (zRS : SS) : Option (RS × GS) := (f_X4_readFreeEdge zR zRG zRS).bind fun q_4 => nm q_4.1 fun r_1 => nm q_4.2 fun zR_2 => if (zR_2.1 6) = 0 then (ald 40 zRG.2.2.2 r_1 fun x_7 => nm (zRG.2.1 ||| x_7) fun f8_8 => nm ((zRG.1, f8_8, zRG.2.2) : GS) fun zRG_9 => some (zR_2, zRG_9)) else (some (zR_2, zRG))
set_option maxHeartbeats 4000000 in
set_option maxRecDepth 100000 in
theorem c_X4_readPath (l : Launch) (D : va_G) (ci : Nat → ClassId) (aR_0 : Nat) (aR_1 : Nat) (aRG_0 : Nat) (aRS_0 : Nat) (aRG_1 : Nat) (aRG_2 : Nat) (aRG_3 : Nat) (aRG_4 : Nat) (aRS_1 : Nat) (sz : Nat) (zR : RS) (zRG : GS) (zRS : SS) (res : RS × GS) (hF : f_X4_readPath zR zRG zRS = some res) : CtV l yX4_readPath wsX4_readPath { frames := 3, cells := 0, slots := 0, locals := 66 } [.ref aR_0] D ci ((wcR ci aR_0 aR_1 aRG_0 aRS_0 zR) ++ ((wcG ci aRG_0 aRG_1 aRG_2 aRG_3 aRG_4 zRG) ++ (wcS ci aRS_0 aRS_1 zRS))) sz ((wcR ci aR_0 aR_1 aRG_0 aRS_0 res.1) ++ ((wcG ci aRG_0 aRG_1 aRG_2 aRG_3 aRG_4 res.2) ++ (wcS ci aRS_0 aRS_1 zRS))) := by
  refine Met.ofW (cc := cX4_readPath) (maxL := 2) (ret := none) (by decide) rfl ?_
  intro p e s m args below meth c s₁ B hml hv
  obtain ⟨rfl, hsz, hP, hK, hD0⟩ := hv
  have hx := B.exec
  have hb := B.bytes
  have hr := B.returns
  have hts := atoms_spec (ws := wsX4_readPath) B.pre
  have hown : s.vm.findClass RX4 = some m.cls := findClass_of_methodNamed B.named
  have hlocks := B.notSynchronized
  subst hsz
  have hD := hD0.self (sz := s.heap.size)
  generalize hAe : va_A ((wcR ci aR_0 aR_1 aRG_0 aRS_0 zR) ++ ((wcG ci aRG_0 aRG_1 aRG_2 aRG_3 aRG_4 zRG) ++ (wcS ci aRS_0 aRS_1 zRS))) s.heap.size = A at hD ⊢
  have hA : ∀ q : Nat, s.heap.size ≤ q → A q := fun q h => by rw [← hAe]; exact Or.inr h
  clear hD0 hAe
  have hl := lv_entry ([.ref aR_0]) (n := 2) (Nat.le_of_ble_eq_true rfl)
  rw [lg_entry_eq]
  generalize (lg_sl ([.ref aR_0]) ++ List.replicate (2 - (lg_sl ([.ref aR_0])).length) Slot.unset).toArray = ls at hl ⊢
  have hl : lv_has ls 2 [(0, .ref aR_0)] := hl
  have hP : va_P D vwCl ((wcR ci aR_0 aR_1 aRG_0 aRS_0 zR) ++ ((wcG ci aRG_0 aRG_1 aRG_2 aRG_3 aRG_4 zRG) ++ (wcS ci aRS_0 aRS_1 zRS))) s.heap := hP
  generalize hH0 : s.heap = H at hP ⊢
  have hS : va_S A s.heap H [] := by rw [← hH0]; exact va_S.rf
  clear hH0
  generalize ([] : List Loc) = locs at hS ⊢
  have hk_0 := hts (.fieldLink RX4 37 "HedgeWar$Reader" "faultNumber" "I") (by decide +kernel)
  have hin_RX4 : ∀ w ∈ wsX40, w ∈ wsX4_readPath := by decide +kernel
  have hk_2 := hts (.fieldLink RX4 18 "HedgeWar$Reader" "ground" "LHedgeWar$Ground;") (by decide +kernel)
  have hk_3 := hts (.fieldLink RX4 103 "HedgeWar$Ground" "paths" "J") (by decide +kernel)
  have hin_RX0 : ∀ w ∈ wsX00, w ∈ wsX4_readPath := by decide +kernel
  have hk_5 := hts (.fieldLink RX4 107 "HedgeWar$Ground" "places" "[J") (by decide +kernel)
  unfold f_X4_readPath at hF
  refine lv_aload_n hx hb dX4_readPath_0 rfl (lv_at hl 0 rfl) ?_
  replace hF := bnd hF
  obtain ⟨q_4, hc_3, hF⟩ := hF
  obtain ⟨r_1, er_1⟩ : ∃ y : Int32, y = q_4.1 := ⟨_, rfl⟩
  replace hF := nm_i hF er_1
  obtain ⟨zR_2, ezR_2⟩ : ∃ y : RS, y = q_4.2 := ⟨_, rfl⟩
  replace hF := nm_i hF ezR_2
  obtain rfl : q_4 = (r_1, zR_2) := by rw [er_1, ezR_2]
  clear er_1
  clear ezR_2
  refine cl_Vi0 (As := []) (rest := []) ⟨hx, hb, hml, hown, hts⟩ (cwV 0 hts gX4_readPath_X4_readFreeEdge rfl rfl rfl (by decide +kernel) ⟨Nat.le_of_ble_eq_true rfl, Nat.le_of_ble_eq_true rfl⟩) (c_X4_readFreeEdge l D ci aR_0 aR_1 aRG_0 aRS_0 aRG_1 aRG_2 aRG_3 aRG_4 aRS_1 H.size zR zRG zRS _ hc_3) hK hP hD hS hA 0 rfl rfl rfl rfl hl.1 (Nat.le_of_ble_eq_true rfl) dX4_readPath_1 (Nat.zero_le _) (Nat.zero_le _) (fun H locs hP hD hS => ?_)
  have hP : va_P D vwCl ((wcR ci aR_0 aR_1 aRG_0 aRS_0 zR_2) ++ ((wcG ci aRG_0 aRG_1 aRG_2 aRG_3 aRG_4 zRG) ++ (wcS ci aRS_0 aRS_1 zRS))) H := hP
  have hD : va_D A ((wcR ci aR_0 aR_1 aRG_0 aRS_0 zR_2) ++ ((wcG ci aRG_0 aRG_1 aRG_2 aRG_3 aRG_4 zRG) ++ (wcS ci aRS_0 aRS_1 zRS))) := hD
  refine lv_istore_n (lv' := [(1, .int r_1), (0, .ref aR_0)]) hx hb dX4_readPath_4 rfl hl (by decide) rfl (fun ls hl => ?_)
  refine lv_aload_n hx hb dX4_readPath_5 rfl (lv_at hl 1 rfl) ?_
  refine va_get (D := D) (ci := 4) (v := .int (zR_2.1 6)) (C := RX4) (T := TX4) (N := 8) hx hb hts hin_RX4 hown hK hP 0 rfl rfl 6 (by decide) hk_0 (fun _ h9 => h9) rfl dX4_readPath_6 ?_
  refine lv_if_ne (tgt := 33) hx hb dX4_readPath_9 (by decide) (fun c_5 => ?_) (fun c_5 => ?_)
  · replace hF := if_o c_5 hF
    obtain rfl := Option.some.inj hF
    exact W.vret hx hb hr (fun t ht hW => ⟨⟨(), rfl, trivial, by rw [ht]; exact hP, va_K.moved hW.alike hK, hD⟩, hS.F ht⟩) hS.2.2 dX4_readPath_33
  · replace hF := if_i c_5 hF
    refine lv_aload_n hx hb dX4_readPath_12 rfl (lv_at hl 1 rfl) ?_
    refine va_get (D := D) (ci := 4) (v := .ref aRG_0) (C := RX4) (T := TX4) (N := 8) hx hb hts hin_RX4 hown hK hP 0 rfl rfl 1 (by decide) hk_2 (fun _ h9 => h9) rfl dX4_readPath_13 ?_
    refine lv_dup hx hb dX4_readPath_16 rfl ?_
    refine va_get (D := D) (ci := 0) (v := .long zRG.2.1) (C := RX0) (T := TX0) (N := 13) hx hb hts hin_RX0 hown hK hP 2 rfl rfl 8 (by decide) hk_3 (fun _ h9 => h9) rfl dX4_readPath_17 ?_
    refine lv_aload_n hx hb dX4_readPath_20 rfl (lv_at hl 1 rfl) ?_
    refine va_get (D := D) (ci := 4) (v := .ref aRG_0) (C := RX4) (T := TX4) (N := 8) hx hb hts hin_RX4 hown hK hP 0 rfl rfl 1 (by decide) hk_2 (fun _ h9 => h9) rfl dX4_readPath_21 ?_
    refine va_get (D := D) (ci := 0) (v := .ref aRG_4) (C := RX0) (T := TX0) (N := 13) hx hb hts hin_RX0 hown hK hP 2 rfl rfl 12 (by decide) hk_5 (fun _ h9 => h9) rfl dX4_readPath_24 ?_
    refine lv_iload_n hx hb dX4_readPath_27 rfl (lv_at hl 0 rfl) ?_
    replace hF := ald_i hF
    obtain ⟨hin_6, hF⟩ := hF
    refine va_lald hx hb hK hP 6 1 rfl rfl hin_6 dX4_readPath_28 ?_
    refine lv_topl (fun x_7 ex_7 => ?_)
    replace hF := nm_i hF ex_7
    refine lv_lor hx hb dX4_readPath_29 ?_
    refine lv_topl (fun f8_8 ef8_8 => ?_)
    replace hF := nm_i hF ef8_8
    refine va_put (D := D) (ci := 0) (v := .long f8_8) (ty := .long) (C := RX0) (T := TX0) (N := 13) hx hb hts hin_RX0 tyX0 tyX0_ok nmX0 hown hK hP hD hS 2 rfl rfl 8 (by decide) hk_3 (fun _ h9 => h9) rfl (by decide +kernel) rfl rfl (Nat.le_of_ble_eq_true rfl) dX4_readPath_30 (fun H locs hP hD hS => ?_)
    obtain ⟨zRG_9, ezRG_9⟩ : ∃ y : GS, y = (zRG.1, f8_8, zRG.2.2) := ⟨_, rfl⟩
    replace hF := nm_i hF ezRG_9
    have hP : va_P D vwCl ((wcR ci aR_0 aR_1 aRG_0 aRS_0 zR_2) ++ ((wcG ci aRG_0 aRG_1 aRG_2 aRG_3 aRG_4 zRG_9) ++ (wcS ci aRS_0 aRS_1 zRS))) H := by rw [ezRG_9]; exact hP
    have hD : va_D A ((wcR ci aR_0 aR_1 aRG_0 aRS_0 zR_2) ++ ((wcG ci aRG_0 aRG_1 aRG_2 aRG_3 aRG_4 zRG_9) ++ (wcS ci aRS_0 aRS_1 zRS))) := by rw [ezRG_9]; exact hD
    obtain rfl := Option.some.inj hF
    exact W.vret hx hb hr (fun t ht hW => ⟨⟨(), rfl, trivial, by rw [ht]; exact hP, va_K.moved hW.alike hK, hD⟩, hS.F ht⟩) hS.2.2 dX4_readPath_33
noncomputable def f_X4_readHedge (zR : RS) (zRG : GS) (zRS : SS) : Option (RS × SS) := (f_X4_readFreeEdge zR zRG zRS).bind fun q_4 => nm q_4.1 fun r_1 => nm q_4.2 fun zR_2 => (f_X4_readNumber zR_2 (0 : Int32) (1 : Int32)).bind fun q_8 => nm q_8.1 fun r_5 => nm q_8.2 fun zR_6 => (f_X4_readNumber zR_6 (1 : Int32) (99 : Int32)).bind fun q_12 => nm q_12.1 fun r_9 => nm q_12.2 fun zR_10 => if (zR_10.1 6) = 0 then (ald 40 zRG.2.2.2 r_1 fun x_15 => (f_X5_setHedge zRS r_1 x_15 r_5 r_9).bind fun zRS_16 => some (zR_10, zRS_16)) else (some (zR_10, zRS))
set_option maxHeartbeats 4000000 in
set_option maxRecDepth 100000 in
theorem c_X4_readHedge (l : Launch) (D : va_G) (ci : Nat → ClassId) (aR_0 : Nat) (aR_1 : Nat) (aRG_0 : Nat) (aRS_0 : Nat) (aRG_1 : Nat) (aRG_2 : Nat) (aRG_3 : Nat) (aRG_4 : Nat) (aRS_1 : Nat) (sz : Nat) (zR : RS) (zRG : GS) (zRS : SS) (res : RS × SS) (hF : f_X4_readHedge zR zRG zRS = some res) : CtV l yX4_readHedge wsX4_readHedge { frames := 3, cells := 0, slots := 0, locals := 66 } [.ref aR_0] D ci ((wcR ci aR_0 aR_1 aRG_0 aRS_0 zR) ++ ((wcG ci aRG_0 aRG_1 aRG_2 aRG_3 aRG_4 zRG) ++ (wcS ci aRS_0 aRS_1 zRS))) sz ((wcR ci aR_0 aR_1 aRG_0 aRS_0 res.1) ++ ((wcG ci aRG_0 aRG_1 aRG_2 aRG_3 aRG_4 zRG) ++ (wcS ci aRS_0 aRS_1 res.2))) := by
  refine Met.ofW (cc := cX4_readHedge) (maxL := 4) (ret := none) (by decide) rfl ?_
  intro p e s m args below meth c s₁ B hml hv
  obtain ⟨rfl, hsz, hP, hK, hD0⟩ := hv
  have hx := B.exec
  have hb := B.bytes
  have hr := B.returns
  have hts := atoms_spec (ws := wsX4_readHedge) B.pre
  have hown : s.vm.findClass RX4 = some m.cls := findClass_of_methodNamed B.named
  have hlocks := B.notSynchronized
  subst hsz
  have hD := hD0.self (sz := s.heap.size)
  generalize hAe : va_A ((wcR ci aR_0 aR_1 aRG_0 aRS_0 zR) ++ ((wcG ci aRG_0 aRG_1 aRG_2 aRG_3 aRG_4 zRG) ++ (wcS ci aRS_0 aRS_1 zRS))) s.heap.size = A at hD ⊢
  have hA : ∀ q : Nat, s.heap.size ≤ q → A q := fun q h => by rw [← hAe]; exact Or.inr h
  clear hD0 hAe
  have hl := lv_entry ([.ref aR_0]) (n := 4) (Nat.le_of_ble_eq_true rfl)
  rw [lg_entry_eq]
  generalize (lg_sl ([.ref aR_0]) ++ List.replicate (4 - (lg_sl ([.ref aR_0])).length) Slot.unset).toArray = ls at hl ⊢
  have hl : lv_has ls 4 [(0, .ref aR_0)] := hl
  have hP : va_P D vwCl ((wcR ci aR_0 aR_1 aRG_0 aRS_0 zR) ++ ((wcG ci aRG_0 aRG_1 aRG_2 aRG_3 aRG_4 zRG) ++ (wcS ci aRS_0 aRS_1 zRS))) s.heap := hP
  generalize hH0 : s.heap = H at hP ⊢
  have hS : va_S A s.heap H [] := by rw [← hH0]; exact va_S.rf
  clear hH0
  generalize ([] : List Loc) = locs at hS ⊢
  have hk_0 := hts (.fieldLink RX4 37 "HedgeWar$Reader" "faultNumber" "I") (by decide +kernel)
  have hin_RX4 : ∀ w ∈ wsX40, w ∈ wsX4_readHedge := by decide +kernel
  have hk_2 := hts (.fieldLink RX4 25 "HedgeWar$Reader" "stand" "LHedgeWar$Stand;") (by decide +kernel)
  have hk_3 := hts (.fieldLink RX4 18 "HedgeWar$Reader" "ground" "LHedgeWar$Ground;") (by decide +kernel)
  have hk_4 := hts (.fieldLink RX4 107 "HedgeWar$Ground" "places" "[J") (by decide +kernel)
  have hin_RX0 : ∀ w ∈ wsX00, w ∈ wsX4_readHedge := by decide +kernel
  unfold f_X4_readHedge at hF
  refine lv_aload_n hx hb dX4_readHedge_0 rfl (lv_at hl 0 rfl) ?_
  replace hF := bnd hF
  obtain ⟨q_4, hc_3, hF⟩ := hF
  obtain ⟨r_1, er_1⟩ : ∃ y : Int32, y = q_4.1 := ⟨_, rfl⟩
  replace hF := nm_i hF er_1
  obtain ⟨zR_2, ezR_2⟩ : ∃ y : RS, y = q_4.2 := ⟨_, rfl⟩
  replace hF := nm_i hF ezR_2
  obtain rfl : q_4 = (r_1, zR_2) := by rw [er_1, ezR_2]
  clear er_1
  clear ezR_2
  refine cl_Vi0 (As := []) (rest := []) ⟨hx, hb, hml, hown, hts⟩ (cwV 0 hts gX4_readHedge_X4_readFreeEdge rfl rfl rfl (by decide +kernel) ⟨Nat.le_of_ble_eq_true rfl, Nat.le_of_ble_eq_true rfl⟩) (c_X4_readFreeEdge l D ci aR_0 aR_1 aRG_0 aRS_0 aRG_1 aRG_2 aRG_3 aRG_4 aRS_1 H.size zR zRG zRS _ hc_3) hK hP hD hS hA 0 rfl rfl rfl rfl hl.1 (Nat.le_of_ble_eq_true rfl) dX4_readHedge_1 (Nat.zero_le _) (Nat.zero_le _) (fun H locs hP hD hS => ?_)
  have hP : va_P D vwCl ((wcR ci aR_0 aR_1 aRG_0 aRS_0 zR_2) ++ ((wcG ci aRG_0 aRG_1 aRG_2 aRG_3 aRG_4 zRG) ++ (wcS ci aRS_0 aRS_1 zRS))) H := hP
  have hD : va_D A ((wcR ci aR_0 aR_1 aRG_0 aRS_0 zR_2) ++ ((wcG ci aRG_0 aRG_1 aRG_2 aRG_3 aRG_4 zRG) ++ (wcS ci aRS_0 aRS_1 zRS))) := hD
  refine lv_istore_n (lv' := [(1, .int r_1), (0, .ref aR_0)]) hx hb dX4_readHedge_4 rfl hl (by decide) rfl (fun ls hl => ?_)
  refine lv_aload_n hx hb dX4_readHedge_5 rfl (lv_at hl 1 rfl) ?_
  refine lv_iconst (v := 0) hx hb dX4_readHedge_6 (by decide) ?_
  refine lv_iconst (v := 1) hx hb dX4_readHedge_7 (by decide) ?_
  replace hF := bnd hF
  obtain ⟨q_8, hc_7, hF⟩ := hF
  obtain ⟨r_5, er_5⟩ : ∃ y : Int32, y = q_8.1 := ⟨_, rfl⟩
  replace hF := nm_i hF er_5
  obtain ⟨zR_6, ezR_6⟩ : ∃ y : RS, y = q_8.2 := ⟨_, rfl⟩
  replace hF := nm_i hF ezR_6
  obtain rfl : q_8 = (r_5, zR_6) := by rw [er_5, ezR_6]
  clear er_5
  clear ezR_6
  refine cl_Vi (As := [.int 0, .int 1]) (rest := []) (wc := (wcR ci aR_0 aR_1 aRG_0 aRS_0 zR_2)) (wr := ([2, 3, 4, 5, 6, 7, 8].filterMap (fun i => ((wcR ci aR_0 aR_1 aRG_0 aRS_0 zR_2) ++ ((wcG ci aRG_0 aRG_1 aRG_2 aRG_3 aRG_4 zRG) ++ (wcS ci aRS_0 aRS_1 zRS)))[i]?))) (w1 := (wcR ci aR_0 aR_1 aRG_0 aRS_0 zR_6)) (wn := ((wcR ci aR_0 aR_1 aRG_0 aRS_0 zR_6) ++ ((wcG ci aRG_0 aRG_1 aRG_2 aRG_3 aRG_4 zRG) ++ (wcS ci aRS_0 aRS_1 zRS)))) ⟨hx, hb, hml, hown, hts⟩ (cwV 2 hts gX4_readHedge_X4_readNumber rfl rfl rfl (by decide +kernel) ⟨Nat.le_of_ble_eq_true rfl, Nat.le_of_ble_eq_true rfl⟩) (c_X4_readNumber l D ci aR_0 aR_1 aRG_0 aRS_0 H.size zR_2 (0 : Int32) (1 : Int32) _ hc_7) hK hP hD hS hA [0, 1] [2, 3, 4, 5, 6, 7, 8] [7, 8, 0, 1, 2, 3, 4, 5, 6] rfl rfl rfl (by decide) 0 rfl rfl rfl rfl hl.1 (Nat.le_of_ble_eq_true rfl) dX4_readHedge_8 (Nat.zero_le _) (Nat.zero_le _) (fun H locs hP hD hS => ?_)
  have hP : va_P D vwCl ((wcR ci aR_0 aR_1 aRG_0 aRS_0 zR_6) ++ ((wcG ci aRG_0 aRG_1 aRG_2 aRG_3 aRG_4 zRG) ++ (wcS ci aRS_0 aRS_1 zRS))) H := hP
  have hD : va_D A ((wcR ci aR_0 aR_1 aRG_0 aRS_0 zR_6) ++ ((wcG ci aRG_0 aRG_1 aRG_2 aRG_3 aRG_4 zRG) ++ (wcS ci aRS_0 aRS_1 zRS))) := hD
  refine lv_istore_n (lv' := [(2, .int r_5), (1, .int r_1), (0, .ref aR_0)]) hx hb dX4_readHedge_11 rfl hl (by decide) rfl (fun ls hl => ?_)
  refine lv_aload_n hx hb dX4_readHedge_12 rfl (lv_at hl 2 rfl) ?_
  refine lv_iconst (v := 1) hx hb dX4_readHedge_13 (by decide) ?_
  refine lv_bipush (v := 99) hx hb dX4_readHedge_14 (by decide) ?_
  replace hF := bnd hF
  obtain ⟨q_12, hc_11, hF⟩ := hF
  obtain ⟨r_9, er_9⟩ : ∃ y : Int32, y = q_12.1 := ⟨_, rfl⟩
  replace hF := nm_i hF er_9
  obtain ⟨zR_10, ezR_10⟩ : ∃ y : RS, y = q_12.2 := ⟨_, rfl⟩
  replace hF := nm_i hF ezR_10
  obtain rfl : q_12 = (r_9, zR_10) := by rw [er_9, ezR_10]
  clear er_9
  clear ezR_10
  refine cl_Vi (As := [.int 1, .int 99]) (rest := []) (wc := (wcR ci aR_0 aR_1 aRG_0 aRS_0 zR_6)) (wr := ([2, 3, 4, 5, 6, 7, 8].filterMap (fun i => ((wcR ci aR_0 aR_1 aRG_0 aRS_0 zR_6) ++ ((wcG ci aRG_0 aRG_1 aRG_2 aRG_3 aRG_4 zRG) ++ (wcS ci aRS_0 aRS_1 zRS)))[i]?))) (w1 := (wcR ci aR_0 aR_1 aRG_0 aRS_0 zR_10)) (wn := ((wcR ci aR_0 aR_1 aRG_0 aRS_0 zR_10) ++ ((wcG ci aRG_0 aRG_1 aRG_2 aRG_3 aRG_4 zRG) ++ (wcS ci aRS_0 aRS_1 zRS)))) ⟨hx, hb, hml, hown, hts⟩ (cwV 2 hts gX4_readHedge_X4_readNumber rfl rfl rfl (by decide +kernel) ⟨Nat.le_of_ble_eq_true rfl, Nat.le_of_ble_eq_true rfl⟩) (c_X4_readNumber l D ci aR_0 aR_1 aRG_0 aRS_0 H.size zR_6 (1 : Int32) (99 : Int32) _ hc_11) hK hP hD hS hA [0, 1] [2, 3, 4, 5, 6, 7, 8] [7, 8, 0, 1, 2, 3, 4, 5, 6] rfl rfl rfl (by decide) 0 rfl rfl rfl rfl hl.1 (Nat.le_of_ble_eq_true rfl) dX4_readHedge_16 (Nat.zero_le _) (Nat.zero_le _) (fun H locs hP hD hS => ?_)
  have hP : va_P D vwCl ((wcR ci aR_0 aR_1 aRG_0 aRS_0 zR_10) ++ ((wcG ci aRG_0 aRG_1 aRG_2 aRG_3 aRG_4 zRG) ++ (wcS ci aRS_0 aRS_1 zRS))) H := hP
  have hD : va_D A ((wcR ci aR_0 aR_1 aRG_0 aRS_0 zR_10) ++ ((wcG ci aRG_0 aRG_1 aRG_2 aRG_3 aRG_4 zRG) ++ (wcS ci aRS_0 aRS_1 zRS))) := hD
  refine lv_istore_n (lv' := [(3, .int r_9), (2, .int r_5), (1, .int r_1), (0, .ref aR_0)]) hx hb dX4_readHedge_19 rfl hl (by decide) rfl (fun ls hl => ?_)
  refine lv_aload_n hx hb dX4_readHedge_20 rfl (lv_at hl 3 rfl) ?_
  refine va_get (D := D) (ci := 4) (v := .int (zR_10.1 6)) (C := RX4) (T := TX4) (N := 8) hx hb hts hin_RX4 hown hK hP 0 rfl rfl 6 (by decide) hk_0 (fun _ h9 => h9) rfl dX4_readHedge_21 ?_
  refine lv_if_ne (tgt := 46) hx hb dX4_readHedge_24 (by decide) (fun c_13 => ?_) (fun c_13 => ?_)
  · replace hF := if_o c_13 hF
    obtain rfl := Option.some.inj hF
    exact W.vret hx hb hr (fun t ht hW => ⟨⟨(), rfl, trivial, by rw [ht]; exact hP, va_K.moved hW.alike hK, hD⟩, hS.F ht⟩) hS.2.2 dX4_readHedge_46
  · replace hF := if_i c_13 hF
    refine lv_aload_n hx hb dX4_readHedge_27 rfl (lv_at hl 3 rfl) ?_
    refine va_get (D := D) (ci := 4) (v := .ref aRS_0) (C := RX4) (T := TX4) (N := 8) hx hb hts hin_RX4 hown hK hP 0 rfl rfl 2 (by decide) hk_2 (fun _ h9 => h9) rfl dX4_readHedge_28 ?_
    refine lv_iload_n hx hb dX4_readHedge_31 rfl (lv_at hl 2 rfl) ?_
    refine lv_aload_n hx hb dX4_readHedge_32 rfl (lv_at hl 3 rfl) ?_
    refine va_get (D := D) (ci := 4) (v := .ref aRG_0) (C := RX4) (T := TX4) (N := 8) hx hb hts hin_RX4 hown hK hP 0 rfl rfl 1 (by decide) hk_3 (fun _ h9 => h9) rfl dX4_readHedge_33 ?_
    refine va_get (D := D) (ci := 0) (v := .ref aRG_4) (C := RX0) (T := TX0) (N := 13) hx hb hts hin_RX0 hown hK hP 2 rfl rfl 12 (by decide) hk_4 (fun _ h9 => h9) rfl dX4_readHedge_36 ?_
    refine lv_iload_n hx hb dX4_readHedge_39 rfl (lv_at hl 2 rfl) ?_
    replace hF := ald_i hF
    obtain ⟨hin_14, hF⟩ := hF
    refine va_lald hx hb hK hP 6 1 rfl rfl hin_14 dX4_readHedge_40 ?_
    refine lv_topl (fun x_15 ex_15 => ?_)
    replace hF := nm_i hF ex_15
    refine lv_iload_n hx hb dX4_readHedge_41 rfl (lv_at hl 1 rfl) ?_
    refine lv_iload_n hx hb dX4_readHedge_42 rfl (lv_at hl 0 rfl) ?_
    replace hF := bnd hF
    obtain ⟨zRS_16, hc_17, hF⟩ := hF
    refine cl_Vv (As := [.int r_1, .long x_15, .int r_5, .int r_9]) (rest := []) (wc := (wcS ci aRS_0 aRS_1 zRS)) (wr := ([0, 1, 2, 3, 4, 5, 6].filterMap (fun i => ((wcR ci aR_0 aR_1 aRG_0 aRS_0 zR_10) ++ ((wcG ci aRG_0 aRG_1 aRG_2 aRG_3 aRG_4 zRG) ++ (wcS ci aRS_0 aRS_1 zRS)))[i]?))) (w1 := (wcS ci aRS_0 aRS_1 zRS_16)) (wn := ((wcR ci aR_0 aR_1 aRG_0 aRS_0 zR_10) ++ ((wcG ci aRG_0 aRG_1 aRG_2 aRG_3 aRG_4 zRG) ++ (wcS ci aRS_0 aRS_1 zRS_16)))) ⟨hx, hb, hml, hown, hts⟩ (cwV 4 hts gX4_readHedge_X5_setHedge rfl rfl rfl (by decide +kernel) ⟨Nat.le_of_ble_eq_true rfl, Nat.le_of_ble_eq_true rfl⟩) (c_X5_setHedge l D ci aRS_0 aRS_1 H.size zRS r_1 x_15 r_5 r_9 _ hc_17) hK hP hD hS hA [7, 8] [0, 1, 2, 3, 4, 5, 6] [0, 1, 2, 3, 4, 5, 6, 7, 8] rfl rfl rfl (by decide) 0 rfl rfl rfl rfl hl.1 (Nat.le_of_ble_eq_true rfl) dX4_readHedge_43 (Nat.zero_le _) (Nat.zero_le _) (fun H locs hP hD hS => ?_)
    have hP : va_P D vwCl ((wcR ci aR_0 aR_1 aRG_0 aRS_0 zR_10) ++ ((wcG ci aRG_0 aRG_1 aRG_2 aRG_3 aRG_4 zRG) ++ (wcS ci aRS_0 aRS_1 zRS_16))) H := hP
    have hD : va_D A ((wcR ci aR_0 aR_1 aRG_0 aRS_0 zR_10) ++ ((wcG ci aRG_0 aRG_1 aRG_2 aRG_3 aRG_4 zRG) ++ (wcS ci aRS_0 aRS_1 zRS_16))) := hD
    obtain rfl := Option.some.inj hF
    exact W.vret hx hb hr (fun t ht hW => ⟨⟨(), rfl, trivial, by rw [ht]; exact hP, va_K.moved hW.alike hK, hD⟩, hS.F ht⟩) hS.2.2 dX4_readHedge_46

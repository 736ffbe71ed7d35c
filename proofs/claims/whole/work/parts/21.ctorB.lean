set_option maxHeartbeats 4000000 in
set_option maxRecDepth 200000 in
theorem c_X3_init (l : Launch) (D : va_G) (ci : Nat → ClassId) (a0 : Nat) (sz : Nat) : CtN l yX3_init wsX3_init { frames := 2, cells := 41, slots := 940, locals := 40 } a0 D ci [(a0, .inr (3, [.null, .int 0, .int 0]))] sz (fun u : Nat → Nat => (wcP ci a0 (u 40) u zP0 ++ wcQ ci u zQ0)) 41 940 := by
  refine Met.ofW (cc := cX3_init) (maxL := 2) (ret := none) (by decide) rfl ?_
  intro p e s m args below meth c s₁ B hml hv
  obtain ⟨rfl, ⟨hsz, hP, hK, hD0⟩, hNW⟩ := hv
  have hx := B.exec
  have hb := B.bytes
  have hr := B.returns
  have hts := atoms_spec (ws := wsX3_init) B.pre
  have hown : s.vm.findClass RX3 = some m.cls := findClass_of_methodNamed B.named
  have hlocks := B.notSynchronized
  have hin : meth.name = "<init>" := (name_of_methodNamed B.named B.method).1
  subst hsz
  have hD := hD0.self (sz := s.heap.size)
  generalize hAe : va_A [(a0, .inr (3, [.null, .int 0, .int 0]))] s.heap.size = A at hD ⊢
  have hA : ∀ q : Nat, s.heap.size ≤ q → A q := fun q h => by rw [← hAe]; exact Or.inr h
  clear hD0 hAe
  have hD : va_D A [(a0, .inr (3, [.null, .int 0, .int 0]))] := hD
  have hl := lv_entry ([.ref a0]) (n := 2) (Nat.le_of_ble_eq_true rfl)
  rw [lg_entry_eq]
  generalize (lg_sl ([.ref a0]) ++ List.replicate (2 - (lg_sl ([.ref a0])).length) Slot.unset).toArray = ls at hl ⊢
  have hl : lv_has ls 2 [(0, .ref a0)] := hl
  have hP : va_P D vwCl [(a0, .inr (3, [.null, .int 0, .int 0]))] s.heap := hP
  generalize hH0 : s.heap = H at hP ⊢
  have hS : va_S A s.heap H [] := by rw [← hH0]; exact va_S.rf
  clear hH0
  generalize ([] : List Loc) = locs at hS ⊢
  have hk_0 := hts (.methodLink RX3 3 objectInit) (by decide +kernel)
  have hk_1 := hts (.instanceMethod objectInit) (by decide +kernel)
  have hk_2 := hts (.code objectInit ⟨#[0xb1]⟩ 1 none) (by decide +kernel)
  have hk_3 := hts (.classLink RX3 9 RX5) (by decide +kernel)
  have hk_4 := hts (.fieldLink RX3 11 "HedgeWar$Past" "stands" "[LHedgeWar$Stand;") (by decide +kernel)
  have hin_RX3 : ∀ w ∈ wsX30, w ∈ wsX3_init := by decide +kernel
  have hk_6 := hts (.instantiable RX5 6) (by decide +kernel)
  have hk_7 := hts (.initialized RX5) (by decide +kernel)
  have hin_RX5 : ∀ w ∈ wsX50, w ∈ wsX3_init := by decide +kernel
  have hk_9 := hts (.instanceMethod yX5_init) (by decide +kernel)
  refine lv_aload_n hx hb dX3_init_0 rfl (lv_at hl 0 rfl) ?_
  refine W.objInit hx hb hown hk_0 hk_1 hk_2 rfl (by rw [hml]; exact hl.1) rfl dX3_init_1 (Nat.le_of_ble_eq_true rfl) (Nat.le_of_ble_eq_true rfl) ?_
  refine W.eq (g2 := F0 m 4 ls []) rfl ?_
  refine lv_aload_n hx hb dX3_init_4 rfl (lv_at hl 0 rfl) ?_
  refine lv_bipush (v := 20) hx hb dX3_init_5 (by decide) ?_
  refine va_newq (C := RX5) (N' := 20) (n := 20) hx hb hown hk_3 hNW.2.1 hK hP hD hS hA (by decide) (by decide) (by show 20 * 4 ≤ 536870912; omega) (Nat.le_of_ble_eq_true rfl) (Nat.le_of_ble_eq_true rfl) dX3_init_7 (fun q_1 cA H hKa hP hD hS => ?_)
  obtain rfl : cA = ci 3 := ci_stand hKa
  clear hKa
  refine W.widen (k := 1) (n := 20) (by decide) (by decide) ?_
  have hP : va_P D vwCl [(a0, .inr (3, [.null, .int 0, .int 0])), (q_1, .inl (ci 3, 20, .inr (.inr (.inr (.inr (fun _ => none))))))] H := hP
  have hD : va_D A [(a0, .inr (3, [.null, .int 0, .int 0])), (q_1, .inl (ci 3, 20, .inr (.inr (.inr (.inr (fun _ => none))))))] := hD
  refine va_putF (D := D) (ci := 3) (v := .ref q_1) (ty := .array (.object "HedgeWar$Stand")) (C := RX3) (T := TX3) (N := 3) hx hb hts hin_RX3 tyX3 tyX3_ok nmX3 hown hK hP hD hS 0 rfl rfl 0 (by decide) hk_4 (fun _ h9 => h9) rfl hin rfl (by decide +kernel) rfl rfl (Nat.le_of_ble_eq_true rfl) dX3_init_10 (fun H locs hP hD hS => ?_)
  have hP : va_P D vwCl [(a0, .inr (3, [.ref q_1, .int 0, .int 0])), (q_1, .inl (ci 3, 20, .inr (.inr (.inr (.inr (fun _ => none))))))] H := hP
  have hD : va_D A [(a0, .inr (3, [.ref q_1, .int 0, .int 0])), (q_1, .inl (ci 3, 20, .inr (.inr (.inr (.inr (fun _ => none))))))] := hD
  refine lv_iconst (v := 0) hx hb dX3_init_13 (by decide) ?_
  refine lv_istore_n (lv' := [(1, .int 0), (0, .ref a0)]) hx hb dX3_init_14 rfl hl (by decide) rfl (fun ls hl => ?_)
  have key : ∀ (n k : Nat) (f : Nat → Option Nat) (us : List (Nat × Nat)) (H : Heap) (locs : List Loc) (ls : Array Slot), k ≤ 20 → 20 < k + n → us.length = k → (∀ j, j < k → f j = some (us.getD j (0, 0)).1) → va_P D vwCl ([(a0, .inr (3, [.ref q_1, .int 0, .int 0])), (q_1, .inl (ci 3, 20, .inr (.inr (.inr (.inr f)))))] ++ stL ci us) H → va_D A ([(a0, .inr (3, [.ref q_1, .int 0, .int 0])), (q_1, .inl (ci 3, 20, .inr (.inr (.inr (.inr f)))))] ++ stL ci us) → va_S A s.heap H locs → lv_has ls 2 [(1, .int (nI k)), (0, .ref a0)] → W p l e (headSpec wsX3_init { frames := 2, cells := 41, slots := 940, locals := 40 }).room s m [Value.ref a0].toArray below meth c H locs (1 + 2 * k) (20 + 46 * k) (MQ below (va_Qv (fun (_ : Nat → Nat) => True) (fun u => Bq D ci A (wcP ci a0 (u 40) u zP0 ++ wcQ ci u zQ0)) A) [Value.ref a0].toArray s 41 940 A) (F0 m 15 ls []) := by
    intro n
    induction n with
    | zero => intro k f us H locs ls h1 h2; omega
    | succ n ih =>
      intro k f us H locs ls h1 h2 hu hf hP hD hS hl
      refine lv_iload_n hx hb dX3_init_15 rfl (lv_at hl 0 rfl) ?_
      refine lv_bipush (v := 20) hx hb dX3_init_16 (by decide) ?_
      refine lv_icmp_ge (tgt := 40) hx hb dX3_init_18 (by decide) (fun c9 => ?_) (fun c9 => ?_)
      · have hk9 : k = 20 := by have h9 : nI 20 ≤ nI k := c9; have := (nI_leI (a := 20) (b := k) (by omega) (by omega)).mp h9; omega
        subst hk9
        obtain ⟨b0, b1, b2, b3, b4, b5, b6, b7, b8, b9, b10, b11, b12, b13, b14, b15, b16, b17, b18, b19, b20, b21, b22, b23, b24, b25, b26, b27, b28, b29, b30, b31, b32, b33, b34, b35, b36, b37, b38, b39, rfl⟩ : ∃ b0 b1 b2 b3 b4 b5 b6 b7 b8 b9 b10 b11 b12 b13 b14 b15 b16 b17 b18 b19 b20 b21 b22 b23 b24 b25 b26 b27 b28 b29 b30 b31 b32 b33 b34 b35 b36 b37 b38 b39 : Nat, us = [(b0, b1), (b2, b3), (b4, b5), (b6, b7), (b8, b9), (b10, b11), (b12, b13), (b14, b15), (b16, b17), (b18, b19), (b20, b21), (b22, b23), (b24, b25), (b26, b27), (b28, b29), (b30, b31), (b32, b33), (b34, b35), (b36, b37), (b38, b39)] := by
          match us, hu with
          | [(x0, x1), (x2, x3), (x4, x5), (x6, x7), (x8, x9), (x10, x11), (x12, x13), (x14, x15), (x16, x17), (x18, x19), (x20, x21), (x22, x23), (x24, x25), (x26, x27), (x28, x29), (x30, x31), (x32, x33), (x34, x35), (x36, x37), (x38, x39)], _ => exact ⟨x0, x1, x2, x3, x4, x5, x6, x7, x8, x9, x10, x11, x12, x13, x14, x15, x16, x17, x18, x19, x20, x21, x22, x23, x24, x25, x26, x27, x28, x29, x30, x31, x32, x33, x34, x35, x36, x37, x38, x39, rfl⟩
        have hP := va_P_arr (k := 1) (fun k => some ((fun k => [b0, b1, b2, b3, b4, b5, b6, b7, b8, b9, b10, b11, b12, b13, b14, b15, b16, b17, b18, b19, b20, b21, b22, b23, b24, b25, b26, b27, b28, b29, b30, b31, b32, b33, b34, b35, b36, b37, b38, b39, q_1].getD k 0) (2 * k))) hP rfl (fun j hj => by rw [hf j hj]; match j, hj with | 0, _ => rfl | 1, _ => rfl | 2, _ => rfl | 3, _ => rfl | 4, _ => rfl | 5, _ => rfl | 6, _ => rfl | 7, _ => rfl | 8, _ => rfl | 9, _ => rfl | 10, _ => rfl | 11, _ => rfl | 12, _ => rfl | 13, _ => rfl | 14, _ => rfl | 15, _ => rfl | 16, _ => rfl | 17, _ => rfl | 18, _ => rfl | 19, _ => rfl | _ + 20, h => exact absurd h (by omega))
        have hD := va_D.set (p := 1) (e := .inl (ci 3, 20, .inr (.inr (.inr (.inr (fun k => some ((fun k => [b0, b1, b2, b3, b4, b5, b6, b7, b8, b9, b10, b11, b12, b13, b14, b15, b16, b17, b18, b19, b20, b21, b22, b23, b24, b25, b26, b27, b28, b29, b30, b31, b32, b33, b34, b35, b36, b37, b38, b39, q_1].getD k 0) (2 * k)))))))) hD rfl
        refine W.widen (k := 41) (n := 940) (by decide) (by decide) ?_
        exact W.vret hx hb hr (fun t ht hW => ⟨⟨(fun k => [b0, b1, b2, b3, b4, b5, b6, b7, b8, b9, b10, b11, b12, b13, b14, b15, b16, b17, b18, b19, b20, b21, b22, b23, b24, b25, b26, b27, b28, b29, b30, b31, b32, b33, b34, b35, b36, b37, b38, b39, q_1].getD k 0), rfl, trivial, by rw [ht]; exact hP, va_K.moved hW.alike hK, hD⟩, hS.F ht⟩) hS.2.2 dX3_init_40
      · have hk9 : k < 20 := by rcases Nat.lt_or_ge k 20 with h | h; exact h; exact absurd (show (20 : Int32) ≤ nI k from nI_le (a := 20) h (by omega)) c9
        refine lv_aload_n hx hb dX3_init_21 rfl (lv_at hl 1 rfl) ?_
        refine va_get (D := D) (ci := 3) (v := .ref q_1) (C := RX3) (T := TX3) (N := 3) hx hb hts hin_RX3 hown hK hP 0 rfl rfl 0 (by decide) hk_4 (fun _ h9 => h9) rfl dX3_init_22 ?_
        refine lv_iload_n hx hb dX3_init_25 rfl (lv_at hl 0 rfl) ?_
        refine va_new (ci := 5) (fs := [.long 0, .long 0, .long 0, .int 0, .int 0, .null]) (C := RX5) (T := TX5) (N := 6) hx hb hts hin_RX5 tyX5 tyX5_ok hown hk_3 hk_6 hk_7 hK hP hD hS hA rfl (fun j hj => by have := hj; match j, hj with | 0, _ => rfl | 1, _ => rfl | 2, _ => rfl | 3, _ => rfl | 4, _ => rfl | 5, _ => rfl) (show _ ≤ 41 by omega) (show _ ≤ 940 by omega) dX3_init_26 (fun qn H hP hD hS => ?_)
        refine lv_dup hx hb dX3_init_29 rfl ?_
        refine cl_N (wr := ([(a0, .inr (3, [.ref q_1, .int 0, .int 0])), (q_1, .inl (ci 3, 20, .inr (.inr (.inr (.inr f)))))] ++ stL ci us)) (wc := [(qn, .inr (5, [.long 0, .long 0, .long 0, .int 0, .int 0, .null]))]) (w1 := fun u : Nat → Nat => (wcS ci qn (u 0) zS0)) (va_runIN (As := []) (rest := [.ref qn, .int (nI k), .ref q_1]) (host := "HedgeWar") ⟨hx, hb, hml, hown, hts⟩ (c_X5_init l D ci qn H.size) ⟨va_cnB 0 hts gX3_init_X5_init_n17 rfl rfl rfl (hNW.1 5 _ rfl) hk_7 (by decide +kernel) ⟨Nat.le_of_ble_eq_true rfl, Nat.le_of_ble_eq_true rfl⟩, rfl, hk_9⟩ (preN hP hD hK hNW) rfl rfl hl.1 rfl (lv_room (Nat.le_of_ble_eq_true rfl)) dX3_init_30 ⟨show _ ≤ 41 by omega, show _ ≤ 940 by omega⟩) hP hD hS hA (fun u H locs hP hD hS => ?_)
        have hl2 : (stL ci us).length = 2 * us.length := stL_len ci us
        have hq9 : (([(a0, .inr (3, [.ref q_1, .int 0, .int 0])), (q_1, .inl (ci 3, 20, .inr (.inr (.inr (.inr f)))))] ++ stL ci us) ++ (wcS ci qn (u 0) zS0))[2 + 2 * k]? = some (qn, .inr (5, [.long (zS0.1 0), .long (zS0.1 1), .long (zS0.1 2), .int (zS0.2.1 3), .int (zS0.2.1 4), .ref (u 0)])) := by rw [List.getElem?_append_right (by simp [hl2]; omega)]; simp only [List.length_append, List.length_cons, List.length_nil, hl2, hu]; rw [show 2 + 2 * k - (0 + 1 + 1 + 2 * k) = 0 by omega]; rfl
        refine va_astq (v := qn) hx hb hK hP hD hS 1 3 (2 + 2 * k) 5 rfl rfl hq9 rfl (vp_in_nI (n := k) (N := 20) (by omega) (by omega)) dX3_init_33 (fun H locs hP hD hS => ?_)
        rw [nI_clamp (show k < 2 ^ 31 by omega)] at hP hD
        have hP : va_P D vwCl ([(a0, .inr (3, [.ref q_1, .int 0, .int 0])), (q_1, .inl (ci 3, 20, .inr (.inr (.inr (.inr (va_up f k (some qn)))))))] ++ stL ci (us ++ [(qn, u 0)])) H := by rw [stL_app, ← List.append_assoc]; exact hP
        have hD : va_D A ([(a0, .inr (3, [.ref q_1, .int 0, .int 0])), (q_1, .inl (ci 3, 20, .inr (.inr (.inr (.inr (va_up f k (some qn)))))))] ++ stL ci (us ++ [(qn, u 0)])) := by rw [stL_app, ← List.append_assoc]; exact hD
        refine lv_iinc (v := nI (k + 1)) (lv' := [(1, .int (nI (k + 1))), (0, .ref a0)]) hx hb dX3_init_34 hl (k := 0) rfl (nI_1 k) (by decide) rfl (fun ls hl => ?_)
        refine lv_goto (tgt := 15) hx hb dX3_init_37 (by decide) ?_
        refine W.widen (k := 1 + 2 * (k + 1)) (n := 20 + 46 * (k + 1)) (by omega) (by omega) ?_
        refine ih (k + 1) (va_up f k (some qn)) (us ++ [(qn, u 0)]) H locs ls (by omega) (by omega) (by simp [hu]) (fun j hj => ?_) hP hD hS hl
        by_cases hjk : j = k
        · subst hjk; simp [va_up, ← hu]
        · have hj2 : j < us.length := by omega
          simp only [va_up, hjk, if_false]; rw [hf j (by omega)]; simp [List.getD, List.getElem?_append_left hj2]
  exact key 21 0 _ [] H locs ls (by decide) (by decide) rfl (fun j hj => absurd hj (Nat.not_lt_zero j)) hP hD hS hl

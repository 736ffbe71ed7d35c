/-! ===== constructors: worlds that grow ===== -/
def nestW : List Cond := [.methodLinkNest RX6 9 yX4_init "HedgeWar", .methodLinkNest RX4 17 yX0_init "HedgeWar", .methodLinkNest RX4 24 yX5_init "HedgeWar", .methodLinkNest RX6 18 yX0_init "HedgeWar", .methodLinkNest RX6 25 yX5_init "HedgeWar", .methodLinkNest RX3 17 yX5_init "HedgeWar", .methodLinkNest RX6 39 yX2_init "HedgeWar", .methodLinkNest RX6 61 yX1_init "HedgeWar", .methodLinkNest RX1 9 yX5_init "HedgeWar"]
/-- the words on private constructors of nest mates; the arrays of references that can be made -/
def NW (U : State) : Prop := (∀ (k : Nat) (q : Cond), nestW[k]? = some q → va_Nw q U) ∧ va_AO "HedgeWar$Stand" U ∧ va_AO "HedgeWar$Image" U
theorem nestW_form : ∀ w ∈ nestW, ∃ (a : String) (i : Nat) (x : MethodName) (h : String), w = .methodLinkNest a i x h := by
  intro w hw
  simp only [nestW, List.mem_cons, List.not_mem_nil, or_false] at hw
  rcases hw with rfl | rfl | rfl | rfl | rfl | rfl | rfl | rfl | rfl <;> exact ⟨_, _, _, _, rfl⟩
theorem NW.warm {s U : State} (hW : s.WarmedH U.vm) (h : NW s) : NW U := by
  refine ⟨fun k w hw => ?_, va_AO.moved hW.alike h.2.1, va_AO.moved hW.alike h.2.2⟩
  obtain ⟨a, i, x, h0, rfl⟩ := nestW_form w (List.mem_of_getElem? hw)
  exact va_Nw.warmM hW (h.1 k _ hw)
theorem NW.same {u U : State} (hvm : u.vm = U.vm) (h : NW u) : NW U := by
  refine ⟨fun k w hw => ?_, va_AO.moved (by rw [hvm]; exact Vm.Alike.refl U.vm) h.2.1, va_AO.moved (by rw [hvm]; exact Vm.Alike.refl U.vm) h.2.2⟩
  obtain ⟨a, i, x, h0, rfl⟩ := nestW_form w (List.mem_of_getElem? hw)
  exact va_Nw.same rfl hvm (h.1 k _ hw)
def CtN {σ : Type} (l : Launch) (y : MethodName) (ws : List Cond) (rm : Room) (b : Nat) (D : va_G) (ci : Nat → ClassId) (W : va_W) (sz : Nat) (W1 : σ → va_W) (mc ms : Nat) : Prop := Met l y ws rm (va_Pc [.ref b] (fun U => Pq D ci W sz U ∧ NW U)) (va_Qv (fun (_ : σ) => True) (fun u => Bq D ci (va_A W sz) (W1 u)) (va_A W sz)) mc ms (va_A W sz)
theorem PN_blind {D : va_G} {ci : Nat → ClassId} {W : va_W} {sz : Nat} {av : List Value} : FrameBlind (va_Pc av (fun U => Pq D ci W sz U ∧ NW U)) := fun a U g mk q => by
  obtain ⟨q0, ⟨q1, qP, qK, qD⟩, qN⟩ := q
  exact ⟨q0, ⟨q1, qP, va_K.moved (u := U) (U := U.calling g mk a) (Vm.Alike.refl U.vm) qK, qD⟩, NW.same (u := U) (U := U.calling g mk a) rfl qN⟩
theorem app_r {D : va_G} {cl : List vw_C} {wr wc : va_W} {H : Heap} (hP : va_P D cl (wr ++ wc) H) : va_P D cl wc H := fun k q hk => hP (wr.length + k) q (by rw [List.getElem?_append_right (by omega)]; simpa using hk)
theorem app_l {D : va_G} {cl : List vw_C} {wr wc : va_W} {H : Heap} (hP : va_P D cl (wr ++ wc) H) : va_P D cl wr H := fun k q hk => hP k q (by rw [List.getElem?_append_left (List.getElem?_eq_some_iff.mp hk).1]; exact hk)
theorem app_rD {A : Nat → Prop} {wr wc : va_W} (hD : va_D A (wr ++ wc)) : va_D A wc := by
  have f : ∀ (k : Nat) (q : Nat × va_E), wc[k]? = some q → (wr ++ wc)[wr.length + k]? = some q := fun k q hk => by rw [List.getElem?_append_right (by omega)]; simpa using hk
  exact ⟨fun i j p q hi hj e => by have := hD.1 _ _ p q (f i p hi) (f j q hj) e; omega, fun k q hk => hD.2 _ q (f k q hk)⟩
theorem app_lD {A : Nat → Prop} {wr wc : va_W} (hD : va_D A (wr ++ wc)) : va_D A wr := by
  have f : ∀ (k : Nat) (q : Nat × va_E), wr[k]? = some q → (wr ++ wc)[k]? = some q := fun k q hk => by rw [List.getElem?_append_left (List.getElem?_eq_some_iff.mp hk).1]; exact hk
  exact ⟨fun i j p q hi hj e => hD.1 _ _ p q (f i p hi) (f j q hj) e, fun k q hk => hD.2 _ q (f k q hk)⟩
theorem app_ne {A : Nat → Prop} {wr wc : va_W} (hD : va_D A (wr ++ wc)) {i j : Nat} {p q : Nat × va_E} (hi : wr[i]? = some p) (hj : wc[j]? = some q) : p.1 ≠ q.1 := fun e => by
  have h1 : (wr ++ wc)[i]? = some p := by rw [List.getElem?_append_left (List.getElem?_eq_some_iff.mp hi).1]; exact hi
  have h2 : (wr ++ wc)[wr.length + j]? = some q := by rw [List.getElem?_append_right (by omega)]; simpa using hj
  have := hD.1 _ _ p q h1 h2 e
  have hl := (List.getElem?_eq_some_iff.mp hi).1
  omega
theorem preN {s : State} {H : Heap} {D : va_G} {ci : Nat → ClassId} {A : Nat → Prop} {wr wc : va_W} {b : Nat} (hP : va_P D vwCl (wr ++ wc) H) (hD : va_D A (wr ++ wc)) (hK : va_K D vwCl (tyL ci) s) (hN : NW s) : PreS s H (va_Pc [.ref b] (fun U => Pq D ci wc H.size U ∧ NW U)) [.ref b] :=
  ⟨PN_blind, fun U hU hW => ⟨rfl, ⟨by rw [hU], by rw [hU]; exact app_r hP, va_K.moved hW.alike hK, (app_rD hD).weaken (fun _ _ _ _ => trivial)⟩, hN.warm hW⟩⟩
section CN
variable {p : Program} {l : Launch} {e : Env} {R : Room} {s : State} {m : MethodId} {args : Array Value} {below : List Frame} {meth : Method} {c : Code} {H : Heap} {locs : List Loc} {cells slots mc ms : Nat} {Q : State → Prop} {pc : Nat} {ls : Array Slot} {rest st0 : List Value} {a : Array Value} {D : va_G} {ci : Nat → ClassId} {A : Nat → Prop} {wr wc : va_W}
theorem cl_N {σ : Type} {w1 : σ → va_W} (hr : va_Run p l e R s m args below meth c H locs cells slots mc ms (F0 m pc ls st0) rest (va_Qv (fun (_ : σ) => True) (fun u => Bq D ci (va_A wc H.size) (w1 u)) (va_A wc H.size) a) (va_A wc H.size)) (hP : va_P D vwCl (wr ++ wc) H) (hD : va_D A (wr ++ wc)) (hS : va_S A s.heap H locs) (hA : ∀ q, s.heap.size ≤ q → A q)
    (kk : ∀ (u : σ) (H1 : Heap) (locs1 : List Loc), va_P D vwCl (wr ++ w1 u) H1 → va_D A (wr ++ w1 u) → va_S A s.heap H1 locs1 → W p l e R s m args below meth c H1 locs1 (cells + mc) (slots + ms) Q (F0 m (pc + 3) ls rest)) : W p l e R s m args below meth c H locs cells slots Q (F0 m pc ls st0) := by
  have hFc : ∀ q, va_A wc H.size q → A q := fun q h => by
    rcases h with ⟨k, e9, h⟩ | h
    · exact (app_rD hD).2 k _ h
    · exact hA q (Nat.le_trans hS.1 h)
  have apart : ∀ (k : Nat) (q : Nat × va_E), wr[k]? = some q → q.1 < H.size ∧ ¬ va_A wc H.size q.1 := fun k q hk => by
    have hl := (app_l hP k q hk).lt
    refine ⟨hl, fun h => ?_⟩
    rcases h with ⟨k2, e9, h⟩ | h
    · exact app_ne hD hk h rfl
    · omega
  refine va_callv hr hS (fun q _ h => hFc q h) hFc (fun u t H1 locs1 ht hvm hw hB hz1 hk1 hS1 => ?_)
  obtain ⟨hP1, hK1, hD1⟩ := hB
  rw [ht] at hP1
  refine kk u H1 locs1 (((app_l hP).kept (fun k q hk => hk1 q.1 (apart k q hk).1 (apart k q hk).2)).app hP1) (va_D.app (app_lD hD) (hD1.weaken (fun k q _ h => hFc q.1 h)) (fun i j x y hx hy hxy => ?_)) hS1
  exact (apart i x hx).2 (by rw [hxy]; exact hD1.2 j y hy)
end CN
theorem ci_int {D : va_G} {cl : List vw_C} {ci : Nat → ClassId} {s : State} {cA : ClassId} (hK : va_K D cl (tyL ci ++ [(cA, .int)]) s) : cA = ci 0 := Option.some.inj ((va_nm_int (hK.2 5 _ rfl).2).symm.trans (va_nm_int (hK.2 0 _ rfl).2))
theorem ci_long {D : va_G} {cl : List vw_C} {ci : Nat → ClassId} {s : State} {cA : ClassId} (hK : va_K D cl (tyL ci ++ [(cA, .long)]) s) : cA = ci 1 := Option.some.inj ((va_nm_long (hK.2 5 _ rfl).2).symm.trans (va_nm_long (hK.2 1 _ rfl).2))
theorem ci_boolean {D : va_G} {cl : List vw_C} {ci : Nat → ClassId} {s : State} {cA : ClassId} (hK : va_K D cl (tyL ci ++ [(cA, .boolean)]) s) : cA = ci 2 := Option.some.inj ((va_nm_boolean (hK.2 5 _ rfl).2).symm.trans (va_nm_boolean (hK.2 2 _ rfl).2))
theorem ci_stand {D : va_G} {cl : List vw_C} {ci : Nat → ClassId} {s : State} {cA : ClassId} (hK : va_K D cl (tyL ci ++ [(cA, .object "HedgeWar$Stand")]) s) : cA = ci 3 := by
  obtain ⟨_, _, _, _, _, h1⟩ := (hK.2 5 _ rfl).2
  obtain ⟨_, _, _, _, _, h2⟩ := (hK.2 3 _ rfl).2
  exact Option.some.inj (h1.symm.trans h2)
theorem ci_image {D : va_G} {cl : List vw_C} {ci : Nat → ClassId} {s : State} {cA : ClassId} (hK : va_K D cl (tyL ci ++ [(cA, .object "HedgeWar$Image")]) s) : cA = ci 4 := by
  obtain ⟨_, _, _, _, _, h1⟩ := (hK.2 5 _ rfl).2
  obtain ⟨_, _, _, _, _, h2⟩ := (hK.2 4 _ rfl).2
  exact Option.some.inj (h1.symm.trans h2)
theorem arrV_cong {cI : ClassId} {N : Nat} {f g : Nat → Value} (h : ∀ j, j < N → f j = g j) : arrV cI N f = arrV cI N g := by
  unfold arrV
  congr 1
  apply Array.ext
  · simp
  · intro i h1 h2
    simp at h1
    simp [h i h1]
/-- an array of references may be told by another function that agrees on its places -/
theorem va_P_arr {D : va_G} {cl : List vw_C} {ws : va_W} {H : Heap} {k a n : Nat} {cA : ClassId} {f : Nat → Option Nat} (g : Nat → Option Nat) (hP : va_P D cl ws H) (hk : ws[k]? = some (a, .inl (cA, n, .inr (.inr (.inr (.inr f)))))) (h : ∀ j, j < n → f j = g j) : va_P D cl (ws.set k (a, .inl (cA, n, .inr (.inr (.inr (.inr g)))))) H := by
  have hl := (List.getElem?_eq_some_iff.mp hk).1
  intro j q hj
  by_cases hkj : j = k
  · subst hkj
    rw [List.getElem?_set_self hl] at hj
    cases hj
    have h1 : H[a]? = some (vp_cell cA (n, .inr (.inr (.inr (.inr f))))) := hP j _ hk
    show H[a]? = some (vp_cell cA (n, .inr (.inr (.inr (.inr g)))))
    rw [h1, vp_cell_q, vp_cell_q, arrV_cong (fun i hi => by rw [h i hi])]
  · rw [List.getElem?_set_ne (Ne.symm hkj)] at hj
    exact hP j q hj
theorem df_int (n : Nat) (cA : ClassId) : vp_cell cA (n, .inl (fun _ => 0)) = arrV cA n (fun _ => defaultValue .int) := rfl
theorem df_boolean (n : Nat) (cA : ClassId) : vp_cell cA (n, .inl (fun _ => 0)) = arrV cA n (fun _ => defaultValue .boolean) := rfl
theorem df_long (n : Nat) (cA : ClassId) : vp_cell cA (n, .inr (.inl (fun _ => 0))) = arrV cA n (fun _ => defaultValue .long) := rfl
def zS0 : SS := (fun _ => 0, fun _ => 0, fun _ => 0)
def wcIm (ci : Nat → ClassId) (a : Nat) (u : Nat → Nat) : va_W := [(a, .inr (1, [.ref (u 0), .int 0, .int 0]))] ++ wcS ci (u 0) (u 1) zS0
def zG0 : GS := (fun _ => 0, 0, fun _ _ => 0, fun _ => 0)
def zN0 : NS := (fun _ => 0, fun _ _ => 0)
def zR0 : RS := (fun _ => 0, fun _ => 0)
def zP0 : PS := fun _ => 0
def zQ0 : QS := fun _ => zS0
def zI0 : IS := fun _ _ => 0
def zT0 : TS := fun _ => 0
def zX0 : XS := fun k => if k = 7 then -1 else 0
noncomputable def nowI : Nat → Nat → Int32
  | 0 => fun _ => 0
  | n + 1 => upd (nowI n) n (-1)
def stL (ci : Nat → ClassId) : List (Nat × Nat) → va_W
  | [] => []
  | q :: us => wcS ci q.1 q.2 zS0 ++ stL ci us
theorem stL_app (ci : Nat → ClassId) (q : Nat × Nat) : ∀ us : List (Nat × Nat), stL ci (us ++ [q]) = stL ci us ++ wcS ci q.1 q.2 zS0
  | [] => by simp [stL]
  | x :: us => by simp only [List.cons_append, stL, stL_app ci q us, List.append_assoc]
theorem stL_len (ci : Nat → ClassId) : ∀ us : List (Nat × Nat), (stL ci us).length = 2 * us.length
  | [] => rfl
  | x :: us => by simp only [stL, wcS, List.length_append, List.length_cons, List.length_nil, stL_len ci us]; omega
noncomputable def zM0 : MS := (fun k => if k = 12 then -1 else 0, fun k => if k = 8 then nowI 40 else fun _ => 0)
abbrev UX : Type := (Nat → Nat) × (Nat → Nat) × (Nat → Nat)
def wX72 (ci : Nat → ClassId) (a : Nat) (q : UX) : va_W := wcX a (q.1 0) (q.1 9) (q.1 14) (q.1 16) (q.1 18) (q.1 23) (q.1 26) zX0 ++ (wcR ci (q.1 0) (q.1 1) (q.1 2) (q.1 7) zR0 ++ (wcG ci (q.1 2) (q.1 3) (q.1 4) (q.1 5) (q.1 6) zG0 ++ (wcS ci (q.1 7) (q.1 8) zS0 ++ (wcG ci (q.1 9) (q.1 10) (q.1 11) (q.1 12) (q.1 13) zG0 ++ (wcS ci (q.1 14) (q.1 15) zS0 ++ (wcP ci (q.1 16) (q.1 17) q.2.1 zP0 ++ (wcQ ci q.2.1 zQ0 ++ (wcN ci (q.1 18) (q.1 19) (q.1 20) (q.1 21) (q.1 22) zN0 ++ (wcI ci (q.1 23) (q.1 24) (q.1 25) q.2.2 zI0 ++ (wcJ ci q.2.2 zQ0 ++ wcT ci (q.1 26) zT0))))))))))
set_option maxHeartbeats 4000000 in
set_option maxRecDepth 200000 in
theorem c_X5_init (l : Launch) (D : va_G) (ci : Nat → ClassId) (a0 : Nat) (sz : Nat) : CtN l yX5_init wsX5_init { frames := 1, cells := 1, slots := 40, locals := 20 } a0 D ci [(a0, .inr (5, [.long 0, .long 0, .long 0, .int 0, .int 0, .null]))] sz (fun u : Nat → Nat => (wcS ci a0 (u 0) zS0)) 1 40 := by
  refine Met.ofW (cc := cX5_init) (maxL := 1) (ret := none) (by decide) rfl ?_
  intro p e s m args below meth c s₁ B hml hv
  obtain ⟨rfl, ⟨hsz, hP, hK, hD0⟩, hNW⟩ := hv
  have hx := B.exec
  have hb := B.bytes
  have hr := B.returns
  have hts := atoms_spec (ws := wsX5_init) B.pre
  have hown : s.vm.findClass RX5 = some m.cls := findClass_of_methodNamed B.named
  have hlocks := B.notSynchronized
  have hin : meth.name = "<init>" := (name_of_methodNamed B.named B.method).1
  subst hsz
  have hD := hD0.self (sz := s.heap.size)
  generalize hAe : va_A [(a0, .inr (5, [.long 0, .long 0, .long 0, .int 0, .int 0, .null]))] s.heap.size = A at hD ⊢
  have hA : ∀ q : Nat, s.heap.size ≤ q → A q := fun q h => by rw [← hAe]; exact Or.inr h
  clear hD0 hAe
  have hD : va_D A [(a0, .inr (5, [.long 0, .long 0, .long 0, .int 0, .int 0, .null]))] := hD
  have hl := lv_entry ([.ref a0]) (n := 1) (Nat.le_of_ble_eq_true rfl)
  rw [lg_entry_eq]
  generalize (lg_sl ([.ref a0]) ++ List.replicate (1 - (lg_sl ([.ref a0])).length) Slot.unset).toArray = ls at hl ⊢
  have hl : lv_has ls 1 [(0, .ref a0)] := hl
  have hP : va_P D vwCl [(a0, .inr (5, [.long 0, .long 0, .long 0, .int 0, .int 0, .null]))] s.heap := hP
  generalize hH0 : s.heap = H at hP ⊢
  have hS : va_S A s.heap H [] := by rw [← hH0]; exact va_S.rf
  clear hH0
  generalize ([] : List Loc) = locs at hS ⊢
  have hk_0 := hts (.methodLink RX5 3 objectInit) (by decide +kernel)
  have hk_1 := hts (.instanceMethod objectInit) (by decide +kernel)
  have hk_2 := hts (.code objectInit ⟨#[0xb1]⟩ 1 none) (by decide +kernel)
  have hk_3 := hts (.arrayClass .int) (by decide +kernel)
  have hk_4 := hts (.fieldLink RX5 9 "HedgeWar$Stand" "ages" "[I") (by decide +kernel)
  have hin_RX5 : ∀ w ∈ wsX50, w ∈ wsX5_init := by decide +kernel
  refine lv_aload_n hx hb dX5_init_0 rfl (lv_at hl 0 rfl) ?_
  refine W.objInit hx hb hown hk_0 hk_1 hk_2 rfl (by rw [hml]; exact hl.1) rfl dX5_init_1 (Nat.le_of_ble_eq_true rfl) (Nat.le_of_ble_eq_true rfl) ?_
  refine W.eq (g2 := F0 m 4 ls []) rfl ?_
  refine lv_aload_n hx hb dX5_init_4 rfl (lv_at hl 0 rfl) ?_
  refine lv_bipush (v := 40) hx hb dX5_init_5 (by decide) ?_
  refine va_newa (atype := .int) (ty := .int) (a0 := (40, .inl (fun _ => 0))) (N' := 40) (n := 40) hx hb hk_3 rfl hK hP hD hS hA (df_int 40) (by decide) (by decide) (by show 40 * 4 ≤ 536870912; omega) (Nat.le_of_ble_eq_true rfl) (Nat.le_of_ble_eq_true rfl) dX5_init_7 (fun q_1 cA H hKa hP hD hS => ?_)
  obtain rfl : cA = ci 0 := ci_int hKa
  clear hKa
  refine W.widen (k := 1) (n := 40) (by decide) (by decide) ?_
  have hP : va_P D vwCl [(a0, .inr (5, [.long 0, .long 0, .long 0, .int 0, .int 0, .null])), (q_1, .inl (ci 0, 40, .inl (fun _ => 0)))] H := hP
  have hD : va_D A [(a0, .inr (5, [.long 0, .long 0, .long 0, .int 0, .int 0, .null])), (q_1, .inl (ci 0, 40, .inl (fun _ => 0)))] := hD
  refine va_putF (D := D) (ci := 5) (v := .ref q_1) (ty := .array .int) (C := RX5) (T := TX5) (N := 6) hx hb hts hin_RX5 tyX5 tyX5_ok nmX5 hown hK hP hD hS 0 rfl rfl 5 (by decide) hk_4 (fun _ h9 => h9) rfl hin rfl (by decide +kernel) rfl rfl (Nat.le_of_ble_eq_true rfl) dX5_init_9 (fun H locs hP hD hS => ?_)
  have hP : va_P D vwCl [(a0, .inr (5, [.long 0, .long 0, .long 0, .int 0, .int 0, .ref q_1])), (q_1, .inl (ci 0, 40, .inl (fun _ => 0)))] H := hP
  have hD : va_D A [(a0, .inr (5, [.long 0, .long 0, .long 0, .int 0, .int 0, .ref q_1])), (q_1, .inl (ci 0, 40, .inl (fun _ => 0)))] := hD
  exact W.vret hx hb hr (fun t ht hW => ⟨⟨(fun k => [q_1].getD k 0), rfl, trivial, by rw [ht]; exact hP, va_K.moved hW.alike hK, hD⟩, hS.F ht⟩) hS.2.2 dX5_init_12
set_option maxHeartbeats 4000000 in
set_option maxRecDepth 200000 in
theorem c_X0_init (l : Launch) (D : va_G) (ci : Nat → ClassId) (a0 : Nat) (sz : Nat) : CtN l yX0_init wsX0_init { frames := 1, cells := 4, slots := 145, locals := 20 } a0 D ci [(a0, .inr (0, [.int 0, .int 0, .int 0, .int 0, .int 0, .int 0, .int 0, .int 0, .long 0, .null, .null, .null, .null]))] sz (fun u : Nat → Nat => (wcG ci a0 (u 0) (u 1) (u 2) (u 3) zG0)) 4 145 := by
  refine Met.ofW (cc := cX0_init) (maxL := 1) (ret := none) (by decide) rfl ?_
  intro p e s m args below meth c s₁ B hml hv
  obtain ⟨rfl, ⟨hsz, hP, hK, hD0⟩, hNW⟩ := hv
  have hx := B.exec
  have hb := B.bytes
  have hr := B.returns
  have hts := atoms_spec (ws := wsX0_init) B.pre
  have hown : s.vm.findClass RX0 = some m.cls := findClass_of_methodNamed B.named
  have hlocks := B.notSynchronized
  have hin : meth.name = "<init>" := (name_of_methodNamed B.named B.method).1
  subst hsz
  have hD := hD0.self (sz := s.heap.size)
  generalize hAe : va_A [(a0, .inr (0, [.int 0, .int 0, .int 0, .int 0, .int 0, .int 0, .int 0, .int 0, .long 0, .null, .null, .null, .null]))] s.heap.size = A at hD ⊢
  have hA : ∀ q : Nat, s.heap.size ≤ q → A q := fun q h => by rw [← hAe]; exact Or.inr h
  clear hD0 hAe
  have hD : va_D A [(a0, .inr (0, [.int 0, .int 0, .int 0, .int 0, .int 0, .int 0, .int 0, .int 0, .long 0, .null, .null, .null, .null]))] := hD
  have hl := lv_entry ([.ref a0]) (n := 1) (Nat.le_of_ble_eq_true rfl)
  rw [lg_entry_eq]
  generalize (lg_sl ([.ref a0]) ++ List.replicate (1 - (lg_sl ([.ref a0])).length) Slot.unset).toArray = ls at hl ⊢
  have hl : lv_has ls 1 [(0, .ref a0)] := hl
  have hP : va_P D vwCl [(a0, .inr (0, [.int 0, .int 0, .int 0, .int 0, .int 0, .int 0, .int 0, .int 0, .long 0, .null, .null, .null, .null]))] s.heap := hP
  generalize hH0 : s.heap = H at hP ⊢
  have hS : va_S A s.heap H [] := by rw [← hH0]; exact va_S.rf
  clear hH0
  generalize ([] : List Loc) = locs at hS ⊢
  have hk_0 := hts (.methodLink RX0 3 objectInit) (by decide +kernel)
  have hk_1 := hts (.instanceMethod objectInit) (by decide +kernel)
  have hk_2 := hts (.code objectInit ⟨#[0xb1]⟩ 1 none) (by decide +kernel)
  have hk_3 := hts (.arrayClass .int) (by decide +kernel)
  have hk_4 := hts (.fieldLink RX0 9 "HedgeWar$Ground" "soils" "[I") (by decide +kernel)
  have hin_RX0 : ∀ w ∈ wsX00, w ∈ wsX0_init := by decide +kernel
  have hk_6 := hts (.fieldLink RX0 15 "HedgeWar$Ground" "lesser" "[I") (by decide +kernel)
  have hk_7 := hts (.fieldLink RX0 18 "HedgeWar$Ground" "greater" "[I") (by decide +kernel)
  have hk_8 := hts (.arrayClass .long) (by decide +kernel)
  have hk_9 := hts (.fieldLink RX0 21 "HedgeWar$Ground" "places" "[J") (by decide +kernel)
  refine lv_aload_n hx hb dX0_init_0 rfl (lv_at hl 0 rfl) ?_
  refine W.objInit hx hb hown hk_0 hk_1 hk_2 rfl (by rw [hml]; exact hl.1) rfl dX0_init_1 (Nat.le_of_ble_eq_true rfl) (Nat.le_of_ble_eq_true rfl) ?_
  refine W.eq (g2 := F0 m 4 ls []) rfl ?_
  refine lv_aload_n hx hb dX0_init_4 rfl (lv_at hl 0 rfl) ?_
  refine lv_bipush (v := 25) hx hb dX0_init_5 (by decide) ?_
  refine va_newa (atype := .int) (ty := .int) (a0 := (25, .inl (fun _ => 0))) (N' := 25) (n := 25) hx hb hk_3 rfl hK hP hD hS hA (df_int 25) (by decide) (by decide) (by show 25 * 4 ≤ 536870912; omega) (Nat.le_of_ble_eq_true rfl) (Nat.le_of_ble_eq_true rfl) dX0_init_7 (fun q_1 cA H hKa hP hD hS => ?_)
  obtain rfl : cA = ci 0 := ci_int hKa
  clear hKa
  refine W.widen (k := 1) (n := 25) (by decide) (by decide) ?_
  have hP : va_P D vwCl [(a0, .inr (0, [.int 0, .int 0, .int 0, .int 0, .int 0, .int 0, .int 0, .int 0, .long 0, .null, .null, .null, .null])), (q_1, .inl (ci 0, 25, .inl (fun _ => 0)))] H := hP
  have hD : va_D A [(a0, .inr (0, [.int 0, .int 0, .int 0, .int 0, .int 0, .int 0, .int 0, .int 0, .long 0, .null, .null, .null, .null])), (q_1, .inl (ci 0, 25, .inl (fun _ => 0)))] := hD
  refine va_putF (D := D) (ci := 0) (v := .ref q_1) (ty := .array .int) (C := RX0) (T := TX0) (N := 13) hx hb hts hin_RX0 tyX0 tyX0_ok nmX0 hown hK hP hD hS 0 rfl rfl 9 (by decide) hk_4 (fun _ h9 => h9) rfl hin rfl (by decide +kernel) rfl rfl (Nat.le_of_ble_eq_true rfl) dX0_init_9 (fun H locs hP hD hS => ?_)
  have hP : va_P D vwCl [(a0, .inr (0, [.int 0, .int 0, .int 0, .int 0, .int 0, .int 0, .int 0, .int 0, .long 0, .ref q_1, .null, .null, .null])), (q_1, .inl (ci 0, 25, .inl (fun _ => 0)))] H := hP
  have hD : va_D A [(a0, .inr (0, [.int 0, .int 0, .int 0, .int 0, .int 0, .int 0, .int 0, .int 0, .long 0, .ref q_1, .null, .null, .null])), (q_1, .inl (ci 0, 25, .inl (fun _ => 0)))] := hD
  refine lv_aload_n hx hb dX0_init_12 rfl (lv_at hl 0 rfl) ?_
  refine lv_bipush (v := 40) hx hb dX0_init_13 (by decide) ?_
  refine va_newa (atype := .int) (ty := .int) (a0 := (40, .inl (fun _ => 0))) (N' := 40) (n := 40) hx hb hk_3 rfl hK hP hD hS hA (df_int 40) (by decide) (by decide) (by show 40 * 4 ≤ 536870912; omega) (Nat.le_of_ble_eq_true rfl) (Nat.le_of_ble_eq_true rfl) dX0_init_15 (fun q_2 cA H hKa hP hD hS => ?_)
  obtain rfl : cA = ci 0 := ci_int hKa
  clear hKa
  refine W.widen (k := 2) (n := 65) (by decide) (by decide) ?_
  have hP : va_P D vwCl [(a0, .inr (0, [.int 0, .int 0, .int 0, .int 0, .int 0, .int 0, .int 0, .int 0, .long 0, .ref q_1, .null, .null, .null])), (q_1, .inl (ci 0, 25, .inl (fun _ => 0))), (q_2, .inl (ci 0, 40, .inl (fun _ => 0)))] H := hP
  have hD : va_D A [(a0, .inr (0, [.int 0, .int 0, .int 0, .int 0, .int 0, .int 0, .int 0, .int 0, .long 0, .ref q_1, .null, .null, .null])), (q_1, .inl (ci 0, 25, .inl (fun _ => 0))), (q_2, .inl (ci 0, 40, .inl (fun _ => 0)))] := hD
  refine va_putF (D := D) (ci := 0) (v := .ref q_2) (ty := .array .int) (C := RX0) (T := TX0) (N := 13) hx hb hts hin_RX0 tyX0 tyX0_ok nmX0 hown hK hP hD hS 0 rfl rfl 10 (by decide) hk_6 (fun _ h9 => h9) rfl hin rfl (by decide +kernel) rfl rfl (Nat.le_of_ble_eq_true rfl) dX0_init_17 (fun H locs hP hD hS => ?_)
  have hP : va_P D vwCl [(a0, .inr (0, [.int 0, .int 0, .int 0, .int 0, .int 0, .int 0, .int 0, .int 0, .long 0, .ref q_1, .ref q_2, .null, .null])), (q_1, .inl (ci 0, 25, .inl (fun _ => 0))), (q_2, .inl (ci 0, 40, .inl (fun _ => 0)))] H := hP
  have hD : va_D A [(a0, .inr (0, [.int 0, .int 0, .int 0, .int 0, .int 0, .int 0, .int 0, .int 0, .long 0, .ref q_1, .ref q_2, .null, .null])), (q_1, .inl (ci 0, 25, .inl (fun _ => 0))), (q_2, .inl (ci 0, 40, .inl (fun _ => 0)))] := hD
  refine lv_aload_n hx hb dX0_init_20 rfl (lv_at hl 0 rfl) ?_
  refine lv_bipush (v := 40) hx hb dX0_init_21 (by decide) ?_
  refine va_newa (atype := .int) (ty := .int) (a0 := (40, .inl (fun _ => 0))) (N' := 40) (n := 40) hx hb hk_3 rfl hK hP hD hS hA (df_int 40) (by decide) (by decide) (by show 40 * 4 ≤ 536870912; omega) (Nat.le_of_ble_eq_true rfl) (Nat.le_of_ble_eq_true rfl) dX0_init_23 (fun q_3 cA H hKa hP hD hS => ?_)
  obtain rfl : cA = ci 0 := ci_int hKa
  clear hKa
  refine W.widen (k := 3) (n := 105) (by decide) (by decide) ?_
  have hP : va_P D vwCl [(a0, .inr (0, [.int 0, .int 0, .int 0, .int 0, .int 0, .int 0, .int 0, .int 0, .long 0, .ref q_1, .ref q_2, .null, .null])), (q_1, .inl (ci 0, 25, .inl (fun _ => 0))), (q_2, .inl (ci 0, 40, .inl (fun _ => 0))), (q_3, .inl (ci 0, 40, .inl (fun _ => 0)))] H := hP
  have hD : va_D A [(a0, .inr (0, [.int 0, .int 0, .int 0, .int 0, .int 0, .int 0, .int 0, .int 0, .long 0, .ref q_1, .ref q_2, .null, .null])), (q_1, .inl (ci 0, 25, .inl (fun _ => 0))), (q_2, .inl (ci 0, 40, .inl (fun _ => 0))), (q_3, .inl (ci 0, 40, .inl (fun _ => 0)))] := hD
  refine va_putF (D := D) (ci := 0) (v := .ref q_3) (ty := .array .int) (C := RX0) (T := TX0) (N := 13) hx hb hts hin_RX0 tyX0 tyX0_ok nmX0 hown hK hP hD hS 0 rfl rfl 11 (by decide) hk_7 (fun _ h9 => h9) rfl hin rfl (by decide +kernel) rfl rfl (Nat.le_of_ble_eq_true rfl) dX0_init_25 (fun H locs hP hD hS => ?_)
  have hP : va_P D vwCl [(a0, .inr (0, [.int 0, .int 0, .int 0, .int 0, .int 0, .int 0, .int 0, .int 0, .long 0, .ref q_1, .ref q_2, .ref q_3, .null])), (q_1, .inl (ci 0, 25, .inl (fun _ => 0))), (q_2, .inl (ci 0, 40, .inl (fun _ => 0))), (q_3, .inl (ci 0, 40, .inl (fun _ => 0)))] H := hP
  have hD : va_D A [(a0, .inr (0, [.int 0, .int 0, .int 0, .int 0, .int 0, .int 0, .int 0, .int 0, .long 0, .ref q_1, .ref q_2, .ref q_3, .null])), (q_1, .inl (ci 0, 25, .inl (fun _ => 0))), (q_2, .inl (ci 0, 40, .inl (fun _ => 0))), (q_3, .inl (ci 0, 40, .inl (fun _ => 0)))] := hD
  refine lv_aload_n hx hb dX0_init_28 rfl (lv_at hl 0 rfl) ?_
  refine lv_bipush (v := 40) hx hb dX0_init_29 (by decide) ?_
  refine va_newa (atype := .long) (ty := .long) (a0 := (40, .inr (.inl (fun _ => 0)))) (N' := 40) (n := 40) hx hb hk_8 rfl hK hP hD hS hA (df_long 40) (by decide) (by decide) (by show 40 * 8 ≤ 536870912; omega) (Nat.le_of_ble_eq_true rfl) (Nat.le_of_ble_eq_true rfl) dX0_init_31 (fun q_4 cA H hKa hP hD hS => ?_)
  obtain rfl : cA = ci 1 := ci_long hKa
  clear hKa
  refine W.widen (k := 4) (n := 145) (by decide) (by decide) ?_
  have hP : va_P D vwCl [(a0, .inr (0, [.int 0, .int 0, .int 0, .int 0, .int 0, .int 0, .int 0, .int 0, .long 0, .ref q_1, .ref q_2, .ref q_3, .null])), (q_1, .inl (ci 0, 25, .inl (fun _ => 0))), (q_2, .inl (ci 0, 40, .inl (fun _ => 0))), (q_3, .inl (ci 0, 40, .inl (fun _ => 0))), (q_4, .inl (ci 1, 40, .inr (.inl (fun _ => 0))))] H := hP
  have hD : va_D A [(a0, .inr (0, [.int 0, .int 0, .int 0, .int 0, .int 0, .int 0, .int 0, .int 0, .long 0, .ref q_1, .ref q_2, .ref q_3, .null])), (q_1, .inl (ci 0, 25, .inl (fun _ => 0))), (q_2, .inl (ci 0, 40, .inl (fun _ => 0))), (q_3, .inl (ci 0, 40, .inl (fun _ => 0))), (q_4, .inl (ci 1, 40, .inr (.inl (fun _ => 0))))] := hD
  refine va_putF (D := D) (ci := 0) (v := .ref q_4) (ty := .array .long) (C := RX0) (T := TX0) (N := 13) hx hb hts hin_RX0 tyX0 tyX0_ok nmX0 hown hK hP hD hS 0 rfl rfl 12 (by decide) hk_9 (fun _ h9 => h9) rfl hin rfl (by decide +kernel) rfl rfl (Nat.le_of_ble_eq_true rfl) dX0_init_33 (fun H locs hP hD hS => ?_)
  have hP : va_P D vwCl [(a0, .inr (0, [.int 0, .int 0, .int 0, .int 0, .int 0, .int 0, .int 0, .int 0, .long 0, .ref q_1, .ref q_2, .ref q_3, .ref q_4])), (q_1, .inl (ci 0, 25, .inl (fun _ => 0))), (q_2, .inl (ci 0, 40, .inl (fun _ => 0))), (q_3, .inl (ci 0, 40, .inl (fun _ => 0))), (q_4, .inl (ci 1, 40, .inr (.inl (fun _ => 0))))] H := hP
  have hD : va_D A [(a0, .inr (0, [.int 0, .int 0, .int 0, .int 0, .int 0, .int 0, .int 0, .int 0, .long 0, .ref q_1, .ref q_2, .ref q_3, .ref q_4])), (q_1, .inl (ci 0, 25, .inl (fun _ => 0))), (q_2, .inl (ci 0, 40, .inl (fun _ => 0))), (q_3, .inl (ci 0, 40, .inl (fun _ => 0))), (q_4, .inl (ci 1, 40, .inr (.inl (fun _ => 0))))] := hD
  exact W.vret hx hb hr (fun t ht hW => ⟨⟨(fun k => [q_1, q_2, q_3, q_4].getD k 0), rfl, trivial, by rw [ht]; exact hP, va_K.moved hW.alike hK, hD⟩, hS.F ht⟩) hS.2.2 dX0_init_36
set_option maxHeartbeats 4000000 in
set_option maxRecDepth 200000 in
theorem c_X2_init (l : Launch) (D : va_G) (ci : Nat → ClassId) (a0 : Nat) (sz : Nat) : CtN l yX2_init wsX2_init { frames := 1, cells := 4, slots := 42, locals := 20 } a0 D ci [(a0, .inr (2, [.int 0, .int 0, .null, .null, .null, .null]))] sz (fun u : Nat → Nat => (wcN ci a0 (u 0) (u 1) (u 2) (u 3) zN0)) 4 42 := by
  refine Met.ofW (cc := cX2_init) (maxL := 1) (ret := none) (by decide) rfl ?_
  intro p e s m args below meth c s₁ B hml hv
  obtain ⟨rfl, ⟨hsz, hP, hK, hD0⟩, hNW⟩ := hv
  have hx := B.exec
  have hb := B.bytes
  have hr := B.returns
  have hts := atoms_spec (ws := wsX2_init) B.pre
  have hown : s.vm.findClass RX2 = some m.cls := findClass_of_methodNamed B.named
  have hlocks := B.notSynchronized
  have hin : meth.name = "<init>" := (name_of_methodNamed B.named B.method).1
  subst hsz
  have hD := hD0.self (sz := s.heap.size)
  generalize hAe : va_A [(a0, .inr (2, [.int 0, .int 0, .null, .null, .null, .null]))] s.heap.size = A at hD ⊢
  have hA : ∀ q : Nat, s.heap.size ≤ q → A q := fun q h => by rw [← hAe]; exact Or.inr h
  clear hD0 hAe
  have hD : va_D A [(a0, .inr (2, [.int 0, .int 0, .null, .null, .null, .null]))] := hD
  have hl := lv_entry ([.ref a0]) (n := 1) (Nat.le_of_ble_eq_true rfl)
  rw [lg_entry_eq]
  generalize (lg_sl ([.ref a0]) ++ List.replicate (1 - (lg_sl ([.ref a0])).length) Slot.unset).toArray = ls at hl ⊢
  have hl : lv_has ls 1 [(0, .ref a0)] := hl
  have hP : va_P D vwCl [(a0, .inr (2, [.int 0, .int 0, .null, .null, .null, .null]))] s.heap := hP
  generalize hH0 : s.heap = H at hP ⊢
  have hS : va_S A s.heap H [] := by rw [← hH0]; exact va_S.rf
  clear hH0
  generalize ([] : List Loc) = locs at hS ⊢
  have hk_0 := hts (.methodLink RX2 3 objectInit) (by decide +kernel)
  have hk_1 := hts (.instanceMethod objectInit) (by decide +kernel)
  have hk_2 := hts (.code objectInit ⟨#[0xb1]⟩ 1 none) (by decide +kernel)
  have hk_3 := hts (.arrayClass .int) (by decide +kernel)
  have hk_4 := hts (.fieldLink RX2 9 "HedgeWar$Notes" "rootEdges" "[I") (by decide +kernel)
  have hin_RX2 : ∀ w ∈ wsX20, w ∈ wsX2_init := by decide +kernel
  have hk_6 := hts (.fieldLink RX2 15 "HedgeWar$Notes" "rootHeights" "[I") (by decide +kernel)
  have hk_7 := hts (.fieldLink RX2 18 "HedgeWar$Notes" "entryFields" "[I") (by decide +kernel)
  have hk_8 := hts (.fieldLink RX2 21 "HedgeWar$Notes" "entryEstates" "[I") (by decide +kernel)
  refine lv_aload_n hx hb dX2_init_0 rfl (lv_at hl 0 rfl) ?_
  refine W.objInit hx hb hown hk_0 hk_1 hk_2 rfl (by rw [hml]; exact hl.1) rfl dX2_init_1 (Nat.le_of_ble_eq_true rfl) (Nat.le_of_ble_eq_true rfl) ?_
  refine W.eq (g2 := F0 m 4 ls []) rfl ?_
  refine lv_aload_n hx hb dX2_init_4 rfl (lv_at hl 0 rfl) ?_
  refine lv_bipush (v := 6) hx hb dX2_init_5 (by decide) ?_
  refine va_newa (atype := .int) (ty := .int) (a0 := (6, .inl (fun _ => 0))) (N' := 6) (n := 6) hx hb hk_3 rfl hK hP hD hS hA (df_int 6) (by decide) (by decide) (by show 6 * 4 ≤ 536870912; omega) (Nat.le_of_ble_eq_true rfl) (Nat.le_of_ble_eq_true rfl) dX2_init_7 (fun q_1 cA H hKa hP hD hS => ?_)
  obtain rfl : cA = ci 0 := ci_int hKa
  clear hKa
  refine W.widen (k := 1) (n := 6) (by decide) (by decide) ?_
  have hP : va_P D vwCl [(a0, .inr (2, [.int 0, .int 0, .null, .null, .null, .null])), (q_1, .inl (ci 0, 6, .inl (fun _ => 0)))] H := hP
  have hD : va_D A [(a0, .inr (2, [.int 0, .int 0, .null, .null, .null, .null])), (q_1, .inl (ci 0, 6, .inl (fun _ => 0)))] := hD
  refine va_putF (D := D) (ci := 2) (v := .ref q_1) (ty := .array .int) (C := RX2) (T := TX2) (N := 6) hx hb hts hin_RX2 tyX2 tyX2_ok nmX2 hown hK hP hD hS 0 rfl rfl 2 (by decide) hk_4 (fun _ h9 => h9) rfl hin rfl (by decide +kernel) rfl rfl (Nat.le_of_ble_eq_true rfl) dX2_init_9 (fun H locs hP hD hS => ?_)
  have hP : va_P D vwCl [(a0, .inr (2, [.int 0, .int 0, .ref q_1, .null, .null, .null])), (q_1, .inl (ci 0, 6, .inl (fun _ => 0)))] H := hP
  have hD : va_D A [(a0, .inr (2, [.int 0, .int 0, .ref q_1, .null, .null, .null])), (q_1, .inl (ci 0, 6, .inl (fun _ => 0)))] := hD
  refine lv_aload_n hx hb dX2_init_12 rfl (lv_at hl 0 rfl) ?_
  refine lv_bipush (v := 6) hx hb dX2_init_13 (by decide) ?_
  refine va_newa (atype := .int) (ty := .int) (a0 := (6, .inl (fun _ => 0))) (N' := 6) (n := 6) hx hb hk_3 rfl hK hP hD hS hA (df_int 6) (by decide) (by decide) (by show 6 * 4 ≤ 536870912; omega) (Nat.le_of_ble_eq_true rfl) (Nat.le_of_ble_eq_true rfl) dX2_init_15 (fun q_2 cA H hKa hP hD hS => ?_)
  obtain rfl : cA = ci 0 := ci_int hKa
  clear hKa
  refine W.widen (k := 2) (n := 12) (by decide) (by decide) ?_
  have hP : va_P D vwCl [(a0, .inr (2, [.int 0, .int 0, .ref q_1, .null, .null, .null])), (q_1, .inl (ci 0, 6, .inl (fun _ => 0))), (q_2, .inl (ci 0, 6, .inl (fun _ => 0)))] H := hP
  have hD : va_D A [(a0, .inr (2, [.int 0, .int 0, .ref q_1, .null, .null, .null])), (q_1, .inl (ci 0, 6, .inl (fun _ => 0))), (q_2, .inl (ci 0, 6, .inl (fun _ => 0)))] := hD
  refine va_putF (D := D) (ci := 2) (v := .ref q_2) (ty := .array .int) (C := RX2) (T := TX2) (N := 6) hx hb hts hin_RX2 tyX2 tyX2_ok nmX2 hown hK hP hD hS 0 rfl rfl 3 (by decide) hk_6 (fun _ h9 => h9) rfl hin rfl (by decide +kernel) rfl rfl (Nat.le_of_ble_eq_true rfl) dX2_init_17 (fun H locs hP hD hS => ?_)
  have hP : va_P D vwCl [(a0, .inr (2, [.int 0, .int 0, .ref q_1, .ref q_2, .null, .null])), (q_1, .inl (ci 0, 6, .inl (fun _ => 0))), (q_2, .inl (ci 0, 6, .inl (fun _ => 0)))] H := hP
  have hD : va_D A [(a0, .inr (2, [.int 0, .int 0, .ref q_1, .ref q_2, .null, .null])), (q_1, .inl (ci 0, 6, .inl (fun _ => 0))), (q_2, .inl (ci 0, 6, .inl (fun _ => 0)))] := hD
  refine lv_aload_n hx hb dX2_init_20 rfl (lv_at hl 0 rfl) ?_
  refine lv_bipush (v := 15) hx hb dX2_init_21 (by decide) ?_
  refine va_newa (atype := .int) (ty := .int) (a0 := (15, .inl (fun _ => 0))) (N' := 15) (n := 15) hx hb hk_3 rfl hK hP hD hS hA (df_int 15) (by decide) (by decide) (by show 15 * 4 ≤ 536870912; omega) (Nat.le_of_ble_eq_true rfl) (Nat.le_of_ble_eq_true rfl) dX2_init_23 (fun q_3 cA H hKa hP hD hS => ?_)
  obtain rfl : cA = ci 0 := ci_int hKa
  clear hKa
  refine W.widen (k := 3) (n := 27) (by decide) (by decide) ?_
  have hP : va_P D vwCl [(a0, .inr (2, [.int 0, .int 0, .ref q_1, .ref q_2, .null, .null])), (q_1, .inl (ci 0, 6, .inl (fun _ => 0))), (q_2, .inl (ci 0, 6, .inl (fun _ => 0))), (q_3, .inl (ci 0, 15, .inl (fun _ => 0)))] H := hP
  have hD : va_D A [(a0, .inr (2, [.int 0, .int 0, .ref q_1, .ref q_2, .null, .null])), (q_1, .inl (ci 0, 6, .inl (fun _ => 0))), (q_2, .inl (ci 0, 6, .inl (fun _ => 0))), (q_3, .inl (ci 0, 15, .inl (fun _ => 0)))] := hD
  refine va_putF (D := D) (ci := 2) (v := .ref q_3) (ty := .array .int) (C := RX2) (T := TX2) (N := 6) hx hb hts hin_RX2 tyX2 tyX2_ok nmX2 hown hK hP hD hS 0 rfl rfl 4 (by decide) hk_7 (fun _ h9 => h9) rfl hin rfl (by decide +kernel) rfl rfl (Nat.le_of_ble_eq_true rfl) dX2_init_25 (fun H locs hP hD hS => ?_)
  have hP : va_P D vwCl [(a0, .inr (2, [.int 0, .int 0, .ref q_1, .ref q_2, .ref q_3, .null])), (q_1, .inl (ci 0, 6, .inl (fun _ => 0))), (q_2, .inl (ci 0, 6, .inl (fun _ => 0))), (q_3, .inl (ci 0, 15, .inl (fun _ => 0)))] H := hP
  have hD : va_D A [(a0, .inr (2, [.int 0, .int 0, .ref q_1, .ref q_2, .ref q_3, .null])), (q_1, .inl (ci 0, 6, .inl (fun _ => 0))), (q_2, .inl (ci 0, 6, .inl (fun _ => 0))), (q_3, .inl (ci 0, 15, .inl (fun _ => 0)))] := hD
  refine lv_aload_n hx hb dX2_init_28 rfl (lv_at hl 0 rfl) ?_
  refine lv_bipush (v := 15) hx hb dX2_init_29 (by decide) ?_
  refine va_newa (atype := .int) (ty := .int) (a0 := (15, .inl (fun _ => 0))) (N' := 15) (n := 15) hx hb hk_3 rfl hK hP hD hS hA (df_int 15) (by decide) (by decide) (by show 15 * 4 ≤ 536870912; omega) (Nat.le_of_ble_eq_true rfl) (Nat.le_of_ble_eq_true rfl) dX2_init_31 (fun q_4 cA H hKa hP hD hS => ?_)
  obtain rfl : cA = ci 0 := ci_int hKa
  clear hKa
  refine W.widen (k := 4) (n := 42) (by decide) (by decide) ?_
  have hP : va_P D vwCl [(a0, .inr (2, [.int 0, .int 0, .ref q_1, .ref q_2, .ref q_3, .null])), (q_1, .inl (ci 0, 6, .inl (fun _ => 0))), (q_2, .inl (ci 0, 6, .inl (fun _ => 0))), (q_3, .inl (ci 0, 15, .inl (fun _ => 0))), (q_4, .inl (ci 0, 15, .inl (fun _ => 0)))] H := hP
  have hD : va_D A [(a0, .inr (2, [.int 0, .int 0, .ref q_1, .ref q_2, .ref q_3, .null])), (q_1, .inl (ci 0, 6, .inl (fun _ => 0))), (q_2, .inl (ci 0, 6, .inl (fun _ => 0))), (q_3, .inl (ci 0, 15, .inl (fun _ => 0))), (q_4, .inl (ci 0, 15, .inl (fun _ => 0)))] := hD
  refine va_putF (D := D) (ci := 2) (v := .ref q_4) (ty := .array .int) (C := RX2) (T := TX2) (N := 6) hx hb hts hin_RX2 tyX2 tyX2_ok nmX2 hown hK hP hD hS 0 rfl rfl 5 (by decide) hk_8 (fun _ h9 => h9) rfl hin rfl (by decide +kernel) rfl rfl (Nat.le_of_ble_eq_true rfl) dX2_init_33 (fun H locs hP hD hS => ?_)
  have hP : va_P D vwCl [(a0, .inr (2, [.int 0, .int 0, .ref q_1, .ref q_2, .ref q_3, .ref q_4])), (q_1, .inl (ci 0, 6, .inl (fun _ => 0))), (q_2, .inl (ci 0, 6, .inl (fun _ => 0))), (q_3, .inl (ci 0, 15, .inl (fun _ => 0))), (q_4, .inl (ci 0, 15, .inl (fun _ => 0)))] H := hP
  have hD : va_D A [(a0, .inr (2, [.int 0, .int 0, .ref q_1, .ref q_2, .ref q_3, .ref q_4])), (q_1, .inl (ci 0, 6, .inl (fun _ => 0))), (q_2, .inl (ci 0, 6, .inl (fun _ => 0))), (q_3, .inl (ci 0, 15, .inl (fun _ => 0))), (q_4, .inl (ci 0, 15, .inl (fun _ => 0)))] := hD
  exact W.vret hx hb hr (fun t ht hW => ⟨⟨(fun k => [q_1, q_2, q_3, q_4].getD k 0), rfl, trivial, by rw [ht]; exact hP, va_K.moved hW.alike hK, hD⟩, hS.F ht⟩) hS.2.2 dX2_init_36
set_option maxHeartbeats 4000000 in
set_option maxRecDepth 200000 in
theorem c_X4_init (l : Launch) (D : va_G) (ci : Nat → ClassId) (a0 : Nat) (sz : Nat) : CtN l yX4_init wsX4_init { frames := 2, cells := 8, slots := 444, locals := 40 } a0 D ci [(a0, .inr (4, [.null, .null, .null, .int 0, .int 0, .int 0, .int 0, .int 0]))] sz (fun u : Nat → Nat => (wcR ci a0 (u 0) (u 1) (u 6) zR0 ++ (wcG ci (u 1) (u 2) (u 3) (u 4) (u 5) zG0 ++ wcS ci (u 6) (u 7) zS0))) 8 444 := by
  refine Met.ofW (cc := cX4_init) (maxL := 1) (ret := none) (by decide) rfl ?_
  intro p e s m args below meth c s₁ B hml hv
  obtain ⟨rfl, ⟨hsz, hP, hK, hD0⟩, hNW⟩ := hv
  have hx := B.exec
  have hb := B.bytes
  have hr := B.returns
  have hts := atoms_spec (ws := wsX4_init) B.pre
  have hown : s.vm.findClass RX4 = some m.cls := findClass_of_methodNamed B.named
  have hlocks := B.notSynchronized
  have hin : meth.name = "<init>" := (name_of_methodNamed B.named B.method).1
  subst hsz
  have hD := hD0.self (sz := s.heap.size)
  generalize hAe : va_A [(a0, .inr (4, [.null, .null, .null, .int 0, .int 0, .int 0, .int 0, .int 0]))] s.heap.size = A at hD ⊢
  have hA : ∀ q : Nat, s.heap.size ≤ q → A q := fun q h => by rw [← hAe]; exact Or.inr h
  clear hD0 hAe
  have hD : va_D A [(a0, .inr (4, [.null, .null, .null, .int 0, .int 0, .int 0, .int 0, .int 0]))] := hD
  have hl := lv_entry ([.ref a0]) (n := 1) (Nat.le_of_ble_eq_true rfl)
  rw [lg_entry_eq]
  generalize (lg_sl ([.ref a0]) ++ List.replicate (1 - (lg_sl ([.ref a0])).length) Slot.unset).toArray = ls at hl ⊢
  have hl : lv_has ls 1 [(0, .ref a0)] := hl
  have hP : va_P D vwCl [(a0, .inr (4, [.null, .null, .null, .int 0, .int 0, .int 0, .int 0, .int 0]))] s.heap := hP
  generalize hH0 : s.heap = H at hP ⊢
  have hS : va_S A s.heap H [] := by rw [← hH0]; exact va_S.rf
  clear hH0
  generalize ([] : List Loc) = locs at hS ⊢
  have hk_0 := hts (.methodLink RX4 3 objectInit) (by decide +kernel)
  have hk_1 := hts (.instanceMethod objectInit) (by decide +kernel)
  have hk_2 := hts (.code objectInit ⟨#[0xb1]⟩ 1 none) (by decide +kernel)
  have hk_3 := hts (.arrayClass .int) (by decide +kernel)
  have hk_4 := hts (.fieldLink RX4 9 "HedgeWar$Reader" "text" "[I") (by decide +kernel)
  have hin_RX4 : ∀ w ∈ wsX40, w ∈ wsX4_init := by decide +kernel
  have hk_6 := hts (.classLink RX4 15 RX0) (by decide +kernel)
  have hk_7 := hts (.instantiable RX0 13) (by decide +kernel)
  have hk_8 := hts (.initialized RX0) (by decide +kernel)
  have hin_RX0 : ∀ w ∈ wsX00, w ∈ wsX4_init := by decide +kernel
  have hk_10 := hts (.instanceMethod yX0_init) (by decide +kernel)
  have hk_11 := hts (.fieldLink RX4 18 "HedgeWar$Reader" "ground" "LHedgeWar$Ground;") (by decide +kernel)
  have hk_12 := hts (.classLink RX4 22 RX5) (by decide +kernel)
  have hk_13 := hts (.instantiable RX5 6) (by decide +kernel)
  have hk_14 := hts (.initialized RX5) (by decide +kernel)
  have hin_RX5 : ∀ w ∈ wsX50, w ∈ wsX4_init := by decide +kernel
  have hk_16 := hts (.instanceMethod yX5_init) (by decide +kernel)
  have hk_17 := hts (.fieldLink RX4 25 "HedgeWar$Reader" "stand" "LHedgeWar$Stand;") (by decide +kernel)
  refine lv_aload_n hx hb dX4_init_0 rfl (lv_at hl 0 rfl) ?_
  refine W.objInit hx hb hown hk_0 hk_1 hk_2 rfl (by rw [hml]; exact hl.1) rfl dX4_init_1 (Nat.le_of_ble_eq_true rfl) (Nat.le_of_ble_eq_true rfl) ?_
  refine W.eq (g2 := F0 m 4 ls []) rfl ?_
  refine lv_aload_n hx hb dX4_init_4 rfl (lv_at hl 0 rfl) ?_
  refine lv_sipush (v := 240) hx hb dX4_init_5 (by decide) ?_
  refine va_newa (atype := .int) (ty := .int) (a0 := (240, .inl (fun _ => 0))) (N' := 240) (n := 240) hx hb hk_3 rfl hK hP hD hS hA (df_int 240) (by decide) (by decide) (by show 240 * 4 ≤ 536870912; omega) (Nat.le_of_ble_eq_true rfl) (Nat.le_of_ble_eq_true rfl) dX4_init_8 (fun q_1 cA H hKa hP hD hS => ?_)
  obtain rfl : cA = ci 0 := ci_int hKa
  clear hKa
  refine W.widen (k := 1) (n := 240) (by decide) (by decide) ?_
  have hP : va_P D vwCl [(a0, .inr (4, [.null, .null, .null, .int 0, .int 0, .int 0, .int 0, .int 0])), (q_1, .inl (ci 0, 240, .inl (fun _ => 0)))] H := hP
  have hD : va_D A [(a0, .inr (4, [.null, .null, .null, .int 0, .int 0, .int 0, .int 0, .int 0])), (q_1, .inl (ci 0, 240, .inl (fun _ => 0)))] := hD
  refine va_putF (D := D) (ci := 4) (v := .ref q_1) (ty := .array .int) (C := RX4) (T := TX4) (N := 8) hx hb hts hin_RX4 tyX4 tyX4_ok nmX4 hown hK hP hD hS 0 rfl rfl 0 (by decide) hk_4 (fun _ h9 => h9) rfl hin rfl (by decide +kernel) rfl rfl (Nat.le_of_ble_eq_true rfl) dX4_init_10 (fun H locs hP hD hS => ?_)
  have hP : va_P D vwCl [(a0, .inr (4, [.ref q_1, .null, .null, .int 0, .int 0, .int 0, .int 0, .int 0])), (q_1, .inl (ci 0, 240, .inl (fun _ => 0)))] H := hP
  have hD : va_D A [(a0, .inr (4, [.ref q_1, .null, .null, .int 0, .int 0, .int 0, .int 0, .int 0])), (q_1, .inl (ci 0, 240, .inl (fun _ => 0)))] := hD
  refine lv_aload_n hx hb dX4_init_13 rfl (lv_at hl 0 rfl) ?_
  refine va_new (ci := 0) (fs := [.int 0, .int 0, .int 0, .int 0, .int 0, .int 0, .int 0, .int 0, .long 0, .null, .null, .null, .null]) (C := RX0) (T := TX0) (N := 13) hx hb hts hin_RX0 tyX0 tyX0_ok hown hk_6 hk_7 hk_8 hK hP hD hS hA rfl (fun j hj => by have := hj; match j, hj with | 0, _ => rfl | 1, _ => rfl | 2, _ => rfl | 3, _ => rfl | 4, _ => rfl | 5, _ => rfl | 6, _ => rfl | 7, _ => rfl | 8, _ => rfl | 9, _ => rfl | 10, _ => rfl | 11, _ => rfl | 12, _ => rfl) (Nat.le_of_ble_eq_true rfl) (Nat.le_of_ble_eq_true rfl) dX4_init_14 (fun q_2 H hP hD hS => ?_)
  refine W.widen (k := 2) (n := 253) (by decide) (by decide) ?_
  have hP : va_P D vwCl [(a0, .inr (4, [.ref q_1, .null, .null, .int 0, .int 0, .int 0, .int 0, .int 0])), (q_1, .inl (ci 0, 240, .inl (fun _ => 0))), (q_2, .inr (0, [.int 0, .int 0, .int 0, .int 0, .int 0, .int 0, .int 0, .int 0, .long 0, .null, .null, .null, .null]))] H := hP
  have hD : va_D A [(a0, .inr (4, [.ref q_1, .null, .null, .int 0, .int 0, .int 0, .int 0, .int 0])), (q_1, .inl (ci 0, 240, .inl (fun _ => 0))), (q_2, .inr (0, [.int 0, .int 0, .int 0, .int 0, .int 0, .int 0, .int 0, .int 0, .long 0, .null, .null, .null, .null]))] := hD
  refine lv_dup hx hb dX4_init_17 rfl ?_
  have hP : va_P D vwCl ([(a0, .inr (4, [.ref q_1, .null, .null, .int 0, .int 0, .int 0, .int 0, .int 0])), (q_1, .inl (ci 0, 240, .inl (fun _ => 0)))] ++ [(q_2, .inr (0, [.int 0, .int 0, .int 0, .int 0, .int 0, .int 0, .int 0, .int 0, .long 0, .null, .null, .null, .null]))]) H := hP
  have hD : va_D A ([(a0, .inr (4, [.ref q_1, .null, .null, .int 0, .int 0, .int 0, .int 0, .int 0])), (q_1, .inl (ci 0, 240, .inl (fun _ => 0)))] ++ [(q_2, .inr (0, [.int 0, .int 0, .int 0, .int 0, .int 0, .int 0, .int 0, .int 0, .long 0, .null, .null, .null, .null]))]) := hD
  refine cl_N (wr := [(a0, .inr (4, [.ref q_1, .null, .null, .int 0, .int 0, .int 0, .int 0, .int 0])), (q_1, .inl (ci 0, 240, .inl (fun _ => 0)))]) (wc := [(q_2, .inr (0, [.int 0, .int 0, .int 0, .int 0, .int 0, .int 0, .int 0, .int 0, .long 0, .null, .null, .null, .null]))]) (w1 := fun u : Nat → Nat => (wcG ci q_2 (u 0) (u 1) (u 2) (u 3) zG0)) (va_runIN (As := []) (rest := [.ref q_2, .ref a0]) (host := "HedgeWar") ⟨hx, hb, hml, hown, hts⟩ (c_X0_init l D ci q_2 H.size) ⟨va_cnB 0 hts gX4_init_X0_init_n17 rfl rfl rfl (hNW.1 1 _ rfl) hk_8 (by decide +kernel) ⟨Nat.le_of_ble_eq_true rfl, Nat.le_of_ble_eq_true rfl⟩, rfl, hk_10⟩ (preN hP hD hK hNW) rfl rfl hl.1 rfl (lv_room (Nat.le_of_ble_eq_true rfl)) dX4_init_18 ⟨Nat.le_of_ble_eq_true rfl, Nat.le_of_ble_eq_true rfl⟩) hP hD hS hA (fun u_3 H locs hP hD hS => ?_)
  refine W.widen (k := 6) (n := 398) (by decide) (by decide) ?_
  have hP : va_P D vwCl ([(a0, .inr (4, [.ref q_1, .null, .null, .int 0, .int 0, .int 0, .int 0, .int 0])), (q_1, .inl (ci 0, 240, .inl (fun _ => 0)))] ++ (wcG ci q_2 (u_3 0) (u_3 1) (u_3 2) (u_3 3) zG0)) H := hP
  have hD : va_D A ([(a0, .inr (4, [.ref q_1, .null, .null, .int 0, .int 0, .int 0, .int 0, .int 0])), (q_1, .inl (ci 0, 240, .inl (fun _ => 0)))] ++ (wcG ci q_2 (u_3 0) (u_3 1) (u_3 2) (u_3 3) zG0)) := hD
  refine va_putF (D := D) (ci := 4) (v := .ref q_2) (ty := .object "HedgeWar$Ground") (C := RX4) (T := TX4) (N := 8) hx hb hts hin_RX4 tyX4 tyX4_ok nmX4 hown hK hP hD hS 0 rfl rfl 1 (by decide) hk_11 (fun _ h9 => h9) rfl hin rfl (by decide +kernel) rfl rfl (Nat.le_of_ble_eq_true rfl) dX4_init_21 (fun H locs hP hD hS => ?_)
  have hP : va_P D vwCl ([(a0, .inr (4, [.ref q_1, .ref q_2, .null, .int 0, .int 0, .int 0, .int 0, .int 0])), (q_1, .inl (ci 0, 240, .inl (fun _ => 0)))] ++ (wcG ci q_2 (u_3 0) (u_3 1) (u_3 2) (u_3 3) zG0)) H := hP
  have hD : va_D A ([(a0, .inr (4, [.ref q_1, .ref q_2, .null, .int 0, .int 0, .int 0, .int 0, .int 0])), (q_1, .inl (ci 0, 240, .inl (fun _ => 0)))] ++ (wcG ci q_2 (u_3 0) (u_3 1) (u_3 2) (u_3 3) zG0)) := hD
  refine lv_aload_n hx hb dX4_init_24 rfl (lv_at hl 0 rfl) ?_
  refine va_new (ci := 5) (fs := [.long 0, .long 0, .long 0, .int 0, .int 0, .null]) (C := RX5) (T := TX5) (N := 6) hx hb hts hin_RX5 tyX5 tyX5_ok hown hk_12 hk_13 hk_14 hK hP hD hS hA rfl (fun j hj => by have := hj; match j, hj with | 0, _ => rfl | 1, _ => rfl | 2, _ => rfl | 3, _ => rfl | 4, _ => rfl | 5, _ => rfl) (Nat.le_of_ble_eq_true rfl) (Nat.le_of_ble_eq_true rfl) dX4_init_25 (fun q_4 H hP hD hS => ?_)
  refine W.widen (k := 7) (n := 404) (by decide) (by decide) ?_
  have hP : va_P D vwCl ([(a0, .inr (4, [.ref q_1, .ref q_2, .null, .int 0, .int 0, .int 0, .int 0, .int 0])), (q_1, .inl (ci 0, 240, .inl (fun _ => 0)))] ++ ((wcG ci q_2 (u_3 0) (u_3 1) (u_3 2) (u_3 3) zG0) ++ [(q_4, .inr (5, [.long 0, .long 0, .long 0, .int 0, .int 0, .null]))])) H := hP
  have hD : va_D A ([(a0, .inr (4, [.ref q_1, .ref q_2, .null, .int 0, .int 0, .int 0, .int 0, .int 0])), (q_1, .inl (ci 0, 240, .inl (fun _ => 0)))] ++ ((wcG ci q_2 (u_3 0) (u_3 1) (u_3 2) (u_3 3) zG0) ++ [(q_4, .inr (5, [.long 0, .long 0, .long 0, .int 0, .int 0, .null]))])) := hD
  refine lv_dup hx hb dX4_init_28 rfl ?_
  have hP : va_P D vwCl (([(a0, .inr (4, [.ref q_1, .ref q_2, .null, .int 0, .int 0, .int 0, .int 0, .int 0])), (q_1, .inl (ci 0, 240, .inl (fun _ => 0)))] ++ (wcG ci q_2 (u_3 0) (u_3 1) (u_3 2) (u_3 3) zG0)) ++ [(q_4, .inr (5, [.long 0, .long 0, .long 0, .int 0, .int 0, .null]))]) H := hP
  have hD : va_D A (([(a0, .inr (4, [.ref q_1, .ref q_2, .null, .int 0, .int 0, .int 0, .int 0, .int 0])), (q_1, .inl (ci 0, 240, .inl (fun _ => 0)))] ++ (wcG ci q_2 (u_3 0) (u_3 1) (u_3 2) (u_3 3) zG0)) ++ [(q_4, .inr (5, [.long 0, .long 0, .long 0, .int 0, .int 0, .null]))]) := hD
  refine cl_N (wr := ([(a0, .inr (4, [.ref q_1, .ref q_2, .null, .int 0, .int 0, .int 0, .int 0, .int 0])), (q_1, .inl (ci 0, 240, .inl (fun _ => 0)))] ++ (wcG ci q_2 (u_3 0) (u_3 1) (u_3 2) (u_3 3) zG0))) (wc := [(q_4, .inr (5, [.long 0, .long 0, .long 0, .int 0, .int 0, .null]))]) (w1 := fun u : Nat → Nat => (wcS ci q_4 (u 0) zS0)) (va_runIN (As := []) (rest := [.ref q_4, .ref a0]) (host := "HedgeWar") ⟨hx, hb, hml, hown, hts⟩ (c_X5_init l D ci q_4 H.size) ⟨va_cnB 0 hts gX4_init_X5_init_n24 rfl rfl rfl (hNW.1 2 _ rfl) hk_14 (by decide +kernel) ⟨Nat.le_of_ble_eq_true rfl, Nat.le_of_ble_eq_true rfl⟩, rfl, hk_16⟩ (preN hP hD hK hNW) rfl rfl hl.1 rfl (lv_room (Nat.le_of_ble_eq_true rfl)) dX4_init_29 ⟨Nat.le_of_ble_eq_true rfl, Nat.le_of_ble_eq_true rfl⟩) hP hD hS hA (fun u_5 H locs hP hD hS => ?_)
  refine W.widen (k := 8) (n := 444) (by decide) (by decide) ?_
  have hP : va_P D vwCl ([(a0, .inr (4, [.ref q_1, .ref q_2, .null, .int 0, .int 0, .int 0, .int 0, .int 0])), (q_1, .inl (ci 0, 240, .inl (fun _ => 0)))] ++ ((wcG ci q_2 (u_3 0) (u_3 1) (u_3 2) (u_3 3) zG0) ++ (wcS ci q_4 (u_5 0) zS0))) H := hP
  have hD : va_D A ([(a0, .inr (4, [.ref q_1, .ref q_2, .null, .int 0, .int 0, .int 0, .int 0, .int 0])), (q_1, .inl (ci 0, 240, .inl (fun _ => 0)))] ++ ((wcG ci q_2 (u_3 0) (u_3 1) (u_3 2) (u_3 3) zG0) ++ (wcS ci q_4 (u_5 0) zS0))) := hD
  refine va_putF (D := D) (ci := 4) (v := .ref q_4) (ty := .object "HedgeWar$Stand") (C := RX4) (T := TX4) (N := 8) hx hb hts hin_RX4 tyX4 tyX4_ok nmX4 hown hK hP hD hS 0 rfl rfl 2 (by decide) hk_17 (fun _ h9 => h9) rfl hin rfl (by decide +kernel) rfl rfl (Nat.le_of_ble_eq_true rfl) dX4_init_32 (fun H locs hP hD hS => ?_)
  have hP : va_P D vwCl ([(a0, .inr (4, [.ref q_1, .ref q_2, .ref q_4, .int 0, .int 0, .int 0, .int 0, .int 0])), (q_1, .inl (ci 0, 240, .inl (fun _ => 0)))] ++ ((wcG ci q_2 (u_3 0) (u_3 1) (u_3 2) (u_3 3) zG0) ++ (wcS ci q_4 (u_5 0) zS0))) H := hP
  have hD : va_D A ([(a0, .inr (4, [.ref q_1, .ref q_2, .ref q_4, .int 0, .int 0, .int 0, .int 0, .int 0])), (q_1, .inl (ci 0, 240, .inl (fun _ => 0)))] ++ ((wcG ci q_2 (u_3 0) (u_3 1) (u_3 2) (u_3 3) zG0) ++ (wcS ci q_4 (u_5 0) zS0))) := hD
  exact W.vret hx hb hr (fun t ht hW => ⟨⟨(fun k => [q_1, q_2, (u_3 0), (u_3 1), (u_3 2), (u_3 3), q_4, (u_5 0)].getD k 0), rfl, trivial, by rw [ht]; exact hP, va_K.moved hW.alike hK, hD⟩, hS.F ht⟩) hS.2.2 dX4_init_35
set_option maxHeartbeats 4000000 in
set_option maxRecDepth 200000 in
theorem c_X1_init (l : Launch) (D : va_G) (ci : Nat → ClassId) (a0 : Nat) (sz : Nat) : CtN l yX1_init wsX1_init { frames := 2, cells := 2, slots := 46, locals := 40 } a0 D ci [(a0, .inr (1, [.null, .int 0, .int 0]))] sz (fun u : Nat → Nat => (wcIm ci a0 u)) 2 46 := by
  refine Met.ofW (cc := cX1_init) (maxL := 1) (ret := none) (by decide) rfl ?_
  intro p e s m args below meth c s₁ B hml hv
  obtain ⟨rfl, ⟨hsz, hP, hK, hD0⟩, hNW⟩ := hv
  have hx := B.exec
  have hb := B.bytes
  have hr := B.returns
  have hts := atoms_spec (ws := wsX1_init) B.pre
  have hown : s.vm.findClass RX1 = some m.cls := findClass_of_methodNamed B.named
  have hlocks := B.notSynchronized
  have hin : meth.name = "<init>" := (name_of_methodNamed B.named B.method).1
  subst hsz
  have hD := hD0.self (sz := s.heap.size)
  generalize hAe : va_A [(a0, .inr (1, [.null, .int 0, .int 0]))] s.heap.size = A at hD ⊢
  have hA : ∀ q : Nat, s.heap.size ≤ q → A q := fun q h => by rw [← hAe]; exact Or.inr h
  clear hD0 hAe
  have hD : va_D A [(a0, .inr (1, [.null, .int 0, .int 0]))] := hD
  have hl := lv_entry ([.ref a0]) (n := 1) (Nat.le_of_ble_eq_true rfl)
  rw [lg_entry_eq]
  generalize (lg_sl ([.ref a0]) ++ List.replicate (1 - (lg_sl ([.ref a0])).length) Slot.unset).toArray = ls at hl ⊢
  have hl : lv_has ls 1 [(0, .ref a0)] := hl
  have hP : va_P D vwCl [(a0, .inr (1, [.null, .int 0, .int 0]))] s.heap := hP
  generalize hH0 : s.heap = H at hP ⊢
  have hS : va_S A s.heap H [] := by rw [← hH0]; exact va_S.rf
  clear hH0
  generalize ([] : List Loc) = locs at hS ⊢
  have hk_0 := hts (.methodLink RX1 1 objectInit) (by decide +kernel)
  have hk_1 := hts (.instanceMethod objectInit) (by decide +kernel)
  have hk_2 := hts (.code objectInit ⟨#[0xb1]⟩ 1 none) (by decide +kernel)
  have hk_3 := hts (.classLink RX1 7 RX5) (by decide +kernel)
  have hk_4 := hts (.instantiable RX5 6) (by decide +kernel)
  have hk_5 := hts (.initialized RX5) (by decide +kernel)
  have hin_RX5 : ∀ w ∈ wsX50, w ∈ wsX1_init := by decide +kernel
  have hk_7 := hts (.instanceMethod yX5_init) (by decide +kernel)
  have hk_8 := hts (.fieldLink RX1 10 "HedgeWar$Image" "stand" "LHedgeWar$Stand;") (by decide +kernel)
  have hin_RX1 : ∀ w ∈ wsX10, w ∈ wsX1_init := by decide +kernel
  refine lv_aload_n hx hb dX1_init_0 rfl (lv_at hl 0 rfl) ?_
  refine W.objInit hx hb hown hk_0 hk_1 hk_2 rfl (by rw [hml]; exact hl.1) rfl dX1_init_1 (Nat.le_of_ble_eq_true rfl) (Nat.le_of_ble_eq_true rfl) ?_
  refine W.eq (g2 := F0 m 4 ls []) rfl ?_
  refine lv_aload_n hx hb dX1_init_4 rfl (lv_at hl 0 rfl) ?_
  refine va_new (ci := 5) (fs := [.long 0, .long 0, .long 0, .int 0, .int 0, .null]) (C := RX5) (T := TX5) (N := 6) hx hb hts hin_RX5 tyX5 tyX5_ok hown hk_3 hk_4 hk_5 hK hP hD hS hA rfl (fun j hj => by have := hj; match j, hj with | 0, _ => rfl | 1, _ => rfl | 2, _ => rfl | 3, _ => rfl | 4, _ => rfl | 5, _ => rfl) (Nat.le_of_ble_eq_true rfl) (Nat.le_of_ble_eq_true rfl) dX1_init_5 (fun q_1 H hP hD hS => ?_)
  refine W.widen (k := 1) (n := 6) (by decide) (by decide) ?_
  have hP : va_P D vwCl [(a0, .inr (1, [.null, .int 0, .int 0])), (q_1, .inr (5, [.long 0, .long 0, .long 0, .int 0, .int 0, .null]))] H := hP
  have hD : va_D A [(a0, .inr (1, [.null, .int 0, .int 0])), (q_1, .inr (5, [.long 0, .long 0, .long 0, .int 0, .int 0, .null]))] := hD
  refine lv_dup hx hb dX1_init_8 rfl ?_
  have hP : va_P D vwCl ([(a0, .inr (1, [.null, .int 0, .int 0]))] ++ [(q_1, .inr (5, [.long 0, .long 0, .long 0, .int 0, .int 0, .null]))]) H := hP
  have hD : va_D A ([(a0, .inr (1, [.null, .int 0, .int 0]))] ++ [(q_1, .inr (5, [.long 0, .long 0, .long 0, .int 0, .int 0, .null]))]) := hD
  refine cl_N (wr := [(a0, .inr (1, [.null, .int 0, .int 0]))]) (wc := [(q_1, .inr (5, [.long 0, .long 0, .long 0, .int 0, .int 0, .null]))]) (w1 := fun u : Nat → Nat => (wcS ci q_1 (u 0) zS0)) (va_runIN (As := []) (rest := [.ref q_1, .ref a0]) (host := "HedgeWar") ⟨hx, hb, hml, hown, hts⟩ (c_X5_init l D ci q_1 H.size) ⟨va_cnB 0 hts gX1_init_X5_init_n9 rfl rfl rfl (hNW.1 8 _ rfl) hk_5 (by decide +kernel) ⟨Nat.le_of_ble_eq_true rfl, Nat.le_of_ble_eq_true rfl⟩, rfl, hk_7⟩ (preN hP hD hK hNW) rfl rfl hl.1 rfl (lv_room (Nat.le_of_ble_eq_true rfl)) dX1_init_9 ⟨Nat.le_of_ble_eq_true rfl, Nat.le_of_ble_eq_true rfl⟩) hP hD hS hA (fun u_2 H locs hP hD hS => ?_)
  refine W.widen (k := 2) (n := 46) (by decide) (by decide) ?_
  have hP : va_P D vwCl ([(a0, .inr (1, [.null, .int 0, .int 0]))] ++ (wcS ci q_1 (u_2 0) zS0)) H := hP
  have hD : va_D A ([(a0, .inr (1, [.null, .int 0, .int 0]))] ++ (wcS ci q_1 (u_2 0) zS0)) := hD
  refine va_putF (D := D) (ci := 1) (v := .ref q_1) (ty := .object "HedgeWar$Stand") (C := RX1) (T := TX1) (N := 3) hx hb hts hin_RX1 tyX1 tyX1_ok nmX1 hown hK hP hD hS 0 rfl rfl 0 (by decide) hk_8 (fun _ h9 => h9) rfl hin rfl (by decide +kernel) rfl rfl (Nat.le_of_ble_eq_true rfl) dX1_init_12 (fun H locs hP hD hS => ?_)
  have hP : va_P D vwCl ([(a0, .inr (1, [.ref q_1, .int 0, .int 0]))] ++ (wcS ci q_1 (u_2 0) zS0)) H := hP
  have hD : va_D A ([(a0, .inr (1, [.ref q_1, .int 0, .int 0]))] ++ (wcS ci q_1 (u_2 0) zS0)) := hD
  exact W.vret hx hb hr (fun t ht hW => ⟨⟨(fun k => [q_1, (u_2 0)].getD k 0), rfl, trivial, by rw [ht]; exact hP, va_K.moved hW.alike hK, hD⟩, hS.F ht⟩) hS.2.2 dX1_init_15

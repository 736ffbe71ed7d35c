/-! ===== worlds by chunks ===== -/
def fl : List va_W → va_W
  | [] => []
  | c :: cs => c ++ fl cs
theorem fl_app : ∀ a b : List va_W, fl (a ++ b) = fl a ++ fl b
  | [], b => rfl
  | c :: a, b => by simp only [List.cons_append, fl, fl_app a b, List.append_assoc]
theorem fl_P {D : va_G} {cl : List vw_C} {H : Heap} : ∀ css : List va_W, va_P D cl (fl css) H ↔ ∀ c ∈ css, va_P D cl c H
  | [] => ⟨fun _ c h => absurd h List.not_mem_nil, fun _ k q h => by simp [fl] at h⟩
  | c :: cs => by
    constructor
    · intro h d hd
      rcases List.mem_cons.mp hd with rfl | hd
      · exact app_l h
      · exact (fl_P cs).mp (app_r h) d hd
    · intro h
      exact (h c List.mem_cons_self).app ((fl_P cs).mpr (fun d hd => h d (List.mem_cons_of_mem _ hd)))
def Dj (a b : va_W) : Prop := ∀ (i j : Nat) (p q : Nat × va_E), a[i]? = some p → b[j]? = some q → p.1 ≠ q.1
theorem Dj.symm {a b : va_W} (h : Dj a b) : Dj b a := fun i j p q hi hj e => h j i q p hj hi e.symm
theorem Dj_app {a b c : va_W} : Dj a (b ++ c) ↔ Dj a b ∧ Dj a c := by
  constructor
  · intro h
    refine ⟨fun i j p q hi hj => ?_, fun i j p q hi hj => ?_⟩
    · exact h i j p q hi (by rw [List.getElem?_append_left (List.getElem?_eq_some_iff.mp hj).1]; exact hj)
    · exact h i (b.length + j) p q hi (by rw [List.getElem?_append_right (by omega)]; simpa using hj)
  · intro h i j p q hi hj
    rcases List.mem_append.mp (List.mem_of_getElem? hj) with hm | hm
    · obtain ⟨k, hk⟩ := List.getElem?_of_mem hm
      exact h.1 i k p q hi hk
    · obtain ⟨k, hk⟩ := List.getElem?_of_mem hm
      exact h.2 i k p q hi hk
theorem Dj_fl {a : va_W} : ∀ css : List va_W, Dj a (fl css) ↔ ∀ c ∈ css, Dj a c
  | [] => ⟨fun _ c h => absurd h List.not_mem_nil, fun _ i j p q _ h => by simp [fl] at h⟩
  | c :: cs => by
    rw [fl, Dj_app, Dj_fl cs]
    constructor
    · intro h d hd
      rcases List.mem_cons.mp hd with rfl | hd
      · exact h.1
      · exact h.2 d hd
    · exact fun h => ⟨h c List.mem_cons_self, fun d hd => h d (List.mem_cons_of_mem _ hd)⟩
theorem va_D_app {A : Nat → Prop} {a b : va_W} : va_D A (a ++ b) ↔ va_D A a ∧ va_D A b ∧ Dj a b :=
  ⟨fun h => ⟨app_lD h, app_rD h, fun _ _ _ _ hi hj => app_ne h hi hj⟩, fun h => va_D.app h.1 h.2.1 h.2.2⟩
theorem fl_D {A : Nat → Prop} : ∀ css : List va_W, va_D A (fl css) ↔ (∀ c ∈ css, va_D A c) ∧ ∀ (i j : Nat) (a b : va_W), css[i]? = some a → css[j]? = some b → i ≠ j → Dj a b
  | [] => ⟨fun _ => ⟨fun c h => absurd h List.not_mem_nil, fun i j a b h => by simp at h⟩, fun _ => ⟨fun i j p q h => by simp [fl] at h, fun k q h => by simp [fl] at h⟩⟩
  | c :: cs => by
    rw [fl, va_D_app, Dj_fl, fl_D cs]
    constructor
    · rintro ⟨h1, ⟨h2, h3⟩, h4⟩
      refine ⟨fun d hd => ?_, fun i j a b hi hj hij => ?_⟩
      · rcases List.mem_cons.mp hd with rfl | hd
        · exact h1
        · exact h2 d hd
      · cases i with
        | zero =>
          cases j with
          | zero => exact absurd rfl hij
          | succ j =>
            rw [List.getElem?_cons_zero] at hi
            rw [List.getElem?_cons_succ] at hj
            cases hi
            exact h4 b (List.mem_of_getElem? hj)
        | succ i =>
          cases j with
          | zero =>
            rw [List.getElem?_cons_zero] at hj
            rw [List.getElem?_cons_succ] at hi
            cases hj
            exact (h4 a (List.mem_of_getElem? hi)).symm
          | succ j =>
            rw [List.getElem?_cons_succ] at hi hj
            exact h3 i j a b hi hj (by omega)
    · rintro ⟨h1, h2⟩
      refine ⟨h1 c List.mem_cons_self, ⟨fun d hd => h1 d (List.mem_cons_of_mem _ hd), fun i j a b hi hj hij => h2 (i + 1) (j + 1) a b hi hj (by omega)⟩, fun d hd => ?_⟩
      obtain ⟨k, hk⟩ := List.getElem?_of_mem hd
      exact h2 0 (k + 1) c d rfl hk (by omega)
theorem pk_at {α : Type} {xs ys : List α} {is : List Nat} (h : is.map (fun i => xs[i]?) = ys.map some) {k : Nat} {y : α} (hy : ys[k]? = some y) : ∃ i, is[k]? = some i ∧ xs[i]? = some y := by
  have h1 : (is.map (fun i => xs[i]?))[k]? = some (some y) := by rw [h, List.getElem?_map, hy]; rfl
  rw [List.getElem?_map] at h1
  cases hi : is[k]? with
  | none => rw [hi] at h1; cases h1
  | some i => rw [hi] at h1; exact ⟨i, rfl, Option.some.inj h1⟩
theorem fl_P_pick {D : va_G} {cl : List vw_C} {H : Heap} {css csp : List va_W} (is : List Nat) (h : is.map (fun i => css[i]?) = csp.map some) (hP : va_P D cl (fl css) H) : va_P D cl (fl csp) H := by
  rw [fl_P] at hP ⊢
  intro c hc
  obtain ⟨k, hk⟩ := List.getElem?_of_mem hc
  obtain ⟨i, -, hi⟩ := pk_at h hk
  exact hP c (List.mem_of_getElem? hi)
theorem fl_D_pick {A : Nat → Prop} {css csp : List va_W} (is : List Nat) (hn : va_nd is = true) (h : is.map (fun i => css[i]?) = csp.map some) (hD : va_D A (fl css)) : va_D A (fl csp) := by
  rw [fl_D] at hD ⊢
  refine ⟨fun c hc => ?_, fun i j a b hi hj hij => ?_⟩
  · obtain ⟨k, hk⟩ := List.getElem?_of_mem hc
    obtain ⟨i, -, hi⟩ := pk_at h hk
    exact hD.1 c (List.mem_of_getElem? hi)
  · obtain ⟨i2, hi2, ha⟩ := pk_at h hi
    obtain ⟨j2, hj2, hb⟩ := pk_at h hj
    refine hD.2 i2 j2 a b ha hb (fun e => hij ?_)
    subst e
    exact va_nd_inj is hn i j i2 hi2 hj2
theorem cl_Ci {p : Program} {l : Launch} {e : Env} {R : Room} {s : State} {m : MethodId} {args : Array Value} {below : List Frame} {meth : Method} {c : Code} {H : Heap} {locs : List Loc} {cells slots : Nat} {Q : State → Prop} {cc bytes : ByteArray} {pc : Nat} {ls : Array Slot} {rest As st0 : List Value} {D : va_G} {ci : Nat → ClassId} {A : Nat → Prop} {css csC csR csC1 csN : List va_W} {wc w1 : va_W} {y : MethodName} {ws : List Cond} {rm : Room} {Ts : List Cond} {own C : String} {index n nL maxL : Nat} {ret : Option FieldType} {b k0 N : Nat} {fs : List Value} {T : u_T} {res : Int32} 
    (S : CallFix p m c cc nL s args Ts own) (cw : CallW R s args own C index y bytes maxL ret ws rm 0 0 n) (hM : CtI l y ws rm (.ref b :: As) D ci wc H.size res w1)
    (hK : va_K D vwCl (tyL ci) s) (hP : va_P D vwCl (fl css) H) (hD : va_D A (fl css)) (hS : va_S A s.heap H locs) (hA : ∀ q, s.heap.size ≤ q → A q)
    (isC isN : List Nat) (hC : isC.map (fun i => css[i]?) = (csR ++ csC).map some) (hN : isN.map (fun i => (csR ++ csC1)[i]?) = csN.map some) (hdC : va_nd isC = true) (hdN : va_nd isN = true) (hwc : fl csC = wc) (hw1 : fl csC1 = w1)
    (q0 : Nat) (hrc : wc[q0]? = some (b, .inr (k0, fs))) (hcl : vwCl[k0]? = some (C, T, N)) (hst : st0 = As.reverse ++ .ref b :: rest) (hAs : As.length = n) (hsz : ls.size = nL) (hroom : (rest.map fun v => v.category).sum ≤ 8) (hdg : decode cc pc = .ok (.invokevirtual index, 3)) (hc0 : cells ≤ R.cells) (hs0 : slots ≤ R.slots)
    (kk : ∀ (H1 : Heap) (locs1 : List Loc), va_P D vwCl (fl csN) H1 → va_D A (fl csN) → va_S A s.heap H1 locs1 → W p l e R s m args below meth c H1 locs1 cells slots Q (F0 m (pc + 3) ls (.int res :: rest))) : W p l e R s m args below meth c H locs cells slots Q (F0 m pc ls st0) := by
  have hP2 : va_P D vwCl (fl csR ++ wc) H := by have h := fl_P_pick isC hC hP; rw [fl_app, hwc] at h; exact h
  have hD2 : va_D A (fl csR ++ wc) := by have h := fl_D_pick isC hdC hC hD; rw [fl_app, hwc] at h; exact h
  have hPc : va_P D vwCl wc H := app_r hP2
  have hDc : va_D A wc := app_rD hD2
  have hFc : ∀ q, va_A wc H.size q → A q := fun q h => by
    rcases h with ⟨k, e9, h⟩ | h
    · exact hDc.2 k _ h
    · exact hA q (Nat.le_trans hS.1 h)
  have apart : ∀ (k : Nat) (q : Nat × va_E), (fl csR)[k]? = some q → q.1 < H.size ∧ ¬ va_A wc H.size q.1 := fun k q hk => by
    have hl := (app_l hP2 k q hk).lt
    refine ⟨hl, fun h => ?_⟩
    rcases h with ⟨k2, e9, h⟩ | h
    · exact app_ne hD2 hk h rfl
    · omega
  refine va_calli (va_runV (As := As) (rest := rest) S hM cw ⟨Pq_blind, va_recv hK hPc hcl hrc, fun U hU hW => ⟨rfl, by rw [hU], by rw [hU]; exact hPc, va_K.moved hW.alike hK, hDc.weaken (fun _ _ _ _ => trivial)⟩⟩ rfl hAs hsz hst (lv_room hroom) hdg ⟨hc0, hs0⟩) hS (fun q _ h => hFc q h) hFc (fun r u t H1 locs1 ht hvm hw hB hz1 hk1 hS1 => ?_)
  subst hw
  obtain ⟨hP1, hK1, hD1⟩ := hB
  rw [ht] at hP1
  have hP3 : va_P D vwCl (fl (csR ++ csC1)) H1 := by
    rw [fl_app, hw1]
    exact ((app_l hP2).kept (fun k q hk => hk1 q.1 (apart k q hk).1 (apart k q hk).2)).app hP1
  have hD3 : va_D A (fl (csR ++ csC1)) := by
    rw [fl_app, hw1]
    exact va_D.app (app_lD hD2) (hD1.weaken (fun k q _ h => hFc q.1 h)) (fun i j x y hx hy hxy => (apart i x hx).2 (by rw [hxy]; exact hD1.2 j y hy))
  exact kk H1 locs1 (fl_P_pick isN hN hP3) (fl_D_pick isN hdN hN hD3) hS1

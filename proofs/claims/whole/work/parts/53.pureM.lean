/-! ===== turns: the reference ===== -/
theorem SM_cong2 {W H : Nat} {hd hd2 ag ag2 : Nat → Nat} {ga : Nat → Bool} {ow : Int32} {yr : Nat} {n : Nat → Int32} (h : SM W H hd ag ga ow yr n) (e1 : ∀ d, d < eN W H → hd d = hd2 d) (e2 : ∀ d, d < eN W H → ag d = ag2 d) : SM W H hd2 ag2 ga ow yr n :=
  ⟨fun d hdl => by rw [← e1 d hdl, ← e2 d hdl]; exact h.1 d hdl, h.2⟩
theorem pm_slip {W H : Nat} {hd ag : Nat → Nat} {ga : Nat → Bool} {ow : Int32} {yr : Nat} {zM : MS} (ok : okB W H = true) (hS : SM W H hd ag ga ow yr (zM.2 8)) {m a : Nat} (hm : m ≤ eN W H) (hga : m < eN W H → ga m = false) :
    ∃ n, (if nI (eN W H) ≤ nI m then (some (zM : MS)) else ((f_X7_plantNow zM (nI m) (nI a)).bind fun zM_28 => some (zM_28 : MS))) = some (zM.1, va_up zM.2 8 n) ∧ SM W H (va_up hd m (a + 1)) (va_up ag m 0) ga ow yr n := by
  have hgn := geo_n ok
  by_cases c : m = eN W H
  · refine ⟨zM.2 8, by rw [c, if_pos (Int32.le_refl _), zu_self], SM_cong2 hS (fun d hdl => by rw [zu_ne _ _ (by omega)]) (fun d hdl => by rw [zu_ne _ _ (by omega)])⟩
  · have hl : m < eN W H := by omega
    obtain ⟨n, m1, m2⟩ := pm_plantNow ok hS hl (h := a + 1) (x := nI a) (by rw [if_neg (by omega)]; rfl)
    rw [up_same (hga hl)] at m2
    refine ⟨n, ?_, m2⟩
    rw [if_neg (fun q => absurd ((nI_leI (by omega) (by omega)).mp q) (by omega)), m1]
    rfl
theorem shutB_ag {W H : Nat} {so hd ag ag2 : Nat → Nat} {ga : Nat → Bool} {e : Nat} (h : hd e ≠ 0 → ag e = ag2 e) : shutB W H so hd ag ga e = shutB W H so hd ag2 ga e := by
  unfold shutB tallB
  by_cases c : hd e = 0
  · rw [c]; rfl
  · rw [h c]
theorem pm_runs {W H : Nat} {so : Nat → Nat} {pa : Nat → Bool} {zM : MS} {hd ag : Nat → Nat} {ga : Nat → Bool} {ow : Int32} {yr : Nat} (p1 p2 p3 t : Int32) (ok : okB W H = true) (hs : soOk so) (hG : GM W H so pa zM) (hK : SK W H hd ag ga ow yr) (hS : SM W H hd ag ga ow yr (zM.2 8)) {N : Nat} (hN : N ≤ 6) :
    ∃ v n, L_X7_fieldsBy_92 p1 p2 p3 (nI N) t 3000 0 zM = some (v, ((zM.1, va_up zM.2 8 n) : MS)) ∧ n 120 = runC W H (fun y e => shutB W H so hd (fun e => min 99 (ag e + y)) ga e) (fun e => decide (hd e = 2)) ow N := by
  obtain ⟨q, hq, n, e, hp⟩ := up_loop (σ := MS) (fun n i s => L_X7_fieldsBy_92 p1 p2 p3 (nI N) t n i s) N
    (fun k s => ∃ n agk, s = (zM.1, va_up zM.2 8 n) ∧ (∀ e, hd e ≠ 0 → agk e = min 99 (ag e + k)) ∧ SK W H hd agk ga (runC W H (fun y e => shutB W H so hd (fun e => min 99 (ag e + y)) ga e) (fun e => decide (hd e = 2)) ow k) (yr + k) ∧ SM W H hd agk ga (runC W H (fun y e => shutB W H so hd (fun e => min 99 (ag e + y)) ga e) (fun e => decide (hd e = 2)) ow k) (yr + k) n)
    (fun q => ∃ n, q.2 = (zM.1, va_up zM.2 8 n) ∧ n 120 = runC W H (fun y e => shutB W H so hd (fun e => min 99 (ag e + y)) ga e) (fun e => decide (hd e = 2)) ow N)
    (fun n s hI => by
      obtain ⟨m, agk, e, h1, h2, h3⟩ := hI
      refine ⟨(nI N, s), ?_, m, e, h3.2.1⟩
      show L_X7_fieldsBy_92 p1 p2 p3 (nI N) t (n + 1) (nI N) s = _
      rw [L_X7_fieldsBy_92, if_pos (Int32.le_refl _)])
    (fun n k s hk hI => by
      obtain ⟨m, agk, e, h1, h2, h3⟩ := hI
      right
      have hG2 : GM W H so pa (zM.1, va_up zM.2 8 m) := GM_up hG rfl rfl rfl rfl rfl rfl rfl rfl
      obtain ⟨n2, x, p1', p2', p3'⟩ := pm_pass (zM := (zM.1, va_up zM.2 8 m)) ok hs hG2 h2 h3
      have hold : ∀ e, hd e ≠ 0 → older hd agk e = min 99 (ag e + (k + 1)) := fun e he => by
        unfold older
        rw [if_neg he, h1 e he]
        omega
      have hx : x = runC W H (fun y e => shutB W H so hd (fun e => min 99 (ag e + y)) ga e) (fun e => decide (hd e = 2)) ow (k + 1) :=
        marC_is (isMar_cong ok p2' (fun e _ => shutB_ag (hold e)) (fun _ _ _ => rfl))
      refine ⟨(zM.1, va_up zM.2 8 n2), ⟨n2, older hd agk, rfl, hold, ?_, ?_⟩, ?_⟩
      · rw [← hx]; exact SK_old h2 (isMar_in p2')
      · rw [← hx]; exact p3'
      · show L_X7_fieldsBy_92 p1 p2 p3 (nI N) t (n + 1) (nI k) s = L_X7_fieldsBy_92 p1 p2 p3 (nI N) t n (nI (k + 1)) _
        rw [e, L_X7_fieldsBy_92, if_neg (fun q => absurd ((nI_leI (by omega) (by omega)).mp q) (by omega)), p1']
        simp only [Option.bind_some, nm_s, nI_1, zu_up]) 3000 0 zM (by omega) (by omega) ⟨zM.2 8, ag, by rw [zu_self], fun e _ => by have := (hK.1 e).2.1; omega, hK, hS⟩
  exact ⟨q.1, n, by rw [show (L_X7_fieldsBy_92 p1 p2 p3 (nI N) t 3000 0 zM) = some q from hq, ← e], hp⟩
theorem shR_T {W H : Nat} {so hd ag : Nat → Nat} {ga : Nat → Bool} (hs : soOk so) {a m i y e : Nat} (he : e < eN W H) (hm : m < eN W H → hd m = 0 ∧ ga m = false) (hi : i < eN W H → hd i = 0 ∧ ga i = false) :
    shutB W H so (va_up (va_up hd m (a + 1)) i (1 - a + 1)) (fun e => min 99 (va_up (va_up ag m 0) i 0 e + y)) ga e = shT W H so hd ag ga m i y e := by
  have hg := ageT_le (gr_rng (W := W) (H := H) hs e)
  have key : ∀ A : Nat, decide (12 ≤ hgt W H so e A) = decide (ageT (gr W H so e) ≤ A) := fun A => decide_eq_decide.mpr (hgt_iff hs e A)
  unfold shutB shT tallB
  show ((decide (va_up (va_up hd m (a + 1)) i (1 - a + 1) e ≠ 0) && decide (12 ≤ hgt W H so e (min 99 (va_up (va_up ag m 0) i 0 e + y) + 0))) && !(ga e)) = _
  rw [key, key]
  by_cases c : e = i
  · have := hi (by omega)
    rw [← c] at this
    rw [c, zu_eq, zu_eq, ← c, this.1, this.2, show decide (ageT (gr W H so e) ≤ min 99 (0 + y) + 0) = decide (ageT (gr W H so e) ≤ y) from decide_eq_decide.mpr (by omega)]
    simp
  · rw [zu_ne _ _ c, zu_ne _ _ c]
    by_cases d : e = m
    · have := hm (by omega)
      rw [← d] at this
      rw [d, zu_eq, zu_eq, ← d, this.1, this.2, show decide (ageT (gr W H so e) ≤ min 99 (0 + y) + 0) = decide (ageT (gr W H so e) ≤ y) from decide_eq_decide.mpr (by omega)]
      simp
    · rw [zu_ne _ _ d, zu_ne _ _ d, show decide (ageT (gr W H so e) ≤ min 99 (ag e + y) + 0) = decide (ageT (gr W H so e) ≤ ag e + y) from decide_eq_decide.mpr (by omega)]
      simp [c, d]
theorem one_T {W H : Nat} {hd : Nat → Nat} {a m i e : Nat} (ha : a < 2) (he : e < eN W H) (hm : m < eN W H → hd m = 0) (hi : i < eN W H → hd i = 0) (hmi : i < eN W H → ¬ i = m) :
    decide (va_up (va_up hd m (a + 1)) i (1 - a + 1) e = 2) = oneT hd a m i e := by
  unfold oneT
  by_cases c : e = i
  · have h1 := hi (by omega)
    have h2 := hmi (by omega)
    rw [c, zu_eq, h1]
    rcases (show a = 0 ∨ a = 1 by omega) with rfl | rfl
    · simp
    · simp [h2]
  · rw [zu_ne _ _ c]
    by_cases d : e = m
    · have h1 := hm (by omega)
      rw [d, zu_eq, h1]
      rw [d] at c
      rcases (show a = 0 ∨ a = 1 by omega) with rfl | rfl
      · simp [c]
      · simp
    · rw [zu_ne _ _ d]
      simp [c, d]
def okM (W H : Nat) (hd : Nat → Nat) (pa : Nat → Bool) (m : Nat) : Bool := decide (m = eN W H) || mayB hd pa m
theorem may_val {W H : Nat} {so : Nat → Nat} {pa : Nat → Bool} {zM : MS} {hd ag : Nat → Nat} {ga : Nat → Bool} {ow : Int32} {yr : Nat} (ok : okB W H = true) (hG : GM W H so pa zM) (hK : SK W H hd ag ga ow yr) (hS : SM W H hd ag ga ow yr (zM.2 8)) {m i : Nat} (hm : m ≤ eN W H) (hi : i ≤ eN W H) :
    (if nI m = (zM.1 3) then (if nI i = (zM.1 3) then (if nI i = (zM.1 3) then (some (1 : Int32)) else (if nI i = nI m then (some (0 : Int32)) else (some (1 : Int32)))) else ((f_X7_mayPlant zM (nI i)).bind fun r_7 => if r_7 = 0 then (some (0 : Int32)) else (if nI i = (zM.1 3) then (some (1 : Int32)) else (if nI i = nI m then (some (0 : Int32)) else (some (1 : Int32)))))) else ((f_X7_mayPlant zM (nI m)).bind fun r_12 => if r_12 = 0 then (some (0 : Int32)) else (if nI i = (zM.1 3) then (if nI i = (zM.1 3) then (some (1 : Int32)) else (if nI i = nI m then (some (0 : Int32)) else (some (1 : Int32)))) else ((f_X7_mayPlant zM (nI i)).bind fun r_18 => if r_18 = 0 then (some (0 : Int32)) else (if nI i = (zM.1 3) then (some (1 : Int32)) else (if nI i = nI m then (some (0 : Int32)) else (some (1 : Int32)))))))) = some (if (okM W H hd pa m && okP W H hd pa m i) then 1 else 0) := by
  have hgn := geo_n ok
  rw [hG.1.2.2.2]
  have eq1 : ∀ {p q : Nat}, p ≤ eN W H → q ≤ eN W H → (nI p = nI q ↔ p = q) := fun h1 h2 => nI_eq (by omega) (by omega)
  unfold okM okP
  by_cases c : m = eN W H
  · rw [if_pos (show nI m = nI (eN W H) by rw [c]), decide_eq_true c]
    by_cases d : i = eN W H
    · rw [if_pos (show nI i = nI (eN W H) by rw [d]), if_pos (show nI i = nI (eN W H) by rw [d]), decide_eq_true d]
      rfl
    · have hne : ¬ nI i = nI (eN W H) := fun q => d ((eq1 hi (Nat.le_refl _)).mp q)
      have hnm : ¬ nI i = nI m := fun q => d (by rw [(eq1 hi hm).mp q]; exact c)
      rw [if_neg hne, mayP_m ok hG hK hS (show i < eN W H by omega), decide_eq_false d, decide_eq_false (show ¬ i = m by omega)]
      simp only [Option.bind_some]
      rw [if_neg hne, if_neg hnm]
      cases mayB hd pa i <;> rfl
  · have hnm : ¬ nI m = nI (eN W H) := fun q => c ((eq1 hm (Nat.le_refl _)).mp q)
    rw [if_neg hnm, mayP_m ok hG hK hS (show m < eN W H by omega), decide_eq_false c]
    simp only [Option.bind_some]
    by_cases d : i = eN W H
    · rw [if_pos (show nI i = nI (eN W H) by rw [d]), if_pos (show nI i = nI (eN W H) by rw [d]), decide_eq_true d]
      cases mayB hd pa m <;> rfl
    · have hne : ¬ nI i = nI (eN W H) := fun q => d ((eq1 hi (Nat.le_refl _)).mp q)
      rw [if_neg hne, mayP_m ok hG hK hS (show i < eN W H by omega), decide_eq_false d]
      simp only [Option.bind_some]
      rw [if_neg hne]
      by_cases g : i = m
      · rw [if_pos (show nI i = nI m by rw [g]), decide_eq_true g]
        cases mayB hd pa m <;> cases mayB hd pa i <;> rfl
      · rw [if_neg (fun q => g ((eq1 hi hm).mp q)), decide_eq_false g]
        cases mayB hd pa m <;> cases mayB hd pa i <;> rfl
theorem pm_fieldsBy {W H : Nat} {so : Nat → Nat} {pa : Nat → Bool} {zM : MS} {hd ag : Nat → Nat} {ga : Nat → Bool} {ow : Int32} {yr : Nat} (ok : okB W H = true) (hs : soOk so) (hG : GM W H so pa zM) (hK : SK W H hd ag ga ow yr) (hS : SM W H hd ag ga ow yr (zM.2 8)) (hw : ∀ j, j < 122 → zM.2 28 j = zM.2 8 j) {a N m i : Nat} (ha : a < 2) (hN : N ≤ 6) (hm : m ≤ eN W H) (hi : i ≤ eN W H) :
    ∃ r, f_X7_fieldsBy zM (nI a) (nI m) (nI i) (nI N) = some (if (okM W H hd pa m && okP W H hd pa m i) then nI (valT W H so hd ag ga ow a N m i) else -1, ((zM.1, va_up zM.2 8 r) : MS)) ∧ ∀ j, j < 122 → r j = zM.2 8 j := by
  have hgn := geo_n ok
  cases v : (okM W H hd pa m && okP W H hd pa m i)
  · refine ⟨zM.2 8, ?_, fun _ _ => rfl⟩
    unfold f_X7_fieldsBy
    rw [may_val ok hG hK hS hm hi, v]
    simp only [Option.bind_some]
    rw [zu_self]
    rfl
  · rw [Bool.and_eq_true] at v
    have hm0 : m < eN W H → hd m = 0 ∧ ga m = false := fun h => by
      have := v.1
      unfold okM at this
      rw [decide_eq_false (show ¬ m = eN W H by omega), Bool.false_or] at this
      exact ⟨mayB_hd this, (hK.1 m).2.2 (mayB_hd this)⟩
    have hi0 : i < eN W H → (hd i = 0 ∧ ga i = false) ∧ ¬ i = m := fun h => by
      have := v.2
      unfold okP at this
      rw [decide_eq_false (show ¬ i = eN W H by omega), Bool.false_or, Bool.and_eq_true, Bool.not_eq_true', decide_eq_false_iff_not] at this
      exact ⟨⟨mayB_hd this.1, (hK.1 i).2.2 (mayB_hd this.1)⟩, this.2⟩
    obtain ⟨n1, s1, s2⟩ := pm_slip (a := a) ok hS hm (fun h => (hm0 h).2)
    obtain ⟨n2, s3, s4⟩ := pm_slip (zM := (zM.1, va_up zM.2 8 n1)) (a := 1 - a) ok s2 hi (fun h => (hi0 h).1.2)
    simp only [zu_up] at s3
    have hG2 : GM W H so pa (zM.1, va_up zM.2 8 n2) := GM_up hG rfl rfl rfl rfl rfl rfl rfl rfl
    have hK2 : SK W H (va_up (va_up hd m (a + 1)) i (1 - a + 1)) (va_up (va_up ag m 0) i 0) ga ow yr := by
      refine ⟨fun d => ?_, hK.2⟩
      by_cases c : d = i
      · rw [c, zu_eq, zu_eq]; exact ⟨by omega, by omega, fun q => by omega⟩
      · rw [zu_ne _ _ c, zu_ne _ _ c]
        by_cases g : d = m
        · rw [g, zu_eq, zu_eq]; exact ⟨by omega, by omega, fun q => by omega⟩
        · rw [zu_ne _ _ g, zu_ne _ _ g]; exact hK.1 d
    obtain ⟨w, n3, s5, s6⟩ := pm_runs (zM := (zM.1, va_up zM.2 8 n2)) (nI a) (nI m) (nI i) 1 ok hs hG2 hK2 s4 hN
    simp only [zu_up] at s5
    have hrun : n3 120 = runC W H (shT W H so hd ag ga m i) (oneT hd a m i) ow N := by
      rw [s6]
      exact runC_cong ok (N := N) (fun y e _ he => shR_T hs he hm0 (fun h => (hi0 h).1)) (fun y e _ he _ => one_T ha he (fun h => (hm0 h).1) (fun h => (hi0 h).1.1) (fun h => (hi0 h).2)) N (Nat.le_refl N)
    obtain ⟨w2, n4, s7, s8, -⟩ := cp_putBack (zM := (zM.1, va_up zM.2 8 n3))
    simp only [zu_up] at s7
    have hin : ∀ j, bt (n3 120) j = true → j < W * H := by rw [hrun]; exact runC_in ok hK.2.1 _
    have hct : fb_ct (bt (n3 120)) 25 ≤ W * H := by
      rw [ct_same (n := W * H) hin (m := 25) (by omega)]; exact fb_ct_le _ _
    refine ⟨n4, ?_, fun j hj => (s8 j hj).trans (hw j hj)⟩
    unfold f_X7_fieldsBy
    rw [may_val ok hG hK hS hm hi, v.1, v.2]
    simp only [Option.bind_some]
    rw [if_neg (by decide), hG.1.2.2.2, s1]
    simp only [Option.bind_some]
    rw [hG.1.2.2.2, show (1 : Int32) - nI a = nI (1 - a) from pk_sub (a := 1) (by omega), s3]
    simp only [Option.bind_some, nm_s]
    rw [show (L_X7_fieldsBy_92 (nI a) (nI m) (nI i) (nI N) (if (true && true) = true then 1 else 0) 3000 0 (zM.1, va_up zM.2 8 n2)) = some (w, ((zM.1, va_up zM.2 8 n3) : MS)) from s5]
    simp only [Option.bind_some, zu_eq]
    rw [show (120 : Int32) = nI 120 from rfl, ald_s _ _ (show 120 < 122 by omega) (by omega), ald_s _ _ (show 120 < 122 by omega) (by omega), pm_bits, hG.1.2.2.1]
    have hpb : f_X7_putBack (zM.1, va_up zM.2 8 n3) = some (zM.1, va_up zM.2 8 n4) := by
      unfold f_X7_putBack
      simp only [nm_s]
      rw [s7]
      rfl
    unfold valT valX
    rw [← hrun]
    rcases (show a = 0 ∨ a = 1 by omega) with rfl | rfl
    · rw [if_neg (by decide)]
      simp only [Option.bind_some]
      rw [hpb, pk_sub hct]
      rfl
    · rw [if_pos (show nI 1 = 1 from rfl)]
      simp only [Option.bind_some]
      rw [hpb]
      rfl
theorem pm_least {W H : Nat} {so : Nat → Nat} {pa : Nat → Bool} {zM : MS} {hd ag : Nat → Nat} {ga : Nat → Bool} {ow : Int32} {yr : Nat} (v3 : Int32) (ok : okB W H = true) (hs : soOk so) (hG : GM W H so pa zM) (hK : SK W H hd ag ga ow yr) (hS : SM W H hd ag ga ow yr (zM.2 8)) (hw : ∀ j, j < 122 → zM.2 28 j = zM.2 8 j) {a N m : Nat} (ha : a < 2) (hN : N ≤ 6) (hm : m ≤ eN W H) :
    ∃ k r, L_X7_turns_81 (nI a) (nI N) v3 (nI m) 3000 (-1) 0 zM = some (if okM W H hd pa m then nI (lowT W H so hd ag pa ga ow a N m) else -1, k, ((zM.1, va_up zM.2 8 r) : MS)) ∧ ∀ j, j < 122 → r j = zM.2 8 j := by
  have hgn := geo_n ok
  have hle : ∀ i, valT W H so hd ag ga ow a N m i ≤ 25 := fun i => valX_le ok a _
  obtain ⟨q, hq, e1, r, e2, hr⟩ := up_loop (σ := Int32 × MS) (fun n i s => L_X7_turns_81 (nI a) (nI N) v3 (nI m) n s.1 i s.2) (eN W H + 1)
    (fun k s => (∃ r, s.2 = (zM.1, va_up zM.2 8 r) ∧ ∀ j, j < 122 → r j = zM.2 8 j) ∧ ((s.1 = -1 ∧ ∀ i, i < k → (okM W H hd pa m && okP W H hd pa m i) = false) ∨ (okM W H hd pa m = true ∧ ∃ w, w ≤ 25 ∧ s.1 = nI w ∧ (∃ i, i < k ∧ okP W H hd pa m i = true ∧ w = valT W H so hd ag ga ow a N m i) ∧ ∀ i, i < k → okP W H hd pa m i = true → w ≤ valT W H so hd ag ga ow a N m i)))
    (fun q => q.1 = (if okM W H hd pa m then nI (lowT W H so hd ag pa ga ow a N m) else -1) ∧ ∃ r, q.2.2 = (zM.1, va_up zM.2 8 r) ∧ ∀ j, j < 122 → r j = zM.2 8 j)
    (fun n s hI => by
      obtain ⟨⟨r, e, hr⟩, h⟩ := hI
      refine ⟨(s.1, nI (eN W H + 1), s.2), ?_, ?_, r, e, hr⟩
      · show L_X7_turns_81 (nI a) (nI N) v3 (nI m) (n + 1) s.1 (nI (eN W H + 1)) s.2 = _
        rw [L_X7_turns_81, e, show ((zM.1, va_up zM.2 8 r) : MS).1 3 = nI (eN W H) from hG.1.2.2.2, if_pos ((nI_ltI (by omega) (by omega)).mpr (by omega))]
      · rcases h with ⟨h1, h2⟩ | ⟨h0, w, h1, h2, h3, h4⟩
        · have := h2 (eN W H) (by omega)
          rw [show okP W H hd pa m (eN W H) = true by unfold okP; simp, Bool.and_true] at this
          rw [this]; exact h1
        · rw [h0, if_pos rfl]
          show s.1 = _
          rw [h2]
          congr 1
          refine isLow_one ⟨?_, fun i hi hp => h4 i (by omega) hp⟩ (lowT_ok W H so hd ag pa ga ow a N m)
          obtain ⟨i, i1, i2, i3⟩ := h3
          exact ⟨i, by omega, i2, i3⟩)
    (fun n k s hk hI => by
      obtain ⟨⟨r, e, hr⟩, h⟩ := hI
      right
      have hG2 : GM W H so pa (zM.1, va_up zM.2 8 r) := GM_up hG rfl rfl rfl rfl rfl rfl rfl rfl
      have hS2 : SM W H hd ag ga ow yr r := SM_cong ok hS hr
      obtain ⟨r2, f1, f2⟩ := pm_fieldsBy (zM := (zM.1, va_up zM.2 8 r)) ok hs hG2 hK hS2 (fun j hj => (hw j hj).trans (hr j hj).symm) ha hN hm (show k ≤ eN W H by omega)
      simp only [zu_up] at f1
      have hr2 : ∀ j, j < 122 → r2 j = zM.2 8 j := fun j hj => (f2 j hj).trans (hr j hj)
      have hvk := hle k
      have e0 : ∀ x : Int32, (if (okM W H hd pa m && okP W H hd pa m k) then nI (valT W H so hd ag ga ow a N m k) else -1) = x → L_X7_turns_81 (nI a) (nI N) v3 (nI m) (n + 1) s.1 (nI k) s.2 = L_X7_turns_81 (nI a) (nI N) v3 (nI m) n (if x < 0 then s.1 else (if s.1 < 0 then x else (if s.1 ≤ x then s.1 else x))) (nI (k + 1)) (zM.1, va_up zM.2 8 r2) := fun x hx => by
        rw [L_X7_turns_81, e, show ((zM.1, va_up zM.2 8 r) : MS).1 3 = nI (eN W H) from hG.1.2.2.2, if_neg (fun q => absurd ((nI_ltI (by omega) (by omega)).mp q) (by omega)), f1, hx]
        simp only [Option.bind_some, nm_s, nI_1]
        by_cases c : x < 0
        · rw [if_pos c, if_pos c]
        · rw [if_neg c, if_neg c]
          by_cases d : s.1 < 0
          · rw [if_pos d, if_pos d]
          · rw [if_neg d, if_neg d]
            by_cases g : s.1 ≤ x
            · rw [if_pos g, if_pos g]
            · rw [if_neg g, if_neg g]
      cases v : (okM W H hd pa m && okP W H hd pa m k)
      · have e3 := e0 (-1) (by rw [v]; rfl)
        rw [if_pos (show (-1 : Int32) < 0 by decide)] at e3
        refine ⟨(s.1, (zM.1, va_up zM.2 8 r2)), ⟨⟨r2, rfl, hr2⟩, ?_⟩, e3⟩
        rcases h with ⟨h1, h2⟩ | ⟨h0, w, h1, h2, ⟨i, i1, i2, i3⟩, h4⟩
        · refine Or.inl ⟨h1, fun i hi => ?_⟩
          rcases Nat.lt_or_ge i k with z | z
          · exact h2 i z
          · have : i = k := by omega
            rw [this]; exact v
        · refine Or.inr ⟨h0, w, h1, h2, ⟨i, by omega, i2, i3⟩, fun i hi hp => ?_⟩
          rcases Nat.lt_or_ge i k with z | z
          · exact h4 i z hp
          · have : i = k := by omega
            rw [this] at hp
            rw [h0, hp] at v; cases v
      · have e3 := e0 (nI (valT W H so hd ag ga ow a N m k)) (by rw [v]; rfl)
        rw [if_neg (nI_pos (by omega))] at e3
        rw [Bool.and_eq_true] at v
        rcases h with ⟨h1, h2⟩ | ⟨h0, w, h1, h2, ⟨i, i1, i2, i3⟩, h4⟩
        · rw [h1, if_pos (show (-1 : Int32) < 0 by decide)] at e3
          refine ⟨(nI (valT W H so hd ag ga ow a N m k), (zM.1, va_up zM.2 8 r2)), ⟨⟨r2, rfl, hr2⟩, Or.inr ⟨v.1, _, hvk, rfl, ⟨k, by omega, v.2, rfl⟩, fun i hi hp => ?_⟩⟩, by rw [← h1] at e3; exact e3⟩
          rcases Nat.lt_or_ge i k with z | z
          · have := h2 i z
            rw [v.1, hp] at this; cases this
          · have : i = k := by omega
            rw [this]; exact Nat.le_refl _
        · rw [if_neg (by rw [h2]; exact nI_pos (by omega))] at e3
          by_cases g : s.1 ≤ nI (valT W H so hd ag ga ow a N m k)
          · rw [if_pos g] at e3
            have g2 : w ≤ valT W H so hd ag ga ow a N m k := by rw [h2] at g; exact (nI_leI (by omega) (by omega)).mp g
            refine ⟨(s.1, (zM.1, va_up zM.2 8 r2)), ⟨⟨r2, rfl, hr2⟩, Or.inr ⟨h0, w, h1, h2, ⟨i, by omega, i2, i3⟩, fun i hi hp => ?_⟩⟩, e3⟩
            rcases Nat.lt_or_ge i k with z | z
            · exact h4 i z hp
            · have : i = k := by omega
              rw [this]; exact g2
          · rw [if_neg g] at e3
            have g2 : ¬ w ≤ valT W H so hd ag ga ow a N m k := fun z => g (by rw [h2]; exact (nI_leI (by omega) (by omega)).mpr z)
            refine ⟨(nI (valT W H so hd ag ga ow a N m k), (zM.1, va_up zM.2 8 r2)), ⟨⟨r2, rfl, hr2⟩, Or.inr ⟨h0, _, hvk, rfl, ⟨k, by omega, v.2, rfl⟩, fun i hi hp => ?_⟩⟩, e3⟩
            rcases Nat.lt_or_ge i k with z | z
            · have := h4 i z hp; omega
            · have : i = k := by omega
              rw [this]; exact Nat.le_refl _) 3000 0 (-1, zM) (by omega) (by omega) ⟨⟨zM.2 8, by rw [zu_self], fun _ _ => rfl⟩, Or.inl ⟨rfl, fun i hi => absurd hi (Nat.not_lt_zero i)⟩⟩
  refine ⟨q.2.1, r, ?_, hr⟩
  rw [show (L_X7_turns_81 (nI a) (nI N) v3 (nI m) 3000 (-1) 0 zM) = some q from hq, ← e1, ← e2]
theorem pm_best {W H : Nat} {so : Nat → Nat} {pa : Nat → Bool} {zM : MS} {hd ag : Nat → Nat} {ga : Nat → Bool} {ow : Int32} {yr : Nat} (ok : okB W H = true) (hs : soOk so) (hG : GM W H so pa zM) (hK : SK W H hd ag ga ow yr) (hS : SM W H hd ag ga ow yr (zM.2 8)) (hw : ∀ j, j < 122 → zM.2 28 j = zM.2 8 j) {a N : Nat} (ha : a < 2) (hN : N ≤ 6) :
    ∃ v k r, L_X7_turns_66 (nI a) (nI N) 3000 (-1) 0 zM = some (nI v, k, ((zM.1, va_up zM.2 8 r) : MS)) ∧ isHigh (lowT W H so hd ag pa ga ow a N) (fun m => decide (m = eN W H) || mayB hd pa m) (eN W H) v ∧ ∀ j, j < 122 → r j = zM.2 8 j := by
  have hgn := geo_n ok
  have hle : ∀ i, lowT W H so hd ag pa ga ow a N i ≤ 25 := fun i => lowT_le ok so hd ag pa ga ow a N i
  obtain ⟨q, hq, ⟨w, e1, hi⟩, r, e2, hr⟩ := up_loop (σ := Int32 × MS) (fun n i s => L_X7_turns_66 (nI a) (nI N) n s.1 i s.2) (eN W H + 1)
    (fun k s => (∃ r, s.2 = (zM.1, va_up zM.2 8 r) ∧ ∀ j, j < 122 → r j = zM.2 8 j) ∧ ((s.1 = -1 ∧ ∀ i, i < k → okM W H hd pa i = false) ∨ (∃ w, w ≤ 25 ∧ s.1 = nI w ∧ (∃ i, i < k ∧ okM W H hd pa i = true ∧ w = lowT W H so hd ag pa ga ow a N i) ∧ ∀ i, i < k → okM W H hd pa i = true → lowT W H so hd ag pa ga ow a N i ≤ w)))
    (fun q => (∃ w, q.1 = nI w ∧ isHigh (lowT W H so hd ag pa ga ow a N) (fun m => decide (m = eN W H) || mayB hd pa m) (eN W H) w) ∧ ∃ r, q.2.2 = (zM.1, va_up zM.2 8 r) ∧ ∀ j, j < 122 → r j = zM.2 8 j)
    (fun n s hI => by
      obtain ⟨⟨r, e, hr⟩, h⟩ := hI
      refine ⟨(s.1, nI (eN W H + 1), s.2), ?_, ?_, r, e, hr⟩
      · show L_X7_turns_66 (nI a) (nI N) (n + 1) s.1 (nI (eN W H + 1)) s.2 = _
        rw [L_X7_turns_66, e, show ((zM.1, va_up zM.2 8 r) : MS).1 3 = nI (eN W H) from hG.1.2.2.2, if_pos ((nI_ltI (by omega) (by omega)).mpr (by omega))]
      · rcases h with ⟨h1, h2⟩ | ⟨w, h1, h2, ⟨i, i1, i2, i3⟩, h4⟩
        · have := h2 (eN W H) (by omega)
          unfold okM at this
          simp at this
        · exact ⟨w, h2, ⟨i, by omega, i2, i3⟩, fun i hi hp => h4 i (by omega) hp⟩)
    (fun n k s hk hI => by
      obtain ⟨⟨r, e, hr⟩, h⟩ := hI
      right
      have hG2 : GM W H so pa (zM.1, va_up zM.2 8 r) := GM_up hG rfl rfl rfl rfl rfl rfl rfl rfl
      have hS2 : SM W H hd ag ga ow yr r := SM_cong ok hS hr
      obtain ⟨kk, r2, f1, f2⟩ := pm_least (zM := (zM.1, va_up zM.2 8 r)) s.1 ok hs hG2 hK hS2 (fun j hj => (hw j hj).trans (hr j hj).symm) ha hN (show k ≤ eN W H by omega)
      simp only [zu_up] at f1
      have hr2 : ∀ j, j < 122 → r2 j = zM.2 8 j := fun j hj => (f2 j hj).trans (hr j hj)
      have hvk := hle k
      have e0 : ∀ x : Int32, (if okM W H hd pa k then nI (lowT W H so hd ag pa ga ow a N k) else -1) = x → L_X7_turns_66 (nI a) (nI N) (n + 1) s.1 (nI k) s.2 = L_X7_turns_66 (nI a) (nI N) n (if x ≤ s.1 then s.1 else x) (nI (k + 1)) (zM.1, va_up zM.2 8 r2) := fun x hx => by
        rw [L_X7_turns_66, e, show ((zM.1, va_up zM.2 8 r) : MS).1 3 = nI (eN W H) from hG.1.2.2.2, if_neg (fun q => absurd ((nI_ltI (by omega) (by omega)).mp q) (by omega))]
        simp only [nm_s]
        rw [f1, hx]
        simp only [Option.bind_some, nI_1]
        by_cases c : x ≤ s.1
        · rw [if_pos c, if_pos c]
        · rw [if_neg c, if_neg c]
      cases v : okM W H hd pa k
      · have e3 := e0 (-1) (by rw [v]; rfl)
        have hm1 : (-1 : Int32) ≤ s.1 := by
          rcases h with ⟨h1, -⟩ | ⟨w, h1, h2, -⟩
          · rw [h1]; decide
          · rw [h2, fa_le, nI_toInt (by omega)]
            have : (-1 : Int32).toInt = -1 := rfl
            omega
        rw [if_pos hm1] at e3
        refine ⟨(s.1, (zM.1, va_up zM.2 8 r2)), ⟨⟨r2, rfl, hr2⟩, ?_⟩, e3⟩
        rcases h with ⟨h1, h2⟩ | ⟨w, h1, h2, ⟨i, i1, i2, i3⟩, h4⟩
        · refine Or.inl ⟨h1, fun i hi => ?_⟩
          rcases Nat.lt_or_ge i k with z | z
          · exact h2 i z
          · have : i = k := by omega
            rw [this]; exact v
        · refine Or.inr ⟨w, h1, h2, ⟨i, by omega, i2, i3⟩, fun i hi hp => ?_⟩
          rcases Nat.lt_or_ge i k with z | z
          · exact h4 i z hp
          · have : i = k := by omega
            rw [this, v] at hp; cases hp
      · have e3 := e0 (nI (lowT W H so hd ag pa ga ow a N k)) (by rw [v]; rfl)
        rcases h with ⟨h1, h2⟩ | ⟨w, h1, h2, ⟨i, i1, i2, i3⟩, h4⟩
        · rw [if_neg (by
            rw [h1, fa_le, nI_toInt (by omega)]
            have : (-1 : Int32).toInt = -1 := rfl
            omega)] at e3
          refine ⟨(nI (lowT W H so hd ag pa ga ow a N k), (zM.1, va_up zM.2 8 r2)), ⟨⟨r2, rfl, hr2⟩, Or.inr ⟨_, hvk, rfl, ⟨k, by omega, v, rfl⟩, fun i hi hp => ?_⟩⟩, e3⟩
          rcases Nat.lt_or_ge i k with z | z
          · have := h2 i z
            rw [hp] at this; cases this
          · have : i = k := by omega
            rw [this]; exact Nat.le_refl _
        · by_cases g : nI (lowT W H so hd ag pa ga ow a N k) ≤ s.1
          · rw [if_pos g] at e3
            have g2 : lowT W H so hd ag pa ga ow a N k ≤ w := by rw [h2] at g; exact (nI_leI (by omega) (by omega)).mp g
            refine ⟨(s.1, (zM.1, va_up zM.2 8 r2)), ⟨⟨r2, rfl, hr2⟩, Or.inr ⟨w, h1, h2, ⟨i, by omega, i2, i3⟩, fun i hi hp => ?_⟩⟩, e3⟩
            rcases Nat.lt_or_ge i k with z | z
            · exact h4 i z hp
            · have : i = k := by omega
              rw [this]; exact g2
          · rw [if_neg g] at e3
            have g2 : ¬ lowT W H so hd ag pa ga ow a N k ≤ w := fun z => g (by rw [h2]; exact (nI_leI (by omega) (by omega)).mpr z)
            refine ⟨(nI (lowT W H so hd ag pa ga ow a N k), (zM.1, va_up zM.2 8 r2)), ⟨⟨r2, rfl, hr2⟩, Or.inr ⟨_, hvk, rfl, ⟨k, by omega, v, rfl⟩, fun i hi hp => ?_⟩⟩, e3⟩
            rcases Nat.lt_or_ge i k with z | z
            · have := h4 i z hp; omega
            · have : i = k := by omega
              rw [this]; exact Nat.le_refl _) 3000 0 (-1, zM) (by omega) (by omega) ⟨⟨zM.2 8, by rw [zu_self], fun _ _ => rfl⟩, Or.inl ⟨rfl, fun i hi => absurd hi (Nat.not_lt_zero i)⟩⟩
  refine ⟨w, q.2.1, r, ?_, hi, hr⟩
  rw [show (L_X7_turns_66 (nI a) (nI N) 3000 (-1) 0 zM) = some q from hq, ← e1, ← e2]
theorem sim_16 : SM_16 Rel := by
  intro zX zR zRG zRS zG zS zP zQ zN zI zJ zT zM a1 a2 hR
  have hR0 := hR
  obtain ⟨W, H, ok, ⟨so, pa, hso, hGC, hGM⟩, hS, hP, hI, hN, hT, hf, hs, hs0⟩ := hR
  have hS0 := hS
  obtain ⟨hd, ag, ga, ow, yr, hSK, hSC, hSM⟩ := hS
  have hgn := geo_n ok
  suffices hx : ∃ v zT' zM', f_X6_turns zX zG zS zT a1 a2 = some (v, zT') ∧ f_X7_turns zM a1 a2 = some (v, zM') ∧ Rel (zX, zR, zRG, zRS, zG, zS, zP, zQ, zN, zI, zJ, zT', zM') by
    obtain ⟨v, zT', zM', e1, e2, h⟩ := hx
    unfold sp_16
    rw [e1, e2]
    simp only [Option.bind_some, nm_s, if_true]
    exact ⟨_, rfl, h⟩
  have hin6 : f_X7_in (Int32.toInt64 a2) 1 6 = some (if inR1 a2 6 then 1 else 0) := pm_in1 (n := 6) (by omega)
  by_cases c : inR a1 2 = true
  · obtain ⟨a, ha, rfl⟩ := (inR_nI (by omega)).mp c
    by_cases d : inR1 a2 6 = true
    · obtain ⟨N, hN1, hN2, rfl⟩ := inR1_nI (by omega) d
      by_cases g : nI (W * H) = 0
      · refine ⟨-1000000003, zT, zM, ?_, ?_, hR0⟩
        · unfold f_X6_turns
          rw [(isE (nI a)).1, c]
          simp only [Option.bind_some, if_one, if_true]
          rw [show (6 : Int32) = nI 6 from rfl, rng1 (nI N) (n := 6) (by omega), if_pos d, hGC.1.2.2.1, if_pos g]
          rfl
        · unfold f_X7_turns
          rw [(isE (nI a)).2, c]
          simp only [Option.bind_some, if_one, if_true]
          rw [hin6, d]
          simp only [Option.bind_some, if_one, if_true]
          rw [hGM.1.2.2.1, if_pos g]
          rfl
      · obtain ⟨v, zT', v0, e1, h1⟩ := pc_turns zX zT ok hso hGC hSK hSC ha hN1 hN2 g
        obtain ⟨k, r, t1, t2, -⟩ := cp_turns (zM := zM) (nI a) (nI N)
        have hG2 : GM W H so pa (zM.1, va_up zM.2 28 r) := GM_up hGM rfl rfl rfl rfl rfl rfl rfl rfl
        obtain ⟨w, k2, r2, b1, b2, b3⟩ := pm_best (zM := (zM.1, va_up zM.2 28 r)) ok hso hG2 hSK hSM (fun j hj => t2 j hj) ha hN2
        have hvw := high_tall ok h1 b2
        subst hvw
        refine ⟨nI v, zT', (zM.1, va_up (va_up zM.2 28 r) 8 r2), e1, ?_, W, H, ok, ⟨so, pa, hso, hGC, GM_up hGM rfl rfl rfl rfl rfl rfl rfl rfl⟩, RelS_n ok hS0 b3, hP, hI, hN, hT, hf, hs, hs0⟩
        unfold f_X7_turns
        rw [(isE (nI a)).2, c]
        simp only [Option.bind_some, if_one, if_true]
        rw [hin6, d]
        simp only [Option.bind_some, if_one, if_true]
        rw [hGM.1.2.2.1, if_neg g]
        simp only [nm_s]
        rw [t1]
        simp only [Option.bind_some]
        rw [b1]
        rfl
    · refine ⟨-1000000002, zT, zM, ?_, ?_, hR0⟩
      · unfold f_X6_turns
        rw [(isE (nI a)).1, c]
        simp only [Option.bind_some, if_one, if_true]
        rw [show (6 : Int32) = nI 6 from rfl, rng1 a2 (n := 6) (by omega), if_neg d]
        rfl
      · unfold f_X7_turns
        rw [(isE (nI a)).2, c]
        simp only [Option.bind_some, if_one, if_true]
        rw [hin6]
        simp only [Option.bind_some, if_one]
        rw [if_neg d]
        rfl
  · refine ⟨-1000000001, zT, zM, ?_, ?_, hR0⟩
    · unfold f_X6_turns
      rw [(isE a1).1]
      simp only [Option.bind_some, if_one]
      rw [if_neg c]
    · unfold f_X7_turns
      rw [(isE a1).2]
      simp only [Option.bind_some, if_one]
      rw [if_neg c]

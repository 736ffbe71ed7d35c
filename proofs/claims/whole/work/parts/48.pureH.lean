/-! ===== plant, graze, gate, undo, keep, goBack ===== -/
theorem pc_set {W H : Nat} (ok : okB W H = true) {hd ag : Nat → Nat} {ga : Nat → Bool} {ow : Int32} {yr : Nat} {zS : SS} (hS : SC W H hd ag ga ow yr zS) {e a g : Nat} (he : e < eN W H) (ha : a < 2) :
    ∃ z, f_X5_setHedge zS (nI e) (lshl 1 (nI (ePl W H e))) (nI a) (nI g) = some z ∧ SC W H (va_up hd e (a + 1)) (va_up ag e g) ga ow yr z := by
  have hgn := geo_n ok
  have hpl := ES_pl ok he
  obtain ⟨t, ht1, ht2⟩ : ∃ t : Int64, (if nI a = 1 then (some (((zS.1 1) ||| lshl 1 (nI (ePl W H e))) : Int64)) else (some (((zS.1 1) &&& (lshl 1 (nI (ePl W H e)) ^^^ (-1))) : Int64))) = some t ∧ ∀ d, d < eN W H → bl t (ePl W H d) = decide (va_up hd e (a + 1) d = 2) := by
    rcases (show a = 0 ∨ a = 1 by omega) with rfl | rfl
    · refine ⟨_, rfl, fun d hdl => ?_⟩
      rw [l_and, l_not _ (geo_e ok hdl).2.2.2, hpl.1 d hdl, (hS.2.1 d hdl).2.1]
      by_cases c : d = e
      · rw [c, zu_eq]; simp
      · rw [zu_ne _ _ c]; simp [c]
    · refine ⟨_, rfl, fun d hdl => ?_⟩
      rw [l_or, hpl.1 d hdl, (hS.2.1 d hdl).2.1]
      by_cases c : d = e
      · rw [c, zu_eq]; simp
      · rw [zu_ne _ _ c]; simp [c]
  refine ⟨(vp_updL (vp_updL zS.1 0 ((zS.1 0) ||| lshl 1 (nI (ePl W H e)))) 1 t, zS.2.1, upd zS.2.2 e (nI g)), ?_, fun i hi => ?_, fun d hdl => ⟨?_, ht2 d hdl, (hS.2.1 d hdl).2.2.1, fun q => ?_⟩, hS.2.2.1, hS.2.2.2⟩
  · show ((if nI a = 1 then (some (((zS.1 1) ||| lshl 1 (nI (ePl W H e))) : Int64)) else (some (((zS.1 1) &&& (lshl 1 (nI (ePl W H e)) ^^^ (-1))) : Int64))).bind fun t_3 => ast 40 (nI e) (some ((vp_updL (vp_updL zS.1 0 ((zS.1 0) ||| lshl 1 (nI (ePl W H e)))) 1 t_3, zS.2.1, upd zS.2.2 (Int32.toNatClampNeg (nI e)) (nI g)) : SS))) = _
    rw [ht1]
    simp only [Option.bind_some]
    rw [ast_s _ (show e < 40 by omega) (by omega), nI_clamp (by omega)]
  · have hi' : bl ((zS.1 0) ||| lshl 1 (nI (ePl W H e))) i = true := hi
    rw [l_or, Bool.or_eq_true] at hi'
    rcases hi' with q | q
    · exact hS.1 i q
    · exact hpl.2 i q
  · show bl ((zS.1 0) ||| lshl 1 (nI (ePl W H e))) (ePl W H d) = _
    rw [l_or, hpl.1 d hdl, (hS.2.1 d hdl).1]
    by_cases c : d = e
    · rw [c, zu_eq]; simp
    · rw [zu_ne _ _ c]; simp [c]
  · show upd zS.2.2 e (nI g) d = nI (va_up ag e g d)
    by_cases c : d = e
    · rw [c, ud_eq, zu_eq]
    · rw [ud_ne _ _ c, zu_ne _ _ c]
      rw [zu_ne _ _ c] at q
      exact (hS.2.1 d hdl).2.2.2 q
theorem pc_remove {W H : Nat} (ok : okB W H = true) {hd ag : Nat → Nat} {ga : Nat → Bool} {ow : Int32} {yr : Nat} {zS : SS} (hS : SC W H hd ag ga ow yr zS) {e : Nat} (he : e < eN W H) :
    ∃ z, f_X5_removeHedge zS (lshl 1 (nI (ePl W H e))) = some z ∧ SC W H (va_up hd e 0) (va_up ag e 0) (va_up ga e false) ow yr z ∧ z.2.2 = zS.2.2 := by
  have hpl := ES_pl ok he
  have key : ∀ (x : Int64) (d : Nat), d < eN W H → bl (x &&& (lshl 1 (nI (ePl W H e)) ^^^ (-1))) (ePl W H d) = (bl x (ePl W H d) && !(decide (d = e))) := fun x d hdl => by
    rw [l_and, l_not _ (geo_e ok hdl).2.2.2, hpl.1 d hdl]
  refine ⟨_, rfl, ⟨fun i hi => ?_, fun d hdl => ⟨?_, ?_, ?_, fun q => ?_⟩, hS.2.2.1, hS.2.2.2⟩, rfl⟩
  · have hi' : bl ((zS.1 0) &&& (lshl 1 (nI (ePl W H e)) ^^^ (-1))) i = true := hi
    rw [l_and, Bool.and_eq_true] at hi'
    exact hS.1 i hi'.1
  · show bl ((zS.1 0) &&& (lshl 1 (nI (ePl W H e)) ^^^ (-1))) (ePl W H d) = _
    rw [key _ d hdl, (hS.2.1 d hdl).1]
    by_cases c : d = e
    · rw [c, zu_eq]; simp
    · rw [zu_ne _ _ c]; simp [c]
  · show bl ((zS.1 1) &&& (lshl 1 (nI (ePl W H e)) ^^^ (-1))) (ePl W H d) = _
    rw [key _ d hdl, (hS.2.1 d hdl).2.1]
    by_cases c : d = e
    · rw [c, zu_eq]; simp
    · rw [zu_ne _ _ c]; simp [c]
  · show bl ((zS.1 2) &&& (lshl 1 (nI (ePl W H e)) ^^^ (-1))) (ePl W H d) = _
    rw [key _ d hdl, (hS.2.1 d hdl).2.2.1]
    by_cases c : d = e
    · rw [c, zu_eq]; simp
    · rw [zu_ne _ _ c]; simp [c]
  · show zS.2.2 d = nI (va_up ag e 0 d)
    by_cases c : d = e
    · rw [c, zu_eq] at q; exact absurd rfl q
    · rw [zu_ne _ _ c] at q
      rw [zu_ne _ _ c]
      exact (hS.2.1 d hdl).2.2.2 q
theorem pm_plantNow {W H : Nat} (ok : okB W H = true) {hd ag : Nat → Nat} {ga : Nat → Bool} {ow : Int32} {yr : Nat} {zM : MS} (hS : SM W H hd ag ga ow yr (zM.2 8)) {e h : Nat} (he : e < eN W H) {x : Int32} (hx : x = if h = 0 then -1 else nI (h - 1)) :
    ∃ n, f_X7_plantNow zM (nI e) x = some (zM.1, va_up zM.2 8 n) ∧ SM W H (va_up hd e h) (va_up ag e 0) (va_up ga e false) ow yr n := by
  have hgn := geo_n ok
  refine ⟨upd (upd (upd (zM.2 8) e x) (40 + e) 0) (80 + e) 0, ?_, fun d hdl => ⟨?_, fun q => ?_, ?_⟩, ?_, ?_⟩
  · unfold f_X7_plantNow
    rw [show (40 : Int32) = nI 40 from rfl, show (80 : Int32) = nI 80 from rfl, nI_add, nI_add, ast_s _ (show e < 122 by omega) (by omega), nI_clamp (show e < 2 ^ 31 by omega), nI_clamp (show 40 + e < 2 ^ 31 by omega), nI_clamp (show 80 + e < 2 ^ 31 by omega)]
    simp only [nm_s]
    rw [ast_s _ (show 40 + e < 122 by omega) (by omega), ast_s _ (show 80 + e < 122 by omega) (by omega)]
    simp only [zu_up, zu_eq]
  · rw [ud_ne _ _ (by omega), ud_ne _ _ (by omega)]
    by_cases c : d = e
    · rw [c, ud_eq, zu_eq]; exact hx
    · rw [ud_ne _ _ c, zu_ne _ _ c]; exact (hS.1 d hdl).1
  · by_cases c : d = e
    · rw [c, ud_ne _ _ (by omega), ud_eq, zu_eq]; rfl
    · rw [ud_ne _ _ (by omega), ud_ne _ _ (by omega), ud_ne _ _ (by omega), zu_ne _ _ c]
      rw [zu_ne _ _ c] at q
      exact (hS.1 d hdl).2.1 q
  · by_cases c : d = e
    · rw [c, ud_eq, zu_eq]; rfl
    · rw [ud_ne _ _ (by omega), ud_ne _ _ (by omega), ud_ne _ _ (by omega), zu_ne _ _ c]
      exact (hS.1 d hdl).2.2
  · rw [ud_ne _ _ (by omega), ud_ne _ _ (by omega), ud_ne _ _ (by omega)]; exact hS.2.1
  · rw [ud_ne _ _ (by omega), ud_ne _ _ (by omega), ud_ne _ _ (by omega)]; exact hS.2.2
def mayB (hd : Nat → Nat) (pa : Nat → Bool) (e : Nat) : Bool := decide (hd e = 0) && !(pa e)
theorem mayP_c {W H : Nat} {so : Nat → Nat} {pa : Nat → Bool} {zG : GS} {zS : SS} {hd ag : Nat → Nat} {ga : Nat → Bool} {ow : Int32} {yr : Nat} (zX : XS) (ok : okB W H = true) (hG : GC W H so pa zG) (hS : SC W H hd ag ga ow yr zS) {e : Nat} (he : e < eN W H) :
    f_X6_mayPlant zX zG zS (lshl 1 (nI (ePl W H e))) = some (if mayB hd pa e then 1 else 0) := by
  have h : bl ((zS.1 0) ||| zG.2.1) (ePl W H e) = !(mayB hd pa e) := by
    rw [l_or, (hS.2.1 e he).1, hG.2.2.1 e he]
    unfold mayB
    cases pa e <;> simp
  unfold f_X6_mayPlant
  cases q : mayB hd pa e
  · rw [if_neg (fun z => by rw [ES_test ok he, h, q] at z; cases z)]; rfl
  · rw [if_pos ((ES_test ok he).mpr (by rw [h, q]; rfl))]; rfl
theorem mayP_m {W H : Nat} {so : Nat → Nat} {pa : Nat → Bool} {zM : MS} {hd ag : Nat → Nat} {ga : Nat → Bool} {ow : Int32} {yr : Nat} (ok : okB W H = true) (hG : GM W H so pa zM) (hK : SK W H hd ag ga ow yr) (hS : SM W H hd ag ga ow yr (zM.2 8)) {e : Nat} (he : e < eN W H) :
    f_X7_mayPlant zM (nI e) = some (if mayB hd pa e then 1 else 0) := by
  have hgn := geo_n ok
  have hk := hK.1 e
  unfold f_X7_mayPlant
  rw [ald_s _ _ (show e < 122 by omega) (by omega), (hS.1 e he).1]
  unfold mayB
  by_cases c : hd e = 0
  · rw [if_pos c, if_neg (show ¬ (0 : Int32) ≤ -1 by decide), ald_s _ _ (show e < 40 by omega) (by omega), (hG.2.2 e he).2.2, decide_eq_true c]
    cases pa e <;> rfl
  · rw [if_neg c, if_pos (nI_pos' (by omega)), decide_eq_false c]
    rfl
theorem SK_set {W H : Nat} {hd ag : Nat → Nat} {ga : Nat → Bool} {ow : Int32} {yr : Nat} (hK : SK W H hd ag ga ow yr) {e h g : Nat} (hh : h ≤ 2) (hg : g ≤ 99) (b : Bool) (hb : h = 0 → b = false) : SK W H (va_up hd e h) (va_up ag e g) (va_up ga e b) ow yr := by
  refine ⟨fun d => ?_, hK.2⟩
  by_cases c : d = e
  · rw [c, zu_eq, zu_eq, zu_eq]; exact ⟨hh, hg, hb⟩
  · rw [zu_ne _ _ c, zu_ne _ _ c, zu_ne _ _ c]; exact hK.1 d
theorem up_same {α : Type} {f : Nat → α} {k : Nat} {v : α} (h : f k = v) : va_up f k v = f := by rw [← h, zu_self]
theorem sim_6 : SM_6 Rel := by
  intro zX zR zRG zRS zG zS zP zQ zN zI zJ zT zM a1 a2 hR
  have hR0 := hR
  obtain ⟨W, H, ok, ⟨so, pa, hso, hGC, hGM⟩, hS, hP, hI, hN, hT, hf, hs, hs0⟩ := hR
  have hS0 := hS
  obtain ⟨hd, ag, ga, ow, yr, hSK, hSC, hSM⟩ := hS
  have hgn := geo_n ok
  suffices hx : ∃ v z zP' zQ' zM', f_X6_plant zX zG zS zP zQ a1 a2 = some (v, z, zP', zQ') ∧ f_X7_plant zM a1 a2 = some (v, zM') ∧ Rel (zX, zR, zRG, zRS, zG, z, zP', zQ', zN, zI, zJ, zT, zM') by
    obtain ⟨v, z, zP', zQ', zM', e1, e2, h⟩ := hx
    unfold sp_6
    rw [e1, e2]
    simp only [Option.bind_some, nm_s, if_true]
    exact ⟨_, rfl, h⟩
  unfold f_X6_plant f_X7_plant
  rw [pc_hasEdge ok hGC, pm_isEdge ok hGM, (isE a2).1, (isE a2).2]
  simp only [Option.bind_some, if_one]
  by_cases c : inR a1 (eN W H) = true
  · obtain ⟨e, he, rfl⟩ := (inR_nI (by omega)).mp c
    rw [if_pos c, if_pos c]
    by_cases d : inR a2 2 = true
    · obtain ⟨a, ha, rfl⟩ := (inR_nI (by omega)).mp d
      rw [if_pos d, if_pos d, ald_s _ _ (show e < 40 by omega) (by omega), (hGC.2.2.2.2 e he).2.2, mayP_c zX ok hGC hSC he, mayP_m ok hGM hSK hSM he]
      simp only [Option.bind_some, if_one]
      cases q : mayB hd pa e
      · exact ⟨_, _, _, _, _, rfl, rfl, hR0⟩
      · have hde : hd e = 0 := by
          unfold mayB at q
          rw [Bool.and_eq_true, decide_eq_true_eq] at q
          exact q.1
        have hga := (hSK.1 e).2.2 hde
        obtain ⟨zP', zQ', g, r, k1, k2, k3⟩ := relP_remember ok hP hS0
        obtain ⟨z, s1, s2⟩ := pc_set ok hSC he ha (g := 0)
        obtain ⟨n, m1, m2⟩ := pm_plantNow (zM := (upd zM.1 22 g, va_up zM.2 23 r)) ok hSM he (h := a + 1) (x := nI a) (by rw [if_neg (by omega)]; rfl)
        have hK2 := SK_set hSK (e := e) (h := a + 1) (g := 0) (by omega) (by omega) false (fun _ => rfl)
        rw [up_same hga] at m2 hK2
        have hG2 : GM W H so pa (upd zM.1 22 g, va_up (va_up zM.2 23 r) 8 n) := GM_up hGM rfl rfl rfl rfl rfl rfl rfl rfl
        have hh := pm_hedges (zM := (upd zM.1 22 g, va_up (va_up zM.2 23 r) 8 n)) ok hG2 m2 hK2
        refine ⟨nI (fb_ct (fun d => decide (va_up hd e (a + 1) d ≠ 0)) (eN W H)), z, zP', zQ', (upd zM.1 22 g, va_up (va_up zM.2 23 r) 8 n), ?_, ?_, W, H, ok, ⟨so, pa, hso, hGC, hG2⟩, ⟨_, _, ga, ow, yr, hK2, s2, m2⟩, k3 _ rfl rfl, hI, hN, hT, hf, hs, hs0⟩
        · rw [if_pos rfl, k1]
          simp only [Option.bind_some, nm_s]
          rw [ald_s _ _ (show e < 40 by omega) (by omega), (hGC.2.2.2.2 e he).2.2, show (f_X5_setHedge zS (nI e) (lshl 1 (nI (ePl W H e))) (nI a) 0) = some z from s1]
          simp only [Option.bind_some]
          rw [ES_count ok (p := fun d => decide (va_up hd e (a + 1) d ≠ 0)) ⟨fun d hdl => (s2.2.1 d hdl).1, s2.1⟩]
          rfl
        · rw [if_pos rfl, k2]
          simp only [Option.bind_some]
          rw [m1]
          simp only [Option.bind_some]
          rw [hh]
          rfl
    · rw [if_neg d, if_neg d]
      exact ⟨_, _, _, _, _, rfl, rfl, hR0⟩
  · rw [if_neg c, if_neg c]
    exact ⟨_, _, _, _, _, rfl, rfl, hR0⟩
theorem sim_7 : SM_7 Rel := by
  intro zX zR zRG zRS zG zS zP zQ zN zI zJ zT zM a1 hR
  have hR0 := hR
  obtain ⟨W, H, ok, ⟨so, pa, hso, hGC, hGM⟩, hS, hP, hI, hN, hT, hf, hs, hs0⟩ := hR
  have hS0 := hS
  obtain ⟨hd, ag, ga, ow, yr, hSK, hSC, hSM⟩ := hS
  have hgn := geo_n ok
  suffices hx : ∃ v z zP' zQ' zM', f_X6_graze zX zG zS zP zQ a1 = some (v, z, zP', zQ') ∧ f_X7_graze zM a1 = some (v, zM') ∧ Rel (zX, zR, zRG, zRS, zG, z, zP', zQ', zN, zI, zJ, zT, zM') by
    obtain ⟨v, z, zP', zQ', zM', e1, e2, h⟩ := hx
    unfold sp_7
    rw [e1, e2]
    simp only [Option.bind_some, nm_s, if_true]
    exact ⟨_, rfl, h⟩
  unfold f_X6_graze f_X7_graze
  rw [pc_hasEdge ok hGC, pm_isEdge ok hGM]
  simp only [Option.bind_some, if_one]
  by_cases c : inR a1 (eN W H) = true
  · obtain ⟨e, he, rfl⟩ := (inR_nI (by omega)).mp c
    have hsc := hSC.2.1 e he
    have hsm := hSM.1 e he
    have hk := hSK.1 e
    rw [if_pos c, if_pos c, ald_s _ _ (show e < 40 by omega) (by omega), (hGC.2.2.2.2 e he).2.2, ald_s _ _ (show e < 122 by omega) (by omega), hsm.1]
    by_cases q : hd e = 0
    · rw [if_pos ((ES_test ok he).mpr (by rw [hsc.1]; simp [q])), if_pos q]
      exact ⟨_, _, _, _, _, rfl, rfl, hR0⟩
    · obtain ⟨zP', zQ', g, r, k1, k2, k3⟩ := relP_remember ok hP hS0
      obtain ⟨z, s1, s2, s3⟩ := pc_remove ok hSC he
      obtain ⟨n, m1, m2⟩ := pm_plantNow (zM := (upd zM.1 22 g, va_up zM.2 23 r)) ok hSM he (h := 0) (x := -1) rfl
      have hK2 := SK_set hSK (e := e) (h := 0) (g := 0) (by omega) (by omega) false (fun _ => rfl)
      refine ⟨nI (ag e), z, zP', zQ', (upd zM.1 22 g, va_up (va_up zM.2 23 r) 8 n), ?_, ?_, W, H, ok, ⟨so, pa, hso, hGC, GM_up hGM rfl rfl rfl rfl rfl rfl rfl rfl⟩, ⟨_, _, _, ow, yr, hK2, s2, m2⟩, k3 _ rfl rfl, hI, hN, hT, hf, hs, hs0⟩
      · rw [if_neg (fun z => by rw [ES_test ok he, hsc.1] at z; simp [q] at z), k1]
        simp only [Option.bind_some, nm_s]
        rw [s1]
        simp only [Option.bind_some]
        rw [ald_s _ _ (show e < 40 by omega) (by omega), s3, hsc.2.2.2 q]
      · rw [if_neg q, if_pos (nI_pos' (by omega)), k2]
        simp only [Option.bind_some]
        rw [m1, show (40 : Int32) = nI 40 from rfl, nI_add, ald_s _ _ (show 40 + e < 122 by omega) (by omega)]
        simp only [Option.bind_some]
        rw [show va_up zM.2 23 r 8 = zM.2 8 from rfl, hsm.2.1 q]
  · rw [if_neg c, if_neg c]
    exact ⟨_, _, _, _, _, rfl, rfl, hR0⟩
theorem t01 (x : Int32) : (if x = 0 then (some (0 : Int32)) else (some (1 : Int32))) = some (if decide (x ≠ 0) then 1 else 0) := by
  by_cases c : x = 0
  · rw [if_pos c]; simp [c]
  · rw [if_neg c]; simp [c]
theorem sim_8 : SM_8 Rel := by
  intro zX zR zRG zRS zG zS zP zQ zN zI zJ zT zM a1 a2 hR
  have hR0 := hR
  obtain ⟨W, H, ok, ⟨so, pa, hso, hGC, hGM⟩, hS, hP, hI, hN, hT, hf, hs, hs0⟩ := hR
  have hS0 := hS
  obtain ⟨hd, ag, ga, ow, yr, hSK, hSC, hSM⟩ := hS
  have hgn := geo_n ok
  suffices hx : ∀ b : Bool, ∃ v z zP' zQ' zM', f_X6_gate zX zG zS zP zQ a1 (if b then 1 else 0) = some (v, z, zP', zQ') ∧ f_X7_gate zM a1 (if b then 1 else 0) = some (v, zM') ∧ Rel (zX, zR, zRG, zRS, zG, z, zP', zQ', zN, zI, zJ, zT, zM') by
    obtain ⟨v, z, zP', zQ', zM', e1, e2, h⟩ := hx (decide (a2 ≠ 0))
    unfold sp_8
    rw [t01]
    simp only [Option.bind_some]
    rw [e1, e2]
    simp only [Option.bind_some, nm_s, if_true]
    exact ⟨_, rfl, h⟩
  intro b
  unfold f_X6_gate f_X7_gate
  rw [pc_hasEdge ok hGC, pm_isEdge ok hGM]
  simp only [Option.bind_some, if_one]
  by_cases c : inR a1 (eN W H) = true
  · obtain ⟨e, he, rfl⟩ := (inR_nI (by omega)).mp c
    have hsc := hSC.2.1 e he
    have hsm := hSM.1 e he
    have hk := hSK.1 e
    have hpl := ES_pl ok he
    rw [if_pos c, if_pos c, ald_s _ _ (show e < 40 by omega) (by omega), (hGC.2.2.2.2 e he).2.2, ald_s _ _ (show e < 122 by omega) (by omega), hsm.1]
    by_cases q : hd e = 0
    · rw [if_pos ((ES_test ok he).mpr (by rw [hsc.1]; simp [q])), if_pos q]
      exact ⟨_, _, _, _, _, rfl, rfl, hR0⟩
    · obtain ⟨zP', zQ', g, r, k1, k2, k3⟩ := relP_remember ok hP hS0
      obtain ⟨t, ht1, ht2⟩ : ∃ t : Int64, (if (if b then (1 : Int32) else 0) = 0 then (some (((zS.1 2) &&& (lshl 1 (nI (ePl W H e)) ^^^ (-1))) : Int64)) else (some (((zS.1 2) ||| lshl 1 (nI (ePl W H e))) : Int64))) = some t ∧ ∀ d, d < eN W H → bl t (ePl W H d) = withGate ga e b d := by
        cases b
        · refine ⟨_, rfl, fun d hdl => ?_⟩
          rw [l_and, l_not _ (geo_e ok hdl).2.2.2, hpl.1 d hdl, (hSC.2.1 d hdl).2.2.1]
          unfold withGate
          by_cases z : d = e
          · rw [if_pos z]; simp [z]
          · rw [if_neg z]; simp [z]
        · refine ⟨_, rfl, fun d hdl => ?_⟩
          rw [l_or, hpl.1 d hdl, (hSC.2.1 d hdl).2.2.1]
          unfold withGate
          by_cases z : d = e
          · rw [if_pos z]; simp [z]
          · rw [if_neg z]; simp [z]
      have hK2 : SK W H hd ag (withGate ga e b) ow yr := ⟨fun d => ⟨(hSK.1 d).1, (hSK.1 d).2.1, fun w => by
        unfold withGate
        by_cases z : d = e
        · rw [z] at w; exact absurd w q
        · rw [if_neg z]; exact (hSK.1 d).2.2 w⟩, hSK.2⟩
      have hSC2 : SC W H hd ag (withGate ga e b) ow yr ((vp_updL zS.1 2 t, zS.2) : SS) := ⟨hSC.1, fun d hdl => ⟨(hSC.2.1 d hdl).1, (hSC.2.1 d hdl).2.1, ht2 d hdl, (hSC.2.1 d hdl).2.2.2⟩, hSC.2.2⟩
      refine ⟨if ga e then 1 else 0, (vp_updL zS.1 2 t, zS.2), zP', zQ', (upd zM.1 22 g, va_up (va_up zM.2 23 r) 8 (upd (zM.2 8) (80 + e) (if b then 1 else 0))), ?_, ?_, W, H, ok, ⟨so, pa, hso, hGC, GM_up hGM rfl rfl rfl rfl rfl rfl rfl rfl⟩, ⟨hd, ag, _, ow, yr, hK2, hSC2, SM_gate ok hSM he b⟩, k3 _ rfl rfl, hI, hN, hT, hf, hs, hs0⟩
      · rw [if_neg (fun z => by rw [ES_test ok he, hsc.1] at z; simp [q] at z), k1]
        simp only [Option.bind_some, nm_s]
        rw [if_one] at ht1
        rw [bitT ok _ he, hsc.2.2.1, ht1]
        simp only [Option.bind_some, oneIf_b]
      · rw [if_neg q, if_pos (nI_pos' (by omega)), k2]
        simp only [Option.bind_some, nm_s]
        rw [show (80 : Int32) = nI 80 from rfl, nI_add, ald_s _ _ (show 80 + e < 122 by omega) (by omega), show (if b = true then some (1 : Int32) else some 0) = some (if b then 1 else 0) from by cases b <;> rfl]
        simp only [Option.bind_some]
        rw [ast_s _ (show 80 + e < 122 by omega) (by omega), nI_clamp (by omega), show va_up zM.2 23 r 8 = zM.2 8 from rfl, hsm.2.2]
  · rw [if_neg c, if_neg c]
    exact ⟨_, _, _, _, _, rfl, rfl, hR0⟩
theorem sim_11 : SM_11 Rel := by
  intro zX zR zRG zRS zG zS zP zQ zN zI zJ zT zM hR
  have hR0 := hR
  obtain ⟨W, H, ok, ⟨so, pa, hso, hGC, hGM⟩, hS, ⟨u, nx, hu, hn, p1, p2, p3, p4⟩, hI, hN, hT, hf, hs, hs0⟩ := hR
  suffices hx : ∃ v z zP' zM', f_X6_undo zX zS zP zQ = some (v, z, zP') ∧ f_X7_undo zM = some (v, zM') ∧ Rel (zX, zR, zRG, zRS, zG, z, zP', zQ, zN, zI, zJ, zT, zM') by
    obtain ⟨v, z, zP', zM', e1, e2, h⟩ := hx
    unfold sp_11
    rw [e1, e2]
    simp only [Option.bind_some, nm_s, if_true]
    exact ⟨_, rfl, h⟩
  unfold f_X6_undo f_X7_undo
  rw [p1, p2]
  by_cases c : u = 0
  · subst c
    rw [if_pos (show nI 0 = 0 from rfl), if_pos (show nI 0 = 0 from rfl)]
    exact ⟨_, _, _, _, rfl, rfl, hR0⟩
  · have hne : ¬ nI u = 0 := nI_ne0 (by omega) (by omega)
    rw [if_neg hne, if_neg hne]
    have hz : ((upd zM.1 22 (nI (u - 1)), zM.2) : MS).1 22 = nI (u - 1) := ud_eq zM.1 22 _
    obtain ⟨v, r, hr, g1, -⟩ := cp_undo (u := u - 1) (by omega) hz
    refine ⟨nI (u - 1), cpS zS (zQ ((nx + 19) % 20)), upd (upd zP 2 (nI ((nx + 19) % 20))) 1 (nI (u - 1)), (upd zM.1 22 (nI (u - 1)), va_up zM.2 8 r), ?_, ?_, W, H, ok, ⟨so, pa, hso, hGC, GM_up hGM rfl rfl rfl rfl rfl rfl rfl rfl⟩, ?_, ⟨u - 1, (nx + 19) % 20, by omega, by omega, ud_eq _ _ _, hz, ?_, fun k hk => ?_⟩, hI, hN, hT, hf, hs, hs0⟩
    · rw [pc_recall zS zP zQ hu (by omega) hn p1 p3]
      rfl
    · simp only [nm_s]
      rw [show nI u - 1 = nI (u - 1) from pk_sub (b := 1) (by omega), hr]
      rfl
    · have h := p4 (u - 1) (by omega)
      rw [show (nx + 20 - u + (u - 1)) % 20 = (nx + 19) % 20 by omega] at h
      exact RelS_cp ok h (fun j hj => g1 j hj)
    · rw [ud_ne _ _ (by decide), ud_eq]
    · rw [show ((nx + 19) % 20 + 20 - (u - 1) + k) % 20 = (nx + 20 - u + k) % 20 by omega]
      exact p4 k (by omega)
theorem nar1 : vp_nar .boolean 1 = 1 := rfl
theorem nar0 : vp_nar .boolean 0 = 0 := rfl
theorem sim_25 : SM_25 Rel := by
  intro zX zR zRG zRS zG zS zP zQ zN zI zJ zT zM a1 hR
  have hR0 := hR
  obtain ⟨W, H, ok, ⟨so, pa, hso, hGC, hGM⟩, hS, ⟨u, nx, hu, hn, p1, p2, p3, p4⟩, hI, hN, hT, hf, hs, hs0⟩ := hR
  suffices hx : ∃ v zP' zI' zJ' zM', f_X6_keep zX zS zP zI zJ a1 = some (v, zP', zI', zJ') ∧ f_X7_keep zM a1 = some (v, zM') ∧ Rel (zX, zR, zRG, zRS, zG, zS, zP', zQ, zN, zI', zJ', zT, zM') by
    obtain ⟨v, zP', zI', zJ', zM', e1, e2, h⟩ := hx
    unfold sp_25
    rw [e1, e2]
    simp only [Option.bind_some, nm_s, if_true]
    exact ⟨_, rfl, h⟩
  unfold f_X6_keep f_X7_keep
  have e2 : f_X7_in (Int32.toInt64 a1) 0 1 = some (if inR a1 2 then 1 else 0) := pm_in_int (x := a1) (n := 2) (by omega)
  rw [e2, show (2 : Int32) = nI 2 from rfl, rng_lt a1 (n := 2) (by omega)]
  simp only [Option.bind_some, if_one]
  by_cases c : inR a1 2 = true
  · obtain ⟨k, hk, rfl⟩ := (inR_nI (by omega)).mp c
    rw [if_pos c, if_pos c]
    obtain ⟨v, r, hr, g1, g2⟩ := cp_keep (zM := zM) hk
    refine ⟨1, upd zP 1 0, va_up zI k (upd (upd (zI k) 1 (zX 8)) 2 1), va_up zJ k (cpS (zJ k) zS), (upd zM.1 22 0, va_up (va_up zM.2 36 (upd r (123 * k + 122) (zM.1 9))) 37 (upd (zM.2 37) k 1)), ?_, ?_, W, H, ok, ⟨so, pa, hso, hGC, GM_up hGM rfl rfl rfl rfl rfl rfl rfl rfl⟩, hS, ⟨0, nx, by omega, hn, rfl, rfl, p3, fun j hj => absurd hj (Nat.not_lt_zero j)⟩, fun i hi => ?_, hN, hT, hf, hs, hs0⟩
    · rcases (show k = 0 ∨ k = 1 by omega) with rfl | rfl
      · simp only [nm_s, copy_s, Option.bind_some]
        rw [if_pos (show nI 0 = 0 from rfl), zu_up, zu_eq]
        rfl
      · simp only [nm_s, copy_s, Option.bind_some]
        rw [if_neg (show ¬ nI 1 = 0 by decide), if_pos (show nI 1 = 1 from rfl), zu_up, zu_eq]
        rfl
    · simp only [nm_s]
      rw [hr]
      simp only [Option.bind_some]
      rw [show (123 : Int32) * nI k + 122 = nI (123 * k + 122) from by rw [show (123 : Int32) = nI 123 from rfl, show (122 : Int32) = nI 122 from rfl, pk_mul, nI_add], ast_s _ (show 123 * k + 122 < 246 by omega) (by omega), ast_s _ hk (by omega), nI_clamp (by omega), nI_clamp (by omega), zu_up, zu_eq, zu_ne _ _ (show ¬ 37 = 36 by decide), nar1]
    · by_cases d : i = k
      · subst d
        right
        rw [zu_eq, zu_eq]
        refine ⟨ud_eq _ _ _, ud_eq _ _ _, RelS_cp ok hS (fun j hj => ?_), ?_, ?_⟩
        · show upd r (123 * i + 122) (zM.1 9) (123 * i + j) = _
          rw [ud_ne _ _ (by omega)]; exact g1 j hj
        · show upd (upd (zI i) 1 (zX 8)) 2 1 1 = upd r (123 * i + 122) (zM.1 9) (123 * i + 122)
          rw [ud_ne _ _ (by decide), ud_eq, ud_eq]; exact hs
        · rw [ud_ne _ _ (by decide), ud_eq]; exact hs0
      · rw [zu_ne _ _ d, zu_ne _ _ d]
        show (zI i 2 = 0 ∧ upd (zM.2 37) k 1 i = 0) ∨ (zI i 2 = 1 ∧ upd (zM.2 37) k 1 i = 1 ∧ RelS W H (zJ i) (fun j => upd r (123 * k + 122) (zM.1 9) (123 * i + j)) ∧ zI i 1 = upd r (123 * k + 122) (zM.1 9) (123 * i + 122) ∧ ¬ zI i 1 < 0)
        rw [ud_ne _ _ d]
        rcases hI i hi with h | ⟨h1, h2, h3, h4, h5⟩
        · exact Or.inl h
        · refine Or.inr ⟨h1, h2, RelS_n ok h3 (fun j hj => ?_), ?_, h5⟩
          · rw [ud_ne _ _ (by omega)]; exact g2 _ (fun w hw => by omega)
          · rw [ud_ne _ _ (by omega), g2 _ (fun w hw => by omega)]; exact h4
  · rw [if_neg c, if_neg c]
    exact ⟨_, _, _, _, _, rfl, rfl, hR0⟩
theorem sim_26 : SM_26 Rel := by
  intro zX zR zRG zRS zG zS zP zQ zN zI zJ zT zM a1 hR
  have hR0 := hR
  obtain ⟨W, H, ok, ⟨so, pa, hso, hGC, hGM⟩, hS, ⟨u, nx, hu, hn, p1, p2, p3, p4⟩, hI, hN, hT, hf, hs, hs0⟩ := hR
  suffices hx : ∃ v zX' z zP' zM', f_X6_goBack zX zS zP zI zJ a1 = some (v, zX', z, zP') ∧ f_X7_goBack zM a1 = some (v, zM') ∧ Rel (zX', zR, zRG, zRS, zG, z, zP', zQ, zN, zI, zJ, zT, zM') by
    obtain ⟨v, zX', z, zP', zM', e1, e2, h⟩ := hx
    unfold sp_26
    rw [e1, e2]
    simp only [Option.bind_some, nm_s, if_true]
    exact ⟨_, rfl, h⟩
  unfold f_X6_goBack f_X7_goBack
  have e2 : f_X7_in (Int32.toInt64 a1) 0 1 = some (if inR a1 2 then 1 else 0) := pm_in_int (x := a1) (n := 2) (by omega)
  rw [e2, show (2 : Int32) = nI 2 from rfl, rng_lt a1 (n := 2) (by omega)]
  simp only [Option.bind_some, if_one]
  by_cases c : inR a1 2 = true
  · obtain ⟨k, hk, rfl⟩ := (inR_nI (by omega)).mp c
    rw [if_pos c, if_pos c, ald_s _ _ hk (by omega)]
    have hcl : (nm (nI k) fun k_3 => if k_3 = 0 then (if (zI 0 2) = 0 then (some ((-1000000003 : Int32), zX, zS, zP)) else ((f_X5_copyFrom zS (zJ 0)).bind fun zS_6 => nm (zI 0 1) fun f8_8 => nm ((upd zX 8 f8_8) : XS) fun zX_9 => (f_X3_forget zP).bind fun zP_10 => some ((1 : Int32), zX_9, zS_6, zP_10))) else if k_3 = 1 then (if (zI 1 2) = 0 then (some ((-1000000003 : Int32), zX, zS, zP)) else ((f_X5_copyFrom zS (zJ 1)).bind fun zS_14 => nm (zI 1 1) fun f8_16 => nm ((upd zX 8 f8_16) : XS) fun zX_17 => (f_X3_forget zP).bind fun zP_18 => some ((1 : Int32), zX_17, zS_14, zP_18))) else none) = (if (zI k 2) = 0 then (some ((-1000000003 : Int32), zX, zS, zP)) else some ((1 : Int32), upd zX 8 (zI k 1), cpS zS (zJ k), upd zP 1 0)) := by
      rcases (show k = 0 ∨ k = 1 by omega) with rfl | rfl
      · rfl
      · rfl
    rw [hcl]
    rcases hI k hk with ⟨h1, h2⟩ | ⟨h1, h2, h3, h4, h5⟩
    · rw [if_pos h1, if_pos h2]
      exact ⟨_, _, _, _, _, rfl, rfl, hR0⟩
    · rw [if_neg (by rw [h1]; decide), if_neg (by rw [h2]; decide)]
      obtain ⟨v, r, hr, g1, -⟩ := cp_goBack (zM := zM) hk
      refine ⟨1, upd zX 8 (zI k 1), cpS zS (zJ k), upd zP 1 0, (upd (upd zM.1 9 (zM.2 36 (123 * k + 122))) 22 0, va_up zM.2 8 r), rfl, ?_, W, H, ok, ⟨so, pa, hso, hGC, GM_up hGM rfl rfl rfl rfl rfl rfl rfl rfl⟩, RelS_cp ok h3 g1, ⟨0, nx, by omega, hn, rfl, rfl, p3, fun j hj => absurd hj (Nat.not_lt_zero j)⟩, hI, hN, hT, hf, h4, h5⟩
      simp only [nm_s]
      rw [hr]
      simp only [Option.bind_some]
      rw [show (123 : Int32) * nI k + 122 = nI (123 * k + 122) from by rw [show (123 : Int32) = nI 123 from rfl, show (122 : Int32) = nI 122 from rfl, pk_mul, nI_add], ald_s _ _ (show 123 * k + 122 < 246 by omega) (by omega), zu_ne _ _ (show ¬ 36 = 8 by decide)]
  · rw [if_neg c, if_neg c]
    exact ⟨_, _, _, _, _, rfl, rfl, hR0⟩

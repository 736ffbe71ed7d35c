noncomputable def landC (W H : Nat) (sh : Nat → Bool) (f : Nat) : Int32 := Classical.epsilon (fun R => isLand W H sh ((1 : Int32) <<< (nI f &&& 31)) R)
theorem landC_is {W H : Nat} {sh : Nat → Bool} {f : Nat} {R : Int32} (h : isLand W H sh ((1 : Int32) <<< (nI f &&& 31)) R) : landC W H sh f = R := isLand_one (Classical.epsilon_spec ⟨R, h⟩) h
theorem isLand_cong {W H : Nat} {sh sk : Nat → Bool} {A R : Int32} (h : isLand W H sh A R) (hc : ∀ e, e < eN W H → sh e = sk e) : isLand W H sk A R := by
  refine ⟨⟨h.1.1, h.1.2.1, fun S hS hA i hi => h.1.2.2 S (fun e he q => hS e he (by rw [← hc e he]; exact q)) hA i hi⟩, fun e he q => h.2 e he (by rw [hc e he]; exact q)⟩
theorem ES_grow {W H : Nat} (ok : okB W H = true) {s : Int64} {p : Nat → Bool} {i : Nat} (hi : i < eN W H) (hI : ES W H s (fun e => decide (e < i) && p e)) : ES W H (if p i then s ||| lshl 1 (nI (ePl W H i)) else s) (fun e => decide (e < i + 1) && p e) := by
  by_cases c : p i = true
  · rw [if_pos c]
    have h2 := ES_or hI (ES_pl ok hi)
    refine ⟨fun e he => ?_, h2.2⟩
    rw [h2.1 e he]
    by_cases d : e = i
    · subst d; simp [c]
    · by_cases f : e < i
      · simp [d, f, Nat.lt_succ_of_lt f]
      · simp [d, f, show ¬ e < i + 1 by omega]
  · rw [if_neg c]
    refine ⟨fun e he => ?_, hI.2⟩
    rw [hI.1 e he]
    by_cases d : e = i
    · subst d; simp [c]
    · by_cases f : e < i
      · simp [f, Nat.lt_succ_of_lt f]
      · simp [f, show ¬ e < i + 1 by omega]
theorem ES_start (W H : Nat) (p : Nat → Bool) : ES W H 0 (fun e => decide (e < 0) && p e) := ⟨fun e he => by rw [l_0]; simp, (ES_0 W H).2⟩
theorem ES_end {W H : Nat} {s : Int64} {p : Nat → Bool} (hI : ES W H s (fun e => decide (e < eN W H) && p e)) : ES W H s p := ⟨fun e he => by rw [hI.1 e he]; simp [he], hI.2⟩
noncomputable def dcd (W H : Nat) (so hd ag : Nat → Nat) (ga : Nat → Bool) (f e : Nat) : Bool := (tallB W H so hd ag 0 e && ga e) && !(decide (byV W H (fun e => decide (hd e = 2)) (landC W H (fun d => shutB W H so hd ag ga d || decide (d = e)) f) = -1))
theorem pc_decides {W H : Nat} {so : Nat → Nat} {pa : Nat → Bool} {zG : GS} {zS : SS} {hd ag : Nat → Nat} {ga : Nat → Bool} {ow : Int32} {yr : Nat} (zX : XS) (ok : okB W H = true) (hs : soOk so) (hG : GC W H so pa zG) (hK : SK W H hd ag ga ow yr) (hS : SC W H hd ag ga ow yr zS) {f : Nat} (hf : f < W * H) (a2 : Int32) :
    ∃ v, f_X6_decides zX zG zS (nI f) a2 = some v ∧ isPick (dcd W H so hd ag ga f) (eN W H) a2 v := by
  have hgn := geo_n ok
  obtain ⟨t, ht1, ht2⟩ := pc_tall ok hs hG hK hS (y := 0) (by omega)
  have hga : ∀ e, e < eN W H → bl (zS.1 2) (ePl W H e) = ga e := fun e he => (hS.2.1 e he).2.2.1
  have hsh : ES W H (t &&& ((zS.1 2) ^^^ (-1))) (shutB W H so hd ag ga) := ES_andn ok ht2 hga
  have hop : ES W H (t &&& (zS.1 2)) (fun e => tallB W H so hd ag 0 e && ga e) := ES_andl ht2 hga
  obtain ⟨r, hr, hp⟩ := up_loop (σ := Int64) (fun n i s => L_X6_decides_59 zX zG zS (nI f) a2 t (t &&& ((zS.1 2) ^^^ (-1))) (t &&& (zS.1 2)) n s i) (eN W H) (fun i s => ES W H s (fun e => decide (e < i) && dcd W H so hd ag ga f e)) (fun r => ES W H r.1 (dcd W H so hd ag ga f))
    (fun n s hI => ⟨(s, nI (eN W H)), by
      show L_X6_decides_59 zX zG zS (nI f) a2 t _ _ (n + 1) s (nI (eN W H)) = _
      rw [L_X6_decides_59, hG.1.2.2.2, if_pos (Int32.le_refl _)], ES_end hI⟩)
    (fun n i s hi hI => by
      right
      refine ⟨_, ES_grow ok hi hI, ?_⟩
      show L_X6_decides_59 zX zG zS (nI f) a2 t _ _ (n + 1) s (nI i) = L_X6_decides_59 zX zG zS (nI f) a2 t _ _ n _ (nI (i + 1))
      rw [L_X6_decides_59, hG.1.2.2.2, if_neg (fun q => absurd ((nI_leI (by omega) (by omega)).mp q) (by omega)), ald_s _ _ (show i < 40 by omega) (by omega), (hG.2.2.2.2 i hi).2.2]
      simp only [nm_s, nI_1]
      by_cases c : (tallB W H so hd ag 0 i && ga i) = true
      · rw [if_neg (fun q => by rw [ES_test ok hi, hop.1 i hi] at q; exact absurd (c.symm.trans q) (by decide))]
        obtain ⟨R, hR1, hR2⟩ := pc_land ok hG (ES_or hsh (ES_pl ok hi)).1 _ (pow_in ok hf)
        rw [hR1]
        simp only [Option.bind_some]
        rw [pc_by ok hG R (fun e he => (hS.2.1 e he).2.1)]
        simp only [Option.bind_some]
        have hl : landC W H (fun d => shutB W H so hd ag ga d || decide (d = i)) f = R := landC_is hR2
        have hdv : dcd W H so hd ag ga f i = !(decide (byV W H (fun e => decide (hd e = 2)) R = -1)) := by
          unfold dcd; rw [c, Bool.true_and, hl]
        by_cases d : byV W H (fun e => decide (hd e = 2)) R = -1
        · rw [if_pos d, if_neg (by rw [hdv, d]; simp)]
        · rw [if_neg d, if_pos (by rw [hdv]; simp [d])]
      · have c0 : (tallB W H so hd ag 0 i && ga i) = false := by cases q : (tallB W H so hd ag 0 i && ga i); rfl; exact absurd q c
        rw [if_pos ((ES_test ok hi).mpr (by rw [hop.1 i hi]; exact c0)), if_neg (by unfold dcd; rw [c0]; simp)]) 3000 0 0 (by omega) (by omega) (ES_start W H _)
  obtain ⟨v, hv1, hv2⟩ := pc_pick zX ok hG hp a2
  refine ⟨v, ?_, hv2⟩
  unfold f_X6_decides
  rw [pc_hasField ok hG, (inR_nI (by omega)).mpr ⟨f, hf, rfl⟩]
  simp only [Option.bind_some, if_one, if_true]
  rw [show (f_X5_tallHedges zG zS 0) = some t from ht1]
  simp only [Option.bind_some, nm_s]
  rw [show (L_X6_decides_59 zX zG zS (nI f) a2 t (t &&& ((zS.1 2) ^^^ (-1))) (t &&& (zS.1 2)) 3000 0 0) = some r from hr]
  simp only [Option.bind_some]
  rw [hv1]
  rfl
theorem pm_would {W H : Nat} {so : Nat → Nat} {pa : Nat → Bool} {zM : MS} {hd ag : Nat → Nat} {ga : Nat → Bool} {ow : Int32} {yr : Nat} (ok : okB W H = true) (hs : soOk so) (hG : GM W H so pa zM) (hK : SK W H hd ag ga ow yr) (hS : SM W H hd ag ga ow yr (zM.2 8)) {f e : Nat} (hf : f < W * H) (he : e < eN W H) :
    f_X7_wouldDecide zM (nI e) (nI f) = some (if dcd W H so hd ag ga f e then 1 else 0, zM) := by
  have hgn := geo_n ok
  have hsm := hS.1 e he
  have hk := hK.1 e
  unfold f_X7_wouldDecide
  rw [ald_s _ _ (show e < 122 by omega) (by omega), hsm.1]
  by_cases c : hd e = 0
  · rw [if_pos c, if_pos (by decide)]
    have : dcd W H so hd ag ga f e = false := by unfold dcd tallB; rw [c]; simp
    rw [this]; rfl
  · rw [if_neg c, if_neg (nI_pos (by omega)), show (80 : Int32) = nI 80 from rfl, nI_add, ald_s _ _ (show 80 + e < 122 by omega) (by omega), hsm.2.2]
    cases hg : ga e
    · rw [if_pos (show (if false = true then (1 : Int32) else 0) = 0 from rfl)]
      have : dcd W H so hd ag ga f e = false := by unfold dcd; rw [hg]; simp
      rw [this]; rfl
    · rw [if_neg (show ¬ (if true = true then (1 : Int32) else 0) = 0 by decide), ast_s _ (show 80 + e < 122 by omega) (by omega), nI_clamp (by omega)]
      simp only [nm_s]
      have hS2 : SM W H hd ag (withGate ga e false) ow yr ((zM.1, va_up zM.2 8 (upd (zM.2 8) (80 + e) 0)).2 8) := by
        show SM W H hd ag (withGate ga e false) ow yr (va_up zM.2 8 (upd (zM.2 8) (80 + e) 0) 8)
        rw [zu_eq]
        exact SM_gate ok hS he false
      have hK2 : SK W H hd ag (withGate ga e false) ow yr := ⟨fun d => ⟨(hK.1 d).1, (hK.1 d).2.1, fun q => by
        unfold withGate
        by_cases z : d = e
        · rw [if_pos z]
        · rw [if_neg z]; exact (hK.1 d).2.2 q⟩, hK.2⟩
      have hG2 : GM W H so pa (zM.1, va_up zM.2 8 (upd (zM.2 8) (80 + e) 0)) := GM_up hG rfl rfl rfl rfl rfl rfl rfl rfl
      have hback : ((zM.1, va_up (va_up zM.2 8 (upd (zM.2 8) (80 + e) 0)) 8 (upd (va_up zM.2 8 (upd (zM.2 8) (80 + e) 0) 8) (80 + e) 1)) : MS) = zM := by
        rw [zu_up, zu_eq, ud_ud, ud_self (by rw [hsm.2.2, hg]; rfl), zu_self]
      have hfin : ∀ b : Bool, (ast 122 (nI (80 + e)) (bz (if b then 1 else 0) (some ((if b then (1 : Int32) else 0), ((zM.1, va_up (va_up zM.2 8 (upd (zM.2 8) (80 + e) 0)) 8 (upd (va_up zM.2 8 (upd (zM.2 8) (80 + e) 0) 8) (80 + e) 1)) : MS))))) = some (if b then (1 : Int32) else 0, zM) := fun b => by
        rw [ast_s _ (show 80 + e < 122 by omega) (by omega), bzb, hback]
      rw [pm_shut ok hs hG2 hK2 hS2 he]
      simp only [Option.bind_some, if_one]
      by_cases d : tallB W H so hd ag 0 e = true
      · have hsh : shutB W H so hd ag (withGate ga e false) e = true := by unfold shutB withGate; rw [d, if_pos rfl]; rfl
        rw [hsh, if_pos rfl]
        obtain ⟨R, hR1, hR2⟩ := pm_land ok hs hG2 hK2 hS2 hf
        rw [hR1]
        simp only [Option.bind_some]
        rw [pm_by ok hG2 hK2 hS2 hf (land_self (by omega) hR2) (fun e he hc => shut_hd (land_cross hR2 he hc))]
        simp only [Option.bind_some]
        have hl : landC W H (fun d => shutB W H so hd ag ga d || decide (d = e)) f = R := landC_is (isLand_cong hR2 (fun i hi => by
          unfold shutB withGate
          by_cases z : i = e
          · rw [z, d, if_pos rfl]; simp
          · rw [if_neg z]; simp [z]))
        have hdv : dcd W H so hd ag ga f e = !(decide (byV W H (fun e => decide (hd e = 2)) R = -1)) := by
          unfold dcd; rw [d, hg, hl]; rfl
        by_cases g : byV W H (fun e => decide (hd e = 2)) R = -1
        · have h0 : dcd W H so hd ag ga f e = false := by rw [hdv, g]; rfl
          rw [if_pos ((byV_neg _ _ _ _).mpr g), h0]
          exact hfin false
        · have h0 : dcd W H so hd ag ga f e = true := by rw [hdv]; simp [g]
          rw [if_neg (fun q => g ((byV_neg _ _ _ _).mp q)), h0]
          exact hfin true
      · have d0 : tallB W H so hd ag 0 e = false := by cases q : tallB W H so hd ag 0 e; rfl; exact absurd q d
        have hsh : shutB W H so hd ag (withGate ga e false) e = false := by unfold shutB; rw [d0]; rfl
        have h0 : dcd W H so hd ag ga f e = false := by unfold dcd; rw [d0]; rfl
        rw [hsh, if_neg (by decide), h0]
        exact hfin false
theorem pm_decides {W H : Nat} {so : Nat → Nat} {pa : Nat → Bool} {zM : MS} {hd ag : Nat → Nat} {ga : Nat → Bool} {ow : Int32} {yr : Nat} (ok : okB W H = true) (hs : soOk so) (hG : GM W H so pa zM) (hK : SK W H hd ag ga ow yr) (hS : SM W H hd ag ga ow yr (zM.2 8)) {f : Nat} (hf : f < W * H) (a2 : Int32) :
    ∃ v, f_X7_decides zM (nI f) a2 = some (v, zM) ∧ isPick (dcd W H so hd ag ga f) (eN W H) a2 v := by
  have hgn := geo_n ok
  obtain ⟨r, hr, hp⟩ := up_loop (σ := Int32) (fun n i s => L_X7_decides_16 (nI f) a2 n s i zM) (eN W H) (fun k s => s = nI (fb_ct (dcd W H so hd ag ga f) k) ∧ (∀ e, e < k → dcd W H so hd ag ga f e = true → ¬ a2 = nI (fb_ct (dcd W H so hd ag ga f) e))) (fun r => r.2 = zM ∧ isPick (dcd W H so hd ag ga f) (eN W H) a2 r.1)
    (fun n s hI => by
      by_cases c : a2 = -1
      · refine ⟨(s, zM), ?_, rfl, Or.inl ⟨c, hI.1⟩⟩
        show L_X7_decides_16 (nI f) a2 (n + 1) s (nI (eN W H)) zM = _
        rw [L_X7_decides_16, hG.1.2.2.2, if_pos (Int32.le_refl _), if_pos c]
      · refine ⟨(-1, zM), ?_, rfl, Or.inr ⟨c, Or.inr ⟨hI.2, rfl⟩⟩⟩
        show L_X7_decides_16 (nI f) a2 (n + 1) s (nI (eN W H)) zM = _
        rw [L_X7_decides_16, hG.1.2.2.2, if_pos (Int32.le_refl _), if_neg c])
    (fun n k s hk hI => by
      have e0 : L_X7_decides_16 (nI f) a2 (n + 1) s (nI k) zM = if dcd W H so hd ag ga f k = false then L_X7_decides_16 (nI f) a2 n s (nI (k + 1)) zM else (if s = a2 then some (nI k, zM) else L_X7_decides_16 (nI f) a2 n (s + 1) (nI (k + 1)) zM) := by
        rw [L_X7_decides_16, hG.1.2.2.2, if_neg (fun q => absurd ((nI_leI (by omega) (by omega)).mp q) (by omega)), pm_would ok hs hG hK hS hf hk]
        simp only [Option.bind_some, nm_s, nI_1, if_one]
        cases dcd W H so hd ag ga f k
        · rfl
        · rfl
      by_cases d : dcd W H so hd ag ga f k = false
      · right
        refine ⟨s, ⟨by rw [hI.1, fb_ct_succ, d]; rfl, fun e he hp => ?_⟩, by show L_X7_decides_16 (nI f) a2 (n + 1) s (nI k) zM = _; rw [e0, if_pos d]⟩
        rcases Nat.lt_or_ge e k with z | z
        · exact hI.2 e z hp
        · have : e = k := by omega
          rw [this, d] at hp; cases hp
      · have d1 : dcd W H so hd ag ga f k = true := by cases q : dcd W H so hd ag ga f k; exact absurd q d; rfl
        have hle := fb_ct_le (dcd W H so hd ag ga f) k
        by_cases g : s = a2
        · left
          refine ⟨(nI k, zM), by show L_X7_decides_16 (nI f) a2 (n + 1) s (nI k) zM = _; rw [e0, if_neg d, if_pos g], rfl, Or.inr ⟨fun q => ?_, Or.inl ⟨k, hk, d1, by rw [← g, hI.1], rfl⟩⟩⟩
          rw [q, hI.1] at g
          exact absurd (show nI (fb_ct (dcd W H so hd ag ga f) k) < 0 by rw [g]; decide) (nI_pos (by omega))
        · right
          refine ⟨s + 1, ⟨by rw [hI.1, fb_ct_succ, d1, nI_1]; rfl, fun e he hp => ?_⟩, by show L_X7_decides_16 (nI f) a2 (n + 1) s (nI k) zM = _; rw [e0, if_neg d, if_neg g]⟩
          rcases Nat.lt_or_ge e k with z | z
          · exact hI.2 e z hp
          · have : e = k := by omega
            rw [this, ← hI.1]; exact fun q => g q.symm) 3000 0 0 (by omega) (by omega) ⟨rfl, fun e he => absurd he (Nat.not_lt_zero e)⟩
  refine ⟨r.1, ?_, hp.2⟩
  unfold f_X7_decides
  rw [pm_isField ok hG, (inR_nI (by omega)).mpr ⟨f, hf, rfl⟩]
  simp only [Option.bind_some, if_one, if_true, nm_s]
  rw [show (L_X7_decides_16 (nI f) a2 3000 0 0 zM) = some r from hr]
  exact congrArg some (Prod.ext rfl hp.1)
theorem sim_13 : SM_13 Rel := by
  intro zX zR zRG zRS zG zS zP zQ zN zI zJ zT zM a1 a2 hR
  have hR0 := hR
  obtain ⟨W, H, ok, ⟨so, pa, hso, hGC, hGM⟩, ⟨hd, ag, ga, ow, yr, hSK, hSC, hSM⟩, hP, hI, hN, hT, hf, hs, hs0⟩ := hR
  have hgn := geo_n ok
  suffices hx : ∃ v, f_X6_decides zX zG zS a1 a2 = some v ∧ f_X7_decides zM a1 a2 = some (v, zM) by
    obtain ⟨v, e1, e2⟩ := hx
    unfold sp_13
    rw [e1, e2]
    simp only [Option.bind_some, nm_s, if_true]
    exact ⟨_, rfl, hR0⟩
  by_cases c : inR a1 (W * H) = true
  · obtain ⟨f, hfl, rfl⟩ := (inR_nI (by omega)).mp c
    obtain ⟨v, hv1, hv2⟩ := pc_decides zX ok hso hGC hSK hSC hfl a2
    obtain ⟨w, hw1, hw2⟩ := pm_decides ok hso hGM hSK hSM hfl a2
    exact ⟨v, hv1, by rw [hw1, isPick_one hgn.1 hw2 hv2]⟩
  · unfold f_X6_decides f_X7_decides
    rw [pc_hasField ok hGC, pm_isField ok hGM]
    simp only [Option.bind_some, if_one, nm_s]
    rw [if_neg c, if_neg c]
    exact ⟨_, rfl, rfl⟩

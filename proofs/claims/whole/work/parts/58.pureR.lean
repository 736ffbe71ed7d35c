/-! ===== slips ===== -/
theorem rel_fr {zX : XS} {zR : RS} {zRG : GS} {zRS : SS} {zG : GS} {zS : SS} {zP : PS} {zQ : QS} {zN : NS} {zI : IS} {zJ : QS} {zT : TS} {zM z : MS} (h : Rel (zX, zR, zRG, zRS, zG, zS, zP, zQ, zN, zI, zJ, zT, zM)) (fr : frm [27] [24, 25, 26] zM z) : Rel (zX, zR, zRG, zRS, zG, zS, zP, zQ, zN, zI, zJ, zT, z) := by
  obtain ⟨W, H, ok, ⟨so, pa, hso, hGC, hGM⟩, hS, hP, hI, hN, hT, hf, hs, hs0⟩ := h
  refine ⟨W, H, ok, ⟨so, pa, hso, hGC, GM_fr hGM fr⟩, ?_, ?_, ?_, ?_, ?_, ?_, ?_, hs0⟩
  · rw [fr.2 8 (by decide)]; exact hS
  · unfold RelP
    rw [fr.1 22 (by decide), fr.2 23 (by decide)]; exact hP
  · unfold RelI
    rw [fr.2 37 (by decide), fr.2 36 (by decide)]; exact hI
  · unfold RelN
    rw [fr.1 29 (by decide), fr.1 33 (by decide), fr.2 30 (by decide), fr.2 31 (by decide), fr.2 34 (by decide), fr.2 35 (by decide)]; exact hN
  · unfold RelT
    rw [fr.1 11 (by decide), fr.2 10 (by decide)]; exact hT
  · rw [fr.1 12 (by decide)]; exact hf
  · rw [fr.1 9 (by decide)]; exact hs
theorem pc_stand {W H : Nat} {so : Nat → Nat} {zS : SS} {hd ag : Nat → Nat} {ga : Nat → Bool} {ow : Int32} {yr : Nat} (ok : okB W H = true) (hK : SK W H hd ag ga ow yr) (hS : SC W H hd ag ga ow yr zS) {a N : Nat} (ha : a < 2) {t : Int64} (ht : ES W H t (tallB W H so hd ag N)) :
    ∃ o : Int64, (if nI a = 1 then (some ((zS.1 1) : Int64)) else (some (((zS.1 1) ^^^ (-1)) : Int64))) = some o ∧ ∀ e, e < eN W H → bl ((t &&& ((zS.1 2) ^^^ (-1))) &&& o) (ePl W H e) = stB W H so hd ag ga a N e := by
  have hE := ES_andn ok ht (fun e he => (hS.2.1 e he).2.2.1)
  rcases (show a = 0 ∨ a = 1 by omega) with rfl | rfl
  · refine ⟨_, rfl, fun e he => ?_⟩
    rw [l_and, hE.1 e he, l_not _ (geo_e ok he).2.2.2, (hS.2.1 e he).2.1]
    have hh := (hK.1 e).1
    unfold tallB stB
    rcases (show hd e = 0 ∨ hd e = 1 ∨ hd e = 2 by omega) with q | q | q
    · simp [q]
    · cases hg : ga e <;> simp [q, hg]
    · simp [q]
  · refine ⟨_, rfl, fun e he => ?_⟩
    rw [l_and, hE.1 e he, (hS.2.1 e he).2.1]
    have hh := (hK.1 e).1
    unfold tallB stB
    rcases (show hd e = 0 ∨ hd e = 1 ∨ hd e = 2 by omega) with q | q | q
    · simp [q]
    · simp [q]
    · cases hg : ga e <;> simp [q, hg]
theorem st_sl {W H : Nat} {so hd ag : Nat → Nat} {pa ga : Nat → Bool} {a N e : Nat} (h : slB W H so hd pa N e = true) : stB W H so hd ag ga a N e = false := by
  unfold slB at h
  rw [Bool.and_eq_true] at h
  have := mayB_hd h.1
  unfold stB
  rw [this, decide_eq_false (by omega)]
  rfl
theorem pm_pick {W H : Nat} {so : Nat → Nat} {pa : Nat → Bool} {z : MS} {hd ag : Nat → Nat} {ga : Nat → Bool} {a N : Nat} {R : Int32} (p1 p2 p3 i r15 : Int32) (ok : okB W H = true) (hG : GM W H so pa z) (hr : ∀ e, e < eN W H → z.2 24 e = nI (rhB W H so hd ag pa ga a N e)) (hR : z.1 27 = R) (hi : ¬ i = -1) :
    ∃ v, L_X7_slips_76 z p1 p2 p3 i r15 3000 0 0 = some (v, z) ∧ isPick (fun e => crossB W H R e && slB W H so hd pa N e) (eN W H) i v := by
  have hgn := geo_n ok
  obtain ⟨r, hr1, hp1, hp2⟩ := up_loop (σ := Int32) (fun n k s => L_X7_slips_76 z p1 p2 p3 i r15 n s k) (eN W H) (fun k s => s = nI (fb_ct (fun e => crossB W H R e && slB W H so hd pa N e) k) ∧ (∀ e, e < k → (crossB W H R e && slB W H so hd pa N e) = true → ¬ i = nI (fb_ct (fun e => crossB W H R e && slB W H so hd pa N e) e))) (fun r => r.2 = z ∧ isPick (fun e => crossB W H R e && slB W H so hd pa N e) (eN W H) i r.1)
    (fun n s hI => by
      refine ⟨(-1, z), ?_, rfl, Or.inr ⟨hi, Or.inr ⟨hI.2, rfl⟩⟩⟩
      show L_X7_slips_76 z p1 p2 p3 i r15 (n + 1) s (nI (eN W H)) = _
      rw [L_X7_slips_76, hG.1.2.2.2, if_pos (Int32.le_refl _)])
    (fun n k s hk hI => by
      have hm := hG.2.2 k hk
      have hg := geo_e ok hk
      have e0 : L_X7_slips_76 z p1 p2 p3 i r15 (n + 1) s (nI k) = if (crossB W H R k && slB W H so hd pa N k) = false then L_X7_slips_76 z p1 p2 p3 i r15 n s (nI (k + 1)) else (if s = i then some (nI k, z) else L_X7_slips_76 z p1 p2 p3 i r15 n (s + 1) (nI (k + 1))) := by
        rw [L_X7_slips_76, hG.1.2.2.2, if_neg (fun q => absurd ((nI_leI (by omega) (by omega)).mp q) (by omega)), ald_s _ _ (show k < 40 by omega) (by omega), hr k hk, ald_s _ _ (show k < 40 by omega) (by omega), hm.1, hR, pm_has _ (show eLo W H k < 32 by omega), bdS, ald_s _ _ (show k < 40 by omega) (by omega), hm.2.1, pm_has _ (show eHi W H k < 32 by omega), bdS]
        simp only [nmq, nI_1]
        cases hsl : slB W H so hd pa N k
        · rw [Bool.and_false, if_pos rfl, if_neg (fun q => by
            unfold rhB at q
            rw [hsl] at q
            cases hst : stB W H so hd ag ga a N k
            · rw [hst] at q; exact absurd q (by decide)
            · rw [hst] at q; exact absurd q (by decide))]
        · rw [Bool.and_true, if_pos (by
            unfold rhB
            rw [hsl, st_sl hsl]; rfl)]
          by_cases c : crossB W H R k = false
          · rw [if_pos ((bool_ne _ _).mpr c), if_pos c]
          · rw [if_neg (fun q => c ((bool_ne _ _).mp q)), if_neg c]
      by_cases d : (crossB W H R k && slB W H so hd pa N k) = false
      · right
        refine ⟨s, ⟨by rw [hI.1, fb_ct_succ, d]; rfl, fun e he hp => ?_⟩, by show L_X7_slips_76 z p1 p2 p3 i r15 (n + 1) s (nI k) = _; rw [e0, if_pos d]⟩
        rcases Nat.lt_or_ge e k with q | q
        · exact hI.2 e q hp
        · have : e = k := by omega
          rw [this, d] at hp; cases hp
      · have d1 : (crossB W H R k && slB W H so hd pa N k) = true := by cases q : (crossB W H R k && slB W H so hd pa N k); exact absurd q d; rfl
        by_cases g : s = i
        · left
          exact ⟨(nI k, z), by show L_X7_slips_76 z p1 p2 p3 i r15 (n + 1) s (nI k) = _; rw [e0, if_neg d, if_pos g], rfl, Or.inr ⟨hi, Or.inl ⟨k, hk, d1, by rw [← g, hI.1], rfl⟩⟩⟩
        · right
          refine ⟨s + 1, ⟨by rw [hI.1, fb_ct_succ, d1, nI_1]; rfl, fun e he hp => ?_⟩, by show L_X7_slips_76 z p1 p2 p3 i r15 (n + 1) s (nI k) = _; rw [e0, if_neg d, if_neg g]⟩
          rcases Nat.lt_or_ge e k with q | q
          · exact hI.2 e q hp
          · have : e = k := by omega
            rw [this, ← hI.1]; exact fun q => g q.symm) 3000 0 0 (by omega) (by omega) ⟨rfl, fun e he => absurd he (Nat.not_lt_zero e)⟩
  refine ⟨r.1, ?_, hp2⟩
  rw [show (L_X7_slips_76 z p1 p2 p3 i r15 3000 0 0) = some r from hr1, ← hp1]
theorem sim_12 : SM_12 Rel := by
  intro zX zR zRG zRS zG zS zP zQ zN zI zJ zT zM a1 a2 a3 a4 hR
  have hR0 := hR
  obtain ⟨W, H, ok, ⟨so, pa, hso, hGC, hGM⟩, hS, hP, hI, hN, hT, hf, hs, hs0⟩ := hR
  obtain ⟨hd, ag, ga, ow, yr, hSK, hSC, hSM⟩ := hS
  have hgn := geo_n ok
  suffices hx : ∃ v z, f_X6_slips zX zG zS a1 a2 a3 a4 = some v ∧ f_X7_slips zM a1 a2 a3 a4 = some (v, z) ∧ frm [27] [24, 25, 26] zM z by
    obtain ⟨v, z, e1, e2, h⟩ := hx
    unfold sp_12
    rw [e1, e2]
    simp only [Option.bind_some, nm_s, if_true]
    exact ⟨_, rfl, rel_fr hR0 h⟩
  have hin : f_X7_in (Int32.toInt64 a3) 1 20 = some (if inR1 a3 20 then 1 else 0) := pm_in1 (n := 20) (by omega)
  unfold f_X6_slips f_X7_slips
  rw [(isE a1).1, (isE a1).2, bdS, bdS, if_one, if_one]
  by_cases c : inR a1 2 = true
  · obtain ⟨a, ha, rfl⟩ := (inR_nI (by omega)).mp c
    rw [if_pos c, if_pos c, pc_hasField ok hGC, pm_isField ok hGM, bdS, bdS, if_one, if_one]
    by_cases d : inR a2 (W * H) = true
    · obtain ⟨f, hfl, rfl⟩ := (inR_nI (by omega)).mp d
      rw [if_pos d, if_pos d, hin, bdS, if_one, show (20 : Int32) = nI 20 from rfl, rng1 a3 (n := 20) (by omega)]
      by_cases g : inR1 a3 20 = true
      · obtain ⟨N, hN1, hN2, rfl⟩ := inR1_nI (by omega) g
        rw [if_pos g, if_pos g, pm_rim ok hGM hfl, bdS, if_one]
        obtain ⟨t, t1, t2⟩ := pc_tall ok hso hGC hSK hSC (y := N) (by omega)
        obtain ⟨o, o1, o2⟩ := pc_stand ok hSK hSC ha t2
        obtain ⟨u, u1, u2⟩ := pc_slips zX ok hso hGC hSC (N := N) (by omega)
        rw [o1, bdS, t1, bdS, nmq, u1, bdS]
        cases hrim : rimB W H f
        · rw [if_neg (by decide)]
          obtain ⟨b, b1, b2⟩ := pc_cheapest zX ok hGC hfl hrim (p2 := (t &&& ((zS.1 2) ^^^ (-1))) &&& o) (p4 := u) o2 u2.1
          obtain ⟨ag1, ag2⟩ := slips_agree ok hfl hrim b2
          obtain ⟨z1, r1, r2, r3⟩ := pm_room ok hso hGM hSK hSM ha hN2
          obtain ⟨v, z2, c1, c2, c3⟩ := pm_cut (ρ := rhB W H so hd ag pa ga a N) ok (GM_fr hGM r2) (fun e he => ⟨(r3 e he).1, rhB_le W H so hd ag pa ga a N e⟩) (fun e he => (r3 e he).2) hfl
          have fr2 : frm [27] [24, 25, 26] zM z2 := frm_tr r2 (frm_mono c2 (fun _ h => h) (fun k h => by simp at h; rcases h with h | h <;> simp [h]))
          rw [b1, bdS, r1, bdS, c1, bdS, nmq, nmq]
          rcases c3 with ⟨v1, v2⟩ | ⟨n, n1, n2, n3⟩
          · have hb0 := ag1 v2
            refine ⟨-1, z2, ?_, ?_, fr2⟩
            · rw [if_pos hb0]
            · rw [if_pos (show v < 0 by rw [v1]; decide), v1]
          · obtain ⟨h1, h2, h3⟩ := ag2 n (z2.1 27) n1 n3
            have hne : ¬ b = 0 := fun q => by
              have := n3.1
              rw [← h1, q, b_0] at this
              cases this
            rw [if_neg hne, h1]
            obtain ⟨w, w1, w2⟩ := pc_round ok hGC (z2.1 27)
            have hES : ES W H (w &&& u) (fun e => crossB W H (z2.1 27) e && slB W H so hd pa N e) := ES_andl w2 u2.1
            obtain ⟨p, p1, p2⟩ := pc_pick zX ok hGC hES a4
            have hcnt : n = fb_ct (fun e => crossB W H (z2.1 27) e && slB W H so hd pa N e) (eN W H) := by
              rw [← h3]
              unfold cstX
              refine fb_ct_cong (fun e he => ?_)
              have hfe : ((crossB W H (z2.1 27) e && !(stB W H so hd ag ga a N e)) && !(slB W H so hd pa N e)) = false := h2 e he
              cases q1 : crossB W H (z2.1 27) e
              · rfl
              · rw [q1] at hfe
                cases q2 : slB W H so hd pa N e
                · rw [q2] at hfe
                  cases q3 : stB W H so hd ag ga a N e
                  · rw [q3] at hfe; cases hfe
                  · rfl
                · rw [st_sl q2]; rfl
            rw [w1, bdS, p1, bdS, n2, if_neg (nI_pos (by omega))]
            by_cases k : a4 = -1
            · refine ⟨p, z2, rfl, ?_, fr2⟩
              rw [if_pos k, isPick_one hgn.1 p2 (Or.inl ⟨k, rfl⟩), ← hcnt]
            · obtain ⟨x, x1, x2⟩ := pm_pick (nI a) (nI f) (nI N) a4 (nI n) ok (GM_fr hGM fr2) (fun e he => by rw [c2.2 24 (by decide)]; exact (r3 e he).1) rfl k
              refine ⟨p, z2, rfl, ?_, fr2⟩
              rw [if_neg k, nmq, nmq, x1, isPick_one hgn.1 p2 x2]
        · refine ⟨-1, zM, ?_, ?_, frm_refl _ _ _⟩
          · have hb0 : f_X6_cheapestLand zX zG (nI f) ((t &&& ((zS.1 2) ^^^ (-1))) &&& o) u = some 0 := by
              unfold f_X6_cheapestLand
              rw [nmq, if_neg (fun q => by
                rw [bt_test _ (show f < 32 by omega), hGC.2.1.2.1, decide_eq_true hfl, hrim] at q
                cases q)]
            rw [hb0, bdS, if_pos rfl]
          · rw [if_pos rfl]
      · rw [if_neg g, if_neg g]
        exact ⟨_, zM, rfl, rfl, frm_refl _ _ _⟩
    · rw [if_neg d, if_neg d]
      exact ⟨_, zM, rfl, rfl, frm_refl _ _ _⟩
  · rw [if_neg c, if_neg c]
    exact ⟨_, zM, rfl, rfl, frm_refl _ _ _⟩

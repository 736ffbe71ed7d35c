/-! ===== questions: told, edge ===== -/
theorem out_ne {x : Int32} {n : Nat} (hn : n < 2 ^ 31) (h : ¬ inR x n = true) {j : Nat} (hj : j < n) : ¬ x = nI j := fun e => h ((inR_nI hn).mpr ⟨j, hj, e⟩)
theorem sim_3 : SM_3 Rel := by
  intro zX zR zRG zRS zG zS zP zQ zN zI zJ zT zM a1 hR
  have hR0 := hR
  obtain ⟨W, H, ok, ⟨so, pa, hso, hGC, hGM⟩, ⟨hd, ag, ga, ow, yr, hSK, hSC, hSM⟩, ⟨u, nx, p1, p2, p3, p4, p5, p6⟩, hI, ⟨r, b, h1, h2, h3, h4, h5, h6, h7, h8⟩, ⟨n, hn, t1, t2, t3⟩, hf, hs, hs0⟩ := hR
  have hgn := geo_n ok
  suffices hx : ∃ v, f_X6_told zX zR zG zS zP zN a1 = some v ∧ f_X7_told zM a1 = some v by
    obtain ⟨v, e1, e2⟩ := hx
    unfold sp_3
    rw [e1, e2]
    simp only [Option.bind_some, if_true]
    exact ⟨_, rfl, hR0⟩
  have hct : f_J6_bitCount_0f7a4 ow = some (nI (fb_ct (bt ow) 25)) := by
    rw [pc_int, ct_same (n := W * H) hSK.2.1 (m := 32) (by omega), ct_same (n := W * H) hSK.2.1 (m := 25) (by omega)]
  have a120 : ∀ {β : Type} (g : Int32 → Option β), ald 122 (zM.2 8) (120 : Int32) g = g ow := fun g => by rw [show (120 : Int32) = nI 120 from rfl, ald_s _ _ (show 120 < 122 by omega) (by omega), hSM.2.1]
  have a121 : ∀ {β : Type} (g : Int32 → Option β), ald 122 (zM.2 8) (121 : Int32) g = g (nI yr) := fun g => by rw [show (121 : Int32) = nI 121 from rfl, ald_s _ _ (show 121 < 122 by omega) (by omega), hSM.2.2]
  by_cases c : inR a1 13 = true
  · obtain ⟨j, hj, rfl⟩ := (inR_nI (by omega)).mp c
    rcases (show j = 0 ∨ j = 1 ∨ j = 2 ∨ j = 3 ∨ j = 4 ∨ j = 5 ∨ j = 6 ∨ j = 7 ∨ j = 8 ∨ j = 9 ∨ j = 10 ∨ j = 11 ∨ j = 12 by omega) with rfl | rfl | rfl | rfl | rfl | rfl | rfl | rfl | rfl | rfl | rfl | rfl | rfl
    · exact ⟨zG.1 0, rfl, by show some (zM.1 0) = _; rw [hGC.1.1, hGM.1.1]⟩
    · exact ⟨zG.1 1, rfl, by show some (zM.1 1) = _; rw [hGC.1.2.1, hGM.1.2.1]⟩
    · exact ⟨zG.1 2, rfl, by show some (zM.1 2) = _; rw [hGC.1.2.2.1, hGM.1.2.2.1]⟩
    · exact ⟨zG.1 3, rfl, by show some (zM.1 3) = _; rw [hGC.1.2.2.2, hGM.1.2.2.2]⟩
    · exact ⟨zR.1 3, rfl, by show some (zM.1 11) = _; rw [t1, t2]⟩
    · exact ⟨zS.2.1 4, rfl, by show (ald 122 (zM.2 8) (121 : Int32) fun x_9 => some x_9) = _; rw [a121, hSC.2.2.2]⟩
    · refine ⟨nI (fb_ct (fun e => decide (hd e ≠ 0)) (eN W H)), ?_, ?_⟩
      · show ((f_J13_bitCount_95d88 (zS.1 0)).bind fun r_11 => some r_11) = _
        rw [ES_count ok (p := fun e => decide (hd e ≠ 0)) ⟨fun e he => (hSC.2.1 e he).1, hSC.1⟩]
        rfl
      · show ((f_X7_hedges zM).bind fun r_11 => some r_11) = _
        rw [pm_hedges ok hGM hSM hSK]
        rfl
    · refine ⟨nI (W * H) - nI (fb_ct (bt ow) 25), ?_, ?_⟩
      · show ((f_J6_bitCount_0f7a4 (zS.2.1 3)).bind fun r_14 => some ((zG.1 2) - r_14)) = _
        rw [hSC.2.2.1, hct, hGC.1.2.2.1]
        rfl
      · show (ald 122 (zM.2 8) (120 : Int32) fun x_15 => (f_X7_bits x_15).bind fun r_16 => some ((zM.1 2) - r_16)) = _
        rw [a120, pm_bits, hGM.1.2.2.1]
        rfl
    · refine ⟨nI (fb_ct (bt ow) 25), ?_, ?_⟩
      · show ((f_J6_bitCount_0f7a4 (zS.2.1 3)).bind fun r_17 => some r_17) = _
        rw [hSC.2.2.1, hct]
        rfl
      · show (ald 122 (zM.2 8) (120 : Int32) fun x_20 => (f_X7_bits x_20).bind fun r_21 => some r_21) = _
        rw [a120, pm_bits]
        rfl
    · obtain ⟨t, ht1, ht2⟩ := pc_round ok hGC ow
      refine ⟨nI (fb_ct (crossB W H ow) (eN W H)), ?_, ?_⟩
      · show ((f_X0_edgesRound zG (zS.2.1 3)).bind fun r_20 => (f_J13_bitCount_95d88 r_20).bind fun r_22 => some r_22) = _
        rw [hSC.2.2.1, ht1]
        show (f_J13_bitCount_95d88 t).bind _ = _
        rw [ES_count ok ht2]
        rfl
      · show ((f_X7_frontier zM).bind fun r_24 => some r_24) = _
        rw [pm_frontier ok hGM, hSM.2.1]
        rfl
    · exact ⟨zN.1 0, rfl, by show some (zM.1 29) = _; rw [h3, h4]⟩
    · exact ⟨zN.1 1, rfl, by show some (zM.1 33) = _; rw [h5, h6]⟩
    · exact ⟨zP 1, rfl, by show some (zM.1 22) = _; rw [p3, p4]⟩
  · refine ⟨-1000000002, ?_, ?_⟩
    · unfold f_X6_told
      rw [show (12 : Int32) = nI 12 from rfl, rng_le a1 (n := 12) (by omega), if_neg c]
    · unfold f_X7_told
      rw [nm_s, if_neg (show ¬ a1 = (0 : Int32) from out_ne (by omega) c (j := 0) (by omega)), if_neg (show ¬ a1 = (1 : Int32) from out_ne (by omega) c (j := 1) (by omega)), if_neg (show ¬ a1 = (2 : Int32) from out_ne (by omega) c (j := 2) (by omega)), if_neg (show ¬ a1 = (3 : Int32) from out_ne (by omega) c (j := 3) (by omega)), if_neg (show ¬ a1 = (4 : Int32) from out_ne (by omega) c (j := 4) (by omega)), if_neg (show ¬ a1 = (5 : Int32) from out_ne (by omega) c (j := 5) (by omega)), if_neg (show ¬ a1 = (6 : Int32) from out_ne (by omega) c (j := 6) (by omega)), if_neg (show ¬ a1 = (7 : Int32) from out_ne (by omega) c (j := 7) (by omega)), if_neg (show ¬ a1 = (8 : Int32) from out_ne (by omega) c (j := 8) (by omega)), if_neg (show ¬ a1 = (9 : Int32) from out_ne (by omega) c (j := 9) (by omega)), if_neg (show ¬ a1 = (10 : Int32) from out_ne (by omega) c (j := 10) (by omega)), if_neg (show ¬ a1 = (11 : Int32) from out_ne (by omega) c (j := 11) (by omega)), if_neg (show ¬ a1 = (12 : Int32) from out_ne (by omega) c (j := 12) (by omega))]
theorem bitT {W H : Nat} (ok : okB W H = true) (t : Int64) {d : Nat} (hd : d < eN W H) : (if (lg_cmp (t &&& lshl 1 (nI (ePl W H d))) 0) = 0 then (some (0 : Int32)) else (some (1 : Int32))) = some (if bl t (ePl W H d) then 1 else 0) := by
  by_cases c : bl t (ePl W H d) = false
  · rw [if_pos ((ES_test ok hd).mpr c), c]; rfl
  · rw [if_neg (fun q => c ((ES_test ok hd).mp q))]
    have : bl t (ePl W H d) = true := by cases q : bl t (ePl W H d); exact absurd q c; rfl
    rw [this]; rfl
theorem oneIf_b (b : Bool) : f_X6_oneIf (if b then 1 else 0) = some (if b then 1 else 0) := by cases b <;> rfl
theorem sim_5 : SM_5 Rel := by
  intro zX zR zRG zRS zG zS zP zQ zN zI zJ zT zM a1 a2 hR
  have hR0 := hR
  obtain ⟨W, H, ok, ⟨so, pa, hso, hGC, hGM⟩, ⟨hd, ag, ga, ow, yr, hSK, hSC, hSM⟩, hP, hI, hN, hT, hf, hs, hs0⟩ := hR
  have hgn := geo_n ok
  suffices hx : ∃ v, f_X6_edge zX zG zS a1 a2 = some v ∧ f_X7_edge zM a1 a2 = some v by
    obtain ⟨v, e1, e2⟩ := hx
    unfold sp_5
    rw [e1, e2]
    simp only [Option.bind_some, if_true]
    exact ⟨_, rfl, hR0⟩
  unfold f_X6_edge f_X7_edge
  rw [pc_hasEdge ok hGC, pm_isEdge ok hGM]
  simp only [Option.bind_some, if_one, nm_s]
  by_cases c : inR a1 (eN W H) = true
  · obtain ⟨e, he, rfl⟩ := (inR_nI (by omega)).mp c
    rw [if_pos c, if_pos c, show (7 : Int32) = nI 7 from rfl, rng_le a2 (n := 7) (by omega)]
    by_cases d : inR a2 8 = true
    · rw [if_pos d]
      have hg := hGC.2.2.2.2 e he
      have hm := hGM.2.2 e he
      have hsc := hSC.2.1 e he
      have hsm := hSM.1 e he
      have hk := hSK.1 e
      obtain ⟨t, ht1, ht2⟩ := pc_shut ok hso hGC hSK hSC
      rw [ald_s _ _ (show e < 40 by omega) (by omega), hg.2.2, bitT ok _ he, hsc.1]
      simp only [Option.bind_some]
      obtain ⟨j, hj, rfl⟩ := (inR_nI (by omega)).mp d
      have m1 : ∀ {β : Type} (g : Int32 → Option β), ald 122 (zM.2 8) (nI e) g = g (if hd e = 0 then -1 else nI (hd e - 1)) := fun g => by rw [ald_s _ _ (show e < 122 by omega) (by omega), hsm.1]
      have m2 : ∀ {β : Type} (g : Int32 → Option β), ald 122 (zM.2 8) (40 + nI e) g = g (zM.2 8 (40 + e)) := fun g => by rw [show (40 : Int32) = nI 40 from rfl, nI_add, ald_s _ _ (show 40 + e < 122 by omega) (by omega)]
      have m3 : ∀ {β : Type} (g : Int32 → Option β), ald 122 (zM.2 8) (80 + nI e) g = g (if ga e then 1 else 0) := fun g => by rw [show (80 : Int32) = nI 80 from rfl, nI_add, ald_s _ _ (show 80 + e < 122 by omega) (by omega), hsm.2.2]
      rcases (show j = 0 ∨ j = 1 ∨ j = 2 ∨ j = 3 ∨ j = 4 ∨ j = 5 ∨ j = 6 ∨ j = 7 by omega) with rfl | rfl | rfl | rfl | rfl | rfl | rfl | rfl
      · refine ⟨nI (eLo W H e), ?_, ?_⟩
        · show (ald 40 (zG.2.2.1 10) (nI e) fun x_15 => some x_15) = _
          rw [ald_s _ _ (show e < 40 by omega) (by omega), hg.1]
        · show (ald 40 (zM.2 5) (nI e) fun x_7 => some x_7) = _
          rw [ald_s _ _ (show e < 40 by omega) (by omega), hm.1]
      · refine ⟨nI (eHi W H e), ?_, ?_⟩
        · show (ald 40 (zG.2.2.1 11) (nI e) fun x_15 => some x_15) = _
          rw [ald_s _ _ (show e < 40 by omega) (by omega), hg.2.1]
        · show (ald 40 (zM.2 6) (nI e) fun x_7 => some x_7) = _
          rw [ald_s _ _ (show e < 40 by omega) (by omega), hm.2.1]
      · refine ⟨if hd e = 0 then -1 else nI (hd e - 1), ?_, ?_⟩
        · show (if (if decide (hd e ≠ 0) then (1 : Int32) else 0) = 0 then (some (-1 : Int32)) else ((if (lg_cmp ((zS.1 1) &&& lshl 1 (nI (ePl W H e))) 0) = 0 then (some (0 : Int32)) else (some (1 : Int32))).bind fun t_21 => (f_X6_oneIf t_21).bind fun r_25 => some r_25)) = _
          rw [if_one, bitT ok _ he, hsc.2.1]
          simp only [Option.bind_some, oneIf_b]
          rcases (show hd e = 0 ∨ hd e = 1 ∨ hd e = 2 by omega) with q | q | q <;> rw [q] <;> rfl
        · show (ald 122 (zM.2 8) (nI e) fun x_13 => some x_13) = _
          rw [m1]
      · refine ⟨if hd e = 0 then -1 else nI (ag e), ?_, ?_⟩
        · show (if (if decide (hd e ≠ 0) then (1 : Int32) else 0) = 0 then (some (-1 : Int32)) else (ald 40 zS.2.2 (nI e) fun x_30 => some x_30)) = _
          rw [if_one, ald_s _ _ (show e < 40 by omega) (by omega)]
          by_cases q : hd e = 0
          · simp [q]
          · simp [q, hsc.2.2.2 q]
        · show (ald 122 (zM.2 8) (nI e) fun x_16 => if (0 : Int32) ≤ x_16 then (ald 122 (zM.2 8) (40 + nI e) fun x_19 => some x_19) else (some (-1 : Int32))) = _
          rw [m1, m2]
          by_cases q : hd e = 0
          · rw [if_pos q, if_pos q]; rfl
          · rw [if_neg q, if_neg q, if_pos (nI_pos' (by omega)), hsm.2.1 q]
      · refine ⟨if hd e = 0 then 0 else nI (hgt W H so e (ag e)), ?_, ?_⟩
        · show (if (if decide (hd e ≠ 0) then (1 : Int32) else 0) = 0 then (some (0 : Int32)) else (ald 40 zS.2.2 (nI e) fun x_34 => (f_X0_heightOn zG (nI e) x_34).bind fun r_35 => some r_35)) = _
          rw [if_one, ald_s _ _ (show e < 40 by omega) (by omega)]
          by_cases q : hd e = 0
          · simp [q]
          · rw [hsc.2.2.2 q, pc_height ok hso hGC he (by omega)]; simp [q]
        · show (ald 122 (zM.2 8) (nI e) fun x_22 => if (0 : Int32) ≤ x_22 then (ald 122 (zM.2 8) (40 + nI e) fun x_25 => (f_X7_heightBy zM (nI e) x_25).bind fun r_26 => some r_26) else (some (0 : Int32))) = _
          rw [m1, m2]
          by_cases q : hd e = 0
          · rw [if_pos q, if_pos q]; rfl
          · rw [if_neg q, if_neg q, if_pos (nI_pos' (by omega)), hsm.2.1 q, pm_height ok hso hGM he (by omega)]; rfl
      · refine ⟨if ga e then 1 else 0, ?_, ?_⟩
        · show ((if (lg_cmp ((zS.1 2) &&& lshl 1 (nI (ePl W H e))) 0) = 0 then (some (0 : Int32)) else (some (1 : Int32))).bind fun t_38 => (f_X6_oneIf t_38).bind fun r_42 => some r_42) = _
          rw [bitT ok _ he, hsc.2.2.1]
          simp only [Option.bind_some, oneIf_b]
        · show (ald 122 (zM.2 8) (80 + nI e) fun x_30 => some x_30) = _
          rw [m3]
      · refine ⟨if pa e then 1 else 0, ?_, ?_⟩
        · show ((if (lg_cmp (zG.2.1 &&& lshl 1 (nI (ePl W H e))) 0) = 0 then (some (0 : Int32)) else (some (1 : Int32))).bind fun t_45 => (f_X6_oneIf t_45).bind fun r_49 => some r_49) = _
          rw [bitT ok _ he, hGC.2.2.1 e he]
          simp only [Option.bind_some, oneIf_b]
        · show (ald 40 (zM.2 7) (nI e) fun x_33 => if x_33 = 0 then (some (0 : Int32)) else (some (1 : Int32))) = _
          rw [ald_s _ _ (show e < 40 by omega) (by omega), hm.2.2]
          cases pa e <;> rfl
      · refine ⟨if shutB W H so hd ag ga e then 1 else 0, ?_, ?_⟩
        · show ((f_X5_shutEdges zG zS).bind fun r_51 => (if (lg_cmp (r_51 &&& lshl 1 (nI (ePl W H e))) 0) = 0 then (some (0 : Int32)) else (some (1 : Int32))).bind fun t_53 => (f_X6_oneIf t_53).bind fun r_57 => some r_57) = _
          rw [ht1]
          simp only [Option.bind_some]
          rw [bitT ok _ he, ht2.1 e he]
          simp only [Option.bind_some, oneIf_b]
        · show ((f_X7_isShut zM (nI e)).bind fun r_36 => if r_36 = 0 then (some (0 : Int32)) else (some (1 : Int32))) = _
          rw [pm_shut ok hso hGM hSK hSM he]
          cases shutB W H so hd ag ga e <;> rfl
    · rw [if_neg d]
      refine ⟨_, rfl, ?_⟩
      rw [if_neg (show ¬ a2 = (0 : Int32) from out_ne (by omega) d (j := 0) (by omega)), if_neg (show ¬ a2 = (1 : Int32) from out_ne (by omega) d (j := 1) (by omega)), if_neg (show ¬ a2 = (2 : Int32) from out_ne (by omega) d (j := 2) (by omega)), if_neg (show ¬ a2 = (3 : Int32) from out_ne (by omega) d (j := 3) (by omega)), if_neg (show ¬ a2 = (4 : Int32) from out_ne (by omega) d (j := 4) (by omega)), if_neg (show ¬ a2 = (5 : Int32) from out_ne (by omega) d (j := 5) (by omega)), if_neg (show ¬ a2 = (6 : Int32) from out_ne (by omega) d (j := 6) (by omega)), if_neg (out_ne (by omega) d (j := 7) (by omega))]
  · rw [if_neg c, if_neg c]
    exact ⟨_, rfl, rfl⟩
/-! ===== when a hedge is tall ===== -/
def ageT (g : Nat) : Nat := (11 + g) / g
theorem tall_iff {g : Nat} (h : 2 ≤ g ∧ g ≤ 6) (a : Nat) : 12 ≤ a * g ↔ ageT g ≤ a := by
  rcases (show g = 2 ∨ g = 3 ∨ g = 4 ∨ g = 5 ∨ g = 6 by omega) with rfl | rfl | rfl | rfl | rfl <;> simp only [ageT] <;> omega
theorem ageT_le {g : Nat} (h : 2 ≤ g ∧ g ≤ 6) : ageT g ≤ 6 := (tall_iff h 6).mp (by omega)
theorem hgt_iff {W H : Nat} {so : Nat → Nat} (hs : soOk so) (e a : Nat) : 12 ≤ hgt W H so e a ↔ ageT (gr W H so e) ≤ a := by
  rw [← tall_iff (gr_rng hs e)]
  unfold hgt
  omega
theorem pc_ageTall {W H : Nat} {so : Nat → Nat} {pa : Nat → Bool} {z : GS} (ok : okB W H = true) (hs : soOk so) (hG : GC W H so pa z) {e : Nat} (he : e < eN W H) : f_X0_ageWhenTall z (nI e) = some (nI (ageT (gr W H so e))) := by
  have hg := gr_rng (W := W) (H := H) hs e
  have ht := ageT_le hg
  generalize hgr : gr W H so e = g at hg ht
  obtain ⟨r, hr, hp⟩ := up_loop (σ := Unit) (fun n i _ => L_X0_ageWhenTall_8 z (nI e) (nI g) n i) (ageT g) (fun _ _ => True) (fun r => r = nI (ageT g))
    (fun n s _ => ⟨_, by
      show L_X0_ageWhenTall_8 z (nI e) (nI g) (n + 1) (nI (ageT g)) = some (nI (ageT g))
      rw [L_X0_ageWhenTall_8, if_neg (show ¬ (12 : Int32) ≤ nI (ageT g) from fun q => absurd ((nI_leI (a := 12) (by omega) (by omega)).mp q) (by omega)), pk_mul, if_pos (show (12 : Int32) ≤ nI (ageT g * g) from (nI_leI (a := 12) (by omega) (by have := Nat.mul_le_mul ht hg.2; omega)).mpr ((tall_iff hg _).mpr (Nat.le_refl _)))], rfl⟩)
    (fun n i s hi _ => Or.inr ⟨(), trivial, by
      show L_X0_ageWhenTall_8 z (nI e) (nI g) (n + 1) (nI i) = L_X0_ageWhenTall_8 z (nI e) (nI g) n (nI (i + 1))
      have hm : ¬ 12 ≤ i * g := fun q => absurd ((tall_iff hg i).mp q) (by omega)
      rw [L_X0_ageWhenTall_8, if_neg (show ¬ (12 : Int32) ≤ nI i from fun q => absurd ((nI_leI (a := 12) (by omega) (by omega)).mp q) (by omega)), pk_mul, if_neg (show ¬ (12 : Int32) ≤ nI (i * g) from fun q => hm ((nI_leI (a := 12) (by omega) (by omega)).mp q))]
      simp only [nm_s, nI_1]⟩) 3000 0 () (by omega) (by omega) trivial
  unfold f_X0_ageWhenTall
  rw [pc_growth ok hs hG he, hgr]
  simp only [Option.bind_some, nm_s]
  rw [show (L_X0_ageWhenTall_8 z (nI e) (nI g) 3000 0) = some r from hr]
  simp only [Option.bind_some]
  rw [hp]
theorem imax_sub {a b : Nat} (ha : a < 2 ^ 30) (hb : b < 2 ^ 30) : imax 0 (nI a - nI b) = nI (a - b) := by
  rcases Nat.lt_or_ge a b with h | h
  · unfold imax
    rw [if_neg (Int32.not_lt.mpr (Int32.le_of_lt (pk_sneg hb h))), show a - b = 0 by omega]
    rfl
  · rw [pk_sub h, show (0 : Int32) = nI 0 from rfl, imax_nI (by omega) (by omega), Nat.max_eq_right (by omega)]
theorem sim_14 : SM_14 Rel := by
  intro zX zR zRG zRS zG zS zP zQ zN zI zJ zT zM a1 hR
  have hR0 := hR
  obtain ⟨W, H, ok, ⟨so, pa, hso, hGC, hGM⟩, ⟨hd, ag, ga, ow, yr, hSK, hSC, hSM⟩, hP, hI, hN, hT, hf, hs, hs0⟩ := hR
  have hgn := geo_n ok
  suffices hx : ∃ v, f_X6_tallIn zX zG zS a1 = some v ∧ f_X7_tallIn zM a1 = some v by
    obtain ⟨v, e1, e2⟩ := hx
    unfold sp_14
    rw [e1, e2]
    simp only [Option.bind_some, if_true]
    exact ⟨_, rfl, hR0⟩
  unfold f_X6_tallIn f_X7_tallIn
  rw [pc_hasEdge ok hGC, pm_isEdge ok hGM]
  simp only [Option.bind_some, if_one, nm_s]
  by_cases c : inR a1 (eN W H) = true
  · obtain ⟨e, he, rfl⟩ := (inR_nI (by omega)).mp c
    have hg := hGC.2.2.2.2 e he
    have hm := hGM.2.2 e he
    have hsc := hSC.2.1 e he
    have hsm := hSM.1 e he
    have hk := hSK.1 e
    have htg := ageT_le (gr_rng (W := W) (H := H) hso e)
    rw [if_pos c, if_pos c, ald_s _ _ (show e < 40 by omega) (by omega), hg.2.2, ald_s _ _ (show e < 40 by omega) (by omega), ald_s _ _ (show e < 40 by omega) (by omega), hm.2.2]
    cases hpa : pa e
    · rw [if_pos ((ES_test ok he).mpr (by rw [hGC.2.2.1 e he, hpa])), if_pos (show (if false = true then (1 : Int32) else 0) = 0 from rfl)]
      rw [ald_s _ _ (show e < 122 by omega) (by omega), hsm.1, show (40 : Int32) = nI 40 from rfl, nI_add, ald_s _ _ (show 40 + e < 122 by omega) (by omega), pc_ageTall ok hso hGC he]
      obtain ⟨A, hA, w1, w2⟩ : ∃ A : Nat, A ≤ 99 ∧ (if (lg_cmp ((zS.1 0) &&& lshl 1 (nI (ePl W H e))) 0) = 0 then (some (0 : Int32)) else (some (zS.2.2 e : Int32))) = some (nI A) ∧ (if (0 : Int32) ≤ (if hd e = 0 then -1 else nI (hd e - 1)) then (some (zM.2 8 (40 + e) : Int32)) else (some (0 : Int32))) = some (nI A) := by
        by_cases q : hd e = 0
        · refine ⟨0, by omega, ?_, ?_⟩
          · rw [if_pos ((ES_test ok he).mpr (by rw [hsc.1]; simp [q]))]; rfl
          · rw [if_pos q]; rfl
        · refine ⟨ag e, hk.2.1, ?_, ?_⟩
          · rw [if_neg (fun z => by rw [ES_test ok he, hsc.1] at z; simp [q] at z), hsc.2.2.2 q]
          · rw [if_neg q, if_pos (nI_pos' (by omega)), hsm.2.1 q]
      rw [w1, w2]
      simp only [Option.bind_some]
      rw [imax_sub (by omega) (by omega)]
      obtain ⟨r, hr, hp⟩ := up_loop (σ := Unit) (fun n i _ => L_X7_tallIn_47 zM (nI e) (nI A) n i) (ageT (gr W H so e) - A) (fun _ _ => True) (fun r => r = nI (ageT (gr W H so e) - A))
        (fun n s _ => ⟨_, by
          show L_X7_tallIn_47 zM (nI e) (nI A) (n + 1) (nI (ageT (gr W H so e) - A)) = some (nI (ageT (gr W H so e) - A))
          rw [L_X7_tallIn_47, nI_add, pm_height ok hso hGM he (by omega)]
          simp only [Option.bind_some]
          rw [if_pos (show (12 : Int32) ≤ nI _ from (nI_leI (a := 12) (by omega) (by unfold hgt; omega)).mpr ((hgt_iff hso e _).mpr (by omega)))], rfl⟩)
        (fun n i s hi _ => Or.inr ⟨(), trivial, by
          show L_X7_tallIn_47 zM (nI e) (nI A) (n + 1) (nI i) = L_X7_tallIn_47 zM (nI e) (nI A) n (nI (i + 1))
          rw [L_X7_tallIn_47, nI_add, pm_height ok hso hGM he (by omega)]
          simp only [Option.bind_some]
          rw [if_neg (show ¬ (12 : Int32) ≤ nI _ from fun q => absurd ((hgt_iff hso e _).mp ((nI_leI (a := 12) (by omega) (by unfold hgt; omega)).mp q)) (by omega))]
          simp only [nm_s, nI_1]⟩) 3000 0 () (by omega) (by omega) trivial
      rw [show (L_X7_tallIn_47 zM (nI e) (nI A) 3000 0) = some r from hr]
      simp only [Option.bind_some]
      rw [hp]
      exact ⟨_, rfl, rfl⟩
    · rw [if_neg (fun z => by rw [ES_test ok he, hGC.2.2.1 e he, hpa] at z; cases z), if_neg (show ¬ (if true = true then (1 : Int32) else 0) = 0 by decide)]
      exact ⟨_, rfl, rfl⟩
  · rw [if_neg c, if_neg c]
    exact ⟨_, rfl, rfl⟩

/-! ===== parish ===== -/
theorem take_read {W H : Nat} {so : Nat → Nat} {pa : Nat → Bool} {hd ag : Nat → Nat} {ow : Int32} {z : MS} (ok : okB W H = true) (h : RDm W H so pa hd ag ow z) :
    ∃ y, f_X7_takeRead z = some y ∧ frm [0, 1, 2, 3] [4, 5, 6, 7, 8] z y ∧ GM W H so pa y ∧ SM W H hd ag (fun _ => false) ow 0 (y.2 8) := by
  have hgn := geo_n ok
  obtain ⟨h1, h2, h3, h4, h5⟩ := h
  have hf0 : frm [0, 1, 2, 3] [4, 5, 6, 7, 8] z (upd (upd (upd (upd z.1 0 (nI W)) 1 (nI H)) 2 (nI W * nI H)) 3 0, z.2) := frm_1 (z := (upd (upd (upd z.1 0 (nI W)) 1 (nI H)) 2 (nI W * nI H), z.2)) (frm_1 (z := (upd (upd z.1 0 (nI W)) 1 (nI H), z.2)) (frm_1 (z := (upd z.1 0 (nI W), z.2)) (frm_1 (frm_refl _ _ _) (by decide) _) (by decide) _) (by decide) _) (by decide) _
  obtain ⟨v1, z1, a1, a2, a3⟩ := find_7 (z0 := (upd (upd (upd (upd z.1 0 (nI W)) 1 (nI H)) 2 (nI W * nI H)) 3 0, z.2)) ok rfl (show nI W * nI H = _ from pk_mul W H) rfl
  obtain ⟨v2, z2, b1, b2, b3⟩ := find_70 (z0 := z1) ok (a2.1 0 (by decide)) ((a2.1 2 (by decide)).trans (pk_mul W H)) a3
  obtain ⟨v3, r3, c1, c2⟩ := tr_39 (z := z2)
  have frE2 : frm [0, 1, 2, 3] [4, 5, 6, 7, 8] z z2 := frm_tr hf0 (frm_mono (frm_tr a2 b2) (fun k hk => by simp at hk; simp [hk]) (fun k hk => by simp at hk; rcases hk with hk | hk <;> simp [hk]))
  have fr3 : frm [0, 1, 2, 3] [4, 5, 6, 7, 8] z (z2.1, va_up z2.2 4 r3) := frm_2 frE2 (by decide) _
  obtain ⟨v4, z4, d1, d2, d3⟩ := tr_65 (z := (z2.1, va_up z2.2 4 r3)) (pa := pa) (fun e he => by
    rw [show ((z2.1, va_up z2.2 4 r3) : MS).2 19 = z.2 19 from fr3.2 19 (by decide)]
    exact (h4 e he).1)
  have fr4 : frm [0, 1, 2, 3] [4, 5, 6, 7, 8] z z4 := frm_tr fr3 (frm_mono d2 (fun k hk => by cases hk) (fun k hk => by simp at hk; rcases hk with hk | hk <;> simp [hk]))
  refine ⟨(z4.1, va_up z4.2 8 (upd (upd (z4.2 8) 120 ow) 121 0)), ?_, frm_2 fr4 (by decide) _, ?_, ?_⟩
  · have hal0 : ∀ {β : Type} (g : Int32 → Option β), ald 3 (z.2 16) (0 : Int32) g = g (nI W) := fun g => by rw [show (0 : Int32) = nI 0 from rfl, ald_s _ _ (show 0 < 3 by omega) (by omega), h1]
    have hal1 : ∀ {β : Type} (g : Int32 → Option β), ald 3 (((upd z.1 0 (nI W), z.2) : MS).2 16) (1 : Int32) g = g (nI H) := fun g => by rw [show (1 : Int32) = nI 1 from rfl, ald_s _ _ (show 1 < 3 by omega) (by omega)]; exact congrArg g h2
    have e0 : f_X7_takeRead z = ((((L_X7_findEdges_7 3000 0 (upd (upd (upd (upd z.1 0 (nI W)) 1 (nI H)) 2 (nI W * nI H)) 3 0, z.2)).bind fun q_44 => (L_X7_findEdges_70 3000 0 q_44.2).bind fun q_43 => some q_43.2)).bind fun zM_9 => (L_X7_takeRead_39 3000 0 zM_9).bind fun q_59 => (L_X7_takeRead_65 3000 0 q_59.2).bind fun q_58 => ast 122 (120 : Int32) (ast 122 (121 : Int32) (some ((q_58.2.1, va_up (va_up q_58.2.2 8 (upd (q_58.2.2 8) (Int32.toNatClampNeg 120) (q_58.2.1 18))) 8 (upd (va_up q_58.2.2 8 (upd (q_58.2.2 8) (Int32.toNatClampNeg 120) (q_58.2.1 18)) 8) (Int32.toNatClampNeg 121) 0)) : MS)))) := by
      unfold f_X7_takeRead f_X7_findEdges
      rw [hal0, nmq, hal1]
      simp only [nmq]
      rfl
    rw [e0, a1, bdS, b1, bdS, bdS, c1, bdS, d1, bdS, show (120 : Int32) = nI 120 from rfl, show (121 : Int32) = nI 121 from rfl, ast_s _ (show 120 < 122 by omega) (by omega), nI_clamp (show 120 < 2 ^ 31 by omega), ast_s _ (show 121 < 122 by omega) (by omega), nI_clamp (show 121 < 2 ^ 31 by omega), show z4.1 18 = ow from (fr4.1 18 (by decide)).trans h5]
    simp only [zu_up, zu_eq]
  · have y0 : z4.1 0 = nI W := by
      rw [d2.1 0 (by decide)]
      exact ((b2.1 0 (by decide)).trans (a2.1 0 (by decide)))
    have y1 : z4.1 1 = nI H := by
      rw [d2.1 1 (by decide)]
      exact ((b2.1 1 (by decide)).trans (a2.1 1 (by decide)))
    have y2 : z4.1 2 = nI (W * H) := by
      rw [d2.1 2 (by decide)]
      exact ((b2.1 2 (by decide)).trans ((a2.1 2 (by decide)).trans (pk_mul W H)))
    have y3 : z4.1 3 = nI (eN W H) := by
      rw [d2.1 3 (by decide)]
      exact b3.1
    refine ⟨⟨y0, y1, y2, y3⟩, fun f hf => ?_, fun e he => ⟨?_, ?_, ?_⟩⟩
    · show z4.2 4 f = _
      rw [d2.2 4 (by decide)]
      show r3 f = _
      rw [c2 f (by omega), frE2.2 17 (by decide)]
      exact h3 f hf
    · show z4.2 5 e = _
      rw [d2.2 5 (by decide)]
      exact (b3.2 e he).1
    · show z4.2 6 e = _
      rw [d2.2 6 (by decide)]
      exact (b3.2 e he).2
    · exact (d3 e (by omega)).1
  · show SM W H hd ag (fun _ => false) ow 0 (va_up z4.2 8 (upd (upd (z4.2 8) 120 ow) 121 0) 8)
    rw [zu_eq]
    refine ⟨fun e he => ⟨?_, fun q => ?_, ?_⟩, ?_, ?_⟩
    · rw [ud_ne _ _ (by omega), ud_ne _ _ (by omega), (d3 e (by omega)).2.1, show ((z2.1, va_up z2.2 4 r3) : MS).2 20 = z.2 20 from fr3.2 20 (by decide)]
      exact (h4 e (by omega)).2.1
    · rw [ud_ne _ _ (by omega), ud_ne _ _ (by omega), (d3 e (by omega)).2.2.1, show ((z2.1, va_up z2.2 4 r3) : MS).2 21 = z.2 21 from fr3.2 21 (by decide)]
      exact (h4 e (by omega)).2.2 q
    · rw [ud_ne _ _ (by omega), ud_ne _ _ (by omega), (d3 e (by omega)).2.2.2]
      rfl
    · rw [ud_ne _ _ (by omega), ud_eq]
    · rw [ud_eq]; rfl
theorem copy_g {W H : Nat} {so : Nat → Nat} {pa : Nat → Bool} {zR : GS} (zG : GS) (ok : okB W H = true) (h : GC W H so pa zR) : ∃ z, f_X0_copyFrom zG zR = some z ∧ GC W H so pa z := by
  have hgn := geo_n ok
  refine ⟨_, rfl, ⟨h.1.1, h.1.2.1, h.1.2.2.1, h.1.2.2.2⟩, ⟨h.2.1.1, h.2.1.2.1, h.2.1.2.2.1, h.2.1.2.2.2⟩, h.2.2.1, fun f hf => ?_, fun e he => ⟨?_, ?_, ?_⟩⟩
  · show va_cpy (zR.2.2.1 9) (zG.2.2.1 9) 0 0 25 f = _
    rw [sb_cpy0 (show f < 25 by omega)]
    exact h.2.2.2.1 f hf
  · show va_cpy (zR.2.2.1 10) (zG.2.2.1 10) 0 0 40 e = _
    rw [sb_cpy0 (show e < 40 by omega)]
    exact (h.2.2.2.2 e he).1
  · show va_cpy (zR.2.2.1 11) (zG.2.2.1 11) 0 0 40 e = _
    rw [sb_cpy0 (show e < 40 by omega)]
    exact (h.2.2.2.2 e he).2.1
  · show va_cpy zR.2.2.2 zG.2.2.2 0 0 40 e = _
    rw [pk_cpy_in (Nat.zero_le e) (show e < 0 + 40 by omega), Nat.sub_zero, Nat.zero_add]
    exact (h.2.2.2.2 e he).2.2
theorem kept_0 (a1 : XS) (a2 : RS) (a3 : GS) (a4 : SS) (a5 : GS) (a6 : SS) (a7 : PS) (a8 : NS) (zI : IS) : ∃ v zI', L_X6_parish_91 a1 a2 a3 a4 a5 a6 a7 a8 3000 0 zI = some (v, zI') ∧ ∀ i, i < 2 → zI' i 2 = 0 := by
  obtain ⟨q, hq, p⟩ := up_loop (σ := IS) (fun n i s => L_X6_parish_91 a1 a2 a3 a4 a5 a6 a7 a8 n i s) 2 (fun k s => ∀ i, i < k → s i 2 = 0) (fun q => ∀ i, i < 2 → q.2 i 2 = 0)
    (fun n s hI => ⟨(nI 2, s), by
      show L_X6_parish_91 a1 a2 a3 a4 a5 a6 a7 a8 (n + 1) (nI 2) s = _
      rw [L_X6_parish_91, if_pos (show (2 : Int32) ≤ nI 2 by decide)], hI⟩)
    (fun n k s hk hI => by
      right
      refine ⟨va_up s k (upd (s k) 2 0), fun i hi => ?_, ?_⟩
      · by_cases c : i = k
        · rw [c, zu_eq, ud_eq]
        · rw [zu_ne _ _ c]; exact hI i (by omega)
      · show L_X6_parish_91 a1 a2 a3 a4 a5 a6 a7 a8 (n + 1) (nI k) s = L_X6_parish_91 a1 a2 a3 a4 a5 a6 a7 a8 n (nI (k + 1)) _
        rw [L_X6_parish_91, if_neg (show ¬ (2 : Int32) ≤ nI k from fun q => absurd ((nI_leI (a := 2) (by omega) (by omega)).mp q) (by omega))]
        simp only [nmq, nI_1]
        rcases (show k = 0 ∨ k = 1 by omega) with rfl | rfl
        · rw [if_pos (show nI 0 = 0 from rfl)]
        · rw [if_neg (show ¬ nI 1 = 0 by decide), if_pos (show nI 1 = 1 from rfl)]) 3000 0 zI (by omega) (by omega) (fun i hi => absurd hi (Nat.not_lt_zero i))
  exact ⟨q.1, q.2, hq, p⟩
theorem RD_start {zRG : GS} {zRS : SS} {z : MS} (h16 : ∀ k, k < 3 → z.2 16 k = 0) (h19 : ∀ e, e < 40 → z.2 19 e = 0 ∧ z.2 20 e = -1) (h18 : z.1 18 = 0) : ∃ a b, f_X0_clear zRG = some a ∧ f_X5_clear zRS = some b ∧ RD a b z := by
  refine ⟨_, _, rfl, rfl, 0, 0, fun _ => 0, fun _ => false, fun _ => 0, fun _ => 0, 0, by decide, fun _ => Nat.zero_le _, ⟨⟨rfl, rfl, rfl, rfl⟩, ⟨fun i => ?_, fun i => ?_, fun i => ?_, fun i => ?_⟩, fun e he => absurd he (Nat.not_lt_zero e), fun f hf => absurd hf (by omega), fun e he => absurd he (Nat.not_lt_zero e)⟩, ⟨fun e => ⟨Nat.zero_le _, Nat.zero_le _, fun _ => rfl⟩, fun i hi => (by rw [b_0] at hi; cases hi), rfl⟩, ⟨fun i hi => ?_, fun e he => absurd he (Nat.not_lt_zero e), rfl, rfl⟩, ⟨h16 0 (by omega), h16 1 (by omega), fun f hf => absurd hf (by omega), fun e he => ⟨(h19 e he).1, (h19 e he).2, fun q => absurd rfl q⟩, h18⟩, fun _ => ⟨fun e => ⟨rfl, rfl⟩, rfl, rfl, rfl⟩⟩
  · show bt 0 i = _
    rw [b_0]; simp
  · show bt 0 i = _
    rw [b_0]; simp
  · show bt 0 i = _
    rw [b_0]; simp
  · show bt 0 i = _
    rw [b_0]; simp
  · have hi' : bl 0 i = true := hi
    rw [l_0] at hi'
    cases hi'
theorem sim_1 : SM_1 Rel := by
  intro zX zR zRG zRS zG zS zP zQ zN zI zJ zT zM hR
  obtain ⟨W0, H0, ok0, ⟨so0, pa0, hso0, hGC0, hGM0⟩, hS0, hP0, hI0, hN0, ⟨n, hn, t1, t2, t3⟩, hf0, hs, hs0⟩ := hR
  obtain ⟨t, ht⟩ : ∃ t : Nat → Nat, ∀ k, k < n → zR.2 k = nI (t k) ∧ t k ≤ 255 := by
    refine ⟨fun k => if h : k < n then (t3 k h).2.choose else 0, fun k hk => ?_⟩
    simp only [dif_pos hk]
    exact ⟨(t3 k hk).2.choose_spec.2, (t3 k hk).2.choose_spec.1⟩
  -- the reference, up to its text
  obtain ⟨v1, r1, a1, a2⟩ := pa_12 (z := (upd (upd zM.1 12 (-1)) 13 0, zM.2))
  obtain ⟨v2, z2, b1, b2, b3⟩ := pa_37 (z := (upd (upd (upd zM.1 12 (-1)) 13 0) 18 0, va_up zM.2 16 r1))
  have fr2 : frm [12, 13, 18] [16, 19, 20, 21] zM z2 := frm_tr (z1 := (upd (upd (upd zM.1 12 (-1)) 13 0) 18 0, va_up zM.2 16 r1)) (frm_1 (z := (upd (upd zM.1 12 (-1)) 13 0, va_up zM.2 16 r1)) (frm_2 (z := (upd (upd zM.1 12 (-1)) 13 0, zM.2)) (frm_1 (z := (upd zM.1 12 (-1), zM.2)) (frm_1 (frm_refl _ _ _) (by decide) _) (by decide) _) (by decide) _) (by decide) _) (frm_mono b2 (fun k hk => by cases hk) (fun k hk => by simp at hk; rcases hk with hk | hk | hk <;> simp [hk]))
  have hm2 : stM n t 0 z2 := by
    refine ⟨⟨by rw [fr2.1 11 (by decide)]; exact t2, hn, fun k hk => ?_, b2.1 13 (by decide), Nat.zero_le n⟩, b2.1 12 (by decide)⟩
    rw [fr2.2 10 (by decide), ← (t3 k hk).1]
    exact ht k hk
  obtain ⟨zA, zB, c1, c2, c3⟩ := RD_start (zRG := zRG) (zRS := zRS) (z := z2) (fun k hk => by rw [b2.2 16 (by decide)]; exact a2 k hk) b3 (b2.1 18 (by decide))
  -- the class, up to its text
  have hc0 : stC n t 0 (upd (upd (upd zR.1 4 0) 6 0) 7 (-1), zR.2) := ⟨⟨t1, hn, ht, rfl, Nat.zero_le n⟩, rfl, rfl⟩
  obtain ⟨q, s1, s2⟩ := skp_c hc0.1
  have hc1 : stC n t q (upd (upd (upd (upd zR.1 4 0) 6 0) 7 (-1)) 4 (nI q), zR.2) := ⟨⟨t1, hn, ht, rfl, s1.2.1⟩, rfl, rfl⟩
  obtain ⟨v, yR, yRG, yRS, r, yM, e1, e2, e3, e4, e5⟩ := text_both 3000 0 0 q _ zA zB z2 (by omega) (Nat.zero_le _) s1 hc1 hm2 c3
  have hcr : f_X4_readText zR zRG zRS = some (yR, yRG, yRS) := by
    unfold f_X4_readText
    rw [c1, bdS, c2, bdS, nmq, nmq, nmq, show f_X4_skipBlanks _ = some _ from s2, bdS, nmq, show (L_X4_readText_35 3000 0 (upd (upd (upd (upd zR.1 4 0) 6 0) 7 (-1)) 4 (nI q), zR.2) zA zB) = some (v, yR, yRG, yRS) from e1, bdS]
    rfl
  have frM : frm [12, 13, 14, 15, 18] [16, 17, 19, 20, 21] zM yM := frm_tr (frm_mono fr2 (fun k hk => by simp at hk; rcases hk with hk | hk | hk <;> simp [hk]) (fun k hk => by simp at hk; rcases hk with hk | hk | hk | hk <;> simp [hk])) e4
  have frF : frm [11, 12, 13, 14, 15, 18] [16, 17, 19, 20, 21] zM (upd yM.1 11 0, yM.2) := frm_1 (frm_mono frM (fun k hk => by simp at hk; rcases hk with hk | hk | hk | hk | hk <;> simp [hk]) (fun k hk => hk)) (by decide) _
  have hmr : f_X7_parish zM = (if r ≤ 0 then ((f_X7_takeRead (upd yM.1 11 0, yM.2)).bind fun zM_60 => nm ((upd zM_60.1 29 0, zM_60.2) : MS) fun zM_62 => nm ((upd zM_62.1 33 0, zM_62.2) : MS) fun zM_63 => nm ((upd zM_63.1 22 0, zM_63.2) : MS) fun zM_64 => ast 2 (0 : Int32) <| nm ((zM_64.1, va_up zM_64.2 37 (upd (zM_64.2 37) (Int32.toNatClampNeg 0) (vp_nar .boolean 0))) : MS) fun zM_66 => ast 2 (1 : Int32) <| nm ((zM_66.1, va_up zM_66.2 37 (upd (zM_66.2 37) (Int32.toNatClampNeg 1) (vp_nar .boolean 0))) : MS) fun zM_68 => some ((zM_68.1 2), zM_68)) else (some (((-10) - r), ((upd yM.1 11 0, yM.2) : MS)))) := by
    unfold f_X7_parish
    rw [nmq, nmq, nmq, a1, bdS, nmq, nmq, nmq, nmq, b1, bdS, nmq, nmq, nmq, show (L_X7_parish_72 3000 0 z2) = some (r, yM) from e2, bdS, nmq, nmq, nmq]
  suffices hx : ∃ u zX' yR' zG' zS' zP' zN' zI' zM', f_X6_parish zX zR zRG zRS zG zS zP zN zI = some (u, zX', yR', yRG, yRS, zG', zS', zP', zN', zI') ∧ f_X7_parish zM = some (u, zM') ∧ Rel (zX', yR', yRG, yRS, zG', zS', zP', zQ, zN', zI', zJ, zT, zM') by
    obtain ⟨u, zX', yR', zG', zS', zP', zN', zI', zM', k1, k2, k3⟩ := hx
    unfold sp_1
    rw [k1, k2]
    simp only [Option.bind_some, nm_s, if_true]
    exact ⟨_, rfl, k3⟩
  have hx9 : zM.1 9 = yM.1 9 := (frM.1 9 (by decide)).symm
  unfold f_X6_parish
  rw [hcr, bdS, nmq, nmq, nmq, nmq, nmq, nmq, hmr]
  rcases e5 with ⟨hr, g1, g2, g3, g4⟩ | hb
  · obtain ⟨W, H, so, pa, hd, ag, ow, ok, hso, hG, hK, hS, hm3, -⟩ := g4
    have hm4 : RDm W H so pa hd ag ow (upd yM.1 11 0, yM.2) := hm3
    obtain ⟨y, y1, y2, y3, y4⟩ := take_read ok hm4
    obtain ⟨zg, z1, z3⟩ := copy_g zG ok hG
    obtain ⟨vv, zI', k1, k2⟩ := kept_0 (upd zX 7 (yR.1 7)) (upd yR.1 3 0, yR.2) yRG yRS zg (cpS zS yRS) (upd zP 1 0) (upd (upd zN.1 0 0) 1 0, zN.2) zI
    obtain ⟨u, nx, -, hnx, -, -, p3, -⟩ := hP0
    refine ⟨nI (W * H), upd zX 7 (yR.1 7), (upd yR.1 3 0, yR.2), zg, cpS zS yRS, upd zP 1 0, (upd (upd zN.1 0 0) 1 0, zN.2), zI', (upd (upd (upd y.1 29 0) 33 0) 22 0, va_up y.2 37 (upd (upd (y.2 37) 0 0) 1 0)), ?_, ?_, W, H, ok, ⟨so, pa, hso, z3, GM_up y3 rfl rfl rfl rfl rfl rfl rfl rfl⟩, ⟨hd, ag, fun _ => false, ow, 0, hK, SC_cp ok hS, y4⟩, ⟨0, nx, by omega, hnx, rfl, rfl, p3, fun k hk => absurd hk (Nat.not_lt_zero k)⟩, fun i hi => Or.inl ⟨k2 i hi, ?_⟩, ⟨0, 0, by omega, by omega, rfl, rfl, rfl, rfl, fun k hk => absurd hk (Nat.not_lt_zero k), fun k hk => absurd hk (Nat.not_lt_zero k)⟩, ⟨0, by omega, rfl, ?_, fun k hk => absurd hk (Nat.not_lt_zero k)⟩, ?_, ?_, hs0⟩
    · rw [if_pos (show ((upd yR.1 3 0, yR.2) : RS).1 6 = 0 from g1), z1, bdS, copy_s, bdS]
      show ((L_X6_parish_91 (upd zX 7 (yR.1 7)) (upd yR.1 3 0, yR.2) yRG yRS zg (cpS zS yRS) (upd zP 1 0) (upd (upd zN.1 0 0) 1 0, zN.2) 3000 0 zI).bind fun q_36 => some ((zg.1 2), upd zX 7 (yR.1 7), (upd yR.1 3 0, yR.2), yRG, yRS, zg, cpS zS yRS, upd zP 1 0, (upd (upd zN.1 0 0) 1 0, zN.2), q_36.2)) = _
      rw [k1, bdS, z3.1.2.2.1]
    · rw [hr, if_pos (show (0 : Int32) ≤ 0 by decide), y1, bdS, nmq, nmq, nmq, show (0 : Int32) = nI 0 from rfl, show (1 : Int32) = nI 1 from rfl, ast_s _ (show 0 < 2 by omega) (by omega), nI_clamp (show 0 < 2 ^ 31 by omega), nmq, ast_s _ (show 1 < 2 by omega) (by omega), nI_clamp (show 1 < 2 ^ 31 by omega), nmq]
      simp only [zu_up, zu_eq]
      rw [show ((upd (upd (upd y.1 29 (nI 0)) 33 (nI 0)) 22 (nI 0)) 2) = nI (W * H) from y3.1.2.2.1]
      rfl
    · rcases (show i = 0 ∨ i = 1 by omega) with rfl | rfl
      · rfl
      · rfl
    · exact y2.1 11 (by decide)
    · show yR.1 7 = y.1 12
      rw [g2, y2.1 12 (by decide)]
      exact g3.symm
    · show zX 8 = y.1 9
      rw [y2.1 9 (by decide), hs]
      exact hx9
  · have h6 := bad_6 hb
    obtain ⟨k, q1, p1, k1, k2, k3, k4, k5, k6, k7⟩ := hb
    refine ⟨(-10) - nI k, upd zX 7 (yR.1 7), (upd yR.1 3 0, yR.2), zG, zS, zP, zN, zI, (upd yM.1 11 0, yM.2), ?_, ?_, W0, H0, ok0, ⟨so0, pa0, hso0, hGC0, GM_up hGM0 (frF.1 0 (by decide)) (frF.1 1 (by decide)) (frF.1 2 (by decide)) (frF.1 3 (by decide)) (frF.2 4 (by decide)) (frF.2 5 (by decide)) (frF.2 6 (by decide)) (frF.2 7 (by decide))⟩, ?_, ?_, ?_, ?_, ⟨0, by omega, rfl, rfl, fun k hk => absurd hk (Nat.not_lt_zero k)⟩, ?_, ?_, hs0⟩
    · rw [if_neg (show ¬ ((upd yR.1 3 0, yR.2) : RS).1 6 = 0 from h6.1), show ((upd yR.1 3 0, yR.2) : RS).1 6 = nI k from k5]
      rfl
    · rw [if_neg h6.2.2, k3]
    · rw [frF.2 8 (by decide)]; exact hS0
    · unfold RelP
      rw [frF.1 22 (by decide), frF.2 23 (by decide)]; exact hP0
    · unfold RelI
      rw [frF.2 37 (by decide), frF.2 36 (by decide)]; exact hI0
    · unfold RelN
      rw [frF.1 29 (by decide), frF.1 33 (by decide), frF.2 30 (by decide), frF.2 31 (by decide), frF.2 34 (by decide), frF.2 35 (by decide)]; exact hN0
    · show yR.1 7 = yM.1 12
      rw [k6, k7]
    · show zX 8 = yM.1 9
      rw [hs]; exact hx9
theorem rel0 : Rel wZ0 := by
  have hnow : ∀ n e, e < n → nowI n e = -1 := by
    intro n
    induction n with
    | zero => intro e he; omega
    | succ n ih =>
      intro e he
      show upd (nowI n) n (-1) e = -1
      by_cases c : e = n
      · rw [c, ud_eq]
      · rw [ud_ne _ _ c]; exact ih e (by omega)
  have hnow0 : ∀ n e, n ≤ e → nowI n e = 0 := by
    intro n
    induction n with
    | zero => intro e _; rfl
    | succ n ih =>
      intro e he
      show upd (nowI n) n (-1) e = 0
      rw [ud_ne _ _ (by omega)]; exact ih e (by omega)
  refine ⟨0, 0, by decide, ⟨fun _ => 0, fun _ => false, fun _ => Nat.zero_le _, ⟨⟨rfl, rfl, rfl, rfl⟩, ⟨fun i => ?_, fun i => ?_, fun i => ?_, fun i => ?_⟩, fun e he => absurd he (Nat.not_lt_zero e), fun f hf => absurd hf (by omega), fun e he => absurd he (Nat.not_lt_zero e)⟩, ⟨⟨rfl, rfl, rfl, rfl⟩, fun f hf => absurd hf (by omega), fun e he => absurd he (Nat.not_lt_zero e)⟩⟩, ⟨fun _ => 0, fun _ => 0, fun _ => false, 0, 0, ⟨fun e => ⟨Nat.zero_le _, Nat.zero_le _, fun _ => rfl⟩, fun i hi => (by rw [b_0] at hi; cases hi), rfl⟩, ⟨fun i hi => ?_, fun e he => absurd he (Nat.not_lt_zero e), rfl, rfl⟩, ⟨fun e he => absurd he (Nat.not_lt_zero e), ?_, ?_⟩⟩, ⟨0, 0, by omega, by omega, rfl, rfl, rfl, fun k hk => absurd hk (Nat.not_lt_zero k)⟩, fun i hi => Or.inl ⟨rfl, rfl⟩, ⟨0, 0, by omega, by omega, rfl, rfl, rfl, rfl, fun k hk => absurd hk (Nat.not_lt_zero k), fun k hk => absurd hk (Nat.not_lt_zero k)⟩, ⟨0, by omega, rfl, rfl, fun k hk => absurd hk (Nat.not_lt_zero k)⟩, rfl, rfl, by decide⟩
  · show bt 0 i = _
    rw [b_0]; simp
  · show bt 0 i = _
    rw [b_0]; simp
  · show bt 0 i = _
    rw [b_0]; simp
  · show bt 0 i = _
    rw [b_0]; simp
  · have hi' : bl 0 i = true := hi
    rw [l_0] at hi'
    cases hi'
  · show nowI 40 120 = 0
    exact hnow0 40 120 (by omega)
  · show nowI 40 121 = nI 0
    exact hnow0 40 121 (by omega)
theorem sim_all : SMs Rel := ⟨sim_0, sim_1, sim_2, sim_3, sim_4, sim_5, sim_6, sim_7, sim_8, sim_9, sim_10, sim_11, sim_12, sim_13, sim_14, sim_15, sim_16, sim_17, sim_18, sim_19, sim_20, sim_21, sim_22, sim_23, sim_24, sim_25, sim_26⟩

/-! ===== the ground's clause; a clause's end; a clause ===== -/
theorem into_s {z y : MS} {r lo hi : Int32} {k : Nat} (hk : k < 3) (h : f_X7_takeNumber z lo hi = some (r, y)) : f_X7_into z (nI k) lo hi = some (r, ((y.1, va_up y.2 16 (upd (y.2 16) k (y.1 14))) : MS)) := by
  unfold f_X7_into
  rw [h, bdS, nmq, nmq, nmq, ast_s _ hk (by omega), nI_clamp (by omega)]
  rfl
theorem tg_fill {z : MS} (t : Int32) : ∃ v r, L_X7_takeGround_55 t 3000 0 z = some (v, ((z.1, va_up z.2 17 r) : MS)) ∧ ∀ k, k < 25 → r k = z.2 16 2 := by
  obtain ⟨q, hq, r, e, hr⟩ := up_loop (σ := MS) (fun n i s => L_X7_takeGround_55 t n i s) 25 (fun k s => ∃ r, s = (z.1, va_up z.2 17 r) ∧ ∀ j, j < k → r j = z.2 16 2) (fun q => ∃ r, q.2 = (z.1, va_up z.2 17 r) ∧ ∀ j, j < 25 → r j = z.2 16 2)
    (fun n s hI => ⟨(nI 25, s), by
      show L_X7_takeGround_55 t (n + 1) (nI 25) s = _
      rw [L_X7_takeGround_55, if_pos (show (25 : Int32) ≤ nI 25 by decide)], hI⟩)
    (fun n k s hk hI => by
      obtain ⟨r, e, hr⟩ := hI
      right
      refine ⟨(z.1, va_up z.2 17 (upd r k (z.2 16 2))), ⟨_, rfl, fun j hj => ?_⟩, ?_⟩
      · by_cases c : j = k
        · rw [c, ud_eq]
        · rw [ud_ne _ _ c]; exact hr j (by omega)
      · show L_X7_takeGround_55 t (n + 1) (nI k) s = L_X7_takeGround_55 t n (nI (k + 1)) _
        rw [e, L_X7_takeGround_55, if_neg (show ¬ (25 : Int32) ≤ nI k from fun q => absurd ((nI_leI (a := 25) (by omega) (by omega)).mp q) (by omega)), show (2 : Int32) = nI 2 from rfl, ald_s _ _ (show 2 < 3 by omega) (by omega), ast_s _ hk (by omega), nI_clamp (by omega)]
        simp only [nmq, nI_1]
        rw [zu_up, zu_eq, zu_ne _ _ (show ¬ 16 = 17 by decide)]) 3000 0 z (by omega) (by omega) ⟨z.2 17, by rw [zu_self], fun j hj => absurd hj (Nat.not_lt_zero j)⟩
  exact ⟨q.1, r, by rw [show (L_X7_takeGround_55 t 3000 0 z) = some q from hq, ← e], hr⟩
theorem okB_of {W H : Nat} (h1 : 2 ≤ W) (h2 : W ≤ 5) (h3 : 2 ≤ H) (h4 : H ≤ 5) : okB W H = true := by
  unfold okB
  rw [decide_eq_true h1, decide_eq_true h2, decide_eq_true h3, decide_eq_true h4, Bool.or_eq_true]
  exact Or.inr rfl
theorem okB_0 {W H : Nat} (ok : okB W H = true) (h : W * H = 0) : W = 0 ∧ H = 0 := by
  unfold okB at ok
  simp only [Bool.or_eq_true, Bool.and_eq_true, decide_eq_true_eq] at ok
  rcases ok with q | q
  · exact q
  · have h1 : 2 * 2 ≤ W * H := Nat.mul_le_mul q.1.1.1 q.1.2
    omega
theorem ground_both {N : Nat} {t : Nat → Nat} {p : Nat} {zR : RS} {zRG : GS} {zRS : SS} {zM : MS} {W H : Nat} {so : Nat → Nat} {pa : Nat → Bool} {hd ag : Nat → Nat} {ow : Int32} (pl : Int32) (hc : stC N t p zR) (hm : stM N t p zM) (hr : RDx W H so pa hd ag ow zRG zRS zM) (hW : W * H = 0) :
    ∃ zR' zRG' r zM', f_X4_readGround zR zRG pl = some (zR', zRG') ∧ f_X7_takeGround zM = some (r, zM') ∧ frR [4, 5, 6, 7] zR zR' ∧ frm [12, 13, 14, 15, 18] [16, 17, 19, 20, 21] zM zM' ∧ outC N t p zRG' zRS zR' zM' r := by
  obtain ⟨ok, hso, hG, hK, hS, hm2, hW0⟩ := hr
  obtain ⟨e1, e2⟩ := okB_0 ok hW
  subst e1; subst e2
  obtain ⟨h00, h01, h02, h03⟩ := hW0 rfl
  unfold f_X4_readGround f_X7_takeGround
  rw [hG.1.2.2.1, if_pos (show nI (0 * 0) = 0 from rfl), bdS]
  rcases num_both (lo := 2) (hi := 5) hc hm (by omega) (by omega) with ⟨v, q1, q2, zR', zM', b1, b2, b3, b4, b5, b6, b7, b8, b9, b10, b11, b12⟩ | ⟨k, x, zR', zM', b1, b2, b3, b4, b5, b6, b7⟩
  · rw [show f_X4_readNumber zR (2 : Int32) (5 : Int32) = some (nI v, zR') from b4, bdS, nmq, nmq, show f_X7_into zM (0 : Int32) (2 : Int32) (5 : Int32) = _ from into_s (k := 0) (by omega) b5, bdS, nmq, nmq, if_pos (show (0 : Int32) ≤ 0 by decide), b11]
    have hm3 : stM N t q2 (zM'.1, va_up zM'.2 16 (upd (zM'.2 16) 0 (nI v))) := ⟨⟨b9.1.1, b9.1.2.1, b9.1.2.2.1, b9.1.2.2.2.1, b9.1.2.2.2.2⟩, b9.2⟩
    have f3 : frm [12, 13, 14, 15, 18] [16, 17, 19, 20, 21] zM (zM'.1, va_up zM'.2 16 (upd (zM'.2 16) 0 (nI v))) := frm_2 (A_sub (a := []) b7) (by decide) _
    rcases num_both (lo := 2) (hi := 5) b8 hm3 (by omega) (by omega) with ⟨w, r1, r2, yR, yM, c1, c2, c3, c4, c5, c6, c7, c8, c9, c10, c11, c12⟩ | ⟨k, x, yR, yM, c1, c2, c3, c4, c5, c6, c7⟩
    · rw [show f_X4_readNumber zR' (2 : Int32) (5 : Int32) = some (nI w, yR) from c4, bdS, nmq, nmq, show f_X7_into (zM'.1, va_up zM'.2 16 (upd (zM'.2 16) 0 (nI v))) (1 : Int32) (2 : Int32) (5 : Int32) = _ from into_s (k := 1) (by omega) c5, bdS, nmq, nmq, bdS, nmq, nmq, if_pos (show (0 : Int32) ≤ 0 by decide), c11]
      have hm4 : stM N t r2 (yM.1, va_up yM.2 16 (upd (yM.2 16) 1 (nI w))) := ⟨⟨c9.1.1, c9.1.2.1, c9.1.2.2.1, c9.1.2.2.2.1, c9.1.2.2.2.2⟩, c9.2⟩
      have f4 : frm [12, 13, 14, 15, 18] [16, 17, 19, 20, 21] zM (yM.1, va_up yM.2 16 (upd (yM.2 16) 1 (nI w))) := frm_2 (frm_tr f3 (A_sub (a := []) c7)) (by decide) _
      rcases num_both (lo := 0) (hi := 9) c8 hm4 (by omega) (by omega) with ⟨S, s1, s2, xR, xM, d1, d2, d3, d4, d5, d6, d7, d8, d9, d10, d11, d12⟩ | ⟨k, x, xR, xM, d1, d2, d3, d4, d5, d6, d7⟩
      · obtain ⟨zg, g1, g2⟩ := lay_out (S := S) zRG (okB_of b1 b2 c1 c2)
        obtain ⟨vv, rr, l1, l2⟩ := tg_fill (z := (xM.1, va_up xM.2 16 (upd (xM.2 16) 2 (nI S)))) 0
        rw [show f_X4_readNumber yR (0 : Int32) (9 : Int32) = some (nI S, xR) from d4, bdS, nmq, nmq, if_pos d8.2.1, g1, bdS, show f_X7_into (yM.1, va_up yM.2 16 (upd (yM.2 16) 1 (nI w))) (2 : Int32) (0 : Int32) (9 : Int32) = _ from into_s (k := 2) (by omega) d5, bdS, nmq, nmq, bdS, nmq, nmq, nmq, d11, l1, bdS]
        have f5 : frm [12, 13, 14, 15, 18] [16, 17, 19, 20, 21] zM (xM.1, va_up xM.2 16 (upd (xM.2 16) 2 (nI S))) := frm_2 (frm_tr f4 (A_sub (a := []) d7)) (by decide) _
        have x16 : xM.2 16 = upd (yM.2 16) 1 (nI w) := d7.2 16 (by decide)
        have y16 : yM.2 16 = upd (zM'.2 16) 0 (nI v) := c7.2 16 (by decide)
        have f7 : frm [12, 13, 14, 15, 18] [16] zM xM := by
          refine ⟨f5.1, fun j hj => ?_⟩
          have h1 := d7.2 j (by simp)
          have h2 := c7.2 j (by simp)
          have h3 := b7.2 j (by simp)
          have hj16 : ¬ j = 16 := fun q => hj (by simp [q])
          rw [h1]
          show va_up yM.2 16 _ j = _
          rw [zu_ne _ _ hj16, h2]
          show va_up zM'.2 16 _ j = _
          rw [zu_ne _ _ hj16, h3]
        have hpa : pa = fun _ => false := funext (fun e => (h00 e).1)
        refine ⟨_, _, _, _, rfl, rfl, frR_tr b6 (frR_tr c6 d6), frm_2 f5 (by decide) _, Or.inl ⟨rfl, s2, by omega, d8, ⟨⟨d9.1.1, d9.1.2.1, d9.1.2.2.1, d9.1.2.2.2.1, d9.1.2.2.2.2⟩, d9.2⟩, v, w, fun _ => S, pa, hd, ag, ow, okB_of b1 b2 c1 c2, fun _ => d2, by rw [hpa]; exact g2, ⟨hK.1, fun i hi => (by rw [h01, b_0] at hi; cases hi), rfl⟩, ⟨fun i hi => ?_, fun e he => ⟨?_, ?_, ?_, fun q => absurd (h00 e).2 q⟩, hS.2.2.1, hS.2.2.2⟩, ⟨?_, ?_, fun f hf => ?_, fun e he => ?_, ?_⟩, fun q => by omega⟩⟩
        · obtain ⟨e, he, -⟩ := hS.1 i hi
          exact absurd he (Nat.not_lt_zero e)
        · rw [(h00 e).2]
          cases q : bl (zRS.1 0) (ePl v w e)
          · rfl
          · obtain ⟨e, he, -⟩ := hS.1 _ q
            exact absurd he (Nat.not_lt_zero e)
        · rw [h02, l_0, (h00 e).2]; rfl
        · rw [h03, l_0]
        · show upd (xM.2 16) 2 (nI S) 0 = nI v
          rw [ud_ne _ _ (by decide), x16, ud_ne _ _ (by decide), y16, ud_eq]
        · show upd (xM.2 16) 2 (nI S) 1 = nI w
          rw [ud_ne _ _ (by decide), x16, ud_eq]
        · have hgn := geo_n (okB_of b1 b2 c1 c2)
          exact (l2 f (by omega)).trans rfl
        · show xM.2 19 e = _ ∧ xM.2 20 e = _ ∧ (_ → xM.2 21 e = _)
          rw [f7.2 19 (by decide), f7.2 20 (by decide), f7.2 21 (by decide)]
          exact hm2.2.2.2.1 e he
        · have h1 : xM.1 18 = yM.1 18 := d7.1 18 (by decide)
          have h2 : yM.1 18 = zM'.1 18 := c7.1 18 (by decide)
          exact h1.trans (h2.trans ((b7.1 18 (by decide)).trans hm2.2.2.2.2))
      · have hb := bad_6 d7
        obtain ⟨vv, rr, l1, l2⟩ := tg_fill (z := (xM.1, va_up xM.2 16 (upd (xM.2 16) 2 (xM.1 14)))) (nI k)
        rw [show f_X4_readNumber yR (0 : Int32) (9 : Int32) = some (x, xR) from d3, bdS, nmq, nmq, if_neg hb.1, show f_X7_into (yM.1, va_up yM.2 16 (upd (yM.2 16) 1 (nI w))) (2 : Int32) (0 : Int32) (9 : Int32) = _ from into_s (k := 2) (by omega) d4, bdS, nmq, nmq, bdS, nmq, nmq, nmq, l1, bdS]
        exact ⟨_, _, _, _, rfl, rfl, frR_tr b6 (frR_tr c6 d5), frm_2 (z := (xM.1, va_up xM.2 16 (upd (xM.2 16) 2 (xM.1 14)))) (frm_2 (frm_tr f4 (A_sub (a := []) d6)) (by decide) _) (by decide) _, Or.inr (bad_m d7 rfl)⟩
    · have hb := bad_6 c7
      obtain ⟨vv, rr, l1, l2⟩ := tg_fill (z := (yM.1, va_up yM.2 16 (upd (yM.2 16) 1 (yM.1 14)))) (nI k)
      rw [show f_X4_readNumber zR' (2 : Int32) (5 : Int32) = some (x, yR) from c3, bdS, nmq, nmq, num_f hb.1, bdS, nmq, nmq, if_neg hb.1, show f_X7_into (zM'.1, va_up zM'.2 16 (upd (zM'.2 16) 0 (nI v))) (1 : Int32) (2 : Int32) (5 : Int32) = _ from into_s (k := 1) (by omega) c4, bdS, nmq, nmq, bdS, nmq, nmq, if_neg hb.2.2, bdS, nmq, nmq, nmq, l1, bdS]
      exact ⟨_, _, _, _, rfl, rfl, frR_tr b6 c5, frm_2 (z := (yM.1, va_up yM.2 16 (upd (yM.2 16) 1 (yM.1 14)))) (frm_2 (frm_tr f3 (A_sub (a := []) c6)) (by decide) _) (by decide) _, Or.inr (bad_m c7 rfl)⟩
  · have hb := bad_6 b7
    obtain ⟨vv, rr, l1, l2⟩ := tg_fill (z := (zM'.1, va_up zM'.2 16 (upd (zM'.2 16) 0 (zM'.1 14)))) (nI k)
    rw [show f_X4_readNumber zR (2 : Int32) (5 : Int32) = some (x, zR') from b3, bdS, nmq, nmq, num_f hb.1, bdS, nmq, nmq, num_f hb.1, bdS, nmq, nmq, if_neg hb.1, show f_X7_into zM (0 : Int32) (2 : Int32) (5 : Int32) = _ from into_s (k := 0) (by omega) b4, bdS, nmq, nmq, if_neg hb.2.2, bdS, nmq, nmq, if_neg hb.2.2, bdS, nmq, nmq, nmq, l1, bdS]
    exact ⟨_, _, _, _, rfl, rfl, b5, frm_2 (z := (zM'.1, va_up zM'.2 16 (upd (zM'.2 16) 0 (zM'.1 14)))) (frm_2 (A_sub (a := []) b6) (by decide) _) (by decide) _, Or.inr (bad_m b7 rfl)⟩
/-! ===== the end of a clause ===== -/
noncomputable def endE (t : Int32) (z : MS) : Option (Int32 × MS) := if t = 0 then ((f_X7_here z).bind fun q => nm q.1 fun r => nm q.2 fun y => if r = 59 then (nm ((y.1 13) + 1) fun g => nm ((upd y.1 13 g, y.2) : MS) fun x => some (t, x)) else ((f_X7_fails y (1 : Int32) (y.1 13)).bind fun q => nm q.1 fun r => nm q.2 fun x => some (r, x))) else (nm ((z.1 13) + 1) fun g => nm ((upd z.1 13 g, z.2) : MS) fun y => some (t, y))
theorem end_f {N : Nat} {t : Nat → Nat} {p : Nat} {zR : RS} (h : RTc N t p zR) (h6 : ¬ zR.1 6 = 0) : ∃ zR' q, f_X4_readEnd zR = some zR' ∧ frR [4, 5, 6, 7] zR zR' ∧ zR'.1 6 = zR.1 6 ∧ zR'.1 7 = zR.1 7 ∧ RTc N t q zR' := by
  obtain ⟨q, s1, s2⟩ := skp_c h
  have hq := s1.2.1
  have hN := h.2.1
  have hfail : ∀ x y, f_X4_fail (upd zR.1 4 (nI q), zR.2) x y = some (upd zR.1 4 (nI q), zR.2) := fun x y => by
    unfold f_X4_fail
    rw [if_neg (show ¬ ((upd zR.1 4 (nI q), zR.2) : RS).1 6 = 0 from h6)]
  have fr : frR [4, 5, 6, 7] zR (upd zR.1 4 (nI q), zR.2) := frR_1 (frR_refl _ _) (by decide) _
  have hR : RTc N t q (upd zR.1 4 (nI q), zR.2) := RTc_fr h fr rfl hq
  unfold f_X4_readEnd
  rw [s2, bdS, hfail, bdS, show ((upd zR.1 4 (nI q), zR.2) : RS).1 3 = nI N from h.1, show ((upd zR.1 4 (nI q), zR.2) : RS).1 4 = nI q from rfl]
  by_cases c : N ≤ q
  · rw [if_pos ((nI_leI (by omega) (by omega)).mpr c)]
    exact ⟨_, q, rfl, fr, rfl, rfl, hR⟩
  · rw [if_neg (fun z => c ((nI_leI (by omega) (by omega)).mp z)), ald_s _ _ (show q < 240 by omega) (by omega)]
    by_cases d : zR.2 q = 59
    · rw [if_pos d]
      refine ⟨_, q + 1, rfl, frR_1 (z := (upd zR.1 4 (nI q), zR.2)) fr (by decide) _, rfl, rfl, RTc_fr h (frR_1 (z := (upd zR.1 4 (nI q), zR.2)) fr (by decide) _) ?_ (by omega)⟩
      show nI q + 1 = _
      rw [nI_1]
    · rw [if_neg d]
      exact ⟨_, q, rfl, fr, rfl, rfl, hR⟩
theorem RD_fr {zRG : GS} {zRS : SS} {z0 z : MS} (h : RD zRG zRS z0) (fr : frm [12, 13, 14, 15] [] z0 z) : RD zRG zRS z := by
  obtain ⟨W, H, so, pa, hd, ag, ow, h1, h2, h3, h4, h5, h6, h7⟩ := h
  exact ⟨W, H, so, pa, hd, ag, ow, h1, h2, h3, h4, h5, RDm_fr h6 fr (by decide) (by decide) (by decide) (by decide) (by decide) (by decide), h7⟩
theorem end_both {N : Nat} {t : Nat → Nat} {p : Nat} {zRG : GS} {zRS : SS} {zR : RS} {zM : MS} {r : Int32} (h : outC N t p zRG zRS zR zM r) :
    ∃ zR' r' zM', f_X4_readEnd zR = some zR' ∧ endE r zM = some (r', zM') ∧ frR [4, 5, 6, 7] zR zR' ∧ frm [12, 13, 14, 15, 18] [16, 17, 19, 20, 21] zM zM' ∧ outC N t p zRG zRS zR' zM' r' := by
  rcases h with ⟨hr, q, hq, hc, hm, hRD⟩ | hb
  · obtain ⟨s, s1, s2⟩ := skp_c hc.1
    obtain ⟨s', s3, s4⟩ := skp_m hm.1
    have e := isSkp_one s3 s1
    subst e
    have hs := s1.2.1
    have hs2 := s1.1
    have hN := hc.1.2.1
    have fr : frR [4, 5, 6, 7] zR (upd zR.1 4 (nI s'), zR.2) := frR_1 (frR_refl _ _) (by decide) _
    have fm : frm [12, 13, 14, 15] [] zM (upd zM.1 13 (nI s'), zM.2) := frm_1 (frm_refl _ _ _) (by decide) _
    have hE : ∀ c : Int32, (if s' < N then nI (t s') else -1) = c → endE 0 zM = if c = 59 then some ((0 : Int32), ((upd (upd zM.1 13 (nI s')) 13 (nI s' + 1), zM.2) : MS)) else some ((1 : Int32), ((upd (upd zM.1 13 (nI s')) 12 (nI s'), zM.2) : MS)) := fun c hcc => by
      unfold endE
      rw [if_pos rfl, s4, hcc]
      rfl
    rw [hr, hE _ rfl]
    unfold f_X4_readEnd
    rw [s2, bdS, show ((upd zR.1 4 (nI s'), zR.2) : RS).1 3 = nI N from hc.1.1, show ((upd zR.1 4 (nI s'), zR.2) : RS).1 4 = nI s' from rfl]
    have hbad : badX N t (upd (upd (upd zR.1 4 (nI s')) 6 1) 7 (nI s'), zR.2) (upd (upd zM.1 13 (nI s')) 12 (nI s'), zM.2) 1 := ⟨1, s', s', by omega, by omega, rfl, RTc_fr hc.1 (frR_1 (z := (upd (upd zR.1 4 (nI s')) 6 1, zR.2)) (frR_1 (z := (upd zR.1 4 (nI s'), zR.2)) fr (by decide) _) (by decide) _) rfl hs, rfl, rfl, rfl⟩
    have hfail : f_X4_fail (upd zR.1 4 (nI s'), zR.2) (1 : Int32) (nI s') = some (upd (upd (upd zR.1 4 (nI s')) 6 1) 7 (nI s'), zR.2) := fail_c (zR := (upd zR.1 4 (nI s'), zR.2)) hc.2.1
    rw [hfail, bdS]
    by_cases c : N ≤ s'
    · rw [if_pos ((nI_leI (by omega) (by omega)).mpr c), if_neg (show ¬ s' < N by omega), if_neg (show ¬ (-1 : Int32) = 59 by decide)]
      exact ⟨_, _, _, rfl, rfl, frR_1 (z := (upd (upd zR.1 4 (nI s')) 6 1, zR.2)) (frR_1 (z := (upd zR.1 4 (nI s'), zR.2)) fr (by decide) _) (by decide) _, A_sub (a := []) (frm_1 (z := (upd zM.1 13 (nI s'), zM.2)) fm (by decide) _), Or.inr hbad⟩
    · have ht := hc.1.2.2.1 s' (by omega)
      rw [if_neg (fun z => c ((nI_leI (by omega) (by omega)).mp z)), if_pos (show s' < N by omega), ald_s _ _ (show s' < 240 by omega) (by omega), ht.1]
      by_cases d : nI (t s') = 59
      · rw [if_pos d, if_pos d, nI_1]
        refine ⟨_, _, _, rfl, rfl, frR_1 (z := (upd zR.1 4 (nI s'), zR.2)) fr (by decide) _, A_sub (a := []) (frm_1 (z := (upd zM.1 13 (nI s'), zM.2)) fm (by decide) _), Or.inl ⟨rfl, s' + 1, by omega, ⟨RTc_fr hc.1 (frR_1 (z := (upd zR.1 4 (nI s'), zR.2)) fr (by decide) _) rfl (by omega), hc.2⟩, ⟨RTm_fr hm.1 (frm_1 (z := (upd zM.1 13 (nI s'), zM.2)) fm (by decide) _) (by decide) (by decide) rfl (by omega), hm.2⟩, RD_fr hRD (frm_1 (z := (upd zM.1 13 (nI s'), zM.2)) fm (by decide) _)⟩⟩
      · rw [if_neg d, if_neg d]
        exact ⟨_, _, _, rfl, rfl, frR_1 (z := (upd (upd zR.1 4 (nI s')) 6 1, zR.2)) (frR_1 (z := (upd zR.1 4 (nI s'), zR.2)) fr (by decide) _) (by decide) _, A_sub (a := []) (frm_1 (z := (upd zM.1 13 (nI s'), zM.2)) fm (by decide) _), Or.inr hbad⟩
  · have h6 := bad_6 hb
    obtain ⟨k, q, p', h1, h2, h3, h4, h5, h7, h8⟩ := hb
    obtain ⟨zR', q', e1, e2, e3, e4, e5⟩ := end_f h4 h6.1
    unfold endE
    rw [if_neg h6.2.1]
    exact ⟨zR', _, _, e1, rfl, e2, frm_1 (frm_refl _ _ _) (by decide) _, Or.inr ⟨k, q, q', h1, h2, h3, e5, by rw [e3]; exact h5, by rw [e4]; exact h7, h8⟩⟩
theorem here_at {N : Nat} {t : Nat → Nat} {p : Nat} {zM : MS} (h : RTm N t p zM) (hp : p < N) (ht : ¬ t p = 32) : f_X7_here zM = some (nI (t p), zM) := by
  obtain ⟨q, s1, s2⟩ := skp_m h
  have e := isSkp_one s1 ⟨Nat.le_refl p, by omega, fun i a b => by omega, fun _ => ht⟩
  subst e
  rw [s2, if_pos hp, ud_self h.2.2.2.1]

/-! ===== the whole text, by both ===== -/
theorem text_both {N : Nat} {t : Nat → Nat} : ∀ (n c p0 p : Nat) (zR : RS) (zRG : GS) (zRS : SS) (zM : MS), N + 2 ≤ p + n → c ≤ p → isSkp N t p0 p → stC N t p zR → stM N t p0 zM → RD zRG zRS zM →
    ∃ v zR' zRG' zRS' r zM', L_X4_readText_35 n (nI c) zR zRG zRS = some (v, zR', zRG', zRS') ∧ L_X7_parish_72 n 0 zM = some (r, zM') ∧ frR [4, 5, 6, 7] zR zR' ∧ frm [12, 13, 14, 15, 18] [16, 17, 19, 20, 21] zM zM' ∧ ((r = 0 ∧ zR'.1 6 = 0 ∧ zR'.1 7 = -1 ∧ zM'.1 12 = -1 ∧ RD zRG' zRS' zM') ∨ badX N t zR' zM' r) := by
  intro n
  induction n with
  | zero => intro c p0 p zR zRG zRS zM h1 h2 h3 h4; have := h4.1.2.2.2.2; omega
  | succ n ih =>
    intro c p0 p zR zRG zRS zM h1 h2 h3 hc hm hRD
    have hN := hc.1.2.1
    have hpN := hc.1.2.2.2.2
    obtain ⟨q, s1, s2⟩ := skp_m hm.1
    have e := isSkp_one s1 h3
    subst e
    have fm : frm [12, 13, 14, 15] [] zM (upd zM.1 13 (nI q), zM.2) := frm_1 (frm_refl _ _ _) (by decide) _
    rw [L_X4_readText_35, L_X7_parish_72, if_pos rfl, s2, bdS, nmq, nmq, hc.1.1, hc.1.2.2.2.1]
    by_cases d : N ≤ q
    · rw [if_pos ((nI_leI (by omega) (by omega)).mpr d), if_neg (show ¬ q < N by omega), if_pos (show (-1 : Int32) < 0 by decide)]
      by_cases g : (240 : Int32) ≤ nI c
      · rw [if_pos g]
        exact ⟨_, _, _, _, _, _, rfl, rfl, frR_refl _ _, A_sub (a := []) fm, Or.inl ⟨rfl, hc.2.1, hc.2.2, hm.2, RD_fr hRD fm⟩⟩
      · rw [if_neg g]
        exact ⟨_, _, _, _, _, _, rfl, rfl, frR_refl _ _, A_sub (a := []) fm, Or.inl ⟨rfl, hc.2.1, hc.2.2, hm.2, RD_fr hRD fm⟩⟩
    · have hq : q < N := by omega
      have htq := (hc.1.2.2.1 q hq).2
      rw [if_neg (show ¬ (240 : Int32) ≤ nI c from fun z => absurd ((nI_leI (a := 240) (by omega) (by omega)).mp z) (by omega)), if_neg (fun z => d ((nI_leI (by omega) (by omega)).mp z)), if_pos hc.2.1, if_pos hq, if_neg (nI_pos (by omega))]
      have hm5 : stM N t q (upd zM.1 13 (nI q), zM.2) := ⟨RTm_fr hm.1 fm (by decide) (by decide) rfl hpN, hm.2⟩
      obtain ⟨zR', zRG', zRS', r, zM', b1, b2, b3, b4, b5⟩ := clause_both hc hm5 (RD_fr hRD fm) hq (h3.2.2.2 hq)
      rw [b1, bdS, nmq, nmq, nmq, b2, bdS, nmq, nmq]
      rcases b5 with ⟨hr, q2, hq2, hc2, hm2, hRD2⟩ | hb
      · obtain ⟨q3, s3, s4⟩ := skp_c hc2.1
        have fr3 : frR [4, 5, 6, 7] zR' (upd zR'.1 4 (nI q3), zR'.2) := frR_1 (frR_refl _ _) (by decide) _
        have hc3 : stC N t q3 (upd zR'.1 4 (nI q3), zR'.2) := ⟨RTc_fr hc2.1 fr3 rfl s3.2.1, hc2.2⟩
        rw [s4, bdS, nI_1, nmq, hr]
        have h31 := s3.1
        obtain ⟨v, yR, yRG, yRS, r', yM, e1, e2, e3, e4, e5⟩ := ih (c + 1) q2 q3 _ zRG' zRS' zM' (by omega) (by omega) s3 hc3 hm2 hRD2
        exact ⟨v, yR, yRG, yRS, r', yM, e1, e2, frR_tr b3 (frR_tr fr3 e3), frm_tr (A_sub (a := []) fm) (frm_tr b4 e4), e5⟩
      · have h6 := bad_6 hb
        obtain ⟨k, q1, p1, k1, k2, k3, k4, k5, k6, k7⟩ := hb
        obtain ⟨q3, s3, s4⟩ := skp_c k4
        have fr3 : frR [4, 5, 6, 7] zR' (upd zR'.1 4 (nI q3), zR'.2) := frR_1 (frR_refl _ _) (by decide) _
        have hR3 : RTc N t q3 (upd zR'.1 4 (nI q3), zR'.2) := RTc_fr k4 fr3 rfl s3.2.1
        have hb3 : badX N t (upd zR'.1 4 (nI q3), zR'.2) zM' r := ⟨k, q1, q3, k1, k2, k3, hR3, k5, k6, k7⟩
        rw [s4, bdS, nI_1, nmq]
        cases n with
        | zero => omega
        | succ n =>
          rw [L_X4_readText_35, L_X7_parish_72, if_neg h6.2.1, if_neg (show ¬ ((upd zR'.1 4 (nI q3), zR'.2) : RS).1 6 = 0 from h6.1)]
          have hex : (if (240 : Int32) ≤ nI (c + 1) then (some (nI (c + 1), ((upd zR'.1 4 (nI q3), zR'.2) : RS), zRG', zRS')) else (if ((upd zR'.1 4 (nI q3), zR'.2) : RS).1 3 ≤ ((upd zR'.1 4 (nI q3), zR'.2) : RS).1 4 then (some (nI (c + 1), ((upd zR'.1 4 (nI q3), zR'.2) : RS), zRG', zRS')) else (some (nI (c + 1), ((upd zR'.1 4 (nI q3), zR'.2) : RS), zRG', zRS')))) = some (nI (c + 1), ((upd zR'.1 4 (nI q3), zR'.2) : RS), zRG', zRS') := by
            rw [ite_self, ite_self]
          rw [hex]
          exact ⟨_, _, _, _, _, _, rfl, rfl, frR_tr b3 fr3, frm_tr (A_sub (a := []) fm) b4, Or.inr hb3⟩
/-! ===== the reference's rows made empty ===== -/
theorem pa_12 {z : MS} : ∃ v r, L_X7_parish_12 3000 0 z = some (v, ((z.1, va_up z.2 16 r) : MS)) ∧ ∀ k, k < 3 → r k = 0 := by
  obtain ⟨q, hq, r, e, hr⟩ := up_loop (σ := MS) (fun n i s => L_X7_parish_12 n i s) 3 (fun k s => ∃ r, s = (z.1, va_up z.2 16 r) ∧ ∀ j, j < k → r j = 0) (fun q => ∃ r, q.2 = (z.1, va_up z.2 16 r) ∧ ∀ j, j < 3 → r j = 0)
    (fun n s hI => ⟨(nI 3, s), by
      show L_X7_parish_12 (n + 1) (nI 3) s = _
      rw [L_X7_parish_12, if_pos (show (3 : Int32) ≤ nI 3 by decide)], hI⟩)
    (fun n k s hk hI => by
      obtain ⟨r, e, hr⟩ := hI
      right
      refine ⟨(z.1, va_up z.2 16 (upd r k 0)), ⟨_, rfl, fun j hj => ?_⟩, ?_⟩
      · by_cases c : j = k
        · rw [c, ud_eq]
        · rw [ud_ne _ _ c]; exact hr j (by omega)
      · show L_X7_parish_12 (n + 1) (nI k) s = L_X7_parish_12 n (nI (k + 1)) _
        rw [e, L_X7_parish_12, if_neg (show ¬ (3 : Int32) ≤ nI k from fun q => absurd ((nI_leI (a := 3) (by omega) (by omega)).mp q) (by omega)), ast_s _ hk (by omega), nI_clamp (by omega)]
        simp only [nmq, nI_1]
        rw [zu_up, zu_eq]) 3000 0 z (by omega) (by omega) ⟨z.2 16, by rw [zu_self], fun j hj => absurd hj (Nat.not_lt_zero j)⟩
  exact ⟨q.1, r, by rw [show (L_X7_parish_12 3000 0 z) = some q from hq, ← e], hr⟩
theorem pa_37 {z : MS} : ∃ v y, L_X7_parish_37 3000 0 z = some (v, y) ∧ frm [] [19, 20, 21] z y ∧ ∀ e, e < 40 → y.2 19 e = 0 ∧ y.2 20 e = -1 := by
  obtain ⟨q, hq, p1, p2⟩ := up_loop (σ := MS) (fun n i s => L_X7_parish_37 n i s) 40 (fun k s => frm [] [19, 20, 21] z s ∧ ∀ e, e < k → s.2 19 e = 0 ∧ s.2 20 e = -1) (fun q => frm [] [19, 20, 21] z q.2 ∧ ∀ e, e < 40 → q.2.2 19 e = 0 ∧ q.2.2 20 e = -1)
    (fun n s hI => ⟨(nI 40, s), by
      show L_X7_parish_37 (n + 1) (nI 40) s = _
      rw [L_X7_parish_37, if_pos (show (40 : Int32) ≤ nI 40 by decide)], hI⟩)
    (fun n k s hk hI => by
      obtain ⟨fr, h⟩ := hI
      right
      refine ⟨(s.1, va_up (va_up (va_up s.2 19 (upd (s.2 19) k 0)) 20 (upd (s.2 20) k (-1))) 21 (upd (s.2 21) k 0)), ⟨frm_2 (z := (s.1, va_up (va_up s.2 19 (upd (s.2 19) k 0)) 20 (upd (s.2 20) k (-1)))) (frm_2 (z := (s.1, va_up s.2 19 (upd (s.2 19) k 0))) (frm_2 fr (by decide) _) (by decide) _) (by decide) _, fun e he => ?_⟩, ?_⟩
      · show upd (s.2 19) k 0 e = 0 ∧ upd (s.2 20) k (-1) e = -1
        by_cases c : e = k
        · rw [c, ud_eq, ud_eq]; exact ⟨rfl, rfl⟩
        · rw [ud_ne _ _ c, ud_ne _ _ c]; exact h e (by omega)
      · show L_X7_parish_37 (n + 1) (nI k) s = L_X7_parish_37 n (nI (k + 1)) _
        rw [L_X7_parish_37, if_neg (show ¬ (40 : Int32) ≤ nI k from fun q => absurd ((nI_leI (a := 40) (by omega) (by omega)).mp q) (by omega)), ast_s _ hk (by omega), nI_clamp (by omega), nar0, nmq, ast_s _ hk (by omega), nmq, ast_s _ hk (by omega), nmq, nI_1, nmq]
        rfl) 3000 0 z (by omega) (by omega) ⟨frm_refl _ _ _, fun e he => absurd he (Nat.not_lt_zero e)⟩
  exact ⟨q.1, q.2, hq, p1, p2⟩
/-! ===== what was read becomes the parish ===== -/
def edM (W H c : Nat) (z : MS) : Prop := z.1 3 = nI c ∧ ∀ e, e < c → z.2 5 e = nI (eLo W H e) ∧ z.2 6 e = nI (eHi W H e)
theorem edM_add {W H c a b : Nat} {z : MS} (h : edM W H c z) (ha : eLo W H c = a) (hb : eHi W H c = b) : edM W H (c + 1) (upd z.1 3 (nI (c + 1)), va_up (va_up z.2 5 (upd (z.2 5) c (nI a))) 6 (upd (z.2 6) c (nI b))) := by
  refine ⟨rfl, fun e he => ?_⟩
  show upd (z.2 5) c (nI a) e = nI (eLo W H e) ∧ upd (z.2 6) c (nI b) e = nI (eHi W H e)
  by_cases q : e = c
  · rw [q, ud_eq, ud_eq, ha, hb]; exact ⟨rfl, rfl⟩
  · rw [ud_ne _ _ q, ud_ne _ _ q]; exact h.2 e (by omega)
theorem frE {z0 z : MS} (h : frm [3] [5, 6] z0 z) (c : Int32) (a b : Nat → Int32) : frm [3] [5, 6] z0 (upd z.1 3 c, va_up (va_up z.2 5 a) 6 b) :=
  frm_1 (z := (z.1, va_up (va_up z.2 5 a) 6 b)) (frm_2 (z := (z.1, va_up z.2 5 a)) (frm_2 h (by decide) _) (by decide) _) (by decide) _
theorem find_7 {W H : Nat} {z0 : MS} (ok : okB W H = true) (h0 : z0.1 0 = nI W) (h2 : z0.1 2 = nI (W * H)) (h3 : z0.1 3 = 0) :
    ∃ v z, L_X7_findEdges_7 3000 0 z0 = some (v, z) ∧ frm [3] [5, 6] z0 z ∧ edM W H ((W - 1) * H) z := by
  have hgn := geo_n ok
  have hlt := okB_lt ok
  obtain ⟨g1, g2, g3, g4⟩ := geo_c ok
  obtain ⟨q, hq, p⟩ := up_loop (σ := MS) (fun n i s => L_X7_findEdges_7 n i s) (W * H) (fun k z => frm [3] [5, 6] z0 z ∧ edM W H (cR W k) z) (fun q => frm [3] [5, 6] z0 q.2 ∧ edM W H ((W - 1) * H) q.2)
    (fun n s hI => ⟨(nI (W * H), s), by
      show L_X7_findEdges_7 (n + 1) (nI (W * H)) s = _
      rw [L_X7_findEdges_7, hI.1.1 2 (by decide), h2, if_pos (Int32.le_refl _)], by rw [← g1]; exact hI⟩)
    (fun n k s hk hI => by
      obtain ⟨fr, i3⟩ := hI
      right
      have hW : 0 < W := (geo_rim ok hk).1
      have hsu : cR W (k + 1) = cR W k + (if decide (k % W < W - 1) then 1 else 0) := fb_ct_succ _ k
      have hmod := Nat.mod_lt k hW
      have hcond : (nI W - 1 ≤ nI k - nI k / nI W * nI W) ↔ ¬ k % W < W - 1 := by
        rw [show nI W - 1 = nI (W - 1) from pk_sub (b := 1) hW, pk_rem (by omega) hW (by omega), nI_leI (by omega) (by omega)]
        omega
      have hne : ¬ nI W = 0 := nI_ne0 hW (by omega)
      by_cases c : k % W < W - 1
      · obtain ⟨c1, c2, c3, c4⟩ := g3 k hk c
        rw [decide_eq_true c, if_pos rfl] at hsu
        refine ⟨(upd s.1 3 (nI (cR W k + 1)), va_up (va_up s.2 5 (upd (s.2 5) (cR W k) (nI k))) 6 (upd (s.2 6) (cR W k) (nI (k + 1)))), ⟨frE fr _ _ _, ?_⟩, ?_⟩
        · rw [hsu]; exact edM_add i3 c2 c3
        · show L_X7_findEdges_7 (n + 1) (nI k) s = L_X7_findEdges_7 n (nI (k + 1)) _
          rw [L_X7_findEdges_7, fr.1 2 (by decide), h2, if_neg (fun q => absurd ((nI_leI (by omega) (by omega)).mp q) (by omega)), fr.1 0 (by decide), h0]
          unfold dvi
          rw [if_neg hne, if_neg (fun q => hcond.mp q c)]
          simp only [nmq, i3.1, nI_1]
          rw [ast_s _ (show cR W k < 40 by omega) (by omega), ast_s _ (show cR W k < 40 by omega) (by omega), nI_clamp (by omega)]
          rfl
      · rw [decide_eq_false c, if_neg (by decide), Nat.add_zero] at hsu
        refine ⟨s, ⟨fr, by rw [hsu]; exact i3⟩, ?_⟩
        show L_X7_findEdges_7 (n + 1) (nI k) s = L_X7_findEdges_7 n (nI (k + 1)) _
        rw [L_X7_findEdges_7, fr.1 2 (by decide), h2, if_neg (fun q => absurd ((nI_leI (by omega) (by omega)).mp q) (by omega)), fr.1 0 (by decide), h0]
        unfold dvi
        rw [if_neg hne, if_pos (hcond.mpr c)]
        simp only [nmq, nI_1]) 3000 0 z0 (by omega) (by omega) ⟨frm_refl _ _ _, h3, fun e he => absurd he (Nat.not_lt_zero e)⟩
  exact ⟨q.1, q.2, hq, p⟩
theorem geo_low0 : chkWH (fun W H => (List.range (W * H)).all fun f => decide (f / W < H - 1) == decide (f + W < W * H)) = true := by decide +kernel
theorem geo_low {W H f : Nat} (h : okB W H = true) (hf : f < W * H) : f / W < H - 1 ↔ f + W < W * H := by
  have := all_at (chk_at geo_low0 h) hf
  rw [beq_iff_eq] at this
  exact decide_eq_decide.mp this
theorem geo_up0 : chkWH (fun W H => decide ((W - 1) * H + (W * H - W) = eN W H) && (List.range (W * H - W + 1)).all fun f => decide (cB W H f = (W - 1) * H + f)) = true := by decide +kernel
theorem find_70 {W H : Nat} {z0 : MS} (ok : okB W H = true) (h0 : z0.1 0 = nI W) (h2 : z0.1 2 = nI (W * H)) (h3 : edM W H ((W - 1) * H) z0) :
    ∃ v z, L_X7_findEdges_70 3000 0 z0 = some (v, z) ∧ frm [3] [5, 6] z0 z ∧ edM W H (eN W H) z := by
  have hgn := geo_n ok
  have hlt := okB_lt ok
  obtain ⟨g1, g2, g3, g4⟩ := geo_c ok
  have g5 := chk_at geo_up0 ok
  rw [Bool.and_eq_true, decide_eq_true_eq] at g5
  obtain ⟨q, hq, p⟩ := up_loop (σ := MS) (fun n i s => L_X7_findEdges_70 n i s) (W * H - W) (fun k z => frm [3] [5, 6] z0 z ∧ edM W H ((W - 1) * H + k) z) (fun q => frm [3] [5, 6] z0 q.2 ∧ edM W H (eN W H) q.2)
    (fun n s hI => ⟨(nI (W * H - W), s), by
      show L_X7_findEdges_70 (n + 1) (nI (W * H - W)) s = _
      rw [L_X7_findEdges_70, hI.1.1 2 (by decide), h2, hI.1.1 0 (by decide), h0, nI_add, if_pos ((nI_leI (by omega) (by omega)).mpr (by omega))], by rw [← g5.1]; exact hI⟩)
    (fun n k s hk hI => by
      obtain ⟨fr, i3⟩ := hI
      right
      have hk2 : k < W * H := by omega
      have hkb : cB W H k = (W - 1) * H + k := of_decide_eq_true (all_at g5.2 (show k < W * H - W + 1 by omega))
      obtain ⟨c1, c2, c3, c4⟩ := g4 k hk2 ((geo_low ok hk2).mpr (by omega))
      rw [hkb] at c1 c2 c3
      refine ⟨(upd s.1 3 (nI ((W - 1) * H + k + 1)), va_up (va_up s.2 5 (upd (s.2 5) ((W - 1) * H + k) (nI k))) 6 (upd (s.2 6) ((W - 1) * H + k) (nI (k + W)))), ⟨frE fr _ _ _, edM_add i3 c2 c3⟩, ?_⟩
      show L_X7_findEdges_70 (n + 1) (nI k) s = L_X7_findEdges_70 n (nI (k + 1)) _
      rw [L_X7_findEdges_70, fr.1 2 (by decide), h2, fr.1 0 (by decide), h0, nI_add, if_neg (fun q => absurd ((nI_leI (by omega) (by omega)).mp q) (by omega))]
      simp only [nmq, i3.1, nI_1]
      rw [ast_s _ (show (W - 1) * H + k < 40 by omega) (by omega), ast_s _ (show (W - 1) * H + k < 40 by omega) (by omega), nI_clamp (by omega), show s.1 0 = nI W from (fr.1 0 (by decide)).trans h0, nI_add]
      rfl) 3000 0 z0 (by omega) (by omega) ⟨frm_refl _ _ _, h3⟩
  exact ⟨q.1, q.2, hq, p⟩
theorem tr_39 {z : MS} : ∃ v r, L_X7_takeRead_39 3000 0 z = some (v, ((z.1, va_up z.2 4 r) : MS)) ∧ ∀ k, k < 25 → r k = z.2 17 k := by
  obtain ⟨q, hq, r, e, hr⟩ := up_loop (σ := MS) (fun n i s => L_X7_takeRead_39 n i s) 25 (fun k s => ∃ r, s = (z.1, va_up z.2 4 r) ∧ ∀ j, j < k → r j = z.2 17 j) (fun q => ∃ r, q.2 = (z.1, va_up z.2 4 r) ∧ ∀ j, j < 25 → r j = z.2 17 j)
    (fun n s hI => ⟨(nI 25, s), by
      show L_X7_takeRead_39 (n + 1) (nI 25) s = _
      rw [L_X7_takeRead_39, if_pos (show (25 : Int32) ≤ nI 25 by decide)], hI⟩)
    (fun n k s hk hI => by
      obtain ⟨r, e, hr⟩ := hI
      right
      refine ⟨(z.1, va_up z.2 4 (upd r k (z.2 17 k))), ⟨_, rfl, fun j hj => ?_⟩, ?_⟩
      · by_cases c : j = k
        · rw [c, ud_eq]
        · rw [ud_ne _ _ c]; exact hr j (by omega)
      · show L_X7_takeRead_39 (n + 1) (nI k) s = L_X7_takeRead_39 n (nI (k + 1)) _
        rw [e, L_X7_takeRead_39, if_neg (show ¬ (25 : Int32) ≤ nI k from fun q => absurd ((nI_leI (a := 25) (by omega) (by omega)).mp q) (by omega)), ald_s _ _ hk (by omega), ast_s _ hk (by omega), nI_clamp (by omega)]
        simp only [nmq, nI_1]
        rw [zu_up, zu_eq, zu_ne _ _ (show ¬ 17 = 4 by decide)]) 3000 0 z (by omega) (by omega) ⟨z.2 4, by rw [zu_self], fun j hj => absurd hj (Nat.not_lt_zero j)⟩
  exact ⟨q.1, r, by rw [show (L_X7_takeRead_39 3000 0 z) = some q from hq, ← e], hr⟩
theorem nar_b (b : Bool) : vp_nar .boolean (if b then 1 else 0) = if b then 1 else 0 := by cases b <;> rfl
theorem tr_65 {z : MS} {pa : Nat → Bool} (hp : ∀ e, e < 40 → z.2 19 e = if pa e then 1 else 0) : ∃ v y, L_X7_takeRead_65 3000 0 z = some (v, y) ∧ frm [] [7, 8] z y ∧ ∀ e, e < 40 → y.2 7 e = (if pa e then 1 else 0) ∧ y.2 8 e = z.2 20 e ∧ y.2 8 (40 + e) = z.2 21 e ∧ y.2 8 (80 + e) = 0 := by
  obtain ⟨q, hq, p1, p2⟩ := up_loop (σ := MS) (fun n i s => L_X7_takeRead_65 n i s) 40 (fun k s => frm [] [7, 8] z s ∧ ∀ e, e < k → s.2 7 e = (if pa e then 1 else 0) ∧ s.2 8 e = z.2 20 e ∧ s.2 8 (40 + e) = z.2 21 e ∧ s.2 8 (80 + e) = 0) (fun q => frm [] [7, 8] z q.2 ∧ ∀ e, e < 40 → q.2.2 7 e = (if pa e then 1 else 0) ∧ q.2.2 8 e = z.2 20 e ∧ q.2.2 8 (40 + e) = z.2 21 e ∧ q.2.2 8 (80 + e) = 0)
    (fun n s hI => ⟨(nI 40, s), by
      show L_X7_takeRead_65 (n + 1) (nI 40) s = _
      rw [L_X7_takeRead_65, if_pos (show (40 : Int32) ≤ nI 40 by decide)], hI⟩)
    (fun n k s hk hI => by
      obtain ⟨fr, h⟩ := hI
      right
      refine ⟨(s.1, va_up (va_up s.2 7 (upd (s.2 7) k (if pa k then 1 else 0))) 8 (upd (upd (upd (s.2 8) k (z.2 20 k)) (40 + k) (z.2 21 k)) (80 + k) 0)), ⟨frm_2 (z := (s.1, va_up s.2 7 (upd (s.2 7) k (if pa k then 1 else 0)))) (frm_2 fr (by decide) _) (by decide) _, fun e he => ?_⟩, ?_⟩
      · show upd (s.2 7) k (if pa k then 1 else 0) e = _ ∧ upd (upd (upd (s.2 8) k (z.2 20 k)) (40 + k) (z.2 21 k)) (80 + k) 0 e = _ ∧ upd (upd (upd (s.2 8) k (z.2 20 k)) (40 + k) (z.2 21 k)) (80 + k) 0 (40 + e) = _ ∧ upd (upd (upd (s.2 8) k (z.2 20 k)) (40 + k) (z.2 21 k)) (80 + k) 0 (80 + e) = 0
        by_cases c : e = k
        · rw [c, ud_eq, ud_ne _ _ (show ¬ k = 80 + k by omega), ud_ne _ _ (show ¬ k = 40 + k by omega), ud_eq, ud_ne _ _ (show ¬ 40 + k = 80 + k by omega), ud_eq, ud_eq]
          exact ⟨rfl, rfl, rfl, rfl⟩
        · have hh := h e (by omega)
          rw [ud_ne _ _ c, ud_ne _ _ (show ¬ e = 80 + k by omega), ud_ne _ _ (show ¬ e = 40 + k by omega), ud_ne _ _ c, ud_ne _ _ (show ¬ 40 + e = 80 + k by omega), ud_ne _ _ (show ¬ 40 + e = 40 + k by omega), ud_ne _ _ (show ¬ 40 + e = k by omega), ud_ne _ _ (show ¬ 80 + e = 80 + k by omega), ud_ne _ _ (show ¬ 80 + e = 40 + k by omega), ud_ne _ _ (show ¬ 80 + e = k by omega)]
          exact hh
      · show L_X7_takeRead_65 (n + 1) (nI k) s = L_X7_takeRead_65 n (nI (k + 1)) _
        rw [L_X7_takeRead_65, if_neg (show ¬ (40 : Int32) ≤ nI k from fun q => absurd ((nI_leI (a := 40) (by omega) (by omega)).mp q) (by omega)), fr.2 19 (by decide), ald_s _ _ hk (by omega), hp k hk, nar_b, ast_s _ hk (by omega), nI_clamp (show k < 2 ^ 31 by omega), nmq, show (40 : Int32) + nI k = nI (40 + k) from nI_add 40 k, show (80 : Int32) + nI k = nI (80 + k) from nI_add 80 k, nI_clamp (show 40 + k < 2 ^ 31 by omega), nI_clamp (show 80 + k < 2 ^ 31 by omega)]
        simp only [zu_ne _ _ (show ¬ 20 = 7 by decide), zu_ne _ _ (show ¬ 21 = 7 by decide), zu_ne _ _ (show ¬ 8 = 7 by decide), zu_ne _ _ (show ¬ 21 = 8 by decide), zu_ne _ _ (show ¬ 20 = 8 by decide), zu_eq, zu_up, nmq, fr.2 20 (by decide), fr.2 21 (by decide)]
        rw [ald_s _ _ hk (by omega), ast_s _ (show k < 122 by omega) (by omega), ald_s _ _ hk (by omega), ast_s _ (show 40 + k < 122 by omega) (by omega), ast_s _ (show 80 + k < 122 by omega) (by omega), nI_1]) 3000 0 z (by omega) (by omega) ⟨frm_refl _ _ _, fun e he => absurd he (Nat.not_lt_zero e)⟩
  exact ⟨q.1, q.2, hq, p1, p2⟩

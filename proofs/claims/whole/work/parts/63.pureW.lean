/-! ===== a clause, by both ===== -/
theorem fail_end {N : Nat} {t : Nat → Nat} {p q k : Nat} {zR : RS} (zM : MS) (hc : stC N t q zR) (hk1 : 1 ≤ k) (hk2 : k ≤ 4) :
    ∃ zF zR', f_X4_fail zR (nI k) (nI p) = some zF ∧ ¬ zF.1 6 = 0 ∧ f_X4_readEnd zF = some zR' ∧ frR [4, 5, 6, 7] zR zF ∧ frR [4, 5, 6, 7] zR zR' ∧ badX N t zF (upd zM.1 12 (nI p), zM.2) (nI k) ∧ badX N t zR' (upd zM.1 12 (nI p), zM.2) (nI k) := by
  have fr : frR [4, 5, 6, 7] zR (upd (upd zR.1 6 (nI k)) 7 (nI p), zR.2) := frR_1 (z := (upd zR.1 6 (nI k), zR.2)) (frR_1 (frR_refl _ _) (by decide) _) (by decide) _
  have hR : RTc N t q (upd (upd zR.1 6 (nI k)) 7 (nI p), zR.2) := RTc_fr hc.1 fr hc.1.2.2.2.1 hc.1.2.2.2.2
  have hb : badX N t (upd (upd zR.1 6 (nI k)) 7 (nI p), zR.2) (upd zM.1 12 (nI p), zM.2) (nI k) := ⟨k, p, q, hk1, hk2, rfl, hR, rfl, rfl, rfl⟩
  obtain ⟨zR', q', e1, e2, e3, e4, e5⟩ := end_f hR (bad_6 hb).1
  exact ⟨_, zR', fail_c hc.2.1, (bad_6 hb).1, e1, fr, frR_tr fr e2, hb, k, p, q', hk1, hk2, rfl, e5, e3, e4, rfl⟩
theorem chainD {β : Type} {k : Int32} (Ae Ag Ah Ap As Ad : Option β) (h1 : ¬ k = 101) (h3 : ¬ k = 103) (h4 : ¬ k = 104) (h12 : ¬ k = 112) (h15 : ¬ k = 115) : (if k = 101 then Ae else if k = 102 then Ad else if k = 103 then Ag else if k = 104 then Ah else if k = 105 then Ad else if k = 106 then Ad else if k = 107 then Ad else if k = 108 then Ad else if k = 109 then Ad else if k = 110 then Ad else if k = 111 then Ad else if k = 112 then Ap else if k = 113 then Ad else if k = 114 then Ad else if k = 115 then As else Ad) = Ad := by
  simp only [h1, h3, h4, h12, h15, if_false, ite_self]
theorem clause_both {N : Nat} {t : Nat → Nat} {p : Nat} {zR : RS} {zRG : GS} {zRS : SS} {zM : MS} (hc : stC N t p zR) (hm : stM N t p zM) (hRD : RD zRG zRS zM) (hp : p < N) (ht : ¬ t p = 32) :
    ∃ zR' zRG' zRS' r zM', f_X4_readClause zR zRG zRS = some (zR', zRG', zRS') ∧ f_X7_takeClause zM = some (r, zM') ∧ frR [4, 5, 6, 7] zR zR' ∧ frm [12, 13, 14, 15, 18] [16, 17, 19, 20, 21] zM zM' ∧ outC N t (p + 1) zRG' zRS' zR' zM' r := by
  have hRD0 := hRD
  obtain ⟨W, H, so, pa, hd, ag, ow, hx⟩ := hRD
  have hx0 := hx
  obtain ⟨ok, hso, hG, hK, hS, hm2, hW0⟩ := hx
  have hgn := geo_n ok
  have hlt := okB_lt ok
  have hN := hc.1.2.1
  have htp := hc.1.2.2.1 p hp
  have h4 := hc.1.2.2.2.1
  have h13 : zM.1 13 = nI p := hm.1.2.2.2.1
  have hh := here_at hm.1 hp ht
  have fr5 : frR [4, 5, 6, 7] zR (upd zR.1 4 (nI (p + 1)), zR.2) := frR_1 (frR_refl _ _) (by decide) _
  have hc5 : stC N t (p + 1) (upd zR.1 4 (nI (p + 1)), zR.2) := ⟨RTc_fr hc.1 fr5 rfl (by omega), hc.2⟩
  have fm5 : frm [12, 13, 14, 15] [] zM (upd zM.1 13 (nI (p + 1)), zM.2) := frm_1 (frm_refl _ _ _) (by decide) _
  have hm5 : stM N t (p + 1) (upd zM.1 13 (nI (p + 1)), zM.2) := ⟨RTm_fr hm.1 fm5 (by decide) (by decide) rfl (by omega), hm.2⟩
  have hx5 : RDx W H so pa hd ag ow zRG zRS (upd zM.1 13 (nI (p + 1)), zM.2) := ⟨ok, hso, hG, hK, hS, RDm_fr hm2 fm5 (by decide) (by decide) (by decide) (by decide) (by decide) (by decide), hW0⟩
  have hal : ∀ {β : Type} (g : Int32 → Option β), ald 3 (zM.2 16) (0 : Int32) g = g (nI W) := fun g => by rw [show (0 : Int32) = nI 0 from rfl, ald_s _ _ (show 0 < 3 by omega) (by omega), hm2.1]
  have hWH : W * H = 0 ↔ W = 0 := ⟨fun z => (okB_0 ok z).1, fun z => by rw [z, Nat.zero_mul]⟩
  have fr12 : frm [12, 13, 14, 15, 18] [16, 17, 19, 20, 21] zM (upd zM.1 12 (nI p), zM.2) := frm_1 (frm_refl _ _ _) (by decide) _
  have hne : ∀ w : Nat, w < 2 ^ 31 → (nI (t p) = nI w ↔ t p = w) := fun w hw => nI_eq (by omega) hw
  by_cases w103 : t p = 103
  · have h5 : (if nI (t p) = 103 then (some (0 : Int32)) else (if nI (t p) = 115 then (some (1 : Int32)) else (if nI (t p) = 101 then (some (2 : Int32)) else (if nI (t p) = 112 then (some (3 : Int32)) else (if nI (t p) = 104 then (some (4 : Int32)) else (some ((-1) : Int32))))))) = some (0 : Int32) := by rw [w103]; rfl
    have hcl : f_X4_readClause zR zRG zRS = ((f_X4_readGround (upd zR.1 4 (nI (p + 1)), zR.2) zRG (nI p)).bind fun q => (f_X4_readEnd q.1).bind fun z => some (z, q.2, zRS)) := by
      unfold f_X4_readClause
      rw [h4, nmq, ald_s _ _ (show p < 240 by omega) (by omega), htp.1, w103, nI_1, nmq, nmq]
      by_cases c : zRG.1 2 = 0
      · rw [if_pos c]; rfl
      · rw [if_neg c]; rfl
    by_cases c : W * H = 0
    · have hW : W = 0 := hWH.mp c
      have hre : f_X7_takeClause zM = ((f_X7_takeGround (upd zM.1 13 (nI (p + 1)), zM.2)).bind fun q => endE q.1 q.2) := by
        unfold f_X7_takeClause
        rw [hh, bdS, nmq, nmq, h5, bdS, if_neg (show ¬ (0 : Int32) < 0 by decide), if_pos (show (0 : Int32) ≤ 0 by decide), if_pos rfl, hal, if_pos (show nI W ≤ 0 by rw [hW]; decide), h13, nI_1, nmq, nmq, if_pos rfl]
        cases f_X7_takeGround (upd zM.1 13 (nI (p + 1)), zM.2) <;> rfl
      obtain ⟨zR', zRG', r, zM', b1, b2, b3, b4, b5⟩ := ground_both (nI p) hc5 hm5 hx5 c
      obtain ⟨yR, r', yM, e1, e2, e3, e4, e5⟩ := end_both b5
      rw [hcl, hre, b1, bdS, b2, bdS, e1, bdS, e2]
      exact ⟨_, _, _, _, _, rfl, rfl, frR_tr fr5 (frR_tr b3 e3), frm_tr (A_sub (a := []) fm5) (frm_tr b4 e4), e5⟩
    · have hW : ¬ W = 0 := fun z => c (hWH.mpr z)
      have hre : f_X7_takeClause zM = some (3, ((upd zM.1 12 (nI p), zM.2) : MS)) := by
        unfold f_X7_takeClause
        rw [hh, bdS, nmq, nmq, h5, bdS, if_neg (show ¬ (0 : Int32) < 0 by decide), if_pos (show (0 : Int32) ≤ 0 by decide), if_pos rfl, hal, if_neg (nI_nle (by omega) (by omega)), h13]
        rfl
      obtain ⟨zF, zR', f1, f2, f3, f4, f5, f6, f7⟩ := fail_end (p := p) (k := 3) zM hc5 (by omega) (by omega)
      have hrg : f_X4_readGround (upd zR.1 4 (nI (p + 1)), zR.2) zRG (nI p) = some (zF, zRG) := by
        unfold f_X4_readGround
        rw [hG.1.2.2.1, if_neg (nI_ne0 (by omega) (by omega)), show f_X4_fail (upd zR.1 4 (nI (p + 1)), zR.2) (3 : Int32) (nI p) = some zF from f1, bdS, bdS, num_f f2, bdS, nmq, nmq, num_f f2, bdS, nmq, nmq, num_f f2, bdS, nmq, nmq, if_neg f2]
      rw [hcl, hre, hrg, bdS, f3, bdS]
      exact ⟨_, _, _, _, _, rfl, rfl, frR_tr fr5 f5, fr12, Or.inr f7⟩
  · have n103 : ¬ nI (t p) = 103 := fun q => w103 ((hne 103 (by omega)).mp q)
    by_cases c : W * H = 0
    · -- no ground yet: a fault
      have hW : W = 0 := hWH.mp c
      obtain ⟨zF, zR', f1, f2, f3, f4, f5, f6, f7⟩ := fail_end (p := p) (k := 1) zM hc5 (by omega) (by omega)
      have hcl : f_X4_readClause zR zRG zRS = some (zF, zRG, zRS) := by
        unfold f_X4_readClause
        rw [h4, nmq, ald_s _ _ (show p < 240 by omega) (by omega), htp.1, nI_1, nmq, nmq, if_pos (show zRG.1 2 = 0 by rw [hG.1.2.2.1, c]; rfl), if_neg n103, show f_X4_fail (upd zR.1 4 (nI (p + 1)), zR.2) (1 : Int32) (nI p) = some zF from f1, bdS]
      have hre : f_X7_takeClause zM = some (1, ((upd zM.1 12 (nI p), zM.2) : MS)) := by
        unfold f_X7_takeClause
        rw [hh, bdS, nmq, nmq, if_neg n103]
        by_cases w115 : nI (t p) = 115
        · rw [if_pos w115, bdS, if_neg (show ¬ (1 : Int32) < 0 by decide), if_neg (show ¬ (1 : Int32) ≤ 0 by decide), hal, if_pos (show nI W = 0 by rw [hW]; rfl), h13]; rfl
        · rw [if_neg w115]
          by_cases w101 : nI (t p) = 101
          · rw [if_pos w101, bdS, if_neg (show ¬ (2 : Int32) < 0 by decide), if_neg (show ¬ (2 : Int32) ≤ 0 by decide), hal, if_pos (show nI W = 0 by rw [hW]; rfl), h13]; rfl
          · rw [if_neg w101]
            by_cases w112 : nI (t p) = 112
            · rw [if_pos w112, bdS, if_neg (show ¬ (3 : Int32) < 0 by decide), if_neg (show ¬ (3 : Int32) ≤ 0 by decide), hal, if_pos (show nI W = 0 by rw [hW]; rfl), h13]; rfl
            · rw [if_neg w112]
              by_cases w104 : nI (t p) = 104
              · rw [if_pos w104, bdS, if_neg (show ¬ (4 : Int32) < 0 by decide), if_neg (show ¬ (4 : Int32) ≤ 0 by decide), hal, if_pos (show nI W = 0 by rw [hW]; rfl), h13]; rfl
              · rw [if_neg w104, bdS, if_pos (show (-1 : Int32) < 0 by decide), h13]; rfl
      rw [hcl, hre]
      exact ⟨_, _, _, _, _, rfl, rfl, frR_tr fr5 f4, fr12, Or.inr f6⟩
    · have hW : ¬ W = 0 := fun z => c (hWH.mpr z)
      have hWn : ¬ nI W = 0 := nI_ne0 (by omega) (by omega)
      have hfd : ¬ zRG.1 2 = 0 := by rw [hG.1.2.2.1]; exact nI_ne0 (by omega) (by omega)
      by_cases w115 : t p = 115
      · have hcl : f_X4_readClause zR zRG zRS = ((f_X4_readSoil (upd zR.1 4 (nI (p + 1)), zR.2) zRG).bind fun q => (f_X4_readEnd q.1).bind fun z => some (z, q.2, zRS)) := by
          unfold f_X4_readClause
          rw [h4, nmq, ald_s _ _ (show p < 240 by omega) (by omega), htp.1, w115, nI_1, nmq, nmq, if_neg hfd]; rfl
        have hre : f_X7_takeClause zM = ((f_X7_takeSoil (upd zM.1 13 (nI (p + 1)), zM.2)).bind fun q => endE q.1 q.2) := by
          unfold f_X7_takeClause
          rw [hh, bdS, nmq, nmq, if_neg n103, if_pos (show nI (t p) = 115 by rw [w115]; rfl), bdS, if_neg (show ¬ (1 : Int32) < 0 by decide), if_neg (show ¬ (1 : Int32) ≤ 0 by decide), hal, if_neg hWn, if_neg (show ¬ (1 : Int32) = 0 by decide), h13, nI_1, nmq, nmq, if_neg (show ¬ (1 : Int32) = 0 by decide), if_pos rfl]
          cases f_X7_takeSoil (upd zM.1 13 (nI (p + 1)), zM.2) <;> rfl
        obtain ⟨zR', zRG', r, zM', b1, b2, b3, b4, b5⟩ := soil_both hc5 hm5 hx5 c
        obtain ⟨yR, r', yM, e1, e2, e3, e4, e5⟩ := end_both b5
        rw [hcl, hre, b1, bdS, b2, bdS, e1, bdS, e2]
        exact ⟨_, _, _, _, _, rfl, rfl, frR_tr fr5 (frR_tr b3 e3), frm_tr (A_sub (a := []) fm5) (frm_tr b4 e4), e5⟩
      · have n115 : ¬ nI (t p) = 115 := fun q => w115 ((hne 115 (by omega)).mp q)
        by_cases w101 : t p = 101
        · have hcl : f_X4_readClause zR zRG zRS = ((f_X4_readOwned (upd zR.1 4 (nI (p + 1)), zR.2) zRG zRS).bind fun q => (f_X4_readEnd q.1).bind fun z => some (z, zRG, q.2)) := by
            unfold f_X4_readClause
            rw [h4, nmq, ald_s _ _ (show p < 240 by omega) (by omega), htp.1, w101, nI_1, nmq, nmq, if_neg hfd]; rfl
          have hre : f_X7_takeClause zM = ((f_X7_takeOwn (upd zM.1 13 (nI (p + 1)), zM.2)).bind fun q => endE q.1 q.2) := by
            unfold f_X7_takeClause
            rw [hh, bdS, nmq, nmq, if_neg n103, if_neg n115, if_pos (show nI (t p) = 101 by rw [w101]; rfl), bdS, if_neg (show ¬ (2 : Int32) < 0 by decide), if_neg (show ¬ (2 : Int32) ≤ 0 by decide), hal, if_neg hWn, if_neg (show ¬ (2 : Int32) = 0 by decide), h13, nI_1, nmq, nmq, if_neg (show ¬ (2 : Int32) = 0 by decide), if_neg (show ¬ (2 : Int32) = 1 by decide), if_pos rfl]
            cases f_X7_takeOwn (upd zM.1 13 (nI (p + 1)), zM.2) <;> rfl
          obtain ⟨zR', zRS', r, zM', b1, b2, b3, b4, b5⟩ := own_both hc5 hm5 hx5 c
          obtain ⟨yR, r', yM, e1, e2, e3, e4, e5⟩ := end_both b5
          rw [hcl, hre, b1, bdS, b2, bdS, e1, bdS, e2]
          exact ⟨_, _, _, _, _, rfl, rfl, frR_tr fr5 (frR_tr b3 e3), frm_tr (A_sub (a := []) fm5) (frm_tr b4 e4), e5⟩
        · have n101 : ¬ nI (t p) = 101 := fun q => w101 ((hne 101 (by omega)).mp q)
          by_cases w112 : t p = 112
          · have hcl : f_X4_readClause zR zRG zRS = ((f_X4_readPath (upd zR.1 4 (nI (p + 1)), zR.2) zRG zRS).bind fun q => (f_X4_readEnd q.1).bind fun z => some (z, q.2, zRS)) := by
              unfold f_X4_readClause
              rw [h4, nmq, ald_s _ _ (show p < 240 by omega) (by omega), htp.1, w112, nI_1, nmq, nmq, if_neg hfd]; rfl
            have hre : f_X7_takeClause zM = ((f_X7_takePath (upd zM.1 13 (nI (p + 1)), zM.2)).bind fun q => endE q.1 q.2) := by
              unfold f_X7_takeClause
              rw [hh, bdS, nmq, nmq, if_neg n103, if_neg n115, if_neg n101, if_pos (show nI (t p) = 112 by rw [w112]; rfl), bdS, if_neg (show ¬ (3 : Int32) < 0 by decide), if_neg (show ¬ (3 : Int32) ≤ 0 by decide), hal, if_neg hWn, if_neg (show ¬ (3 : Int32) = 0 by decide), h13, nI_1, nmq, nmq, if_neg (show ¬ (3 : Int32) = 0 by decide), if_neg (show ¬ (3 : Int32) = 1 by decide), if_neg (show ¬ (3 : Int32) = 2 by decide), if_pos rfl]
              cases f_X7_takePath (upd zM.1 13 (nI (p + 1)), zM.2) <;> rfl
            obtain ⟨zR', zRG', r, zM', b1, b2, b3, b4, b5⟩ := path_both hc5 hm5 hx5 c
            obtain ⟨yR, r', yM, e1, e2, e3, e4, e5⟩ := end_both b5
            rw [hcl, hre, b1, bdS, b2, bdS, e1, bdS, e2]
            exact ⟨_, _, _, _, _, rfl, rfl, frR_tr fr5 (frR_tr b3 e3), frm_tr (A_sub (a := []) fm5) (frm_tr b4 e4), e5⟩
          · have n112 : ¬ nI (t p) = 112 := fun q => w112 ((hne 112 (by omega)).mp q)
            by_cases w104 : t p = 104
            · have hcl : f_X4_readClause zR zRG zRS = ((f_X4_readHedge (upd zR.1 4 (nI (p + 1)), zR.2) zRG zRS).bind fun q => (f_X4_readEnd q.1).bind fun z => some (z, zRG, q.2)) := by
                unfold f_X4_readClause
                rw [h4, nmq, ald_s _ _ (show p < 240 by omega) (by omega), htp.1, w104, nI_1, nmq, nmq, if_neg hfd]; rfl
              have hre : f_X7_takeClause zM = ((f_X7_takeHedge (upd zM.1 13 (nI (p + 1)), zM.2)).bind fun q => endE q.1 q.2) := by
                unfold f_X7_takeClause
                rw [hh, bdS, nmq, nmq, if_neg n103, if_neg n115, if_neg n101, if_neg n112, if_pos (show nI (t p) = 104 by rw [w104]; rfl), bdS, if_neg (show ¬ (4 : Int32) < 0 by decide), if_neg (show ¬ (4 : Int32) ≤ 0 by decide), hal, if_neg hWn, if_neg (show ¬ (4 : Int32) = 0 by decide), h13, nI_1, nmq, nmq, if_neg (show ¬ (4 : Int32) = 0 by decide), if_neg (show ¬ (4 : Int32) = 1 by decide), if_neg (show ¬ (4 : Int32) = 2 by decide), if_neg (show ¬ (4 : Int32) = 3 by decide)]
                cases f_X7_takeHedge (upd zM.1 13 (nI (p + 1)), zM.2) <;> rfl
              obtain ⟨zR', zRS', r, zM', b1, b2, b3, b4, b5⟩ := hedge_both hc5 hm5 hx5 c
              obtain ⟨yR, r', yM, e1, e2, e3, e4, e5⟩ := end_both b5
              rw [hcl, hre, b1, bdS, b2, bdS, e1, bdS, e2]
              exact ⟨_, _, _, _, _, rfl, rfl, frR_tr fr5 (frR_tr b3 e3), frm_tr (A_sub (a := []) fm5) (frm_tr b4 e4), e5⟩
            · have n104 : ¬ nI (t p) = 104 := fun q => w104 ((hne 104 (by omega)).mp q)
              obtain ⟨zF, zR', f1, f2, f3, f4, f5, f6, f7⟩ := fail_end (p := p) (k := 1) zM hc5 (by omega) (by omega)
              have hcl : f_X4_readClause zR zRG zRS = ((f_X4_fail (upd zR.1 4 (nI (p + 1)), zR.2) (1 : Int32) (nI p)).bind fun z => (f_X4_readEnd z).bind fun y => some (y, zRG, zRS)) := by
                unfold f_X4_readClause
                rw [h4, nmq, ald_s _ _ (show p < 240 by omega) (by omega), htp.1, nI_1, nmq, nmq, if_neg hfd, nmq]
                exact chainD _ _ _ _ _ _ n101 n103 n104 n112 n115
              have hre : f_X7_takeClause zM = some (1, ((upd zM.1 12 (nI p), zM.2) : MS)) := by
                unfold f_X7_takeClause
                rw [hh, bdS, nmq, nmq, if_neg n103, if_neg n115, if_neg n101, if_neg n112, if_neg n104, bdS, if_pos (show (-1 : Int32) < 0 by decide), h13]
                rfl
              rw [hcl, hre, show f_X4_fail (upd zR.1 4 (nI (p + 1)), zR.2) (1 : Int32) (nI p) = some zF from f1, bdS, f3, bdS]
              exact ⟨_, _, _, _, _, rfl, rfl, frR_tr fr5 f5, fr12, Or.inr f7⟩

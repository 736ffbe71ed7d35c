/-! ===== clauses: soil, owned, path, hedge ===== -/
def stC (N : Nat) (t : Nat → Nat) (p : Nat) (zR : RS) : Prop := RTc N t p zR ∧ zR.1 6 = 0 ∧ zR.1 7 = -1
def stM (N : Nat) (t : Nat → Nat) (p : Nat) (zM : MS) : Prop := RTm N t p zM ∧ zM.1 12 = -1
def badX (N : Nat) (t : Nat → Nat) (zR : RS) (zM : MS) (r : Int32) : Prop := ∃ k q p, 1 ≤ k ∧ k ≤ 4 ∧ r = nI k ∧ RTc N t p zR ∧ zR.1 6 = nI k ∧ zR.1 7 = nI q ∧ zM.1 12 = nI q
def RDm (W H : Nat) (so : Nat → Nat) (pa : Nat → Bool) (hd ag : Nat → Nat) (ow : Int32) (zM : MS) : Prop :=
  zM.2 16 0 = nI W ∧ zM.2 16 1 = nI H ∧ (∀ f, f < W * H → zM.2 17 f = nI (so f)) ∧ (∀ e, e < 40 → zM.2 19 e = (if pa e then 1 else 0) ∧ zM.2 20 e = (if hd e = 0 then -1 else nI (hd e - 1)) ∧ (hd e ≠ 0 → zM.2 21 e = nI (ag e))) ∧ zM.1 18 = ow
def RDx (W H : Nat) (so : Nat → Nat) (pa : Nat → Bool) (hd ag : Nat → Nat) (ow : Int32) (zRG : GS) (zRS : SS) (zM : MS) : Prop := okB W H = true ∧ soOk so ∧ GC W H so pa zRG ∧ SK W H hd ag (fun _ => false) ow 0 ∧ SC W H hd ag (fun _ => false) ow 0 zRS ∧ RDm W H so pa hd ag ow zM ∧ (W = 0 → (∀ e, pa e = false ∧ hd e = 0) ∧ ow = 0 ∧ zRS.1 1 = 0 ∧ zRS.1 2 = 0)
def RD (zRG : GS) (zRS : SS) (zM : MS) : Prop := ∃ W H so pa hd ag ow, RDx W H so pa hd ag ow zRG zRS zM
def outC (N : Nat) (t : Nat → Nat) (p : Nat) (zRG : GS) (zRS : SS) (zR : RS) (zM : MS) (r : Int32) : Prop := (r = 0 ∧ ∃ q, p ≤ q ∧ stC N t q zR ∧ stM N t q zM ∧ RD zRG zRS zM) ∨ badX N t zR zM r
theorem RDm_fr {W H : Nat} {so : Nat → Nat} {pa : Nat → Bool} {hd ag : Nat → Nat} {ow : Int32} {z0 z : MS} {a b : List Nat} (h : RDm W H so pa hd ag ow z0) (fr : frm a b z0 z) (h18 : 18 ∉ a) (h16 : 16 ∉ b) (h17 : 17 ∉ b) (h19 : 19 ∉ b) (h20 : 20 ∉ b) (h21 : 21 ∉ b) : RDm W H so pa hd ag ow z := by
  unfold RDm
  rw [fr.1 18 h18, fr.2 16 h16, fr.2 17 h17, fr.2 19 h19, fr.2 20 h20, fr.2 21 h21]
  exact h
theorem num_both {N : Nat} {t : Nat → Nat} {p lo hi : Nat} {zR : RS} {zM : MS} (hc : stC N t p zR) (hm : stM N t p zM) (hl : lo < 2 ^ 30) (hh : hi < 2 ^ 30) :
    (∃ v q1 q2 zR' zM', lo ≤ v ∧ v ≤ hi ∧ p ≤ q2 ∧ f_X4_readNumber zR (nI lo) (nI hi) = some (nI v, zR') ∧ f_X7_takeNumber zM (nI lo) (nI hi) = some (0, zM') ∧ frR [4, 5, 6, 7] zR zR' ∧ frm [12, 13, 14, 15] [] zM zM' ∧ stC N t q2 zR' ∧ stM N t q2 zM' ∧ zR'.1 5 = nI q1 ∧ zM'.1 14 = nI v ∧ zM'.1 15 = nI q1) ∨
    (∃ k x zR' zM', 1 ≤ k ∧ k ≤ 4 ∧ f_X4_readNumber zR (nI lo) (nI hi) = some (x, zR') ∧ f_X7_takeNumber zM (nI lo) (nI hi) = some (nI k, zM') ∧ frR [4, 5, 6, 7] zR zR' ∧ frm [12, 13, 14, 15] [] zM zM' ∧ badX N t zR' zM' (nI k)) := by
  rcases num_c hc.1 hc.2.1 hl hh with ⟨v, q1, q2, z, c1, c2, c3, c4, c5, c6, c7⟩ | ⟨k, q, x, z, r, c1, c2, c3, c4, c5, c6, c7⟩
  · rcases num_m hm.1 hl hh with ⟨w, r1, r2, y, m1, m2, m3, m4, m5, m6⟩ | ⟨k, q, y, m1, -⟩
    · obtain ⟨e1, e2, e3⟩ := num_one c1 m1
      subst e1; subst e2; subst e3
      have hq2 := c1.2.1.2.1
      refine Or.inl ⟨v, q1, q2, z, y, c1.2.2.2.2.2.1, c1.2.2.2.2.2.2, ?_, c2, m2, c3, frm_mono m3 (fun k hk => by simp at hk; rcases hk with hk | hk | hk <;> simp [hk]) (fun k hk => hk), ⟨RTc_fr hc.1 c3 c4 hq2, c6, by rw [c7]; exact hc.2.2⟩, ⟨RTm_fr hm.1 m3 (by decide) (by decide) m4 hq2, by rw [m3.1 12 (by decide)]; exact hm.2⟩, c5, m5, m6⟩
      have := c1.1.1
      have := c1.2.1.1
      omega
    · exact absurd m1 (fun b => num_not c1 b)
  · rcases num_m hm.1 hl hh with ⟨w, r1, r2, y, m1, -⟩ | ⟨k2, q2, y, m1, m2, m3, m4⟩
    · exact absurd c1 (fun b => num_not m1 b)
    · obtain ⟨e1, e2⟩ := num_bad_one c1 m1
      subst e1; subst e2
      have hk : 1 ≤ k ∧ k ≤ 4 := by
        obtain ⟨_, _, _, h⟩ := c1
        omega
      exact Or.inr ⟨k, x, z, y, hk.1, hk.2, c2, m2, c3, m3, k, q, r, hk.1, hk.2, rfl, RTc_fr hc.1 c3 c4 c5, c6, c7, m4⟩
theorem bad_6 {N : Nat} {t : Nat → Nat} {zR : RS} {zM : MS} {r : Int32} (h : badX N t zR zM r) : ¬ zR.1 6 = 0 ∧ ¬ r = 0 ∧ ¬ r ≤ 0 := by
  obtain ⟨k, q, p, h1, h2, h3, h4, h5, -⟩ := h
  rw [h5, h3]
  exact ⟨nI_ne0 (by omega) (by omega), nI_ne0 (by omega) (by omega), nI_nle (by omega) (by omega)⟩
theorem num_f {zR : RS} (h : ¬ zR.1 6 = 0) (a b : Int32) : f_X4_readNumber zR a b = some (a, zR) := by
  unfold f_X4_readNumber
  rw [if_neg h]
theorem bad_m {N : Nat} {t : Nat → Nat} {zR : RS} {zM z : MS} {r : Int32} (h : badX N t zR zM r) (e : z.1 12 = zM.1 12) : badX N t zR z r := by
  obtain ⟨k, q, p, h1, h2, h3, h4, h5, h6, h7⟩ := h
  exact ⟨k, q, p, h1, h2, h3, h4, h5, h6, by rw [e]; exact h7⟩
/-- a fault of the fourth kind, by both -/
theorem fault4 {N : Nat} {t : Nat → Nat} {p q1 : Nat} {zR : RS} {zM : MS} (hc : stC N t p zR) (h5 : zR.1 5 = nI q1) (h15 : zM.1 15 = nI q1) :
    ∃ zR', f_X4_fail zR (4 : Int32) (zR.1 5) = some zR' ∧ frR [4, 5, 6, 7] zR zR' ∧ badX N t zR' (upd zM.1 12 (zM.1 15), zM.2) 4 := by
  refine ⟨_, fail_c hc.2.1, frR_1 (z := (upd zR.1 6 4, zR.2)) (frR_1 (frR_refl _ _) (by decide) _) (by decide) _, 4, q1, p, by omega, by omega, rfl, ⟨hc.1.1, hc.1.2.1, hc.1.2.2.1, hc.1.2.2.2.1, hc.1.2.2.2.2⟩, rfl, h5, h15⟩
theorem A_sub {a : List Nat} {z0 z : MS} (h : frm [12, 13, 14, 15] [] z0 z) : frm [12, 13, 14, 15, 18] [16, 17, 19, 20, 21] z0 z := frm_mono h (fun k hk => by simp at hk; rcases hk with hk | hk | hk | hk <;> simp [hk]) (fun k hk => by cases hk)
theorem soil_both {N : Nat} {t : Nat → Nat} {p : Nat} {zR : RS} {zRG : GS} {zRS : SS} {zM : MS} {W H : Nat} {so : Nat → Nat} {pa : Nat → Bool} {hd ag : Nat → Nat} {ow : Int32} (hc : stC N t p zR) (hm : stM N t p zM) (hr : RDx W H so pa hd ag ow zRG zRS zM) (hW : ¬ W * H = 0) :
    ∃ zR' zRG' r zM', f_X4_readSoil zR zRG = some (zR', zRG') ∧ f_X7_takeSoil zM = some (r, zM') ∧ frR [4, 5, 6, 7] zR zR' ∧ frm [12, 13, 14, 15, 18] [16, 17, 19, 20, 21] zM zM' ∧ outC N t p zRG' zRS zR' zM' r := by
  obtain ⟨ok, hso, hG, hK, hS, hm2, hW0⟩ := hr
  have hgn := geo_n ok
  have hrf : f_X7_readFields zM = some (nI (W * H)) := by
    unfold f_X7_readFields
    rw [show (0 : Int32) = nI 0 from rfl, show (1 : Int32) = nI 1 from rfl, ald_s _ _ (show 0 < 3 by omega) (by omega), ald_s _ _ (show 1 < 3 by omega) (by omega), hm2.1, hm2.2.1, pk_mul]
  have hhi : nI (W * H) - 1 = nI (W * H - 1) := pk_sub (b := 1) (by omega)
  unfold f_X4_readSoil f_X7_takeSoil
  rw [hG.1.2.2.1, hrf, bdS, hhi]
  rcases num_both (lo := 0) (hi := W * H - 1) hc hm (by omega) (by omega) with ⟨v, q1, q2, zR', zM', b1, b2, b3, b4, b5, b6, b7, b8, b9, b10, b11, b12⟩ | ⟨k, x, zR', zM', b1, b2, b3, b4, b5, b6, b7⟩
  · rw [show f_X4_readNumber zR (0 : Int32) (nI (W * H - 1)) = some (nI v, zR') from b4, bdS, nmq, nmq, show f_X7_takeNumber zM (0 : Int32) (nI (W * H - 1)) = some (0, zM') from b5, bdS, nmq, nmq, nmq, if_pos (show (0 : Int32) ≤ 0 by decide), b11]
    rcases num_both (lo := 0) (hi := 9) b8 b9 (by omega) (by omega) with ⟨s, r1, r2, yR, yM, c1, c2, c3, c4, c5, c6, c7, c8, c9, c10, c11, c12⟩ | ⟨k, x, yR, yM, c1, c2, c3, c4, c5, c6, c7⟩
    · rw [show f_X4_readNumber zR' (0 : Int32) (9 : Int32) = some (nI s, yR) from c4, bdS, nmq, nmq, if_pos c8.2.1, ast_s _ (show v < 25 by omega) (by omega), nI_clamp (by omega), nmq, show f_X7_takeNumber zM' (0 : Int32) (9 : Int32) = some (0, yM) from c5, bdS, nmq, nmq, bdS, nmq, nmq, if_pos rfl, c11, nmq, ast_s _ (show v < 25 by omega) (by omega), nmq]
      have fr : frm [12, 13, 14, 15] [] zM yM := frm_tr b7 c7
      have hm3 := RDm_fr hm2 fr (by decide) (by decide) (by decide) (by decide) (by decide) (by decide)
      refine ⟨_, _, _, _, rfl, rfl, frR_tr b6 c6, frm_2 (A_sub (a := []) fr) (by decide) _, Or.inl ⟨rfl, r2, by omega, c8, ⟨⟨c9.1.1, c9.1.2.1, c9.1.2.2.1, c9.1.2.2.2.1, c9.1.2.2.2.2⟩, c9.2⟩, W, H, va_up so v s, pa, hd, ag, ow, ok, fun f => ?_, ⟨hG.1, hG.2.1, hG.2.2.1, fun f hf => ?_, hG.2.2.2.2⟩, hK, hS, ⟨hm3.1, hm3.2.1, fun f hf => ?_, hm3.2.2.2.1, hm3.2.2.2.2⟩, hW0⟩⟩
      · by_cases z : f = v
        · rw [z, zu_eq]; omega
        · rw [zu_ne _ _ z]; exact hso f
      · show upd (zRG.2.2.1 9) v (nI s) f = nI (va_up so v s f)
        by_cases z : f = v
        · rw [z, ud_eq, zu_eq]
        · rw [ud_ne _ _ z, zu_ne _ _ z]; exact hG.2.2.2.1 f hf
      · show upd (yM.2 17) v (nI s) f = nI (va_up so v s f)
        by_cases z : f = v
        · rw [z, ud_eq, zu_eq]
        · rw [ud_ne _ _ z, zu_ne _ _ z]; exact hm3.2.2.1 f hf
    · have hb := bad_6 c7
      rw [show f_X4_readNumber zR' (0 : Int32) (9 : Int32) = some (x, yR) from c3, bdS, nmq, nmq, if_neg hb.1, show f_X7_takeNumber zM' (0 : Int32) (9 : Int32) = some (nI k, yM) from c4, bdS, nmq, nmq, bdS, nmq, nmq, if_neg hb.2.1]
      exact ⟨_, _, _, _, rfl, rfl, frR_tr b6 c5, A_sub (a := []) (frm_tr b7 c6), Or.inr c7⟩
  · have hb := bad_6 b7
    rw [show f_X4_readNumber zR (0 : Int32) (nI (W * H - 1)) = some (x, zR') from b3, bdS, nmq, nmq, num_f hb.1, bdS, nmq, nmq, if_neg hb.1, show f_X7_takeNumber zM (0 : Int32) (nI (W * H - 1)) = some (nI k, zM') from b4, bdS, nmq, nmq, nmq, if_neg hb.2.2, bdS, nmq, nmq, if_neg hb.2.1]
    exact ⟨_, _, _, _, rfl, rfl, b5, A_sub (a := []) b6, Or.inr b7⟩
theorem own_both {N : Nat} {t : Nat → Nat} {p : Nat} {zR : RS} {zRG : GS} {zRS : SS} {zM : MS} {W H : Nat} {so : Nat → Nat} {pa : Nat → Bool} {hd ag : Nat → Nat} {ow : Int32} (hc : stC N t p zR) (hm : stM N t p zM) (hr : RDx W H so pa hd ag ow zRG zRS zM) (hW : ¬ W * H = 0) :
    ∃ zR' zRS' r zM', f_X4_readOwned zR zRG zRS = some (zR', zRS') ∧ f_X7_takeOwn zM = some (r, zM') ∧ frR [4, 5, 6, 7] zR zR' ∧ frm [12, 13, 14, 15, 18] [16, 17, 19, 20, 21] zM zM' ∧ outC N t p zRG zRS' zR' zM' r := by
  obtain ⟨ok, hso, hG, hK, hS, hm2, hW0⟩ := hr
  have hgn := geo_n ok
  have hrf : f_X7_readFields zM = some (nI (W * H)) := by
    unfold f_X7_readFields
    rw [show (0 : Int32) = nI 0 from rfl, show (1 : Int32) = nI 1 from rfl, ald_s _ _ (show 0 < 3 by omega) (by omega), ald_s _ _ (show 1 < 3 by omega) (by omega), hm2.1, hm2.2.1, pk_mul]
  have hhi : nI (W * H) - 1 = nI (W * H - 1) := pk_sub (b := 1) (by omega)
  unfold f_X4_readOwned f_X7_takeOwn
  rw [hG.1.2.2.1, hrf, bdS, hhi]
  rcases num_both (lo := 0) (hi := W * H - 1) hc hm (by omega) (by omega) with ⟨v, q1, q2, zR', zM', b1, b2, b3, b4, b5, b6, b7, b8, b9, b10, b11, b12⟩ | ⟨k, x, zR', zM', b1, b2, b3, b4, b5, b6, b7⟩
  · have hm3 := RDm_fr hm2 b7 (by decide) (by decide) (by decide) (by decide) (by decide) (by decide)
    rw [show f_X4_readNumber zR (0 : Int32) (nI (W * H - 1)) = some (nI v, zR') from b4, bdS, nmq, nmq, if_pos b8.2.1, pc_ownerOf zRS (show v < 32 by omega), bdS, hS.2.2.1, show f_X7_takeNumber zM (0 : Int32) (nI (W * H - 1)) = some (0, zM') from b5, bdS, nmq, nmq, if_pos rfl, hm3.2.2.2.2, b11, pm_has _ (show v < 32 by omega), bdS, if_one]
    cases ho : bt ow v
    · rw [if_neg (show ¬ (if false = true then (1 : Int32) else 0) = 1 by decide), bdS, if_pos b8.2.1, nmq, nmq, if_neg (by decide), if_pos rfl, nmq, nmq]
      have hK2 : SK W H hd ag (fun _ => false) (ow ||| ((1 : Int32) <<< (nI v &&& 31))) 0 := ⟨hK.1, fun i hi => by
        rw [b_or, b_pow v (by omega), Bool.or_eq_true, decide_eq_true_eq] at hi
        rcases hi with z | z
        · exact hK.2.1 i z
        · omega, rfl⟩
      refine ⟨_, _, _, _, rfl, rfl, b6, frm_1 (A_sub (a := []) b7) (by decide) _, Or.inl ⟨rfl, q2, b3, b8, ⟨⟨b9.1.1, b9.1.2.1, b9.1.2.2.1, b9.1.2.2.2.1, b9.1.2.2.2.2⟩, b9.2⟩, W, H, so, pa, hd, ag, _, ok, hso, hG, hK2, ⟨hS.1, hS.2.1, rfl, hS.2.2.2⟩, ⟨hm3.1, hm3.2.1, hm3.2.2.1, hm3.2.2.2.1, rfl⟩, fun z => ?_⟩⟩
      exact absurd (by rw [z, Nat.zero_mul]) hW
    · obtain ⟨yR, f1, f2, f3⟩ := fault4 b8 b10 b12
      have hb := bad_6 f3
      rw [if_pos (show (if true = true then (1 : Int32) else 0) = 1 from rfl), f1, bdS, bdS, if_neg hb.1, if_pos rfl]
      exact ⟨_, _, _, _, rfl, rfl, frR_tr b6 f2, frm_1 (A_sub (a := []) b7) (by decide) _, Or.inr f3⟩
  · have hb := bad_6 b7
    rw [show f_X4_readNumber zR (0 : Int32) (nI (W * H - 1)) = some (x, zR') from b3, bdS, nmq, nmq, if_neg hb.1, bdS, if_neg hb.1, show f_X7_takeNumber zM (0 : Int32) (nI (W * H - 1)) = some (nI k, zM') from b4, bdS, nmq, nmq, if_neg hb.2.1, if_neg hb.2.1]
    exact ⟨_, _, _, _, rfl, rfl, b5, A_sub (a := []) b6, Or.inr b7⟩
theorem eN_nI {W H : Nat} (ok : okB W H = true) (hW : ¬ W * H = 0) : (nI W - 1) * nI H + nI W * (nI H - 1) = nI (eN W H) := by
  have h1 : 0 < W := by
    rcases Nat.eq_zero_or_pos W with z | z
    · exact absurd (by rw [z, Nat.zero_mul]) hW
    · exact z
  have h2 : 0 < H := by
    rcases Nat.eq_zero_or_pos H with z | z
    · exact absurd (by rw [z, Nat.mul_zero]) hW
    · exact z
  rw [show nI W - 1 = nI (W - 1) from pk_sub (b := 1) h1, show nI H - 1 = nI (H - 1) from pk_sub (b := 1) h2, pk_mul, pk_mul, nI_add]
  rfl
theorem edge_both {N : Nat} {t : Nat → Nat} {p : Nat} {zR : RS} {zRG : GS} {zRS : SS} {zM : MS} {W H : Nat} {so : Nat → Nat} {pa : Nat → Bool} {hd ag : Nat → Nat} {ow : Int32} (hc : stC N t p zR) (hm : stM N t p zM) (hr : RDx W H so pa hd ag ow zRG zRS zM) (hW : ¬ W * H = 0) :
    (∃ e q2 zR' zM', e < eN W H ∧ hd e = 0 ∧ pa e = false ∧ p ≤ q2 ∧ f_X4_readFreeEdge zR zRG zRS = some (nI e, zR') ∧ f_X7_takeEdge zM = some (0, zM') ∧ frR [4, 5, 6, 7] zR zR' ∧ frm [12, 13, 14, 15] [] zM zM' ∧ stC N t q2 zR' ∧ stM N t q2 zM' ∧ zM'.1 14 = nI e) ∨
    (∃ x r zR' zM', f_X4_readFreeEdge zR zRG zRS = some (x, zR') ∧ f_X7_takeEdge zM = some (r, zM') ∧ frR [4, 5, 6, 7] zR zR' ∧ frm [12, 13, 14, 15] [] zM zM' ∧ badX N t zR' zM' r) := by
  obtain ⟨ok, hso, hG, hK, hS, hm2, hW0⟩ := hr
  have hgn := geo_n ok
  have hE := geo_pos ok hW
  have hre : f_X7_readEdges zM = some (nI (eN W H)) := by
    unfold f_X7_readEdges
    rw [← eN_nI ok hW, show (0 : Int32) = nI 0 from rfl, show (1 : Int32) = nI 1 from rfl, ald_s _ _ (show 0 < 3 by omega) (by omega), ald_s _ _ (show 1 < 3 by omega) (by omega), ald_s _ _ (show 0 < 3 by omega) (by omega), ald_s _ _ (show 1 < 3 by omega) (by omega), hm2.1, hm2.2.1]
  have hhi : nI (eN W H) - 1 = nI (eN W H - 1) := pk_sub (b := 1) (by omega)
  unfold f_X4_readFreeEdge f_X7_takeEdge
  rw [hG.1.2.2.2, hre, bdS, hhi]
  rcases num_both (lo := 0) (hi := eN W H - 1) hc hm (by omega) (by omega) with ⟨v, q1, q2, zR', zM', b1, b2, b3, b4, b5, b6, b7, b8, b9, b10, b11, b12⟩ | ⟨k, x, zR', zM', b1, b2, b3, b4, b5, b6, b7⟩
  · have hm3 := RDm_fr hm2 b7 (by decide) (by decide) (by decide) (by decide) (by decide) (by decide)
    have hv : v < eN W H := by omega
    have hrow := hm3.2.2.2.1 v (by omega)
    have hkv := (hK.1 v).1
    rw [show f_X4_readNumber zR (0 : Int32) (nI (eN W H - 1)) = some (nI v, zR') from b4, bdS, nmq, nmq, if_pos b8.2.1, ald_s _ _ (show v < 40 by omega) (by omega), (hG.2.2.2.2 v hv).2.2, show f_X7_takeNumber zM (0 : Int32) (nI (eN W H - 1)) = some (0, zM') from b5, bdS, nmq, nmq, if_pos rfl, b11, ald_s _ _ (show v < 40 by omega) (by omega), hrow.1, ald_s _ _ (show v < 40 by omega) (by omega), hrow.2.1]
    have hbit : bl (zRG.2.1 ||| zRS.1 0) (ePl W H v) = (pa v || decide (hd v ≠ 0)) := by rw [l_or, hG.2.2.1 v hv, (hS.2.1 v hv).1]
    by_cases c : pa v = false ∧ hd v = 0
    · left
      rw [if_pos ((ES_test ok hv).mpr (by rw [hbit, c.1, c.2]; rfl)), c.1, if_pos (show (if false = true then (1 : Int32) else 0) = 0 from rfl), if_pos c.2, if_pos (show (-1 : Int32) < 0 by decide)]
      exact ⟨v, q2, zR', zM', hv, c.2, c.1, b3, rfl, rfl, b6, b7, b8, b9, b11⟩
    · right
      obtain ⟨yR, f1, f2, f3⟩ := fault4 b8 b10 b12
      rw [if_neg (fun z => c (by
        rw [ES_test ok hv, hbit, Bool.or_eq_false_iff] at z
        exact ⟨z.1, by simpa using z.2⟩)), f1, bdS]
      have fr2 : frm [12, 13, 14, 15] [] zM (upd zM'.1 12 (zM'.1 15), zM'.2) := frm_1 b7 (by decide) _
      cases hp : pa v
      · have hd0 : ¬ hd v = 0 := fun z => c ⟨hp, z⟩
        rw [if_pos (show (if false = true then (1 : Int32) else 0) = 0 from rfl), if_neg hd0, if_neg (nI_pos (by omega))]
        exact ⟨_, _, yR, _, rfl, rfl, frR_tr b6 f2, fr2, f3⟩
      · rw [if_neg (show ¬ (if true = true then (1 : Int32) else 0) = 0 by decide)]
        exact ⟨_, _, yR, _, rfl, rfl, frR_tr b6 f2, fr2, f3⟩
  · right
    have hb := bad_6 b7
    rw [show f_X4_readNumber zR (0 : Int32) (nI (eN W H - 1)) = some (x, zR') from b3, bdS, nmq, nmq, if_neg hb.1, show f_X7_takeNumber zM (0 : Int32) (nI (eN W H - 1)) = some (nI k, zM') from b4, bdS, nmq, nmq, if_neg hb.2.1]
    exact ⟨_, _, zR', zM', rfl, rfl, b5, b6, b7⟩
theorem path_both {N : Nat} {t : Nat → Nat} {p : Nat} {zR : RS} {zRG : GS} {zRS : SS} {zM : MS} {W H : Nat} {so : Nat → Nat} {pa : Nat → Bool} {hd ag : Nat → Nat} {ow : Int32} (hc : stC N t p zR) (hm : stM N t p zM) (hr : RDx W H so pa hd ag ow zRG zRS zM) (hW : ¬ W * H = 0) :
    ∃ zR' zRG' r zM', f_X4_readPath zR zRG zRS = some (zR', zRG') ∧ f_X7_takePath zM = some (r, zM') ∧ frR [4, 5, 6, 7] zR zR' ∧ frm [12, 13, 14, 15, 18] [16, 17, 19, 20, 21] zM zM' ∧ outC N t p zRG' zRS zR' zM' r := by
  have hr0 := hr
  obtain ⟨ok, hso, hG, hK, hS, hm2, hW0⟩ := hr
  have hgn := geo_n ok
  unfold f_X4_readPath f_X7_takePath
  rcases edge_both hc hm hr0 hW with ⟨e, q2, zR', zM', b0, b1, b2, b3, b4, b5, b6, b7, b8, b9, b10⟩ | ⟨x, r, zR', zM', b1, b2, b3, b4, b5⟩
  · have hm3 := RDm_fr hm2 b7 (by decide) (by decide) (by decide) (by decide) (by decide) (by decide)
    rw [b4, bdS, nmq, nmq, if_pos b8.2.1, ald_s _ _ (show e < 40 by omega) (by omega), (hG.2.2.2.2 e b0).2.2, nmq, nmq, b5, bdS, nmq, nmq, if_pos rfl, b10, ast_s _ (show e < 40 by omega) (by omega), nI_clamp (by omega), nmq, nar1]
    have hpl := ES_pl ok b0
    refine ⟨_, _, _, _, rfl, rfl, b6, frm_2 (A_sub (a := []) b7) (by decide) _, Or.inl ⟨rfl, q2, b3, b8, ⟨⟨b9.1.1, b9.1.2.1, b9.1.2.2.1, b9.1.2.2.2.1, b9.1.2.2.2.2⟩, b9.2⟩, W, H, so, va_up pa e true, hd, ag, ow, ok, hso, ⟨hG.1, hG.2.1, fun d hdl => ?_, hG.2.2.2.1, hG.2.2.2.2⟩, hK, hS, ⟨hm3.1, hm3.2.1, hm3.2.2.1, fun d hdl => ⟨?_, (hm3.2.2.2.1 d hdl).2⟩, hm3.2.2.2.2⟩, fun z => absurd (by rw [z, Nat.zero_mul]) hW⟩⟩
    · show bl (zRG.2.1 ||| lshl 1 (nI (ePl W H e))) (ePl W H d) = va_up pa e true d
      rw [l_or, hG.2.2.1 d hdl, hpl.1 d hdl]
      by_cases z : d = e
      · rw [z, zu_eq]; simp
      · rw [zu_ne _ _ z]; simp [z]
    · show upd (zM'.2 19) e 1 d = if va_up pa e true d then 1 else 0
      by_cases z : d = e
      · rw [z, ud_eq, zu_eq]; rfl
      · rw [ud_ne _ _ z, zu_ne _ _ z]; exact (hm3.2.2.2.1 d hdl).1
  · have hb := bad_6 b5
    rw [b1, bdS, nmq, nmq, if_neg hb.1, b2, bdS, nmq, nmq, if_neg hb.2.1]
    exact ⟨_, _, _, _, rfl, rfl, b3, A_sub (a := []) b4, Or.inr b5⟩
theorem hedge_both {N : Nat} {t : Nat → Nat} {p : Nat} {zR : RS} {zRG : GS} {zRS : SS} {zM : MS} {W H : Nat} {so : Nat → Nat} {pa : Nat → Bool} {hd ag : Nat → Nat} {ow : Int32} (hc : stC N t p zR) (hm : stM N t p zM) (hr : RDx W H so pa hd ag ow zRG zRS zM) (hW : ¬ W * H = 0) :
    ∃ zR' zRS' r zM', f_X4_readHedge zR zRG zRS = some (zR', zRS') ∧ f_X7_takeHedge zM = some (r, zM') ∧ frR [4, 5, 6, 7] zR zR' ∧ frm [12, 13, 14, 15, 18] [16, 17, 19, 20, 21] zM zM' ∧ outC N t p zRG zRS' zR' zM' r := by
  have hr0 := hr
  obtain ⟨ok, hso, hG, hK, hS, hm2, hW0⟩ := hr
  have hgn := geo_n ok
  unfold f_X4_readHedge f_X7_takeHedge
  rcases edge_both hc hm hr0 hW with ⟨e, q2, zR', zM', b0, b1, b2, b3, b4, b5, b6, b7, b8, b9, b10⟩ | ⟨x, r, zR', zM', b1, b2, b3, b4, b5⟩
  · rw [b4, bdS, nmq, nmq, b5, bdS, nmq, nmq, nmq, if_pos (show (0 : Int32) ≤ 0 by decide), b10]
    rcases num_both (lo := 0) (hi := 1) b8 b9 (by omega) (by omega) with ⟨a, r1, r2, yR, yM, c1, c2, c3, c4, c5, c6, c7, c8, c9, c10, c11, c12⟩ | ⟨k, x, yR, yM, c1, c2, c3, c4, c5, c6, c7⟩
    · rw [show f_X4_readNumber zR' (0 : Int32) (1 : Int32) = some (nI a, yR) from c4, bdS, nmq, nmq, show f_X7_takeNumber zM' (0 : Int32) (1 : Int32) = some (0, yM) from c5, bdS, nmq, nmq, bdS, nmq, nmq, nmq, if_pos (show (0 : Int32) ≤ 0 by decide), c11]
      rcases num_both (lo := 1) (hi := 99) c8 c9 (by omega) (by omega) with ⟨g, s1, s2, xR, xM, d1, d2, d3, d4, d5, d6, d7, d8, d9, d10, d11, d12⟩ | ⟨k, x, xR, xM, d1, d2, d3, d4, d5, d6, d7⟩
      · have fr : frm [12, 13, 14, 15] [] zM xM := frm_tr b7 (frm_tr c7 d7)
        have hm3 := RDm_fr hm2 fr (by decide) (by decide) (by decide) (by decide) (by decide) (by decide)
        obtain ⟨z, z1, z2⟩ := pc_set ok hS b0 (show a < 2 by omega) (g := g)
        rw [show f_X4_readNumber yR (1 : Int32) (99 : Int32) = some (nI g, xR) from d4, bdS, nmq, nmq, if_pos d8.2.1, ald_s _ _ (show e < 40 by omega) (by omega), (hG.2.2.2.2 e b0).2.2, z1, bdS, show f_X7_takeNumber yM (1 : Int32) (99 : Int32) = some (0, xM) from d5, bdS, nmq, nmq, bdS, nmq, nmq, if_pos rfl, ast_s _ (show e < 40 by omega) (by omega), nI_clamp (by omega), nmq, nmq, ast_s _ (show e < 40 by omega) (by omega), nmq]
        rw [show ((xM.1, va_up xM.2 20 (upd (xM.2 20) e (nI a))) : MS).1 14 = nI g from d11]
        have hK2 := SK_set hK (e := e) (h := a + 1) (g := g) (by omega) (by omega) false (fun _ => rfl)
        rw [up_same (f := fun _ => false) (k := e) rfl] at hK2
        refine ⟨_, _, _, _, rfl, rfl, frR_tr b6 (frR_tr c6 d6), frm_2 (z := (xM.1, va_up xM.2 20 (upd (xM.2 20) e (nI a)))) (frm_2 (A_sub (a := []) fr) (by decide) _) (by decide) _, Or.inl ⟨rfl, s2, by omega, d8, ⟨⟨d9.1.1, d9.1.2.1, d9.1.2.2.1, d9.1.2.2.2.1, d9.1.2.2.2.2⟩, d9.2⟩, W, H, so, pa, va_up hd e (a + 1), va_up ag e g, ow, ok, hso, hG, hK2, z2, ⟨hm3.1, hm3.2.1, hm3.2.2.1, fun d hdl => ⟨(hm3.2.2.2.1 d hdl).1, ?_, fun hne => ?_⟩, hm3.2.2.2.2⟩, fun z => absurd (by rw [z, Nat.zero_mul]) hW⟩⟩
        · show upd (xM.2 20) e (nI a) d = if va_up hd e (a + 1) d = 0 then -1 else nI (va_up hd e (a + 1) d - 1)
          by_cases z : d = e
          · rw [z, ud_eq, zu_eq, if_neg (by omega)]; rfl
          · rw [ud_ne _ _ z, zu_ne _ _ z]; exact (hm3.2.2.2.1 d hdl).2.1
        · show upd (xM.2 21) e (nI g) d = nI (va_up ag e g d)
          by_cases z : d = e
          · rw [z, ud_eq, zu_eq]
          · rw [ud_ne _ _ z, zu_ne _ _ z]
            rw [zu_ne _ _ z] at hne
            exact (hm3.2.2.2.1 d hdl).2.2 hne
      · have hb := bad_6 d7
        rw [show f_X4_readNumber yR (1 : Int32) (99 : Int32) = some (x, xR) from d3, bdS, nmq, nmq, if_neg hb.1, show f_X7_takeNumber yM (1 : Int32) (99 : Int32) = some (nI k, xM) from d4, bdS, nmq, nmq, bdS, nmq, nmq, if_neg hb.2.1]
        exact ⟨_, _, _, _, rfl, rfl, frR_tr b6 (frR_tr c6 d5), A_sub (a := []) (frm_tr b7 (frm_tr c7 d6)), Or.inr d7⟩
    · have hb := bad_6 c7
      rw [show f_X4_readNumber zR' (0 : Int32) (1 : Int32) = some (x, yR) from c3, bdS, nmq, nmq, num_f hb.1, bdS, nmq, nmq, if_neg hb.1, show f_X7_takeNumber zM' (0 : Int32) (1 : Int32) = some (nI k, yM) from c4, bdS, nmq, nmq, bdS, nmq, nmq, nmq, if_neg hb.2.2, bdS, nmq, nmq, if_neg hb.2.1]
      exact ⟨_, _, _, _, rfl, rfl, frR_tr b6 c5, A_sub (a := []) (frm_tr b7 c6), Or.inr c7⟩
  · have hb := bad_6 b5
    rw [b1, bdS, nmq, nmq, num_f hb.1, bdS, nmq, nmq, num_f hb.1, bdS, nmq, nmq, if_neg hb.1, b2, bdS, nmq, nmq, nmq, if_neg hb.2.2, bdS, nmq, nmq, nmq, if_neg hb.2.2, bdS, nmq, nmq, if_neg hb.2.1]
    exact ⟨_, _, _, _, rfl, rfl, b3, A_sub (a := []) b4, Or.inr b5⟩

/-! ===== field ===== -/
theorem land_cross {W H : Nat} {sh : Nat → Bool} {A R : Int32} (h : isLand W H sh A R) {e : Nat} (he : e < eN W H) (hc : crossB W H R e = true) : sh e = true := by
  cases q : sh e
  · have := h.2 e he q
    unfold crossB at hc
    rw [this, Bool.xor_self] at hc
    cases hc
  · rfl
theorem shut_hd {W H : Nat} {so hd ag : Nat → Nat} {ga : Nat → Bool} {e : Nat} (h : shutB W H so hd ag ga e = true) : hd e ≠ 0 := by
  intro q
  unfold shutB tallB at h
  rw [q] at h
  simp at h
theorem land_self {W H : Nat} {sh : Nat → Bool} {f : Nat} {R : Int32} (hf : f < 32) (h : isLand W H sh ((1 : Int32) <<< (nI f &&& 31)) R) : bt R f = true := h.1.2.1 f (by rw [b_pow f hf]; simp)
theorem pow_in {W H : Nat} (ok : okB W H = true) {f : Nat} (hf : f < W * H) : ∀ i, bt ((1 : Int32) <<< (nI f &&& 31)) i = true → i < W * H := fun i hi => by
  have hgn := geo_n ok
  rw [b_pow f (by omega), decide_eq_true_eq] at hi
  omega
theorem sim_4 : SM_4 Rel := by
  intro zX zR zRG zRS zG zS zP zQ zN zI zJ zT zM a1 a2 hR
  have hR0 := hR
  obtain ⟨W, H, ok, ⟨so, pa, hso, hGC, hGM⟩, ⟨hd, ag, ga, ow, yr, hSK, hSC, hSM⟩, hP, hI, hN, hT, hf, hs, hs0⟩ := hR
  have hgn := geo_n ok
  suffices hx : ∃ v, f_X6_field zX zG zS a1 a2 = some v ∧ f_X7_field zM a1 a2 = some v by
    obtain ⟨v, e1, e2⟩ := hx
    unfold sp_4
    rw [e1, e2]
    simp only [Option.bind_some, if_true]
    exact ⟨_, rfl, hR0⟩
  unfold f_X6_field f_X7_field
  rw [pc_hasField ok hGC, pm_isField ok hGM]
  simp only [Option.bind_some, if_one, nm_s]
  by_cases c : inR a1 (W * H) = true
  · obtain ⟨f, hfl, rfl⟩ := (inR_nI (by omega)).mp c
    rw [if_pos c, if_pos c, show (3 : Int32) = nI 3 from rfl, rng_le a2 (n := 3) (by omega)]
    by_cases d : inR a2 4 = true
    · rw [if_pos d]
      obtain ⟨t, ht1, ht2⟩ := pc_shut ok hso hGC hSK hSC
      obtain ⟨R, hR1, hR2⟩ := pc_land ok hGC ht2.1 _ (pow_in ok hfl)
      obtain ⟨Q, hQ1, hQ2⟩ := pm_land ok hso hGM hSK hSM hfl
      have hRQ := isLand_one hR2 hQ2
      subst hRQ
      obtain ⟨j, hj, rfl⟩ := (inR_nI (by omega)).mp d
      rcases (show j = 0 ∨ j = 1 ∨ j = 2 ∨ j = 3 by omega) with rfl | rfl | rfl | rfl
      · refine ⟨nI (so f), ?_, ?_⟩
        · show (ald 25 (zG.2.2.1 9) (nI f) fun x_9 => some x_9) = _
          rw [ald_s _ _ (show f < 25 by omega) (by omega), hGC.2.2.2.1 f hfl]
        · show (ald 25 (zM.2 4) (nI f) fun x_7 => some x_7) = _
          rw [ald_s _ _ (show f < 25 by omega) (by omega), hGM.2.1 f hfl]
      · refine ⟨if bt ow f then 1 else 0, ?_, ?_⟩
        · show ((f_X5_ownerOf zS (nI f)).bind fun r_11 => some r_11) = _
          rw [pc_ownerOf _ (show f < 32 by omega), hSC.2.2.1]
          rfl
        · show (ald 122 (zM.2 8) (120 : Int32) fun x_10 => some ((x_10 >>> (nI f &&& 31)) &&& 1)) = _
          rw [show (120 : Int32) = nI 120 from rfl, ald_s _ _ (show 120 < 122 by omega) (by omega), hSM.2.1, sshr_bit _ (show f < 32 by omega)]
      · refine ⟨nI (fb_ct (bt R) 25), ?_, ?_⟩
        · show ((f_X5_shutEdges zG zS).bind fun r_14 => (f_X0_landFrom zG ((1 : Int32) <<< (nI f &&& 31)) r_14).bind fun r_16 => (f_J6_bitCount_0f7a4 r_16).bind fun r_18 => some r_18) = _
          rw [ht1]
          simp only [Option.bind_some]
          rw [hR1]
          simp only [Option.bind_some]
          rw [pc_int, ct_same (n := W * H) hR2.1.1 (m := 32) (by omega), ct_same (n := W * H) hR2.1.1 (m := 25) (by omega)]
          rfl
        · show ((f_X7_landOf zM (nI f)).bind fun r_12 => (f_X7_bits r_12).bind fun r_14 => some r_14) = _
          rw [hQ1]
          simp only [Option.bind_some]
          rw [pm_bits]
          rfl
      · refine ⟨byV W H (fun e => decide (hd e = 2)) R, ?_, ?_⟩
        · show ((f_X5_shutEdges zG zS).bind fun r_20 => (f_X0_landFrom zG ((1 : Int32) <<< (nI f &&& 31)) r_20).bind fun r_22 => (f_X0_shutInBy zG r_22 (zS.1 1)).bind fun r_24 => some r_24) = _
          rw [ht1]
          simp only [Option.bind_some]
          rw [hR1]
          simp only [Option.bind_some]
          rw [pc_by ok hGC R (fun e he => (hSC.2.1 e he).2.1)]
          rfl
        · show ((f_X7_landOf zM (nI f)).bind fun r_17 => (f_X7_shutInBy zM r_17).bind fun r_19 => some r_19) = _
          rw [hQ1]
          simp only [Option.bind_some]
          rw [pm_by ok hGM hSK hSM hfl (land_self (by omega) hQ2) (fun e he hc => shut_hd (land_cross hQ2 he hc))]
          rfl
    · rw [if_neg d]
      refine ⟨_, rfl, ?_⟩
      rw [if_neg (show ¬ a2 = (0 : Int32) from out_ne (by omega) d (j := 0) (by omega)), if_neg (show ¬ a2 = (1 : Int32) from out_ne (by omega) d (j := 1) (by omega)), if_neg (show ¬ a2 = (2 : Int32) from out_ne (by omega) d (j := 2) (by omega)), if_neg (out_ne (by omega) d (j := 3) (by omega))]
  · rw [if_neg c, if_neg c]
    exact ⟨_, rfl, rfl⟩
/-! ===== how many, or which ===== -/
def isPick (p : Nat → Bool) (N : Nat) (i v : Int32) : Prop := (i = -1 ∧ v = nI (fb_ct p N)) ∨ (¬ i = -1 ∧ ((∃ e, e < N ∧ p e = true ∧ i = nI (fb_ct p e) ∧ v = nI e) ∨ ((∀ e, e < N → p e = true → ¬ i = nI (fb_ct p e)) ∧ v = -1)))
theorem isPick_one {p : Nat → Bool} {N : Nat} (hN : N ≤ 40) {i v w : Int32} (h : isPick p N i v) (k : isPick p N i w) : v = w := by
  rcases h with ⟨h1, h2⟩ | ⟨h1, h2⟩
  · rcases k with ⟨k1, k2⟩ | ⟨k1, k2⟩
    · rw [h2, k2]
    · exact absurd h1 k1
  · rcases k with ⟨k1, k2⟩ | ⟨k1, k2⟩
    · exact absurd k1 h1
    · rcases h2 with ⟨e, he, g1, g2, g3⟩ | ⟨g1, g2⟩
      · rcases k2 with ⟨d, hd, f1, f2, f3⟩ | ⟨f1, f2⟩
        · rw [g2] at f2
          have l1 := fb_ct_le p e
          have l2 := fb_ct_le p d
          rw [g3, f3, fb_ct_kth_one g1 f1 ((nI_eq (by omega) (by omega)).mp f2)]
        · exact absurd g2 (f1 e he g1)
      · rcases k2 with ⟨d, hd, f1, f2, f3⟩ | ⟨f1, f2⟩
        · exact absurd f2 (g1 d hd f1)
        · rw [g2, f2]
theorem pc_pick {W H : Nat} {so : Nat → Nat} {pa : Nat → Bool} {zG : GS} (zX : XS) (ok : okB W H = true) (hG : GC W H so pa zG) {t : Int64} {p : Nat → Bool} (ht : ES W H t p) (i : Int32) : ∃ v, f_X6_countOrPick zX zG t i = some v ∧ isPick p (eN W H) i v := by
  have hgn := geo_n ok
  unfold f_X6_countOrPick
  by_cases c : i = -1
  · rw [if_pos c, ES_count ok ht]
    exact ⟨_, rfl, Or.inl ⟨c, rfl⟩⟩
  · rw [if_neg c]
    simp only [nm_s]
    refine up_loop (σ := Int32) (fun n k s => L_X6_countOrPick_16 zX zG t i n s k) (eN W H) (fun k s => s = nI (fb_ct p k) ∧ ∀ e, e < k → p e = true → ¬ i = nI (fb_ct p e)) (fun v => isPick p (eN W H) i v) ?_ ?_ 3000 0 0 (by omega) (by omega) ⟨rfl, fun e he => absurd he (Nat.not_lt_zero e)⟩
    · intro n s hI
      refine ⟨-1, ?_, Or.inr ⟨c, Or.inr ⟨hI.2, rfl⟩⟩⟩
      show L_X6_countOrPick_16 zX zG t i (n + 1) s (nI (eN W H)) = _
      rw [L_X6_countOrPick_16, hG.1.2.2.2, if_pos (Int32.le_refl _)]
    · intro n k s hk hI
      have e0 : L_X6_countOrPick_16 zX zG t i (n + 1) s (nI k) = if p k = false then L_X6_countOrPick_16 zX zG t i n s (nI (k + 1)) else (if s = i then some (nI k) else L_X6_countOrPick_16 zX zG t i n (s + 1) (nI (k + 1))) := by
        rw [L_X6_countOrPick_16, hG.1.2.2.2, if_neg (fun q => absurd ((nI_leI (by omega) (by omega)).mp q) (by omega)), ald_s _ _ (show k < 40 by omega) (by omega), (hG.2.2.2.2 k hk).2.2]
        simp only [nm_s, nI_1]
        by_cases d : p k = false
        · rw [if_pos ((ES_test ok hk).mpr (by rw [ht.1 k hk, d])), if_pos d]
        · rw [if_neg (fun q => d (by rw [ES_test ok hk, ht.1 k hk] at q; exact q)), if_neg d]
      by_cases d : p k = false
      · right
        refine ⟨s, ⟨by rw [hI.1, fb_ct_succ, d]; rfl, fun e he hp => ?_⟩, by show L_X6_countOrPick_16 zX zG t i (n + 1) s (nI k) = _; rw [e0, if_pos d]⟩
        rcases Nat.lt_or_ge e k with z | z
        · exact hI.2 e z hp
        · have : e = k := by omega
          rw [this, d] at hp; cases hp
      · have d1 : p k = true := by cases q : p k; exact absurd q d; rfl
        by_cases g : s = i
        · left
          exact ⟨nI k, by show L_X6_countOrPick_16 zX zG t i (n + 1) s (nI k) = _; rw [e0, if_neg d, if_pos g], Or.inr ⟨c, Or.inl ⟨k, hk, d1, by rw [← g, hI.1], rfl⟩⟩⟩
        · right
          refine ⟨s + 1, ⟨by rw [hI.1, fb_ct_succ, d1, nI_1]; rfl, fun e he hp => ?_⟩, by show L_X6_countOrPick_16 zX zG t i (n + 1) s (nI k) = _; rw [e0, if_neg d, if_neg g]⟩
          rcases Nat.lt_or_ge e k with z | z
          · exact hI.2 e z hp
          · have : e = k := by omega
            rw [this, ← hI.1]; exact fun q => g q.symm
/-! ===== which gate decides ===== -/
theorem zu_self {α : Type} (f : Nat → α) (k : Nat) : va_up f k (f k) = f := by
  funext j
  unfold va_up
  by_cases c : j = k
  · rw [if_pos c, c]
  · rw [if_neg c]
theorem zu_eq {α : Type} (f : Nat → α) (k : Nat) (v : α) : va_up f k v k = v := if_pos rfl
theorem zu_ne {α : Type} (f : Nat → α) {k j : Nat} (v : α) (h : ¬ j = k) : va_up f k v j = f j := if_neg h
theorem zu_up {α : Type} (f : Nat → α) (k : Nat) (v w : α) : va_up (va_up f k v) k w = va_up f k w := by
  funext j
  unfold va_up
  by_cases c : j = k
  · rw [if_pos c, if_pos c]
  · rw [if_neg c, if_neg c, if_neg c]
theorem ud_eq (f : Nat → Int32) (k : Nat) (v : Int32) : upd f k v k = v := if_pos rfl
theorem ud_ne (f : Nat → Int32) {k j : Nat} (v : Int32) (h : ¬ j = k) : upd f k v j = f j := if_neg h
theorem ud_ud (f : Nat → Int32) (k : Nat) (v w : Int32) : upd (upd f k v) k w = upd f k w := by
  funext j
  unfold upd
  by_cases c : j = k
  · rw [if_pos c, if_pos c]
  · rw [if_neg c, if_neg c, if_neg c]
theorem ud_self {f : Nat → Int32} {k : Nat} {v : Int32} (h : f k = v) : upd f k v = f := by
  funext j
  unfold upd
  by_cases c : j = k
  · rw [if_pos c, c, h]
  · rw [if_neg c]
/-- the reference's ground does not see its rows beyond slot 7 -/
theorem GM_up {W H : Nat} {so : Nat → Nat} {pa : Nat → Bool} {zM : MS} (hG : GM W H so pa zM) {z : MS} (h0 : z.1 0 = zM.1 0) (h1 : z.1 1 = zM.1 1) (h2 : z.1 2 = zM.1 2) (h3 : z.1 3 = zM.1 3) (h4 : z.2 4 = zM.2 4) (h5 : z.2 5 = zM.2 5) (h6 : z.2 6 = zM.2 6) (h7 : z.2 7 = zM.2 7) : GM W H so pa z := by
  unfold GM
  rw [h0, h1, h2, h3, h4, h5, h6, h7]
  exact hG
def withGate (ga : Nat → Bool) (e : Nat) (b : Bool) : Nat → Bool := fun d => if d = e then b else ga d
theorem SM_gate {W H : Nat} (ok : okB W H = true) {hd ag : Nat → Nat} {ga : Nat → Bool} {ow : Int32} {yr : Nat} {n : Nat → Int32} (h : SM W H hd ag ga ow yr n) {e : Nat} (he : e < eN W H) (b : Bool) : SM W H hd ag (withGate ga e b) ow yr (upd n (80 + e) (if b then 1 else 0)) := by
  have hgn := geo_n ok
  refine ⟨fun d hd => ?_, ?_, ?_⟩
  · have hs := h.1 d hd
    refine ⟨?_, fun q => ?_, ?_⟩
    · rw [ud_ne _ _ (by omega)]; exact hs.1
    · rw [ud_ne _ _ (by omega)]; exact hs.2.1 q
    · by_cases c : d = e
      · rw [c, ud_eq]; unfold withGate; rw [if_pos rfl]
      · rw [ud_ne _ _ (by omega)]; unfold withGate; rw [if_neg c]; exact hs.2.2
  · rw [ud_ne _ _ (by omega)]; exact h.2.1
  · rw [ud_ne _ _ (by omega)]; exact h.2.2
def dcdB (W H : Nat) (so hd ag : Nat → Nat) (ga : Nat → Bool) (f e : Nat) (R : Int32) : Bool := tallB W H so hd ag 0 e && (ga e && !(decide (byV W H (fun e => decide (hd e = 2)) R = -1)))
theorem byV_neg (W H : Nat) (one : Nat → Bool) (R : Int32) : byV W H one R < 0 ↔ byV W H one R = -1 := by
  unfold byV
  by_cases c : ∀ f, f < W * H → (bt R f && rimB W H f) = false
  · rw [if_pos c]
    by_cases d : ∀ e, e < eN W H → (crossB W H R e && one e) = false
    · rw [if_pos d]; decide
    · rw [if_neg d]
      by_cases g : ∀ e, e < eN W H → (crossB W H R e && !(one e)) = false
      · rw [if_pos g]; decide
      · rw [if_neg g]; decide
  · rw [if_neg c]; decide

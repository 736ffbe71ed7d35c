/-! ===== the reference's land; who shuts it in ===== -/
theorem geo_rim0 : chkWH (fun W H => (List.range (W * H)).all fun f => decide (0 < W) && (decide (0 < H) && (rimB W H f || (decide (0 < f) && decide ((f - 1) % W < W - 1))))) = true := by decide +kernel
theorem geo_rim {W H f : Nat} (h : okB W H = true) (hf : f < W * H) : 0 < W ∧ 0 < H ∧ (rimB W H f = true ∨ (0 < f ∧ (f - 1) % W < W - 1)) := by
  have := all_at (chk_at geo_rim0 h) hf
  simp only [Bool.or_eq_true, Bool.and_eq_true, decide_eq_true_eq] at this
  exact this
theorem pm_rim {W H : Nat} {so : Nat → Nat} {pa : Nat → Bool} {zM : MS} (ok : okB W H = true) (hG : GM W H so pa zM) {f : Nat} (hf : f < W * H) : f_X7_isRim zM (nI f) = some (if rimB W H f then 1 else 0) := by
  have hgn := geo_n ok
  have hl := okB_lt ok
  obtain ⟨hw, hh, -⟩ := geo_rim ok hf
  have hmod : nI f - nI f / nI W * nI W = nI (f % W) := by
    rw [pk_div (by omega) (by omega) (by omega), pk_mul, pk_sub (Nat.div_mul_le_self f W)]
    congr 1
    have := Nat.div_add_mod f W
    rw [Nat.mul_comm] at this
    omega
  have hm2 := Nat.mod_lt f hw
  have hd2 : f / W < 32 := Nat.lt_of_le_of_lt (Nat.div_le_self f W) (by omega)
  unfold f_X7_isRim dvi
  rw [hG.1.1, hG.1.2.1]
  have hne : ¬ nI W = 0 := fun q => absurd ((nI_eq (b := 0) (by omega) (by omega)).mp q) (by omega)
  rw [if_neg hne]
  simp only [nm_s]
  rw [if_neg hne, hmod, pk_div (by omega) (by omega) (by omega), show (1 : Int32) = nI 1 from rfl, show (0 : Int32) = nI 0 from rfl, pk_sub (by omega), pk_sub (by omega)]
  simp only [nI_eq_lit (show f % W < 2 ^ 31 by omega) (show 0 < 2 ^ 31 by omega), nI_eq_lit (show f / W < 2 ^ 31 by omega) (show 0 < 2 ^ 31 by omega), nI_eq_lit (show f % W < 2 ^ 31 by omega) (show W - 1 < 2 ^ 31 by omega), nI_eq_lit (show f / W < 2 ^ 31 by omega) (show H - 1 < 2 ^ 31 by omega)]
  unfold rimB
  by_cases c1 : f % W = 0
  · simp [c1]
  · by_cases c2 : f / W = 0
    · rw [if_neg c1, if_pos c2]; simp [c2]
    · by_cases c3 : f % W = W - 1
      · rw [if_neg c1, if_neg c2, if_pos c3]; simp [c3]
      · by_cases c4 : f / W = H - 1
        · rw [if_neg c1, if_neg c2, if_neg c3, if_pos c4]; simp [c4]
        · rw [if_neg c1, if_neg c2, if_neg c3, if_neg c4]; simp [c1, c2, c3, c4]
theorem b_or2 {x : Int32} {a b : Nat} (ha : a < 32) (hb : b < 32) (i : Nat) : bt (x ||| (((1 : Int32) <<< (nI a &&& 31)) ||| ((1 : Int32) <<< (nI b &&& 31)))) i = (bt x i || (decide (i = a) || decide (i = b))) := by
  rw [b_or, b_or, b_pow a ha, b_pow b hb]
/-- one crossing of an edge that is not shut -/
theorem btw_add {W H : Nat} (ok : okB W H = true) {sh : Nat → Bool} {A s : Int32} (h : btw W H sh A s) {e : Nat} (he : e < eN W H) (hs : sh e = false) (hc : crossB W H s e = true) :
    btw W H sh A (s ||| (((1 : Int32) <<< (nI (eLo W H e) &&& 31)) ||| ((1 : Int32) <<< (nI (eHi W H e) &&& 31)))) := by
  have hgn := geo_n ok
  have hg := geo_e ok he
  have hb : ∀ i, _ = _ := b_or2 (x := s) (show eLo W H e < 32 by omega) (show eHi W H e < 32 by omega)
  refine ⟨fun i hi => ?_, fun i hi => ?_, fun S hS hA i hi => ?_⟩
  · rw [hb] at hi
    simp only [Bool.or_eq_true, decide_eq_true_eq] at hi
    rcases hi with q | q | q
    · exact h.1 i q
    · omega
    · omega
  · rw [hb, h.2.1 i hi, Bool.true_or]
  · rw [hb] at hi
    simp only [Bool.or_eq_true, decide_eq_true_eq] at hi
    have hcl := hS e he hs
    have hor : S (eLo W H e) = true := by
      unfold crossB at hc
      cases q1 : bt s (eLo W H e)
      · cases q2 : bt s (eHi W H e)
        · rw [q1, q2] at hc; cases hc
        · rw [hcl]; exact h.2.2 S hS hA _ q2
      · exact h.2.2 S hS hA _ q1
    rcases hi with q | q | q
    · exact h.2.2 S hS hA i q
    · rw [q]; exact hor
    · rw [q, ← hcl]; exact hor
theorem pm_sweep {W H : Nat} {so : Nat → Nat} {pa : Nat → Bool} {zM : MS} {hd ag : Nat → Nat} {ga : Nat → Bool} {ow : Int32} {yr : Nat} (ok : okB W H = true) (hs : soOk so) (hG : GM W H so pa zM) (hK : SK W H hd ag ga ow yr) (hS : SM W H hd ag ga ow yr (zM.2 8)) (p1 A s0 : Int32) (h0 : btw W H (shutB W H so hd ag ga) A s0) :
    ∃ r, L_X7_landOf_15 zM p1 3000 s0 0 0 = some r ∧ btw W H (shutB W H so hd ag ga) A r.1 ∧ ((r.2.1 = 0 ∧ clo W H (shutB W H so hd ag ga) (bt r.1)) ∨ (r.2.1 = 1 ∧ fb_ct (bt s0) 25 + 1 ≤ fb_ct (bt r.1) 25)) := by
  have hgn := geo_n ok
  refine up_loop (σ := Int32 × Int32) (fun n i s => L_X7_landOf_15 zM p1 n s.1 s.2 i) (eN W H)
    (fun i s => btw W H (shutB W H so hd ag ga) A s.1 ∧ ((s.2 = 0 ∧ s.1 = s0 ∧ ∀ e, e < i → shutB W H so hd ag ga e = false → crossB W H s0 e = false) ∨ (s.2 = 1 ∧ fb_ct (bt s0) 25 + 1 ≤ fb_ct (bt s.1) 25)))
    (fun r => btw W H (shutB W H so hd ag ga) A r.1 ∧ ((r.2.1 = 0 ∧ clo W H (shutB W H so hd ag ga) (bt r.1)) ∨ (r.2.1 = 1 ∧ fb_ct (bt s0) 25 + 1 ≤ fb_ct (bt r.1) 25)))
    ?_ ?_ 3000 0 (s0, 0) (by omega) (by omega) ⟨h0, Or.inl ⟨rfl, rfl, fun e he => absurd he (Nat.not_lt_zero e)⟩⟩
  · intro n s hI
    refine ⟨(s.1, s.2, nI (eN W H)), ?_, hI.1, ?_⟩
    · show L_X7_landOf_15 zM p1 (n + 1) s.1 s.2 (nI (eN W H)) = _
      rw [L_X7_landOf_15, hG.1.2.2.2, if_pos (Int32.le_refl _)]
    · rcases hI.2 with ⟨q1, q2, q3⟩ | q
      · refine Or.inl ⟨q1, fun e he hsh => ?_⟩
        have := q3 e he hsh
        unfold crossB at this
        show bt s.1 _ = bt s.1 _
        rw [q2]
        cases z1 : bt s0 (eLo W H e) <;> cases z2 : bt s0 (eHi W H e) <;> rw [z1, z2] at this <;> first | rfl | cases this
      · exact Or.inr q
  · intro n i s hi hI
    right
    have hm := hG.2.2 i hi
    have hg := geo_e ok hi
    have e0 : L_X7_landOf_15 zM p1 (n + 1) s.1 s.2 (nI i) = if crossB W H s.1 i = false then L_X7_landOf_15 zM p1 n s.1 s.2 (nI (i + 1)) else (if shutB W H so hd ag ga i = true then L_X7_landOf_15 zM p1 n s.1 s.2 (nI (i + 1)) else L_X7_landOf_15 zM p1 n (s.1 ||| (((1 : Int32) <<< (nI (eLo W H i) &&& 31)) ||| ((1 : Int32) <<< (nI (eHi W H i) &&& 31)))) 1 (nI (i + 1))) := by
      rw [L_X7_landOf_15, hG.1.2.2.2, if_neg (fun q => absurd ((nI_leI (by omega) (by omega)).mp q) (by omega)), ald_s _ _ (show i < 40 by omega) (by omega), hm.1, pm_has _ (show eLo W H i < 32 by omega)]
      simp only [Option.bind_some]
      rw [ald_s _ _ (show i < 40 by omega) (by omega), hm.2.1, pm_has _ (show eHi W H i < 32 by omega)]
      simp only [Option.bind_some, nm_s, nI_1]
      by_cases c : crossB W H s.1 i = false
      · rw [if_pos ((bool_ne _ _).mpr c), if_pos c]
      · rw [if_neg (fun q => c ((bool_ne _ _).mp q)), if_neg c, pm_shut ok hs hG hK hS hi]
        simp only [Option.bind_some, if_one]
        by_cases d : shutB W H so hd ag ga i = true
        · rw [if_pos d, if_pos d]
        · rw [if_neg d, if_neg d, ald_s _ _ (show i < 40 by omega) (by omega), ald_s _ _ (show i < 40 by omega) (by omega), hm.1, hm.2.1]
    by_cases c : crossB W H s.1 i = false
    · refine ⟨s, ⟨hI.1, ?_⟩, by show L_X7_landOf_15 zM p1 (n + 1) s.1 s.2 (nI i) = _; rw [e0, if_pos c]⟩
      rcases hI.2 with ⟨q1, q2, q3⟩ | q
      · refine Or.inl ⟨q1, q2, fun e he hsh => ?_⟩
        rcases Nat.lt_or_ge e i with z | z
        · exact q3 e z hsh
        · have : e = i := by omega
          rw [this, ← q2]; exact c
      · exact Or.inr q
    · by_cases d : shutB W H so hd ag ga i = true
      · refine ⟨s, ⟨hI.1, ?_⟩, by show L_X7_landOf_15 zM p1 (n + 1) s.1 s.2 (nI i) = _; rw [e0, if_neg c, if_pos d]⟩
        rcases hI.2 with ⟨q1, q2, q3⟩ | q
        · refine Or.inl ⟨q1, q2, fun e he hsh => ?_⟩
          rcases Nat.lt_or_ge e i with z | z
          · exact q3 e z hsh
          · have : e = i := by omega
            rw [this, d] at hsh; cases hsh
        · exact Or.inr q
      · have d0 : shutB W H so hd ag ga i = false := by cases q : shutB W H so hd ag ga i; rfl; exact absurd q d
        have c1 : crossB W H s.1 i = true := by cases q : crossB W H s.1 i; exact absurd q c; rfl
        have hadd := btw_add ok hI.1 hi d0 c1
        refine ⟨(s.1 ||| (((1 : Int32) <<< (nI (eLo W H i) &&& 31)) ||| ((1 : Int32) <<< (nI (eHi W H i) &&& 31))), 1), ⟨hadd, Or.inr ⟨rfl, ?_⟩⟩, by show L_X7_landOf_15 zM p1 (n + 1) s.1 s.2 (nI i) = _; rw [e0, if_neg c, if_neg d]⟩
        have hb : ∀ i, _ = _ := b_or2 (x := s.1) (show eLo W H i < 32 by omega) (show eHi W H i < 32 by omega)
        have hgrow : fb_ct (bt s.1) 25 + 1 ≤ fb_ct (bt (s.1 ||| (((1 : Int32) <<< (nI (eLo W H i) &&& 31)) ||| ((1 : Int32) <<< (nI (eHi W H i) &&& 31))))) 25 := by
          refine ct_ne (by omega) (fun k hk => by have := hadd.1 k hk; omega) (fun k hk => by rw [hb, hk, Bool.true_or]) (fun q => ?_)
          have z1 : bt s.1 (eLo W H i) = true := by rw [← q, hb]; simp
          have z2 : bt s.1 (eHi W H i) = true := by rw [← q, hb]; simp
          unfold crossB at c1
          rw [z1, z2] at c1
          cases c1
        show fb_ct (bt s0) 25 + 1 ≤ _
        rcases hI.2 with ⟨q1, q2, q3⟩ | ⟨q1, q2⟩
        · rw [← q2]; exact hgrow
        · exact Nat.le_trans q2 (Nat.le_of_succ_le hgrow)
theorem pm_land {W H : Nat} {so : Nat → Nat} {pa : Nat → Bool} {zM : MS} {hd ag : Nat → Nat} {ga : Nat → Bool} {ow : Int32} {yr : Nat} (ok : okB W H = true) (hs : soOk so) (hG : GM W H so pa zM) (hK : SK W H hd ag ga ow yr) (hS : SM W H hd ag ga ow yr (zM.2 8)) {f : Nat} (hf : f < W * H) :
    ∃ R, f_X7_landOf zM (nI f) = some R ∧ isLand W H (shutB W H so hd ag ga) ((1 : Int32) <<< (nI f &&& 31)) R := by
  have hgn := geo_n ok
  obtain ⟨r, hr, hp⟩ := dn_loop (σ := Int32 × Int32) (fun n s => L_X7_landOf_6 zM (nI f) n s.1 s.2) (fun s => if s.2 = 0 then 0 else 27 - fb_ct (bt s.1) 25)
    (fun s => btw W H (shutB W H so hd ag ga) ((1 : Int32) <<< (nI f &&& 31)) s.1 ∧ ((s.2 = 0 ∧ clo W H (shutB W H so hd ag ga) (bt s.1)) ∨ s.2 = 1))
    (fun r => isLand W H (shutB W H so hd ag ga) ((1 : Int32) <<< (nI f &&& 31)) r.1)
    (fun n s hI => by
      rcases hI.2 with ⟨q1, q2⟩ | q1
      · left
        exact ⟨(s.1, s.2), by show L_X7_landOf_6 zM (nI f) (n + 1) s.1 s.2 = _; rw [L_X7_landOf_6, if_pos q1], hI.1, q2⟩
      · right
        obtain ⟨r, hr, k1, k2⟩ := pm_sweep ok hs hG hK hS (nI f) _ s.1 hI.1
        have hne : ¬ s.2 = 0 := by rw [q1]; decide
        refine ⟨(r.1, r.2.1), ⟨k1, ?_⟩, ?_, ?_⟩
        · rcases k2 with k2 | k2
          · exact Or.inl k2
          · exact Or.inr k2.1
        · show (if r.2.1 = 0 then 0 else 27 - fb_ct (bt r.1) 25) < (if s.2 = 0 then 0 else 27 - fb_ct (bt s.1) 25)
          rw [if_neg hne]
          have hle := fb_ct_le (bt s.1) 25
          rcases k2 with k2 | k2
          · rw [if_pos k2.1]; omega
          · rw [k2.1, if_neg (by decide)]; omega
        · show L_X7_landOf_6 zM (nI f) (n + 1) s.1 s.2 = L_X7_landOf_6 zM (nI f) n r.1 r.2.1
          rw [L_X7_landOf_6, if_neg hne]
          simp only [nm_s]
          rw [hr]
          rfl) 3000 ((1 : Int32) <<< (nI f &&& 31), 1) (by show (if (1 : Int32) = 0 then 0 else _) < 3000; rw [if_neg (by decide)]; omega)
      ⟨⟨fun i hi => by rw [b_pow f (by omega), decide_eq_true_eq] at hi; omega, fun _ h => h, fun S _ hA i hi => hA i hi⟩, Or.inr rfl⟩
  refine ⟨r.1, ?_, hp⟩
  unfold f_X7_landOf
  simp only [nm_s]
  rw [show (L_X7_landOf_6 zM (nI f) 3000 ((1 : Int32) <<< (nI f &&& 31)) 1) = some r from hr]
  rfl

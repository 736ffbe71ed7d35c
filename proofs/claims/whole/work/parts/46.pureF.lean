/-! ===== how far one walks ===== -/
def isStep (W H : Nat) (sh : Nat → Bool) (x y : Int32) : Prop := ∀ i, bt y i = true ↔ (bt x i = true ∨ ∃ e, e < eN W H ∧ sh e = false ∧ crossB W H x e = true ∧ (i = eLo W H e ∨ i = eHi W H e))
theorem isStep_one {W H : Nat} {sh : Nat → Bool} {x y z : Int32} (h : isStep W H sh x y) (k : isStep W H sh x z) : y = z := b_ext (fun i _ => Bool.eq_iff_iff.mpr ((h i).trans (k i).symm))
theorem cross_or {W H : Nat} {x : Int32} {e : Nat} (h : crossB W H x e = true) : (bt x (eLo W H e) = true ∧ bt x (eHi W H e) = false) ∨ (bt x (eLo W H e) = false ∧ bt x (eHi W H e) = true) := by
  unfold crossB at h
  cases q1 : bt x (eLo W H e) <;> cases q2 : bt x (eHi W H e)
  · rw [q1, q2] at h; cases h
  · exact Or.inr ⟨rfl, rfl⟩
  · exact Or.inl ⟨rfl, rfl⟩
  · rw [q1, q2] at h; cases h
theorem pc_isStep {W H : Nat} {so : Nat → Nat} {pa : Nat → Bool} {zG : GS} (ok : okB W H = true) (hG : GC W H so pa zG) {t : Int64} {sh : Nat → Bool} (ht : ∀ e, e < eN W H → bl t (ePl W H e) = sh e) (x : Int32) (hx : ∀ i, bt x i = true → i < W * H) :
    ∃ y, f_X0_oneStepFrom zG x t = some y ∧ (∀ i, bt y i = true → i < W * H) ∧ isStep W H sh x y := by
  obtain ⟨y, h1, h2, h3, h4, h5⟩ := pc_step ok hG ht x hx
  refine ⟨y, h1, h2, fun i => ⟨fun h => ?_, fun h => ?_⟩⟩
  · by_cases c : bt x i = true
    · exact Or.inl c
    · have c0 : bt x i = false := by cases q : bt x i; rfl; exact absurd q c
      rcases h5 i h with q | ⟨e, he, hs, ⟨g1, g2⟩ | ⟨g1, g2⟩⟩
      · exact absurd q c
      · exact Or.inr ⟨e, he, hs, by unfold crossB; rw [g1, c0, g2]; rfl, Or.inl g1.symm⟩
      · exact Or.inr ⟨e, he, hs, by unfold crossB; rw [g1, c0, g2]; rfl, Or.inr g1.symm⟩
  · rcases h with h | ⟨e, he, hs, hc, hi⟩
    · exact h3 i h
    · have h4e := h4 e he hs
      rcases cross_or hc with ⟨q, -⟩ | ⟨-, q⟩
      · rcases hi with rfl | rfl
        · exact h3 _ q
        · exact h4e.1 q
      · rcases hi with rfl | rfl
        · exact h4e.2 q
        · exact h3 _ q
theorem pm_isStep {W H : Nat} {so : Nat → Nat} {pa : Nat → Bool} {zM : MS} {hd ag : Nat → Nat} {ga : Nat → Bool} {ow : Int32} {yr : Nat} (ok : okB W H = true) (hs : soOk so) (hG : GM W H so pa zM) (hK : SK W H hd ag ga ow yr) (hS : SM W H hd ag ga ow yr (zM.2 8)) (p1 p2 x v4 : Int32) :
    ∃ r, L_X7_walk_52 zM p1 p2 x v4 3000 x 0 = some r ∧ isStep W H (shutB W H so hd ag ga) x r.1 := by
  have hgn := geo_n ok
  refine up_loop (σ := Int32) (fun n i s => L_X7_walk_52 zM p1 p2 x v4 n s i) (eN W H) (fun k s => ∀ i, bt s i = true ↔ (bt x i = true ∨ ∃ e, e < k ∧ shutB W H so hd ag ga e = false ∧ crossB W H x e = true ∧ (i = eLo W H e ∨ i = eHi W H e))) (fun r => isStep W H (shutB W H so hd ag ga) x r.1) ?_ ?_ 3000 0 x (by omega) (by omega) (fun i => ⟨fun h => Or.inl h, fun h => ?_⟩)
  · intro n s hI
    refine ⟨(s, nI (eN W H)), ?_, hI⟩
    show L_X7_walk_52 zM p1 p2 x v4 (n + 1) s (nI (eN W H)) = _
    rw [L_X7_walk_52, hG.1.2.2.2, if_pos (Int32.le_refl _)]
  · intro n k s hk hI
    right
    have hm := hG.2.2 k hk
    have hg := geo_e ok hk
    have e0 : L_X7_walk_52 zM p1 p2 x v4 (n + 1) s (nI k) = if shutB W H so hd ag ga k = false ∧ crossB W H x k = true then L_X7_walk_52 zM p1 p2 x v4 n (s ||| (((1 : Int32) <<< (nI (eLo W H k) &&& 31)) ||| ((1 : Int32) <<< (nI (eHi W H k) &&& 31)))) (nI (k + 1)) else L_X7_walk_52 zM p1 p2 x v4 n s (nI (k + 1)) := by
      rw [L_X7_walk_52, hG.1.2.2.2, if_neg (fun q => absurd ((nI_leI (by omega) (by omega)).mp q) (by omega)), pm_shut ok hs hG hK hS hk]
      simp only [Option.bind_some, if_one, nm_s, nI_1]
      cases c : shutB W H so hd ag ga k
      · rw [if_neg (by decide), ald_s _ _ (show k < 40 by omega) (by omega), hm.1, pm_has _ (show eLo W H k < 32 by omega)]
        simp only [Option.bind_some]
        rw [ald_s _ _ (show k < 40 by omega) (by omega), hm.2.1, pm_has _ (show eHi W H k < 32 by omega)]
        simp only [Option.bind_some]
        by_cases d : crossB W H x k = false
        · rw [if_pos ((bool_ne _ _).mpr d), if_neg (fun q => by rw [d] at q; cases q.2)]
        · rw [if_neg (fun q => d ((bool_ne _ _).mp q)), if_pos ⟨trivial, by cases q : crossB W H x k; exact absurd q d; rfl⟩, ald_s _ _ (show k < 40 by omega) (by omega), ald_s _ _ (show k < 40 by omega) (by omega), hm.1, hm.2.1]
      · rw [if_pos rfl, if_neg (fun q => by cases q.1)]
    by_cases c : shutB W H so hd ag ga k = false ∧ crossB W H x k = true
    · refine ⟨_, fun i => ?_, by show L_X7_walk_52 zM p1 p2 x v4 (n + 1) s (nI k) = _; rw [e0, if_pos c]⟩
      rw [b_or2 (show eLo W H k < 32 by omega) (show eHi W H k < 32 by omega)]
      simp only [Bool.or_eq_true, decide_eq_true_eq]
      constructor
      · rintro (h | h)
        · rcases (hI i).mp h with q | ⟨e, he, q⟩
          · exact Or.inl q
          · exact Or.inr ⟨e, by omega, q⟩
        · exact Or.inr ⟨k, by omega, c.1, c.2, h⟩
      · rintro (h | ⟨e, he, h1, h2, h3⟩)
        · exact Or.inl ((hI i).mpr (Or.inl h))
        · rcases Nat.lt_or_ge e k with z | z
          · exact Or.inl ((hI i).mpr (Or.inr ⟨e, z, h1, h2, h3⟩))
          · have : e = k := by omega
            subst this
            exact Or.inr h3
    · refine ⟨s, fun i => ?_, by show L_X7_walk_52 zM p1 p2 x v4 (n + 1) s (nI k) = _; rw [e0, if_neg c]⟩
      rw [hI i]
      constructor
      · rintro (h | ⟨e, he, h1, h2, h3⟩)
        · exact Or.inl h
        · exact Or.inr ⟨e, by omega, h1, h2, h3⟩
      · rintro (h | ⟨e, he, h1, h2, h3⟩)
        · exact Or.inl h
        · rcases Nat.lt_or_ge e k with z | z
          · exact Or.inr ⟨e, z, h1, h2, h3⟩
          · have : e = k := by omega
            subst this
            exact absurd ⟨h1, h2⟩ c
  · rcases h with h | ⟨e, he, -⟩
    · exact h
    · exact absurd he (Nat.not_lt_zero e)
/-- a row of steps is still after fewer steps than fields -/
theorem steps_end {W H : Nat} (ok : okB W H = true) {sh : Nat → Bool} {s : Nat → Int32} (hb : ∀ k i, bt (s k) i = true → i < W * H) (h0 : ∃ i, bt (s 0) i = true) (hst : ∀ k, isStep W H sh (s k) (s (k + 1))) {m g : Nat} (hm : bt (s m) g = true) : ∃ k, k < W * H ∧ bt (s k) g = true := by
  have hgn := geo_n ok
  have grow : ∀ k, (k + 1 ≤ fb_ct (bt (s k)) 25) ∨ ∃ j, j < k ∧ s (j + 1) = s j := by
    intro k
    induction k with
    | zero =>
      left
      obtain ⟨i, hi⟩ := h0
      exact fb_ct_pos.mpr ⟨i, by have := hb 0 i hi; omega, hi⟩
    | succ k ih =>
      rcases ih with h | ⟨j, hj, e⟩
      · by_cases c : s (k + 1) = s k
        · exact Or.inr ⟨k, by omega, c⟩
        · left
          have := ct_ne (n := 25) (by omega) (fun i hi => by have := hb (k + 1) i hi; omega) (fun i hi => (hst k i).mpr (Or.inl hi)) c
          omega
      · exact Or.inr ⟨j, by omega, e⟩
  have hsame : ∀ j, s (j + 1) = s j → ∀ n, s (j + n) = s j := by
    intro j e n
    induction n with
    | zero => rfl
    | succ n ih =>
      have h1 := hst (j + n)
      rw [ih] at h1
      have h2 := hst j
      show s (j + n + 1) = s j
      rw [isStep_one h1 h2, e]
  have hup : ∀ j n, bt (s j) g = true → bt (s (j + n)) g = true := by
    intro j n h
    induction n with
    | zero => exact h
    | succ n ih => exact (hst (j + n) g).mpr (Or.inl ih)
  rcases grow (W * H) with h | ⟨j, hj, e⟩
  · have h2 : fb_ct (bt (s (W * H))) 25 = fb_ct (bt (s (W * H))) (W * H) := (ct_same (n := W * H) (hb _) (m := 25) (by omega))
    have h3 := fb_ct_le (bt (s (W * H))) (W * H)
    omega
  · rcases Nat.lt_or_ge m j with q | q
    · exact ⟨m, by omega, hm⟩
    · refine ⟨j, hj, ?_⟩
      have := hsame j e (m - j)
      rw [show j + (m - j) = m by omega] at this
      rw [← this]; exact hm
theorem sim_15 : SM_15 Rel := by
  intro zX zR zRG zRS zG zS zP zQ zN zI zJ zT zM a1 a2 hR
  have hR0 := hR
  obtain ⟨W, H, ok, ⟨so, pa, hso, hGC, hGM⟩, ⟨hd, ag, ga, ow, yr, hSK, hSC, hSM⟩, hP, hI, hN, hT, hf, hs, hs0⟩ := hR
  have hgn := geo_n ok
  suffices hx : ∃ v, f_X6_walk zX zG zS a1 a2 = some v ∧ f_X7_walk zM a1 a2 = some v by
    obtain ⟨v, e1, e2⟩ := hx
    unfold sp_15
    rw [e1, e2]
    simp only [Option.bind_some, if_true]
    exact ⟨_, rfl, hR0⟩
  unfold f_X6_walk f_X7_walk
  rw [pc_hasField ok hGC, pm_isField ok hGM, pc_hasField ok hGC, pm_isField ok hGM]
  simp only [Option.bind_some, if_one, nm_s]
  by_cases c : inR a1 (W * H) = true
  · rw [if_pos c, if_pos c]
    by_cases d : inR a2 (W * H) = true
    · rw [if_pos d, if_pos d]
      obtain ⟨f, hfl, rfl⟩ := (inR_nI (by omega)).mp c
      obtain ⟨g, hgl, rfl⟩ := (inR_nI (by omega)).mp d
      obtain ⟨t, ht1, ht2⟩ := pc_shut ok hso hGC hSK hSC
      rw [ht1]
      simp only [Option.bind_some]
      -- the row of steps
      obtain ⟨s, hs00, hsb, hss, hsc⟩ : ∃ s : Nat → Int32, s 0 = (1 : Int32) <<< (nI f &&& 31) ∧ (∀ k i, bt (s k) i = true → i < W * H) ∧ (∀ k, isStep W H (shutB W H so hd ag ga) (s k) (s (k + 1))) ∧ ∀ k, f_X0_oneStepFrom zG (s k) t = some (s (k + 1)) := by
        refine ⟨fun k => Nat.rec ((1 : Int32) <<< (nI f &&& 31)) (fun _ x => (f_X0_oneStepFrom zG x t).getD 0) k, rfl, ?_, ?_, ?_⟩
        · intro k
          induction k with
          | zero => exact pow_in ok hfl
          | succ k ih =>
            obtain ⟨y, h1, h2, h3⟩ := pc_isStep ok hGC ht2.1 _ ih
            intro i hi
            exact h2 i (by simpa [h1] using hi)
        all_goals
          have hbb : ∀ k, ∀ i, bt (Nat.rec (motive := fun _ => Int32) ((1 : Int32) <<< (nI f &&& 31)) (fun _ x => (f_X0_oneStepFrom zG x t).getD 0) k) i = true → i < W * H := by
            intro k
            induction k with
            | zero => exact pow_in ok hfl
            | succ k ih =>
              obtain ⟨y, h1, h2, h3⟩ := pc_isStep ok hGC ht2.1 _ ih
              intro i hi
              exact h2 i (by simpa [h1] using hi)
          intro k
          obtain ⟨y, h1, h2, h3⟩ := pc_isStep ok hGC ht2.1 _ (hbb k)
        · show isStep W H _ _ ((f_X0_oneStepFrom zG _ t).getD 0)
          rw [h1]; exact h3
        · show _ = some ((f_X0_oneStepFrom zG _ t).getD 0)
          rw [h1]; rfl
      have hne : ∃ i, bt (s 0) i = true := ⟨f, by rw [hs00, b_pow f (by omega)]; simp⟩
      have hgoal : ∀ k, (s k &&& ((1 : Int32) <<< (nI g &&& 31)) = 0) ↔ bt (s k) g = false := by
        intro k
        constructor
        · intro h
          have := congrArg (fun x => bt x g) h
          simp only [b_and, b_0, b_pow g (show g < 32 by omega), decide_true, Bool.and_true] at this
          exact this
        · intro h
          apply b_ext
          intro i _
          rw [b_and, b_0, b_pow g (by omega)]
          by_cases z : i = g
          · rw [z, h]; rfl
          · rw [decide_eq_false z, Bool.and_false]
      obtain ⟨v, hv, hv2⟩ := up_loop (σ := Int32) (fun n i x => L_X6_walk_50 zX zG zS (nI f) (nI g) t ((1 : Int32) <<< (nI g &&& 31)) n x i) 25 (fun i x => x = s i ∧ ∀ k, k < i → bt (s k) g = false)
        (fun v => (∃ k, k < 25 ∧ v = nI k ∧ bt (s k) g = true ∧ ∀ j, j < k → bt (s j) g = false) ∨ (v = -1 ∧ ∀ k, k < 25 → bt (s k) g = false))
        (fun n x hI => ⟨-1, by
          show L_X6_walk_50 zX zG zS (nI f) (nI g) t _ (n + 1) x (nI 25) = _
          rw [L_X6_walk_50, if_pos (show (25 : Int32) ≤ nI 25 by decide)], Or.inr ⟨rfl, hI.2⟩⟩)
        (fun n i x hi hI => by
          have e0 : L_X6_walk_50 zX zG zS (nI f) (nI g) t ((1 : Int32) <<< (nI g &&& 31)) (n + 1) x (nI i) = if bt (s i) g = false then L_X6_walk_50 zX zG zS (nI f) (nI g) t ((1 : Int32) <<< (nI g &&& 31)) n (s (i + 1)) (nI (i + 1)) else some (nI i) := by
            rw [L_X6_walk_50, if_neg (show ¬ (25 : Int32) ≤ nI i from fun q => absurd ((nI_leI (a := 25) (by omega) (by omega)).mp q) (by omega)), hI.1, hsc i]
            simp only [Option.bind_some, nm_s, nI_1]
            by_cases z : bt (s i) g = false
            · rw [if_pos ((hgoal i).mpr z), if_pos z]
            · rw [if_neg (fun q => z ((hgoal i).mp q)), if_neg z]
          by_cases z : bt (s i) g = false
          · right
            refine ⟨s (i + 1), ⟨rfl, fun k hk => ?_⟩, by show L_X6_walk_50 zX zG zS (nI f) (nI g) t _ (n + 1) x (nI i) = _; rw [e0, if_pos z]⟩
            rcases Nat.lt_or_ge k i with w | w
            · exact hI.2 k w
            · have : k = i := by omega
              rw [this]; exact z
          · left
            exact ⟨nI i, by show L_X6_walk_50 zX zG zS (nI f) (nI g) t _ (n + 1) x (nI i) = _; rw [e0, if_neg z], Or.inl ⟨i, hi, rfl, by cases q : bt (s i) g; exact absurd q z; rfl, hI.2⟩⟩) 3000 0 ((1 : Int32) <<< (nI f &&& 31)) (by omega) (by omega) ⟨hs00.symm, fun k hk => absurd hk (Nat.not_lt_zero k)⟩
      obtain ⟨w, hw, hw2⟩ := up_loop (σ := Int32) (fun n i x => L_X7_walk_26 zM (nI f) (nI g) n x i) (W * H + 1) (fun i x => x = s i ∧ ∀ k, k < i → bt (s k) g = false)
        (fun v => (∃ k, k < W * H + 1 ∧ v = nI k ∧ bt (s k) g = true ∧ ∀ j, j < k → bt (s j) g = false) ∨ (v = -1 ∧ ∀ k, k < W * H + 1 → bt (s k) g = false))
        (fun n x hI => ⟨-1, by
          show L_X7_walk_26 zM (nI f) (nI g) (n + 1) x (nI (W * H + 1)) = _
          rw [L_X7_walk_26, hGM.1.2.2.1, if_pos ((nI_ltI (by omega) (by omega)).mpr (by omega))], Or.inr ⟨rfl, hI.2⟩⟩)
        (fun n i x hi hI => by
          have e0 : L_X7_walk_26 zM (nI f) (nI g) (n + 1) x (nI i) = if bt (s i) g = false then L_X7_walk_26 zM (nI f) (nI g) n (s (i + 1)) (nI (i + 1)) else some (nI i) := by
            obtain ⟨r, hr1, hr2⟩ := pm_isStep ok hso hGM hSK hSM (nI f) (nI g) x (nI i)
            rw [L_X7_walk_26, hGM.1.2.2.1, if_neg (fun q => absurd ((nI_ltI (by omega) (by omega)).mp q) (by omega)), pm_has _ (show g < 32 by omega)]
            simp only [Option.bind_some, nm_s, nI_1, if_one]
            rw [hr1]
            simp only [Option.bind_some]
            rw [hI.1] at hr2
            rw [isStep_one hr2 (hss i), hI.1]
            cases z : bt (s i) g
            · rfl
            · rfl
          by_cases z : bt (s i) g = false
          · right
            refine ⟨s (i + 1), ⟨rfl, fun k hk => ?_⟩, by show L_X7_walk_26 zM (nI f) (nI g) (n + 1) x (nI i) = _; rw [e0, if_pos z]⟩
            rcases Nat.lt_or_ge k i with w | w
            · exact hI.2 k w
            · have : k = i := by omega
              rw [this]; exact z
          · left
            exact ⟨nI i, by show L_X7_walk_26 zM (nI f) (nI g) (n + 1) x (nI i) = _; rw [e0, if_neg z], Or.inl ⟨i, hi, rfl, by cases q : bt (s i) g; exact absurd q z; rfl, hI.2⟩⟩) 3000 0 ((1 : Int32) <<< (nI f &&& 31)) (by omega) (by omega) ⟨hs00.symm, fun k hk => absurd hk (Nat.not_lt_zero k)⟩
      have hvw : v = w := by
        rcases hv2 with ⟨k, hk, e1, h1, h2⟩ | ⟨e1, h1⟩
        · rcases hw2 with ⟨j, hj, e2, h3, h4⟩ | ⟨e2, h3⟩
          · have : k = j := by
              rcases Nat.lt_trichotomy k j with q | q | q
              · have := h4 k q; rw [h1] at this; cases this
              · exact q
              · have := h2 j q; rw [h3] at this; cases this
            rw [e1, e2, this]
          · obtain ⟨j, hj, h5⟩ := steps_end ok hsb hne hss h1
            have := h3 j (by omega); rw [h5] at this; cases this
        · rcases hw2 with ⟨j, hj, e2, h3, h4⟩ | ⟨e2, h3⟩
          · obtain ⟨k, hk, h5⟩ := steps_end ok hsb hne hss h3
            have := h1 k (by omega); rw [h5] at this; cases this
          · rw [e1, e2]
      exact ⟨v, hv, by rw [hvw]; exact hw⟩
    · rw [if_neg d, if_neg d]
      exact ⟨_, rfl, rfl⟩
  · rw [if_neg c, if_neg c]
    exact ⟨_, rfl, rfl⟩

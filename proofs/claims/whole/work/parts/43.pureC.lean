/-! ===== who shuts a land in ===== -/
def byV (W H : Nat) (one : Nat → Bool) (R : Int32) : Int32 :=
  if ∀ f, f < W * H → (bt R f && rimB W H f) = false then (if ∀ e, e < eN W H → (crossB W H R e && one e) = false then 0 else (if ∀ e, e < eN W H → (crossB W H R e && !(one e)) = false then 1 else -1)) else -1
theorem pc_by {W H : Nat} {so : Nat → Nat} {pa : Nat → Bool} {zG : GS} (ok : okB W H = true) (hG : GC W H so pa zG) (R : Int32) {u : Int64} {one : Nat → Bool} (hu : ∀ e, e < eN W H → bl u (ePl W H e) = one e) :
    f_X0_shutInBy zG R u = some (byV W H one R) := by
  obtain ⟨t, ht1, ht2⟩ := pc_round ok hG R
  have h1 : (R &&& zG.1 5) = 0 ↔ ∀ f, f < W * H → (bt R f && rimB W H f) = false := by
    constructor
    · intro h f hf
      have := congrArg (fun x => bt x f) h
      simp only [b_and, b_0, hG.2.1.2.1, decide_eq_true hf, Bool.true_and] at this
      exact this
    · intro h
      apply b_ext
      intro i hi
      rw [b_and, b_0, hG.2.1.2.1]
      by_cases c : i < W * H
      · rw [decide_eq_true c, Bool.true_and, h i c]
      · rw [decide_eq_false c, Bool.false_and, Bool.and_false]
  unfold f_X0_shutInBy byV
  by_cases c : ∀ f, f < W * H → (bt R f && rimB W H f) = false
  · rw [if_pos (h1.mpr c), if_pos c, ht1]
    simp only [Option.bind_some]
    have h2 : (lg_cmp (t &&& u) 0 = 0) ↔ ∀ e, e < eN W H → (crossB W H R e && one e) = false := by rw [lg_cmp_0]; exact ES_zero (ES_andl ht2 hu)
    have h3 : (lg_cmp (t &&& (u ^^^ (-1))) 0 = 0) ↔ ∀ e, e < eN W H → (crossB W H R e && !(one e)) = false := by rw [lg_cmp_0]; exact ES_zero (ES_andn ok ht2 hu)
    by_cases d : ∀ e, e < eN W H → (crossB W H R e && one e) = false
    · rw [if_pos (h2.mpr d), if_pos d]
    · rw [if_neg (fun q => d (h2.mp q)), if_neg d]
      by_cases g : ∀ e, e < eN W H → (crossB W H R e && !(one e)) = false
      · rw [if_pos (h3.mpr g), if_pos g]
      · rw [if_neg (fun q => g (h3.mp q)), if_neg g]
  · rw [if_neg (fun q => c (h1.mp q)), if_neg c]
/-- a land without a rim has an edge round it -/
theorem has_round {W H : Nat} (ok : okB W H = true) {R : Int32} (hr : ∀ f, f < W * H → (bt R f && rimB W H f) = false) {f : Nat} (hf : f < W * H) (hb : bt R f = true) : ∃ e, e < eN W H ∧ crossB W H R e = true := by
  refine Classical.byContradiction fun hno => ?_
  have hc : ∀ e, e < eN W H → bt R (eLo W H e) = bt R (eHi W H e) := fun e he => by
    cases q1 : bt R (eLo W H e) <;> cases q2 : bt R (eHi W H e)
    · rfl
    · exact absurd ⟨e, he, by unfold crossB; rw [q1, q2]; rfl⟩ hno
    · exact absurd ⟨e, he, by unfold crossB; rw [q1, q2]; rfl⟩ hno
    · rfl
  have key : ∀ f, f < W * H → bt R f = true → False := by
    intro f
    induction f with
    | zero =>
      intro hf hb
      rcases (geo_rim ok hf).2.2 with h | h
      · have := hr 0 hf; rw [hb, h] at this; cases this
      · omega
    | succ f ih =>
      intro hf hb
      rcases (geo_rim ok hf).2.2 with h | h
      · have := hr (f + 1) hf; rw [hb, h] at this; cases this
      · obtain ⟨e, he, g1, g2, -⟩ := (geo_s ok (show f < W * H by omega)).1 h.2
        exact ih (by omega) (by rw [← g1, hc e he, g2]; exact hb)
  exact key f hf hb
theorem pm_by {W H : Nat} {so : Nat → Nat} {pa : Nat → Bool} {zM : MS} {hd ag : Nat → Nat} {ga : Nat → Bool} {ow : Int32} {yr : Nat} (ok : okB W H = true) (hG : GM W H so pa zM) (hK : SK W H hd ag ga ow yr) (hS : SM W H hd ag ga ow yr (zM.2 8)) {R : Int32} {f : Nat} (hf : f < W * H) (hb : bt R f = true) (hx : ∀ e, e < eN W H → crossB W H R e = true → hd e ≠ 0) :
    f_X7_shutInBy zM R = some (byV W H (fun e => decide (hd e = 2)) R) := by
  have hgn := geo_n ok
  by_cases c : ∀ f, f < W * H → (bt R f && rimB W H f) = false
  · have hv : byV W H (fun e => decide (hd e = 2)) R = if ∀ e, e < eN W H → (crossB W H R e && decide (hd e = 2)) = false then 0 else (if ∀ e, e < eN W H → (crossB W H R e && !(decide (hd e = 2))) = false then 1 else -1) := by
      unfold byV; rw [if_pos c]
    obtain ⟨ex, hex, hexc⟩ := has_round ok c hf hb
    -- the second loop
    obtain ⟨r2, hr2, hp2⟩ := up_loop (σ := Int32) (fun n i s => L_X7_shutInBy_38 zM R n s i) (eN W H)
      (fun i s => (s = -1 ∧ ∀ e, e < i → crossB W H R e = false) ∨ (∃ d, d < i ∧ d < eN W H ∧ crossB W H R d = true ∧ s = nI (hd d - 1) ∧ ∀ e, e < i → crossB W H R e = true → hd e = hd d))
      (fun r => r = byV W H (fun e => decide (hd e = 2)) R)
      (fun n s hI => ⟨s, by
        show L_X7_shutInBy_38 zM R (n + 1) s (nI (eN W H)) = _
        rw [L_X7_shutInBy_38, hG.1.2.2.2, if_pos (Int32.le_refl _)], by
        rcases hI with ⟨-, q⟩ | ⟨d, -, hde, hdc, hds, q⟩
        · have := q ex hex; rw [hexc] at this; cases this
        · have hk := hK.1 d
          have h0 := hx d hde hdc
          rw [hv, hds]
          by_cases z : hd d = 2
          · rw [z, if_neg (fun w => by have := w d hde; rw [hdc, z] at this; cases this), if_pos (fun e he => by
              cases w : crossB W H R e
              · rfl
              · rw [q e he w, z]; rfl)]
            rfl
          · have z1 : hd d = 1 := by omega
            rw [z1, if_pos (fun e he => by
              cases w : crossB W H R e
              · rfl
              · rw [q e he w, z1]; rfl)]
            rfl⟩)
      (fun n i s hi hI => by
        have hm := hG.2.2 i hi
        have hg := geo_e ok hi
        have hsm := (hS.1 i hi).1
        have e0 : L_X7_shutInBy_38 zM R (n + 1) s (nI i) = if crossB W H R i = false then L_X7_shutInBy_38 zM R n s (nI (i + 1)) else (if s < 0 then L_X7_shutInBy_38 zM R n (zM.2 8 i) (nI (i + 1)) else (if zM.2 8 i = s then L_X7_shutInBy_38 zM R n (zM.2 8 i) (nI (i + 1)) else some (-1))) := by
          rw [L_X7_shutInBy_38, hG.1.2.2.2, if_neg (fun q => absurd ((nI_leI (by omega) (by omega)).mp q) (by omega)), ald_s _ _ (show i < 40 by omega) (by omega), hm.1, pm_has _ (show eLo W H i < 32 by omega)]
          simp only [Option.bind_some]
          rw [ald_s _ _ (show i < 40 by omega) (by omega), hm.2.1, pm_has _ (show eHi W H i < 32 by omega)]
          simp only [Option.bind_some, nm_s, nI_1]
          by_cases c : crossB W H R i = false
          · rw [if_pos ((bool_ne _ _).mpr c), if_pos c]
          · rw [if_neg (fun q => c ((bool_ne _ _).mp q)), if_neg c]
            simp only [ald_s _ _ (show i < 122 by omega) (show 122 < 2 ^ 31 by omega)]
        by_cases c1 : crossB W H R i = false
        · right
          refine ⟨s, ?_, by show L_X7_shutInBy_38 zM R (n + 1) s (nI i) = _; rw [e0, if_pos c1]⟩
          rcases hI with ⟨q1, q2⟩ | ⟨d, hdi, hde, hdc, hds, q⟩
          · refine Or.inl ⟨q1, fun e he => ?_⟩
            rcases Nat.lt_or_ge e i with z | z
            · exact q2 e z
            · have : e = i := by omega
              rw [this]; exact c1
          · refine Or.inr ⟨d, by omega, hde, hdc, hds, fun e he hc => ?_⟩
            rcases Nat.lt_or_ge e i with z | z
            · exact q e z hc
            · have : e = i := by omega
              rw [this, c1] at hc; cases hc
        · have c2 : crossB W H R i = true := by cases q : crossB W H R i; exact absurd q c1; rfl
          have hi0 := hx i hi c2
          have hki := hK.1 i
          rw [if_neg hi0] at hsm
          rcases hI with ⟨q1, q2⟩ | ⟨d, hdi, hde, hdc, hds, q⟩
          · right
            refine ⟨zM.2 8 i, Or.inr ⟨i, by omega, hi, c2, hsm, fun e he hc => ?_⟩, by show L_X7_shutInBy_38 zM R (n + 1) s (nI i) = _; rw [e0, if_neg c1, if_pos (by rw [q1]; decide)]⟩
            rcases Nat.lt_or_ge e i with z | z
            · rw [q2 e z] at hc; cases hc
            · have : e = i := by omega
              rw [this]
          · have hkd := hK.1 d
            have hd0 := hx d hde hdc
            have hsn : ¬ s < 0 := by rw [hds]; exact nI_pos (by omega)
            by_cases z : hd i = hd d
            · right
              refine ⟨zM.2 8 i, Or.inr ⟨d, by omega, hde, hdc, by rw [hsm, z], fun e he hc => ?_⟩, by show L_X7_shutInBy_38 zM R (n + 1) s (nI i) = _; rw [e0, if_neg c1, if_neg hsn, if_pos (by rw [hsm, hds, z])]⟩
              rcases Nat.lt_or_ge e i with w | w
              · exact q e w hc
              · have : e = i := by omega
                rw [this]; exact z
            · left
              refine ⟨-1, by show L_X7_shutInBy_38 zM R (n + 1) s (nI i) = _; rw [e0, if_neg c1, if_neg hsn, if_neg (fun w => z (by rw [hsm, hds] at w; have := (nI_eq (by omega) (by omega)).mp w; omega))], ?_⟩
              rw [hv]
              rcases (show (hd i = 2 ∧ hd d = 1) ∨ (hd i = 1 ∧ hd d = 2) by omega) with ⟨w1, w2⟩ | ⟨w1, w2⟩
              · rw [if_neg (fun w => by have := w i hi; rw [c2, w1] at this; cases this), if_neg (fun w => by have := w d hde; rw [hdc, w2] at this; cases this)]
              · rw [if_neg (fun w => by have := w d hde; rw [hdc, w2] at this; cases this), if_neg (fun w => by have := w i hi; rw [c2, w1] at this; cases this)]) 3000 0 (-1) (by omega) (by omega) (Or.inl ⟨rfl, fun e he => absurd he (Nat.not_lt_zero e)⟩)
    obtain ⟨r, hr, hp⟩ := up_loop (σ := Unit) (fun n i _ => L_X7_shutInBy_2 zM R n i) (W * H) (fun _ _ => True) (fun r => r = byV W H (fun e => decide (hd e = 2)) R)
      (fun n s _ => ⟨r2, by
        show L_X7_shutInBy_2 zM R (n + 1) (nI (W * H)) = _
        rw [L_X7_shutInBy_2, hG.1.2.2.1, if_pos (Int32.le_refl _)]
        exact hr2, hp2⟩)
      (fun n i s hi _ => by
        right
        refine ⟨(), trivial, ?_⟩
        show L_X7_shutInBy_2 zM R (n + 1) (nI i) = L_X7_shutInBy_2 zM R n (nI (i + 1))
        rw [L_X7_shutInBy_2, hG.1.2.2.1, if_neg (fun q => absurd ((nI_leI (by omega) (by omega)).mp q) (by omega)), pm_has _ (show i < 32 by omega)]
        simp only [Option.bind_some, if_one, nm_s, nI_1]
        have hci := c i hi
        cases z : bt R i
        · rfl
        · rw [z, Bool.true_and] at hci
          rw [if_pos rfl, pm_rim ok hG hi, hci]
          rfl) 3000 0 () (by omega) (by omega) trivial
    unfold f_X7_shutInBy
    rw [nm_s, show (L_X7_shutInBy_2 zM R 3000 0) = some r from hr, hp]
  · have hv : byV W H (fun e => decide (hd e = 2)) R = -1 := by unfold byV; rw [if_neg c]
    obtain ⟨r, hr, hp⟩ := up_loop (σ := Unit) (fun n i _ => L_X7_shutInBy_2 zM R n i) (W * H) (fun i _ => ∀ f, f < i → (bt R f && rimB W H f) = false) (fun r => r = -1)
      (fun n s hI => absurd hI c)
      (fun n i s hi hI => by
        have e0 : L_X7_shutInBy_2 zM R (n + 1) (nI i) = if (bt R i && rimB W H i) = false then L_X7_shutInBy_2 zM R n (nI (i + 1)) else some (-1) := by
          rw [L_X7_shutInBy_2, hG.1.2.2.1, if_neg (fun q => absurd ((nI_leI (by omega) (by omega)).mp q) (by omega)), pm_has _ (show i < 32 by omega)]
          simp only [Option.bind_some, if_one, nm_s, nI_1]
          cases z : bt R i
          · rfl
          · rw [if_pos rfl, pm_rim ok hG hi]
            cases w : rimB W H i
            · rfl
            · rfl
        by_cases z : (bt R i && rimB W H i) = false
        · right
          refine ⟨(), fun f hf => ?_, by show L_X7_shutInBy_2 zM R (n + 1) (nI i) = _; rw [e0, if_pos z]⟩
          rcases Nat.lt_or_ge f i with w | w
          · exact hI f w
          · have : f = i := by omega
            rw [this]; exact z
        · left
          exact ⟨-1, by show L_X7_shutInBy_2 zM R (n + 1) (nI i) = _; rw [e0, if_neg z], rfl⟩) 3000 0 () (by omega) (by omega) (fun f hf => absurd hf (Nat.not_lt_zero f))
    unfold f_X7_shutInBy
    rw [nm_s, show (L_X7_shutInBy_2 zM R 3000 0) = some r from hr, hp, hv]

/-! ===== turns: runs of Marches ===== -/
theorem isMar_ex {W H : Nat} (ok : okB W H = true) (sh one : Nat → Bool) (ow : Int32) : ∃ x, isMar W H sh one ow x := by
  have hgn := geo_n ok
  obtain ⟨x, hx⟩ := b_make (fun i => decide (i < W * H) && marB W H sh one ow i)
  refine ⟨x, fun i => ?_⟩
  rw [hx]
  by_cases c : i < W * H
  · simp [c, show i < 32 by omega]
  · simp [c]
noncomputable def marC (W H : Nat) (sh one : Nat → Bool) (ow : Int32) : Int32 := Classical.epsilon (fun x => isMar W H sh one ow x)
theorem marC_ok {W H : Nat} (ok : okB W H = true) (sh one : Nat → Bool) (ow : Int32) : isMar W H sh one ow (marC W H sh one ow) := Classical.epsilon_spec (isMar_ex ok sh one ow)
theorem marC_is {W H : Nat} {sh one : Nat → Bool} {ow x : Int32} (h : isMar W H sh one ow x) : x = marC W H sh one ow := isMar_one h (Classical.epsilon_spec ⟨x, h⟩)
theorem byV_cong {W H : Nat} {one one2 : Nat → Bool} {R : Int32} (h : ∀ e, e < eN W H → crossB W H R e = true → one e = one2 e) : byV W H one R = byV W H one2 R := by
  have e1 : (∀ e, e < eN W H → (crossB W H R e && one e) = false) ↔ (∀ e, e < eN W H → (crossB W H R e && one2 e) = false) := by
    constructor
    · intro q e he
      have := q e he
      cases c : crossB W H R e
      · rfl
      · rw [c, h e he c] at this; exact this
    · intro q e he
      have := q e he
      cases c : crossB W H R e
      · rfl
      · rw [c, ← h e he c] at this; exact this
  have e2 : (∀ e, e < eN W H → (crossB W H R e && !(one e)) = false) ↔ (∀ e, e < eN W H → (crossB W H R e && !(one2 e)) = false) := by
    constructor
    · intro q e he
      have := q e he
      cases c : crossB W H R e
      · rfl
      · rw [c, h e he c] at this; exact this
    · intro q e he
      have := q e he
      cases c : crossB W H R e
      · rfl
      · rw [c, ← h e he c] at this; exact this
  unfold byV
  simp only [e1, e2]
theorem isMar_cong {W H : Nat} (ok : okB W H = true) {sh sh2 one one2 : Nat → Bool} {ow x : Int32} (h : isMar W H sh one ow x) (h1 : ∀ e, e < eN W H → sh e = sh2 e) (h2 : ∀ e, e < eN W H → sh e = true → one e = one2 e) : isMar W H sh2 one2 ow x := by
  intro i
  rw [h i]
  by_cases c : i < W * H
  · have hl := landC_ok ok sh c
    have e : landC W H sh2 i = landC W H sh i := landC_is (isLand_cong hl h1)
    unfold marB
    rw [e, byV_cong (fun e he hc => h2 e he (land_cross hl he hc))]
  · rw [decide_eq_false c]; rfl
theorem isMar_idem {W H : Nat} {sh one : Nat → Bool} {ow x : Int32} (h : isMar W H sh one ow x) : isMar W H sh one x x := by
  intro i
  have hi := h i
  by_cases c : i < W * H
  · rw [decide_eq_true c, Bool.true_and] at hi ⊢
    unfold marB at hi ⊢
    by_cases d : byV W H one (landC W H sh i) = 1
    · rw [if_pos d] at hi ⊢; exact hi
    · rw [if_neg d] at hi ⊢
      by_cases g : byV W H one (landC W H sh i) = 0
      · rw [if_pos g] at hi ⊢; exact hi
      · rw [if_neg g]
  · rw [decide_eq_false c] at hi ⊢; exact hi
noncomputable def runC (W H : Nat) (sh : Nat → Nat → Bool) (one : Nat → Bool) (ow : Int32) : Nat → Int32
  | 0 => ow
  | k + 1 => marC W H (sh (k + 1)) one (runC W H sh one ow k)
theorem runC_in {W H : Nat} (ok : okB W H = true) {sh : Nat → Nat → Bool} {one : Nat → Bool} {ow : Int32} (how : ∀ i, bt ow i = true → i < W * H) : ∀ k i, bt (runC W H sh one ow k) i = true → i < W * H
  | 0 => how
  | k + 1 => isMar_in (marC_ok ok (sh (k + 1)) one (runC W H sh one ow k))
theorem runC_cong {W H : Nat} (ok : okB W H = true) {sh sh2 : Nat → Nat → Bool} {one one2 : Nat → Bool} {ow : Int32} {N : Nat} (h1 : ∀ y e, y ≤ N → e < eN W H → sh y e = sh2 y e) (h2 : ∀ y e, y ≤ N → e < eN W H → sh y e = true → one e = one2 e) : ∀ k, k ≤ N → runC W H sh one ow k = runC W H sh2 one2 ow k := by
  intro k
  induction k with
  | zero => intro _; rfl
  | succ k ih =>
    intro hk
    show marC W H (sh (k + 1)) one (runC W H sh one ow k) = marC W H (sh2 (k + 1)) one2 (runC W H sh2 one2 ow k)
    rw [← ih (by omega)]
    exact marC_is (isMar_cong ok (marC_ok ok _ _ _) (fun e he => h1 (k + 1) e hk he) (fun e he => h2 (k + 1) e hk he))
/-- what is shut in y years, whose it is, with slips on m and i (eN: none) -/
def shT (W H : Nat) (so hd ag : Nat → Nat) (ga : Nat → Bool) (m i y e : Nat) : Bool := (tallB W H so hd ag y e && !(ga e)) || ((decide (e = m) || decide (e = i)) && decide (ageT (gr W H so e) ≤ y))
def oneT (hd : Nat → Nat) (a m i e : Nat) : Bool := decide (hd e = 2) || (if a = 1 then decide (e = m) else decide (e = i))
def valX (W H a : Nat) (x : Int32) : Nat := if a = 1 then fb_ct (bt x) 25 else W * H - fb_ct (bt x) 25
noncomputable def valT (W H : Nat) (so hd ag : Nat → Nat) (ga : Nat → Bool) (ow : Int32) (a N m i : Nat) : Nat := valX W H a (runC W H (shT W H so hd ag ga m i) (oneT hd a m i) ow N)
theorem valX_le {W H : Nat} (ok : okB W H = true) (a : Nat) (x : Int32) : valX W H a x ≤ 25 := by
  have hgn := geo_n ok
  have := fb_ct_le (bt x) 25
  unfold valX
  by_cases c : a = 1
  · rw [if_pos c]; exact this
  · rw [if_neg c]; omega
theorem tall0 {W H : Nat} {so hd ag : Nat → Nat} {y e : Nat} (h : hd e = 0) : tallB W H so hd ag y e = false := by unfold tallB; rw [h]; rfl
/-- a slip that is not tall in time changes nothing -/
theorem valT_m {W H : Nat} (ok : okB W H = true) {so hd ag : Nat → Nat} {ga : Nat → Bool} {ow : Int32} {a N m i : Nat} (hm : hd m = 0) (hmi : ¬ i = m) (ht : ¬ ageT (gr W H so m) ≤ N) : valT W H so hd ag ga ow a N m i = valT W H so hd ag ga ow a N (eN W H) i := by
  unfold valT
  congr 1
  have hno : ∀ y, y ≤ N → shT W H so hd ag ga m i y m = false := fun y hy => by
    unfold shT
    rw [tall0 hm, decide_eq_false (show ¬ ageT (gr W H so m) ≤ y by omega)]; simp
  refine runC_cong ok (N := N) (fun y e hy he => ?_) (fun y e hy he hs => ?_) N (Nat.le_refl N)
  · by_cases c : e = m
    · rw [c, hno y hy]
      unfold shT
      rw [tall0 hm, decide_eq_false (show ¬ ageT (gr W H so m) ≤ y by omega)]; simp
    · unfold shT
      rw [decide_eq_false c, decide_eq_false (show ¬ e = eN W H by omega)]
  · have c : ¬ e = m := fun c => by rw [c, hno y hy] at hs; cases hs
    unfold oneT
    rw [decide_eq_false c, decide_eq_false (show ¬ e = eN W H by omega)]
theorem valT_i {W H : Nat} (ok : okB W H = true) {so hd ag : Nat → Nat} {ga : Nat → Bool} {ow : Int32} {a N m i : Nat} (hi : hd i = 0) (hmi : ¬ i = m) (ht : ¬ ageT (gr W H so i) ≤ N) : valT W H so hd ag ga ow a N m i = valT W H so hd ag ga ow a N m (eN W H) := by
  unfold valT
  congr 1
  have hno : ∀ y, y ≤ N → shT W H so hd ag ga m i y i = false := fun y hy => by
    unfold shT
    rw [tall0 hi, decide_eq_false (show ¬ ageT (gr W H so i) ≤ y by omega)]; simp
  refine runC_cong ok (N := N) (fun y e hy he => ?_) (fun y e hy he hs => ?_) N (Nat.le_refl N)
  · by_cases c : e = i
    · rw [c, hno y hy]
      unfold shT
      rw [tall0 hi, decide_eq_false (show ¬ ageT (gr W H so i) ≤ y by omega)]; simp
    · unfold shT
      rw [decide_eq_false c, decide_eq_false (show ¬ e = eN W H by omega)]
  · have c : ¬ e = i := fun c => by rw [c, hno y hy] at hs; cases hs
    unfold oneT
    rw [decide_eq_false c, decide_eq_false (show ¬ e = eN W H by omega)]
/-! ===== least, greatest ===== -/
def isLow (f : Nat → Nat) (p : Nat → Bool) (n w : Nat) : Prop := (∃ i, i ≤ n ∧ p i = true ∧ w = f i) ∧ ∀ i, i ≤ n → p i = true → w ≤ f i
def isHigh (f : Nat → Nat) (p : Nat → Bool) (n w : Nat) : Prop := (∃ i, i ≤ n ∧ p i = true ∧ w = f i) ∧ ∀ i, i ≤ n → p i = true → f i ≤ w
theorem isLow_one {f : Nat → Nat} {p : Nat → Bool} {n v w : Nat} (h : isLow f p n v) (k : isLow f p n w) : v = w := by
  obtain ⟨i, i1, i2, i3⟩ := h.1
  obtain ⟨j, j1, j2, j3⟩ := k.1
  have h1 := h.2 j j1 j2
  have h2 := k.2 i i1 i2
  omega
theorem isHigh_one {f : Nat → Nat} {p : Nat → Bool} {n v w : Nat} (h : isHigh f p n v) (k : isHigh f p n w) : v = w := by
  obtain ⟨i, i1, i2, i3⟩ := h.1
  obtain ⟨j, j1, j2, j3⟩ := k.1
  have h1 := h.2 j j1 j2
  have h2 := k.2 i i1 i2
  omega
theorem isLow_ex {f : Nat → Nat} {p : Nat → Bool} {n i : Nat} (hi : i ≤ n) (hp : p i = true) : ∃ w, isLow f p n w := by
  obtain ⟨w, h1, h2⟩ := pk_least (fun w => ∃ i, i ≤ n ∧ p i = true ∧ w = f i) ⟨f i, i, hi, hp, rfl⟩
  refine ⟨w, h1, fun j hj hpj => ?_⟩
  rcases Nat.lt_or_ge (f j) w with q | q
  · exact absurd ⟨j, hj, hpj, rfl⟩ (h2 (f j) q)
  · exact q
/-- who may plant where: all (n), with the slips that are tall in time (c) -/
def okP (W H : Nat) (hd : Nat → Nat) (pa : Nat → Bool) (m i : Nat) : Bool := decide (i = eN W H) || (mayB hd pa i && !(decide (i = m)))
def okT (W H : Nat) (so hd : Nat → Nat) (pa : Nat → Bool) (N m i : Nat) : Bool := decide (i = eN W H) || ((mayB hd pa i && decide (ageT (gr W H so i) ≤ N)) && !(decide (i = m)))
noncomputable def lowT (W H : Nat) (so hd ag : Nat → Nat) (pa ga : Nat → Bool) (ow : Int32) (a N m : Nat) : Nat := Classical.epsilon (fun w => isLow (valT W H so hd ag ga ow a N m) (okP W H hd pa m) (eN W H) w)
theorem lowT_ok (W H : Nat) (so hd ag : Nat → Nat) (pa ga : Nat → Bool) (ow : Int32) (a N m : Nat) : isLow (valT W H so hd ag ga ow a N m) (okP W H hd pa m) (eN W H) (lowT W H so hd ag pa ga ow a N m) :=
  Classical.epsilon_spec (isLow_ex (Nat.le_refl _) (by unfold okP; simp))
theorem mayB_hd {hd : Nat → Nat} {pa : Nat → Bool} {e : Nat} (h : mayB hd pa e = true) : hd e = 0 := by
  unfold mayB at h
  rw [Bool.and_eq_true, decide_eq_true_eq] at h
  exact h.1
theorem okT_P {W H : Nat} {so hd : Nat → Nat} {pa : Nat → Bool} {N m i : Nat} (h : okT W H so hd pa N m i = true) : okP W H hd pa m i = true := by
  unfold okT at h
  unfold okP
  rw [Bool.or_eq_true] at h ⊢
  rcases h with h | h
  · exact Or.inl h
  · rw [Bool.and_eq_true, Bool.and_eq_true] at h
    rw [Bool.and_eq_true]
    exact Or.inr ⟨h.1.1, h.2⟩
theorem low_tall {W H : Nat} (ok : okB W H = true) {so hd ag : Nat → Nat} {pa ga : Nat → Bool} {ow : Int32} {a N m w : Nat} (h : isLow (valT W H so hd ag ga ow a N m) (okT W H so hd pa N m) (eN W H) w) : w = lowT W H so hd ag pa ga ow a N m := by
  refine isLow_one ⟨?_, fun i hi hp => ?_⟩ (lowT_ok W H so hd ag pa ga ow a N m)
  · obtain ⟨i, i1, i2, i3⟩ := h.1
    exact ⟨i, i1, okT_P i2, i3⟩
  · by_cases c : okT W H so hd pa N m i = true
    · exact h.2 i hi c
    · unfold okP at hp
      unfold okT at c
      rw [Bool.or_eq_true] at hp
      rcases hp with q | q
      · exact absurd (by rw [q]; rfl) c
      · rw [Bool.and_eq_true, Bool.not_eq_true', decide_eq_false_iff_not] at q
        have ht : ¬ ageT (gr W H so i) ≤ N := fun z => c (by rw [q.1, decide_eq_true z, decide_eq_false q.2]; simp)
        rw [valT_i ok (mayB_hd q.1) q.2 ht]
        exact h.2 _ (Nat.le_refl _) (by unfold okT; simp)
theorem low_none {W H : Nat} (ok : okB W H = true) {so hd ag : Nat → Nat} {pa ga : Nat → Bool} {ow : Int32} {a N m : Nat} (hl : m < eN W H) (hm : mayB hd pa m = true) (ht : ¬ ageT (gr W H so m) ≤ N) : lowT W H so hd ag pa ga ow a N m = lowT W H so hd ag pa ga ow a N (eN W H) := by
  have h := lowT_ok W H so hd ag pa ga ow a N m
  have hmi : ∀ i, okP W H hd pa m i = true → ¬ i = m := fun i q => by
    unfold okP at q
    rw [Bool.or_eq_true, decide_eq_true_eq, Bool.and_eq_true, Bool.not_eq_true', decide_eq_false_iff_not] at q
    rcases q with q | q
    · omega
    · exact q.2
  refine isLow_one ⟨?_, fun i hi hp => ?_⟩ (lowT_ok W H so hd ag pa ga ow a N (eN W H))
  · obtain ⟨i, i1, i2, i3⟩ := h.1
    refine ⟨i, i1, ?_, by rw [i3, valT_m ok (mayB_hd hm) (hmi i i2) ht]⟩
    unfold okP at i2 ⊢
    by_cases c : i = eN W H
    · simp [c]
    · simp [c] at i2 ⊢
      exact i2.1
  · by_cases c : i = m
    · rw [c, valT_i ok (mayB_hd hm) (by omega) ht, ← valT_m ok (mayB_hd hm) (show ¬ eN W H = m by omega) ht]
      exact h.2 _ (Nat.le_refl _) (by unfold okP; simp)
    · rw [← valT_m ok (mayB_hd hm) c ht]
      refine h.2 i hi ?_
      unfold okP at hp ⊢
      by_cases d : i = eN W H
      · simp [d]
      · simp [d] at hp
        simp [d, c, hp]
theorem high_tall {W H : Nat} (ok : okB W H = true) {so hd ag : Nat → Nat} {pa ga : Nat → Bool} {ow : Int32} {a N v w : Nat} (h : isHigh (lowT W H so hd ag pa ga ow a N) (fun m => decide (m = eN W H) || (mayB hd pa m && decide (ageT (gr W H so m) ≤ N))) (eN W H) v) (k : isHigh (lowT W H so hd ag pa ga ow a N) (fun m => decide (m = eN W H) || mayB hd pa m) (eN W H) w) : v = w := by
  refine isHigh_one (p := fun m => decide (m = eN W H) || mayB hd pa m) ⟨?_, fun m hm hp => ?_⟩ k
  · obtain ⟨i, i1, i2, i3⟩ := h.1
    refine ⟨i, i1, ?_, i3⟩
    simp only [Bool.or_eq_true, Bool.and_eq_true] at i2 ⊢
    rcases i2 with q | q
    · exact Or.inl q
    · exact Or.inr q.1
  · by_cases c : m = eN W H
    · exact h.2 m hm (by simp [c])
    · have hmay : mayB hd pa m = true := by simpa [c] using hp
      by_cases ht : ageT (gr W H so m) ≤ N
      · exact h.2 m hm (by simp [hmay, ht])
      · rw [low_none ok (by omega) hmay ht]
        exact h.2 _ (Nat.le_refl _) (by simp)
/-! ===== the class ===== -/
theorem pc_slips {W H : Nat} {so : Nat → Nat} {pa : Nat → Bool} {zG : GS} {zS : SS} {hd ag : Nat → Nat} {ga : Nat → Bool} {ow : Int32} {yr : Nat} (zX : XS) (ok : okB W H = true) (hs : soOk so) (hG : GC W H so pa zG) (hS : SC W H hd ag ga ow yr zS) {N : Nat} (hN : N ≤ 100) :
    ∃ t, f_X6_slipsTallIn zX zG zS (nI N) = some t ∧ ES W H t (fun e => mayB hd pa e && decide (ageT (gr W H so e) ≤ N)) := by
  have hgn := geo_n ok
  obtain ⟨r, hr, hp⟩ := up_loop (σ := Int64) (fun n i s => L_X6_slipsTallIn_5 zX zG zS (nI N) n s i) (eN W H) (fun i s => ES W H s (fun e => decide (e < i) && (mayB hd pa e && decide (ageT (gr W H so e) ≤ N)))) (fun r => ES W H r.1 (fun e => mayB hd pa e && decide (ageT (gr W H so e) ≤ N)))
    (fun n s hI => ⟨(s, nI (eN W H)), by
      show L_X6_slipsTallIn_5 zX zG zS (nI N) (n + 1) s (nI (eN W H)) = _
      rw [L_X6_slipsTallIn_5, hG.1.2.2.2, if_pos (Int32.le_refl _)], ES_end hI⟩)
    (fun n i s hi hI => by
      right
      refine ⟨_, ES_grow ok hi hI, ?_⟩
      have htg := ageT_le (gr_rng (W := W) (H := H) hs i)
      show L_X6_slipsTallIn_5 zX zG zS (nI N) (n + 1) s (nI i) = L_X6_slipsTallIn_5 zX zG zS (nI N) n _ (nI (i + 1))
      rw [L_X6_slipsTallIn_5, hG.1.2.2.2, if_neg (fun q => absurd ((nI_leI (by omega) (by omega)).mp q) (by omega)), ald_s _ _ (show i < 40 by omega) (by omega), (hG.2.2.2.2 i hi).2.2, mayP_c zX ok hG hS hi]
      simp only [Option.bind_some, if_one, nm_s, nI_1]
      cases c : mayB hd pa i
      · rw [if_neg (by decide), if_neg (by simp)]
      · rw [if_pos rfl, pc_ageTall ok hs hG hi]
        simp only [Option.bind_some]
        by_cases d : ageT (gr W H so i) ≤ N
        · rw [if_neg (fun q => absurd ((nI_ltI (by omega) (by omega)).mp q) (by omega)), ald_s _ _ (show i < 40 by omega) (by omega), (hG.2.2.2.2 i hi).2.2, if_pos (by simp [d])]
        · rw [if_pos ((nI_ltI (by omega) (by omega)).mpr (by omega)), if_neg (by simp [d])]) 3000 0 0 (by omega) (by omega) (ES_start W H _)
  refine ⟨r.1, ?_, hp⟩
  unfold f_X6_slipsTallIn
  simp only [nm_s]
  rw [show (L_X6_slipsTallIn_5 zX zG zS (nI N) 3000 0 0) = some r from hr]
  rfl
/-- an edge, or none, as the class has it -/
def edT (W H m : Nat) : Int32 := if m = eN W H then -1 else nI m
theorem pc_place {W H : Nat} {so : Nat → Nat} {pa : Nat → Bool} {zG : GS} (ok : okB W H = true) (hs : soOk so) (hG : GC W H so pa zG) {m : Nat} (hm : m ≤ eN W H) :
    ∃ (t : Int64) (g : Nat), (if edT W H m = (-1) then (some (0 : Int64)) else (ald 40 zG.2.2.2 (edT W H m) fun x_5 => some (x_5 : Int64))) = some t ∧ (if edT W H m = (-1) then (some (0 : Int32)) else ((f_X0_ageWhenTall zG (edT W H m)).bind fun r_16 => some (r_16 : Int32))) = some (nI g) ∧ g ≤ 6 ∧ ES W H t (fun e => decide (e = m)) ∧ (m < eN W H → g = ageT (gr W H so m)) := by
  have hgn := geo_n ok
  unfold edT
  by_cases c : m = eN W H
  · rw [if_pos c, if_pos rfl, if_pos rfl]
    exact ⟨0, 0, rfl, rfl, by omega, ⟨fun e he => by show bl 0 (ePl W H e) = decide (e = m); rw [l_0, decide_eq_false (by omega)], (ES_0 W H).2⟩, fun h => by omega⟩
  · have hl : m < eN W H := by omega
    have hne : ¬ nI m = -1 := fun q => absurd (show nI m < 0 by rw [q]; decide) (nI_pos (by omega))
    rw [if_neg c, if_neg hne, if_neg hne, ald_s _ _ (show m < 40 by omega) (by omega), (hG.2.2.2.2 m hl).2.2, pc_ageTall ok hs hG hl]
    exact ⟨_, _, rfl, rfl, ageT_le (gr_rng hs m), ES_pl ok hl, fun _ => rfl⟩
theorem pc_acres {W H : Nat} {so : Nat → Nat} {pa : Nat → Bool} {zG : GS} {zS : SS} {zT : TS} {hd ag : Nat → Nat} {ga : Nat → Bool} {ow : Int32} {yr : Nat} (zX : XS) (ok : okB W H = true) (hs : soOk so) (hG : GC W H so pa zG) (hK : SK W H hd ag ga ow yr) (hS : SC W H hd ag ga ow yr zS) {a N m i : Nat} (ha : a < 2) (hN : N ≤ 6) (hm : m ≤ eN W H) (hi : i ≤ eN W H)
    (hT : ∀ y, 1 ≤ y → y ≤ N → ES W H (zT y) (fun e => tallB W H so hd ag y e && !(ga e))) :
    f_X6_acresAfter zX zG zS zT (nI a) (nI N) (edT W H m) (edT W H i) = some (nI (valT W H so hd ag ga ow a N m i)) := by
  have hgn := geo_n ok
  obtain ⟨tm, gm, m1, m2, m3, m4, m5⟩ := pc_place ok hs hG hm
  obtain ⟨ti, gi, i1, i2, i3, i4, i5⟩ := pc_place ok hs hG hi
  obtain ⟨to, o1, o2⟩ : ∃ to : Int64, (if nI a = 1 then (some (tm : Int64)) else (some (ti : Int64))) = some to ∧ ∀ e, e < eN W H → bl ((zS.1 1) ||| to) (ePl W H e) = oneT hd a m i e := by
    rcases (show a = 0 ∨ a = 1 by omega) with rfl | rfl
    · refine ⟨ti, rfl, fun e he => ?_⟩
      rw [l_or, (hS.2.1 e he).2.1, i4.1 e he]; rfl
    · refine ⟨tm, rfl, fun e he => ?_⟩
      rw [l_or, (hS.2.1 e he).2.1, m4.1 e he]; rfl
  have hsh : ∀ y, 1 ≤ y → y ≤ N → ∃ t1 t2 : Int64, (if nI y < nI gm then (some (0 : Int64)) else (some (tm : Int64))) = some t1 ∧ (if nI y < nI gi then (some (0 : Int64)) else (some (ti : Int64))) = some t2 ∧ ES W H ((zT y ||| t1) ||| t2) (shT W H so hd ag ga m i y) := by
    intro y hy1 hy2
    have key : ∀ (t : Int64) (g k : Nat), k ≤ eN W H → g ≤ 6 → ES W H t (fun e => decide (e = k)) → (k < eN W H → g = ageT (gr W H so k)) → ∃ u : Int64, (if nI y < nI g then (some (0 : Int64)) else (some (t : Int64))) = some u ∧ ES W H u (fun e => decide (e = k) && decide (ageT (gr W H so e) ≤ y)) := by
      intro t g k hk hg ht hgk
      by_cases c : y < g
      · refine ⟨0, by rw [if_pos ((nI_ltI (by omega) (by omega)).mpr c)], fun e he => ?_, (ES_0 W H).2⟩
        show bl 0 (ePl W H e) = (decide (e = k) && decide (ageT (gr W H so e) ≤ y))
        rw [l_0]
        by_cases d : e = k
        · rw [d, decide_eq_false (show ¬ ageT (gr W H so k) ≤ y by rw [← hgk (by omega)]; omega)]; simp
        · rw [decide_eq_false d]; rfl
      · refine ⟨t, by rw [if_neg (fun q => c ((nI_ltI (by omega) (by omega)).mp q))], fun e he => ?_, ht.2⟩
        show bl t (ePl W H e) = (decide (e = k) && decide (ageT (gr W H so e) ≤ y))
        rw [show bl t (ePl W H e) = decide (e = k) from ht.1 e he]
        by_cases d : e = k
        · rw [d, decide_eq_true (show ageT (gr W H so k) ≤ y by rw [← hgk (by omega)]; omega)]; simp
        · rw [decide_eq_false d]; rfl
    obtain ⟨t1, q1, q2⟩ := key tm gm m hm m3 m4 m5
    obtain ⟨t2, q3, q4⟩ := key ti gi i hi i3 i4 i5
    refine ⟨t1, t2, q1, q3, ?_⟩
    have h := ES_or (ES_or (hT y hy1 hy2) q2) q4
    refine ⟨fun e he => ?_, h.2⟩
    rw [h.1 e he]
    show (((tallB W H so hd ag y e && !(ga e)) || (decide (e = m) && decide (ageT (gr W H so e) ≤ y))) || (decide (e = i) && decide (ageT (gr W H so e) ≤ y))) = _
    unfold shT
    rw [Bool.or_assoc, ← Bool.and_or_distrib_right]
  obtain ⟨r, hr, hp⟩ := up_loop (σ := Int32 × Int64) (fun n y s => L_X6_acresAfter_119 zX zG zS zT (nI a) (nI N) (edT W H m) (edT W H i) tm ti (nI gm) (nI gi) ((zS.1 1) ||| to) n s.1 s.2 y) (N + 1)
    (fun y s => 1 ≤ y ∧ s.1 = runC W H (shT W H so hd ag ga m i) (oneT hd a m i) ow (y - 1) ∧ (1 < y → ES W H s.2 (shT W H so hd ag ga m i (y - 1)) ∧ isMar W H (shT W H so hd ag ga m i (y - 1)) (oneT hd a m i) s.1 s.1))
    (fun r => r.1 = runC W H (shT W H so hd ag ga m i) (oneT hd a m i) ow N)
    (fun n s hI => ⟨(s.1, s.2, nI (N + 1)), by
      show L_X6_acresAfter_119 zX zG zS zT (nI a) (nI N) (edT W H m) (edT W H i) tm ti (nI gm) (nI gi) ((zS.1 1) ||| to) (n + 1) s.1 s.2 (nI (N + 1)) = _
      rw [L_X6_acresAfter_119, if_pos ((nI_ltI (by omega) (by omega)).mpr (by omega))], hI.2.1⟩)
    (fun n y s hy hI => by
      obtain ⟨y1, y2, y3⟩ := hI
      right
      obtain ⟨t1, t2, q1, q2, q3⟩ := hsh y y1 (by omega)
      have hin : ∀ j, bt s.1 j = true → j < W * H := by rw [y2]; exact runC_in ok hK.2.1 _
      obtain ⟨x, x1, x2⟩ := pc_march ok hG q3.1 o2 s.1 hin
      have hx : x = runC W H (shT W H so hd ag ga m i) (oneT hd a m i) ow y := by
        have := marC_is x2
        rw [y2] at this
        have e : y = (y - 1) + 1 := by omega
        rw [e]
        show x = marC W H (shT W H so hd ag ga m i (y - 1 + 1)) (oneT hd a m i) (runC W H (shT W H so hd ag ga m i) (oneT hd a m i) ow (y - 1))
        rw [← e]; exact this
      have e0 : L_X6_acresAfter_119 zX zG zS zT (nI a) (nI N) (edT W H m) (edT W H i) tm ti (nI gm) (nI gi) ((zS.1 1) ||| to) (n + 1) s.1 s.2 (nI y) = L_X6_acresAfter_119 zX zG zS zT (nI a) (nI N) (edT W H m) (edT W H i) tm ti (nI gm) (nI gi) ((zS.1 1) ||| to) n x ((zT y ||| t1) ||| t2) (nI (y + 1)) := by
        rw [L_X6_acresAfter_119, if_neg (fun q => absurd ((nI_ltI (by omega) (by omega)).mp q) (by omega)), ald_s _ _ (show y < 7 by omega) (by omega), q1, q2]
        simp only [Option.bind_some, nm_s, nI_1]
        by_cases c : y = 1
        · rw [if_pos (show nI y = 1 by rw [c]; rfl), x1]
          rfl
        · rw [if_neg (show ¬ nI y = 1 from fun q => c ((nI_eq (b := 1) (by omega) (by omega)).mp q))]
          by_cases d : lg_cmp ((zT y ||| t1) ||| t2) s.2 = 0
          · rw [if_pos d]
            have hd2 := (lg_cmp_0 _ _).mp d
            obtain ⟨z1, z2⟩ := y3 (by omega)
            have hsame : isMar W H (shT W H so hd ag ga m i y) (oneT hd a m i) s.1 s.1 := isMar_cong ok z2 (fun e he => by rw [← z1.1 e he, ← q3.1 e he, hd2]) (fun _ _ _ => rfl)
            rw [isMar_one x2 hsame]
          · rw [if_neg d, x1]
            rfl
      refine ⟨(x, (zT y ||| t1) ||| t2), ⟨by omega, hx, fun _ => ⟨q3, ?_⟩⟩, e0⟩
      exact isMar_idem x2) 3000 1 (ow, 0) (by omega) (by omega) ⟨by omega, rfl, fun h => by omega⟩
  have hin : ∀ j, bt r.1 j = true → j < W * H := by rw [hp]; exact runC_in ok hK.2.1 _
  have hct : fb_ct (bt r.1) 25 ≤ W * H := by
    rw [ct_same (n := W * H) hin (m := 25) (by omega)]; exact fb_ct_le _ _
  unfold f_X6_acresAfter
  rw [m1, m2, i1, i2]
  simp only [Option.bind_some]
  rw [o1]
  simp only [Option.bind_some, nm_s]
  rw [hS.2.2.1, show (L_X6_acresAfter_119 zX zG zS zT (nI a) (nI N) (edT W H m) (edT W H i) tm ti (nI gm) (nI gi) ((zS.1 1) ||| to) 3000 ow 0 1) = some r from hr]
  simp only [Option.bind_some]
  rw [pc_int, ct_same (n := W * H) hin (m := 32) (by omega), ← ct_same (n := W * H) hin (m := 25) (by omega)]
  simp only [Option.bind_some]
  unfold valT valX
  rw [← hp]
  rcases (show a = 0 ∨ a = 1 by omega) with rfl | rfl
  · rw [if_neg (by decide), if_neg (by decide), hG.1.2.2.1, pk_sub hct]
  · rw [if_pos (show nI 1 = 1 from rfl), if_pos rfl]
theorem pc_answer {W H : Nat} {so : Nat → Nat} {pa : Nat → Bool} {zG : GS} {zS : SS} {zT : TS} {hd ag : Nat → Nat} {ga : Nat → Bool} {ow : Int32} {yr : Nat} (zX : XS) (ok : okB W H = true) (hs : soOk so) (hG : GC W H so pa zG) (hK : SK W H hd ag ga ow yr) (hS : SC W H hd ag ga ow yr zS) {a N m : Nat} (ha : a < 2) (hN : N ≤ 6) (hm : m ≤ eN W H)
    (hT : ∀ y, 1 ≤ y → y ≤ N → ES W H (zT y) (fun e => tallB W H so hd ag y e && !(ga e))) {t : Int64} (ht : ∀ e, e < eN W H → bl t (ePl W H e) = ((mayB hd pa e && decide (ageT (gr W H so e) ≤ N)) && !(decide (e = m)))) :
    f_X6_acresAfterAnswer zX zG zS zT (nI a) (nI N) (edT W H m) t = some (nI (lowT W H so hd ag pa ga ow a N m)) := by
  have hgn := geo_n ok
  have hac : ∀ i, i ≤ eN W H → f_X6_acresAfter zX zG zS zT (nI a) (nI N) (edT W H m) (edT W H i) = some (nI (valT W H so hd ag ga ow a N m i)) := fun i hi => pc_acres zX ok hs hG hK hS ha hN hm hi hT
  have hle : ∀ i, valT W H so hd ag ga ow a N m i ≤ 25 := fun i => valX_le ok a _
  obtain ⟨r, hr, w, w1, w2⟩ := up_loop (σ := Int32) (fun n i s => L_X6_acresAfterAnswer_13 zX zG zS zT (nI a) (nI N) (edT W H m) t n s i) (eN W H)
    (fun k s => ∃ w, s = nI w ∧ (∃ i, i ≤ eN W H ∧ okT W H so hd pa N m i = true ∧ w = valT W H so hd ag ga ow a N m i) ∧ w ≤ valT W H so hd ag ga ow a N m (eN W H) ∧ ∀ i, i < k → okT W H so hd pa N m i = true → w ≤ valT W H so hd ag ga ow a N m i)
    (fun r => ∃ w, r.1 = nI w ∧ isLow (valT W H so hd ag ga ow a N m) (okT W H so hd pa N m) (eN W H) w)
    (fun n s hI => by
      obtain ⟨w, w1, w2, w3, w4⟩ := hI
      refine ⟨(s, nI (eN W H)), ?_, w, w1, w2, fun i hi hp => ?_⟩
      · show L_X6_acresAfterAnswer_13 zX zG zS zT (nI a) (nI N) (edT W H m) t (n + 1) s (nI (eN W H)) = _
        rw [L_X6_acresAfterAnswer_13, hG.1.2.2.2, if_pos (Int32.le_refl _)]
      · by_cases c : i = eN W H
        · rw [c]; exact w3
        · exact w4 i (by omega) hp)
    (fun n k s hk hI => by
      obtain ⟨w, w1, w2, w3, w4⟩ := hI
      right
      have hok : okT W H so hd pa N m k = ((mayB hd pa k && decide (ageT (gr W H so k) ≤ N)) && !(decide (k = m))) := by
        unfold okT
        rw [decide_eq_false (show ¬ k = eN W H by omega), Bool.false_or]
      have hwl : w ≤ 25 := by obtain ⟨i, -, -, e⟩ := w2; rw [e]; exact hle i
      cases c : okT W H so hd pa N m k
      · refine ⟨s, ⟨w, w1, w2, w3, fun i hi hp => ?_⟩, ?_⟩
        · rcases Nat.lt_or_ge i k with z | z
          · exact w4 i z hp
          · have : i = k := by omega
            rw [this, c] at hp; cases hp
        · show L_X6_acresAfterAnswer_13 zX zG zS zT (nI a) (nI N) (edT W H m) t (n + 1) s (nI k) = _
          rw [L_X6_acresAfterAnswer_13, hG.1.2.2.2, if_neg (fun q => absurd ((nI_leI (by omega) (by omega)).mp q) (by omega)), ald_s _ _ (show k < 40 by omega) (by omega), (hG.2.2.2.2 k hk).2.2, if_pos ((ES_test ok hk).mpr (by rw [ht k hk, ← hok, c]))]
          simp only [nm_s, nI_1]
      · have hv := hac k (by omega)
        rw [show edT W H k = nI k from if_neg (by omega)] at hv
        refine ⟨nI (min w (valT W H so hd ag ga ow a N m k)), ⟨_, rfl, ?_, by omega, fun i hi hp => ?_⟩, ?_⟩
        · rcases Nat.le_total w (valT W H so hd ag ga ow a N m k) with z | z
          · rw [Nat.min_eq_left z]; exact w2
          · rw [Nat.min_eq_right z]; exact ⟨k, by omega, c, rfl⟩
        · rcases Nat.lt_or_ge i k with z | z
          · have := w4 i z hp; omega
          · have : i = k := by omega
            rw [this]; omega
        · show L_X6_acresAfterAnswer_13 zX zG zS zT (nI a) (nI N) (edT W H m) t (n + 1) s (nI k) = _
          rw [L_X6_acresAfterAnswer_13, hG.1.2.2.2, if_neg (fun q => absurd ((nI_leI (by omega) (by omega)).mp q) (by omega)), ald_s _ _ (show k < 40 by omega) (by omega), (hG.2.2.2.2 k hk).2.2, if_neg (fun q => by rw [ES_test ok hk, ht k hk, ← hok, c] at q; cases q), hv]
          simp only [Option.bind_some, nm_s, nI_1]
          rw [w1, imin_nI (by omega) (by have := hle k; omega)]) 3000 0 (nI (valT W H so hd ag ga ow a N m (eN W H))) (by omega) (by omega) ⟨_, rfl, ⟨eN W H, Nat.le_refl _, by unfold okT; simp, rfl⟩, Nat.le_refl _, fun i hi => absurd hi (Nat.not_lt_zero i)⟩
  have hv := hac (eN W H) (Nat.le_refl _)
  rw [show edT W H (eN W H) = -1 from if_pos rfl] at hv
  unfold f_X6_acresAfterAnswer
  rw [hv]
  simp only [Option.bind_some, nm_s]
  rw [show (L_X6_acresAfterAnswer_13 zX zG zS zT (nI a) (nI N) (edT W H m) t 3000 (nI (valT W H so hd ag ga ow a N m (eN W H))) 0) = some r from hr]
  simp only [Option.bind_some]
  rw [w1, low_tall ok w2]
theorem lowT_le {W H : Nat} (ok : okB W H = true) (so hd ag : Nat → Nat) (pa ga : Nat → Bool) (ow : Int32) (a N m : Nat) : lowT W H so hd ag pa ga ow a N m ≤ 25 := by
  obtain ⟨i, -, -, e⟩ := (lowT_ok W H so hd ag pa ga ow a N m).1
  rw [e]; exact valX_le ok a _
theorem pc_turns {W H : Nat} {so : Nat → Nat} {pa : Nat → Bool} {zG : GS} {zS : SS} {hd ag : Nat → Nat} {ga : Nat → Bool} {ow : Int32} {yr : Nat} (zX : XS) (zT : TS) (ok : okB W H = true) (hs : soOk so) (hG : GC W H so pa zG) (hK : SK W H hd ag ga ow yr) (hS : SC W H hd ag ga ow yr zS) {a N : Nat} (ha : a < 2) (hN1 : 1 ≤ N) (hN : N ≤ 6) (hWH : ¬ nI (W * H) = 0) :
    ∃ v zT', v ≤ 25 ∧ f_X6_turns zX zG zS zT (nI a) (nI N) = some (nI v, zT') ∧ isHigh (lowT W H so hd ag pa ga ow a N) (fun m => decide (m = eN W H) || (mayB hd pa m && decide (ageT (gr W H so m) ≤ N))) (eN W H) v := by
  have hgn := geo_n ok
  obtain ⟨q, hq, hp⟩ := up_loop (σ := TS) (fun n y s => L_X6_turns_39 zX zG zS (nI a) (nI N) n y s) (N + 1)
    (fun k s => 1 ≤ k ∧ ∀ y, 1 ≤ y → y < k → ES W H (s y) (fun e => tallB W H so hd ag y e && !(ga e)))
    (fun q => ∀ y, 1 ≤ y → y ≤ N → ES W H (q.2 y) (fun e => tallB W H so hd ag y e && !(ga e)))
    (fun n s hI => ⟨(nI (N + 1), s), by
      show L_X6_turns_39 zX zG zS (nI a) (nI N) (n + 1) (nI (N + 1)) s = _
      rw [L_X6_turns_39, if_pos ((nI_ltI (by omega) (by omega)).mpr (by omega))], fun y h1 h2 => hI.2 y h1 (by omega)⟩)
    (fun n k s hk hI => by
      right
      obtain ⟨t, t1, t2⟩ := pc_tall ok hs hG hK hS (y := k) (by omega)
      refine ⟨vp_updL s k (t &&& ((zS.1 2) ^^^ (-1))), ⟨by omega, fun y h1 h2 => ?_⟩, ?_⟩
      · by_cases c : y = k
        · rw [c, pk_uLs]
          exact ES_andn ok t2 (fun e he => (hS.2.1 e he).2.2.1)
        · rw [pk_uLn c]; exact hI.2 y h1 (by omega)
      · show L_X6_turns_39 zX zG zS (nI a) (nI N) (n + 1) (nI k) s = L_X6_turns_39 zX zG zS (nI a) (nI N) n (nI (k + 1)) _
        rw [L_X6_turns_39, if_neg (fun q => absurd ((nI_ltI (by omega) (by omega)).mp q) (by omega)), t1]
        simp only [Option.bind_some, nm_s, nI_1]
        rw [ast_s _ (show k < 7 by omega) (by omega), nI_clamp (by omega)]) 3000 1 zT (by omega) (by omega) ⟨by omega, fun y h1 h2 => by omega⟩
  obtain ⟨t, t1, t2⟩ := pc_slips zX ok hs hG hS (N := N) (by omega)
  have hnone : f_X6_acresAfterAnswer zX zG zS q.2 (nI a) (nI N) (-1) t = some (nI (lowT W H so hd ag pa ga ow a N (eN W H))) := by
    have := pc_answer zX ok hs hG hK hS ha hN (Nat.le_refl (eN W H)) hp (t := t) (fun e he => by rw [t2.1 e he, decide_eq_false (show ¬ e = eN W H by omega)]; simp)
    rw [show edT W H (eN W H) = -1 from if_pos rfl] at this
    exact this
  have hone : ∀ k, k < eN W H → f_X6_acresAfterAnswer zX zG zS q.2 (nI a) (nI N) (nI k) (t &&& (lshl 1 (nI (ePl W H k)) ^^^ (-1))) = some (nI (lowT W H so hd ag pa ga ow a N k)) := fun k hk => by
    have := pc_answer zX ok hs hG hK hS ha hN (show k ≤ eN W H by omega) hp (t := t &&& (lshl 1 (nI (ePl W H k)) ^^^ (-1))) (fun e he => by
      rw [(ES_andn ok t2 (ES_pl ok hk).1).1 e he])
    rw [show edT W H k = nI k from if_neg (by omega)] at this
    exact this
  obtain ⟨r, hr, v, v1, v2, v3⟩ := up_loop (σ := Int32) (fun n i s => L_X6_turns_99 zX zG zS q.2 (nI a) (nI N) t n s i) (eN W H)
    (fun k s => ∃ w, w ≤ 25 ∧ s = nI w ∧ (∃ i, i ≤ eN W H ∧ (decide (i = eN W H) || (mayB hd pa i && decide (ageT (gr W H so i) ≤ N))) = true ∧ w = lowT W H so hd ag pa ga ow a N i) ∧ lowT W H so hd ag pa ga ow a N (eN W H) ≤ w ∧ ∀ i, i < k → (mayB hd pa i && decide (ageT (gr W H so i) ≤ N)) = true → lowT W H so hd ag pa ga ow a N i ≤ w)
    (fun r => ∃ w, w ≤ 25 ∧ r.1 = nI w ∧ isHigh (lowT W H so hd ag pa ga ow a N) (fun m => decide (m = eN W H) || (mayB hd pa m && decide (ageT (gr W H so m) ≤ N))) (eN W H) w)
    (fun n s hI => by
      obtain ⟨w, w0, w1, w2, w3, w4⟩ := hI
      refine ⟨(s, nI (eN W H)), ?_, w, w0, w1, w2, fun i hi hp => ?_⟩
      · show L_X6_turns_99 zX zG zS q.2 (nI a) (nI N) t (n + 1) s (nI (eN W H)) = _
        rw [L_X6_turns_99, hG.1.2.2.2, if_pos (Int32.le_refl _)]
      · by_cases c : i = eN W H
        · rw [c]; exact w3
        · simp only [decide_eq_false c, Bool.false_or] at hp
          exact w4 i (by omega) hp)
    (fun n k s hk hI => by
      obtain ⟨w, w0, w1, w2, w3, w4⟩ := hI
      right
      cases c : (mayB hd pa k && decide (ageT (gr W H so k) ≤ N))
      · refine ⟨s, ⟨w, w0, w1, w2, w3, fun i hi hp => ?_⟩, ?_⟩
        · rcases Nat.lt_or_ge i k with z | z
          · exact w4 i z hp
          · have : i = k := by omega
            rw [this, c] at hp; cases hp
        · show L_X6_turns_99 zX zG zS q.2 (nI a) (nI N) t (n + 1) s (nI k) = _
          rw [L_X6_turns_99, hG.1.2.2.2, if_neg (fun q => absurd ((nI_leI (by omega) (by omega)).mp q) (by omega)), ald_s _ _ (show k < 40 by omega) (by omega), (hG.2.2.2.2 k hk).2.2, if_pos ((ES_test ok hk).mpr (by rw [t2.1 k hk]; exact c))]
          simp only [nm_s, nI_1]
      · have hl := lowT_le ok so hd ag pa ga ow a N k
        refine ⟨nI (max w (lowT W H so hd ag pa ga ow a N k)), ⟨_, by omega, rfl, ?_, by omega, fun i hi hp => ?_⟩, ?_⟩
        · rcases Nat.le_total w (lowT W H so hd ag pa ga ow a N k) with z | z
          · rw [Nat.max_eq_right z]; exact ⟨k, by omega, by rw [c]; simp, rfl⟩
          · rw [Nat.max_eq_left z]; exact w2
        · rcases Nat.lt_or_ge i k with z | z
          · have := w4 i z hp; omega
          · have : i = k := by omega
            rw [this]; omega
        · show L_X6_turns_99 zX zG zS q.2 (nI a) (nI N) t (n + 1) s (nI k) = _
          rw [L_X6_turns_99, hG.1.2.2.2, if_neg (fun q => absurd ((nI_leI (by omega) (by omega)).mp q) (by omega)), ald_s _ _ (show k < 40 by omega) (by omega), (hG.2.2.2.2 k hk).2.2, if_neg (fun q => by rw [ES_test ok hk, t2.1 k hk] at q; exact absurd (c.symm.trans q) (by decide)), ald_s _ _ (show k < 40 by omega) (by omega), (hG.2.2.2.2 k hk).2.2, hone k hk]
          simp only [Option.bind_some, nm_s, nI_1]
          rw [w1, imax_nI (by omega) (by omega)]) 3000 0 (nI (lowT W H so hd ag pa ga ow a N (eN W H))) (by omega) (by omega) ⟨_, lowT_le ok so hd ag pa ga ow a N _, rfl, ⟨eN W H, Nat.le_refl _, by simp, rfl⟩, Nat.le_refl _, fun i hi => absurd hi (Nat.not_lt_zero i)⟩
  refine ⟨v, q.2, v1, ?_, v3⟩
  unfold f_X6_turns
  rw [(isE (nI a)).1, (inR_nI (by omega)).mpr ⟨a, ha, rfl⟩]
  simp only [Option.bind_some, if_one, if_true]
  rw [if_neg (show ¬ nI N < 1 from fun q => absurd ((nI_ltI (b := 1) (by omega) (by omega)).mp q) (by omega)), if_pos (show nI N ≤ 6 from (nI_leI (b := 6) (by omega) (by omega)).mpr hN), hG.1.2.2.1, if_neg hWH]
  simp only [nm_s]
  rw [show (L_X6_turns_39 zX zG zS (nI a) (nI N) 3000 1 zT) = some q from hq]
  simp only [Option.bind_some]
  rw [t1]
  simp only [Option.bind_some]
  rw [hnone]
  simp only [Option.bind_some]
  rw [show (L_X6_turns_99 zX zG zS q.2 (nI a) (nI N) t 3000 (nI (lowT W H so hd ag pa ga ow a N (eN W H))) 0) = some r from hr]
  simp only [Option.bind_some]
  rw [v2]
  rfl

/-! ===== plantedAgo, lookAt ===== -/
theorem bt_test (x : Int32) {k : Nat} (hk : k < 32) : (x &&& ((1 : Int32) <<< (nI k &&& 31)) = 0) ↔ bt x k = false := by
  constructor
  · intro h
    have := congrArg (fun x => bt x k) h
    simp only [b_and, b_0, b_pow k hk, decide_true, Bool.and_true] at this
    exact this
  · intro h
    apply b_ext
    intro i _
    rw [b_and, b_0, b_pow k hk]
    by_cases z : i = k
    · rw [z, h]; rfl
    · rw [decide_eq_false z, Bool.and_false]
theorem b_grow {s : Int32} {p : Nat → Bool} {i : Nat} (hi : i < 32) (h : ∀ j, bt s j = (decide (j < i) && p j)) : ∀ j, bt (if p i then s ||| ((1 : Int32) <<< (nI i &&& 31)) else s) j = (decide (j < i + 1) && p j) := by
  intro j
  cases c : p i
  · rw [if_neg (by decide), h]
    by_cases d : j = i
    · rw [d, c]; simp
    · by_cases f : j < i
      · simp [f, Nat.lt_succ_of_lt f]
      · simp [f, show ¬ j < i + 1 by omega]
  · rw [if_pos rfl, b_or, h, b_pow i hi]
    by_cases d : j = i
    · rw [d, c]; simp
    · by_cases f : j < i
      · simp [d, f, Nat.lt_succ_of_lt f]
      · simp [d, f, show ¬ j < i + 1 by omega]
def fitB (W H : Nat) (so re : Nat → Nat) (rh : Nat → Int32) (r y : Nat) : Bool := decide (∀ k, k < r → nI (hgt W H so (re k) y) = rh k)
theorem pc_fits {W H : Nat} {so : Nat → Nat} {pa : Nat → Bool} {zG : GS} {zN : NS} {r : Nat} {re : Nat → Nat} {rh : Nat → Int32} (ok : okB W H = true) (hs : soOk so) (hG : GC W H so pa zG) (hr : r ≤ 6) (h0 : zN.1 0 = nI r) (h1 : ∀ k, k < r → re k < eN W H ∧ zN.2 2 k = nI (re k) ∧ zN.2 3 k = rh k) {y : Nat} (hy : y ≤ 20) :
    f_X2_fits zG zN (nI y) = some (if fitB W H so re rh r y then 1 else 0) := by
  obtain ⟨v, hv, hp⟩ := up_loop (σ := Unit) (fun n i _ => L_X2_fits_2 zG zN (nI y) n i) r (fun k _ => ∀ j, j < k → nI (hgt W H so (re j) y) = rh j) (fun v => v = if fitB W H so re rh r y then 1 else 0)
    (fun n s hI => ⟨1, by
      show L_X2_fits_2 zG zN (nI y) (n + 1) (nI r) = _
      rw [L_X2_fits_2, h0, if_pos (Int32.le_refl _)], by
      rw [show fitB W H so re rh r y = true from decide_eq_true hI]; rfl⟩)
    (fun n k s hk hI => by
      obtain ⟨g1, g2, g3⟩ := h1 k hk
      have e0 : L_X2_fits_2 zG zN (nI y) (n + 1) (nI k) = if nI (hgt W H so (re k) y) = rh k then L_X2_fits_2 zG zN (nI y) n (nI (k + 1)) else some 0 := by
        rw [L_X2_fits_2, h0, if_neg (fun q => absurd ((nI_leI (by omega) (by omega)).mp q) (by omega)), ald_s _ _ (show k < 6 by omega) (by omega), g2, pc_height ok hs hG g1 (by omega)]
        simp only [Option.bind_some]
        rw [ald_s _ _ (show k < 6 by omega) (by omega), g3]
        simp only [nm_s, nI_1]
      by_cases c : nI (hgt W H so (re k) y) = rh k
      · right
        refine ⟨(), fun j hj => ?_, by show L_X2_fits_2 zG zN (nI y) (n + 1) (nI k) = _; rw [e0, if_pos c]⟩
        rcases Nat.lt_or_ge j k with z | z
        · exact hI j z
        · have : j = k := by omega
          rw [this]; exact c
      · left
        refine ⟨0, by show L_X2_fits_2 zG zN (nI y) (n + 1) (nI k) = _; rw [e0, if_neg c], ?_⟩
        rw [show fitB W H so re rh r y = false from decide_eq_false (fun q => c (q k hk))]; rfl) 3000 0 () (by omega) (by omega) (fun j hj => absurd hj (Nat.not_lt_zero j))
  unfold f_X2_fits
  rw [nm_s, show (L_X2_fits_2 zG zN (nI y) 3000 0) = some v from hv, hp]
theorem pc_years {W H : Nat} {so : Nat → Nat} {pa : Nat → Bool} {zG : GS} {zN : NS} {r : Nat} {re : Nat → Nat} {rh : Nat → Int32} (ok : okB W H = true) (hs : soOk so) (hG : GC W H so pa zG) (hr : r ≤ 6) (h0 : zN.1 0 = nI r) (h1 : ∀ k, k < r → re k < eN W H ∧ zN.2 2 k = nI (re k) ∧ zN.2 3 k = rh k) :
    ∃ x, f_X2_yearsThatFit zG zN = some x ∧ ∀ i, bt x i = (decide (i < 21) && fitB W H so re rh r i) := by
  obtain ⟨v, hv, hp⟩ := up_loop (σ := Int32) (fun n i s => L_X2_yearsThatFit_4 zG zN n s i) 21 (fun k s => ∀ j, bt s j = (decide (j < k) && fitB W H so re rh r j)) (fun v => ∀ j, bt v.1 j = (decide (j < 21) && fitB W H so re rh r j))
    (fun n s hI => ⟨(s, nI 21), by
      show L_X2_yearsThatFit_4 zG zN (n + 1) s (nI 21) = _
      rw [L_X2_yearsThatFit_4, if_pos (show (20 : Int32) < nI 21 by decide)], hI⟩)
    (fun n k s hk hI => by
      right
      refine ⟨_, b_grow (by omega) hI, ?_⟩
      show L_X2_yearsThatFit_4 zG zN (n + 1) s (nI k) = L_X2_yearsThatFit_4 zG zN n _ (nI (k + 1))
      rw [L_X2_yearsThatFit_4, if_neg (show ¬ (20 : Int32) < nI k from fun q => absurd ((nI_ltI (a := 20) (by omega) (by omega)).mp q) (by omega)), pc_fits ok hs hG hr h0 h1 (by omega)]
      simp only [Option.bind_some, nm_s, nI_1, if_one]
      cases fitB W H so re rh r k <;> rfl) 3000 0 0 (by omega) (by omega) (fun j => by rw [b_0]; simp)
  refine ⟨v.1, ?_, hp⟩
  unfold f_X2_yearsThatFit
  simp only [nm_s]
  rw [show (L_X2_yearsThatFit_4 zG zN 3000 0 0) = some v from hv]
  rfl
theorem pm_years {W H : Nat} {so : Nat → Nat} {pa : Nat → Bool} {zM : MS} {r : Nat} {re : Nat → Nat} {rh : Nat → Int32} (ok : okB W H = true) (hs : soOk so) (hG : GM W H so pa zM) (hr : r ≤ 6) (h0 : zM.1 29 = nI r) (h1 : ∀ k, k < r → re k < eN W H ∧ zM.2 30 k = nI (re k) ∧ zM.2 31 k = rh k) :
    ∃ x, f_X7_yearsAgo zM = some x ∧ ∀ i, bt x i = (decide (i < 21) && fitB W H so re rh r i) := by
  have hin : ∀ (v1 : Int32) (y : Nat), y ≤ 20 → ∃ q, L_X7_yearsAgo_15 zM v1 (nI y) 3000 1 0 = some q ∧ q.1 = if fitB W H so re rh r y then 1 else 0 := by
    intro v1 y hy
    refine up_loop (σ := Int32) (fun n i s => L_X7_yearsAgo_15 zM v1 (nI y) n s i) r (fun k s => s = if fitB W H so re rh k y then 1 else 0) (fun q => q.1 = if fitB W H so re rh r y then 1 else 0) ?_ ?_ 3000 0 1 (by omega) (by omega) ?_
    · intro n s hI
      refine ⟨(s, nI r), ?_, hI⟩
      show L_X7_yearsAgo_15 zM v1 (nI y) (n + 1) s (nI r) = _
      rw [L_X7_yearsAgo_15, h0, if_pos (Int32.le_refl _)]
    · intro n k s hk hI
      right
      obtain ⟨g1, g2, g3⟩ := h1 k hk
      refine ⟨if fitB W H so re rh (k + 1) y then 1 else 0, rfl, ?_⟩
      show L_X7_yearsAgo_15 zM v1 (nI y) (n + 1) s (nI k) = L_X7_yearsAgo_15 zM v1 (nI y) n (if fitB W H so re rh (k + 1) y then 1 else 0) (nI (k + 1))
      rw [L_X7_yearsAgo_15, h0, if_neg (fun q => absurd ((nI_leI (by omega) (by omega)).mp q) (by omega)), hI]
      simp only [nm_s, nI_1, if_one]
      by_cases c : fitB W H so re rh k y = true
      · rw [if_pos c, ald_s _ _ (show k < 6 by omega) (by omega), g2, pm_height ok hs hG g1 (by omega)]
        simp only [Option.bind_some]
        rw [ald_s _ _ (show k < 6 by omega) (by omega), g3]
        have c' := of_decide_eq_true c
        by_cases d : nI (hgt W H so (re k) y) = rh k
        · rw [if_pos d, show fitB W H so re rh (k + 1) y = true from decide_eq_true (fun j hj => by
            rcases Nat.lt_or_ge j k with z | z
            · exact c' j z
            · have : j = k := by omega
              rw [this]; exact d)]
          rfl
        · rw [if_neg d, show fitB W H so re rh (k + 1) y = false from decide_eq_false (fun q => d (q k (by omega)))]
          rfl
      · rw [if_neg c, show fitB W H so re rh (k + 1) y = false from decide_eq_false (fun q => c (decide_eq_true (fun j hj => q j (by omega))))]
        rfl
    · rw [show fitB W H so re rh 0 y = true from decide_eq_true (fun j hj => absurd hj (Nat.not_lt_zero j))]; rfl
  obtain ⟨v, hv, hp⟩ := up_loop (σ := Int32) (fun n i s => L_X7_yearsAgo_4 zM n s i) 21 (fun k s => ∀ j, bt s j = (decide (j < k) && fitB W H so re rh r j)) (fun v => ∀ j, bt v.1 j = (decide (j < 21) && fitB W H so re rh r j))
    (fun n s hI => ⟨(s, nI 21), by
      show L_X7_yearsAgo_4 zM (n + 1) s (nI 21) = _
      rw [L_X7_yearsAgo_4, if_pos (show (21 : Int32) ≤ nI 21 by decide)], hI⟩)
    (fun n k s hk hI => by
      right
      refine ⟨_, b_grow (by omega) hI, ?_⟩
      obtain ⟨q, hq1, hq2⟩ := hin s k (by omega)
      show L_X7_yearsAgo_4 zM (n + 1) s (nI k) = L_X7_yearsAgo_4 zM n _ (nI (k + 1))
      rw [L_X7_yearsAgo_4, if_neg (show ¬ (21 : Int32) ≤ nI k from fun q => absurd ((nI_leI (a := 21) (by omega) (by omega)).mp q) (by omega))]
      simp only [nm_s]
      rw [hq1]
      simp only [Option.bind_some, nI_1]
      rw [hq2]
      cases fitB W H so re rh r k
      · rw [if_pos (show (if false = true then (1 : Int32) else 0) = 0 from rfl), if_neg (by decide), show s ||| 0 = s from b_ext (fun i _ => by rw [b_or, b_0, Bool.or_false])]
      · rw [if_neg (show ¬ (if true = true then (1 : Int32) else 0) = 0 by decide), if_pos rfl]) 3000 0 0 (by omega) (by omega) (fun j => by rw [b_0]; simp)
  refine ⟨v.1, ?_, hp⟩
  unfold f_X7_yearsAgo
  simp only [nm_s]
  rw [show (L_X7_yearsAgo_4 zM 3000 0 0) = some v from hv]
  rfl
theorem years_both {W H : Nat} {so : Nat → Nat} {pa : Nat → Bool} {zG : GS} {zN : NS} {zM : MS} (ok : okB W H = true) (hs : soOk so) (hGC : GC W H so pa zG) (hGM : GM W H so pa zM) (hN : RelN W H zN zM) :
    ∃ x, f_X2_yearsThatFit zG zN = some x ∧ f_X7_yearsAgo zM = some x ∧ ∀ i, bt x i = true → i < 21 := by
  obtain ⟨r, b, h1, h2, h3, h4, h5, h6, h7, h8⟩ := hN
  obtain ⟨re, hre⟩ : ∃ re : Nat → Nat, ∀ k, k < r → re k < eN W H ∧ zN.2 2 k = nI (re k) := by
    refine ⟨fun k => if h : k < r then (h7 k h).2.2.choose else 0, fun k hk => ?_⟩
    simp only [dif_pos hk]
    exact (h7 k hk).2.2.choose_spec
  obtain ⟨x, x1, x2⟩ := pc_years (rh := zN.2 3) ok hs hGC h1 h3 (fun k hk => ⟨(hre k hk).1, (hre k hk).2, rfl⟩)
  obtain ⟨y, y1, y2⟩ := pm_years (rh := zN.2 3) ok hs hGM h1 h4 (fun k hk => ⟨(hre k hk).1, by rw [← (h7 k hk).1]; exact (hre k hk).2, (h7 k hk).2.1.symm⟩)
  have e : x = y := b_ext (fun i _ => by rw [x2, y2])
  refine ⟨x, x1, by rw [e]; exact y1, fun i hi => ?_⟩
  rw [x2, Bool.and_eq_true, decide_eq_true_eq] at hi
  exact hi.1
theorem sim_19 : SM_19 Rel := by
  intro zX zR zRG zRS zG zS zP zQ zN zI zJ zT zM hR
  have hR0 := hR
  obtain ⟨W, H, ok, ⟨so, pa, hso, hGC, hGM⟩, hS, hP, hI, hN, hT, hf, hs, hs0⟩ := hR
  obtain ⟨x, x1, x2, -⟩ := years_both ok hso hGC hGM hN
  unfold sp_19 f_X6_plantedAgo f_X7_plantedAgo
  rw [x1, x2]
  simp only [Option.bind_some, if_true]
  exact ⟨_, rfl, hR0⟩
def cntV (x : Int32) (h : Nat → Nat) (v n : Nat) : Nat := fb_ct (fun z => bt x z && decide (h z = v)) n
def isTop (x : Int32) (h : Nat → Nat) (m : Nat) : Prop := (∀ v, cntV x h v 21 ≤ m) ∧ (m = 0 ∨ ∃ v, m = cntV x h v 21)
theorem isTop_one {x : Int32} {h : Nat → Nat} {m k : Nat} (a : isTop x h m) (b : isTop x h k) : m = k := by
  apply Nat.le_antisymm
  · rcases a.2 with e | ⟨v, e⟩
    · omega
    · rw [e]; exact b.1 v
  · rcases b.2 with e | ⟨v, e⟩
    · omega
    · rw [e]; exact a.1 v
theorem cntV_succ (x : Int32) (h : Nat → Nat) (v n : Nat) : cntV x h v (n + 1) = cntV x h v n + (if (bt x n && decide (h n = v)) then 1 else 0) := fb_ct_succ _ n
theorem hgt_le (W H : Nat) (so : Nat → Nat) (e a : Nat) : hgt W H so e a ≤ 99 := by unfold hgt; omega
theorem pc_alike {W H : Nat} {so : Nat → Nat} {pa : Nat → Bool} {zG : GS} (ok : okB W H = true) (hs : soOk so) (hG : GC W H so pa zG) {e : Nat} (he : e < eN W H) (x : Int32) :
    ∃ m, m ≤ 21 ∧ f_X0_mostAlikeOn zG (nI e) x = some (nI m) ∧ isTop x (hgt W H so e) m := by
  have hin : ∀ (v3 : Int32) (y : Nat), y ≤ 20 → ∃ q, L_X0_mostAlikeOn_18 zG (nI e) x v3 (nI y) 3000 0 0 = some q ∧ q.1 = nI (cntV x (hgt W H so e) (hgt W H so e y) 21) := by
    intro v3 y hy
    refine up_loop (σ := Int32) (fun n i s => L_X0_mostAlikeOn_18 zG (nI e) x v3 (nI y) n s i) 21 (fun k s => s = nI (cntV x (hgt W H so e) (hgt W H so e y) k)) (fun q => q.1 = nI (cntV x (hgt W H so e) (hgt W H so e y) 21)) ?_ ?_ 3000 0 0 (by omega) (by omega) rfl
    · intro n s hI
      refine ⟨(s, nI 21), ?_, hI⟩
      show L_X0_mostAlikeOn_18 zG (nI e) x v3 (nI y) (n + 1) s (nI 21) = _
      rw [L_X0_mostAlikeOn_18, if_pos (show (20 : Int32) < nI 21 by decide)]
    · intro n k s hk hI
      right
      refine ⟨nI (cntV x (hgt W H so e) (hgt W H so e y) (k + 1)), rfl, ?_⟩
      have l1 := hgt_le W H so e y
      have l2 := hgt_le W H so e k
      show L_X0_mostAlikeOn_18 zG (nI e) x v3 (nI y) (n + 1) s (nI k) = L_X0_mostAlikeOn_18 zG (nI e) x v3 (nI y) n _ (nI (k + 1))
      rw [L_X0_mostAlikeOn_18, if_neg (show ¬ (20 : Int32) < nI k from fun q => absurd ((nI_ltI (a := 20) (by omega) (by omega)).mp q) (by omega)), hI, cntV_succ]
      simp only [nm_s, nI_1]
      cases c : bt x k
      · rw [if_pos ((bt_test x (by omega)).mpr c)]
        simp
      · rw [if_neg (fun q => by rw [bt_test x (by omega), c] at q; cases q), pc_height ok hs hG he (by omega), pc_height ok hs hG he (by omega)]
        simp only [Option.bind_some]
        by_cases d : hgt W H so e k = hgt W H so e y
        · rw [if_pos (by rw [d]), d]
          simp
        · rw [if_neg (fun q => d ((nI_eq (by omega) (by omega)).mp q).symm), decide_eq_false d]
          simp
  obtain ⟨v, hv, m, q1, q2, q3⟩ := up_loop (σ := Int32) (fun n i s => L_X0_mostAlikeOn_5 zG (nI e) x n s i) 21 (fun k s => ∃ m, m ≤ 21 ∧ s = nI m ∧ (∀ y, y < k → cntV x (hgt W H so e) (hgt W H so e y) 21 ≤ m) ∧ (m = 0 ∨ ∃ v, m = cntV x (hgt W H so e) v 21)) (fun v => ∃ m, m ≤ 21 ∧ v.1 = nI m ∧ isTop x (hgt W H so e) m)
    (fun n s hI => by
      obtain ⟨m, q1, q2, q3, q4⟩ := hI
      refine ⟨(s, nI 21), ?_, m, q1, q2, fun v => ?_, q4⟩
      · show L_X0_mostAlikeOn_5 zG (nI e) x (n + 1) s (nI 21) = _
        rw [L_X0_mostAlikeOn_5, if_pos (show (20 : Int32) < nI 21 by decide)]
      · by_cases c : cntV x (hgt W H so e) v 21 = 0
        · omega
        · obtain ⟨y, y1, y2⟩ := fb_ct_pos.mp (Nat.pos_of_ne_zero c)
          rw [Bool.and_eq_true, decide_eq_true_eq] at y2
          rw [← y2.2]
          exact q3 y y1)
    (fun n k s hk hI => by
      obtain ⟨m, q1, q2, q3, q4⟩ := hI
      right
      obtain ⟨q, hq1, hq2⟩ := hin s k (by omega)
      have lc : cntV x (hgt W H so e) (hgt W H so e k) 21 ≤ 21 := fb_ct_le _ 21
      refine ⟨nI (max m (cntV x (hgt W H so e) (hgt W H so e k) 21)), ⟨_, by omega, rfl, fun y hy => ?_, ?_⟩, ?_⟩
      · rcases Nat.lt_or_ge y k with z | z
        · exact Nat.le_trans (q3 y z) (Nat.le_max_left _ _)
        · have : y = k := by omega
          rw [this]; exact Nat.le_max_right _ _
      · rcases Nat.le_total m (cntV x (hgt W H so e) (hgt W H so e k) 21) with z | z
        · exact Or.inr ⟨_, Nat.max_eq_right z⟩
        · rw [Nat.max_eq_left z]; exact q4
      · show L_X0_mostAlikeOn_5 zG (nI e) x (n + 1) s (nI k) = L_X0_mostAlikeOn_5 zG (nI e) x n _ (nI (k + 1))
        rw [L_X0_mostAlikeOn_5, if_neg (show ¬ (20 : Int32) < nI k from fun q => absurd ((nI_ltI (a := 20) (by omega) (by omega)).mp q) (by omega))]
        simp only [nm_s]
        rw [hq1]
        simp only [Option.bind_some, nI_1]
        rw [hq2, q2, imax_nI (by omega) (by omega)]) 3000 0 0 (by omega) (by omega) ⟨0, by omega, rfl, fun y hy => absurd hy (Nat.not_lt_zero y), Or.inl rfl⟩
  refine ⟨m, q1, ?_, q3⟩
  unfold f_X0_mostAlikeOn
  simp only [nm_s]
  rw [show (L_X0_mostAlikeOn_5 zG (nI e) x 3000 0 0) = some v from hv]
  simp only [Option.bind_some]
  rw [q2]
theorem pm_part {W H : Nat} {so : Nat → Nat} {pa : Nat → Bool} {zM : MS} (ok : okB W H = true) (hs : soOk so) (hG : GM W H so pa zM) {e : Nat} (he : e < eN W H) (x : Int32) :
    ∃ m p, m ≤ 21 ∧ f_X7_greatestPart zM (nI e) x = some (nI m, ((zM.1, va_up zM.2 32 p) : MS)) ∧ isTop x (hgt W H so e) m := by
  obtain ⟨q, hq, p, e1, hp⟩ := up_loop (σ := MS) (fun n i s => L_X7_greatestPart_2 (nI e) x n i s) 100 (fun k s => ∃ p, s = (zM.1, va_up zM.2 32 p) ∧ ∀ j, j < k → p j = 0) (fun q => ∃ p, q.2 = (zM.1, va_up zM.2 32 p) ∧ ∀ j, j < 100 → p j = 0)
    (fun n s hI => ⟨(nI 100, s), by
      show L_X7_greatestPart_2 (nI e) x (n + 1) (nI 100) s = _
      rw [L_X7_greatestPart_2, if_pos (show (100 : Int32) ≤ nI 100 by decide)], hI⟩)
    (fun n k s hk hI => by
      obtain ⟨p, e1, hp⟩ := hI
      right
      refine ⟨(zM.1, va_up zM.2 32 (upd p k 0)), ⟨_, rfl, fun j hj => ?_⟩, ?_⟩
      · by_cases c : j = k
        · rw [c, ud_eq]
        · rw [ud_ne _ _ c]; exact hp j (by omega)
      · show L_X7_greatestPart_2 (nI e) x (n + 1) (nI k) s = L_X7_greatestPart_2 (nI e) x n (nI (k + 1)) _
        rw [e1, L_X7_greatestPart_2, if_neg (show ¬ (100 : Int32) ≤ nI k from fun q => absurd ((nI_leI (a := 100) (by omega) (by omega)).mp q) (by omega)), ast_s _ hk (by omega), nI_clamp (by omega)]
        simp only [nm_s, nI_1]
        rw [zu_up, zu_eq]) 3000 0 zM (by omega) (by omega) ⟨zM.2 32, by rw [zu_self], fun j hj => absurd hj (Nat.not_lt_zero j)⟩
  obtain ⟨w, hw, m, p2, w1, w2, w3, w4⟩ := up_loop (σ := Int32 × MS) (fun n i s => L_X7_greatestPart_26 (nI e) x n s.1 i s.2) 21 (fun k s => ∃ m p, m ≤ k ∧ s = (nI m, ((zM.1, va_up zM.2 32 p) : MS)) ∧ (∀ v, v < 100 → p v = nI (cntV x (hgt W H so e) v k)) ∧ (∀ v, cntV x (hgt W H so e) v k ≤ m) ∧ (m = 0 ∨ ∃ v, m = cntV x (hgt W H so e) v k)) (fun q => ∃ m p, m ≤ 21 ∧ q.1 = nI m ∧ q.2.2 = ((zM.1, va_up zM.2 32 p) : MS) ∧ isTop x (hgt W H so e) m)
    (fun n s hI => by
      obtain ⟨m, p, i1, i2, i3, i4, i5⟩ := hI
      refine ⟨(s.1, nI 21, s.2), ?_, m, p, i1, by rw [i2], by rw [i2], i4, i5⟩
      show L_X7_greatestPart_26 (nI e) x (n + 1) s.1 (nI 21) s.2 = _
      rw [L_X7_greatestPart_26, if_pos (show (21 : Int32) ≤ nI 21 by decide)])
    (fun n k s hk hI => by
      obtain ⟨m, p, i1, i2, i3, i4, i5⟩ := hI
      right
      have l2 := hgt_le W H so e k
      have hG2 : GM W H so pa (zM.1, va_up zM.2 32 p) := GM_up hG rfl rfl rfl rfl rfl rfl rfl rfl
      have e0 : L_X7_greatestPart_26 (nI e) x (n + 1) s.1 (nI k) s.2 = if bt x k = false then L_X7_greatestPart_26 (nI e) x n (nI m) (nI (k + 1)) (zM.1, va_up zM.2 32 p) else (if cntV x (hgt W H so e) (hgt W H so e k) k + 1 ≤ m then L_X7_greatestPart_26 (nI e) x n (nI m) (nI (k + 1)) (zM.1, va_up zM.2 32 (upd p (hgt W H so e k) (nI (cntV x (hgt W H so e) (hgt W H so e k) k + 1)))) else L_X7_greatestPart_26 (nI e) x n (nI (cntV x (hgt W H so e) (hgt W H so e k) k + 1)) (nI (k + 1)) (zM.1, va_up zM.2 32 (upd p (hgt W H so e k) (nI (cntV x (hgt W H so e) (hgt W H so e k) k + 1))))) := by
        have lc : cntV x (hgt W H so e) (hgt W H so e k) k ≤ k := fb_ct_le _ k
        rw [i2]
        show L_X7_greatestPart_26 (nI e) x (n + 1) (nI m) (nI k) (zM.1, va_up zM.2 32 p) = _
        rw [L_X7_greatestPart_26, if_neg (show ¬ (21 : Int32) ≤ nI k from fun q => absurd ((nI_leI (a := 21) (by omega) (by omega)).mp q) (by omega)), pm_has _ (show k < 32 by omega)]
        simp only [Option.bind_some, if_one, nm_s, nI_1]
        cases c : bt x k
        · rfl
        · rw [if_pos rfl, if_neg (by decide), pm_height ok hs hG2 he (by omega)]
          simp only [Option.bind_some]
          rw [ald_s _ _ (show hgt W H so e k < 100 by omega) (by omega), ast_s _ (show hgt W H so e k < 100 by omega) (by omega), nI_clamp (by omega), zu_up, zu_eq, ald_s _ _ (show hgt W H so e k < 100 by omega) (by omega), ald_s _ _ (show hgt W H so e k < 100 by omega) (by omega), zu_eq, ud_eq, i3 _ (by omega), nI_1]
          by_cases d : cntV x (hgt W H so e) (hgt W H so e k) k + 1 ≤ m
          · rw [if_pos ((nI_leI (by omega) (by omega)).mpr d), if_pos d]
          · rw [if_neg (fun q => d ((nI_leI (by omega) (by omega)).mp q)), if_neg d]
      cases c : bt x k
      · have hc : ∀ v, cntV x (hgt W H so e) v (k + 1) = cntV x (hgt W H so e) v k := fun v => by rw [cntV_succ, c]; simp
        refine ⟨(nI m, (zM.1, va_up zM.2 32 p)), ⟨m, p, by omega, rfl, fun v hv => by rw [hc]; exact i3 v hv, fun v => by rw [hc]; exact i4 v, ?_⟩, ?_⟩
        · rcases i5 with z | ⟨v, z⟩
          · exact Or.inl z
          · exact Or.inr ⟨v, by rw [hc]; exact z⟩
        · show L_X7_greatestPart_26 (nI e) x (n + 1) s.1 (nI k) s.2 = _
          rw [e0, if_pos c]
      · have hc1 : cntV x (hgt W H so e) (hgt W H so e k) (k + 1) = cntV x (hgt W H so e) (hgt W H so e k) k + 1 := by rw [cntV_succ, c]; simp
        have hc2 : ∀ v, ¬ v = hgt W H so e k → cntV x (hgt W H so e) v (k + 1) = cntV x (hgt W H so e) v k := fun v hv => by rw [cntV_succ, decide_eq_false (fun q => hv q.symm)]; simp
        have hp3 : ∀ v, v < 100 → upd p (hgt W H so e k) (nI (cntV x (hgt W H so e) (hgt W H so e k) k + 1)) v = nI (cntV x (hgt W H so e) v (k + 1)) := fun v hv => by
          by_cases z : v = hgt W H so e k
          · rw [z, ud_eq, hc1]
          · rw [ud_ne _ _ z, hc2 v z]; exact i3 v hv
        have lc : cntV x (hgt W H so e) (hgt W H so e k) k ≤ k := fb_ct_le _ k
        by_cases d : cntV x (hgt W H so e) (hgt W H so e k) k + 1 ≤ m
        · refine ⟨(nI m, (zM.1, va_up zM.2 32 (upd p (hgt W H so e k) (nI (cntV x (hgt W H so e) (hgt W H so e k) k + 1))))), ⟨m, _, by omega, rfl, hp3, fun v => ?_, ?_⟩, ?_⟩
          · by_cases z : v = hgt W H so e k
            · rw [z, hc1]; exact d
            · rw [hc2 v z]; exact i4 v
          · rcases i5 with z | ⟨v, z⟩
            · exact Or.inl z
            · refine Or.inr ⟨v, ?_⟩
              by_cases y : v = hgt W H so e k
              · rw [y] at z; omega
              · rw [hc2 v y]; exact z
          · show L_X7_greatestPart_26 (nI e) x (n + 1) s.1 (nI k) s.2 = _
            rw [e0, if_neg (by rw [c]; decide), if_pos d]
        · refine ⟨(nI (cntV x (hgt W H so e) (hgt W H so e k) k + 1), (zM.1, va_up zM.2 32 (upd p (hgt W H so e k) (nI (cntV x (hgt W H so e) (hgt W H so e k) k + 1))))), ⟨_, _, by omega, rfl, hp3, fun v => ?_, Or.inr ⟨_, hc1.symm⟩⟩, ?_⟩
          · by_cases z : v = hgt W H so e k
            · rw [z, hc1]; exact Nat.le_refl _
            · rw [hc2 v z]; have := i4 v; omega
          · show L_X7_greatestPart_26 (nI e) x (n + 1) s.1 (nI k) s.2 = _
            rw [e0, if_neg (by rw [c]; decide), if_neg d]) 3000 0 (0, (zM.1, va_up zM.2 32 p)) (by omega) (by omega) ⟨0, p, by omega, rfl, fun v hv => hp v hv, fun v => Nat.le_refl 0, Or.inl rfl⟩
  refine ⟨m, p2, w1, ?_, w4⟩
  unfold f_X7_greatestPart
  simp only [nm_s]
  rw [show (L_X7_greatestPart_2 (nI e) x 3000 0 zM) = some q from hq]
  simp only [Option.bind_some]
  rw [e1, show (L_X7_greatestPart_26 (nI e) x 3000 0 0 (zM.1, va_up zM.2 32 p)) = some w from hw]
  simp only [Option.bind_some]
  rw [w2, w3]
theorem look_both {W H : Nat} {so : Nat → Nat} {pa : Nat → Bool} {zG : GS} {zM : MS} (zX : XS) (zN : NS) (ok : okB W H = true) (hs : soOk so) (hGC : GC W H so pa zG) (hGM : GM W H so pa zM) (x : Int32) :
    ∀ n k p (l b : Int32), k ≤ eN W H → eN W H < k + n → ∃ l' b' p', L_X6_lookAt_22 zX zG zN x n l b (nI k) = some (l', b', nI (eN W H)) ∧ L_X7_lookAt_15 x n b l (nI k) (zM.1, va_up zM.2 32 p) = some (b', l', nI (eN W H), ((zM.1, va_up zM.2 32 p') : MS)) := by
  have hgn := geo_n ok
  intro n
  induction n with
  | zero => intro k p l b h1 h2; omega
  | succ n ih =>
    intro k p l b h1 h2
    have hG2 : GM W H so pa (zM.1, va_up zM.2 32 p) := GM_up hGM rfl rfl rfl rfl rfl rfl rfl rfl
    rw [L_X6_lookAt_22, L_X7_lookAt_15, hGC.1.2.2.2, show ((zM.1, va_up zM.2 32 p) : MS).1 3 = nI (eN W H) from hGM.1.2.2.2]
    by_cases c : eN W H ≤ k
    · have e : k = eN W H := by omega
      rw [e, if_pos (Int32.le_refl _), if_pos (Int32.le_refl _)]
      exact ⟨_, _, _, rfl, rfl⟩
    · rw [if_neg (fun q => c ((nI_leI (by omega) (by omega)).mp q)), if_neg (fun q => c ((nI_leI (by omega) (by omega)).mp q))]
      obtain ⟨m, m0, m1, m2⟩ := pc_alike ok hs hGC (show k < eN W H by omega) x
      obtain ⟨j, p2, j0, j1, j2⟩ := pm_part ok hs hG2 (show k < eN W H by omega) x
      have hjm := isTop_one j2 m2
      subst hjm
      rw [m1, j1]
      simp only [Option.bind_some, nm_s, nI_1, zu_up]
      by_cases d : l ≤ nI j
      · rw [if_pos d, if_pos d]
        simp only [Option.bind_some]
        rw [if_pos d]
        exact ih (k + 1) p2 l b (by omega) (by omega)
      · rw [if_neg d, if_neg d]
        simp only [Option.bind_some]
        rw [if_neg d]
        exact ih (k + 1) p2 (nI j) (nI k) (by omega) (by omega)
theorem look_c {W H : Nat} {so : Nat → Nat} {pa : Nat → Bool} {zG : GS} {zM : MS} {zX : XS} {zN : NS} (ok : okB W H = true) (hs : soOk so) (hGC : GC W H so pa zG) (hGM : GM W H so pa zM) (hN : RelN W H zN zM) :
    ∃ v p, f_X6_lookAt zX zG zN = some v ∧ f_X7_lookAt zM = some (v, ((zM.1, va_up zM.2 32 p) : MS)) := by
  have hgn := geo_n ok
  obtain ⟨x, x1, x2, x3⟩ := years_both ok hs hGC hGM hN
  have hb1 : f_J6_bitCount_0f7a4 x = some (nI (fb_ct (bt x) 25)) := by
    rw [pc_int, ct_same (n := 21) x3 (m := 32) (by omega), ← ct_same (n := 21) x3 (m := 25) (by omega)]
  have hb2 := pm_bits x
  generalize nI (fb_ct (bt x) 25) = l at hb1 hb2
  obtain ⟨l', b', p', e1, e2⟩ := look_both zX zN ok hs hGC hGM x 3000 0 (zM.2 32) l (-1) (by omega) (by omega)
  rw [zu_self] at e2
  refine ⟨b', p', ?_, ?_⟩
  · unfold f_X6_lookAt
    rw [nI_0] at e1
    rw [x1, Option.bind_some, hb1, Option.bind_some, nm_s, nm_s, e1]
    rfl
  · unfold f_X7_lookAt
    rw [nI_0] at e2
    rw [x2, Option.bind_some, nm_s, hb2, Option.bind_some, nm_s, e2]
    rfl
theorem sim_20 : SM_20 Rel := by
  intro zX zR zRG zRS zG zS zP zQ zN zI zJ zT zM hR
  obtain ⟨W, H, ok, ⟨so, pa, hso, hGC, hGM⟩, hS, hP, hI, hN, hT, hf, hs, hs0⟩ := hR
  obtain ⟨v, p, e1, e2⟩ := look_c (zX := zX) ok hso hGC hGM hN
  unfold sp_20
  rw [e1, e2]
  simp only [Option.bind_some, nm_s, if_true]
  exact ⟨_, rfl, W, H, ok, ⟨so, pa, hso, hGC, GM_up hGM rfl rfl rfl rfl rfl rfl rfl rfl⟩, hS, hP, hI, hN, hT, hf, hs, hs0⟩

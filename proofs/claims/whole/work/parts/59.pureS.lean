/-! ===== the text: blanks, figures, numbers ===== -/
def RTc (N : Nat) (t : Nat → Nat) (p : Nat) (zR : RS) : Prop := zR.1 3 = nI N ∧ N ≤ 240 ∧ (∀ k, k < N → zR.2 k = nI (t k) ∧ t k ≤ 255) ∧ zR.1 4 = nI p ∧ p ≤ N
def RTm (N : Nat) (t : Nat → Nat) (p : Nat) (zM : MS) : Prop := zM.1 11 = nI N ∧ N ≤ 240 ∧ (∀ k, k < N → zM.2 10 k = nI (t k) ∧ t k ≤ 255) ∧ zM.1 13 = nI p ∧ p ≤ N
def frR (a : List Nat) (z0 z : RS) : Prop := (∀ k, k ∉ a → z.1 k = z0.1 k) ∧ z.2 = z0.2
theorem frR_refl (a : List Nat) (z : RS) : frR a z z := ⟨fun _ _ => rfl, rfl⟩
theorem frR_tr {a : List Nat} {z0 z1 z2 : RS} (h : frR a z0 z1) (k : frR a z1 z2) : frR a z0 z2 := ⟨fun j hj => (k.1 j hj).trans (h.1 j hj), k.2.trans h.2⟩
theorem frR_1 {a : List Nat} {z0 z : RS} (h : frR a z0 z) {k : Nat} (hk : k ∈ a) (x : Int32) : frR a z0 (upd z.1 k x, z.2) := ⟨fun j hj => by
  show upd z.1 k x j = _
  rw [ud_ne _ _ (fun q => hj (by rw [q]; exact hk))]; exact h.1 j hj, h.2⟩
theorem RTc_fr {N : Nat} {t : Nat → Nat} {p q : Nat} {z0 z : RS} (h : RTc N t p z0) (fr : frR [4, 5, 6, 7] z0 z) (h4 : z.1 4 = nI q) (hq : q ≤ N) : RTc N t q z := by
  refine ⟨by rw [fr.1 3 (by decide)]; exact h.1, h.2.1, ?_, h4, hq⟩
  rw [fr.2]; exact h.2.2.1
theorem RTm_fr {N : Nat} {t : Nat → Nat} {p q : Nat} {a b : List Nat} {z0 z : MS} (h : RTm N t p z0) (fr : frm a b z0 z) (h11 : 11 ∉ a) (h10 : 10 ∉ b) (h13 : z.1 13 = nI q) (hq : q ≤ N) : RTm N t q z := by
  refine ⟨by rw [fr.1 11 h11]; exact h.1, h.2.1, ?_, h13, hq⟩
  rw [fr.2 10 h10]; exact h.2.2.1
def isSkp (N : Nat) (t : Nat → Nat) (p q : Nat) : Prop := p ≤ q ∧ q ≤ N ∧ (∀ i, p ≤ i → i < q → t i = 32) ∧ (q < N → ¬ t q = 32)
theorem isSkp_one {N : Nat} {t : Nat → Nat} {p q r : Nat} (h : isSkp N t p q) (k : isSkp N t p r) : q = r := by
  rcases Nat.lt_trichotomy q r with z | z | z
  · exact absurd (k.2.2.1 q h.1 z) (h.2.2.2 (by have := k.2.1; omega))
  · exact z
  · exact absurd (h.2.2.1 r k.1 z) (k.2.2.2 (by have := h.2.1; omega))
theorem skp_c {N : Nat} {t : Nat → Nat} {p : Nat} {zR : RS} (h : RTc N t p zR) : ∃ q, isSkp N t p q ∧ f_X4_skipBlanks zR = some (upd zR.1 4 (nI q), zR.2) := by
  obtain ⟨h1, h2, h3, h4, h5⟩ := h
  have key : ∀ n p, p ≤ N → N < p + n → ∃ q, isSkp N t p q ∧ L_X4_skipBlanks_0 n (upd zR.1 4 (nI p), zR.2) = some (upd zR.1 4 (nI q), zR.2) := by
    intro n
    induction n with
    | zero => intro p h1 h2; omega
    | succ n ih =>
      intro p k1 k2
      rw [L_X4_skipBlanks_0, show ((upd zR.1 4 (nI p), zR.2) : RS).1 3 = nI N from h1, show ((upd zR.1 4 (nI p), zR.2) : RS).1 4 = nI p from rfl]
      by_cases c : N ≤ p
      · rw [if_pos ((nI_leI (by omega) (by omega)).mpr c)]
        exact ⟨p, ⟨Nat.le_refl _, k1, fun i a b => by omega, fun a => by omega⟩, rfl⟩
      · rw [if_neg (fun q => c ((nI_leI (by omega) (by omega)).mp q)), ald_s _ _ (show p < 240 by omega) (by omega), (h3 p (by omega)).1]
        have ht := (h3 p (by omega)).2
        by_cases d : t p = 32
        · rw [if_pos (show nI (t p) = 32 by rw [d]; rfl)]
          simp only [nmq, nI_1]
          rw [ud_ud]
          obtain ⟨q, q1, q2⟩ := ih (p + 1) (by omega) (by omega)
          refine ⟨q, ⟨by have := q1.1; omega, q1.2.1, fun i a b => ?_, q1.2.2.2⟩, q2⟩
          rcases Nat.lt_or_ge p i with z | z
          · exact q1.2.2.1 i z b
          · have : i = p := by omega
            rw [this]; exact d
        · rw [if_neg (show ¬ nI (t p) = 32 from fun q => d ((nI_eq (b := 32) (by omega) (by omega)).mp q))]
          exact ⟨p, ⟨Nat.le_refl _, k1, fun i a b => by omega, fun _ => d⟩, rfl⟩
  obtain ⟨q, q1, q2⟩ := key 3000 p h5 (by omega)
  refine ⟨q, q1, ?_⟩
  rw [ud_self h4] at q2
  unfold f_X4_skipBlanks
  rw [show L_X4_skipBlanks_0 3000 zR = _ from q2]
  rfl
theorem skp_m {N : Nat} {t : Nat → Nat} {p : Nat} {zM : MS} (h : RTm N t p zM) : ∃ q, isSkp N t p q ∧ f_X7_here zM = some (if q < N then nI (t q) else -1, ((upd zM.1 13 (nI q), zM.2) : MS)) := by
  obtain ⟨h1, h2, h3, h4, h5⟩ := h
  have key : ∀ n p, p ≤ N → N < p + n → ∃ q, isSkp N t p q ∧ L_X7_here_0 n (upd zM.1 13 (nI p), zM.2) = some (upd zM.1 13 (nI q), zM.2) := by
    intro n
    induction n with
    | zero => intro p h1 h2; omega
    | succ n ih =>
      intro p k1 k2
      rw [L_X7_here_0, show ((upd zM.1 13 (nI p), zM.2) : MS).1 11 = nI N from h1, show ((upd zM.1 13 (nI p), zM.2) : MS).1 13 = nI p from rfl]
      by_cases c : N ≤ p
      · rw [if_pos ((nI_leI (by omega) (by omega)).mpr c)]
        exact ⟨p, ⟨Nat.le_refl _, k1, fun i a b => by omega, fun a => by omega⟩, rfl⟩
      · rw [if_neg (fun q => c ((nI_leI (by omega) (by omega)).mp q)), ald_s _ _ (show p < 240 by omega) (by omega), (h3 p (by omega)).1]
        have ht := (h3 p (by omega)).2
        by_cases d : t p = 32
        · rw [if_pos (show nI (t p) = 32 by rw [d]; rfl)]
          simp only [nmq, nI_1]
          rw [ud_ud]
          obtain ⟨q, q1, q2⟩ := ih (p + 1) (by omega) (by omega)
          refine ⟨q, ⟨by have := q1.1; omega, q1.2.1, fun i a b => ?_, q1.2.2.2⟩, q2⟩
          rcases Nat.lt_or_ge p i with z | z
          · exact q1.2.2.1 i z b
          · have : i = p := by omega
            rw [this]; exact d
        · rw [if_neg (show ¬ nI (t p) = 32 from fun q => d ((nI_eq (b := 32) (by omega) (by omega)).mp q))]
          exact ⟨p, ⟨Nat.le_refl _, k1, fun i a b => by omega, fun _ => d⟩, rfl⟩
  obtain ⟨q, q1, q2⟩ := key 3000 p h5 (by omega)
  refine ⟨q, q1, ?_⟩
  have hqN := q1.2.1
  rw [ud_self h4] at q2
  unfold f_X7_here
  rw [show L_X7_here_0 3000 zM = _ from q2, bdS, show ((upd zM.1 13 (nI q), zM.2) : MS).1 11 = nI N from h1, show ((upd zM.1 13 (nI q), zM.2) : MS).1 13 = nI q from rfl]
  by_cases c : q < N
  · rw [if_neg (fun z => absurd ((nI_leI (by omega) (by omega)).mp z) (by omega)), if_pos c, ald_s _ _ (show q < 240 by omega) (by omega), (h3 q c).1]
  · rw [if_pos ((nI_leI (by omega) (by omega)).mpr (by omega)), if_neg c]
def digB (c : Nat) : Bool := decide (48 ≤ c) && decide (c ≤ 57)
theorem fig_c {c : Nat} (hc : c ≤ 255) : f_X4_isFigure (nI c) = some (if digB c then 1 else 0) := by
  unfold f_X4_isFigure digB
  by_cases a : c < 48
  · rw [if_pos (show nI c < 48 from (nI_ltI (b := 48) (by omega) (by omega)).mpr a), decide_eq_false (show ¬ 48 ≤ c by omega)]; rfl
  · rw [if_neg (show ¬ nI c < 48 from fun q => a ((nI_ltI (b := 48) (by omega) (by omega)).mp q)), decide_eq_true (show 48 ≤ c by omega)]
    by_cases b : 57 < c
    · rw [if_pos (show (57 : Int32) < nI c from (nI_ltI (a := 57) (by omega) (by omega)).mpr b), decide_eq_false (show ¬ c ≤ 57 by omega)]; rfl
    · rw [if_neg (show ¬ (57 : Int32) < nI c from fun q => b ((nI_ltI (a := 57) (by omega) (by omega)).mp q)), decide_eq_true (show c ≤ 57 by omega)]; rfl
theorem pm_in2 {x lo hi : Nat} (hx : x < 2 ^ 30) (hl : lo < 2 ^ 30) (hh : hi < 2 ^ 30) : f_X7_in (Int32.toInt64 (nI x)) (Int32.toInt64 (nI lo)) (Int32.toInt64 (nI hi)) = some (if (decide (lo ≤ x) && decide (x ≤ hi)) then 1 else 0) := by
  rw [pm_in]
  have e : (Int32.toInt64 (nI lo) ≤ Int32.toInt64 (nI x) ∧ Int32.toInt64 (nI x) ≤ Int32.toInt64 (nI hi)) ↔ (decide (lo ≤ x) && decide (x ≤ hi)) = true := by
    rw [fa_wide_le, fa_wide_le, nI_leI (by omega) (by omega), nI_leI (by omega) (by omega), Bool.and_eq_true, decide_eq_true_eq, decide_eq_true_eq]
  by_cases c : (decide (lo ≤ x) && decide (x ≤ hi)) = true
  · rw [if_pos (e.mpr c), if_pos c]
  · rw [if_neg (fun q => c (e.mp q)), if_neg c]
theorem fig_m {c : Nat} (hc : c ≤ 255) : f_X7_in (Int32.toInt64 (nI c)) 48 57 = some (if digB c then 1 else 0) := pm_in2 (x := c) (lo := 48) (hi := 57) (by omega) (by omega) (by omega)
def isDig (N : Nat) (t : Nat → Nat) (p q : Nat) : Prop := p ≤ q ∧ q ≤ N ∧ (∀ i, p ≤ i → i < q → digB (t i) = true) ∧ (q < N → digB (t q) = false)
theorem isDig_one {N : Nat} {t : Nat → Nat} {p q r : Nat} (h : isDig N t p q) (k : isDig N t p r) : q = r := by
  rcases Nat.lt_trichotomy q r with z | z | z
  · have := k.2.2.1 q h.1 z
    rw [h.2.2.2 (by have := k.2.1; omega)] at this; cases this
  · exact z
  · have := h.2.2.1 r k.1 z
    rw [k.2.2.2 (by have := h.2.1; omega)] at this; cases this
def dv (t : Nat → Nat) (p : Nat) : Nat → Nat
  | 0 => 0
  | k + 1 => 10 * dv t p k + (t (p + k) - 48)
theorem dig_le {c : Nat} (h : digB c = true) : 48 ≤ c ∧ c ≤ 57 := by
  unfold digB at h
  rw [Bool.and_eq_true, decide_eq_true_eq, decide_eq_true_eq] at h
  exact h
theorem dv3 {t : Nat → Nat} {p : Nat} : ∀ {k : Nat}, k ≤ 3 → (∀ i, p ≤ i → i < p + k → digB (t i) = true) → dv t p k < 10 ^ k
  | 0, _, _ => by show 0 < 10 ^ 0; decide
  | k + 1, hk, h => by
    have h1 := dv3 (k := k) (by omega) (fun i a b => h i a (by omega))
    have h2 := dig_le (h (p + k) (by omega) (by omega))
    show 10 * dv t p k + (t (p + k) - 48) < 10 ^ (k + 1)
    rw [Nat.pow_succ]
    omega
theorem dv_le {t : Nat → Nat} {p k : Nat} (hk : k ≤ 3) (h : ∀ i, p ≤ i → i < p + k → digB (t i) = true) : dv t p k ≤ 999 := by
  have := dv3 hk h
  have h2 : 10 ^ k ≤ 10 ^ 3 := Nat.pow_le_pow_right (by omega) hk
  have h3 : 10 ^ 3 = 1000 := by decide
  omega
theorem dig_c {N : Nat} {t : Nat → Nat} {p : Nat} {zR : RS} (p1 p2 : Int32) (h : RTc N t p zR) : ∃ q v, isDig N t p q ∧ v ≤ 1000 ∧ (q ≤ p + 3 → v = dv t p (q - p)) ∧ L_X4_readNumber_23 p1 p2 3000 0 zR = some (nI v, ((upd zR.1 4 (nI q), zR.2) : RS)) := by
  obtain ⟨h1, h2, h3, h4, h5⟩ := h
  have key : ∀ n i v, p ≤ i → i ≤ N → N < i + n → (∀ j, p ≤ j → j < i → digB (t j) = true) → v ≤ 1000 → (i ≤ p + 3 → v = dv t p (i - p)) → ∃ q w, isDig N t p q ∧ w ≤ 1000 ∧ (q ≤ p + 3 → w = dv t p (q - p)) ∧ L_X4_readNumber_23 p1 p2 n (nI v) (upd zR.1 4 (nI i), zR.2) = some (nI w, ((upd zR.1 4 (nI q), zR.2) : RS)) := by
    intro n
    induction n with
    | zero => intro i v h1 h2 h3; omega
    | succ n ih =>
      intro i v k1 k2 k3 k4 k5 k6
      rw [L_X4_readNumber_23, show ((upd zR.1 4 (nI i), zR.2) : RS).1 3 = nI N from h1, show ((upd zR.1 4 (nI i), zR.2) : RS).1 4 = nI i from rfl]
      by_cases c : N ≤ i
      · rw [if_pos ((nI_leI (by omega) (by omega)).mpr c)]
        exact ⟨i, v, ⟨k1, k2, k4, fun a => by omega⟩, k5, k6, rfl⟩
      · have ht := h3 i (by omega)
        rw [if_neg (fun q => c ((nI_leI (by omega) (by omega)).mp q)), ald_s _ _ (show i < 240 by omega) (by omega), ht.1, fig_c ht.2, bdS, if_one]
        cases d : digB (t i)
        · rw [if_neg (by decide)]
          exact ⟨i, v, ⟨k1, k2, k4, fun _ => d⟩, k5, k6, rfl⟩
        · have hd := dig_le d
          rw [if_pos rfl, ald_s _ _ (show i < 240 by omega) (by omega), ht.1, show nI v * 10 + nI (t i) - 48 = nI (v * 10 + t i - 48) from by
            rw [show (10 : Int32) = nI 10 from rfl, show (48 : Int32) = nI 48 from rfl, pk_mul, nI_add, pk_sub (by omega)], show imin 1000 (nI (v * 10 + t i - 48)) = nI (min 1000 (v * 10 + t i - 48)) from imin_nI (a := 1000) (by omega) (by omega)]
          simp only [nmq, nI_1]
          rw [ud_ud]
          have k4' : ∀ j, p ≤ j → j < i + 1 → digB (t j) = true := fun j a b => by
            rcases Nat.lt_or_ge j i with z | z
            · exact k4 j a z
            · have : j = i := by omega
              rw [this]; exact d
          refine ih (i + 1) _ (by omega) (by omega) (by omega) k4' (by omega) (fun a => ?_)
          have e : i + 1 - p = (i - p) + 1 := by omega
          have hle := dv_le (t := t) (p := p) (k := i + 1 - p) (by omega) (fun j a b => k4' j a (by omega))
          rw [e] at hle ⊢
          have e2 : dv t p (i - p + 1) = 10 * dv t p (i - p) + (t (p + (i - p)) - 48) := rfl
          rw [e2, show p + (i - p) = i by omega] at hle ⊢
          rw [← k6 (by omega)] at hle ⊢
          omega
  obtain ⟨q, v, g1, g2, g3, g4⟩ := key 3000 p 0 (Nat.le_refl _) h5 (by omega) (fun j a b => by omega) (by omega) (fun _ => by rw [Nat.sub_self]; rfl)
  rw [ud_self h4] at g4
  exact ⟨q, v, g1, g2, g3, g4⟩
theorem dig_m {N : Nat} {t : Nat → Nat} {p : Nat} {zM : MS} (p1 p2 r1 : Int32) (h : RTm N t p zM) (h0 : zM.1 14 = 0) : ∃ q v z, isDig N t p q ∧ v ≤ 200000 ∧ (q ≤ p + 3 → v = dv t p (q - p)) ∧ L_X7_takeNumber_42 p1 p2 r1 3000 zM = some z ∧ frm [13, 14] [] zM z ∧ z.1 13 = nI q ∧ z.1 14 = nI v := by
  obtain ⟨h1, h2, h3, h4, h5⟩ := h
  have key : ∀ n i v (z : MS), frm [13, 14] [] zM z → z.1 13 = nI i → z.1 14 = nI v → p ≤ i → i ≤ N → N < i + n → (∀ j, p ≤ j → j < i → digB (t j) = true) → v ≤ 200000 → (i ≤ p + 3 → v = dv t p (i - p)) → ∃ q w z2, isDig N t p q ∧ w ≤ 200000 ∧ (q ≤ p + 3 → w = dv t p (q - p)) ∧ L_X7_takeNumber_42 p1 p2 r1 n z = some z2 ∧ frm [13, 14] [] zM z2 ∧ z2.1 13 = nI q ∧ z2.1 14 = nI w := by
    intro n
    induction n with
    | zero => intro i v z _ _ _ h1 h2 h3; omega
    | succ n ih =>
      intro i v z fr z1 z2 k1 k2 k3 k4 k5 k6
      rw [L_X7_takeNumber_42, fr.1 11 (by decide), h1, z1, fr.2 10 (by decide)]
      by_cases c : N ≤ i
      · rw [if_pos ((nI_leI (by omega) (by omega)).mpr c)]
        exact ⟨i, v, z, ⟨k1, k2, k4, fun a => by omega⟩, k5, k6, rfl, fr, z1, z2⟩
      · have ht := h3 i (by omega)
        rw [if_neg (fun q => c ((nI_leI (by omega) (by omega)).mp q)), ald_s _ _ (show i < 240 by omega) (by omega), ht.1, fig_m ht.2, bdS, if_one]
        cases d : digB (t i)
        · rw [if_neg (by decide)]
          exact ⟨i, v, z, ⟨k1, k2, k4, fun _ => d⟩, k5, k6, rfl, fr, z1, z2⟩
        · have hd := dig_le d
          have k4' : ∀ j, p ≤ j → j < i + 1 → digB (t j) = true := fun j a b => by
            rcases Nat.lt_or_ge j i with z | z
            · exact k4 j a z
            · have : j = i := by omega
              rw [this]; exact d
          obtain ⟨w, w1, w2, w3⟩ : ∃ w, (if (z.1 14) ≤ 10000 then (ald 240 (zM.2 10) (nI i) fun x_25 => some ((((10 * (z.1 14)) + x_25) - 48) : Int32)) else (some ((z.1 14) : Int32))) = some (nI w) ∧ w ≤ 200000 ∧ (i + 1 ≤ p + 3 → w = dv t p (i + 1 - p)) := by
            rw [z2]
            by_cases g : v ≤ 10000
            · refine ⟨10 * v + t i - 48, ?_, by omega, fun a => ?_⟩
              · rw [if_pos (show nI v ≤ 10000 from (nI_leI (b := 10000) (by omega) (by omega)).mpr g), ald_s _ _ (show i < 240 by omega) (by omega), ht.1, show (10 : Int32) = nI 10 from rfl, show (48 : Int32) = nI 48 from rfl, pk_mul, nI_add, pk_sub (by omega)]
              · have e : i + 1 - p = (i - p) + 1 := by omega
                rw [e]
                have e2 : dv t p (i - p + 1) = 10 * dv t p (i - p) + (t (p + (i - p)) - 48) := rfl
                rw [e2, show p + (i - p) = i by omega, ← k6 (by omega)]
                omega
            · refine ⟨v, ?_, k5, fun a => ?_⟩
              · rw [if_neg (show ¬ nI v ≤ 10000 from fun q => g ((nI_leI (b := 10000) (by omega) (by omega)).mp q))]
              · have := dv_le (t := t) (p := p) (k := i - p) (by omega) (fun j a b => k4 j a (by omega))
                rw [← k6 (by omega)] at this
                omega
          rw [if_pos rfl, w1, bdS]
          simp only [nmq]
          rw [show upd z.1 14 (nI w) 13 + 1 = nI (i + 1) from by rw [ud_ne _ _ (by decide), z1, nI_1]]
          exact ih (i + 1) w (upd (upd z.1 14 (nI w)) 13 (nI (i + 1)), z.2) (frm_1 (z := (upd z.1 14 (nI w), z.2)) (frm_1 fr (by decide) _) (by decide) _) rfl rfl (by omega) (by omega) (by omega) k4' w2 w3
  exact key 3000 p 0 zM (frm_refl _ _ _) h4 h0 (Nat.le_refl _) h5 (by omega) (fun j a b => by omega) (by omega) (fun _ => by rw [Nat.sub_self]; rfl)
/-! ===== a number, by both ===== -/
def numOk (N : Nat) (t : Nat → Nat) (p lo hi v q1 q2 : Nat) : Prop := isSkp N t p q1 ∧ isDig N t q1 q2 ∧ q1 < q2 ∧ q2 ≤ q1 + 3 ∧ v = dv t q1 (q2 - q1) ∧ lo ≤ v ∧ v ≤ hi
def numBad (N : Nat) (t : Nat → Nat) (p lo hi k q : Nat) : Prop := ∃ q2, isSkp N t p q ∧ isDig N t q q2 ∧ ((k = 1 ∧ q2 = q) ∨ (k = 2 ∧ q < q2 ∧ ¬ (q2 ≤ q + 3 ∧ lo ≤ dv t q (q2 - q) ∧ dv t q (q2 - q) ≤ hi)))
theorem num_one {N : Nat} {t : Nat → Nat} {p lo hi v q1 q2 w r1 r2 : Nat} (h : numOk N t p lo hi v q1 q2) (k : numOk N t p lo hi w r1 r2) : v = w ∧ q1 = r1 ∧ q2 = r2 := by
  have e1 := isSkp_one h.1 k.1
  subst e1
  have e2 := isDig_one h.2.1 k.2.1
  subst e2
  exact ⟨by rw [h.2.2.2.2.1, k.2.2.2.2.1], rfl, rfl⟩
theorem num_not {N : Nat} {t : Nat → Nat} {p lo hi v q1 q2 k q : Nat} (h : numOk N t p lo hi v q1 q2) (b : numBad N t p lo hi k q) : False := by
  obtain ⟨r, b1, b2, b3⟩ := b
  have e1 := isSkp_one h.1 b1
  subst e1
  have e2 := isDig_one h.2.1 b2
  subst e2
  rcases b3 with ⟨-, z⟩ | ⟨-, -, z⟩
  · have := h.2.2.1; omega
  · exact z ⟨h.2.2.2.1, by rw [← h.2.2.2.2.1]; exact h.2.2.2.2.2.1, by rw [← h.2.2.2.2.1]; exact h.2.2.2.2.2.2⟩
theorem num_bad_one {N : Nat} {t : Nat → Nat} {p lo hi k q k2 r : Nat} (h : numBad N t p lo hi k q) (b : numBad N t p lo hi k2 r) : k = k2 ∧ q = r := by
  obtain ⟨x, a1, a2, a3⟩ := h
  obtain ⟨y, b1, b2, b3⟩ := b
  have e1 := isSkp_one a1 b1
  subst e1
  have e2 := isDig_one a2 b2
  subst e2
  omega
theorem fail_c {zR : RS} {x y : Int32} (h : zR.1 6 = 0) : f_X4_fail zR x y = some (upd (upd zR.1 6 x) 7 y, zR.2) := by
  unfold f_X4_fail
  rw [if_pos h]
  rfl
theorem num_c {N : Nat} {t : Nat → Nat} {p lo hi : Nat} {zR : RS} (h : RTc N t p zR) (h0 : zR.1 6 = 0) (hl : lo < 2 ^ 30) (hh : hi < 2 ^ 30) :
    (∃ v q1 q2 z, numOk N t p lo hi v q1 q2 ∧ f_X4_readNumber zR (nI lo) (nI hi) = some (nI v, z) ∧ frR [4, 5, 6, 7] zR z ∧ z.1 4 = nI q2 ∧ z.1 5 = nI q1 ∧ z.1 6 = 0 ∧ z.1 7 = zR.1 7) ∨
    (∃ k q x z r, numBad N t p lo hi k q ∧ f_X4_readNumber zR (nI lo) (nI hi) = some (x, z) ∧ frR [4, 5, 6, 7] zR z ∧ z.1 4 = nI r ∧ r ≤ N ∧ z.1 6 = nI k ∧ z.1 7 = nI q) := by
  obtain ⟨q1, s1, s2⟩ := skp_c h
  have hq1 := s1.2.1
  have hN := h.2.1
  have hz5 : RTc N t q1 (upd (upd zR.1 4 (nI q1)) 5 (nI q1), zR.2) := ⟨h.1, h.2.1, h.2.2.1, rfl, hq1⟩
  obtain ⟨q2, v, d1, d2, d3, d4⟩ := dig_c (nI lo) (nI hi) hz5
  have hq2 := d1.2.1
  have hq12 := d1.1
  have hfr : frR [4, 5, 6, 7] zR (upd (upd (upd zR.1 4 (nI q1)) 5 (nI q1)) 4 (nI q2), zR.2) := frR_1 (z := (upd (upd zR.1 4 (nI q1)) 5 (nI q1), zR.2)) (frR_1 (z := (upd zR.1 4 (nI q1), zR.2)) (frR_1 (frR_refl _ _) (by decide) _) (by decide) _) (by decide) _
  have e0 : ∀ R, R = f_X4_readNumber zR (nI lo) (nI hi) → R = (if nI q2 = nI q1 then ((f_X4_fail (upd (upd (upd zR.1 4 (nI q1)) 5 (nI q1)) 4 (nI q2), zR.2) (1 : Int32) (nI q2)).bind fun z => some (nI v, z)) else (if (3 : Int32) < (nI q2 - nI q1) then ((f_X4_fail (upd (upd (upd zR.1 4 (nI q1)) 5 (nI q1)) 4 (nI q2), zR.2) (2 : Int32) (nI q1)).bind fun z => some (nI v, z)) else (if nI v < nI lo then ((f_X4_fail (upd (upd (upd zR.1 4 (nI q1)) 5 (nI q1)) 4 (nI q2), zR.2) (2 : Int32) (nI q1)).bind fun z => some (nI v, z)) else (if nI v ≤ nI hi then (some (nI v, ((upd (upd (upd zR.1 4 (nI q1)) 5 (nI q1)) 4 (nI q2), zR.2) : RS))) else ((f_X4_fail (upd (upd (upd zR.1 4 (nI q1)) 5 (nI q1)) 4 (nI q2), zR.2) (2 : Int32) (nI q1)).bind fun z => some (nI v, z)))))) := fun R hR => by
    rw [hR]
    unfold f_X4_readNumber
    rw [if_pos h0, s2, bdS, nmq, show ((upd zR.1 4 (nI q1), zR.2) : RS).1 4 = nI q1 from rfl, nmq, nmq, d4, bdS]
    rfl
  have h6 : ((upd (upd (upd zR.1 4 (nI q1)) 5 (nI q1)) 4 (nI q2), zR.2) : RS).1 6 = 0 := h0
  have hbad : ∀ (k : Nat) (x : Int32) (y : Nat), numBad N t p lo hi k y → nI k = x → f_X4_readNumber zR (nI lo) (nI hi) = ((f_X4_fail (upd (upd (upd zR.1 4 (nI q1)) 5 (nI q1)) 4 (nI q2), zR.2) x (nI y)).bind fun z => some (nI v, z)) → (∃ k q x z r, numBad N t p lo hi k q ∧ f_X4_readNumber zR (nI lo) (nI hi) = some (x, z) ∧ frR [4, 5, 6, 7] zR z ∧ z.1 4 = nI r ∧ r ≤ N ∧ z.1 6 = nI k ∧ z.1 7 = nI q) := fun k x y hb hx he => by
    rw [fail_c h6, bdS] at he
    refine ⟨k, y, nI v, _, q2, hb, he, ?_, rfl, hq2, hx.symm, rfl⟩
    exact frR_1 (z := (upd (upd (upd (upd zR.1 4 (nI q1)) 5 (nI q1)) 4 (nI q2)) 6 x, zR.2)) (frR_1 hfr (by decide) _) (by decide) _
  have e1 := e0 _ rfl
  by_cases c1 : q2 = q1
  · right
    rw [if_pos (by rw [c1])] at e1
    exact hbad 1 1 q2 ⟨q2, by rw [c1]; exact s1, by rw [c1]; rw [c1] at d1; exact d1, Or.inl ⟨rfl, rfl⟩⟩ rfl e1
  · rw [if_neg (fun q => c1 ((nI_eq (by omega) (by omega)).mp q)), pk_sub hq12] at e1
    by_cases c2 : q2 ≤ q1 + 3
    · rw [if_neg (show ¬ (3 : Int32) < nI (q2 - q1) from fun q => absurd ((nI_ltI (a := 3) (by omega) (by omega)).mp q) (by omega))] at e1
      have hv := d3 c2
      by_cases c3 : v < lo
      · right
        rw [if_pos ((nI_ltI (by omega) (by omega)).mpr c3)] at e1
        exact hbad 2 2 q1 ⟨q2, s1, d1, Or.inr ⟨rfl, by omega, fun z => by rw [← hv] at z; omega⟩⟩ rfl e1
      · rw [if_neg (fun q => c3 ((nI_ltI (by omega) (by omega)).mp q))] at e1
        by_cases c4 : v ≤ hi
        · left
          rw [if_pos ((nI_leI (by omega) (by omega)).mpr c4)] at e1
          exact ⟨v, q1, q2, _, ⟨s1, d1, by omega, c2, hv, by omega, c4⟩, e1, hfr, rfl, rfl, h0, rfl⟩
        · right
          rw [if_neg (fun q => c4 ((nI_leI (by omega) (by omega)).mp q))] at e1
          exact hbad 2 2 q1 ⟨q2, s1, d1, Or.inr ⟨rfl, by omega, fun z => by rw [← hv] at z; omega⟩⟩ rfl e1
    · right
      rw [if_pos (show (3 : Int32) < nI (q2 - q1) from (nI_ltI (a := 3) (by omega) (by omega)).mpr (by omega))] at e1
      exact hbad 2 2 q1 ⟨q2, s1, d1, Or.inr ⟨rfl, by omega, fun z => by omega⟩⟩ rfl e1
theorem num_m {N : Nat} {t : Nat → Nat} {p lo hi : Nat} {zM : MS} (h : RTm N t p zM) (hl : lo < 2 ^ 30) (hh : hi < 2 ^ 30) :
    (∃ v q1 q2 z, numOk N t p lo hi v q1 q2 ∧ f_X7_takeNumber zM (nI lo) (nI hi) = some (0, z) ∧ frm [13, 14, 15] [] zM z ∧ z.1 13 = nI q2 ∧ z.1 14 = nI v ∧ z.1 15 = nI q1) ∨
    (∃ k q z, numBad N t p lo hi k q ∧ f_X7_takeNumber zM (nI lo) (nI hi) = some (nI k, z) ∧ frm [12, 13, 14, 15] [] zM z ∧ z.1 12 = nI q) := by
  obtain ⟨q1, s1, s2⟩ := skp_m h
  have hq1 := s1.2.1
  have hN := h.2.1
  have hin : f_X7_in (Int32.toInt64 (if q1 < N then nI (t q1) else -1)) 48 57 = some (if (decide (q1 < N) && digB (t q1)) then 1 else 0) := by
    by_cases c : q1 < N
    · rw [if_pos c, fig_m (h.2.2.1 q1 c).2, decide_eq_true c, Bool.true_and]
    · rw [if_neg c, decide_eq_false c, Bool.false_and]; rfl
  unfold f_X7_takeNumber
  rw [s2, bdS, nmq, nmq, hin, bdS, if_one, show ((upd zM.1 13 (nI q1), zM.2) : MS).1 13 = nI q1 from rfl]
  cases c1 : (decide (q1 < N) && digB (t q1))
  · right
    refine ⟨1, q1, (upd (upd zM.1 13 (nI q1)) 12 (nI q1), zM.2), ⟨q1, s1, ⟨Nat.le_refl _, hq1, fun i a b => by omega, fun a => ?_⟩, Or.inl ⟨rfl, rfl⟩⟩, rfl, ?_, rfl⟩
    · rw [decide_eq_true a, Bool.true_and] at c1; exact c1
    · exact frm_1 (z := (upd zM.1 13 (nI q1), zM.2)) (frm_1 (frm_refl _ _ _) (by decide) _) (by decide) _
  · rw [Bool.and_eq_true, decide_eq_true_eq] at c1
    rw [if_pos rfl, nmq, nmq, nmq]
    have hz : RTm N t q1 (upd (upd (upd zM.1 13 (nI q1)) 15 (nI q1)) 14 0, zM.2) := ⟨h.1, h.2.1, h.2.2.1, rfl, hq1⟩
    have hfz : frm [13, 14, 15] [] zM (upd (upd (upd zM.1 13 (nI q1)) 15 (nI q1)) 14 0, zM.2) := frm_1 (z := (upd (upd zM.1 13 (nI q1)) 15 (nI q1), zM.2)) (frm_1 (z := (upd zM.1 13 (nI q1), zM.2)) (frm_1 (frm_refl _ _ _) (by decide) _) (by decide) _) (by decide) _
    obtain ⟨q2, v, z, d1, d2, d3, d4, d5, d6, d7⟩ := dig_m (nI lo) (nI hi) (if q1 < N then nI (t q1) else -1) hz rfl
    have hq2 := d1.2.1
    have hq12 : q1 < q2 := by
      rcases Nat.lt_or_ge q1 q2 with z | z
      · exact z
      · have e : q2 = q1 := by have := d1.1; omega
        have := d1.2.2.2 (by omega)
        rw [e, c1.2] at this; cases this
    have hfr : frm [13, 14, 15] [] zM z := frm_tr hfz (frm_mono d5 (fun k hk => by simp at hk; rcases hk with hk | hk <;> simp [hk]) (fun k hk => hk))
    have h15 : z.1 15 = nI q1 := d5.1 15 (by decide)
    rw [d4, bdS, d6, h15, d7, pk_sub (by omega)]
    have hfail : ∀ y : Nat, numBad N t p lo hi 2 y → ∃ k q z2, numBad N t p lo hi k q ∧ ((f_X7_fails z (2 : Int32) (nI y)).bind fun q_35 => nm q_35.1 fun r_32 => nm q_35.2 fun zM_33 => some (r_32, zM_33)) = some (nI k, z2) ∧ frm [12, 13, 14, 15] [] zM z2 ∧ z2.1 12 = nI q := fun y hb => ⟨2, y, (upd z.1 12 (nI y), z.2), hb, rfl, frm_1 (frm_mono hfr (fun k hk => by simp at hk; rcases hk with hk | hk | hk <;> simp [hk]) (fun k hk => hk)) (by decide) _, rfl⟩
    by_cases c2 : q2 ≤ q1 + 3
    · have hv := d3 c2
      rw [if_neg (show ¬ (3 : Int32) < nI (q2 - q1) from fun q => absurd ((nI_ltI (a := 3) (by omega) (by omega)).mp q) (by omega)), pm_in2 (by omega) hl hh, bdS, if_one]
      cases c3 : (decide (lo ≤ v) && decide (v ≤ hi))
      · right
        rw [if_neg (by decide)]
        exact hfail q1 ⟨q2, s1, d1, Or.inr ⟨rfl, hq12, fun y => by
          rw [← hv] at y
          rw [decide_eq_true y.2.1, decide_eq_true y.2.2] at c3
          cases c3⟩⟩
      · left
        rw [Bool.and_eq_true, decide_eq_true_eq, decide_eq_true_eq] at c3
        rw [if_pos rfl]
        exact ⟨v, q1, q2, z, ⟨s1, d1, hq12, c2, hv, c3.1, c3.2⟩, rfl, hfr, d6, d7, h15⟩
    · right
      rw [if_pos (show (3 : Int32) < nI (q2 - q1) from (nI_ltI (a := 3) (by omega) (by omega)).mpr (by omega))]
      exact hfail q1 ⟨q2, s1, d1, Or.inr ⟨rfl, hq12, fun z => by omega⟩⟩

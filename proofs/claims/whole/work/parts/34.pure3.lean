/-! ===== small functions of the reference and of the class ===== -/
theorem and_one (y : Int32) : y &&& 1 = if bt y 0 then 1 else 0 := by
  apply b_ext
  intro i hi
  rw [b_and, b_one]
  by_cases c : i = 0
  · subst c
    cases h : bt y 0
    · simp [b_0]
    · simp [b_one]
  · cases h : bt y 0
    · simp [c, b_0]
    · simp [c, b_one]
theorem sshr_bit (x : Int32) {k : Nat} (hk : k < 32) : (x >>> (nI k &&& 31)) &&& 1 = if bt x k then 1 else 0 := by
  have e : bt (x >>> (nI k &&& 31)) 0 = bt x k := by rw [b_sshr k hk x (by omega)]; simp only [Nat.add_zero, hk, if_true]
  rw [and_one, e]
theorem pm_has (x : Int32) {k : Nat} (hk : k < 32) : f_X7_has x (nI k) = some (if bt x k then 1 else 0) := by
  unfold f_X7_has
  rw [sshr_bit x hk]
  cases bt x k
  · rfl
  · rfl
theorem pc_ownerOf (z : SS) {k : Nat} (hk : k < 32) : f_X5_ownerOf z (nI k) = some (if bt (z.2.1 3) k then 1 else 0) := by
  unfold f_X5_ownerOf
  rw [sshr_bit _ hk]
theorem lg_cmp_neg (x y : Int64) : lg_cmp x y < 0 ↔ x < y := by
  unfold lg_cmp
  by_cases h : x > y
  · rw [if_pos h]
    constructor
    · intro e; exact absurd e (by decide)
    · intro e; exact absurd e (Int64.lt_asymm h)
  · rw [if_neg h]
    by_cases e : x = y
    · rw [if_pos e]
      constructor
      · intro q; exact absurd q (by decide)
      · intro q; subst e; exact absurd q (Int64.lt_irrefl)
    · rw [if_neg e]
      constructor
      · intro _
        rcases Int64.lt_or_lt_of_ne e with q | q
        · exact q
        · exact absurd q h
      · intro _; decide
theorem lg_cmp_pos (x y : Int64) : 0 < lg_cmp x y ↔ y < x := by
  unfold lg_cmp
  by_cases h : x > y
  · rw [if_pos h]
    exact ⟨fun _ => h, fun _ => by decide⟩
  · rw [if_neg h]
    by_cases e : x = y
    · rw [if_pos e]
      exact ⟨fun q => absurd q (by decide), fun q => absurd q h⟩
    · rw [if_neg e]
      exact ⟨fun q => absurd q (by decide), fun q => absurd q h⟩
def inR (x : Int32) (n : Nat) : Bool := decide (0 ≤ x.toInt) && decide (x.toInt < n)
theorem inR_nI {x : Int32} {n : Nat} (hn : n < 2 ^ 31) : inR x n = true ↔ ∃ j, j < n ∧ x = nI j := by
  unfold inR
  simp only [Bool.and_eq_true, decide_eq_true_eq]
  constructor
  · rintro ⟨h1, h2⟩
    refine ⟨x.toInt.toNat, by omega, ?_⟩
    rw [fa_eq, nI_toInt (by omega)]
    omega
  · rintro ⟨j, hj, rfl⟩
    rw [nI_toInt (by omega)]
    omega
theorem pm_in (a b c : Int64) : f_X7_in a b c = some (if b ≤ a ∧ a ≤ c then 1 else 0) := by
  unfold f_X7_in
  by_cases h : a < b
  · rw [if_pos ((lg_cmp_neg a b).mpr h), if_neg (fun q => absurd q.1 (Int64.not_le.mpr h))]
  · rw [if_neg (fun q => h ((lg_cmp_neg a b).mp q))]
    by_cases k : c < a
    · rw [if_pos ((lg_cmp_pos a c).mpr k), if_neg (fun q => absurd q.2 (Int64.not_le.mpr k))]
    · rw [if_neg (fun q => k ((lg_cmp_pos a c).mp q)), if_pos ⟨Int64.not_lt.mp h, Int64.not_lt.mp k⟩]
theorem pm_in_int {x : Int32} {n : Nat} (hn : n < 2 ^ 30) : f_X7_in (Int32.toInt64 x) 0 (Int32.toInt64 (nI n - 1)) = some (if inR x n then 1 else 0) := by
  rw [pm_in]
  have e : ((0 : Int64) ≤ Int32.toInt64 x ∧ Int32.toInt64 x ≤ Int32.toInt64 (nI n - 1)) ↔ inR x n = true := by
    have h1 : (nI n - 1).toInt = (n : Int) - 1 := pk_sub_toInt (a := n) (b := 1) (by omega) (by omega)
    have h0 : (0 : Int64) = Int32.toInt64 0 := rfl
    rw [h0, fa_wide_le, fa_wide_le, fa_le, fa_le, h1]
    unfold inR
    simp only [Bool.and_eq_true, decide_eq_true_eq]
    have : (0 : Int32).toInt = 0 := rfl
    rw [this]
    omega
  by_cases c : inR x n = true
  · rw [if_pos (e.mpr c), if_pos c]
  · rw [if_neg (fun q => c (e.mp q)), if_neg c]
theorem pc_ix (x : Int32) {n : Nat} (hn : n < 2 ^ 30) : (if x < 0 then (some (0 : Int32)) else (if nI n ≤ x then (some (0 : Int32)) else (some (1 : Int32)))) = some (if inR x n then 1 else 0) := by
  have h2 : (nI n).toInt = (n : Int) := nI_toInt (by omega)
  have h0 : (0 : Int32).toInt = 0 := rfl
  unfold inR
  by_cases c : x < 0
  · rw [if_pos c]
    rw [fa_lt, h0] at c
    rw [decide_eq_false (by omega)]
    rfl
  · rw [if_neg c]
    rw [fa_lt, h0] at c
    by_cases d : nI n ≤ x
    · rw [if_pos d]
      rw [fa_le, h2] at d
      rw [decide_eq_false (show ¬ x.toInt < (n : Int) by omega), Bool.and_false]
      rfl
    · rw [if_neg d]
      rw [fa_le, h2] at d
      rw [decide_eq_true (show 0 ≤ x.toInt by omega), decide_eq_true (show x.toInt < (n : Int) by omega)]
      rfl
theorem pc_hasField {W H : Nat} {so : Nat → Nat} {pa : Nat → Bool} {z : GS} (ok : okB W H = true) (hG : GC W H so pa z) (x : Int32) : f_X0_hasField z x = some (if inR x (W * H) then 1 else 0) := by
  have hn := geo_n ok
  unfold f_X0_hasField
  rw [hG.1.2.2.1]
  exact pc_ix x (by omega)
theorem pc_hasEdge {W H : Nat} {so : Nat → Nat} {pa : Nat → Bool} {z : GS} (ok : okB W H = true) (hG : GC W H so pa z) (x : Int32) : f_X0_hasEdge z x = some (if inR x (eN W H) then 1 else 0) := by
  have hn := geo_n ok
  unfold f_X0_hasEdge
  rw [hG.1.2.2.2]
  exact pc_ix x (by omega)
theorem pm_isField {W H : Nat} {so : Nat → Nat} {pa : Nat → Bool} {z : MS} (ok : okB W H = true) (hG : GM W H so pa z) (x : Int32) : f_X7_isField z x = some (if inR x (W * H) then 1 else 0) := by
  have hn := geo_n ok
  unfold f_X7_isField
  rw [hG.1.2.2.1, pm_in_int (by omega)]
  simp only [Option.bind_some, bzb]
theorem pm_isEdge {W H : Nat} {so : Nat → Nat} {pa : Nat → Bool} {z : MS} (ok : okB W H = true) (hG : GM W H so pa z) (x : Int32) : f_X7_isEdge z x = some (if inR x (eN W H) then 1 else 0) := by
  have hn := geo_n ok
  unfold f_X7_isEdge
  rw [hG.1.2.2.2, pm_in_int (by omega)]
  simp only [Option.bind_some, bzb]
/-! ===== the stand: the class's (SC), the reference's (SM), what both keep (SK) ===== -/
def SC (W H : Nat) (hd ag : Nat → Nat) (ga : Nat → Bool) (ow : Int32) (yr : Nat) (z : SS) : Prop :=
  (∀ i, bl (z.1 0) i = true → ∃ e, e < eN W H ∧ ePl W H e = i) ∧
  (∀ e, e < eN W H → bl (z.1 0) (ePl W H e) = decide (hd e ≠ 0) ∧ bl (z.1 1) (ePl W H e) = decide (hd e = 2) ∧ bl (z.1 2) (ePl W H e) = ga e ∧ (hd e ≠ 0 → z.2.2 e = nI (ag e))) ∧
  z.2.1 3 = ow ∧ z.2.1 4 = nI yr
def SM (W H : Nat) (hd ag : Nat → Nat) (ga : Nat → Bool) (ow : Int32) (yr : Nat) (n : Nat → Int32) : Prop :=
  (∀ e, e < eN W H → n e = (if hd e = 0 then -1 else nI (hd e - 1)) ∧ (hd e ≠ 0 → n (40 + e) = nI (ag e)) ∧ n (80 + e) = (if ga e then 1 else 0)) ∧ n 120 = ow ∧ n 121 = nI yr
def SK (W H : Nat) (hd ag : Nat → Nat) (ga : Nat → Bool) (ow : Int32) (yr : Nat) : Prop :=
  (∀ e, hd e ≤ 2 ∧ ag e ≤ 99 ∧ (hd e = 0 → ga e = false)) ∧ (∀ i, bt ow i = true → i < W * H) ∧ yr = yr
def RelS (W H : Nat) (z : SS) (n : Nat → Int32) : Prop := ∃ (hd ag : Nat → Nat) (ga : Nat → Bool) (ow : Int32) (yr : Nat), SK W H hd ag ga ow yr ∧ SC W H hd ag ga ow yr z ∧ SM W H hd ag ga ow yr n
def RelG (W H : Nat) (zG : GS) (zM : MS) : Prop := ∃ (so : Nat → Nat) (pa : Nat → Bool), soOk so ∧ GC W H so pa zG ∧ GM W H so pa zM
/-- what can be undone: a ring of the class, a row of the reference -/
def RelP (W H : Nat) (zP : PS) (zQ : QS) (zM : MS) : Prop := ∃ u nx : Nat, u ≤ 20 ∧ nx < 20 ∧ zP 1 = nI u ∧ zM.1 22 = nI u ∧ zP 2 = nI nx ∧ ∀ k, k < u → RelS W H (zQ ((nx + 20 - u + k) % 20)) (fun j => zM.2 23 (122 * k + j))
def RelI (W H : Nat) (zI : IS) (zJ : QS) (zM : MS) : Prop := ∀ i, i < 2 → (zI i 2 = 0 ∧ zM.2 37 i = 0) ∨ (zI i 2 = 1 ∧ zM.2 37 i = 1 ∧ RelS W H (zJ i) (fun j => zM.2 36 (123 * i + j)) ∧ zI i 1 = zM.2 36 (123 * i + 122) ∧ ¬ zI i 1 < 0)
def RelN (W H : Nat) (zN : NS) (zM : MS) : Prop := ∃ r b : Nat, r ≤ 6 ∧ b ≤ 15 ∧ zN.1 0 = nI r ∧ zM.1 29 = nI r ∧ zN.1 1 = nI b ∧ zM.1 33 = nI b ∧
  (∀ k, k < r → zN.2 2 k = zM.2 30 k ∧ zN.2 3 k = zM.2 31 k ∧ ∃ e, e < eN W H ∧ zN.2 2 k = nI e) ∧
  (∀ k, k < b → zN.2 4 k = zM.2 34 k ∧ zN.2 5 k = zM.2 35 k ∧ ∃ f, f < W * H ∧ zN.2 4 k = nI f)
def RelT (zR : RS) (zM : MS) : Prop := ∃ n : Nat, n ≤ 240 ∧ zR.1 3 = nI n ∧ zM.1 11 = nI n ∧ ∀ k, k < n → zR.2 k = zM.2 10 k ∧ ∃ v, v ≤ 255 ∧ zR.2 k = nI v
def Rel (z : ZZ) : Prop := match z with
  | (zX, zR, _, _, zG, zS, zP, zQ, zN, zI, zJ, _, zM) => ∃ W H : Nat, okB W H = true ∧ RelG W H zG zM ∧ RelS W H zS (zM.2 8) ∧ RelP W H zP zQ zM ∧ RelI W H zI zJ zM ∧ RelN W H zN zM ∧ RelT zR zM ∧ zX 7 = zM.1 12 ∧ zX 8 = zM.1 9 ∧ ¬ zX 8 < 0

/-! ===== the ground: the class's (GC), the reference's (GM), both by W, H, soil and paths ===== -/
def GC (W H : Nat) (so : Nat → Nat) (pa : Nat → Bool) (z : GS) : Prop :=
  (z.1 0 = nI W ∧ z.1 1 = nI H ∧ z.1 2 = nI (W * H) ∧ z.1 3 = nI (eN W H)) ∧
  ((∀ i, bt (z.1 4) i = decide (i < W * H)) ∧ (∀ i, bt (z.1 5) i = (decide (i < W * H) && rimB W H i)) ∧
   (∀ i, bt (z.1 6) i = (decide (i < W * H) && decide (i % W < W - 1))) ∧ (∀ i, bt (z.1 7) i = (decide (i < W * H) && decide (i / W < H - 1)))) ∧
  (∀ e, e < eN W H → bl z.2.1 (ePl W H e) = pa e) ∧
  (∀ f, f < W * H → z.2.2.1 9 f = nI (so f)) ∧
  (∀ e, e < eN W H → z.2.2.1 10 e = nI (eLo W H e) ∧ z.2.2.1 11 e = nI (eHi W H e) ∧ z.2.2.2 e = lshl 1 (nI (ePl W H e)))
def GM (W H : Nat) (so : Nat → Nat) (pa : Nat → Bool) (z : MS) : Prop :=
  (z.1 0 = nI W ∧ z.1 1 = nI H ∧ z.1 2 = nI (W * H) ∧ z.1 3 = nI (eN W H)) ∧
  (∀ f, f < W * H → z.2 4 f = nI (so f)) ∧
  (∀ e, e < eN W H → z.2 5 e = nI (eLo W H e) ∧ z.2 6 e = nI (eHi W H e) ∧ z.2 7 e = if pa e then 1 else 0)
def soOk (so : Nat → Nat) : Prop := ∀ f, so f ≤ 9
def gr (W H : Nat) (so : Nat → Nat) (e : Nat) : Nat := 2 + (so (eLo W H e) + so (eHi W H e)) / 4
def hgt (W H : Nat) (so : Nat → Nat) (e a : Nat) : Nat := min 99 (a * gr W H so e)
theorem gr_rng {W H : Nat} {so : Nat → Nat} (h : soOk so) (e : Nat) : 2 ≤ gr W H so e ∧ gr W H so e ≤ 6 := by
  have h1 := h (eLo W H e)
  have h2 := h (eHi W H e)
  unfold gr
  omega
theorem imin_nI {a b : Nat} (ha : a < 2 ^ 31) (hb : b < 2 ^ 31) : imin (nI a) (nI b) = nI (min a b) := by
  unfold imin
  by_cases c : b < a
  · rw [if_pos ((nI_ltI hb ha).mpr c), Nat.min_eq_right (by omega)]
  · rw [if_neg (fun q => c ((nI_ltI hb ha).mp q)), Nat.min_eq_left (by omega)]
theorem imax_nI {a b : Nat} (ha : a < 2 ^ 31) (hb : b < 2 ^ 31) : imax (nI a) (nI b) = nI (max a b) := by
  unfold imax
  by_cases c : a < b
  · rw [if_pos ((nI_ltI ha hb).mpr c), Nat.max_eq_right (by omega)]
  · rw [if_neg (fun q => c ((nI_ltI ha hb).mp q)), Nat.max_eq_left (by omega)]
theorem gr_sum {a b : Nat} (ha : a ≤ 9) (hb : b ≤ 9) : (2 : Int32) + (nI a + nI b) / 4 = nI (2 + (a + b) / 4) := by
  show nI 2 + (nI a + nI b) / nI 4 = _
  rw [nI_add, pk_div (by omega) (by omega) (by omega), nI_add]
theorem pc_growth {W H : Nat} {so : Nat → Nat} {pa : Nat → Bool} {z : GS} (ok : okB W H = true) (hs : soOk so) (hG : GC W H so pa z) {e : Nat} (he : e < eN W H) : f_X0_growthOn z (nI e) = some (nI (gr W H so e)) := by
  obtain ⟨-, -, -, hso, hed⟩ := hG
  have hn := geo_n ok
  have hg := geo_e ok he
  have h := hed e he
  unfold f_X0_growthOn
  rw [ald_s _ _ (show e < 40 by omega) (by omega), h.1, ald_s _ _ (show eLo W H e < 25 by omega) (by omega), ald_s _ _ (show e < 40 by omega) (by omega), h.2.1, ald_s _ _ (show eHi W H e < 25 by omega) (by omega), hso _ hg.1, hso _ hg.2.1]
  show (if (4 : Int32) = 0 then none else some ((2 : Int32) + (nI (so (eLo W H e)) + nI (so (eHi W H e))) / 4)) = _
  rw [if_neg (by decide), gr_sum (hs _) (hs _)]
  rfl
theorem pm_factor {W H : Nat} {so : Nat → Nat} {pa : Nat → Bool} {z : MS} (ok : okB W H = true) (hs : soOk so) (hG : GM W H so pa z) {e : Nat} (he : e < eN W H) : f_X7_factor z (nI e) = some (nI (gr W H so e)) := by
  obtain ⟨-, hso, hed⟩ := hG
  have hn := geo_n ok
  have hg := geo_e ok he
  have h := hed e he
  unfold f_X7_factor
  rw [ald_s _ _ (show e < 40 by omega) (by omega), h.1, ald_s _ _ (show eLo W H e < 25 by omega) (by omega), ald_s _ _ (show e < 40 by omega) (by omega), h.2.1, ald_s _ _ (show eHi W H e < 25 by omega) (by omega), hso _ hg.1, hso _ hg.2.1]
  show (if (4 : Int32) = 0 then none else some ((2 : Int32) + (nI (so (eLo W H e)) + nI (so (eHi W H e))) / 4)) = _
  rw [if_neg (by decide), gr_sum (hs _) (hs _)]
  rfl
theorem mul_small {a g : Nat} (ha : a < 10000) (hg : g ≤ 6) : a * g < 60000 := Nat.lt_of_le_of_lt (Nat.mul_le_mul_left a hg) (by omega)
theorem pc_height {W H : Nat} {so : Nat → Nat} {pa : Nat → Bool} {z : GS} (ok : okB W H = true) (hs : soOk so) (hG : GC W H so pa z) {e a : Nat} (he : e < eN W H) (ha : a < 10000) : f_X0_heightOn z (nI e) (nI a) = some (nI (hgt W H so e a)) := by
  have hr := gr_rng (W := W) (H := H) hs e
  have hm := mul_small ha hr.2
  unfold f_X0_heightOn
  rw [pc_growth ok hs hG he]
  show some (imin (nI 99) (nI a * nI (gr W H so e))) = _
  rw [pk_mul, imin_nI (by omega) (by omega)]
  rfl
theorem pm_height {W H : Nat} {so : Nat → Nat} {pa : Nat → Bool} {z : MS} (ok : okB W H = true) (hs : soOk so) (hG : GM W H so pa z) {e a : Nat} (he : e < eN W H) (ha : a < 10000) : f_X7_heightBy z (nI e) (nI a) = some (nI (hgt W H so e a)) := by
  have hr := gr_rng (W := W) (H := H) hs e
  have hm := mul_small ha hr.2
  have hx : min 99 (min a 99 * gr W H so e) = hgt W H so e a := by
    unfold hgt
    rcases Nat.lt_or_ge a 99 with h | h
    · rw [Nat.min_eq_left (show a ≤ 99 by omega)]
    · have h1 : 99 * 2 ≤ 99 * gr W H so e := Nat.mul_le_mul_left 99 hr.1
      have h2 : 99 * gr W H so e ≤ a * gr W H so e := Nat.mul_le_mul_right _ h
      rw [Nat.min_eq_right (show 99 ≤ a by omega), Nat.min_eq_left (by omega), Nat.min_eq_left (by omega)]
  have hm2 : min a 99 * gr W H so e < 60000 := mul_small (by omega) hr.2
  unfold f_X7_heightBy
  have h1 : (if (99 : Int32) ≤ nI a then (some (99 : Int32)) else (some (nI a))) = some (nI (min a 99)) := by
    show (if nI 99 ≤ nI a then (some (nI 99)) else (some (nI a))) = _
    by_cases c : 99 ≤ a
    · rw [if_pos (show nI 99 ≤ nI a from (nI_leI (by omega) (by omega)).mpr c), Nat.min_eq_right c]
    · rw [if_neg (fun q => c ((nI_leI (a := 99) (by omega) (by omega)).mp q)), Nat.min_eq_left (by omega)]
  simp only [h1, Option.bind_some, nm_s]
  rw [pm_factor ok hs hG he]
  simp only [Option.bind_some]
  rw [pk_mul]
  show (if nI 99 ≤ nI (min a 99 * gr W H so e) then (some (nI 99)) else (some (nI (min a 99 * gr W H so e)))) = _
  by_cases c : 99 ≤ min a 99 * gr W H so e
  · rw [if_pos (show nI 99 ≤ nI _ from (nI_leI (by omega) (by omega)).mpr c), ← hx, Nat.min_eq_left c]
  · rw [if_neg (fun q => c ((nI_leI (a := 99) (by omega) (by omega)).mp q)), ← hx, Nat.min_eq_right (show min a 99 * gr W H so e ≤ 99 by omega)]

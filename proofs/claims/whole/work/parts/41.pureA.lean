/-! ===== land: the least closed set ===== -/
def clo (W H : Nat) (sh : Nat → Bool) (S : Nat → Bool) : Prop := ∀ e, e < eN W H → sh e = false → S (eLo W H e) = S (eHi W H e)
/-- between a start and all closed sets that have it -/
def btw (W H : Nat) (sh : Nat → Bool) (A R : Int32) : Prop := (∀ i, bt R i = true → i < W * H) ∧ (∀ i, bt A i = true → bt R i = true) ∧ ∀ S : Nat → Bool, clo W H sh S → (∀ i, bt A i = true → S i = true) → ∀ i, bt R i = true → S i = true
def isLand (W H : Nat) (sh : Nat → Bool) (A R : Int32) : Prop := btw W H sh A R ∧ clo W H sh (bt R)
theorem isLand_one {W H : Nat} {sh : Nat → Bool} {A R Q : Int32} (h : isLand W H sh A R) (k : isLand W H sh A Q) : R = Q := by
  apply b_ext
  intro i _
  cases hr : bt R i
  · cases hq : bt Q i
    · rfl
    · have := k.1.2.2 (bt R) h.2 h.1.2.1 i hq
      rw [hr] at this
      cases this
  · exact (h.1.2.2 (bt Q) k.2 k.1.2.1 i hr).symm
theorem ct_more {p q : Nat → Bool} {n j : Nat} (h : ∀ k, k < n → p k = true → q k = true) (hj : j < n) (h1 : q j = true) (h2 : p j = false) : fb_ct p n + 1 ≤ fb_ct q n := by
  have e1 := fb_ct_upd p true hj
  have e2 : fb_ct (fun k => if k = j then true else p k) n ≤ fb_ct q n := fb_ct_sub (fun k hk hp => by
    by_cases c : k = j
    · subst c; exact h1
    · rw [if_neg c] at hp; exact h k hk hp)
  rw [h2, if_neg (by decide), if_pos rfl] at e1
  omega
theorem ct_ne {x y : Int32} {n : Nat} (hn : n ≤ 32) (hy : ∀ i, bt y i = true → i < n) (h : ∀ i, bt x i = true → bt y i = true) (hne : ¬ y = x) : fb_ct (bt x) n + 1 ≤ fb_ct (bt y) n := by
  have : ∃ j, j < 32 ∧ ¬ bt y j = bt x j := by
    refine Classical.byContradiction fun q => hne (b_ext (fun i hi => ?_))
    exact Classical.byContradiction fun z => q ⟨i, hi, z⟩
  obtain ⟨j, _, hj⟩ := this
  cases hx : bt x j
  · cases hyj : bt y j
    · exact absurd (by rw [hx, hyj]) hj
    · exact ct_more (fun k _ hk => h k hk) (hy j hyj) hyj hx
  · exact absurd (by rw [hx, h j hx]) hj
theorem pc_step {W H : Nat} {so : Nat → Nat} {pa : Nat → Bool} {zG : GS} (ok : okB W H = true) (hG : GC W H so pa zG) {t : Int64} {sh : Nat → Bool} (ht : ∀ e, e < eN W H → bl t (ePl W H e) = sh e) (x : Int32) (hx : ∀ i, bt x i = true → i < W * H) :
    ∃ y, f_X0_oneStepFrom zG x t = some y ∧ (∀ i, bt y i = true → i < W * H) ∧ (∀ i, bt x i = true → bt y i = true) ∧ (∀ e, e < eN W H → sh e = false → (bt x (eLo W H e) = true → bt y (eHi W H e) = true) ∧ (bt x (eHi W H e) = true → bt y (eLo W H e) = true)) ∧ (∀ i, bt y i = true → bt x i = true ∨ ∃ e, e < eN W H ∧ sh e = false ∧ ((eLo W H e = i ∧ bt x (eHi W H e) = true) ∨ (eHi W H e = i ∧ bt x (eLo W H e) = true))) := by
  have hgn := geo_n ok
  have hW : W < 32 := by have := okB_lt ok; omega
  obtain ⟨vr, hvr⟩ : ∃ v : Int32, v = (zG.1 6) &&& ((Int64.toInt32 t) ^^^ (-1)) := ⟨_, rfl⟩
  obtain ⟨vb, hvb⟩ : ∃ v : Int32, v = (zG.1 7) &&& ((Int64.toInt32 (lushr t 32)) ^^^ (-1)) := ⟨_, rfl⟩
  have br : ∀ j, j < 32 → bt vr j = (decide (j < W * H) && decide (j % W < W - 1) && !(bl t j)) := fun j hj => by
    rw [hvr, b_and, hG.2.1.2.2.1, b_not _ hj, l_l2i, decide_eq_true hj, Bool.true_and]
  have bb : ∀ j, j < 32 → bt vb j = (decide (j < W * H) && decide (j / W < H - 1) && !(bl t (32 + j))) := fun j hj => by
    rw [hvb, b_and, hG.2.1.2.2.2, b_not _ hj, l_l2i, decide_eq_true hj, Bool.true_and, show (32 : Int32) = nI 32 from rfl, l_ushr 32 (by omega)]
  obtain ⟨y, hy⟩ : ∃ y : Int32, y = ((x ||| (((x &&& vr) <<< ((1 : Int32) &&& 31)) ||| ((iushr x 1) &&& vr))) ||| (((x &&& vb) <<< ((zG.1 0) &&& 31)) ||| ((iushr x (zG.1 0)) &&& vb))) := ⟨_, rfl⟩
  have by_ : ∀ i, i < 32 → bt y i = ((bt x i || ((decide (1 ≤ i) && (bt x (i - 1) && bt vr (i - 1))) || (bt x (1 + i) && bt vr i))) || ((decide (W ≤ i) && (bt x (i - W) && bt vb (i - W))) || (bt x (W + i) && bt vb i))) := fun i hi => by
    rw [hy, b_or, b_or, b_or, b_or, show (1 : Int32) = nI 1 from rfl, b_shl 1 (by omega) _ hi, b_and, b_and, i_ushr 1 (by omega), hG.1.1, b_shl W hW _ hi, b_and, b_and, i_ushr W hW]
  -- what each step says of an edge
  have eR : ∀ j, j < 32 → bt vr j = true → ∃ e, e < eN W H ∧ sh e = false ∧ eLo W H e = j ∧ eHi W H e = j + 1 := fun j hj h => by
    rw [br j hj, Bool.and_eq_true, Bool.and_eq_true, decide_eq_true_eq, decide_eq_true_eq, Bool.not_eq_true'] at h
    obtain ⟨e, he, h1, h2, h3⟩ := (geo_s ok h.1.1).1 h.1.2
    exact ⟨e, he, by rw [← ht e he, h3]; exact h.2, h1, h2⟩
  have eB : ∀ j, j < 32 → bt vb j = true → ∃ e, e < eN W H ∧ sh e = false ∧ eLo W H e = j ∧ eHi W H e = j + W := fun j hj h => by
    rw [bb j hj, Bool.and_eq_true, Bool.and_eq_true, decide_eq_true_eq, decide_eq_true_eq, Bool.not_eq_true'] at h
    obtain ⟨e, he, h1, h2, h3⟩ := (geo_s ok h.1.1).2 h.1.2
    exact ⟨e, he, by rw [← ht e he, h3]; exact h.2, h1, h2⟩
  have hd4 : ∀ i, bt y i = true → bt x i = true ∨ ∃ e, e < eN W H ∧ sh e = false ∧ ((eLo W H e = i ∧ bt x (eHi W H e) = true) ∨ (eHi W H e = i ∧ bt x (eLo W H e) = true)) := by
    intro i hi
    have hi32 : i < 32 := by
      rcases Nat.lt_or_ge i 32 with q | q
      · exact q
      · rw [b_big q] at hi; cases hi
    rw [by_ i hi32] at hi
    simp only [Bool.or_eq_true, Bool.and_eq_true, decide_eq_true_eq] at hi
    rcases hi with (h | ⟨h1, h2, h3⟩ | ⟨h1, h2⟩) | ⟨h1, h2, h3⟩ | ⟨h1, h2⟩
    · exact Or.inl h
    · obtain ⟨e, he, hs, g1, g2⟩ := eR (i - 1) (by omega) h3
      exact Or.inr ⟨e, he, hs, Or.inr ⟨by omega, by rw [g1]; exact h2⟩⟩
    · obtain ⟨e, he, hs, g1, g2⟩ := eR i hi32 h2
      exact Or.inr ⟨e, he, hs, Or.inl ⟨g1, by rw [g2, Nat.add_comm]; exact h1⟩⟩
    · obtain ⟨e, he, hs, g1, g2⟩ := eB (i - W) (by omega) h3
      exact Or.inr ⟨e, he, hs, Or.inr ⟨by omega, by rw [g1]; exact h2⟩⟩
    · obtain ⟨e, he, hs, g1, g2⟩ := eB i hi32 h2
      exact Or.inr ⟨e, he, hs, Or.inl ⟨g1, by rw [g2, Nat.add_comm]; exact h1⟩⟩
  refine ⟨y, by rw [hy, hvr, hvb]; rfl, fun i hi => ?_, fun i hi => ?_, fun e he hs => ?_, hd4⟩
  · rcases hd4 i hi with h | ⟨e, he, -, ⟨g, -⟩ | ⟨g, -⟩⟩
    · exact hx i h
    · have := geo_e ok he; omega
    · have := geo_e ok he; omega
  · have := hx i hi
    rw [by_ i (by omega), hi]
    simp
  · have hg := geo_e ok he
    rcases geo_r ok he with ⟨-, g1, g2, g3⟩ | ⟨-, g1, g2, g3⟩
    · have hv : bt vr (eLo W H e) = true := by
        rw [br _ (by omega), ← g2, ht e he, hs, g2]
        simp [hg.1, g1]
      constructor
      · intro q
        rw [by_ _ (show eHi W H e < 32 by omega), g3, Nat.add_sub_cancel, q, hv]
        simp
      · intro q
        rw [by_ _ (show eLo W H e < 32 by omega), Nat.add_comm 1, ← g3, q, hv]
        simp
    · have hv : bt vb (eLo W H e) = true := by
        rw [bb _ (by omega), ← g2, ht e he, hs]
        simp [hg.1, g1]
      constructor
      · intro q
        rw [by_ _ (show eHi W H e < 32 by omega), g3, Nat.add_sub_cancel, q, hv]
        simp
      · intro q
        rw [by_ _ (show eLo W H e < 32 by omega), Nat.add_comm W, ← g3, q, hv]
        simp
theorem pc_land {W H : Nat} {so : Nat → Nat} {pa : Nat → Bool} {zG : GS} (ok : okB W H = true) (hG : GC W H so pa zG) {t : Int64} {sh : Nat → Bool} (ht : ∀ e, e < eN W H → bl t (ePl W H e) = sh e) (x : Int32) (hx : ∀ i, bt x i = true → i < W * H) :
    ∃ y, f_X0_landFrom zG x t = some y ∧ isLand W H sh x y := by
  have hgn := geo_n ok
  obtain ⟨r, hr, hp⟩ := up_loop (σ := Int32) (fun n i s => L_X0_landFrom_6 zG x t n s i) 25 (fun i s => btw W H sh x s ∧ i ≤ fb_ct (bt s) 25) (fun r => isLand W H sh x r.1)
    (fun n s hI => ⟨(s, nI 25), by
      show L_X0_landFrom_6 zG x t (n + 1) s (nI 25) = _
      rw [L_X0_landFrom_6, if_pos (show (25 : Int32) ≤ nI 25 by decide)], hI.1, fun e he _ => by
        have hg := geo_e ok he
        have hall := fb_ct_all.mp (Nat.le_antisymm (fb_ct_le (bt s) 25) hI.2)
        rw [hall _ (show eLo W H e < 25 by omega), hall _ (show eHi W H e < 25 by omega)]⟩)
    (fun n i s hi hI => by
      obtain ⟨y, hy1, hy2, hy3, hy4, hy5⟩ := pc_step ok hG ht s hI.1.1
      have e0 : L_X0_landFrom_6 zG x t (n + 1) s (nI i) = (if y = s then (some (s, nI i)) else (nm (nI i + 1) fun v5_14 => L_X0_landFrom_6 zG x t n y v5_14)) := by
        rw [L_X0_landFrom_6, if_neg (show ¬ (25 : Int32) ≤ nI i from fun q => absurd ((nI_leI (a := 25) (by omega) (by omega)).mp q) (by omega)), hy1]
        rfl
      by_cases c : y = s
      · left
        refine ⟨(s, nI i), by show L_X0_landFrom_6 zG x t (n + 1) s (nI i) = _; rw [e0, if_pos c], hI.1, fun e he hs => ?_⟩
        have h4 := hy4 e he hs
        rw [c] at h4
        show bt s (eLo W H e) = bt s (eHi W H e)
        cases q1 : bt s (eLo W H e) <;> cases q2 : bt s (eHi W H e)
        · rfl
        · have := h4.2 q2; rw [q1] at this; cases this
        · have := h4.1 q1; rw [q2] at this; cases this
        · rfl
      · right
        refine ⟨y, ⟨⟨hy2, fun i hi => hy3 i (hI.1.2.1 i hi), fun S hS hA i hi => ?_⟩, ?_⟩, ?_⟩
        · rcases hy5 i hi with h | ⟨e, he, hs, ⟨g1, g2⟩ | ⟨g1, g2⟩⟩
          · exact hI.1.2.2 S hS hA i h
          · rw [← g1, hS e he hs]; exact hI.1.2.2 S hS hA _ g2
          · rw [← g1, ← hS e he hs]; exact hI.1.2.2 S hS hA _ g2
        · have := ct_ne (n := 25) (by omega) (fun i hi => by have := hy2 i hi; omega) hy3 c
          omega
        · show L_X0_landFrom_6 zG x t (n + 1) s (nI i) = L_X0_landFrom_6 zG x t n y (nI (i + 1))
          rw [e0, if_neg c, nm_s, nI_1]) 3000 0 x (by omega) (by omega) ⟨⟨hx, fun _ h => h, fun S _ hA i hi => hA i hi⟩, Nat.zero_le _⟩
  refine ⟨r.1, ?_, hp⟩
  unfold f_X0_landFrom
  simp only [nm_s]
  rw [show (L_X0_landFrom_6 zG x t 3000 x 0) = some r from hr]
  rfl

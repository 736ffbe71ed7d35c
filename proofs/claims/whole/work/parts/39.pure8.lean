/-! ===== how many edges a set has ===== -/
theorem geo_m0 : chkWH (fun W H => (List.range (eN W H)).all fun e => (List.range (eN W H)).all fun d => !(decide (e < d)) || decide (ePl W H e < ePl W H d)) = true := by decide +kernel
theorem geo_m {W H e d : Nat} (h : okB W H = true) (hd : d < eN W H) (hed : e < d) : ePl W H e < ePl W H d := by
  simpa [hed] using all_at (all_at (chk_at geo_m0 h) (show e < eN W H by omega)) hd
theorem ct_mono_at {p q : Nat → Bool} {f : Nat → Nat} {N M : Nat} (hf : ∀ e, e < N → f e < M) (hm : ∀ e d, d < N → e < d → f e < f d) (h1 : ∀ e, e < N → q (f e) = p e) (h2 : ∀ i, q i = true → ∃ e, e < N ∧ f e = i) : fb_ct q M = fb_ct p N := by
  have key : ∀ n, n ≤ N → ∀ m, m ≤ M → (∀ e, e < n → f e < m) → (∀ e, e < N → n ≤ e → m ≤ f e) → fb_ct q m = fb_ct p n := by
    intro n
    induction n with
    | zero =>
      intro _ m hm0 _ h4
      show _ = 0
      refine fb_ct_zero.mpr (fun i hi => ?_)
      cases c : q i
      · rfl
      · obtain ⟨e, he, rfl⟩ := h2 i c
        have := h4 e he (by omega)
        omega
    | succ n ih =>
      intro hn m hm0 h3 h4
      have hfn := h3 n (by omega)
      have e1 : m = (f n + 1) + (m - (f n + 1)) := by omega
      rw [e1, fb_ct_split, fb_ct_succ, fb_ct_succ, h1 n (by omega)]
      have z : fb_ct (fun k => q (f n + 1 + k)) (m - (f n + 1)) = 0 := by
        refine fb_ct_zero.mpr (fun k hk => ?_)
        cases c : q (f n + 1 + k)
        · rfl
        · obtain ⟨e, he, hfe⟩ := h2 _ c
          rcases Nat.lt_trichotomy e n with h | h | h
          · have := hm e n (by omega) h; omega
          · subst h; omega
          · have := h4 e he (by omega); omega
      rw [z, ih (by omega) (f n) (by omega) (fun e he => hm e n (by omega) he) (fun e he hne => by
        rcases Nat.lt_or_ge n e with h | h
        · exact Nat.le_of_lt (hm n e he h)
        · have : e = n := by omega
          subst this; omega)]
      omega
  exact key N (Nat.le_refl N) M (Nat.le_refl M) hf (fun e he h => by omega)
theorem ES_ct {W H : Nat} (ok : okB W H = true) {t : Int64} {p : Nat → Bool} (ht : ES W H t p) : fb_ct (bl t) 64 = fb_ct p (eN W H) :=
  ct_mono_at (f := ePl W H) (fun e he => (geo_e ok he).2.2.2) (fun e d hd h => geo_m ok hd h) ht.1 ht.2
theorem ES_count {W H : Nat} (ok : okB W H = true) {t : Int64} {p : Nat → Bool} (ht : ES W H t p) : f_J13_bitCount_95d88 t = some (nI (fb_ct p (eN W H))) := by rw [pc_long, ES_ct ok ht]
/-- a loop of the reference that counts edges -/
theorem pm_hedges {W H : Nat} {so : Nat → Nat} {pa : Nat → Bool} {zM : MS} {hd ag : Nat → Nat} {ga : Nat → Bool} {ow : Int32} {yr : Nat} (ok : okB W H = true) (hG : GM W H so pa zM) (hS : SM W H hd ag ga ow yr (zM.2 8)) (hK : SK W H hd ag ga ow yr) :
    f_X7_hedges zM = some (nI (fb_ct (fun e => decide (hd e ≠ 0)) (eN W H))) := by
  have hgn := geo_n ok
  obtain ⟨r, hr, hp⟩ := up_loop (σ := Int32) (fun n i s => L_X7_hedges_4 zM n s i) (eN W H) (fun i s => s = nI (fb_ct (fun e => decide (hd e ≠ 0)) i)) (fun r => r.1 = nI (fb_ct (fun e => decide (hd e ≠ 0)) (eN W H)))
    (fun n s hI => ⟨(s, nI (eN W H)), by
      show L_X7_hedges_4 zM (n + 1) s (nI (eN W H)) = _
      rw [L_X7_hedges_4, hG.1.2.2.2, if_pos (Int32.le_refl _)], hI⟩)
    (fun n i s hi hI => by
      right
      have h := (hS.1 i hi).1
      have hk := hK.1 i
      refine ⟨nI (fb_ct (fun e => decide (hd e ≠ 0)) (i + 1)), rfl, ?_⟩
      show L_X7_hedges_4 zM (n + 1) s (nI i) = L_X7_hedges_4 zM n (nI (fb_ct (fun e => decide (hd e ≠ 0)) (i + 1))) (nI (i + 1))
      rw [L_X7_hedges_4, hG.1.2.2.2, if_neg (fun q => absurd ((nI_leI (by omega) (by omega)).mp q) (by omega)), ald_s _ _ (show i < 122 by omega) (by omega), h, hI]
      by_cases c : hd i = 0
      · rw [if_pos c, if_pos (by decide)]
        simp only [nm_s, nI_1]
        rw [show (0 : Int32) = nI 0 from rfl, nI_add, fb_ct_succ]
        simp [c]
      · rw [if_neg c, if_neg (nI_pos (by omega))]
        simp only [nm_s, nI_1]
        rw [fb_ct_succ]
        simp [c]) 3000 0 0 (by omega) (by omega) rfl
  unfold f_X7_hedges
  simp only [nm_s]
  rw [show (L_X7_hedges_4 zM 3000 0 0) = some r from hr]
  simp only [Option.bind_some]
  rw [hp]
def crossB (W H : Nat) (x : Int32) (e : Nat) : Bool := bt x (eLo W H e) ^^ bt x (eHi W H e)
theorem bool_ne (a b : Bool) : ((if a then (1 : Int32) else 0) = (if b then 1 else 0)) ↔ (a ^^ b) = false := by cases a <;> cases b <;> decide
theorem pm_frontier {W H : Nat} {so : Nat → Nat} {pa : Nat → Bool} {zM : MS} (ok : okB W H = true) (hG : GM W H so pa zM) :
    f_X7_frontier zM = some (nI (fb_ct (crossB W H (zM.2 8 120)) (eN W H))) := by
  have hgn := geo_n ok
  obtain ⟨r, hr, hp⟩ := up_loop (σ := Int32) (fun n i s => L_X7_frontier_4 zM n s i) (eN W H) (fun i s => s = nI (fb_ct (crossB W H (zM.2 8 120)) i)) (fun r => r.1 = nI (fb_ct (crossB W H (zM.2 8 120)) (eN W H)))
    (fun n s hI => ⟨(s, nI (eN W H)), by
      show L_X7_frontier_4 zM (n + 1) s (nI (eN W H)) = _
      rw [L_X7_frontier_4, hG.1.2.2.2, if_pos (Int32.le_refl _)], hI⟩)
    (fun n i s hi hI => by
      right
      have h := hG.2.2 i hi
      have hg := geo_e ok hi
      refine ⟨nI (fb_ct (crossB W H (zM.2 8 120)) (i + 1)), rfl, ?_⟩
      show L_X7_frontier_4 zM (n + 1) s (nI i) = L_X7_frontier_4 zM n (nI (fb_ct (crossB W H (zM.2 8 120)) (i + 1))) (nI (i + 1))
      rw [L_X7_frontier_4, hG.1.2.2.2, if_neg (fun q => absurd ((nI_leI (by omega) (by omega)).mp q) (by omega)), show (120 : Int32) = nI 120 from rfl, ald_s _ _ (show 120 < 122 by omega) (by omega), ald_s _ _ (show i < 40 by omega) (by omega), h.1, pm_has _ (show eLo W H i < 32 by omega)]
      simp only [Option.bind_some]
      rw [ald_s _ _ (show 120 < 122 by omega) (by omega), ald_s _ _ (show i < 40 by omega) (by omega), h.2.1, pm_has _ (show eHi W H i < 32 by omega)]
      simp only [Option.bind_some]
      rw [hI]
      by_cases c : crossB W H (zM.2 8 120) i = false
      · rw [if_pos ((bool_ne _ _).mpr c)]
        simp only [nm_s, nI_1]
        rw [show (0 : Int32) = nI 0 from rfl, nI_add, fb_ct_succ]
        simp [c]
      · rw [if_neg (fun q => c ((bool_ne _ _).mp q))]
        simp only [nm_s, nI_1]
        rw [fb_ct_succ]
        simp [c]) 3000 0 0 (by omega) (by omega) rfl
  unfold f_X7_frontier
  simp only [nm_s]
  rw [show (L_X7_frontier_4 zM 3000 0 0) = some r from hr]
  simp only [Option.bind_some]
  rw [hp]
/-! ===== the edges round a set of fields ===== -/
theorem geo_r0 : chkWH (fun W H => (List.range (eN W H)).all fun e => (decide (e < (W - 1) * H) && decide (eLo W H e % W < W - 1) && decide (ePl W H e = eLo W H e) && decide (eHi W H e = eLo W H e + 1)) || (!(decide (e < (W - 1) * H)) && decide (eLo W H e / W < H - 1) && decide (ePl W H e = 32 + eLo W H e) && decide (eHi W H e = eLo W H e + W))) = true := by decide +kernel
theorem geo_r {W H e : Nat} (h : okB W H = true) (he : e < eN W H) : (e < (W - 1) * H ∧ eLo W H e % W < W - 1 ∧ ePl W H e = eLo W H e ∧ eHi W H e = eLo W H e + 1) ∨ (¬ e < (W - 1) * H ∧ eLo W H e / W < H - 1 ∧ ePl W H e = 32 + eLo W H e ∧ eHi W H e = eLo W H e + W) := by
  have := all_at (chk_at geo_r0 h) he
  simp only [Bool.or_eq_true, Bool.and_eq_true, decide_eq_true_eq, Bool.not_eq_true', decide_eq_false_iff_not] at this
  omega
theorem geo_s0 : chkWH (fun W H => (List.range (W * H)).all fun f => (!(decide (f % W < W - 1)) || (decide (f / W * (W - 1) + f % W < eN W H) && decide (eLo W H (f / W * (W - 1) + f % W) = f) && decide (eHi W H (f / W * (W - 1) + f % W) = f + 1) && decide (ePl W H (f / W * (W - 1) + f % W) = f))) && (!(decide (f / W < H - 1)) || (decide ((W - 1) * H + f < eN W H) && decide (eLo W H ((W - 1) * H + f) = f) && decide (eHi W H ((W - 1) * H + f) = f + W) && decide (ePl W H ((W - 1) * H + f) = 32 + f)))) = true := by decide +kernel
theorem geo_s {W H f : Nat} (h : okB W H = true) (hf : f < W * H) : (f % W < W - 1 → ∃ e, e < eN W H ∧ eLo W H e = f ∧ eHi W H e = f + 1 ∧ ePl W H e = f) ∧ (f / W < H - 1 → ∃ e, e < eN W H ∧ eLo W H e = f ∧ eHi W H e = f + W ∧ ePl W H e = 32 + f) := by
  have := all_at (chk_at geo_s0 h) hf
  simp only [Bool.or_eq_true, Bool.and_eq_true, decide_eq_true_eq, Bool.not_eq_true', decide_eq_false_iff_not] at this
  constructor
  · intro q
    rcases this.1 with g | g
    · exact absurd q g
    · exact ⟨_, g.1.1.1, g.1.1.2, g.1.2, g.2⟩
  · intro q
    rcases this.2 with g | g
    · exact absurd q g
    · exact ⟨_, g.1.1.1, g.1.1.2, g.1.2, g.2⟩
theorem pc_round {W H : Nat} {so : Nat → Nat} {pa : Nat → Bool} {zG : GS} (ok : okB W H = true) (hG : GC W H so pa zG) (x : Int32) :
    ∃ t, f_X0_edgesRound zG x = some t ∧ ES W H t (crossB W H x) := by
  have hgn := geo_n ok
  have hW : W < 32 := by have := okB_lt ok; omega
  refine ⟨_, rfl, fun e he => ?_, fun i hi => ?_⟩
  · have hg := geo_e ok he
    rw [l_or]
    rcases geo_r ok he with ⟨-, g1, g2, g3⟩ | ⟨-, g1, g2, g3⟩
    · rw [g2, show (32 : Int32) = nI 32 from rfl, l_shl 32 (by omega) _ (show eLo W H e < 64 by omega), decide_eq_false (show ¬ 32 ≤ eLo W H e by omega), Bool.false_and, Bool.false_or, l_i2l _ (show eLo W H e < 64 by omega), if_pos (show eLo W H e < 32 by omega), b_and, b_xor, show (1 : Int32) = nI 1 from rfl, i_ushr 1 (by omega), hG.2.1.2.2.1]
      unfold crossB
      rw [g3, Nat.add_comm 1]
      simp [hg.1, g1]
    · rw [g2, show (32 : Int32) = nI 32 from rfl, l_shl 32 (by omega) _ (show 32 + eLo W H e < 64 by omega), decide_eq_true (show 32 ≤ 32 + eLo W H e by omega), Bool.true_and, show 32 + eLo W H e - 32 = eLo W H e by omega, l_i2l _ (show eLo W H e < 64 by omega), if_pos (show eLo W H e < 32 by omega), l_i2l _ (show 32 + eLo W H e < 64 by omega), if_neg (show ¬ 32 + eLo W H e < 32 by omega), b_and, b_xor, hG.1.1, i_ushr W hW, hG.2.1.2.2.2, b_and, hG.2.1.2.2.1]
      unfold crossB
      rw [g3, Nat.add_comm W]
      simp [hg.1, g1, show ¬ 31 < W * H by omega]
  · rcases Nat.lt_or_ge i 64 with h64 | h64
    · rw [l_or, Bool.or_eq_true] at hi
      rcases hi with hi | hi
      · rw [show (32 : Int32) = nI 32 from rfl, l_shl 32 (by omega) _ h64, Bool.and_eq_true, decide_eq_true_eq, l_i2l _ (show i - 32 < 64 by omega), if_pos (show i - 32 < 32 by omega), b_and, hG.2.1.2.2.2, Bool.and_eq_true, Bool.and_eq_true, decide_eq_true_eq, decide_eq_true_eq] at hi
        obtain ⟨e, he, -, -, hp⟩ := (geo_s ok hi.2.2.1).2 hi.2.2.2
        exact ⟨e, he, by omega⟩
      · rw [l_i2l _ h64, b_and, b_and] at hi
        by_cases c : i < 32
        · rw [if_pos c, hG.2.1.2.2.1, Bool.and_eq_true, Bool.and_eq_true, decide_eq_true_eq, decide_eq_true_eq] at hi
          obtain ⟨e, he, -, -, hp⟩ := (geo_s ok hi.2.1).1 hi.2.2
          exact ⟨e, he, hp⟩
        · rw [if_neg c, hG.2.1.2.2.1] at hi
          simp [show ¬ 31 < W * H by omega] at hi
    · rw [l_big h64] at hi
      cases hi

/-! ===== sets of edges by their places ===== -/
def ES (W H : Nat) (t : Int64) (p : Nat → Bool) : Prop := (∀ e, e < eN W H → bl t (ePl W H e) = p e) ∧ ∀ i, bl t i = true → ∃ e, e < eN W H ∧ ePl W H e = i
theorem ES_ext {W H : Nat} {t u : Int64} {p q : Nat → Bool} (ht : ES W H t p) (hu : ES W H u q) (h : ∀ e, e < eN W H → p e = q e) : t = u := by
  apply l_ext
  intro i _
  by_cases c : ∃ e, e < eN W H ∧ ePl W H e = i
  · obtain ⟨e, he, rfl⟩ := c
    rw [ht.1 e he, hu.1 e he, h e he]
  · have h1 : bl t i = false := by cases q : bl t i; rfl; exact absurd (ht.2 i q) c
    have h2 : bl u i = false := by cases q : bl u i; rfl; exact absurd (hu.2 i q) c
    rw [h1, h2]
theorem ES_0 (W H : Nat) : ES W H 0 (fun _ => false) := ⟨fun _ _ => l_0 _, fun i h => by rw [l_0] at h; cases h⟩
theorem ES_pl {W H : Nat} (ok : okB W H = true) {d : Nat} (hd : d < eN W H) : ES W H (lshl 1 (nI (ePl W H d))) (fun e => decide (e = d)) := by
  have hg := (geo_e ok hd).2.2.2
  refine ⟨fun e he => ?_, fun i h => ?_⟩
  · rw [l_pow _ hg]
    by_cases c : e = d
    · subst c; simp
    · rw [decide_eq_false (fun q => c (geo_p ok he hd q))]; simp [c]
  · rw [l_pow _ hg] at h
    exact ⟨d, hd, (of_decide_eq_true h).symm⟩
theorem ES_or {W H : Nat} {t u : Int64} {p q : Nat → Bool} (ht : ES W H t p) (hu : ES W H u q) : ES W H (t ||| u) (fun e => p e || q e) := by
  refine ⟨fun e he => by rw [l_or, ht.1 e he, hu.1 e he], fun i h => ?_⟩
  rw [l_or, Bool.or_eq_true] at h
  rcases h with h | h
  · exact ht.2 i h
  · exact hu.2 i h
theorem ES_andl {W H : Nat} {t u : Int64} {p q : Nat → Bool} (ht : ES W H t p) (hu : ∀ e, e < eN W H → bl u (ePl W H e) = q e) : ES W H (t &&& u) (fun e => p e && q e) := by
  refine ⟨fun e he => by rw [l_and, ht.1 e he, hu e he], fun i h => ?_⟩
  rw [l_and, Bool.and_eq_true] at h
  exact ht.2 i h.1
theorem ES_andr {W H : Nat} {t u : Int64} {p q : Nat → Bool} (ht : ∀ e, e < eN W H → bl t (ePl W H e) = p e) (hu : ES W H u q) : ES W H (t &&& u) (fun e => p e && q e) := by
  refine ⟨fun e he => by rw [l_and, ht e he, hu.1 e he], fun i h => ?_⟩
  rw [l_and, Bool.and_eq_true] at h
  exact hu.2 i h.2
theorem l_not (x : Int64) {i : Nat} (hi : i < 64) : bl (x ^^^ (-1)) i = !(bl x i) := by rw [l_xor, l_m1 i hi, Bool.xor_true]
theorem b_not (x : Int32) {i : Nat} (hi : i < 32) : bt (x ^^^ (-1)) i = !(bt x i) := by rw [b_xor, b_m1 i hi, Bool.xor_true]
theorem ES_andn {W H : Nat} (ok : okB W H = true) {t u : Int64} {p q : Nat → Bool} (ht : ES W H t p) (hu : ∀ e, e < eN W H → bl u (ePl W H e) = q e) : ES W H (t &&& (u ^^^ (-1))) (fun e => p e && !(q e)) :=
  ES_andl ht (fun e he => by rw [l_not _ (geo_e ok he).2.2.2, hu e he])
theorem ES_zero {W H : Nat} {t : Int64} {p : Nat → Bool} (ht : ES W H t p) : t = 0 ↔ ∀ e, e < eN W H → p e = false := by
  constructor
  · intro h e he
    rw [← ht.1 e he, h, l_0]
  · intro h
    exact ES_ext ht (ES_0 W H) h
/-- the test of one edge's place -/
theorem ES_test {W H : Nat} (ok : okB W H = true) {t : Int64} {d : Nat} (hd : d < eN W H) : (lg_cmp (t &&& lshl 1 (nI (ePl W H d))) 0 = 0) ↔ bl t (ePl W H d) = false := by
  have h := ES_andr (t := t) (p := fun e => bl t (ePl W H e)) (fun e _ => rfl) (ES_pl ok hd)
  rw [lg_cmp_0, ES_zero h]
  constructor
  · intro q
    have := q d hd
    simpa using this
  · intro q e he
    by_cases c : e = d
    · subst c; simp [q]
    · simp [c]
/-! ===== which hedges are tall, which edges are shut ===== -/
def tallB (W H : Nat) (so hd ag : Nat → Nat) (y e : Nat) : Bool := decide (hd e ≠ 0) && decide (12 ≤ hgt W H so e (ag e + y))
def shutB (W H : Nat) (so hd ag : Nat → Nat) (ga : Nat → Bool) (e : Nat) : Bool := tallB W H so hd ag 0 e && !(ga e)
theorem pc_tall {W H : Nat} {so : Nat → Nat} {pa : Nat → Bool} {zG : GS} {zS : SS} {hd ag : Nat → Nat} {ga : Nat → Bool} {ow : Int32} {yr : Nat} (ok : okB W H = true) (hs : soOk so) (hG : GC W H so pa zG) (hK : SK W H hd ag ga ow yr) (hS : SC W H hd ag ga ow yr zS) {y : Nat} (hy : y ≤ 100) :
    ∃ t, f_X5_tallHedges zG zS (nI y) = some t ∧ ES W H t (tallB W H so hd ag y) := by
  have hgn := geo_n ok
  obtain ⟨r, hr, hp⟩ := up_loop (σ := Int64) (fun n i s => L_X5_tallHedges_5 zG zS (nI y) n s i) (eN W H) (fun i s => ES W H s (fun e => decide (e < i) && tallB W H so hd ag y e)) (fun r => ES W H r.1 (tallB W H so hd ag y))
    (fun n s hI => ⟨(s, nI (eN W H)), by
      show L_X5_tallHedges_5 zG zS (nI y) (n + 1) s (nI (eN W H)) = _
      rw [L_X5_tallHedges_5, hG.1.2.2.2, if_pos (Int32.le_refl _)], ⟨fun e he => by rw [hI.1 e he]; simp [he], hI.2⟩⟩)
    (fun n i s hi hI => by
      right
      have hpl := (hG.2.2.2.2 i hi).2.2
      have hsc := hS.2.1 i hi
      have hk := hK.1 i
      refine ⟨if tallB W H so hd ag y i then s ||| lshl 1 (nI (ePl W H i)) else s, ?_, ?_⟩
      · by_cases c : tallB W H so hd ag y i = true
        · rw [if_pos c]
          have h2 := ES_or hI (ES_pl ok hi)
          refine ⟨fun e he => ?_, h2.2⟩
          rw [h2.1 e he]
          by_cases d : e = i
          · subst d; simp [c]
          · by_cases f : e < i
            · simp [d, f, Nat.lt_succ_of_lt f]
            · simp [d, f, show ¬ e < i + 1 by omega]
        · rw [if_neg c]
          refine ⟨fun e he => ?_, hI.2⟩
          rw [hI.1 e he]
          by_cases d : e = i
          · subst d; simp [c]
          · by_cases f : e < i
            · simp [f, Nat.lt_succ_of_lt f]
            · simp [f, show ¬ e < i + 1 by omega]
      · show L_X5_tallHedges_5 zG zS (nI y) (n + 1) s (nI i) = L_X5_tallHedges_5 zG zS (nI y) n _ (nI (i + 1))
        rw [L_X5_tallHedges_5, hG.1.2.2.2, if_neg (fun q => absurd ((nI_leI (by omega) (by omega)).mp q) (by omega)), ald_s _ _ (show i < 40 by omega) (by omega), hpl]
        by_cases c : hd i = 0
        · rw [if_pos ((ES_test ok hi).mpr (by rw [hsc.1]; simp [c]))]
          simp only [nm_s, nI_1]
          rw [if_neg (by simp [tallB, c])]
        · rw [if_neg (fun q => by rw [ES_test ok hi, hsc.1] at q; simp [c] at q), ald_s _ _ (show i < 40 by omega) (by omega), hsc.2.2.2 c, nI_add, pc_height ok hs hG hi (by omega)]
          simp only [Option.bind_some]
          by_cases d : 12 ≤ hgt W H so i (ag i + y)
          · rw [if_neg (show ¬ nI (hgt W H so i (ag i + y)) < (12 : Int32) from fun q => absurd ((nI_ltI (b := 12) (by unfold hgt; omega) (by omega)).mp q) (by omega)), ald_s _ _ (show i < 40 by omega) (by omega), hpl]
            simp only [nm_s, nI_1]
            rw [if_pos (by simp [tallB, c, d])]
          · rw [if_pos (show nI (hgt W H so i (ag i + y)) < (12 : Int32) from (nI_ltI (b := 12) (by unfold hgt; omega) (by omega)).mpr (by omega))]
            simp only [nm_s, nI_1]
            rw [if_neg (by simp [tallB, d])]) 3000 0 0 (by omega) (by omega) ⟨fun e he => by rw [l_0]; simp, (ES_0 W H).2⟩
  refine ⟨r.1, ?_, hp⟩
  unfold f_X5_tallHedges
  simp only [nm_s]
  rw [show (L_X5_tallHedges_5 zG zS (nI y) 3000 0 0) = some r from hr]
  rfl
theorem pc_shut {W H : Nat} {so : Nat → Nat} {pa : Nat → Bool} {zG : GS} {zS : SS} {hd ag : Nat → Nat} {ga : Nat → Bool} {ow : Int32} {yr : Nat} (ok : okB W H = true) (hs : soOk so) (hG : GC W H so pa zG) (hK : SK W H hd ag ga ow yr) (hS : SC W H hd ag ga ow yr zS) :
    ∃ t, f_X5_shutEdges zG zS = some t ∧ ES W H t (shutB W H so hd ag ga) := by
  obtain ⟨t, h1, h2⟩ := pc_tall ok hs hG hK hS (y := 0) (by omega)
  refine ⟨t &&& ((zS.1 2) ^^^ (-1)), ?_, ES_andn ok h2 (fun e he => (hS.2.1 e he).2.2.1)⟩
  unfold f_X5_shutEdges
  rw [show (f_X5_tallHedges zG zS 0) = some t from h1]
  rfl
theorem pm_shut {W H : Nat} {so : Nat → Nat} {pa : Nat → Bool} {zM : MS} {hd ag : Nat → Nat} {ga : Nat → Bool} {ow : Int32} {yr : Nat} (ok : okB W H = true) (hs : soOk so) (hG : GM W H so pa zM) (hK : SK W H hd ag ga ow yr) (hS : SM W H hd ag ga ow yr (zM.2 8)) {e : Nat} (he : e < eN W H) :
    f_X7_isShut zM (nI e) = some (if shutB W H so hd ag ga e then 1 else 0) := by
  have hgn := geo_n ok
  have h := hS.1 e he
  have hk := hK.1 e
  unfold f_X7_isShut
  rw [ald_s _ _ (show e < 122 by omega) (by omega), h.1]
  by_cases c : hd e = 0
  · rw [if_pos c, if_pos (by decide)]
    simp [shutB, tallB, c]
  · rw [if_neg c, if_neg (nI_pos (by omega)), show (80 : Int32) = nI 80 from rfl, show (40 : Int32) = nI 40 from rfl, nI_add, nI_add, ald_s _ _ (show 80 + e < 122 by omega) (by omega), h.2.2]
    by_cases g : ga e = true
    · rw [g, if_neg (by decide)]
      simp [shutB, g]
    · have g0 : ga e = false := by cases q : ga e; rfl; exact absurd q g
      rw [g0, if_pos (by decide), ald_s _ _ (show 40 + e < 122 by omega) (by omega), h.2.1 c, pm_height ok hs hG he (by omega)]
      simp only [Option.bind_some]
      by_cases d : 12 ≤ hgt W H so e (ag e)
      · rw [if_neg (show ¬ nI (hgt W H so e (ag e)) < (12 : Int32) from fun q => absurd ((nI_ltI (b := 12) (by unfold hgt; omega) (by omega)).mp q) (by omega))]
        simp [shutB, tallB, c, g0, d]
      · rw [if_pos (show nI (hgt W H so e (ag e)) < (12 : Int32) from (nI_ltI (b := 12) (by unfold hgt; omega) (by omega)).mpr (by omega))]
        simp [shutB, tallB, d]

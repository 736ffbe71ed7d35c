/-! ===== slips: the class's cheapest land ===== -/
def cstX (W H : Nat) (st : Nat → Bool) (x : Int32) : Nat := fb_ct (fun e => crossB W H x e && !(st e)) (eN W H)
def feaX (W H : Nat) (st sl : Nat → Bool) (x : Int32) : Prop := ∀ e, e < eN W H → ((crossB W H x e && !(st e)) && !(sl e)) = false
def lndX (W H f k : Nat) : Int32 := ((1 : Int32) <<< (nI f &&& 31)) ||| nI (sqW (innN W H f) 0 k)
theorem cstX_le {W H : Nat} (ok : okB W H = true) (st : Nat → Bool) (x : Int32) : cstX W H st x ≤ 40 := Nat.le_trans (fb_ct_le _ _) (geo_n ok).1
theorem pc_cheapest {W H : Nat} {so : Nat → Nat} {pa : Nat → Bool} {zG : GS} (zX : XS) (ok : okB W H = true) (hG : GC W H so pa zG) {f : Nat} (hf : f < W * H) (hrim : rimB W H f = false) {p2 p4 : Int64} {st sl : Nat → Bool} (h2 : ∀ e, e < eN W H → bl p2 (ePl W H e) = st e) (h4 : ∀ e, e < eN W H → bl p4 (ePl W H e) = sl e) :
    ∃ b, f_X6_cheapestLand zX zG (nI f) p2 p4 = some b ∧ ((b = 0 ∧ ∀ j, j < 2 ^ (innL W H f).length → ¬ feaX W H st sl (lndX W H f j)) ∨ ∃ j, j < 2 ^ (innL W H f).length ∧ b = lndX W H f j ∧ feaX W H st sl (lndX W H f j) ∧ (∀ i, i < 2 ^ (innL W H f).length → feaX W H st sl (lndX W H f i) → cstX W H st (lndX W H f j) ≤ cstX W H st (lndX W H f i)) ∧ ∀ i, i < j → feaX W H st sl (lndX W H f i) → cstX W H st (lndX W H f j) < cstX W H st (lndX W H f i)) := by
  have hgn := geo_n ok
  obtain ⟨g1, g2, g3, g4, g5⟩ := geo_sub ok hf hrim
  have hL : 2 ^ (innL W H f).length ≤ 512 := Nat.le_trans (Nat.pow_le_pow_right (by omega) g3) (by decide)
  have hm : innN W H f ≤ 4294967296 := by
    have : innN W H f < 2 ^ 32 := by
      unfold innN
      have key : ∀ l : List Nat, (∀ i, i ∈ l → i < 32) → l.foldr (fun i a => a ||| 2 ^ i) 0 < 2 ^ 32 := by
        intro l
        induction l with
        | nil => intro _; exact Nat.two_pow_pos 32
        | cons b l ih =>
          intro h
          rw [List.foldr_cons]
          exact Nat.or_lt_two_pow (ih (fun i hi => h i (List.mem_cons_of_mem _ hi))) (Nat.pow_lt_pow_right (by omega) (h b List.mem_cons_self))
      refine key _ (fun i hi => ?_)
      unfold innL at hi
      rw [List.mem_filter, List.mem_reverse, List.mem_range] at hi
      omega
    omega
  have hv7 : (((zG.1 4) &&& ((zG.1 5) ^^^ (-1))) &&& (((1 : Int32) <<< (nI f &&& 31)) ^^^ (-1))) = nI (innN W H f) := by
    apply b_ext
    intro i hi
    rw [bt_nI hi, g5 i hi, b_andn, b_andn, hG.2.1.1, hG.2.1.2.1, b_pow f (by omega)]
    unfold innB
    cases decide (i < W * H) <;> cases rimB W H i <;> cases decide (i = f) <;> rfl
  have hcnt : fb_ct (bt (nI (innN W H f))) 32 = (innL W H f).length := by
    rw [← g4]
    exact fb_ct_cong (fun i hi => by rw [bt_nI hi, g5 i hi])
  have hcr : ∀ k, ∃ t, f_X0_edgesRound zG (lndX W H f k) = some t ∧ ES W H (t &&& (p2 ^^^ (-1))) (fun e => crossB W H (lndX W H f k) e && !(st e)) := fun k => by
    obtain ⟨t, t1, t2⟩ := pc_round ok hG (lndX W H f k)
    exact ⟨t, t1, ES_andn ok t2 h2⟩
  obtain ⟨r, hr, hp⟩ := up_loop (σ := Int32 × Int32 × Int32) (fun n i s => L_X6_cheapestLand_66 zX zG (nI f) p2 p4 ((1 : Int32) <<< (nI f &&& 31)) (nI (innN W H f)) (nI (2 ^ (innL W H f).length)) n s.1 s.2.1 s.2.2 i) (2 ^ (innL W H f).length)
    (fun k s => s.2.2 = nI (sqW (innN W H f) 0 k) ∧ ((s.1 = 0 ∧ s.2.1 = 41 ∧ ∀ j, j < k → ¬ feaX W H st sl (lndX W H f j)) ∨ ∃ j, j < k ∧ s.1 = lndX W H f j ∧ s.2.1 = nI (cstX W H st (lndX W H f j)) ∧ feaX W H st sl (lndX W H f j) ∧ (∀ i, i < k → feaX W H st sl (lndX W H f i) → cstX W H st (lndX W H f j) ≤ cstX W H st (lndX W H f i)) ∧ ∀ i, i < j → feaX W H st sl (lndX W H f i) → cstX W H st (lndX W H f j) < cstX W H st (lndX W H f i)))
    (fun r => (r.1 = 0 ∧ ∀ j, j < 2 ^ (innL W H f).length → ¬ feaX W H st sl (lndX W H f j)) ∨ ∃ j, j < 2 ^ (innL W H f).length ∧ r.1 = lndX W H f j ∧ feaX W H st sl (lndX W H f j) ∧ (∀ i, i < 2 ^ (innL W H f).length → feaX W H st sl (lndX W H f i) → cstX W H st (lndX W H f j) ≤ cstX W H st (lndX W H f i)) ∧ ∀ i, i < j → feaX W H st sl (lndX W H f i) → cstX W H st (lndX W H f j) < cstX W H st (lndX W H f i))
    (fun n s hI => by
      refine ⟨(s.1, s.2.1, s.2.2, nI (2 ^ (innL W H f).length)), ?_, ?_⟩
      · show L_X6_cheapestLand_66 zX zG (nI f) p2 p4 _ _ _ (n + 1) s.1 s.2.1 s.2.2 _ = _
        rw [L_X6_cheapestLand_66, if_pos (Int32.le_refl _)]
      · rcases hI.2 with ⟨q1, -, q3⟩ | ⟨j, q0, q1, -, q3, q4, q5⟩
        · exact Or.inl ⟨q1, q3⟩
        · exact Or.inr ⟨j, q0, q1, q3, q4, q5⟩)
    (fun n k s hk hI => by
      obtain ⟨i1, i2⟩ := hI
      right
      obtain ⟨t, t1, t2⟩ := hcr k
      have hck := cstX_le ok st (lndX W H f k)
      have hcount := ES_count ok t2
      have htest : (lg_cmp ((t &&& (p2 ^^^ (-1))) &&& (p4 ^^^ (-1))) 0 = 0) ↔ feaX W H st sl (lndX W H f k) := by
        rw [lg_cmp_0]
        exact ES_zero (ES_andn ok t2 h4)
      have hnx : (s.2.2 - nI (innN W H f)) &&& nI (innN W H f) = nI (sqW (innN W H f) 0 (k + 1)) := by
        rw [i1, sub_wrap _ hm, fa_and, sqW_succ]
        rfl
      have e0 : L_X6_cheapestLand_66 zX zG (nI f) p2 p4 ((1 : Int32) <<< (nI f &&& 31)) (nI (innN W H f)) (nI (2 ^ (innL W H f).length)) (n + 1) s.1 s.2.1 s.2.2 (nI k) = (if lg_cmp ((t &&& (p2 ^^^ (-1))) &&& (p4 ^^^ (-1))) 0 = 0 then (if s.2.1 ≤ nI (cstX W H st (lndX W H f k)) then L_X6_cheapestLand_66 zX zG (nI f) p2 p4 ((1 : Int32) <<< (nI f &&& 31)) (nI (innN W H f)) (nI (2 ^ (innL W H f).length)) n s.1 s.2.1 (nI (sqW (innN W H f) 0 (k + 1))) (nI (k + 1)) else L_X6_cheapestLand_66 zX zG (nI f) p2 p4 ((1 : Int32) <<< (nI f &&& 31)) (nI (innN W H f)) (nI (2 ^ (innL W H f).length)) n (lndX W H f k) (nI (cstX W H st (lndX W H f k))) (nI (sqW (innN W H f) 0 (k + 1))) (nI (k + 1))) else L_X6_cheapestLand_66 zX zG (nI f) p2 p4 ((1 : Int32) <<< (nI f &&& 31)) (nI (innN W H f)) (nI (2 ^ (innL W H f).length)) n s.1 s.2.1 (nI (sqW (innN W H f) 0 (k + 1))) (nI (k + 1))) := by
        rw [L_X6_cheapestLand_66, if_neg (fun q => absurd ((nI_leI (by omega) (by omega)).mp q) (by omega)), show ((1 : Int32) <<< (nI f &&& 31)) ||| s.2.2 = lndX W H f k from by rw [i1]; rfl, t1, bdS, nmq, hcount, bdS, hnx]
        simp only [nmq, nI_1]
        rfl
      by_cases c : feaX W H st sl (lndX W H f k)
      · rw [if_pos (htest.mpr c)] at e0
        rcases i2 with ⟨q1, q2, q3⟩ | ⟨j, q0, q1, q2, q3, q4, q5⟩
        · rw [if_neg (by
            rw [q2]
            exact fun q => absurd ((nI_leI (a := 41) (by omega) (by omega)).mp q) (by omega))] at e0
          refine ⟨(lndX W H f k, nI (cstX W H st (lndX W H f k)), nI (sqW (innN W H f) 0 (k + 1))), ⟨rfl, Or.inr ⟨k, by omega, rfl, rfl, c, fun i hi hfe => ?_, fun i hi hfe => absurd hfe (q3 i hi)⟩⟩, e0⟩
          rcases Nat.lt_or_ge i k with z | z
          · exact absurd hfe (q3 i z)
          · have : i = k := by omega
            rw [this]; exact Nat.le_refl _
        · have hcj := cstX_le ok st (lndX W H f j)
          by_cases d : cstX W H st (lndX W H f j) ≤ cstX W H st (lndX W H f k)
          · rw [if_pos (by rw [q2]; exact (nI_leI (by omega) (by omega)).mpr d)] at e0
            refine ⟨(s.1, s.2.1, nI (sqW (innN W H f) 0 (k + 1))), ⟨rfl, Or.inr ⟨j, by omega, q1, q2, q3, fun i hi hfe => ?_, q5⟩⟩, e0⟩
            rcases Nat.lt_or_ge i k with z | z
            · exact q4 i z hfe
            · have : i = k := by omega
              rw [this]; exact d
          · rw [if_neg (by rw [q2]; exact fun q => d ((nI_leI (by omega) (by omega)).mp q))] at e0
            refine ⟨(lndX W H f k, nI (cstX W H st (lndX W H f k)), nI (sqW (innN W H f) 0 (k + 1))), ⟨rfl, Or.inr ⟨k, by omega, rfl, rfl, c, fun i hi hfe => ?_, fun i hi hfe => ?_⟩⟩, e0⟩
            · rcases Nat.lt_or_ge i k with z | z
              · have := q4 i z hfe; omega
              · have : i = k := by omega
                rw [this]; exact Nat.le_refl _
            · have := q4 i hi hfe; omega
      · rw [if_neg (fun q => c (htest.mp q))] at e0
        refine ⟨(s.1, s.2.1, nI (sqW (innN W H f) 0 (k + 1))), ⟨rfl, ?_⟩, e0⟩
        rcases i2 with ⟨q1, q2, q3⟩ | ⟨j, q0, q1, q2, q3, q4, q5⟩
        · refine Or.inl ⟨q1, q2, fun j hj => ?_⟩
          rcases Nat.lt_or_ge j k with z | z
          · exact q3 j z
          · have : j = k := by omega
            rw [this]; exact c
        · refine Or.inr ⟨j, by omega, q1, q2, q3, fun i hi hfe => ?_, q5⟩
          rcases Nat.lt_or_ge i k with z | z
          · exact q4 i z hfe
          · have : i = k := by omega
            rw [this] at hfe; exact absurd hfe c) 3000 0 (0, 41, 0) (Nat.zero_le _) (by omega) ⟨rfl, Or.inl ⟨rfl, rfl, fun j hj => absurd hj (Nat.not_lt_zero j)⟩⟩
  refine ⟨r.1, ?_, hp⟩
  unfold f_X6_cheapestLand
  rw [nmq, if_pos ((bt_test _ (show f < 32 by omega)).mpr (by rw [hG.2.1.2.1, hrim]; simp)), nmq, hv7, pc_int, hcnt, bdS, shl_c _ (by omega), nmq, nmq, nmq, nmq, nmq]
  rw [show (L_X6_cheapestLand_66 zX zG (nI f) p2 p4 ((1 : Int32) <<< (nI f &&& 31)) (nI (innN W H f)) (nI (2 ^ (innL W H f).length)) 3000 0 41 0 0) = some r from hr]
  rfl
/-! ===== both agree ===== -/
theorem sq_sub (m : Nat) : ∀ k i, (sqW m 0 k).testBit i = true → m.testBit i = true
  | 0, i, h => by
    rw [show sqW m 0 0 = 0 from rfl, Nat.zero_testBit] at h
    cases h
  | k + 1, i, h => by
    rw [sqW_succ] at h
    unfold nxtW at h
    rw [Nat.testBit_and, Bool.and_eq_true] at h
    exact h.2
theorem lnd_bit {W H : Nat} (ok : okB W H = true) {f : Nat} (hf : f < W * H) (k i : Nat) : bt (lndX W H f k) i = (decide (i = f) || (decide (i < 32) && (sqW (innN W H f) 0 k).testBit i)) := by
  have hgn := geo_n ok
  unfold lndX
  rw [b_or, b_pow f (by omega)]
  rcases Nat.lt_or_ge i 32 with h | h
  · rw [bt_nI h, decide_eq_true h, Bool.true_and]
  · rw [b_big h, decide_eq_false (show ¬ i < 32 by omega), Bool.false_and]
theorem lnd_ok {W H : Nat} (ok : okB W H = true) {f : Nat} (hf : f < W * H) (hrim : rimB W H f = false) (k : Nat) : bt (lndX W H f k) f = true ∧ ∀ v, v < W * H → (bt (lndX W H f k) v && rimB W H v) = false := by
  have hgn := geo_n ok
  obtain ⟨g1, g2, g3, g4, g5⟩ := geo_sub ok hf hrim
  refine ⟨by rw [lnd_bit ok hf]; simp, fun v hv => ?_⟩
  rw [lnd_bit ok hf]
  by_cases c : v = f
  · rw [c, hrim, Bool.and_false]
  · cases d : (sqW (innN W H f) 0 k).testBit v
    · simp [c]
    · have := sq_sub _ k v d
      rw [g5 v (by omega)] at this
      unfold innB at this
      rw [Bool.and_eq_true, Bool.and_eq_true, Bool.not_eq_true'] at this
      rw [this.2.1, Bool.and_false]
theorem lnd_all {W H : Nat} (ok : okB W H = true) {f : Nat} (hf : f < W * H) (hrim : rimB W H f = false) {R : Int32} (h1 : bt R f = true) (h2 : ∀ i, bt R i = true → i < W * H) (h3 : ∀ v, v < W * H → (bt R v && rimB W H v) = false) :
    ∃ k, k < 2 ^ (innL W H f).length ∧ R = lndX W H f k ∧ ∀ i, (sqW (innN W H f) 0 k).testBit i = true → bt R i = true ∧ ¬ i = f := by
  have hgn := geo_n ok
  obtain ⟨g1, g2, g3, g4, g5⟩ := geo_sub ok hf hrim
  obtain ⟨n, hn, rfl⟩ := nI_of_bv R
  have hbit : ∀ i, i < 32 → bt (nI n) i = n.testBit i := fun i hi => bt_nI hi
  have hx : ∀ i, (n ^^^ 2 ^ f).testBit i = true → i < 32 ∧ bt (nI n) i = true ∧ ¬ i = f := fun i hi => by
    rw [fb_bit_flip] at hi
    have hnf : n.testBit f = true := by rw [← hbit f (by omega)]; exact h1
    by_cases z : i = f
    · rw [z, hnf] at hi; simp at hi
    · rw [decide_eq_false z, Bool.xor_false] at hi
      have hi32 : i < 32 := by
        rcases Nat.lt_or_ge i 32 with q | q
        · exact q
        · rw [Nat.testBit_lt_two_pow (Nat.lt_of_lt_of_le hn (Nat.pow_le_pow_right (by omega) q))] at hi
          cases hi
      exact ⟨hi32, by rw [hbit i hi32]; exact hi, z⟩
  have hmem : (n ^^^ 2 ^ f) ∈ subsL (innL W H f) := mem_subs (fun i hi => by
    obtain ⟨a1, a2, a3⟩ := hx i hi
    have hiw := h2 i a2
    have hri := h3 i hiw
    rw [a2, Bool.true_and] at hri
    unfold innL
    rw [List.mem_filter, List.mem_reverse, List.mem_range]
    exact ⟨by omega, by unfold innB; rw [decide_eq_true hiw, hri, decide_eq_false a3]; rfl⟩)
  rw [← g1] at hmem
  obtain ⟨k, k1, k2⟩ := itL_mem hmem
  refine ⟨k, k1, b_ext (fun i hi => ?_), fun i hi => by rw [k2] at hi; exact (hx i hi).2⟩
  rw [lnd_bit ok hf, k2, decide_eq_true hi, Bool.true_and, fb_bit_flip, hbit i hi]
  by_cases z : i = f
  · rw [z, ← hbit f (by omega), h1]; simp
  · simp [z]
theorem sm_ct (p : Nat → Bool) : ∀ n, fb_sm (fun e => if p e then 1 else 0) n = fb_ct p n
  | 0 => rfl
  | n + 1 => by rw [fb_sm_succ, fb_ct_succ, sm_ct p n]
theorem cap_fea {W H : Nat} {st sl : Nat → Bool} {x : Int32} (h : feaX W H st sl x) : capS W H (fun e => if st e then 0 else (if sl e then 1 else 1000)) (bt x) = cstX W H st x := by
  unfold capS cstX
  rw [← sm_ct]
  refine fb_sm_cong (fun e he => ?_)
  have hf := h e he
  unfold crossB at hf ⊢
  cases hc : (bt x (eLo W H e) ^^ bt x (eHi W H e))
  · rfl
  · rw [hc] at hf
    cases hst : st e
    · cases hsl : sl e
      · rw [hst, hsl] at hf; cases hf
      · simp [hst, hsl]
    · simp [hst]
theorem cap_inf {W H : Nat} {st sl : Nat → Bool} {x : Int32} (h : ¬ feaX W H st sl x) : 1000 ≤ capS W H (fun e => if st e then 0 else (if sl e then 1 else 1000)) (bt x) := by
  obtain ⟨e, he, hc⟩ : ∃ e, e < eN W H ∧ ((crossB W H x e && !(st e)) && !(sl e)) = true := by
    refine Classical.byContradiction fun q => h (fun e he => ?_)
    cases c : ((crossB W H x e && !(st e)) && !(sl e))
    · rfl
    · exact absurd ⟨e, he, c⟩ q
  rw [Bool.and_eq_true, Bool.and_eq_true, Bool.not_eq_true', Bool.not_eq_true'] at hc
  have := fb_sm_part (fun e => if (bt x (eLo W H e) ^^ bt x (eHi W H e)) then (if st e then 0 else (if sl e then 1 else 1000)) else 0) he
  have hv : (if (bt x (eLo W H e) ^^ bt x (eHi W H e)) then (if st e then 0 else (if sl e then 1 else 1000)) else 0) = 1000 := by
    have h1 : (bt x (eLo W H e) ^^ bt x (eHi W H e)) = true := hc.1.1
    rw [h1, hc.1.2, hc.2]; rfl
  show 1000 ≤ fb_sm (fun e => if (bt x (eLo W H e) ^^ bt x (eHi W H e)) then (if st e then 0 else (if sl e then 1 else 1000)) else 0) (eN W H)
  omega
theorem slips_agree {W H : Nat} (ok : okB W H = true) {f : Nat} (hf : f < W * H) (hrim : rimB W H f = false) {st sl : Nat → Bool} {b : Int32}
    (hb : (b = 0 ∧ ∀ j, j < 2 ^ (innL W H f).length → ¬ feaX W H st sl (lndX W H f j)) ∨ ∃ j, j < 2 ^ (innL W H f).length ∧ b = lndX W H f j ∧ feaX W H st sl (lndX W H f j) ∧ (∀ i, i < 2 ^ (innL W H f).length → feaX W H st sl (lndX W H f i) → cstX W H st (lndX W H f j) ≤ cstX W H st (lndX W H f i)) ∧ ∀ i, i < j → feaX W H st sl (lndX W H f i) → cstX W H st (lndX W H f j) < cstX W H st (lndX W H f i)) :
    ((∀ S : Nat → Bool, S f = true → (∀ v, v < W * H → (S v && rimB W H v) = false) → 41 ≤ capS W H (fun e => if st e then 0 else (if sl e then 1 else 1000)) S) → b = 0) ∧ ∀ n R, n ≤ 40 → isCut W H (fun e => if st e then 0 else (if sl e then 1 else 1000)) f n R → b = R ∧ feaX W H st sl R ∧ cstX W H st R = n := by
  have hgn := geo_n ok
  obtain ⟨g1, g2, g3, g4, g5⟩ := geo_sub ok hf hrim
  constructor
  · intro h
    rcases hb with ⟨q, -⟩ | ⟨j, j1, j2, j3, -, -⟩
    · exact q
    · have hl := lnd_ok ok hf hrim j
      have h1 := h (bt (lndX W H f j)) hl.1 hl.2
      rw [cap_fea j3] at h1
      have := cstX_le ok st (lndX W H f j)
      omega
  · intro n R hn hR
    obtain ⟨r1, r2, r3, r4, r5⟩ := hR
    have hfe : feaX W H st sl R := Classical.byContradiction fun q => by
      have := cap_inf q
      omega
    have hcR : cstX W H st R = n := by rw [← cap_fea hfe]; exact r4
    refine ⟨?_, hfe, hcR⟩
    obtain ⟨k, k1, k2, k3⟩ := lnd_all ok hf hrim r1 r2 r3
    have hfk : feaX W H st sl (lndX W H f k) := by rw [← k2]; exact hfe
    rcases hb with ⟨-, q⟩ | ⟨j, j1, j2, j3, j4, j5⟩
    · exact absurd hfk (q k k1)
    · have a1 := j4 k k1 hfk
      rw [← k2, hcR] at a1
      have hl := lnd_ok ok hf hrim j
      obtain ⟨a2, a3⟩ := r5 (bt (lndX W H f j)) hl.1 hl.2
      rw [cap_fea j3] at a2 a3
      have a4 := a3 (by omega)
      have hle : sqW (innN W H f) 0 k ≤ sqW (innN W H f) 0 j := by
        have e : sqW (innN W H f) 0 k &&& sqW (innN W H f) 0 j = sqW (innN W H f) 0 k := Nat.eq_of_testBit_eq (fun i => by
          rw [Nat.testBit_and]
          cases c : (sqW (innN W H f) 0 k).testBit i
          · rfl
          · obtain ⟨b1, b2⟩ := k3 i c
            have b3 := a4 i b1
            rw [lnd_bit ok hf, decide_eq_false b2, Bool.false_or, Bool.and_eq_true] at b3
            rw [b3.2]; rfl)
        rw [← e]; exact Nat.and_le_right
      have hkj : ¬ j < k := fun q => by
        have := sq_lt (m := innN W H f) (n := 2 ^ (innL W H f).length) (w := 0) (by rw [g1]; exact g2) q k1
        omega
      have hjk : ¬ k < j := fun q => by
        have := j5 k q hfk
        rw [← k2, hcR] at this
        omega
      have : j = k := by omega
      rw [j2, this, ← k2]

/-! ===== the ground laid out ===== -/
def cR (W f : Nat) : Nat := fb_ct (fun i => decide (i % W < W - 1)) f
def cB (W H f : Nat) : Nat := (W - 1) * H + fb_ct (fun i => decide (i / W < H - 1)) f
theorem geo_c0 : chkWH (fun W H => decide (cR W (W * H) = (W - 1) * H) && (decide (cB W H (W * H) = eN W H) && (List.range (W * H)).all fun f => (!(decide (f % W < W - 1)) || (decide (cR W f < eN W H) && (decide (eLo W H (cR W f) = f) && (decide (eHi W H (cR W f) = f + 1) && decide (ePl W H (cR W f) = f))))) && (!(decide (f / W < H - 1)) || (decide (cB W H f < eN W H) && (decide (eLo W H (cB W H f) = f) && (decide (eHi W H (cB W H f) = f + W) && decide (ePl W H (cB W H f) = 32 + f))))))) = true := by decide +kernel
theorem geo_c {W H : Nat} (h : okB W H = true) : cR W (W * H) = (W - 1) * H ∧ cB W H (W * H) = eN W H ∧ (∀ f, f < W * H → f % W < W - 1 → cR W f < eN W H ∧ eLo W H (cR W f) = f ∧ eHi W H (cR W f) = f + 1 ∧ ePl W H (cR W f) = f) ∧ ∀ f, f < W * H → f / W < H - 1 → cB W H f < eN W H ∧ eLo W H (cB W H f) = f ∧ eHi W H (cB W H f) = f + W ∧ ePl W H (cB W H f) = 32 + f := by
  have h0 := chk_at geo_c0 h
  rw [Bool.and_eq_true, Bool.and_eq_true, decide_eq_true_eq, decide_eq_true_eq] at h0
  refine ⟨h0.1, h0.2.1, fun f hf hx => ?_, fun f hf hx => ?_⟩
  · have := all_at h0.2.2 hf
    rw [Bool.and_eq_true, decide_eq_true hx] at this
    have := this.1
    rw [Bool.not_true, Bool.false_or, Bool.and_eq_true, Bool.and_eq_true, Bool.and_eq_true, decide_eq_true_eq, decide_eq_true_eq, decide_eq_true_eq, decide_eq_true_eq] at this
    exact this
  · have := all_at h0.2.2 hf
    rw [Bool.and_eq_true, decide_eq_true hx] at this
    have := this.2
    rw [Bool.not_true, Bool.false_or, Bool.and_eq_true, Bool.and_eq_true, Bool.and_eq_true, decide_eq_true_eq, decide_eq_true_eq, decide_eq_true_eq, decide_eq_true_eq] at this
    exact this
def bsG (W H : Nat) (z : GS) : Prop := z.1 0 = nI W ∧ z.1 1 = nI H ∧ z.1 2 = nI (W * H) ∧ z.2.1 = 0
def bitG (W H k4 k : Nat) (z : GS) : Prop := (∀ i, bt (z.1 4) i = decide (i < k4)) ∧ (∀ i, bt (z.1 5) i = (decide (i < k) && rimB W H i)) ∧ (∀ i, bt (z.1 6) i = (decide (i < k) && decide (i % W < W - 1))) ∧ (∀ i, bt (z.1 7) i = (decide (i < k) && decide (i / W < H - 1)))
def soG (S k : Nat) (z : GS) : Prop := ∀ f, f < k → z.2.2.1 9 f = nI S
def edG (W H c : Nat) (z : GS) : Prop := z.1 3 = nI c ∧ ∀ e, e < c → z.2.2.1 10 e = nI (eLo W H e) ∧ z.2.2.1 11 e = nI (eHi W H e) ∧ z.2.2.2 e = lshl 1 (nI (ePl W H e))
theorem lay_A {W H S : Nat} {z0 : GS} (ok : okB W H = true) (h1 : bsG W H z0) (h2 : bitG W H 0 0 z0) (h3 : edG W H 0 z0) :
    ∃ v z, L_X0_layOut_24 (nI W) (nI H) (nI S) 3000 0 z0 = some (v, z) ∧ bsG W H z ∧ bitG W H (W * H) 0 z ∧ edG W H 0 z ∧ soG S (W * H) z := by
  have hgn := geo_n ok
  obtain ⟨q, hq, p⟩ := up_loop (σ := GS) (fun n i s => L_X0_layOut_24 (nI W) (nI H) (nI S) n i s) (W * H) (fun k z => bsG W H z ∧ bitG W H k 0 z ∧ edG W H 0 z ∧ soG S k z) (fun q => bsG W H q.2 ∧ bitG W H (W * H) 0 q.2 ∧ edG W H 0 q.2 ∧ soG S (W * H) q.2)
    (fun n s hI => ⟨(nI (W * H), s), by
      show L_X0_layOut_24 (nI W) (nI H) (nI S) (n + 1) (nI (W * H)) s = _
      rw [L_X0_layOut_24, hI.1.2.2.1, if_pos (Int32.le_refl _)], hI⟩)
    (fun n k s hk hI => by
      obtain ⟨i1, i2, i3, i4⟩ := hI
      right
      have hb := b_grow (s := s.1 4) (p := fun _ => true) (i := k) (by omega) (fun j => by rw [i2.1, Bool.and_true])
      refine ⟨(upd s.1 4 (s.1 4 ||| ((1 : Int32) <<< (nI k &&& 31))), s.2.1, va_up s.2.2.1 9 (upd (s.2.2.1 9) k (nI S)), s.2.2.2), ⟨i1, ⟨fun i => ?_, i2.2.1, i2.2.2.1, i2.2.2.2⟩, ⟨i3.1, fun e he => absurd he (Nat.not_lt_zero e)⟩, fun f hf => ?_⟩, ?_⟩
      · show bt (s.1 4 ||| ((1 : Int32) <<< (nI k &&& 31))) i = _
        have := hb i
        rw [if_pos rfl, Bool.and_true] at this
        exact this
      · show upd (s.2.2.1 9) k (nI S) f = nI S
        by_cases z : f = k
        · rw [z, ud_eq]
        · rw [ud_ne _ _ z]; exact i4 f (by omega)
      · show L_X0_layOut_24 (nI W) (nI H) (nI S) (n + 1) (nI k) s = L_X0_layOut_24 (nI W) (nI H) (nI S) n (nI (k + 1)) _
        rw [L_X0_layOut_24, i1.2.2.1, if_neg (fun q => absurd ((nI_leI (by omega) (by omega)).mp q) (by omega)), if_neg (show ¬ (25 : Int32) ≤ nI k from fun q => absurd ((nI_leI (a := 25) (by omega) (by omega)).mp q) (by omega)), ast_s _ (show k < 25 by omega) (by omega), nI_clamp (by omega)]
        simp only [nmq, nI_1]) 3000 0 z0 (by omega) (by omega) ⟨h1, h2, h3, fun f hf => absurd hf (Nat.not_lt_zero f)⟩
  exact ⟨q.1, q.2, hq, p⟩
theorem lay_field {W H S x y : Nat} {z : GS} (ok : okB W H = true) (hx : x < W) (hy : y < H) (h1 : bsG W H z) (h2 : bitG W H (W * H) (y * W + x) z) (h3 : edG W H 0 z) (h4 : soG S (W * H) z) :
    ∃ z2, f_X0_layField z (nI x) (nI y) = some z2 ∧ bsG W H z2 ∧ bitG W H (W * H) (y * W + x + 1) z2 ∧ edG W H 0 z2 ∧ soG S (W * H) z2 := by
  have hgn := geo_n ok
  have hlt := okB_lt ok
  have hk : y * W + x < W * H := by
    have h1 : (y + 1) * W ≤ H * W := Nat.mul_le_mul_right W hy
    rw [Nat.add_mul, Nat.one_mul, Nat.mul_comm H W] at h1
    omega
  have hmod : (y * W + x) % W = x := by rw [Nat.mul_comm, Nat.mul_add_mod, Nat.mod_eq_of_lt hx]
  have hdiv : (y * W + x) / W = y := by rw [Nat.mul_comm, Nat.mul_add_div (by omega), Nat.div_eq_of_lt hx, Nat.add_zero]
  generalize hkk : y * W + x = k at hk hmod hdiv h2
  have hbit : nI y * z.1 0 + nI x = nI k := by rw [h1.1, pk_mul, nI_add, hkk]
  have hw1 : z.1 0 - 1 = nI (W - 1) := by rw [h1.1]; exact pk_sub (b := 1) (by omega)
  have hh1 : z.1 1 - 1 = nI (H - 1) := by rw [h1.2.1]; exact pk_sub (b := 1) (by omega)
  have e1 : (if nI x = 0 then (nm ((z.1 5) ||| ((1 : Int32) <<< (nI k &&& 31))) fun f5_5 => nm ((upd z.1 5 f5_5, z.2) : GS) fun zG_6 => some (zG_6 : GS)) else (if nI y = 0 then (nm ((z.1 5) ||| ((1 : Int32) <<< (nI k &&& 31))) fun f5_8 => nm ((upd z.1 5 f5_8, z.2) : GS) fun zG_9 => some (zG_9 : GS)) else (if nI x = nI (W - 1) then (nm ((z.1 5) ||| ((1 : Int32) <<< (nI k &&& 31))) fun f5_11 => nm ((upd z.1 5 f5_11, z.2) : GS) fun zG_12 => some (zG_12 : GS)) else (if nI y = nI (H - 1) then (nm ((z.1 5) ||| ((1 : Int32) <<< (nI k &&& 31))) fun f5_14 => nm ((upd z.1 5 f5_14, z.2) : GS) fun zG_15 => some (zG_15 : GS)) else (some (z : GS)))))) = some ((upd z.1 5 (if rimB W H k then (z.1 5) ||| ((1 : Int32) <<< (nI k &&& 31)) else z.1 5), z.2) : GS) := by
    unfold rimB
    rw [hmod, hdiv]
    by_cases c1 : x = 0
    · rw [if_pos (by rw [c1]; rfl), decide_eq_true c1]; rfl
    · rw [if_neg (show ¬ nI x = 0 from fun q => c1 ((nI_eq (b := 0) (by omega) (by omega)).mp q)), decide_eq_false c1]
      by_cases c2 : y = 0
      · rw [if_pos (by rw [c2]; rfl), decide_eq_true c2]; rfl
      · rw [if_neg (show ¬ nI y = 0 from fun q => c2 ((nI_eq (b := 0) (by omega) (by omega)).mp q)), decide_eq_false c2]
        by_cases c3 : x = W - 1
        · rw [if_pos (by rw [c3]), decide_eq_true c3]; rfl
        · rw [if_neg (fun q => c3 ((nI_eq (by omega) (by omega)).mp q)), decide_eq_false c3]
          by_cases c4 : y = H - 1
          · rw [if_pos (by rw [c4]), decide_eq_true c4]; rfl
          · rw [if_neg (fun q => c4 ((nI_eq (by omega) (by omega)).mp q)), decide_eq_false c4]
            rw [if_neg (by decide), ud_self rfl]
  have b5 := b_grow (p := rimB W H) (show k < 32 by omega) h2.2.1
  have b6 := b_grow (p := fun i => decide (i % W < W - 1)) (show k < 32 by omega) h2.2.2.1
  have b7 := b_grow (p := fun i => decide (i / W < H - 1)) (show k < 32 by omega) h2.2.2.2
  simp only [hmod, hdiv] at b6 b7
  generalize (if rimB W H k then (z.1 5) ||| ((1 : Int32) <<< (nI k &&& 31)) else z.1 5) = v5 at e1 b5
  have e2 : (if nI (W - 1) ≤ nI x then (some ((upd z.1 5 v5, z.2) : GS)) else (nm ((z.1 6) ||| ((1 : Int32) <<< (nI k &&& 31))) fun f6_20 => nm ((upd (upd z.1 5 v5) 6 f6_20, z.2) : GS) fun zG_21 => some (zG_21 : GS))) = some ((upd (upd z.1 5 v5) 6 (if decide (x < W - 1) then (z.1 6) ||| ((1 : Int32) <<< (nI k &&& 31)) else z.1 6), z.2) : GS) := by
    by_cases c : x < W - 1
    · rw [if_neg (fun q => absurd ((nI_leI (by omega) (by omega)).mp q) (by omega)), decide_eq_true c]; rfl
    · rw [if_pos ((nI_leI (by omega) (by omega)).mpr (by omega)), decide_eq_false c]
      show some ((upd z.1 5 v5, z.2) : GS) = some ((upd (upd z.1 5 v5) 6 (z.1 6), z.2) : GS)
      rw [ud_self (f := upd z.1 5 v5) (k := 6) (v := z.1 6) rfl]
  generalize (if decide (x < W - 1) then (z.1 6) ||| ((1 : Int32) <<< (nI k &&& 31)) else z.1 6) = v6 at e2 b6
  have e3 : (if nI (H - 1) ≤ nI y then (some ((upd (upd z.1 5 v5) 6 v6, z.2) : GS)) else (nm ((z.1 7) ||| ((1 : Int32) <<< (nI k &&& 31))) fun f7_24 => nm ((upd (upd (upd z.1 5 v5) 6 v6) 7 f7_24, z.2) : GS) fun zG_25 => some zG_25)) = some ((upd (upd (upd z.1 5 v5) 6 v6) 7 (if decide (y < H - 1) then (z.1 7) ||| ((1 : Int32) <<< (nI k &&& 31)) else z.1 7), z.2) : GS) := by
    by_cases c : y < H - 1
    · rw [if_neg (fun q => absurd ((nI_leI (by omega) (by omega)).mp q) (by omega)), decide_eq_true c]; rfl
    · rw [if_pos ((nI_leI (by omega) (by omega)).mpr (by omega)), decide_eq_false c]
      show some ((upd (upd z.1 5 v5) 6 v6, z.2) : GS) = some ((upd (upd (upd z.1 5 v5) 6 v6) 7 (z.1 7), z.2) : GS)
      rw [ud_self (f := upd (upd z.1 5 v5) 6 v6) (k := 7) (v := z.1 7) rfl]
  generalize (if decide (y < H - 1) then (z.1 7) ||| ((1 : Int32) <<< (nI k &&& 31)) else z.1 7) = v7 at e3 b7
  rw [← hw1] at e2
  rw [← hh1] at e3
  refine ⟨(upd (upd (upd z.1 5 v5) 6 v6) 7 v7, z.2), ?_, h1, ⟨h2.1, b5, b6, b7⟩, h3, h4⟩
  unfold f_X0_layField
  rw [hbit, nmq, hw1, hh1, e1, bdS]
  exact (congrArg (fun o => Option.bind o _) e2).trans ((bdS _ _).trans e3)
theorem add_edge {z : GS} {c : Nat} (hc : c < 40) (h3 : z.1 3 = nI c) (a b : Int32) (pl : Int64) :
    f_X0_addEdge z a b pl = some (upd z.1 3 (nI (c + 1)), z.2.1, va_up (va_up z.2.2.1 10 (upd (z.2.2.1 10) c a)) 11 (upd (z.2.2.1 11) c b), vp_updL z.2.2.2 c pl) := by
  unfold f_X0_addEdge
  simp only [nmq, h3]
  rw [if_neg (show ¬ (40 : Int32) ≤ nI c from fun q => absurd ((nI_leI (a := 40) (by omega) (by omega)).mp q) (by omega)), ast_s _ hc (by omega), ast_s _ hc (by omega), ast_s _ hc (by omega), nI_clamp (by omega), nI_1]
  rfl
theorem ed_add {W H c a b : Nat} {z : GS} {pl : Int64} (h : edG W H c z) (ha : eLo W H c = a) (hb : eHi W H c = b) (hp : lshl 1 (nI (ePl W H c)) = pl) : edG W H (c + 1) (upd z.1 3 (nI (c + 1)), z.2.1, va_up (va_up z.2.2.1 10 (upd (z.2.2.1 10) c (nI a))) 11 (upd (z.2.2.1 11) c (nI b)), vp_updL z.2.2.2 c pl) := by
  refine ⟨rfl, fun e he => ?_⟩
  show upd (z.2.2.1 10) c (nI a) e = nI (eLo W H e) ∧ upd (z.2.2.1 11) c (nI b) e = nI (eHi W H e) ∧ vp_updL z.2.2.2 c pl e = _
  by_cases q : e = c
  · rw [q, ud_eq, ud_eq, pk_uLs, ha, hb, hp]; exact ⟨rfl, rfl, rfl⟩
  · rw [ud_ne _ _ q, ud_ne _ _ q, pk_uLn q]; exact h.2 e (by omega)
theorem lay_C {W H S : Nat} {z0 : GS} (ok : okB W H = true) (h1 : bsG W H z0) (h2 : bitG W H (W * H) (W * H) z0) (h3 : edG W H 0 z0) (h4 : soG S (W * H) z0) :
    ∃ v z, L_X0_layOut_108 (nI W) (nI H) (nI S) 3000 0 z0 = some (v, z) ∧ bsG W H z ∧ bitG W H (W * H) (W * H) z ∧ edG W H ((W - 1) * H) z ∧ soG S (W * H) z := by
  have hgn := geo_n ok
  obtain ⟨g1, g2, g3, g4⟩ := geo_c ok
  obtain ⟨q, hq, p⟩ := up_loop (σ := GS) (fun n i s => L_X0_layOut_108 (nI W) (nI H) (nI S) n i s) (W * H) (fun k z => bsG W H z ∧ bitG W H (W * H) (W * H) z ∧ edG W H (cR W k) z ∧ soG S (W * H) z) (fun q => bsG W H q.2 ∧ bitG W H (W * H) (W * H) q.2 ∧ edG W H ((W - 1) * H) q.2 ∧ soG S (W * H) q.2)
    (fun n s hI => ⟨(nI (W * H), s), by
      show L_X0_layOut_108 (nI W) (nI H) (nI S) (n + 1) (nI (W * H)) s = _
      rw [L_X0_layOut_108, hI.1.2.2.1, if_pos (Int32.le_refl _)], by rw [← g1]; exact hI⟩)
    (fun n k s hk hI => by
      obtain ⟨i1, i2, i3, i4⟩ := hI
      right
      have hbt : bt (s.1 6) k = decide (k % W < W - 1) := by rw [i2.2.2.1, decide_eq_true hk, Bool.true_and]
      have hsu : cR W (k + 1) = cR W k + (if decide (k % W < W - 1) then 1 else 0) := fb_ct_succ _ k
      by_cases c : k % W < W - 1
      · obtain ⟨c1, c2, c3, c4⟩ := g3 k hk c
        rw [decide_eq_true c, if_pos rfl] at hsu
        refine ⟨(upd s.1 3 (nI (cR W k + 1)), s.2.1, va_up (va_up s.2.2.1 10 (upd (s.2.2.1 10) (cR W k) (nI k))) 11 (upd (s.2.2.1 11) (cR W k) (nI (k + 1))), vp_updL s.2.2.2 (cR W k) (lshl 1 (nI k))), ⟨i1, i2, ?_, i4⟩, ?_⟩
        rotate_left
        · show L_X0_layOut_108 (nI W) (nI H) (nI S) (n + 1) (nI k) s = L_X0_layOut_108 (nI W) (nI H) (nI S) n (nI (k + 1)) _
          rw [L_X0_layOut_108, i1.2.2.1, if_neg (fun q => absurd ((nI_leI (by omega) (by omega)).mp q) (by omega)), if_neg (fun q => by rw [bt_test _ (show k < 32 by omega), hbt, decide_eq_true c] at q; cases q), nI_1, add_edge (show cR W k < 40 by omega) i3.1, bdS]
          simp only [nmq, nI_1]
        · rw [hsu]
          exact ed_add i3 c2 c3 (by rw [c4])
      · rw [decide_eq_false c, if_neg (by decide), Nat.add_zero] at hsu
        refine ⟨s, ⟨i1, i2, by rw [hsu]; exact i3, i4⟩, ?_⟩
        show L_X0_layOut_108 (nI W) (nI H) (nI S) (n + 1) (nI k) s = L_X0_layOut_108 (nI W) (nI H) (nI S) n (nI (k + 1)) _
        rw [L_X0_layOut_108, i1.2.2.1, if_neg (fun q => absurd ((nI_leI (by omega) (by omega)).mp q) (by omega)), if_pos ((bt_test _ (show k < 32 by omega)).mpr (by rw [hbt, decide_eq_false c]))]
        simp only [nmq, nI_1]) 3000 0 z0 (by omega) (by omega) ⟨h1, h2, h3, h4⟩
  exact ⟨q.1, q.2, hq, p⟩
theorem lay_D {W H S : Nat} {z0 : GS} (ok : okB W H = true) (h1 : bsG W H z0) (h2 : bitG W H (W * H) (W * H) z0) (h3 : edG W H ((W - 1) * H) z0) (h4 : soG S (W * H) z0) :
    ∃ v z, L_X0_layOut_152 (nI W) (nI H) (nI S) 3000 0 z0 = some (v, z) ∧ bsG W H z ∧ bitG W H (W * H) (W * H) z ∧ edG W H (eN W H) z ∧ soG S (W * H) z := by
  have hgn := geo_n ok
  obtain ⟨g1, g2, g3, g4⟩ := geo_c ok
  obtain ⟨q, hq, p⟩ := up_loop (σ := GS) (fun n i s => L_X0_layOut_152 (nI W) (nI H) (nI S) n i s) (W * H) (fun k z => bsG W H z ∧ bitG W H (W * H) (W * H) z ∧ edG W H (cB W H k) z ∧ soG S (W * H) z) (fun q => bsG W H q.2 ∧ bitG W H (W * H) (W * H) q.2 ∧ edG W H (eN W H) q.2 ∧ soG S (W * H) q.2)
    (fun n s hI => ⟨(nI (W * H), s), by
      show L_X0_layOut_152 (nI W) (nI H) (nI S) (n + 1) (nI (W * H)) s = _
      rw [L_X0_layOut_152, hI.1.2.2.1, if_pos (Int32.le_refl _)], by rw [← g2]; exact hI⟩)
    (fun n k s hk hI => by
      obtain ⟨i1, i2, i3, i4⟩ := hI
      right
      have hbt : bt (s.1 7) k = decide (k / W < H - 1) := by rw [i2.2.2.2, decide_eq_true hk, Bool.true_and]
      have hsu : cB W H (k + 1) = cB W H k + (if decide (k / W < H - 1) then 1 else 0) := by
        unfold cB
        rw [fb_ct_succ, Nat.add_assoc]
      by_cases c : k / W < H - 1
      · obtain ⟨c1, c2, c3, c4⟩ := g4 k hk c
        rw [decide_eq_true c, if_pos rfl] at hsu
        refine ⟨(upd s.1 3 (nI (cB W H k + 1)), s.2.1, va_up (va_up s.2.2.1 10 (upd (s.2.2.1 10) (cB W H k) (nI k))) 11 (upd (s.2.2.1 11) (cB W H k) (nI (k + W))), vp_updL s.2.2.2 (cB W H k) (lshl 1 (nI (32 + k)))), ⟨i1, i2, ?_, i4⟩, ?_⟩
        rotate_left
        · show L_X0_layOut_152 (nI W) (nI H) (nI S) (n + 1) (nI k) s = L_X0_layOut_152 (nI W) (nI H) (nI S) n (nI (k + 1)) _
          rw [L_X0_layOut_152, i1.2.2.1, if_neg (fun q => absurd ((nI_leI (by omega) (by omega)).mp q) (by omega)), if_neg (fun q => by rw [bt_test _ (show k < 32 by omega), hbt, decide_eq_true c] at q; cases q), nI_add, show (32 : Int32) + nI k = nI (32 + k) from nI_add 32 k, add_edge (show cB W H k < 40 by omega) i3.1, bdS]
          simp only [nmq, nI_1]
        · rw [hsu]
          exact ed_add i3 c2 c3 (by rw [c4])
      · rw [decide_eq_false c, if_neg (by decide), Nat.add_zero] at hsu
        refine ⟨s, ⟨i1, i2, by rw [hsu]; exact i3, i4⟩, ?_⟩
        show L_X0_layOut_152 (nI W) (nI H) (nI S) (n + 1) (nI k) s = L_X0_layOut_152 (nI W) (nI H) (nI S) n (nI (k + 1)) _
        rw [L_X0_layOut_152, i1.2.2.1, if_neg (fun q => absurd ((nI_leI (by omega) (by omega)).mp q) (by omega)), if_pos ((bt_test _ (show k < 32 by omega)).mpr (by rw [hbt, decide_eq_false c]))]
        simp only [nmq, nI_1]) 3000 0 z0 (by omega) (by omega) ⟨h1, h2, h3, h4⟩
  exact ⟨q.1, q.2, hq, p⟩
theorem lay_B {W H S : Nat} {z0 : GS} (ok : okB W H = true) (h1 : bsG W H z0) (h2 : bitG W H (W * H) 0 z0) (h3 : edG W H 0 z0) (h4 : soG S (W * H) z0) :
    ∃ v z, L_X0_layOut_70 (nI W) (nI H) (nI S) 3000 0 z0 = some (v, z) ∧ bsG W H z ∧ bitG W H (W * H) (W * H) z ∧ edG W H 0 z ∧ soG S (W * H) z := by
  have hgn := geo_n ok
  have hlt := okB_lt ok
  obtain ⟨q, hq, p⟩ := up_loop (σ := GS) (fun n i s => L_X0_layOut_70 (nI W) (nI H) (nI S) n i s) H (fun y z => bsG W H z ∧ bitG W H (W * H) (y * W) z ∧ edG W H 0 z ∧ soG S (W * H) z) (fun q => bsG W H q.2 ∧ bitG W H (W * H) (W * H) q.2 ∧ edG W H 0 q.2 ∧ soG S (W * H) q.2)
    (fun n s hI => ⟨(nI H, s), by
      show L_X0_layOut_70 (nI W) (nI H) (nI S) (n + 1) (nI H) s = _
      rw [L_X0_layOut_70, if_pos (Int32.le_refl _)], by rw [Nat.mul_comm H W] at hI; exact hI⟩)
    (fun n y s hy hI => by
      right
      obtain ⟨r, hr, p⟩ := up_loop (σ := GS) (fun n i s => L_X0_layOut_79 (nI W) (nI H) (nI S) (nI y) n i s) W (fun x z => bsG W H z ∧ bitG W H (W * H) (y * W + x) z ∧ edG W H 0 z ∧ soG S (W * H) z) (fun q => bsG W H q.2 ∧ bitG W H (W * H) ((y + 1) * W) q.2 ∧ edG W H 0 q.2 ∧ soG S (W * H) q.2)
        (fun n s hI => ⟨(nI W, s), by
          show L_X0_layOut_79 (nI W) (nI H) (nI S) (nI y) (n + 1) (nI W) s = _
          rw [L_X0_layOut_79, if_pos (Int32.le_refl _)], by rw [Nat.add_mul, Nat.one_mul]; exact hI⟩)
        (fun n x s hx hI => by
          right
          obtain ⟨z2, l1, l2⟩ := lay_field ok hx hy hI.1 hI.2.1 hI.2.2.1 hI.2.2.2
          refine ⟨z2, l2, ?_⟩
          show L_X0_layOut_79 (nI W) (nI H) (nI S) (nI y) (n + 1) (nI x) s = L_X0_layOut_79 (nI W) (nI H) (nI S) (nI y) n (nI (x + 1)) z2
          rw [L_X0_layOut_79, if_neg (fun q => absurd ((nI_leI (by omega) (by omega)).mp q) (by omega)), l1, bdS]
          simp only [nmq, nI_1]) 3000 0 s (by omega) (by omega) hI
      refine ⟨r.2, p, ?_⟩
      show L_X0_layOut_70 (nI W) (nI H) (nI S) (n + 1) (nI y) s = L_X0_layOut_70 (nI W) (nI H) (nI S) n (nI (y + 1)) r.2
      rw [L_X0_layOut_70, if_neg (fun q => absurd ((nI_leI (by omega) (by omega)).mp q) (by omega)), nmq, show (L_X0_layOut_79 (nI W) (nI H) (nI S) (nI y) 3000 0 s) = some r from hr, bdS]
      simp only [nmq, nI_1]) 3000 0 z0 (by omega) (by omega) ⟨h1, by rw [Nat.zero_mul]; exact h2, h3, h4⟩
  exact ⟨q.1, q.2, hq, p⟩
theorem lay_out {W H S : Nat} (zG : GS) (ok : okB W H = true) : ∃ z, f_X0_layOut zG (nI W) (nI H) (nI S) = some z ∧ GC W H (fun _ => S) (fun _ => false) z := by
  have hgn := geo_n ok
  obtain ⟨zc, hz1, h1, h2, h3⟩ : ∃ z, ((f_X0_clear zG).bind fun zG_1 => nm ((upd zG_1.1 0 (nI W), zG_1.2) : GS) fun zG_3 => nm ((upd zG_3.1 1 (nI H), zG_3.2) : GS) fun zG_4 => nm (nI W * nI H) fun f2_5 => some ((upd zG_4.1 2 f2_5, zG_4.2) : GS)) = some z ∧ bsG W H z ∧ bitG W H 0 0 z ∧ edG W H 0 z := by
    refine ⟨_, rfl, ⟨rfl, rfl, ?_, rfl⟩, ⟨fun i => ?_, fun i => ?_, fun i => ?_, fun i => ?_⟩, rfl, fun e he => absurd he (Nat.not_lt_zero e)⟩
    · show nI W * nI H = _
      rw [pk_mul]
    · show bt 0 i = _
      rw [b_0]; simp
    · show bt 0 i = _
      rw [b_0]; simp
    · show bt 0 i = _
      rw [b_0]; simp
    · show bt 0 i = _
      rw [b_0]; simp
  obtain ⟨v1, z1, a1, a2, a3, a4, a5⟩ := lay_A (S := S) ok h1 h2 h3
  obtain ⟨v2, z2, b1, b2, b3, b4, b5⟩ := lay_B ok a2 a3 a4 a5
  obtain ⟨v3, z3, c1, c2, c3, c4, c5⟩ := lay_C ok b2 b3 b4 b5
  obtain ⟨v4, z4, d1, d2, d3, d4, d5⟩ := lay_D ok c2 c3 c4 c5
  refine ⟨z4, ?_, ⟨d2.1, d2.2.1, d2.2.2.1, d4.1⟩, d3, fun e he => by rw [d2.2.2.2, l_0], d5, d4.2⟩
  have e : zc = ((upd (upd (upd (upd (upd (upd (upd (upd (upd (upd (upd zG.1 0 0) 1 0) 2 0) 3 0) 4 0) 5 0) 6 0) 7 0) 0 (nI W)) 1 (nI H)) 2 (nI W * nI H), 0, zG.2.2) : GS) := (Option.some.inj hz1).symm
  subst e
  show ((L_X0_layOut_24 (nI W) (nI H) (nI S) 3000 0 _).bind fun q_88 => (L_X0_layOut_70 (nI W) (nI H) (nI S) 3000 0 q_88.2).bind fun q_87 => (L_X0_layOut_108 (nI W) (nI H) (nI S) 3000 0 q_87.2).bind fun q_86 => (L_X0_layOut_152 (nI W) (nI H) (nI S) 3000 0 q_86.2).bind fun q_85 => some q_85.2) = _
  rw [a1, bdS, b1, bdS, c1, bdS, d1, bdS]

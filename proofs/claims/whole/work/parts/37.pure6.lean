theorem div_at {x a b m : Nat} (h : x = a + m * b) (ha : a < m) : x / m = b := by
  rw [h, Nat.add_mul_div_left _ _ (by omega), Nat.div_eq_of_lt ha, Nat.zero_add]
set_option maxHeartbeats 40000 in
theorem pc8_f2 {q0 q1 q2 C1 C2 C3 c : Nat} (e0 : c = q0 + 256 * C1) (e1 : C1 = q1 + 256 * C2) (e2 : C2 = q2 + 256 * C3) : c + C1 = (q0 + q1 + 256 * (q1 + q2)) + 65536 * (C2 + C3) := by omega
set_option maxHeartbeats 40000 in
theorem pc8_f3 {q0 q1 q2 q3 q4 q5 q6 C1 C2 C3 C4 C5 C6 C7 c : Nat} (e0 : c = q0 + 256 * C1) (e1 : C1 = q1 + 256 * C2) (e2 : C2 = q2 + 256 * C3) (e3 : C3 = q3 + 256 * C4) (e4 : C4 = q4 + 256 * C5) (e5 : C5 = q5 + 256 * C6) (e6 : C6 = q6 + 256 * C7) :
    c + C1 + (C2 + C3) = (q0 + q1 + q2 + q3 + 256 * (q1 + q2 + q3 + q4) + 65536 * (q2 + q3 + q4 + q5) + 16777216 * (q3 + q4 + q5 + q6)) + 4294967296 * (C4 + C5 + C6 + C7) := by omega
set_option maxHeartbeats 40000 in
theorem pc8_f4 {q0 q1 q2 q3 q4 q5 q6 q7 C1 C2 C3 C4 C5 C6 C7 c : Nat} (e0 : c = q0 + 256 * C1) (e1 : C1 = q1 + 256 * C2) (e2 : C2 = q2 + 256 * C3) (e3 : C3 = q3 + 256 * C4) (e4 : C4 = q4 + 256 * C5) (e5 : C5 = q5 + 256 * C6) (e6 : C6 = q6 + 256 * C7) (e7 : C7 = q7) :
    c + C1 + (C2 + C3) + (C4 + C5 + C6 + C7) = (q0 + (q1 + (q2 + (q3 + (q4 + (q5 + (q6 + (q7 + 0)))))))) + 128 * (2 * (C1 + C2 + C3 + C4 + C5 + C6 + C7)) := by omega
set_option maxHeartbeats 40000 in
theorem pc8_b {q0 q1 q2 q3 q4 q5 q6 q7 C1 C2 C3 C4 C5 C6 C7 c : Nat} (h0 : q0 ≤ 8) (h1 : q1 ≤ 8) (h2 : q2 ≤ 8) (h3 : q3 ≤ 8) (h4 : q4 ≤ 8) (h5 : q5 ≤ 8) (h6 : q6 ≤ 8) (h7 : q7 ≤ 8) (e0 : c = q0 + 256 * C1) (e1 : C1 = q1 + 256 * C2) (e2 : C2 = q2 + 256 * C3) (e3 : C3 = q3 + 256 * C4) (e4 : C4 = q4 + 256 * C5) (e5 : C5 = q5 + 256 * C6) (e6 : C6 = q6 + 256 * C7) (e7 : C7 = q7) : c ≤ 578721382704613384 ∧ C1 ≤ 2260630401189896 ∧ C2 ≤ 8830587504648 := by omega
theorem pc8_s {q0 q1 q2 q3 q4 q5 q6 q7 : Nat} (h0 : q0 ≤ 8) (h1 : q1 ≤ 8) (h2 : q2 ≤ 8) (h3 : q3 ≤ 8) (h4 : q4 ≤ 8) (h5 : q5 ≤ 8) (h6 : q6 ≤ 8) (h7 : q7 ≤ 8) : q0 + q1 + 256 * (q1 + q2) < 65536 ∧ q0 + q1 + q2 + q3 + 256 * (q1 + q2 + q3 + q4) + 65536 * (q2 + q3 + q4 + q5) + 16777216 * (q3 + q4 + q5 + q6) < 4294967296 ∧ (q0 + (q1 + (q2 + (q3 + (q4 + (q5 + (q6 + (q7 + 0)))))))) < 128 := by omega
theorem pc8_t {c C1 C2 C3 : Nat} (b : c ≤ 578721382704613384 ∧ C1 ≤ 2260630401189896 ∧ C2 ≤ 8830587504648) (h : C3 ≤ C2) : c < 2 ^ 63 ∧ c + C1 < 2 ^ 64 ∧ c + C1 + (C2 + C3) < 2 ^ 64 := by
  have h63 : (2 : Nat) ^ 63 = 9223372036854775808 := by decide
  have h64 : (2 : Nat) ^ 64 = 18446744073709551616 := by decide
  rw [h63, h64]
  omega
set_option maxHeartbeats 100000 in
theorem pc8_arith {q0 q1 q2 q3 q4 q5 q6 q7 C1 C2 C3 C4 C5 C6 C7 c : Nat} (h0 : q0 ≤ 8) (h1 : q1 ≤ 8) (h2 : q2 ≤ 8) (h3 : q3 ≤ 8) (h4 : q4 ≤ 8) (h5 : q5 ≤ 8) (h6 : q6 ≤ 8) (h7 : q7 ≤ 8)
    (e0 : c = q0 + 256 * C1) (e1 : C1 = q1 + 256 * C2) (e2 : C2 = q2 + 256 * C3) (e3 : C3 = q3 + 256 * C4) (e4 : C4 = q4 + 256 * C5) (e5 : C5 = q5 + 256 * C6) (e6 : C6 = q6 + 256 * C7) (e7 : C7 = q7) :
    c < 2 ^ 63 ∧ c + c / 256 < 2 ^ 64 ∧ c + c / 256 + (c + c / 256) / 65536 < 2 ^ 64 ∧ (c + c / 256 + (c + c / 256) / 65536 + (c + c / 256 + (c + c / 256) / 65536) / 4294967296) % 128 = q0 + (q1 + (q2 + (q3 + (q4 + (q5 + (q6 + (q7 + 0))))))) := by
  have b := pc8_b h0 h1 h2 h3 h4 h5 h6 h7 e0 e1 e2 e3 e4 e5 e6 e7
  have g := pc8_s h0 h1 h2 h3 h4 h5 h6 h7
  have a1 : c / 256 = C1 := div_at e0 (Nat.lt_of_le_of_lt h0 (by decide))
  have a2 : (c + C1) / 65536 = C2 + C3 := div_at (pc8_f2 e0 e1 e2) g.1
  have a3 : (c + C1 + (C2 + C3)) / 4294967296 = C4 + C5 + C6 + C7 := div_at (pc8_f3 e0 e1 e2 e3 e4 e5 e6) g.2.1
  have t := pc8_t b (show C3 ≤ C2 by rw [e2]; omega)
  refine ⟨t.1, by rw [a1]; exact t.2.1, by rw [a1, a2]; exact t.2.2, ?_⟩
  rw [a1, a2, a3, pc8_f4 e0 e1 e2 e3 e4 e5 e6 e7, Nat.add_mul_mod_self_left]
  exact Nat.mod_eq_of_lt g.2.2
theorem p256_8 : (256 : Nat) ^ 8 = 2 ^ 64 := by decide
set_option maxHeartbeats 400000 in
theorem pc_long1 {n : Nat} (hn : n < 2 ^ 64) : ∃ c, c = by8 (fun m => fb_ct m.testBit 8) 8 n ∧ f_J13_bitCount_95d88 (lN n) = (nm (lN c + (lushr (lN c) 8)) fun v0_4 => nm (v0_4 + (lushr v0_4 16)) fun v0_5 => nm (v0_5 + (lushr v0_5 32)) fun v0_6 => some ((Int64.toInt32 v0_6) &&& 127)) := by
  obtain ⟨h1, h2, h3, h4⟩ := pc_steps (k := 8) (x := n) (by rw [p256_8]; exact hn)
  rw [p256_8] at h2 h3
  refine ⟨_, rfl, ?_⟩
  unfold f_J13_bitCount_95d88
  have u1 : lushr (lN n) 1 = lN (n / 2) := lushr_lN (k := 1) hn (by decide)
  rw [nm_s, u1, show (6148914691236517205 : Int64) = lN (rep8 85 8) from rfl, fb_andL, lN_sub h1, ← h4]
  generalize n - (n / 2 &&& rep8 85 8) = a at h2 h3 ⊢
  have u2 : lushr (lN a) 2 = lN (a / 4) := lushr_lN (k := 2) h2 (by decide)
  rw [nm_s, u2, show (3689348814741910323 : Int64) = lN (rep8 51 8) from rfl, fb_andL, fb_andL, lN_add]
  generalize (a &&& rep8 51 8) + (a / 4 &&& rep8 51 8) = b at h3 ⊢
  have u3 : lushr (lN b) 4 = lN (b / 16) := lushr_lN (k := 4) h3 (by decide)
  rw [nm_s, u3, show (1085102592571150095 : Int64) = lN (rep8 15 8) from rfl, lN_add, fb_andL]
set_option maxHeartbeats 400000 in
theorem pc_long (x : Int64) : f_J13_bitCount_95d88 x = some (nI (fb_ct (bl x) 64)) := by
  obtain ⟨n, hn, rfl⟩ := lN_of_bv x
  have hb : fb_ct (bl (lN n)) 64 = sum8 8 n := by rw [← ct_sum8 8 n]; exact fb_ct_cong (fun i hi => bl_lN hi)
  obtain ⟨c, hc, e⟩ := pc_long1 hn
  have es : sum8 8 n = fb_ct (n % 256).testBit 8 + (fb_ct (n / 256 % 256).testBit 8 + (fb_ct (n / 256 / 256 % 256).testBit 8 + (fb_ct (n / 256 / 256 / 256 % 256).testBit 8 + (fb_ct (n / 256 / 256 / 256 / 256 % 256).testBit 8 + (fb_ct (n / 256 / 256 / 256 / 256 / 256 % 256).testBit 8 + (fb_ct (n / 256 / 256 / 256 / 256 / 256 / 256 % 256).testBit 8 + (fb_ct (n / 256 / 256 / 256 / 256 / 256 / 256 / 256 % 256).testBit 8 + 0))))))) := rfl
  have key := pc8_arith (fb_ct_le (n % 256).testBit 8) (fb_ct_le (n / 256 % 256).testBit 8) (fb_ct_le (n / 256 / 256 % 256).testBit 8) (fb_ct_le (n / 256 / 256 / 256 % 256).testBit 8) (fb_ct_le (n / 256 / 256 / 256 / 256 % 256).testBit 8) (fb_ct_le (n / 256 / 256 / 256 / 256 / 256 % 256).testBit 8) (fb_ct_le (n / 256 / 256 / 256 / 256 / 256 / 256 % 256).testBit 8) (fb_ct_le (n / 256 / 256 / 256 / 256 / 256 / 256 / 256 % 256).testBit 8) (c := c) (C1 := by8 (fun m => fb_ct m.testBit 8) 7 (n / 256)) (C2 := by8 (fun m => fb_ct m.testBit 8) 6 (n / 256 / 256)) (C3 := by8 (fun m => fb_ct m.testBit 8) 5 (n / 256 / 256 / 256)) (C4 := by8 (fun m => fb_ct m.testBit 8) 4 (n / 256 / 256 / 256 / 256)) (C5 := by8 (fun m => fb_ct m.testBit 8) 3 (n / 256 / 256 / 256 / 256 / 256)) (C6 := by8 (fun m => fb_ct m.testBit 8) 2 (n / 256 / 256 / 256 / 256 / 256 / 256)) (C7 := by8 (fun m => fb_ct m.testBit 8) 1 (n / 256 / 256 / 256 / 256 / 256 / 256 / 256)) hc rfl rfl rfl rfl rfl rfl (Nat.add_zero _)
  obtain ⟨k1, k2, k3, k4⟩ := key
  rw [e, hb, es, ← k4]
  clear e hb es hc k4
  have k0 : c < 2 ^ 64 := Nat.lt_trans k1 (by decide)
  have u4 : lushr (lN c) 8 = lN (c / 256) := lushr_lN (k := 8) k0 (by decide)
  rw [nm_s, u4, lN_add]
  have u5 : lushr (lN (c + c / 256)) 16 = lN ((c + c / 256) / 65536) := lushr_lN (k := 16) k2 (by decide)
  rw [nm_s, u5, lN_add]
  have u6 : lushr (lN (c + c / 256 + (c + c / 256) / 65536)) 32 = lN ((c + c / 256 + (c + c / 256) / 65536) / 4294967296) := lushr_lN (k := 32) k3 (by decide)
  rw [nm_s, u6, lN_add, lN_i, show (127 : Int32) = nI (2 ^ 7 - 1) from rfl, fa_mask]
theorem bool_nI (b : Bool) : (if b then (1 : Int32) else 0) = nI (if b then 1 else 0) := by cases b <;> rfl
theorem pm_bits (x : Int32) : f_X7_bits x = some (nI (fb_ct (bt x) 25)) := by
  obtain ⟨r, hr, hp⟩ := up_loop (σ := Int32) (fun n i s => L_X7_bits_4 x n s i) 25 (fun i s => s = nI (fb_ct (bt x) i)) (fun r => r.1 = nI (fb_ct (bt x) 25))
    (fun n s hs => ⟨(s, nI 25), by show L_X7_bits_4 x (n + 1) s (nI 25) = _; rw [L_X7_bits_4, if_pos (show (25 : Int32) ≤ nI 25 by decide)], hs⟩)
    (fun n i s hi hs => Or.inr ⟨nI (fb_ct (bt x) (i + 1)), rfl, by
      show L_X7_bits_4 x (n + 1) s (nI i) = L_X7_bits_4 x n (nI (fb_ct (bt x) (i + 1))) (nI (i + 1))
      rw [L_X7_bits_4, if_neg (show ¬ (25 : Int32) ≤ nI i from fun q => absurd ((nI_leI (a := 25) (by omega) (by omega)).mp q) (by omega))]
      simp only [nm_s]
      rw [sshr_bit x (by omega), bool_nI, hs, nI_add, nI_1]
      rfl⟩) 3000 0 0 (by omega) (by omega) rfl
  unfold f_X7_bits
  simp only [nm_s]
  rw [show (L_X7_bits_4 x 3000 0 0) = some r from hr]
  simp only [Option.bind_some]
  rw [hp]
theorem ct_same {x : Int32} {n m : Nat} (h : ∀ i, bt x i = true → i < n) (hnm : n ≤ m) : fb_ct (bt x) m = fb_ct (bt x) n := by
  have e : m = n + (m - n) := by omega
  rw [e, fb_ct_split]
  have z : fb_ct (fun k => bt x (n + k)) (m - n) = 0 := fb_ct_zero.mpr (fun k hk => by
    cases q : bt x (n + k)
    · rfl
    · have := h _ q; omega)
  omega
theorem sim_23 : SM_23 Rel := by
  intro zX zR zRG zRS zG zS zP zQ zN zI zJ zT zM hR
  have hR0 := hR
  obtain ⟨W, H, ok, hG, ⟨hd, ag, ga, ow, yr, hSK, hSC, hSM⟩, hP, hI, ⟨r, b, h1, h2, h3, h4, h5, h6, h7, h8⟩, hT, hf, hs, hs0⟩ := hR
  have hgn := geo_n ok
  have key : ∀ n k : Nat, k ≤ b → b < k + n → ∃ v, L_X6_judge_2 zX zS zN n (nI k) = some v ∧ L_X7_judge_2 zM n (nI k) = some v := by
    intro n
    induction n with
    | zero => intro k q1 q2; omega
    | succ n ih =>
      intro k q1 q2
      rw [L_X6_judge_2, L_X7_judge_2, h5, h6]
      by_cases c : b ≤ k
      · rw [if_pos ((nI_leI (by omega) (by omega)).mpr c), if_pos ((nI_leI (by omega) (by omega)).mpr c)]
        exact ⟨_, rfl, rfl⟩
      · rw [if_neg (fun q => c ((nI_leI (by omega) (by omega)).mp q)), if_neg (fun q => c ((nI_leI (by omega) (by omega)).mp q))]
        obtain ⟨g1, g2, f, hf1, hf2⟩ := h8 k (by omega)
        rw [ald_s _ _ (show k < 15 by omega) (by omega), hf2, pc_ownerOf zS (by omega), hSC.2.2.1]
        simp only [Option.bind_some]
        rw [ald_s _ _ (show k < 15 by omega) (by omega), show (120 : Int32) = nI 120 from rfl, ald_s _ _ (show 120 < 122 by omega) (by omega), ald_s _ _ (show k < 15 by omega) (by omega), ald_s _ _ (show k < 15 by omega) (by omega), ← g1, hf2, hSM.2.1, sshr_bit ow (by omega), ← g2]
        by_cases d : (if bt ow f then (1 : Int32) else 0) = zN.2 5 k
        · rw [if_pos d, if_pos d]
          simp only [nm_s, nI_1]
          exact ih (k + 1) (by omega) (by omega)
        · rw [if_neg d, if_neg d]
          exact ⟨_, rfl, rfl⟩
  obtain ⟨v, e1, e2⟩ := key 3000 0 (by omega) (by omega)
  unfold sp_23 f_X6_judge f_X7_judge
  simp only [nm_s]
  rw [show (L_X6_judge_2 zX zS zN 3000 0) = some v from e1, show (L_X7_judge_2 zM 3000 0) = some v from e2]
  simp only [Option.bind_some, if_true]
  exact ⟨_, rfl, hR0⟩

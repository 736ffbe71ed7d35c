/-! ===== how many bits: Integer.bitCount, Long.bitCount ===== -/
theorem and_256 (x m : Nat) : x &&& m = (x % 256 &&& m % 256) + 256 * (x / 256 &&& m / 256) := by
  have h1 : (x &&& m) % 2 ^ 8 = (x % 2 ^ 8) &&& (m % 2 ^ 8) := Nat.and_mod_two_pow
  have h2 : (x &&& m) / 2 ^ 8 = (x / 2 ^ 8) &&& (m / 2 ^ 8) := Nat.and_div_two_pow
  have h3 := Nat.div_add_mod (x &&& m) 256
  rw [show (256 : Nat) = 2 ^ 8 from rfl] at *
  omega
def rep8 (c : Nat) : Nat → Nat
  | 0 => 0
  | k + 1 => c + 256 * rep8 c k
/-- a byte's own count, by the three steps -/
def pcA (m : Nat) : Nat := m - (m / 2 &&& 85)
def pcB (m : Nat) : Nat := (m &&& 51) + (m / 4 &&& 51)
def pcC (m : Nat) : Nat := (m + m / 16) &&& 15
def by8 (f : Nat → Nat) : Nat → Nat → Nat
  | 0, _ => 0
  | k + 1, x => f (x % 256) + 256 * by8 f k (x / 256)
theorem lt256 {k x : Nat} (h : x < 256 ^ (k + 1)) : x / 256 < 256 ^ k := by
  rw [Nat.pow_succ] at h
  exact Nat.div_lt_of_lt_mul (by omega)
theorem pcA_t : ∀ m, m < 256 → ∀ b, b < 2 → ((m / 2 + 128 * b) % 256 &&& 85) = (m / 2 &&& 85) ∧ (m / 2 &&& 85) ≤ m := by decide +kernel
theorem stepA : ∀ k x, x < 256 ^ k → (x / 2 &&& rep8 85 k) ≤ x ∧ x - (x / 2 &&& rep8 85 k) = by8 pcA k x
  | 0, x, h => by
    have : x = 0 := by simpa using h
    subst this
    exact ⟨Nat.le_refl _, rfl⟩
  | k + 1, x, h => by
    obtain ⟨h1, h2⟩ := stepA k (x / 256) (lt256 h)
    have h3 := pcA_t (x % 256) (Nat.mod_lt _ (by omega)) (x / 256 % 2) (Nat.mod_lt _ (by omega))
    have e1 : x / 2 % 256 = (x % 256 / 2 + 128 * (x / 256 % 2)) % 256 := by omega
    have e2 : x / 2 / 256 = x / 256 / 2 := by omega
    have e3 : (85 + 256 * rep8 85 k) % 256 = 85 := by omega
    have e4 : (85 + 256 * rep8 85 k) / 256 = rep8 85 k := by omega
    show (x / 2 &&& (85 + 256 * rep8 85 k)) ≤ x ∧ x - (x / 2 &&& (85 + 256 * rep8 85 k)) = pcA (x % 256) + 256 * by8 pcA k (x / 256)
    rw [and_256 (x / 2), e3, e4, e1, e2, h3.1, ← h2]
    unfold pcA
    omega
theorem pcB_t : ∀ m, m < 256 → ∀ b, b < 4 → ((m / 4 + 64 * b) % 256 &&& 51) = (m / 4 &&& 51) := by decide +kernel
theorem stepB : ∀ k x, x < 256 ^ k → (x &&& rep8 51 k) + (x / 4 &&& rep8 51 k) = by8 pcB k x
  | 0, x, h => by
    have : x = 0 := by simpa using h
    subst this
    rfl
  | k + 1, x, h => by
    have h2 := stepB k (x / 256) (lt256 h)
    have h3 := pcB_t (x % 256) (Nat.mod_lt _ (by omega)) (x / 256 % 4) (Nat.mod_lt _ (by omega))
    have e1 : x / 4 % 256 = (x % 256 / 4 + 64 * (x / 256 % 4)) % 256 := by omega
    have e2 : x / 4 / 256 = x / 256 / 4 := by omega
    have e3 : (51 + 256 * rep8 51 k) % 256 = 51 := by omega
    have e4 : (51 + 256 * rep8 51 k) / 256 = rep8 51 k := by omega
    show (x &&& (51 + 256 * rep8 51 k)) + (x / 4 &&& (51 + 256 * rep8 51 k)) = pcB (x % 256) + 256 * by8 pcB k (x / 256)
    rw [and_256 x, and_256 (x / 4), e3, e4, e1, e2, h3, ← h2]
    unfold pcB
    omega
theorem by8_lt {f : Nat → Nat} (hf : ∀ m, m < 256 → f m < 256) : ∀ k x, by8 f k x < 256 ^ k
  | 0, _ => by simp [by8]
  | k + 1, x => by
    have h1 := by8_lt hf k (x / 256)
    have h2 := hf (x % 256) (Nat.mod_lt _ (by omega))
    show f (x % 256) + 256 * by8 f k (x / 256) < 256 ^ (k + 1)
    rw [Nat.pow_succ]
    omega
theorem by8_by8 {f g : Nat → Nat} (hf : ∀ m, m < 256 → f m < 256) : ∀ k x, by8 g k (by8 f k x) = by8 (fun m => g (f m)) k x
  | 0, _ => rfl
  | k + 1, x => by
    have h2 := hf (x % 256) (Nat.mod_lt _ (by omega))
    show g ((f (x % 256) + 256 * by8 f k (x / 256)) % 256) + 256 * by8 g k ((f (x % 256) + 256 * by8 f k (x / 256)) / 256) = g (f (x % 256)) + 256 * by8 (fun m => g (f m)) k (x / 256)
    rw [show (f (x % 256) + 256 * by8 f k (x / 256)) % 256 = f (x % 256) by omega, show (f (x % 256) + 256 * by8 f k (x / 256)) / 256 = by8 f k (x / 256) by omega, by8_by8 hf k]
theorem by8_cong {f g : Nat → Nat} (hf : ∀ m, m < 256 → f m = g m) : ∀ k x, by8 f k x = by8 g k x
  | 0, _ => rfl
  | k + 1, x => by
    show f (x % 256) + 256 * by8 f k (x / 256) = g (x % 256) + 256 * by8 g k (x / 256)
    rw [hf _ (Nat.mod_lt _ (by omega)), by8_cong hf k]
theorem pcC_t : ∀ m, m < 256 → m % 16 ≤ 4 → m / 16 ≤ 4 → ∀ b, b < 5 → (m + m / 16 + 16 * b) < 256 ∧ ((m + m / 16 + 16 * b) &&& 15) = pcC m := by decide +kernel
def nib (x : Nat) : Prop := x % 16 ≤ 4 ∧ x / 16 % 16 ≤ 4
theorem stepC : ∀ k x, x < 256 ^ k → (∀ j, j < k → nib (x / 256 ^ j)) → ((x + x / 16) &&& rep8 15 k) = by8 pcC k x ∧ (x % 16 ≤ 4)
  | 0, x, h, _ => by
    have : x = 0 := by simpa using h
    subst this
    exact ⟨rfl, by omega⟩
  | k + 1, x, h, hn => by
    have h0 := hn 0 (by omega)
    rw [Nat.pow_zero, Nat.div_one] at h0
    have h1 := lt256 h
    obtain ⟨h2, h4⟩ := stepC k (x / 256) h1 (fun j hj => by
      have := hn (j + 1) (by omega)
      rw [Nat.pow_succ, Nat.mul_comm, ← Nat.div_div_eq_div_mul] at this
      exact this)
    have h3 := pcC_t (x % 256) (Nat.mod_lt _ (by omega)) (by unfold nib at h0; omega) (by unfold nib at h0; omega) (x / 256 % 16) (by omega)
    have e1 : (x + x / 16) % 256 = x % 256 + x % 256 / 16 + 16 * (x / 256 % 16) := by omega
    have e2 : (x + x / 16) / 256 = x / 256 + x / 256 / 16 := by omega
    have e3 : (15 + 256 * rep8 15 k) % 256 = 15 := by omega
    have e4 : (15 + 256 * rep8 15 k) / 256 = rep8 15 k := by omega
    refine ⟨?_, h0.1⟩
    show ((x + x / 16) &&& (15 + 256 * rep8 15 k)) = pcC (x % 256) + 256 * by8 pcC k (x / 256)
    rw [and_256, e3, e4, e1, e2, h3.2, h2]
theorem nib_by8 {f : Nat → Nat} (hf : ∀ m, m < 256 → f m < 256 ∧ nib (f m)) : ∀ k x j, j < k → nib (by8 f k x / 256 ^ j)
  | 0, _, j, h => by omega
  | k + 1, x, j, h => by
    have h2 := hf (x % 256) (Nat.mod_lt _ (by omega))
    show nib ((f (x % 256) + 256 * by8 f k (x / 256)) / 256 ^ j)
    cases j with
    | zero =>
      rw [Nat.pow_zero, Nat.div_one]
      have := h2.2
      unfold nib at this ⊢
      omega
    | succ j =>
      rw [Nat.pow_succ, Nat.mul_comm (256 ^ j) 256, ← Nat.div_div_eq_div_mul, show (f (x % 256) + 256 * by8 f k (x / 256)) / 256 = by8 f k (x / 256) by omega]
      exact nib_by8 hf k _ j (by omega)
theorem pcAB_t : ∀ m, m < 256 → pcA m < 256 ∧ pcB (pcA m) < 256 ∧ pcB (pcA m) % 16 ≤ 4 ∧ pcB (pcA m) / 16 % 16 ≤ 4 ∧ pcC (pcB (pcA m)) = fb_ct m.testBit 8 := by decide +kernel
theorem pc_steps {k x : Nat} (h : x < 256 ^ k) :
    (x / 2 &&& rep8 85 k) ≤ x ∧
    (let a := x - (x / 2 &&& rep8 85 k)
     let b := (a &&& rep8 51 k) + (a / 4 &&& rep8 51 k)
     a < 256 ^ k ∧ b < 256 ^ k ∧ ((b + b / 16) &&& rep8 15 k) = by8 (fun m => fb_ct m.testBit 8) k x) := by
  obtain ⟨h1, h2⟩ := stepA k x h
  refine ⟨h1, ?_⟩
  have ha : by8 pcA k x < 256 ^ k := by8_lt (fun m hm => (pcAB_t m hm).1) k x
  have hb : by8 pcB k (by8 pcA k x) = by8 (fun m => pcB (pcA m)) k x := by8_by8 (fun m hm => (pcAB_t m hm).1) k x
  have hb2 : by8 (fun m => pcB (pcA m)) k x < 256 ^ k := by8_lt (fun m hm => (pcAB_t m hm).2.1) k x
  show x - (x / 2 &&& rep8 85 k) < 256 ^ k ∧ _
  rw [h2]
  refine ⟨ha, ?_⟩
  show (by8 pcA k x &&& rep8 51 k) + (by8 pcA k x / 4 &&& rep8 51 k) < 256 ^ k ∧ _
  rw [stepB k _ ha, hb]
  refine ⟨hb2, ?_⟩
  show ((by8 (fun m => pcB (pcA m)) k x + by8 (fun m => pcB (pcA m)) k x / 16) &&& rep8 15 k) = _
  rw [(stepC k _ hb2 (nib_by8 (fun m hm => ⟨(pcAB_t m hm).2.1, (pcAB_t m hm).2.2.1, (pcAB_t m hm).2.2.2.1⟩) k x)).1, by8_by8 (fun m hm => (pcAB_t m hm).2.1) k x]
  exact by8_cong (fun m hm => (pcAB_t m hm).2.2.2.2) k x
def sum8 : Nat → Nat → Nat
  | 0, _ => 0
  | k + 1, x => fb_ct (x % 256).testBit 8 + sum8 k (x / 256)
theorem ct_sum8 : ∀ k x, fb_ct x.testBit (8 * k) = sum8 k x
  | 0, _ => rfl
  | k + 1, x => by
    rw [show 8 * (k + 1) = 8 + 8 * k by omega, fb_ct_split]
    show _ = fb_ct (x % 256).testBit 8 + sum8 k (x / 256)
    rw [← ct_sum8 k]
    congr 1
    · exact fb_ct_cong (fun i hi => by rw [show (256 : Nat) = 2 ^ 8 from rfl, Nat.testBit_mod_two_pow]; simp [hi])
    · exact fb_ct_cong (fun i hi => by rw [show (256 : Nat) = 2 ^ 8 from rfl, Nat.testBit_div_two_pow, Nat.add_comm])
theorem nI_of_bv (x : Int32) : ∃ n, n < 2 ^ 32 ∧ x = nI n := ⟨x.toBitVec.toNat, x.toBitVec.isLt, by
  apply Int32.toBitVec_inj.1
  show x.toBitVec = BitVec.ofNat 32 x.toBitVec.toNat
  simp⟩
theorem lN_of_bv (x : Int64) : ∃ n, n < 2 ^ 64 ∧ x = lN n := ⟨x.toBitVec.toNat, x.toBitVec.isLt, by
  apply Int64.toBitVec_inj.1
  show x.toBitVec = BitVec.ofNat 64 x.toBitVec.toNat
  simp⟩
theorem bt_nI {n i : Nat} (hi : i < 32) : bt (nI n) i = n.testBit i := by
  show (BitVec.ofNat 32 n).getLsbD i = _
  rw [BitVec.getLsbD_ofNat]
  simp [hi]
theorem bl_lN {n i : Nat} (hi : i < 64) : bl (lN n) i = n.testBit i := by
  show (BitVec.ofNat 64 n).getLsbD i = _
  rw [BitVec.getLsbD_ofNat]
  simp [hi]
theorem pc_int (x : Int32) : f_J6_bitCount_0f7a4 x = some (nI (fb_ct (bt x) 32)) := by
  obtain ⟨n, hn, rfl⟩ := nI_of_bv x
  obtain ⟨h1, h2, h3, h4⟩ := pc_steps (k := 4) (x := n) (by omega)
  have hb : fb_ct (bt (nI n)) 32 = sum8 4 n := by rw [← ct_sum8 4 n]; exact fb_ct_cong (fun i hi => bt_nI hi)
  unfold f_J6_bitCount_0f7a4
  simp only [nm_s]
  have u1 : iushr (nI n) 1 = nI (n / 2) := pk_ushrN (by omega) 1 1 (by decide)
  rw [u1, show (1431655765 : Int32) = nI (rep8 85 4) from by decide, fa_and, pk_sub h1]
  generalize n - (n / 2 &&& rep8 85 4) = a at h2 h3 h4 ⊢
  have u2 : iushr (nI a) 2 = nI (a / 4) := pk_ushrN (by omega) 2 2 (by decide)
  rw [u2, show (858993459 : Int32) = nI (rep8 51 4) from by decide, fa_and, fa_and, nI_add]
  generalize (a &&& rep8 51 4) + (a / 4 &&& rep8 51 4) = b at h3 h4 ⊢
  have u3 : iushr (nI b) 4 = nI (b / 16) := pk_ushrN (by omega) 4 4 (by decide)
  rw [u3, show (252645135 : Int32) = nI (rep8 15 4) from by decide, nI_add, fa_and, h4]
  have e : by8 (fun m => fb_ct m.testBit 8) 4 n = fb_ct (n % 256).testBit 8 + 256 * (fb_ct (n / 256 % 256).testBit 8 + 256 * (fb_ct (n / 256 / 256 % 256).testBit 8 + 256 * (fb_ct (n / 256 / 256 / 256 % 256).testBit 8 + 256 * 0))) := rfl
  have es : sum8 4 n = fb_ct (n % 256).testBit 8 + (fb_ct (n / 256 % 256).testBit 8 + (fb_ct (n / 256 / 256 % 256).testBit 8 + (fb_ct (n / 256 / 256 / 256 % 256).testBit 8 + 0))) := rfl
  have p0 := fb_ct_le (n % 256).testBit 8
  have p1 := fb_ct_le (n / 256 % 256).testBit 8
  have p2 := fb_ct_le (n / 256 / 256 % 256).testBit 8
  have p3 := fb_ct_le (n / 256 / 256 / 256 % 256).testBit 8
  rw [hb, es, e]
  generalize fb_ct (n % 256).testBit 8 = q0 at *
  generalize fb_ct (n / 256 % 256).testBit 8 = q1 at *
  generalize fb_ct (n / 256 / 256 % 256).testBit 8 = q2 at *
  generalize fb_ct (n / 256 / 256 / 256 % 256).testBit 8 = q3 at *
  generalize hc : q0 + 256 * (q1 + 256 * (q2 + 256 * (q3 + 256 * 0))) = c
  have u4 : iushr (nI c) 8 = nI (c / 256) := pk_ushrN (by omega) 8 8 (by decide)
  rw [u4, nI_add]
  have u5 : iushr (nI (c + c / 256)) 16 = nI ((c + c / 256) / 65536) := pk_ushrN (by omega) 16 16 (by decide)
  rw [u5, nI_add, show (63 : Int32) = nI (2 ^ 6 - 1) from by decide, fa_mask]
  have d1 : c / 256 = q1 + 256 * q2 + 65536 * q3 := by omega
  have d2 : (c + c / 256) / 65536 = q2 + q3 + 256 * q3 := by rw [d1]; omega
  have d3 : c + c / 256 + (c + c / 256) / 65536 = (q0 + q1 + q2 + q3) + 64 * (4 * (q1 + q2 + q3) + 1024 * (q2 + q3) + 262144 * q3) := by rw [d2, d1]; omega
  rw [d3, show (2 : Nat) ^ 6 = 64 from rfl, Nat.add_mul_mod_self_left, Nat.mod_eq_of_lt (by omega)]
  congr 2
  omega
theorem lushr_lN {n : Nat} (hn : n < 2 ^ 64) {k : Nat} (hk : k < 64) : lushr (lN n) (nI k) = lN (n / 2 ^ k) := by
  apply l_ext
  intro i hi
  rw [l_ushr k hk, bl_lN hi, Nat.testBit_div_two_pow]
  rcases Nat.lt_or_ge (k + i) 64 with h | h
  · rw [bl_lN h, Nat.add_comm]
  · rw [l_big h]
    symm
    apply Nat.testBit_lt_two_pow
    exact Nat.lt_of_lt_of_le hn (Nat.pow_le_pow_right (by omega) (by omega))

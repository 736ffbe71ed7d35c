/-! ===== pure rows: Int64 by its bits, and the simple rows of the pure functions ===== -/
def bl (x : Int64) (i : Nat) : Bool := x.toBitVec.getLsbD i
theorem l_ext {x y : Int64} (h : ∀ i, i < 64 → bl x i = bl y i) : x = y := Int64.toBitVec_inj.mp (BitVec.eq_of_getLsbD_eq (fun i hi => h i hi))
theorem l_or (x y : Int64) (i : Nat) : bl (x ||| y) i = (bl x i || bl y i) := by unfold bl; rw [Int64.toBitVec_or, BitVec.getLsbD_or]
theorem l_and (x y : Int64) (i : Nat) : bl (x &&& y) i = (bl x i && bl y i) := by unfold bl; rw [Int64.toBitVec_and, BitVec.getLsbD_and]
theorem l_xor (x y : Int64) (i : Nat) : bl (x ^^^ y) i = (bl x i ^^ bl y i) := by unfold bl; rw [Int64.toBitVec_xor, BitVec.getLsbD_xor]
theorem l_big {x : Int64} {i : Nat} (h : 64 ≤ i) : bl x i = false := BitVec.getLsbD_of_ge _ _ h
theorem l_0 (i : Nat) : bl 0 i = false := BitVec.getLsbD_zero
theorem l_m1 : ∀ i, i < 64 → bl (-1) i = true := by decide +kernel
theorem l_sl : ∀ n, n < 64 → (((nI n).toInt64 &&& 63).toBitVec.smod 64).toNat = n := by decide +kernel
theorem l_su : ∀ n, n < 64 → (((nI n).toInt64.toUInt64 &&& Int64.toUInt64 63).toBitVec % 64).toNat = n := by decide +kernel
theorem l_shl (n : Nat) (hn : n < 64) (x : Int64) {i : Nat} (hi : i < 64) : bl (lshl x (nI n)) i = (decide (n ≤ i) && bl x (i - n)) := by
  unfold bl lshl
  rw [Int64.toBitVec_shiftLeft]
  show (x.toBitVec <<< (((nI n).toInt64 &&& 63).toBitVec.smod 64).toNat).getLsbD i = _
  rw [l_sl n hn, BitVec.getLsbD_shiftLeft]
  rcases Nat.lt_or_ge i n with h | h
  · simp [h, Nat.not_le.mpr h]
  · simp [hi, h, Nat.not_lt.mpr h]
theorem l_ushr (n : Nat) (hn : n < 64) (x : Int64) (i : Nat) : bl (lushr x (nI n)) i = bl x (n + i) := by
  show (x.toUInt64 >>> ((nI n).toInt64.toUInt64 &&& Int64.toUInt64 63)).toBitVec.getLsbD i = x.toUInt64.toBitVec.getLsbD (n + i)
  rw [UInt64.toBitVec_shiftRight]
  show (x.toUInt64.toBitVec >>> (((nI n).toInt64.toUInt64 &&& Int64.toUInt64 63).toBitVec % 64).toNat).getLsbD i = _
  rw [l_su n hn, BitVec.getLsbD_ushiftRight]
theorem l_l2i (x : Int64) (i : Nat) : bt (Int64.toInt32 x) i = (decide (i < 32) && bl x i) := by
  unfold bt bl
  rw [Int64.toBitVec_toInt32, BitVec.getLsbD_signExtend]
  by_cases h : i < 32
  · rw [if_pos (by omega)]
  · simp [h]
theorem l_i2l (x : Int32) {i : Nat} (hi : i < 64) : bl (Int32.toInt64 x) i = if i < 32 then bt x i else bt x 31 := by
  unfold bt bl
  rw [Int32.toBitVec_toInt64, BitVec.getLsbD_signExtend, BitVec.msb_eq_getLsbD_last]
  simp [hi]
theorem i_ushr (n : Nat) (hn : n < 32) (x : Int32) (i : Nat) : bt (iushr x (nI n)) i = bt x (n + i) := b_ushr n hn x i
theorem b_one (i : Nat) : bt 1 i = decide (i = 0) := by
  rcases Nat.lt_or_ge i 32 with h | h
  · exact (by decide +kernel : ∀ i, i < 32 → bt 1 i = decide (i = 0)) i h
  · rw [b_big h, decide_eq_false (by omega)]
theorem b_pow (n : Nat) (hn : n < 32) (i : Nat) : bt ((1 : Int32) <<< (nI n &&& 31)) i = decide (i = n) := by
  rcases Nat.lt_or_ge i 32 with h | h
  · rw [b_shl n hn 1 h, b_one]
    by_cases c : i = n
    · subst c; simp
    · by_cases d : n ≤ i
      · simp [c, d]; omega
      · simp [c, d]
  · rw [b_big h, decide_eq_false (by omega)]
theorem l_one (i : Nat) : bl 1 i = decide (i = 0) := by
  rcases Nat.lt_or_ge i 64 with h | h
  · exact (by decide +kernel : ∀ i, i < 64 → bl 1 i = decide (i = 0)) i h
  · rw [l_big h, decide_eq_false (by omega)]
theorem l_pow (n : Nat) (hn : n < 64) (i : Nat) : bl (lshl 1 (nI n)) i = decide (i = n) := by
  rcases Nat.lt_or_ge i 64 with h | h
  · rw [l_shl n hn 1 h, l_one]
    by_cases c : i = n
    · subst c; simp
    · by_cases d : n ≤ i
      · simp [c, d]; omega
      · simp [c, d]
  · rw [l_big h, decide_eq_false (by omega)]
theorem nm_s {α β : Type} (a : α) (k : α → Option β) : nm a k = k a := rfl
theorem ald_s {α β : Type} {n k : Nat} (f : Nat → α) (g : α → Option β) (h : k < n) (hn : n < 2 ^ 31) : ald n f (nI k) g = g (f k) := by
  unfold ald
  rw [if_neg (vp_in_nI h hn), nI_clamp (by omega)]
theorem ast_s {β : Type} {n k : Nat} (g : Option β) (h : k < n) (hn : n < 2 ^ 31) : ast n (nI k) g = g := by
  unfold ast
  rw [if_neg (vp_in_nI h hn)]
theorem bz0 {β : Type} (g : Option β) : bz 0 g = g := rfl
theorem bz1 {β : Type} (g : Option β) : bz 1 g = g := by unfold bz; rw [if_neg (by decide), if_pos rfl]
theorem bzb {β : Type} (c : Bool) (g : Option β) : bz (if c then 1 else 0) g = g := by cases c; exact bz0 g; exact bz1 g
theorem lg_cmp_0 (x y : Int64) : lg_cmp x y = 0 ↔ x = y := by
  unfold lg_cmp
  by_cases h : x > y
  · rw [if_pos h]
    constructor
    · intro e; exact absurd e (by decide)
    · intro e; subst e; exact absurd h (Int64.lt_irrefl)
  · rw [if_neg h]
    by_cases e : x = y
    · simp [e]
    · rw [if_neg e]
      constructor
      · intro q; exact absurd q (by decide)
      · intro q; exact absurd q e

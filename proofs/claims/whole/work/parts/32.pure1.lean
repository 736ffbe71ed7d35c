/-! ===== the parish's geometry, and loops that count up ===== -/
def okB (W H : Nat) : Bool := (decide (W = 0) && decide (H = 0)) || (decide (2 ≤ W) && decide (W ≤ 5) && decide (2 ≤ H) && decide (H ≤ 5))
def eN (W H : Nat) : Nat := (W - 1) * H + W * (H - 1)
def eLo (W H e : Nat) : Nat := if e < (W - 1) * H then e / (W - 1) * W + e % (W - 1) else e - (W - 1) * H
def eHi (W H e : Nat) : Nat := if e < (W - 1) * H then eLo W H e + 1 else eLo W H e + W
def ePl (W H e : Nat) : Nat := if e < (W - 1) * H then eLo W H e else 32 + eLo W H e
def rimB (W H f : Nat) : Bool := decide (f % W = 0) || decide (f / W = 0) || decide (f % W = W - 1) || decide (f / W = H - 1)
theorem okB_lt {W H : Nat} (h : okB W H = true) : W < 6 ∧ H < 6 := by
  simp only [okB, Bool.or_eq_true, Bool.and_eq_true, decide_eq_true_eq] at h
  omega
theorem geo_n0 : ∀ W, W < 6 → ∀ H, H < 6 → okB W H = true → eN W H ≤ 40 ∧ W * H ≤ 25 := by decide +kernel
/-- a check over all parishes -/
def chkWH (p : Nat → Nat → Bool) : Bool := (List.range 6).all fun W => (List.range 6).all fun H => !(okB W H) || p W H
theorem chk_at {p : Nat → Nat → Bool} (h : chkWH p = true) {W H : Nat} (ok : okB W H = true) : p W H = true := by
  have hl := okB_lt ok
  have h1 := List.all_eq_true.mp h W (List.mem_range.mpr hl.1)
  have h2 := List.all_eq_true.mp h1 H (List.mem_range.mpr hl.2)
  simpa [ok] using h2
theorem all_at {p : Nat → Bool} {n : Nat} (h : (List.range n).all p = true) {k : Nat} (hk : k < n) : p k = true := List.all_eq_true.mp h k (List.mem_range.mpr hk)
theorem geo_e0 : chkWH (fun W H => (List.range (eN W H)).all fun e => decide (eLo W H e < W * H) && (decide (eHi W H e < W * H) && (decide (eLo W H e < eHi W H e) && decide (ePl W H e < 64)))) = true := by decide +kernel
theorem geo_p0 : chkWH (fun W H => (List.range (eN W H)).all fun e => (List.range (eN W H)).all fun d => !(decide (ePl W H e = ePl W H d)) || decide (e = d)) = true := by decide +kernel
theorem geo_n {W H : Nat} (h : okB W H = true) : eN W H ≤ 40 ∧ W * H ≤ 25 := geo_n0 W (okB_lt h).1 H (okB_lt h).2 h
theorem geo_e {W H e : Nat} (h : okB W H = true) (he : e < eN W H) : eLo W H e < W * H ∧ eHi W H e < W * H ∧ eLo W H e < eHi W H e ∧ ePl W H e < 64 := by
  simpa using all_at (chk_at geo_e0 h) he
theorem geo_p {W H e d : Nat} (h : okB W H = true) (he : e < eN W H) (hd : d < eN W H) (hp : ePl W H e = ePl W H d) : e = d := by
  simpa [hp] using all_at (all_at (chk_at geo_p0 h) he) hd
/-- a loop whose counter goes up to N; it may also end earlier -/
theorem up_loop {σ ρ : Type} (L : Nat → Int32 → σ → Option ρ) (N : Nat) (I : Nat → σ → Prop) (P : ρ → Prop)
    (hexit : ∀ n s, I N s → ∃ r, L (n + 1) (nI N) s = some r ∧ P r)
    (hstep : ∀ n i s, i < N → I i s → (∃ r, L (n + 1) (nI i) s = some r ∧ P r) ∨ ∃ t, I (i + 1) t ∧ L (n + 1) (nI i) s = L n (nI (i + 1)) t) :
    ∀ n i s, i ≤ N → N < i + n → I i s → ∃ r, L n (nI i) s = some r ∧ P r := by
  intro n
  induction n with
  | zero => intro i s h1 h2; omega
  | succ n ih =>
    intro i s h1 h2 hI
    rcases Nat.lt_or_ge i N with h | h
    · rcases hstep n i s h hI with hx | ⟨t, ht, e⟩
      · exact hx
      · rw [e]
        exact ih (i + 1) t h (by omega) ht
    · have e : i = N := by omega
      subst e
      exact hexit n s hI
/-- a loop with a measure that falls -/
theorem dn_loop {σ ρ : Type} (L : Nat → σ → Option ρ) (μ : σ → Nat) (I : σ → Prop) (P : ρ → Prop)
    (hstep : ∀ n s, I s → (∃ r, L (n + 1) s = some r ∧ P r) ∨ ∃ t, I t ∧ μ t < μ s ∧ L (n + 1) s = L n t) :
    ∀ n s, μ s < n → I s → ∃ r, L n s = some r ∧ P r := by
  intro n
  induction n with
  | zero => intro s h; omega
  | succ n ih =>
    intro s h hI
    rcases hstep n s hI with hx | ⟨t, ht, hm, e⟩
    · exact hx
    · rw [e]
      exact ih t (by omega) ht
/-! ===== numbers: comparisons of an int with small naturals ===== -/
theorem nI_le_lit {a b : Nat} (ha : a < 2 ^ 31) (hb : b < 2 ^ 31) : (nI a ≤ nI b) = (a ≤ b) := propext (nI_leI ha hb)
theorem nI_lt_lit {a b : Nat} (ha : a < 2 ^ 31) (hb : b < 2 ^ 31) : (nI a < nI b) = (a < b) := propext (nI_ltI ha hb)
theorem nI_eq_lit {a b : Nat} (ha : a < 2 ^ 31) (hb : b < 2 ^ 31) : (nI a = nI b) = (a = b) := propext (nI_eq ha hb)
/-- an argument is an index below n, or refused -/
theorem ix_cases (x : Int32) {n : Nat} (hn : n < 2 ^ 31) : (x < 0 ∨ nI n ≤ x) ∨ ∃ j : Nat, j < n ∧ x = nI j := by
  rcases pk_ix x hn with h | h | h
  · exact Or.inl (Or.inl h)
  · exact Or.inl (Or.inr h)
  · exact Or.inr h

/-! ===== slips: flows and cuts ===== -/
def sI (b : Bool) : Int := if b then 1 else 0
def outS (W H : Nat) (φ : Nat → Int) (S : Nat → Bool) : Int := fb_si (fun e => φ e * (sI (S (eLo W H e)) - sI (S (eHi W H e)))) (eN W H)
def capS (W H : Nat) (ρ : Nat → Nat) (S : Nat → Bool) : Nat := fb_sm (fun e => if (S (eLo W H e) ^^ S (eHi W H e)) then ρ e else 0) (eN W H)
theorem si_le {f g : Nat → Int} : ∀ {n : Nat}, (∀ k, k < n → f k ≤ g k) → fb_si f n ≤ fb_si g n
  | 0, _ => Int.le_refl _
  | n + 1, h => by
    have h1 := si_le (n := n) (fun k hk => h k (by omega))
    have h2 := h n (by omega)
    rw [fb_si_succ, fb_si_succ]
    omega
theorem si_eq {f g : Nat → Int} : ∀ {n : Nat}, (∀ k, k < n → f k ≤ g k) → fb_si f n = fb_si g n → ∀ k, k < n → f k = g k
  | 0, _, _ => fun k hk => absurd hk (Nat.not_lt_zero k)
  | n + 1, h, e => by
    have h1 := si_le (n := n) (fun k hk => h k (by omega))
    have h2 := h n (by omega)
    rw [fb_si_succ, fb_si_succ] at e
    intro k hk
    rcases Nat.lt_or_ge k n with z | z
    · exact si_eq (n := n) (fun k hk => h k (by omega)) (by omega) k z
    · have : k = n := by omega
      rw [this]; omega
theorem out_cong {W H : Nat} {φ ψ : Nat → Int} (h : ∀ e, e < eN W H → φ e = ψ e) (S : Nat → Bool) : outS W H φ S = outS W H ψ S := fb_si_cong (fun e he => by rw [h e he])
theorem out_upd {W H : Nat} {φ : Nat → Int} {e0 : Nat} (he : e0 < eN W H) (d : Int) (S : Nat → Bool) : outS W H (fun e => if e = e0 then φ e0 + d else φ e) S = outS W H φ S + d * (sI (S (eLo W H e0)) - sI (S (eHi W H e0))) := by
  have h := fb_si_upd (fun e => φ e * (sI (S (eLo W H e)) - sI (S (eHi W H e)))) ((φ e0 + d) * (sI (S (eLo W H e0)) - sI (S (eHi W H e0)))) he
  have e1 : (fun e => (if e = e0 then φ e0 + d else φ e) * (sI (S (eLo W H e)) - sI (S (eHi W H e)))) = (fun k => if k = e0 then (φ e0 + d) * (sI (S (eLo W H e0)) - sI (S (eHi W H e0))) else φ k * (sI (S (eLo W H k)) - sI (S (eHi W H k)))) := funext (fun e => by
    by_cases c : e = e0
    · rw [if_pos c, if_pos c, c]
    · rw [if_neg c, if_neg c])
  unfold outS
  rw [e1, h, Int.add_mul]
  omega
theorem cap_term {φ : Int} {ρ : Nat} (h : -(ρ : Int) ≤ φ ∧ φ ≤ ρ) (a b : Bool) : φ * (sI a - sI b) ≤ (((if (a ^^ b) then ρ else 0) : Nat) : Int) := by
  cases a <;> cases b <;> simp [sI] <;> omega
theorem out_cap {W H : Nat} {φ : Nat → Int} {ρ : Nat → Nat} (h : ∀ e, e < eN W H → -(ρ e : Int) ≤ φ e ∧ φ e ≤ ρ e) (S : Nat → Bool) : outS W H φ S ≤ (capS W H ρ S : Int) := by
  unfold outS capS
  rw [← fb_si_nat]
  exact si_le (fun e he => cap_term (h e he) _ _)
def arc (W H : Nat) (ρ : Nat → Nat) (φ : Nat → Int) (e u v : Nat) : Prop := (eLo W H e = u ∧ eHi W H e = v ∧ φ e < ρ e) ∨ (eHi W H e = u ∧ eLo W H e = v ∧ -(ρ e : Int) < φ e)
theorem sat_of_eq {W H : Nat} {φ : Nat → Int} {ρ : Nat → Nat} (h : ∀ e, e < eN W H → -(ρ e : Int) ≤ φ e ∧ φ e ≤ ρ e) {S : Nat → Bool} (he : outS W H φ S = (capS W H ρ S : Int)) : ∀ e u v, e < eN W H → arc W H ρ φ e u v → S u = true → S v = true := by
  intro e u v hel ha hu
  unfold outS capS at he
  rw [← fb_si_nat] at he
  have ht := si_eq (fun e he => cap_term (h e he) _ _) he e hel
  cases hv : S v
  · rcases ha with ⟨a1, a2, a3⟩ | ⟨a1, a2, a3⟩
    · rw [a1, a2, hu, hv] at ht
      simp [sI] at ht
      omega
    · rw [a1, a2, hu, hv] at ht
      simp [sI] at ht
      omega
  · rfl
theorem eq_of_sat {W H : Nat} {φ : Nat → Int} {ρ : Nat → Nat} (h : ∀ e, e < eN W H → -(ρ e : Int) ≤ φ e ∧ φ e ≤ ρ e) {S : Nat → Bool} (hs : ∀ e u v, e < eN W H → arc W H ρ φ e u v → S u = true → S v = true) : outS W H φ S = (capS W H ρ S : Int) := by
  unfold outS capS
  rw [← fb_si_nat]
  refine fb_si_cong (fun e he => ?_)
  have hb := h e he
  cases a : S (eLo W H e) <;> cases b : S (eHi W H e)
  · simp [sI]
  · have : ¬ -(ρ e : Int) < φ e := fun q => by
      have := hs e _ _ he (Or.inr ⟨rfl, rfl, q⟩) b
      rw [a] at this; cases this
    simp [sI]; omega
  · have : ¬ φ e < ρ e := fun q => by
      have := hs e _ _ he (Or.inl ⟨rfl, rfl, q⟩) a
      rw [b] at this; cases this
    simp [sI]; omega
  · simp [sI]
def treeT (W H : Nat) (ρ : Nat → Nat) (φ : Nat → Int) (f : Nat) (R : Int32) (c : Nat → Int32) (rk : Nat → Nat) : Prop := bt R f = true ∧ (∀ i, bt R i = true → i < W * H) ∧ (∀ v, bt R v = true → rk v < fb_ct (bt R) 25) ∧ ∀ v, bt R v = true → ¬ v = f → ∃ e u, e < eN W H ∧ c v = nI e ∧ arc W H ρ φ e u v ∧ bt R u = true ∧ rk u < rk v
theorem tree_add {W H : Nat} (ok : okB W H = true) {ρ : Nat → Nat} {φ : Nat → Int} {f : Nat} {R : Int32} {c : Nat → Int32} {rk : Nat → Nat} (h : treeT W H ρ φ f R c rk) {v : Nat} (hv : v < W * H) (hR : bt R v = false) {e u : Nat} (he : e < eN W H) (ha : arc W H ρ φ e u v) (hu : bt R u = true) :
    treeT W H ρ φ f (R ||| ((1 : Int32) <<< (nI v &&& 31))) (upd c v (nI e)) (fun w => if w = v then fb_ct (bt R) 25 else rk w) ∧ fb_ct (bt R) 25 + 1 ≤ fb_ct (bt (R ||| ((1 : Int32) <<< (nI v &&& 31)))) 25 := by
  have hgn := geo_n ok
  have hb : ∀ i, bt (R ||| ((1 : Int32) <<< (nI v &&& 31))) i = (bt R i || decide (i = v)) := fun i => by rw [b_or, b_pow v (by omega)]
  have hct : fb_ct (bt R) 25 + 1 ≤ fb_ct (bt (R ||| ((1 : Int32) <<< (nI v &&& 31)))) 25 := ct_more (fun k _ hk => by rw [hb, hk, Bool.true_or]) (show v < 25 by omega) (by rw [hb]; simp) hR
  have huv : ¬ u = v := fun q => by rw [q, hR] at hu; cases hu
  refine ⟨⟨by rw [hb, h.1, Bool.true_or], fun i hi => ?_, fun w hw => ?_, fun w hw hwf => ?_⟩, hct⟩
  · rw [hb, Bool.or_eq_true, decide_eq_true_eq] at hi
    rcases hi with q | q
    · exact h.2.1 i q
    · omega
  · show (if w = v then fb_ct (bt R) 25 else rk w) < _
    by_cases z : w = v
    · rw [if_pos z]; omega
    · rw [if_neg z]
      rw [hb, decide_eq_false z, Bool.or_false] at hw
      have := h.2.2.1 w hw
      omega
  · show ∃ e u, e < eN W H ∧ upd c v (nI _) w = nI e ∧ arc W H ρ φ e u w ∧ _ ∧ (if u = v then fb_ct (bt R) 25 else rk u) < (if w = v then fb_ct (bt R) 25 else rk w)
    by_cases z : w = v
    · refine ⟨e, u, he, by rw [z, ud_eq], by rw [z]; exact ha, by rw [hb, hu, Bool.true_or], ?_⟩
      rw [if_neg huv, if_pos z]
      exact h.2.2.1 u hu
    · rw [hb, decide_eq_false z, Bool.or_false] at hw
      obtain ⟨d, x, d1, d2, d3, d4, d5⟩ := h.2.2.2 w hw hwf
      have hxv : ¬ x = v := fun q => by rw [q, hR] at d4; cases d4
      refine ⟨d, x, d1, by rw [ud_ne _ _ z]; exact d2, d3, by rw [hb, d4, Bool.true_or], ?_⟩
      rw [if_neg hxv, if_neg z]; exact d5
theorem tree_sub {W H : Nat} {ρ : Nat → Nat} {φ : Nat → Int} {f : Nat} {R : Int32} {c : Nat → Int32} {rk : Nat → Nat} (h : treeT W H ρ φ f R c rk) {S : Nat → Bool} (hf : S f = true) (hs : ∀ e u v, e < eN W H → arc W H ρ φ e u v → S u = true → S v = true) : ∀ v, bt R v = true → S v = true := by
  have key : ∀ n v, rk v < n → bt R v = true → S v = true := by
    intro n
    induction n with
    | zero => intro v hv; omega
    | succ n ih =>
      intro v hv hb
      by_cases z : v = f
      · rw [z]; exact hf
      · obtain ⟨e, u, d1, d2, d3, d4, d5⟩ := h.2.2.2 v hb z
        exact hs e u v d1 d3 (ih u (by omega) d4)
  exact fun v hv => key (rk v + 1) v (by omega) hv
/-- what a search, and then a whole cut, has found -/
def isCut (W H : Nat) (ρ : Nat → Nat) (f n : Nat) (R : Int32) : Prop := bt R f = true ∧ (∀ i, bt R i = true → i < W * H) ∧ (∀ v, v < W * H → (bt R v && rimB W H v) = false) ∧ capS W H ρ (bt R) = n ∧ ∀ S : Nat → Bool, S f = true → (∀ v, v < W * H → (S v && rimB W H v) = false) → n ≤ capS W H ρ S ∧ (capS W H ρ S = n → ∀ v, bt R v = true → S v = true)
theorem cut_end {W H : Nat} {ρ : Nat → Nat} {φ : Nat → Int} {f n : Nat} {R : Int32} {c : Nat → Int32} {rk : Nat → Nat} (h : ∀ e, e < eN W H → -(ρ e : Int) ≤ φ e ∧ φ e ≤ ρ e) (ht : treeT W H ρ φ f R c rk) (hcl : ∀ e u v, e < eN W H → arc W H ρ φ e u v → bt R u = true → bt R v = true) (hrim : ∀ v, v < W * H → (bt R v && rimB W H v) = false)
    (hout : ∀ S : Nat → Bool, S f = true → (∀ v, v < W * H → (S v && rimB W H v) = false) → outS W H φ S = (n : Int)) : isCut W H ρ f n R := by
  have e1 := hout (bt R) ht.1 hrim
  have e2 := eq_of_sat h hcl
  refine ⟨ht.1, ht.2.1, hrim, by omega, fun S hf hS => ?_⟩
  have e3 := hout S hf hS
  have e4 := out_cap h S
  refine ⟨by omega, fun e => tree_sub ht hf (sat_of_eq h (by rw [e3, e]))⟩

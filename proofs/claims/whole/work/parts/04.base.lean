/-! ===== the state of each module as plain values ===== -/
abbrev GS : Type := (Nat → Int32) × Int64 × (Nat → Nat → Int32) × (Nat → Int64)
abbrev SS : Type := (Nat → Int64) × (Nat → Int32) × (Nat → Int32)
abbrev NS : Type := (Nat → Int32) × (Nat → Nat → Int32)
abbrev RS : Type := (Nat → Int32) × (Nat → Int32)
abbrev PS : Type := Nat → Int32
abbrev QS : Type := Nat → SS
abbrev IS : Type := Nat → Nat → Int32
abbrev TS : Type := Nat → Int64
abbrev XS : Type := Nat → Int32
abbrev MS : Type := (Nat → Int32) × (Nat → Nat → Int32)
def tyL (ci : Nat → ClassId) : List (ClassId × FieldType) := [(ci 0, .int), (ci 1, .long), (ci 2, .boolean), (ci 3, .object "HedgeWar$Stand"), (ci 4, .object "HedgeWar$Image")]
/-! ===== the worlds: the cells that hold such a state ===== -/
def wcG (ci : Nat → ClassId) (a0 a1 a2 a3 a4 : Nat) (z : GS) : va_W := [(a0, .inr (0, [.int (z.1 0), .int (z.1 1), .int (z.1 2), .int (z.1 3), .int (z.1 4), .int (z.1 5), .int (z.1 6), .int (z.1 7), .long z.2.1, .ref a1, .ref a2, .ref a3, .ref a4])), (a1, .inl (ci 0, 25, .inl (z.2.2.1 9))), (a2, .inl (ci 0, 40, .inl (z.2.2.1 10))), (a3, .inl (ci 0, 40, .inl (z.2.2.1 11))), (a4, .inl (ci 1, 40, .inr (.inl z.2.2.2)))]
def wcS (ci : Nat → ClassId) (a0 a1 : Nat) (z : SS) : va_W := [(a0, .inr (5, [.long (z.1 0), .long (z.1 1), .long (z.1 2), .int (z.2.1 3), .int (z.2.1 4), .ref a1])), (a1, .inl (ci 0, 40, .inl z.2.2))]
def wcN (ci : Nat → ClassId) (a0 a1 a2 a3 a4 : Nat) (z : NS) : va_W := [(a0, .inr (2, [.int (z.1 0), .int (z.1 1), .ref a1, .ref a2, .ref a3, .ref a4])), (a1, .inl (ci 0, 6, .inl (z.2 2))), (a2, .inl (ci 0, 6, .inl (z.2 3))), (a3, .inl (ci 0, 15, .inl (z.2 4))), (a4, .inl (ci 0, 15, .inl (z.2 5)))]
def wcR (ci : Nat → ClassId) (a0 a1 aG aS : Nat) (z : RS) : va_W := [(a0, .inr (4, [.ref a1, .ref aG, .ref aS, .int (z.1 3), .int (z.1 4), .int (z.1 5), .int (z.1 6), .int (z.1 7)])), (a1, .inl (ci 0, 240, .inl z.2))]
def wcP (ci : Nat → ClassId) (a0 a1 : Nat) (aQ : Nat → Nat) (z : PS) : va_W := [(a0, .inr (3, [.ref a1, .int (z 1), .int (z 2)])), (a1, .inl (ci 3, 20, .inr (.inr (.inr (.inr (fun k => some (aQ (2 * k))))))))]
def wcQ (ci : Nat → ClassId) (aQ : Nat → Nat) (z : QS) : va_W := [(aQ 0, .inr (5, [.long ((z 0).1 0), .long ((z 0).1 1), .long ((z 0).1 2), .int ((z 0).2.1 3), .int ((z 0).2.1 4), .ref (aQ 1)])), (aQ 1, .inl (ci 0, 40, .inl (z 0).2.2)), (aQ 2, .inr (5, [.long ((z 1).1 0), .long ((z 1).1 1), .long ((z 1).1 2), .int ((z 1).2.1 3), .int ((z 1).2.1 4), .ref (aQ 3)])), (aQ 3, .inl (ci 0, 40, .inl (z 1).2.2)), (aQ 4, .inr (5, [.long ((z 2).1 0), .long ((z 2).1 1), .long ((z 2).1 2), .int ((z 2).2.1 3), .int ((z 2).2.1 4), .ref (aQ 5)])), (aQ 5, .inl (ci 0, 40, .inl (z 2).2.2)), (aQ 6, .inr (5, [.long ((z 3).1 0), .long ((z 3).1 1), .long ((z 3).1 2), .int ((z 3).2.1 3), .int ((z 3).2.1 4), .ref (aQ 7)])), (aQ 7, .inl (ci 0, 40, .inl (z 3).2.2)), (aQ 8, .inr (5, [.long ((z 4).1 0), .long ((z 4).1 1), .long ((z 4).1 2), .int ((z 4).2.1 3), .int ((z 4).2.1 4), .ref (aQ 9)])), (aQ 9, .inl (ci 0, 40, .inl (z 4).2.2)), (aQ 10, .inr (5, [.long ((z 5).1 0), .long ((z 5).1 1), .long ((z 5).1 2), .int ((z 5).2.1 3), .int ((z 5).2.1 4), .ref (aQ 11)])), (aQ 11, .inl (ci 0, 40, .inl (z 5).2.2)), (aQ 12, .inr (5, [.long ((z 6).1 0), .long ((z 6).1 1), .long ((z 6).1 2), .int ((z 6).2.1 3), .int ((z 6).2.1 4), .ref (aQ 13)])), (aQ 13, .inl (ci 0, 40, .inl (z 6).2.2)), (aQ 14, .inr (5, [.long ((z 7).1 0), .long ((z 7).1 1), .long ((z 7).1 2), .int ((z 7).2.1 3), .int ((z 7).2.1 4), .ref (aQ 15)])), (aQ 15, .inl (ci 0, 40, .inl (z 7).2.2)), (aQ 16, .inr (5, [.long ((z 8).1 0), .long ((z 8).1 1), .long ((z 8).1 2), .int ((z 8).2.1 3), .int ((z 8).2.1 4), .ref (aQ 17)])), (aQ 17, .inl (ci 0, 40, .inl (z 8).2.2)), (aQ 18, .inr (5, [.long ((z 9).1 0), .long ((z 9).1 1), .long ((z 9).1 2), .int ((z 9).2.1 3), .int ((z 9).2.1 4), .ref (aQ 19)])), (aQ 19, .inl (ci 0, 40, .inl (z 9).2.2)), (aQ 20, .inr (5, [.long ((z 10).1 0), .long ((z 10).1 1), .long ((z 10).1 2), .int ((z 10).2.1 3), .int ((z 10).2.1 4), .ref (aQ 21)])), (aQ 21, .inl (ci 0, 40, .inl (z 10).2.2)), (aQ 22, .inr (5, [.long ((z 11).1 0), .long ((z 11).1 1), .long ((z 11).1 2), .int ((z 11).2.1 3), .int ((z 11).2.1 4), .ref (aQ 23)])), (aQ 23, .inl (ci 0, 40, .inl (z 11).2.2)), (aQ 24, .inr (5, [.long ((z 12).1 0), .long ((z 12).1 1), .long ((z 12).1 2), .int ((z 12).2.1 3), .int ((z 12).2.1 4), .ref (aQ 25)])), (aQ 25, .inl (ci 0, 40, .inl (z 12).2.2)), (aQ 26, .inr (5, [.long ((z 13).1 0), .long ((z 13).1 1), .long ((z 13).1 2), .int ((z 13).2.1 3), .int ((z 13).2.1 4), .ref (aQ 27)])), (aQ 27, .inl (ci 0, 40, .inl (z 13).2.2)), (aQ 28, .inr (5, [.long ((z 14).1 0), .long ((z 14).1 1), .long ((z 14).1 2), .int ((z 14).2.1 3), .int ((z 14).2.1 4), .ref (aQ 29)])), (aQ 29, .inl (ci 0, 40, .inl (z 14).2.2)), (aQ 30, .inr (5, [.long ((z 15).1 0), .long ((z 15).1 1), .long ((z 15).1 2), .int ((z 15).2.1 3), .int ((z 15).2.1 4), .ref (aQ 31)])), (aQ 31, .inl (ci 0, 40, .inl (z 15).2.2)), (aQ 32, .inr (5, [.long ((z 16).1 0), .long ((z 16).1 1), .long ((z 16).1 2), .int ((z 16).2.1 3), .int ((z 16).2.1 4), .ref (aQ 33)])), (aQ 33, .inl (ci 0, 40, .inl (z 16).2.2)), (aQ 34, .inr (5, [.long ((z 17).1 0), .long ((z 17).1 1), .long ((z 17).1 2), .int ((z 17).2.1 3), .int ((z 17).2.1 4), .ref (aQ 35)])), (aQ 35, .inl (ci 0, 40, .inl (z 17).2.2)), (aQ 36, .inr (5, [.long ((z 18).1 0), .long ((z 18).1 1), .long ((z 18).1 2), .int ((z 18).2.1 3), .int ((z 18).2.1 4), .ref (aQ 37)])), (aQ 37, .inl (ci 0, 40, .inl (z 18).2.2)), (aQ 38, .inr (5, [.long ((z 19).1 0), .long ((z 19).1 1), .long ((z 19).1 2), .int ((z 19).2.1 3), .int ((z 19).2.1 4), .ref (aQ 39)])), (aQ 39, .inl (ci 0, 40, .inl (z 19).2.2))]
def wcI (ci : Nat → ClassId) (a0 a1 a2 : Nat) (aJ : Nat → Nat) (z : IS) : va_W := [(a0, .inl (ci 4, 2, .inr (.inr (.inr (.inr (fun k => if k = 0 then some a1 else some a2)))))), (a1, .inr (1, [.ref (aJ 0), .int (z 0 1), .int (z 0 2)])), (a2, .inr (1, [.ref (aJ 2), .int (z 1 1), .int (z 1 2)]))]
def wcJ (ci : Nat → ClassId) (aJ : Nat → Nat) (z : QS) : va_W := [(aJ 0, .inr (5, [.long ((z 0).1 0), .long ((z 0).1 1), .long ((z 0).1 2), .int ((z 0).2.1 3), .int ((z 0).2.1 4), .ref (aJ 1)])), (aJ 1, .inl (ci 0, 40, .inl (z 0).2.2)), (aJ 2, .inr (5, [.long ((z 1).1 0), .long ((z 1).1 1), .long ((z 1).1 2), .int ((z 1).2.1 3), .int ((z 1).2.1 4), .ref (aJ 3)])), (aJ 3, .inl (ci 0, 40, .inl (z 1).2.2))]
def wcT (ci : Nat → ClassId) (a0 : Nat) (z : TS) : va_W := [(a0, .inl (ci 1, 7, .inr (.inl z)))]
def wcX (a0 aR aG aS aP aN aI aT : Nat) (z : XS) : va_W := [(a0, .inr (6, [.ref aR, .ref aG, .ref aS, .ref aP, .ref aN, .ref aI, .ref aT, .int (z 7), .int (z 8)]))]
def wcM (ci : Nat → ClassId) (aM : Nat → Nat) (z : MS) : va_W := [(aM 0, .inr (7, [.int (z.1 0), .int (z.1 1), .int (z.1 2), .int (z.1 3), .ref (aM 4), .ref (aM 5), .ref (aM 6), .ref (aM 7), .ref (aM 8), .int (z.1 9), .ref (aM 10), .int (z.1 11), .int (z.1 12), .int (z.1 13), .int (z.1 14), .int (z.1 15), .ref (aM 16), .ref (aM 17), .int (z.1 18), .ref (aM 19), .ref (aM 20), .ref (aM 21), .int (z.1 22), .ref (aM 23), .ref (aM 24), .ref (aM 25), .ref (aM 26), .int (z.1 27), .ref (aM 28), .int (z.1 29), .ref (aM 30), .ref (aM 31), .ref (aM 32), .int (z.1 33), .ref (aM 34), .ref (aM 35), .ref (aM 36), .ref (aM 37)])), (aM 4, .inl (ci 0, 25, .inl (z.2 4))), (aM 5, .inl (ci 0, 40, .inl (z.2 5))), (aM 6, .inl (ci 0, 40, .inl (z.2 6))), (aM 7, .inl (ci 2, 40, .inl (z.2 7))), (aM 8, .inl (ci 0, 122, .inl (z.2 8))), (aM 10, .inl (ci 0, 240, .inl (z.2 10))), (aM 16, .inl (ci 0, 3, .inl (z.2 16))), (aM 17, .inl (ci 0, 25, .inl (z.2 17))), (aM 19, .inl (ci 2, 40, .inl (z.2 19))), (aM 20, .inl (ci 0, 40, .inl (z.2 20))), (aM 21, .inl (ci 0, 40, .inl (z.2 21))), (aM 23, .inl (ci 0, 2440, .inl (z.2 23))), (aM 24, .inl (ci 0, 40, .inl (z.2 24))), (aM 25, .inl (ci 0, 40, .inl (z.2 25))), (aM 26, .inl (ci 0, 25, .inl (z.2 26))), (aM 28, .inl (ci 0, 122, .inl (z.2 28))), (aM 30, .inl (ci 0, 6, .inl (z.2 30))), (aM 31, .inl (ci 0, 6, .inl (z.2 31))), (aM 32, .inl (ci 0, 100, .inl (z.2 32))), (aM 34, .inl (ci 0, 15, .inl (z.2 34))), (aM 35, .inl (ci 0, 15, .inl (z.2 35))), (aM 36, .inl (ci 0, 246, .inl (z.2 36))), (aM 37, .inl (ci 2, 2, .inl (z.2 37)))]
/-! ===== names, tests and bounds of the pure functions ===== -/
def iushr (x y : Int32) : Int32 := (x.toUInt32 >>> (y.toUInt32 &&& Int32.toUInt32 31)).toInt32
def lushr (x : Int64) (y : Int32) : Int64 := (x.toUInt64 >>> (y.toInt64.toUInt64 &&& Int64.toUInt64 63)).toInt64
def lshl (x : Int64) (y : Int32) : Int64 := x <<< (y.toInt64 &&& 63)
def imin (x y : Int32) : Int32 := if y < x then y else x
def imax (x y : Int32) : Int32 := if x < y then y else x
def nm {α β : Type} (a : α) (k : α → Option β) : Option β := k a
theorem nm_i {α β : Type} {a z : α} {k : α → Option β} {r : β} (h : nm a k = some r) (e : z = a) : k z = some r := by subst e; exact h
def ald {α β : Type} (n : Nat) (f : Nat → α) (i : Int32) (k : α → Option β) : Option β := if i < 0 ∨ n ≤ i.toNatClampNeg then none else k (f i.toNatClampNeg)
theorem ald_i {α β : Type} {n : Nat} {f : Nat → α} {i : Int32} {k : α → Option β} {r : β} (h : ald n f i k = some r) : vp_in i n ∧ nm (f i.toNatClampNeg) k = some r := by
  unfold ald at h
  by_cases c : i < 0 ∨ n ≤ i.toNatClampNeg
  · rw [if_pos c] at h; cases h
  · rw [if_neg c] at h; exact ⟨c, h⟩
def ast {β : Type} (n : Nat) (i : Int32) (k : Option β) : Option β := if i < 0 ∨ n ≤ i.toNatClampNeg then none else k
theorem ast_i {β : Type} {n : Nat} {i : Int32} {k : Option β} {r : β} (h : ast n i k = some r) : vp_in i n ∧ k = some r := by
  unfold ast at h
  by_cases c : i < 0 ∨ n ≤ i.toNatClampNeg
  · rw [if_pos c] at h; cases h
  · rw [if_neg c] at h; exact ⟨c, h⟩
def dvi {β : Type} (d : Int32) (k : Option β) : Option β := if d = 0 then none else k
theorem dvi_i {β : Type} {d : Int32} {k : Option β} {r : β} (h : dvi d k = some r) : ¬ d = 0 ∧ k = some r := by
  unfold dvi at h
  by_cases c : d = 0
  · rw [if_pos c] at h; cases h
  · rw [if_neg c] at h; exact ⟨c, h⟩
def dvl {β : Type} (d : Int64) (k : Option β) : Option β := if d = 0 then none else k
theorem dvl_i {β : Type} {d : Int64} {k : Option β} {r : β} (h : dvl d k = some r) : ¬ d = 0 ∧ k = some r := by
  unfold dvl at h
  by_cases c : d = 0
  · rw [if_pos c] at h; cases h
  · rw [if_neg c] at h; exact ⟨c, h⟩
def bz {β : Type} (r : Int32) (k : Option β) : Option β := if r = 0 then k else if r = 1 then k else none
theorem bz_i {β : Type} {d : Int32} {k : Option β} {r : β} (h : bz d k = some r) : narrow .boolean (.int d) = .int d ∧ k = some r := by
  unfold bz at h
  by_cases c : d = 0
  · rw [if_pos c] at h; exact ⟨by rw [c]; rfl, h⟩
  · rw [if_neg c] at h
    by_cases c1 : d = 1
    · rw [if_pos c1] at h; exact ⟨by rw [c1]; rfl, h⟩
    · rw [if_neg c1] at h; cases h
theorem if_i {β : Type} {c : Prop} {d : Decidable c} {A B : Option β} {r : β} (hc : c) (h : @ite _ c d A B = some r) : A = some r := by rw [if_pos hc] at h; exact h
theorem if_o {β : Type} {c : Prop} {d : Decidable c} {A B : Option β} {r : β} (hc : ¬ c) (h : @ite _ c d A B = some r) : B = some r := by rw [if_neg hc] at h; exact h
theorem bnd {α β : Type} {x : Option α} {k : α → Option β} {r : β} (h : x.bind k = some r) : ∃ a, x = some a ∧ k a = some r := by
  cases x with
  | none => cases h
  | some a => exact ⟨a, rfl, h⟩
theorem no_none {β : Type} {r : β} (h : (none : Option β) = some r) : False := by cases h
/-! ===== contracts ===== -/
def Pq (D : va_G) (ci : Nat → ClassId) (W : va_W) (sz : Nat) (U : State) : Prop := U.heap.size = sz ∧ va_P D vwCl W U.heap ∧ va_K D vwCl (tyL ci) U ∧ va_D (fun _ => True) W
def Bq (D : va_G) (ci : Nat → ClassId) (A : Nat → Prop) (W : va_W) (t : State) : Prop := va_P D vwCl W t.heap ∧ va_K D vwCl (tyL ci) t ∧ va_D A W
def CtI (l : Launch) (y : MethodName) (ws : List Cond) (rm : Room) (args : List Value) (D : va_G) (ci : Nat → ClassId) (W : va_W) (sz : Nat) (res : Int32) (W1 : va_W) : Prop := Met l y ws rm (va_Pc args (Pq D ci W sz)) (va_Qi (fun r (_ : Unit) => r = res) (fun _ => Bq D ci (va_A W sz) W1) (va_A W sz)) 0 0 (va_A W sz)
def CtL (l : Launch) (y : MethodName) (ws : List Cond) (rm : Room) (args : List Value) (D : va_G) (ci : Nat → ClassId) (W : va_W) (sz : Nat) (res : Int64) (W1 : va_W) : Prop := Met l y ws rm (va_Pc args (Pq D ci W sz)) (va_Ql (fun r (_ : Unit) => r = res) (fun _ => Bq D ci (va_A W sz) W1) (va_A W sz)) 0 0 (va_A W sz)
def CtV (l : Launch) (y : MethodName) (ws : List Cond) (rm : Room) (args : List Value) (D : va_G) (ci : Nat → ClassId) (W : va_W) (sz : Nat) (W1 : va_W) : Prop := Met l y ws rm (va_Pc args (Pq D ci W sz)) (va_Qv (fun (_ : Unit) => True) (fun _ => Bq D ci (va_A W sz) W1) (va_A W sz)) 0 0 (va_A W sz)
theorem Pq_blind {D : va_G} {ci : Nat → ClassId} {W : va_W} {sz : Nat} {av : List Value} : FrameBlind (va_Pc av (Pq D ci W sz)) := fun a U g mk q => by
  obtain ⟨q0, q1, qP, qK, qD⟩ := q
  exact ⟨q0, q1, qP, va_K.moved (u := U) (U := U.calling g mk a) (Vm.Alike.refl U.vm) qK, qD⟩
/-! ===== joins and loops ===== -/
section BJ
variable {p : Program} {l : Launch} {e : Env} {R : Room} {s : State} {m : MethodId} {args : Array Value} {below : List Frame} {meth : Method} {c : Code} {H : Heap} {locs : List Loc} {cells slots : Nat} {Q : State → Prop}
theorem jn {P : Heap → List Loc → Array Slot → Prop} {pcJ : Nat} {st : List Value} {g : JFrame} (hJ : ∀ (H : Heap) (locs : List Loc) (ls : Array Slot), P H locs ls → W p l e R s m args below meth c H locs cells slots Q (F0 m pcJ ls st)) (hk : (∀ (H : Heap) (locs : List Loc) (ls : Array Slot), P H locs ls → W p l e R s m args below meth c H locs cells slots Q (F0 m pcJ ls st)) → W p l e R s m args below meth c H locs cells slots Q g) : W p l e R s m args below meth c H locs cells slots Q g := hk hJ
theorem lpW {σ : Type} {I : Nat → σ → Heap → List Loc → Array Slot → Prop} {pc : Nat} {ls : Array Slot} (N : Nat) (v0 : σ) (h0 : ∀ (v : σ) (H : Heap) (locs : List Loc) (ls : Array Slot), ¬ I 0 v H locs ls) (hi : I N v0 H locs ls)
    (hs : ∀ n : Nat, (∀ (v : σ) (H : Heap) (locs : List Loc) (ls : Array Slot), I n v H locs ls → W p l e R s m args below meth c H locs cells slots Q (F0 m pc ls [])) → ∀ (v : σ) (H : Heap) (locs : List Loc) (ls : Array Slot), I (n + 1) v H locs ls → W p l e R s m args below meth c H locs cells slots Q (F0 m pc ls [])) :
    W p l e R s m args below meth c H locs cells slots Q (F0 m pc ls []) := by
  have key : ∀ (n : Nat) (v : σ) (H : Heap) (locs : List Loc) (ls : Array Slot), I n v H locs ls → W p l e R s m args below meth c H locs cells slots Q (F0 m pc ls []) := by
    intro n
    induction n with
    | zero => exact fun v H locs ls h => absurd h (h0 v H locs ls)
    | succ n ih => exact hs n ih
  exact key N v0 H locs ls hi
end BJ
/-! ===== calls: the callee's cells are the caller's at isC; the rest at isR; the world behind, out of rest and callee's, by isN ===== -/
theorem nd_3 {isC isR isN : List Nat} (h : (va_nd isC && (va_nd isR && (va_nd isN && isR.all (fun i => !(isC.contains i))))) = true) : va_nd isC = true ∧ va_nd isR = true ∧ va_nd isN = true ∧ ∀ i ∈ isR, i ∉ isC := by
  simp only [Bool.and_eq_true] at h
  refine ⟨h.1, h.2.1, h.2.2.1, fun i hi hc => ?_⟩
  have := List.all_eq_true.mp h.2.2.2 i hi
  simp [hc] at this
theorem cl_Vi {p : Program} {l : Launch} {e : Env} {R : Room} {s : State} {m : MethodId} {args : Array Value} {below : List Frame} {meth : Method} {c : Code} {H : Heap} {locs : List Loc} {cells slots : Nat} {Q : State → Prop} {cc bytes : ByteArray} {pc : Nat} {ls : Array Slot} {rest As st0 : List Value} {D : va_G} {ci : Nat → ClassId} {A : Nat → Prop} {wh wc wr w1 wn : va_W} {y : MethodName} {ws : List Cond} {rm : Room} {Ts : List Cond} {own C : String} {index n nL maxL : Nat} {ret : Option FieldType} {b k0 N : Nat} {fs : List Value} {T : u_T} {res : Int32} 
    (S : CallFix p m c cc nL s args Ts own) (cw : CallW R s args own C index y bytes maxL ret ws rm 0 0 n) (hM : CtI l y ws rm (.ref b :: As) D ci wc H.size res w1)
    (hK : va_K D vwCl (tyL ci) s) (hP : va_P D vwCl wh H) (hD : va_D A wh) (hS : va_S A s.heap H locs) (hA : ∀ q, s.heap.size ≤ q → A q)
    (isC isR isN : List Nat) (hC : isC.map (fun i => wh[i]?) = wc.map some) (hR : isR.map (fun i => wh[i]?) = wr.map some) (hN : isN.map (fun i => (wr ++ w1)[i]?) = wn.map some) (hd : (va_nd isC && (va_nd isR && (va_nd isN && isR.all (fun i => !(isC.contains i))))) = true)
    (q0 : Nat) (hrc : wc[q0]? = some (b, .inr (k0, fs))) (hcl : vwCl[k0]? = some (C, T, N)) (hst : st0 = As.reverse ++ .ref b :: rest) (hAs : As.length = n) (hsz : ls.size = nL) (hroom : (rest.map fun v => v.category).sum ≤ 8) (hdg : decode cc pc = .ok (.invokevirtual index, 3)) (hc0 : cells ≤ R.cells) (hs0 : slots ≤ R.slots)
    (kk : ∀ (H1 : Heap) (locs1 : List Loc), va_P D vwCl wn H1 → va_D A wn → va_S A s.heap H1 locs1 → W p l e R s m args below meth c H1 locs1 cells slots Q (F0 m (pc + 3) ls (.int res :: rest))) : W p l e R s m args below meth c H locs cells slots Q (F0 m pc ls st0) := by
  obtain ⟨d1, d2, d3, d4⟩ := nd_3 hd
  have hDc : va_D A wc := hD.sub isC d1 hC
  have hPc : va_P D vwCl wc H := hP.sub isC (by
    have h := congrArg (List.filterMap id) hC
    rw [List.filterMap_map, List.filterMap_map] at h
    simpa using h)
  have hFc := va_free (wc := wc) hD hS hA isC hC
  refine va_calli (va_runV (As := As) (rest := rest) S hM cw ⟨Pq_blind, va_recv hK hPc hcl hrc, fun U hU hW => ⟨rfl, by rw [hU], by rw [hU]; exact hPc, va_K.moved hW.alike hK, hDc.weaken (fun _ _ _ _ => trivial)⟩⟩ rfl hAs hsz hst (lv_room hroom) hdg ⟨hc0, hs0⟩) hS (fun q _ h => hFc q h) hFc (fun r u t H1 locs1 ht hvm hw hB hz1 hk1 hS1 => ?_)
  subst hw
  obtain ⟨hP1, hK1, hD1⟩ := hB
  rw [ht] at hP1
  obtain ⟨hP2, hD2⟩ := va_join (wr := wr) (w1 := w1) hP hD isC isR hC hR d2 d4 hk1 hFc hP1 hD1
  refine kk H1 locs1 (hP2.sub isN (by
    have h := congrArg (List.filterMap id) hN
    rw [List.filterMap_map, List.filterMap_map] at h
    simpa using h)) (hD2.sub isN d3 hN) hS1
theorem cl_Vi0 {p : Program} {l : Launch} {e : Env} {R : Room} {s : State} {m : MethodId} {args : Array Value} {below : List Frame} {meth : Method} {c : Code} {H : Heap} {locs : List Loc} {cells slots : Nat} {Q : State → Prop} {cc bytes : ByteArray} {pc : Nat} {ls : Array Slot} {rest As st0 : List Value} {D : va_G} {ci : Nat → ClassId} {A : Nat → Prop} {wc w1 : va_W} {y : MethodName} {ws : List Cond} {rm : Room} {Ts : List Cond} {own C : String} {index n nL maxL : Nat} {ret : Option FieldType} {b k0 N : Nat} {fs : List Value} {T : u_T} {res : Int32} 
    (S : CallFix p m c cc nL s args Ts own) (cw : CallW R s args own C index y bytes maxL ret ws rm 0 0 n) (hM : CtI l y ws rm (.ref b :: As) D ci wc H.size res w1)
    (hK : va_K D vwCl (tyL ci) s) (hP : va_P D vwCl wc H) (hD : va_D A wc) (hS : va_S A s.heap H locs) (hA : ∀ q, s.heap.size ≤ q → A q)
    (q0 : Nat) (hrc : wc[q0]? = some (b, .inr (k0, fs))) (hcl : vwCl[k0]? = some (C, T, N)) (hst : st0 = As.reverse ++ .ref b :: rest) (hAs : As.length = n) (hsz : ls.size = nL) (hroom : (rest.map fun v => v.category).sum ≤ 8) (hdg : decode cc pc = .ok (.invokevirtual index, 3)) (hc0 : cells ≤ R.cells) (hs0 : slots ≤ R.slots)
    (kk : ∀ (H1 : Heap) (locs1 : List Loc), va_P D vwCl w1 H1 → va_D A w1 → va_S A s.heap H1 locs1 → W p l e R s m args below meth c H1 locs1 cells slots Q (F0 m (pc + 3) ls (.int res :: rest))) : W p l e R s m args below meth c H locs cells slots Q (F0 m pc ls st0) := by
  have hDc : va_D A wc := hD
  have hPc : va_P D vwCl wc H := hP
  have hFc : ∀ q, va_A wc H.size q → A q := fun q h => by
    rcases h with ⟨k, e9, h⟩ | h
    · exact hD.2 k _ h
    · exact hA q (Nat.le_trans hS.1 h)
  refine va_calli (va_runV (As := As) (rest := rest) S hM cw ⟨Pq_blind, va_recv hK hPc hcl hrc, fun U hU hW => ⟨rfl, by rw [hU], by rw [hU]; exact hPc, va_K.moved hW.alike hK, hDc.weaken (fun _ _ _ _ => trivial)⟩⟩ rfl hAs hsz hst (lv_room hroom) hdg ⟨hc0, hs0⟩) hS (fun q _ h => hFc q h) hFc (fun r u t H1 locs1 ht hvm hw hB hz1 hk1 hS1 => ?_)
  subst hw
  obtain ⟨hP1, hK1, hD1⟩ := hB
  rw [ht] at hP1
  exact kk H1 locs1 hP1 (hD1.weaken (fun k q _ h => hFc q.1 h)) hS1
theorem cl_Vl {p : Program} {l : Launch} {e : Env} {R : Room} {s : State} {m : MethodId} {args : Array Value} {below : List Frame} {meth : Method} {c : Code} {H : Heap} {locs : List Loc} {cells slots : Nat} {Q : State → Prop} {cc bytes : ByteArray} {pc : Nat} {ls : Array Slot} {rest As st0 : List Value} {D : va_G} {ci : Nat → ClassId} {A : Nat → Prop} {wh wc wr w1 wn : va_W} {y : MethodName} {ws : List Cond} {rm : Room} {Ts : List Cond} {own C : String} {index n nL maxL : Nat} {ret : Option FieldType} {b k0 N : Nat} {fs : List Value} {T : u_T} {res : Int64} 
    (S : CallFix p m c cc nL s args Ts own) (cw : CallW R s args own C index y bytes maxL ret ws rm 0 0 n) (hM : CtL l y ws rm (.ref b :: As) D ci wc H.size res w1)
    (hK : va_K D vwCl (tyL ci) s) (hP : va_P D vwCl wh H) (hD : va_D A wh) (hS : va_S A s.heap H locs) (hA : ∀ q, s.heap.size ≤ q → A q)
    (isC isR isN : List Nat) (hC : isC.map (fun i => wh[i]?) = wc.map some) (hR : isR.map (fun i => wh[i]?) = wr.map some) (hN : isN.map (fun i => (wr ++ w1)[i]?) = wn.map some) (hd : (va_nd isC && (va_nd isR && (va_nd isN && isR.all (fun i => !(isC.contains i))))) = true)
    (q0 : Nat) (hrc : wc[q0]? = some (b, .inr (k0, fs))) (hcl : vwCl[k0]? = some (C, T, N)) (hst : st0 = As.reverse ++ .ref b :: rest) (hAs : As.length = n) (hsz : ls.size = nL) (hroom : (rest.map fun v => v.category).sum ≤ 8) (hdg : decode cc pc = .ok (.invokevirtual index, 3)) (hc0 : cells ≤ R.cells) (hs0 : slots ≤ R.slots)
    (kk : ∀ (H1 : Heap) (locs1 : List Loc), va_P D vwCl wn H1 → va_D A wn → va_S A s.heap H1 locs1 → W p l e R s m args below meth c H1 locs1 cells slots Q (F0 m (pc + 3) ls (.long res :: rest))) : W p l e R s m args below meth c H locs cells slots Q (F0 m pc ls st0) := by
  obtain ⟨d1, d2, d3, d4⟩ := nd_3 hd
  have hDc : va_D A wc := hD.sub isC d1 hC
  have hPc : va_P D vwCl wc H := hP.sub isC (by
    have h := congrArg (List.filterMap id) hC
    rw [List.filterMap_map, List.filterMap_map] at h
    simpa using h)
  have hFc := va_free (wc := wc) hD hS hA isC hC
  refine va_calll (va_runV (As := As) (rest := rest) S hM cw ⟨Pq_blind, va_recv hK hPc hcl hrc, fun U hU hW => ⟨rfl, by rw [hU], by rw [hU]; exact hPc, va_K.moved hW.alike hK, hDc.weaken (fun _ _ _ _ => trivial)⟩⟩ rfl hAs hsz hst (lv_room hroom) hdg ⟨hc0, hs0⟩) hS (fun q _ h => hFc q h) hFc (fun r u t H1 locs1 ht hvm hw hB hz1 hk1 hS1 => ?_)
  subst hw
  obtain ⟨hP1, hK1, hD1⟩ := hB
  rw [ht] at hP1
  obtain ⟨hP2, hD2⟩ := va_join (wr := wr) (w1 := w1) hP hD isC isR hC hR d2 d4 hk1 hFc hP1 hD1
  refine kk H1 locs1 (hP2.sub isN (by
    have h := congrArg (List.filterMap id) hN
    rw [List.filterMap_map, List.filterMap_map] at h
    simpa using h)) (hD2.sub isN d3 hN) hS1
theorem cl_Vl0 {p : Program} {l : Launch} {e : Env} {R : Room} {s : State} {m : MethodId} {args : Array Value} {below : List Frame} {meth : Method} {c : Code} {H : Heap} {locs : List Loc} {cells slots : Nat} {Q : State → Prop} {cc bytes : ByteArray} {pc : Nat} {ls : Array Slot} {rest As st0 : List Value} {D : va_G} {ci : Nat → ClassId} {A : Nat → Prop} {wc w1 : va_W} {y : MethodName} {ws : List Cond} {rm : Room} {Ts : List Cond} {own C : String} {index n nL maxL : Nat} {ret : Option FieldType} {b k0 N : Nat} {fs : List Value} {T : u_T} {res : Int64} 
    (S : CallFix p m c cc nL s args Ts own) (cw : CallW R s args own C index y bytes maxL ret ws rm 0 0 n) (hM : CtL l y ws rm (.ref b :: As) D ci wc H.size res w1)
    (hK : va_K D vwCl (tyL ci) s) (hP : va_P D vwCl wc H) (hD : va_D A wc) (hS : va_S A s.heap H locs) (hA : ∀ q, s.heap.size ≤ q → A q)
    (q0 : Nat) (hrc : wc[q0]? = some (b, .inr (k0, fs))) (hcl : vwCl[k0]? = some (C, T, N)) (hst : st0 = As.reverse ++ .ref b :: rest) (hAs : As.length = n) (hsz : ls.size = nL) (hroom : (rest.map fun v => v.category).sum ≤ 8) (hdg : decode cc pc = .ok (.invokevirtual index, 3)) (hc0 : cells ≤ R.cells) (hs0 : slots ≤ R.slots)
    (kk : ∀ (H1 : Heap) (locs1 : List Loc), va_P D vwCl w1 H1 → va_D A w1 → va_S A s.heap H1 locs1 → W p l e R s m args below meth c H1 locs1 cells slots Q (F0 m (pc + 3) ls (.long res :: rest))) : W p l e R s m args below meth c H locs cells slots Q (F0 m pc ls st0) := by
  have hDc : va_D A wc := hD
  have hPc : va_P D vwCl wc H := hP
  have hFc : ∀ q, va_A wc H.size q → A q := fun q h => by
    rcases h with ⟨k, e9, h⟩ | h
    · exact hD.2 k _ h
    · exact hA q (Nat.le_trans hS.1 h)
  refine va_calll (va_runV (As := As) (rest := rest) S hM cw ⟨Pq_blind, va_recv hK hPc hcl hrc, fun U hU hW => ⟨rfl, by rw [hU], by rw [hU]; exact hPc, va_K.moved hW.alike hK, hDc.weaken (fun _ _ _ _ => trivial)⟩⟩ rfl hAs hsz hst (lv_room hroom) hdg ⟨hc0, hs0⟩) hS (fun q _ h => hFc q h) hFc (fun r u t H1 locs1 ht hvm hw hB hz1 hk1 hS1 => ?_)
  subst hw
  obtain ⟨hP1, hK1, hD1⟩ := hB
  rw [ht] at hP1
  exact kk H1 locs1 hP1 (hD1.weaken (fun k q _ h => hFc q.1 h)) hS1
theorem cl_Vv {p : Program} {l : Launch} {e : Env} {R : Room} {s : State} {m : MethodId} {args : Array Value} {below : List Frame} {meth : Method} {c : Code} {H : Heap} {locs : List Loc} {cells slots : Nat} {Q : State → Prop} {cc bytes : ByteArray} {pc : Nat} {ls : Array Slot} {rest As st0 : List Value} {D : va_G} {ci : Nat → ClassId} {A : Nat → Prop} {wh wc wr w1 wn : va_W} {y : MethodName} {ws : List Cond} {rm : Room} {Ts : List Cond} {own C : String} {index n nL maxL : Nat} {ret : Option FieldType} {b k0 N : Nat} {fs : List Value} {T : u_T} 
    (S : CallFix p m c cc nL s args Ts own) (cw : CallW R s args own C index y bytes maxL ret ws rm 0 0 n) (hM : CtV l y ws rm (.ref b :: As) D ci wc H.size w1)
    (hK : va_K D vwCl (tyL ci) s) (hP : va_P D vwCl wh H) (hD : va_D A wh) (hS : va_S A s.heap H locs) (hA : ∀ q, s.heap.size ≤ q → A q)
    (isC isR isN : List Nat) (hC : isC.map (fun i => wh[i]?) = wc.map some) (hR : isR.map (fun i => wh[i]?) = wr.map some) (hN : isN.map (fun i => (wr ++ w1)[i]?) = wn.map some) (hd : (va_nd isC && (va_nd isR && (va_nd isN && isR.all (fun i => !(isC.contains i))))) = true)
    (q0 : Nat) (hrc : wc[q0]? = some (b, .inr (k0, fs))) (hcl : vwCl[k0]? = some (C, T, N)) (hst : st0 = As.reverse ++ .ref b :: rest) (hAs : As.length = n) (hsz : ls.size = nL) (hroom : (rest.map fun v => v.category).sum ≤ 8) (hdg : decode cc pc = .ok (.invokevirtual index, 3)) (hc0 : cells ≤ R.cells) (hs0 : slots ≤ R.slots)
    (kk : ∀ (H1 : Heap) (locs1 : List Loc), va_P D vwCl wn H1 → va_D A wn → va_S A s.heap H1 locs1 → W p l e R s m args below meth c H1 locs1 cells slots Q (F0 m (pc + 3) ls (rest))) : W p l e R s m args below meth c H locs cells slots Q (F0 m pc ls st0) := by
  obtain ⟨d1, d2, d3, d4⟩ := nd_3 hd
  have hDc : va_D A wc := hD.sub isC d1 hC
  have hPc : va_P D vwCl wc H := hP.sub isC (by
    have h := congrArg (List.filterMap id) hC
    rw [List.filterMap_map, List.filterMap_map] at h
    simpa using h)
  have hFc := va_free (wc := wc) hD hS hA isC hC
  refine va_callv (va_runV (As := As) (rest := rest) S hM cw ⟨Pq_blind, va_recv hK hPc hcl hrc, fun U hU hW => ⟨rfl, by rw [hU], by rw [hU]; exact hPc, va_K.moved hW.alike hK, hDc.weaken (fun _ _ _ _ => trivial)⟩⟩ rfl hAs hsz hst (lv_room hroom) hdg ⟨hc0, hs0⟩) hS (fun q _ h => hFc q h) hFc (fun u t H1 locs1 ht hvm hw hB hz1 hk1 hS1 => ?_)
  obtain ⟨hP1, hK1, hD1⟩ := hB
  rw [ht] at hP1
  obtain ⟨hP2, hD2⟩ := va_join (wr := wr) (w1 := w1) hP hD isC isR hC hR d2 d4 hk1 hFc hP1 hD1
  refine kk H1 locs1 (hP2.sub isN (by
    have h := congrArg (List.filterMap id) hN
    rw [List.filterMap_map, List.filterMap_map] at h
    simpa using h)) (hD2.sub isN d3 hN) hS1
theorem cl_Vv0 {p : Program} {l : Launch} {e : Env} {R : Room} {s : State} {m : MethodId} {args : Array Value} {below : List Frame} {meth : Method} {c : Code} {H : Heap} {locs : List Loc} {cells slots : Nat} {Q : State → Prop} {cc bytes : ByteArray} {pc : Nat} {ls : Array Slot} {rest As st0 : List Value} {D : va_G} {ci : Nat → ClassId} {A : Nat → Prop} {wc w1 : va_W} {y : MethodName} {ws : List Cond} {rm : Room} {Ts : List Cond} {own C : String} {index n nL maxL : Nat} {ret : Option FieldType} {b k0 N : Nat} {fs : List Value} {T : u_T} 
    (S : CallFix p m c cc nL s args Ts own) (cw : CallW R s args own C index y bytes maxL ret ws rm 0 0 n) (hM : CtV l y ws rm (.ref b :: As) D ci wc H.size w1)
    (hK : va_K D vwCl (tyL ci) s) (hP : va_P D vwCl wc H) (hD : va_D A wc) (hS : va_S A s.heap H locs) (hA : ∀ q, s.heap.size ≤ q → A q)
    (q0 : Nat) (hrc : wc[q0]? = some (b, .inr (k0, fs))) (hcl : vwCl[k0]? = some (C, T, N)) (hst : st0 = As.reverse ++ .ref b :: rest) (hAs : As.length = n) (hsz : ls.size = nL) (hroom : (rest.map fun v => v.category).sum ≤ 8) (hdg : decode cc pc = .ok (.invokevirtual index, 3)) (hc0 : cells ≤ R.cells) (hs0 : slots ≤ R.slots)
    (kk : ∀ (H1 : Heap) (locs1 : List Loc), va_P D vwCl w1 H1 → va_D A w1 → va_S A s.heap H1 locs1 → W p l e R s m args below meth c H1 locs1 cells slots Q (F0 m (pc + 3) ls (rest))) : W p l e R s m args below meth c H locs cells slots Q (F0 m pc ls st0) := by
  have hDc : va_D A wc := hD
  have hPc : va_P D vwCl wc H := hP
  have hFc : ∀ q, va_A wc H.size q → A q := fun q h => by
    rcases h with ⟨k, e9, h⟩ | h
    · exact hD.2 k _ h
    · exact hA q (Nat.le_trans hS.1 h)
  refine va_callv (va_runV (As := As) (rest := rest) S hM cw ⟨Pq_blind, va_recv hK hPc hcl hrc, fun U hU hW => ⟨rfl, by rw [hU], by rw [hU]; exact hPc, va_K.moved hW.alike hK, hDc.weaken (fun _ _ _ _ => trivial)⟩⟩ rfl hAs hsz hst (lv_room hroom) hdg ⟨hc0, hs0⟩) hS (fun q _ h => hFc q h) hFc (fun u t H1 locs1 ht hvm hw hB hz1 hk1 hS1 => ?_)
  obtain ⟨hP1, hK1, hD1⟩ := hB
  rw [ht] at hP1
  exact kk H1 locs1 hP1 (hD1.weaken (fun k q _ h => hFc q.1 h)) hS1
theorem cl_Si {p : Program} {l : Launch} {e : Env} {R : Room} {s : State} {m : MethodId} {args : Array Value} {below : List Frame} {meth : Method} {c : Code} {H : Heap} {locs : List Loc} {cells slots : Nat} {Q : State → Prop} {cc bytes : ByteArray} {pc : Nat} {ls : Array Slot} {rest As st0 : List Value} {D : va_G} {ci : Nat → ClassId} {A : Nat → Prop} {wh wc wr w1 wn : va_W} {y : MethodName} {ws : List Cond} {rm : Room} {Ts : List Cond} {own C : String} {index n nL maxL : Nat} {ret : Option FieldType} {b k0 N : Nat} {fs : List Value} {T : u_T} {res : Int32} 
    (S : CallFix p m c cc nL s args Ts own) (cw : CallB R s args own index y bytes maxL ret ws rm 0 0 n ∧ (Cond.static y).before args s = true) (hM : CtI l y ws rm As D ci wc H.size res w1)
    (hK : va_K D vwCl (tyL ci) s) (hP : va_P D vwCl wh H) (hD : va_D A wh) (hS : va_S A s.heap H locs) (hA : ∀ q, s.heap.size ≤ q → A q)
    (isC isR isN : List Nat) (hC : isC.map (fun i => wh[i]?) = wc.map some) (hR : isR.map (fun i => wh[i]?) = wr.map some) (hN : isN.map (fun i => (wr ++ w1)[i]?) = wn.map some) (hd : (va_nd isC && (va_nd isR && (va_nd isN && isR.all (fun i => !(isC.contains i))))) = true)
    (hst : st0 = As.reverse ++ rest) (hAs : As.length = n) (hsz : ls.size = nL) (hroom : (rest.map fun v => v.category).sum ≤ 8) (hdg : decode cc pc = .ok (.invokestatic index, 3)) (hc0 : cells ≤ R.cells) (hs0 : slots ≤ R.slots)
    (kk : ∀ (H1 : Heap) (locs1 : List Loc), va_P D vwCl wn H1 → va_D A wn → va_S A s.heap H1 locs1 → W p l e R s m args below meth c H1 locs1 cells slots Q (F0 m (pc + 3) ls (.int res :: rest))) : W p l e R s m args below meth c H locs cells slots Q (F0 m pc ls st0) := by
  obtain ⟨d1, d2, d3, d4⟩ := nd_3 hd
  have hDc : va_D A wc := hD.sub isC d1 hC
  have hPc : va_P D vwCl wc H := hP.sub isC (by
    have h := congrArg (List.filterMap id) hC
    rw [List.filterMap_map, List.filterMap_map] at h
    simpa using h)
  have hFc := va_free (wc := wc) hD hS hA isC hC
  refine va_calli (va_runS (As := As) (rest := rest) S hM cw ⟨Pq_blind, fun U hU hW => ⟨rfl, by rw [hU], by rw [hU]; exact hPc, va_K.moved hW.alike hK, hDc.weaken (fun _ _ _ _ => trivial)⟩⟩ rfl hAs hsz hst (lv_room hroom) hdg ⟨hc0, hs0⟩) hS (fun q _ h => hFc q h) hFc (fun r u t H1 locs1 ht hvm hw hB hz1 hk1 hS1 => ?_)
  subst hw
  obtain ⟨hP1, hK1, hD1⟩ := hB
  rw [ht] at hP1
  obtain ⟨hP2, hD2⟩ := va_join (wr := wr) (w1 := w1) hP hD isC isR hC hR d2 d4 hk1 hFc hP1 hD1
  refine kk H1 locs1 (hP2.sub isN (by
    have h := congrArg (List.filterMap id) hN
    rw [List.filterMap_map, List.filterMap_map] at h
    simpa using h)) (hD2.sub isN d3 hN) hS1
theorem cl_Si0 {p : Program} {l : Launch} {e : Env} {R : Room} {s : State} {m : MethodId} {args : Array Value} {below : List Frame} {meth : Method} {c : Code} {H : Heap} {locs : List Loc} {cells slots : Nat} {Q : State → Prop} {cc bytes : ByteArray} {pc : Nat} {ls : Array Slot} {rest As st0 : List Value} {D : va_G} {ci : Nat → ClassId} {A : Nat → Prop} {wc w1 : va_W} {y : MethodName} {ws : List Cond} {rm : Room} {Ts : List Cond} {own C : String} {index n nL maxL : Nat} {ret : Option FieldType} {b k0 N : Nat} {fs : List Value} {T : u_T} {res : Int32} 
    (S : CallFix p m c cc nL s args Ts own) (cw : CallB R s args own index y bytes maxL ret ws rm 0 0 n ∧ (Cond.static y).before args s = true) (hM : CtI l y ws rm As D ci wc H.size res w1)
    (hK : va_K D vwCl (tyL ci) s) (hP : va_P D vwCl wc H) (hD : va_D A wc) (hS : va_S A s.heap H locs) (hA : ∀ q, s.heap.size ≤ q → A q)
    (hst : st0 = As.reverse ++ rest) (hAs : As.length = n) (hsz : ls.size = nL) (hroom : (rest.map fun v => v.category).sum ≤ 8) (hdg : decode cc pc = .ok (.invokestatic index, 3)) (hc0 : cells ≤ R.cells) (hs0 : slots ≤ R.slots)
    (kk : ∀ (H1 : Heap) (locs1 : List Loc), va_P D vwCl w1 H1 → va_D A w1 → va_S A s.heap H1 locs1 → W p l e R s m args below meth c H1 locs1 cells slots Q (F0 m (pc + 3) ls (.int res :: rest))) : W p l e R s m args below meth c H locs cells slots Q (F0 m pc ls st0) := by
  have hDc : va_D A wc := hD
  have hPc : va_P D vwCl wc H := hP
  have hFc : ∀ q, va_A wc H.size q → A q := fun q h => by
    rcases h with ⟨k, e9, h⟩ | h
    · exact hD.2 k _ h
    · exact hA q (Nat.le_trans hS.1 h)
  refine va_calli (va_runS (As := As) (rest := rest) S hM cw ⟨Pq_blind, fun U hU hW => ⟨rfl, by rw [hU], by rw [hU]; exact hPc, va_K.moved hW.alike hK, hDc.weaken (fun _ _ _ _ => trivial)⟩⟩ rfl hAs hsz hst (lv_room hroom) hdg ⟨hc0, hs0⟩) hS (fun q _ h => hFc q h) hFc (fun r u t H1 locs1 ht hvm hw hB hz1 hk1 hS1 => ?_)
  subst hw
  obtain ⟨hP1, hK1, hD1⟩ := hB
  rw [ht] at hP1
  exact kk H1 locs1 hP1 (hD1.weaken (fun k q _ h => hFc q.1 h)) hS1
theorem cl_Sie {p : Program} {l : Launch} {e : Env} {R : Room} {s : State} {m : MethodId} {args : Array Value} {below : List Frame} {meth : Method} {c : Code} {H : Heap} {locs : List Loc} {cells slots : Nat} {Q : State → Prop} {cc bytes : ByteArray} {pc : Nat} {ls : Array Slot} {rest As st0 : List Value} {D : va_G} {ci : Nat → ClassId} {A : Nat → Prop} {wh : va_W} {y : MethodName} {ws : List Cond} {rm : Room} {Ts : List Cond} {own : String} {index n nL maxL : Nat} {ret : Option FieldType} {res : Int32} 
    (S : CallFix p m c cc nL s args Ts own) (cw : CallB R s args own index y bytes maxL ret ws rm 0 0 n ∧ (Cond.static y).before args s = true) (hM : CtI l y ws rm As D ci [] H.size res [])
    (hK : va_K D vwCl (tyL ci) s) (hP : va_P D vwCl wh H) (hD : va_D A wh) (hS : va_S A s.heap H locs) (hA : ∀ q, s.heap.size ≤ q → A q)
    (hst : st0 = As.reverse ++ rest) (hAs : As.length = n) (hsz : ls.size = nL) (hroom : (rest.map fun v => v.category).sum ≤ 8) (hdg : decode cc pc = .ok (.invokestatic index, 3)) (hc0 : cells ≤ R.cells) (hs0 : slots ≤ R.slots)
    (kk : ∀ (H1 : Heap) (locs1 : List Loc), va_P D vwCl wh H1 → va_D A wh → va_S A s.heap H1 locs1 → W p l e R s m args below meth c H1 locs1 cells slots Q (F0 m (pc + 3) ls (.int res :: rest))) : W p l e R s m args below meth c H locs cells slots Q (F0 m pc ls st0) := by
  have hDc : va_D A [] := ⟨fun i j p q h => by simp at h, fun k q h => by simp at h⟩
  have hPc : va_P D vwCl [] H := fun k q h => by simp at h
  have hFc : ∀ q, va_A [] H.size q → A q := fun q h => by
    rcases h with ⟨k, e9, h⟩ | h
    · simp at h
    · exact hA q (Nat.le_trans hS.1 h)
  refine va_calli (va_runS (As := As) (rest := rest) S hM cw ⟨Pq_blind, fun U hU hW => ⟨rfl, by rw [hU], by rw [hU]; exact hPc, va_K.moved hW.alike hK, hDc.weaken (fun _ _ _ _ => trivial)⟩⟩ rfl hAs hsz hst (lv_room hroom) hdg ⟨hc0, hs0⟩) hS (fun q _ h => hFc q h) hFc (fun r u t H1 locs1 ht hvm hw hB hz1 hk1 hS1 => ?_)
  subst hw
  refine kk H1 locs1 (hP.kept (fun k q hk => hk1 q.1 (hP k q hk).lt (fun h => ?_))) hD hS1
  rcases h with ⟨k, e9, h⟩ | h
  · simp at h
  · exact absurd (hP _ _ hk).lt (Nat.not_lt.mpr h)
theorem cl_Sl {p : Program} {l : Launch} {e : Env} {R : Room} {s : State} {m : MethodId} {args : Array Value} {below : List Frame} {meth : Method} {c : Code} {H : Heap} {locs : List Loc} {cells slots : Nat} {Q : State → Prop} {cc bytes : ByteArray} {pc : Nat} {ls : Array Slot} {rest As st0 : List Value} {D : va_G} {ci : Nat → ClassId} {A : Nat → Prop} {wh wc wr w1 wn : va_W} {y : MethodName} {ws : List Cond} {rm : Room} {Ts : List Cond} {own C : String} {index n nL maxL : Nat} {ret : Option FieldType} {b k0 N : Nat} {fs : List Value} {T : u_T} {res : Int64} 
    (S : CallFix p m c cc nL s args Ts own) (cw : CallB R s args own index y bytes maxL ret ws rm 0 0 n ∧ (Cond.static y).before args s = true) (hM : CtL l y ws rm As D ci wc H.size res w1)
    (hK : va_K D vwCl (tyL ci) s) (hP : va_P D vwCl wh H) (hD : va_D A wh) (hS : va_S A s.heap H locs) (hA : ∀ q, s.heap.size ≤ q → A q)
    (isC isR isN : List Nat) (hC : isC.map (fun i => wh[i]?) = wc.map some) (hR : isR.map (fun i => wh[i]?) = wr.map some) (hN : isN.map (fun i => (wr ++ w1)[i]?) = wn.map some) (hd : (va_nd isC && (va_nd isR && (va_nd isN && isR.all (fun i => !(isC.contains i))))) = true)
    (hst : st0 = As.reverse ++ rest) (hAs : As.length = n) (hsz : ls.size = nL) (hroom : (rest.map fun v => v.category).sum ≤ 8) (hdg : decode cc pc = .ok (.invokestatic index, 3)) (hc0 : cells ≤ R.cells) (hs0 : slots ≤ R.slots)
    (kk : ∀ (H1 : Heap) (locs1 : List Loc), va_P D vwCl wn H1 → va_D A wn → va_S A s.heap H1 locs1 → W p l e R s m args below meth c H1 locs1 cells slots Q (F0 m (pc + 3) ls (.long res :: rest))) : W p l e R s m args below meth c H locs cells slots Q (F0 m pc ls st0) := by
  obtain ⟨d1, d2, d3, d4⟩ := nd_3 hd
  have hDc : va_D A wc := hD.sub isC d1 hC
  have hPc : va_P D vwCl wc H := hP.sub isC (by
    have h := congrArg (List.filterMap id) hC
    rw [List.filterMap_map, List.filterMap_map] at h
    simpa using h)
  have hFc := va_free (wc := wc) hD hS hA isC hC
  refine va_calll (va_runS (As := As) (rest := rest) S hM cw ⟨Pq_blind, fun U hU hW => ⟨rfl, by rw [hU], by rw [hU]; exact hPc, va_K.moved hW.alike hK, hDc.weaken (fun _ _ _ _ => trivial)⟩⟩ rfl hAs hsz hst (lv_room hroom) hdg ⟨hc0, hs0⟩) hS (fun q _ h => hFc q h) hFc (fun r u t H1 locs1 ht hvm hw hB hz1 hk1 hS1 => ?_)
  subst hw
  obtain ⟨hP1, hK1, hD1⟩ := hB
  rw [ht] at hP1
  obtain ⟨hP2, hD2⟩ := va_join (wr := wr) (w1 := w1) hP hD isC isR hC hR d2 d4 hk1 hFc hP1 hD1
  refine kk H1 locs1 (hP2.sub isN (by
    have h := congrArg (List.filterMap id) hN
    rw [List.filterMap_map, List.filterMap_map] at h
    simpa using h)) (hD2.sub isN d3 hN) hS1
theorem cl_Sl0 {p : Program} {l : Launch} {e : Env} {R : Room} {s : State} {m : MethodId} {args : Array Value} {below : List Frame} {meth : Method} {c : Code} {H : Heap} {locs : List Loc} {cells slots : Nat} {Q : State → Prop} {cc bytes : ByteArray} {pc : Nat} {ls : Array Slot} {rest As st0 : List Value} {D : va_G} {ci : Nat → ClassId} {A : Nat → Prop} {wc w1 : va_W} {y : MethodName} {ws : List Cond} {rm : Room} {Ts : List Cond} {own C : String} {index n nL maxL : Nat} {ret : Option FieldType} {b k0 N : Nat} {fs : List Value} {T : u_T} {res : Int64} 
    (S : CallFix p m c cc nL s args Ts own) (cw : CallB R s args own index y bytes maxL ret ws rm 0 0 n ∧ (Cond.static y).before args s = true) (hM : CtL l y ws rm As D ci wc H.size res w1)
    (hK : va_K D vwCl (tyL ci) s) (hP : va_P D vwCl wc H) (hD : va_D A wc) (hS : va_S A s.heap H locs) (hA : ∀ q, s.heap.size ≤ q → A q)
    (hst : st0 = As.reverse ++ rest) (hAs : As.length = n) (hsz : ls.size = nL) (hroom : (rest.map fun v => v.category).sum ≤ 8) (hdg : decode cc pc = .ok (.invokestatic index, 3)) (hc0 : cells ≤ R.cells) (hs0 : slots ≤ R.slots)
    (kk : ∀ (H1 : Heap) (locs1 : List Loc), va_P D vwCl w1 H1 → va_D A w1 → va_S A s.heap H1 locs1 → W p l e R s m args below meth c H1 locs1 cells slots Q (F0 m (pc + 3) ls (.long res :: rest))) : W p l e R s m args below meth c H locs cells slots Q (F0 m pc ls st0) := by
  have hDc : va_D A wc := hD
  have hPc : va_P D vwCl wc H := hP
  have hFc : ∀ q, va_A wc H.size q → A q := fun q h => by
    rcases h with ⟨k, e9, h⟩ | h
    · exact hD.2 k _ h
    · exact hA q (Nat.le_trans hS.1 h)
  refine va_calll (va_runS (As := As) (rest := rest) S hM cw ⟨Pq_blind, fun U hU hW => ⟨rfl, by rw [hU], by rw [hU]; exact hPc, va_K.moved hW.alike hK, hDc.weaken (fun _ _ _ _ => trivial)⟩⟩ rfl hAs hsz hst (lv_room hroom) hdg ⟨hc0, hs0⟩) hS (fun q _ h => hFc q h) hFc (fun r u t H1 locs1 ht hvm hw hB hz1 hk1 hS1 => ?_)
  subst hw
  obtain ⟨hP1, hK1, hD1⟩ := hB
  rw [ht] at hP1
  exact kk H1 locs1 hP1 (hD1.weaken (fun k q _ h => hFc q.1 h)) hS1
theorem cl_Sle {p : Program} {l : Launch} {e : Env} {R : Room} {s : State} {m : MethodId} {args : Array Value} {below : List Frame} {meth : Method} {c : Code} {H : Heap} {locs : List Loc} {cells slots : Nat} {Q : State → Prop} {cc bytes : ByteArray} {pc : Nat} {ls : Array Slot} {rest As st0 : List Value} {D : va_G} {ci : Nat → ClassId} {A : Nat → Prop} {wh : va_W} {y : MethodName} {ws : List Cond} {rm : Room} {Ts : List Cond} {own : String} {index n nL maxL : Nat} {ret : Option FieldType} {res : Int64} 
    (S : CallFix p m c cc nL s args Ts own) (cw : CallB R s args own index y bytes maxL ret ws rm 0 0 n ∧ (Cond.static y).before args s = true) (hM : CtL l y ws rm As D ci [] H.size res [])
    (hK : va_K D vwCl (tyL ci) s) (hP : va_P D vwCl wh H) (hD : va_D A wh) (hS : va_S A s.heap H locs) (hA : ∀ q, s.heap.size ≤ q → A q)
    (hst : st0 = As.reverse ++ rest) (hAs : As.length = n) (hsz : ls.size = nL) (hroom : (rest.map fun v => v.category).sum ≤ 8) (hdg : decode cc pc = .ok (.invokestatic index, 3)) (hc0 : cells ≤ R.cells) (hs0 : slots ≤ R.slots)
    (kk : ∀ (H1 : Heap) (locs1 : List Loc), va_P D vwCl wh H1 → va_D A wh → va_S A s.heap H1 locs1 → W p l e R s m args below meth c H1 locs1 cells slots Q (F0 m (pc + 3) ls (.long res :: rest))) : W p l e R s m args below meth c H locs cells slots Q (F0 m pc ls st0) := by
  have hDc : va_D A [] := ⟨fun i j p q h => by simp at h, fun k q h => by simp at h⟩
  have hPc : va_P D vwCl [] H := fun k q h => by simp at h
  have hFc : ∀ q, va_A [] H.size q → A q := fun q h => by
    rcases h with ⟨k, e9, h⟩ | h
    · simp at h
    · exact hA q (Nat.le_trans hS.1 h)
  refine va_calll (va_runS (As := As) (rest := rest) S hM cw ⟨Pq_blind, fun U hU hW => ⟨rfl, by rw [hU], by rw [hU]; exact hPc, va_K.moved hW.alike hK, hDc.weaken (fun _ _ _ _ => trivial)⟩⟩ rfl hAs hsz hst (lv_room hroom) hdg ⟨hc0, hs0⟩) hS (fun q _ h => hFc q h) hFc (fun r u t H1 locs1 ht hvm hw hB hz1 hk1 hS1 => ?_)
  subst hw
  refine kk H1 locs1 (hP.kept (fun k q hk => hk1 q.1 (hP k q hk).lt (fun h => ?_))) hD hS1
  rcases h with ⟨k, e9, h⟩ | h
  · simp at h
  · exact absurd (hP _ _ hk).lt (Nat.not_lt.mpr h)
theorem cl_Sv {p : Program} {l : Launch} {e : Env} {R : Room} {s : State} {m : MethodId} {args : Array Value} {below : List Frame} {meth : Method} {c : Code} {H : Heap} {locs : List Loc} {cells slots : Nat} {Q : State → Prop} {cc bytes : ByteArray} {pc : Nat} {ls : Array Slot} {rest As st0 : List Value} {D : va_G} {ci : Nat → ClassId} {A : Nat → Prop} {wh wc wr w1 wn : va_W} {y : MethodName} {ws : List Cond} {rm : Room} {Ts : List Cond} {own C : String} {index n nL maxL : Nat} {ret : Option FieldType} {b k0 N : Nat} {fs : List Value} {T : u_T} 
    (S : CallFix p m c cc nL s args Ts own) (cw : CallB R s args own index y bytes maxL ret ws rm 0 0 n ∧ (Cond.static y).before args s = true) (hM : CtV l y ws rm As D ci wc H.size w1)
    (hK : va_K D vwCl (tyL ci) s) (hP : va_P D vwCl wh H) (hD : va_D A wh) (hS : va_S A s.heap H locs) (hA : ∀ q, s.heap.size ≤ q → A q)
    (isC isR isN : List Nat) (hC : isC.map (fun i => wh[i]?) = wc.map some) (hR : isR.map (fun i => wh[i]?) = wr.map some) (hN : isN.map (fun i => (wr ++ w1)[i]?) = wn.map some) (hd : (va_nd isC && (va_nd isR && (va_nd isN && isR.all (fun i => !(isC.contains i))))) = true)
    (hst : st0 = As.reverse ++ rest) (hAs : As.length = n) (hsz : ls.size = nL) (hroom : (rest.map fun v => v.category).sum ≤ 8) (hdg : decode cc pc = .ok (.invokestatic index, 3)) (hc0 : cells ≤ R.cells) (hs0 : slots ≤ R.slots)
    (kk : ∀ (H1 : Heap) (locs1 : List Loc), va_P D vwCl wn H1 → va_D A wn → va_S A s.heap H1 locs1 → W p l e R s m args below meth c H1 locs1 cells slots Q (F0 m (pc + 3) ls (rest))) : W p l e R s m args below meth c H locs cells slots Q (F0 m pc ls st0) := by
  obtain ⟨d1, d2, d3, d4⟩ := nd_3 hd
  have hDc : va_D A wc := hD.sub isC d1 hC
  have hPc : va_P D vwCl wc H := hP.sub isC (by
    have h := congrArg (List.filterMap id) hC
    rw [List.filterMap_map, List.filterMap_map] at h
    simpa using h)
  have hFc := va_free (wc := wc) hD hS hA isC hC
  refine va_callv (va_runS (As := As) (rest := rest) S hM cw ⟨Pq_blind, fun U hU hW => ⟨rfl, by rw [hU], by rw [hU]; exact hPc, va_K.moved hW.alike hK, hDc.weaken (fun _ _ _ _ => trivial)⟩⟩ rfl hAs hsz hst (lv_room hroom) hdg ⟨hc0, hs0⟩) hS (fun q _ h => hFc q h) hFc (fun u t H1 locs1 ht hvm hw hB hz1 hk1 hS1 => ?_)
  obtain ⟨hP1, hK1, hD1⟩ := hB
  rw [ht] at hP1
  obtain ⟨hP2, hD2⟩ := va_join (wr := wr) (w1 := w1) hP hD isC isR hC hR d2 d4 hk1 hFc hP1 hD1
  refine kk H1 locs1 (hP2.sub isN (by
    have h := congrArg (List.filterMap id) hN
    rw [List.filterMap_map, List.filterMap_map] at h
    simpa using h)) (hD2.sub isN d3 hN) hS1
theorem cl_Sv0 {p : Program} {l : Launch} {e : Env} {R : Room} {s : State} {m : MethodId} {args : Array Value} {below : List Frame} {meth : Method} {c : Code} {H : Heap} {locs : List Loc} {cells slots : Nat} {Q : State → Prop} {cc bytes : ByteArray} {pc : Nat} {ls : Array Slot} {rest As st0 : List Value} {D : va_G} {ci : Nat → ClassId} {A : Nat → Prop} {wc w1 : va_W} {y : MethodName} {ws : List Cond} {rm : Room} {Ts : List Cond} {own C : String} {index n nL maxL : Nat} {ret : Option FieldType} {b k0 N : Nat} {fs : List Value} {T : u_T} 
    (S : CallFix p m c cc nL s args Ts own) (cw : CallB R s args own index y bytes maxL ret ws rm 0 0 n ∧ (Cond.static y).before args s = true) (hM : CtV l y ws rm As D ci wc H.size w1)
    (hK : va_K D vwCl (tyL ci) s) (hP : va_P D vwCl wc H) (hD : va_D A wc) (hS : va_S A s.heap H locs) (hA : ∀ q, s.heap.size ≤ q → A q)
    (hst : st0 = As.reverse ++ rest) (hAs : As.length = n) (hsz : ls.size = nL) (hroom : (rest.map fun v => v.category).sum ≤ 8) (hdg : decode cc pc = .ok (.invokestatic index, 3)) (hc0 : cells ≤ R.cells) (hs0 : slots ≤ R.slots)
    (kk : ∀ (H1 : Heap) (locs1 : List Loc), va_P D vwCl w1 H1 → va_D A w1 → va_S A s.heap H1 locs1 → W p l e R s m args below meth c H1 locs1 cells slots Q (F0 m (pc + 3) ls (rest))) : W p l e R s m args below meth c H locs cells slots Q (F0 m pc ls st0) := by
  have hDc : va_D A wc := hD
  have hPc : va_P D vwCl wc H := hP
  have hFc : ∀ q, va_A wc H.size q → A q := fun q h => by
    rcases h with ⟨k, e9, h⟩ | h
    · exact hD.2 k _ h
    · exact hA q (Nat.le_trans hS.1 h)
  refine va_callv (va_runS (As := As) (rest := rest) S hM cw ⟨Pq_blind, fun U hU hW => ⟨rfl, by rw [hU], by rw [hU]; exact hPc, va_K.moved hW.alike hK, hDc.weaken (fun _ _ _ _ => trivial)⟩⟩ rfl hAs hsz hst (lv_room hroom) hdg ⟨hc0, hs0⟩) hS (fun q _ h => hFc q h) hFc (fun u t H1 locs1 ht hvm hw hB hz1 hk1 hS1 => ?_)
  obtain ⟨hP1, hK1, hD1⟩ := hB
  rw [ht] at hP1
  exact kk H1 locs1 hP1 (hD1.weaken (fun k q _ h => hFc q.1 h)) hS1
theorem cl_Sve {p : Program} {l : Launch} {e : Env} {R : Room} {s : State} {m : MethodId} {args : Array Value} {below : List Frame} {meth : Method} {c : Code} {H : Heap} {locs : List Loc} {cells slots : Nat} {Q : State → Prop} {cc bytes : ByteArray} {pc : Nat} {ls : Array Slot} {rest As st0 : List Value} {D : va_G} {ci : Nat → ClassId} {A : Nat → Prop} {wh : va_W} {y : MethodName} {ws : List Cond} {rm : Room} {Ts : List Cond} {own : String} {index n nL maxL : Nat} {ret : Option FieldType} 
    (S : CallFix p m c cc nL s args Ts own) (cw : CallB R s args own index y bytes maxL ret ws rm 0 0 n ∧ (Cond.static y).before args s = true) (hM : CtV l y ws rm As D ci [] H.size [])
    (hK : va_K D vwCl (tyL ci) s) (hP : va_P D vwCl wh H) (hD : va_D A wh) (hS : va_S A s.heap H locs) (hA : ∀ q, s.heap.size ≤ q → A q)
    (hst : st0 = As.reverse ++ rest) (hAs : As.length = n) (hsz : ls.size = nL) (hroom : (rest.map fun v => v.category).sum ≤ 8) (hdg : decode cc pc = .ok (.invokestatic index, 3)) (hc0 : cells ≤ R.cells) (hs0 : slots ≤ R.slots)
    (kk : ∀ (H1 : Heap) (locs1 : List Loc), va_P D vwCl wh H1 → va_D A wh → va_S A s.heap H1 locs1 → W p l e R s m args below meth c H1 locs1 cells slots Q (F0 m (pc + 3) ls (rest))) : W p l e R s m args below meth c H locs cells slots Q (F0 m pc ls st0) := by
  have hDc : va_D A [] := ⟨fun i j p q h => by simp at h, fun k q h => by simp at h⟩
  have hPc : va_P D vwCl [] H := fun k q h => by simp at h
  have hFc : ∀ q, va_A [] H.size q → A q := fun q h => by
    rcases h with ⟨k, e9, h⟩ | h
    · simp at h
    · exact hA q (Nat.le_trans hS.1 h)
  refine va_callv (va_runS (As := As) (rest := rest) S hM cw ⟨Pq_blind, fun U hU hW => ⟨rfl, by rw [hU], by rw [hU]; exact hPc, va_K.moved hW.alike hK, hDc.weaken (fun _ _ _ _ => trivial)⟩⟩ rfl hAs hsz hst (lv_room hroom) hdg ⟨hc0, hs0⟩) hS (fun q _ h => hFc q h) hFc (fun u t H1 locs1 ht hvm hw hB hz1 hk1 hS1 => ?_)
  refine kk H1 locs1 (hP.kept (fun k q hk => hk1 q.1 (hP k q hk).lt (fun h => ?_))) hD hS1
  rcases h with ⟨k, e9, h⟩ | h
  · simp at h
  · exact absurd (hP _ _ hk).lt (Nat.not_lt.mpr h)

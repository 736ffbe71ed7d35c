/-! ===== slips: rooms of the reference ===== -/
def stB (W H : Nat) (so hd ag : Nat → Nat) (ga : Nat → Bool) (a n e : Nat) : Bool := decide (hd e = a + 1) && (!(ga e) && decide (12 ≤ hgt W H so e (ag e + n)))
def slB (W H : Nat) (so hd : Nat → Nat) (pa : Nat → Bool) (n e : Nat) : Bool := mayB hd pa e && decide (ageT (gr W H so e) ≤ n)
def rhB (W H : Nat) (so hd ag : Nat → Nat) (pa ga : Nat → Bool) (a n e : Nat) : Nat := if stB W H so hd ag ga a n e then 0 else (if slB W H so hd pa n e then 1 else 1000)
theorem rhB_le (W H : Nat) (so hd ag : Nat → Nat) (pa ga : Nat → Bool) (a n e : Nat) : rhB W H so hd ag pa ga a n e ≤ 1000 := by
  unfold rhB
  cases stB W H so hd ag ga a n e <;> cases slB W H so hd pa n e <;> simp
theorem pm_room {W H : Nat} {so : Nat → Nat} {pa : Nat → Bool} {zM : MS} {hd ag : Nat → Nat} {ga : Nat → Bool} {ow : Int32} {yr : Nat} (ok : okB W H = true) (hs : soOk so) (hG : GM W H so pa zM) (hK : SK W H hd ag ga ow yr) (hS : SM W H hd ag ga ow yr (zM.2 8)) {a N : Nat} (ha : a < 2) (hN : N ≤ 20) :
    ∃ z, f_X7_findRoom zM (nI a) (nI N) = some z ∧ frm [27] [24, 25, 26] zM z ∧ ∀ e, e < eN W H → z.2 24 e = nI (rhB W H so hd ag pa ga a N e) ∧ z.2 25 e = 0 := by
  have hgn := geo_n ok
  obtain ⟨q, hq, p1, p2⟩ := up_loop (σ := MS) (fun n i s => L_X7_findRoom_2 (nI a) (nI N) n i s) (eN W H)
    (fun k s => frm [27] [24, 25, 26] zM s ∧ ∀ e, e < k → s.2 24 e = nI (rhB W H so hd ag pa ga a N e) ∧ s.2 25 e = 0)
    (fun q => frm [27] [24, 25, 26] zM q.2 ∧ ∀ e, e < eN W H → q.2.2 24 e = nI (rhB W H so hd ag pa ga a N e) ∧ q.2.2 25 e = 0)
    (fun n s hI => ⟨(nI (eN W H), s), by
      show L_X7_findRoom_2 (nI a) (nI N) (n + 1) (nI (eN W H)) s = _
      rw [L_X7_findRoom_2, hI.1.1 3 (by decide), hG.1.2.2.2, if_pos (Int32.le_refl _)], hI⟩)
    (fun n k s hk hI => by
      obtain ⟨fr, h⟩ := hI
      right
      have hG2 := GM_fr hG fr
      have h8 : s.2 8 = zM.2 8 := fr.2 8 (by decide)
      have hS2 : SM W H hd ag ga ow yr (s.2 8) := by rw [h8]; exact hS
      have hsm := hS.1 k hk
      have hka := hK.1 k
      have hst : (if (zM.2 8 k) = nI a then (ald 122 (zM.2 8) (80 + nI k) fun x_17 => if x_17 = 0 then (ald 122 (zM.2 8) (40 + nI k) fun x_20 => (f_X7_heightBy s (nI k) (x_20 + nI N)).bind fun r_21 => if r_21 < 12 then (some (0 : Int32)) else (some (1 : Int32))) else (some (0 : Int32))) else (some (0 : Int32))) = some (if stB W H so hd ag ga a N k then 1 else 0) := by
        unfold stB
        rw [hsm.1, show (80 : Int32) = nI 80 from rfl, show (40 : Int32) = nI 40 from rfl, nI_add, nI_add, ald_s _ _ (show 80 + k < 122 by omega) (by omega), ald_s _ _ (show 40 + k < 122 by omega) (by omega), hsm.2.2]
        by_cases c : hd k = a + 1
        · have hne : ¬ hd k = 0 := by omega
          rw [if_neg hne, if_pos (by rw [c]; rfl), decide_eq_true c, hsm.2.1 hne]
          cases hg : ga k
          · rw [if_pos (show (if false = true then (1 : Int32) else 0) = 0 from rfl), nI_add, pm_height ok hs hG2 hk (by omega), bdS]
            by_cases d : 12 ≤ hgt W H so k (ag k + N)
            · rw [if_neg (show ¬ nI (hgt W H so k (ag k + N)) < (12 : Int32) from fun q => absurd ((nI_ltI (b := 12) (by unfold hgt; omega) (by omega)).mp q) (by omega)), decide_eq_true d]; rfl
            · rw [if_pos (show nI (hgt W H so k (ag k + N)) < (12 : Int32) from (nI_ltI (b := 12) (by unfold hgt; omega) (by omega)).mpr (by omega)), decide_eq_false d]; rfl
          · rw [if_neg (show ¬ (if true = true then (1 : Int32) else 0) = 0 by decide)]; rfl
        · rw [decide_eq_false c]
          by_cases d : hd k = 0
          · rw [if_pos d, if_neg (fun q => absurd (show nI a < 0 by rw [← q]; decide) (nI_pos (by omega)))]; rfl
          · rw [if_neg d, if_neg (fun q => c (by have := (nI_eq (by omega) (by omega)).mp q; omega))]; rfl
      have hsl : (if (if mayB hd pa k = true then (1 : Int32) else 0) = 0 then (some (0 : Int32)) else ((f_X7_heightBy s (nI k) (nI N)).bind fun r_30 => if r_30 < 12 then (some (0 : Int32)) else (some (1 : Int32)))) = some (if slB W H so hd pa N k then 1 else 0) := by
        unfold slB
        rw [if_one, pm_height ok hs hG2 hk (by omega), bdS]
        cases mayB hd pa k
        · rfl
        · rw [if_pos rfl]
          by_cases d : 12 ≤ hgt W H so k N
          · rw [if_neg (show ¬ nI (hgt W H so k N) < (12 : Int32) from fun q => absurd ((nI_ltI (b := 12) (by unfold hgt; omega) (by omega)).mp q) (by omega)), decide_eq_true ((hgt_iff hs k N).mp d)]; rfl
          · rw [if_pos (show nI (hgt W H so k N) < (12 : Int32) from (nI_ltI (b := 12) (by unfold hgt; omega) (by omega)).mpr (by omega)), decide_eq_false (fun q => d ((hgt_iff hs k N).mpr q))]; rfl
      have hrh : (if (if stB W H so hd ag ga a N k = true then (1 : Int32) else 0) = 0 then (if (if slB W H so hd pa N k = true then (1 : Int32) else 0) = 0 then (some (1000 : Int32)) else (some (1 : Int32))) else (some (0 : Int32))) = some (nI (rhB W H so hd ag pa ga a N k)) := by
        unfold rhB
        cases stB W H so hd ag ga a N k <;> cases slB W H so hd pa N k <;> rfl
      refine ⟨(s.1, va_up (va_up s.2 24 (upd (s.2 24) k (nI (rhB W H so hd ag pa ga a N k)))) 25 (upd (s.2 25) k 0)), ⟨frm_2 (z := (s.1, va_up s.2 24 (upd (s.2 24) k (nI (rhB W H so hd ag pa ga a N k))))) (frm_2 fr (by decide) _) (by decide) _, fun e he => ?_⟩, ?_⟩
      · show upd (s.2 24) k (nI (rhB W H so hd ag pa ga a N k)) e = _ ∧ upd (s.2 25) k 0 e = 0
        by_cases z : e = k
        · rw [z, ud_eq, ud_eq]; exact ⟨rfl, rfl⟩
        · rw [ud_ne _ _ z, ud_ne _ _ z]; exact h e (by omega)
      · show L_X7_findRoom_2 (nI a) (nI N) (n + 1) (nI k) s = L_X7_findRoom_2 (nI a) (nI N) n (nI (k + 1)) _
        rw [L_X7_findRoom_2, fr.1 3 (by decide), hG.1.2.2.2, if_neg (fun q => absurd ((nI_leI (by omega) (by omega)).mp q) (by omega)), ald_s _ _ (show k < 122 by omega) (by omega), h8, hst, bdS, mayP_m ok hG2 hK hS2 hk, bdS, hsl, bdS, hrh, bdS, ast_s _ (show k < 40 by omega) (by omega), nI_clamp (by omega), nmq, ast_s _ (show k < 40 by omega) (by omega), nmq, nmq, nI_1]
        rfl) 3000 0 zM (by omega) (by omega) ⟨frm_refl _ _ _, fun e he => absurd he (Nat.not_lt_zero e)⟩
  refine ⟨q.2, ?_, p1, p2⟩
  unfold f_X7_findRoom
  rw [nmq, show (L_X7_findRoom_2 (nI a) (nI N) 3000 0 zM) = some q from hq]
  rfl
/-! ===== all subsets, rising ===== -/
def innB (W H f i : Nat) : Bool := decide (i < W * H) && (!(rimB W H i) && !(decide (i = f)))
def innL (W H f : Nat) : List Nat := (List.range 25).reverse.filter (innB W H f)
def innN (W H f : Nat) : Nat := (innL W H f).foldr (fun i a => a ||| 2 ^ i) 0
def subsL : List Nat → List Nat
  | [] => [0]
  | b :: bs => subsL bs ++ (subsL bs).map (fun x => x ||| 2 ^ b)
def nxtW (m w : Nat) : Nat := (w + (4294967296 - m)) &&& m
def itL (m : Nat) : Nat → Nat → List Nat
  | 0, _ => []
  | n + 1, w => w :: itL m n (nxtW m w)
def srtB : List Nat → Bool
  | a :: b :: l => decide (a < b) && srtB (b :: l)
  | _ => true
def sqW (m : Nat) : Nat → Nat → Nat
  | w, 0 => w
  | w, k + 1 => sqW m (nxtW m w) k
theorem sqW_succ (m : Nat) : ∀ k w, sqW m w (k + 1) = nxtW m (sqW m w k)
  | 0, _ => rfl
  | k + 1, w => sqW_succ m k (nxtW m w)
theorem itL_mem {m : Nat} : ∀ {n w x : Nat}, x ∈ itL m n w → ∃ k, k < n ∧ sqW m w k = x
  | 0, w, x, h => by cases h
  | n + 1, w, x, h => by
    rw [itL, List.mem_cons] at h
    rcases h with h | h
    · exact ⟨0, by omega, h.symm⟩
    · obtain ⟨k, h1, h2⟩ := itL_mem h
      exact ⟨k + 1, by omega, h2⟩
theorem mem_itL {m : Nat} : ∀ {n w k : Nat}, k < n → sqW m w k ∈ itL m n w
  | 0, w, k, h => by omega
  | n + 1, w, 0, h => List.mem_cons_self
  | n + 1, w, k + 1, h => List.mem_cons_of_mem _ (mem_itL (show k < n by omega))
theorem srt_head : ∀ {l : List Nat} {a x : Nat}, srtB (a :: l) = true → x ∈ l → a < x
  | [], _, _, _, h => by cases h
  | b :: l, a, x, hs, h => by
    rw [srtB, Bool.and_eq_true, decide_eq_true_eq] at hs
    rw [List.mem_cons] at h
    rcases h with h | h
    · rw [h]; exact hs.1
    · have := srt_head hs.2 h
      omega
theorem srt_tail : ∀ {l : List Nat} {a : Nat}, srtB (a :: l) = true → srtB l = true
  | [], _, _ => rfl
  | b :: l, a, hs => by
    rw [srtB, Bool.and_eq_true] at hs
    exact hs.2
theorem sq_lt {m : Nat} : ∀ {n w k j : Nat}, srtB (itL m n w) = true → k < j → j < n → sqW m w k < sqW m w j
  | 0, _, _, _, _, _, h => by omega
  | n + 1, w, 0, j + 1, hs, _, h => by
    rw [itL] at hs
    exact srt_head hs (mem_itL (show j < n by omega))
  | n + 1, w, k + 1, j + 1, hs, h1, h2 => by
    rw [itL] at hs
    show sqW m (nxtW m w) k < sqW m (nxtW m w) j
    exact sq_lt (n := n) (w := nxtW m w) (k := k) (j := j) (srt_tail hs) (by omega) (by omega)
theorem mem_subs : ∀ {bs : List Nat} {x : Nat}, (∀ i, x.testBit i = true → i ∈ bs) → x ∈ subsL bs
  | [], x, h => by
    have : x = 0 := Nat.eq_of_testBit_eq (fun i => by
      rw [Nat.zero_testBit]
      cases c : x.testBit i
      · rfl
      · cases h i c)
    rw [this]; exact List.mem_cons_self
  | b :: bs, x, h => by
    rw [subsL, List.mem_append]
    cases c : x.testBit b
    · left
      refine mem_subs (fun i hi => ?_)
      have := h i hi
      rw [List.mem_cons] at this
      rcases this with q | q
      · rw [q, c] at hi; cases hi
      · exact q
    · right
      rw [List.mem_map]
      refine ⟨x ^^^ 2 ^ b, mem_subs (fun i hi => ?_), Nat.eq_of_testBit_eq (fun i => ?_)⟩
      · rw [fb_bit_flip] at hi
        by_cases z : i = b
        · rw [z, c] at hi; simp at hi
        · rw [decide_eq_false z, Bool.xor_false] at hi
          have := h i hi
          rw [List.mem_cons] at this
          rcases this with q | q
          · exact absurd q z
          · exact q
      · rw [fb_bit_set, fb_bit_flip]
        by_cases z : i = b
        · rw [z, c]; simp
        · simp [z]
theorem geo_sub0 : chkWH (fun W H => (List.range (W * H)).all fun f => rimB W H f || (decide (itL (innN W H f) (2 ^ (innL W H f).length) 0 = subsL (innL W H f)) && (srtB (subsL (innL W H f)) && (decide ((innL W H f).length ≤ 9) && (decide (fb_ct (innB W H f) 32 = (innL W H f).length) && (List.range 32).all fun i => decide ((innN W H f).testBit i = innB W H f i)))))) = true := by decide +kernel
theorem geo_sub {W H f : Nat} (h : okB W H = true) (hf : f < W * H) (hr : rimB W H f = false) : itL (innN W H f) (2 ^ (innL W H f).length) 0 = subsL (innL W H f) ∧ srtB (subsL (innL W H f)) = true ∧ (innL W H f).length ≤ 9 ∧ fb_ct (innB W H f) 32 = (innL W H f).length ∧ ∀ i, i < 32 → (innN W H f).testBit i = innB W H f i := by
  have := all_at (chk_at geo_sub0 h) hf
  rw [hr, Bool.false_or, Bool.and_eq_true, Bool.and_eq_true, Bool.and_eq_true, Bool.and_eq_true, decide_eq_true_eq, decide_eq_true_eq, decide_eq_true_eq] at this
  obtain ⟨h1, h2, h3, h4, h5⟩ := this
  exact ⟨h1, h2, h3, h4, fun i hi => of_decide_eq_true (all_at h5 hi)⟩
theorem nI_wrap (w : Nat) : nI (w + 4294967296) = nI w := by
  apply Int32.toBitVec_inj.1
  show BitVec.ofNat 32 (w + 4294967296) = BitVec.ofNat 32 w
  apply BitVec.eq_of_toNat_eq
  simp
theorem sub_wrap {m : Nat} (w : Nat) (h : m ≤ 4294967296) : nI w - nI m = nI (w + (4294967296 - m)) := by
  have e : nI w = nI (w + (4294967296 - m)) + nI m := by
    rw [nI_add, show w + (4294967296 - m) + m = w + 4294967296 by omega, nI_wrap]
  rw [e, Int32.add_sub_cancel]
theorem shl_c : ∀ c, c < 10 → (1 : Int32) <<< (nI c &&& 31) = nI (2 ^ c) := by decide +kernel

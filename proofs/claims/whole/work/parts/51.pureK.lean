/-! ===== a year goes by: year, drift ===== -/
theorem bdS {α β : Type} (a : α) (f : α → Option β) : (some a).bind f = f a := by rw [Option.bind_some]
theorem nmq {α β : Type} (a : α) (k : α → Option β) : nm a k = k a := by rw [nm_s]
def older (hd ag : Nat → Nat) : Nat → Nat := fun e => if hd e = 0 then ag e else min 99 (ag e + 1)
def partO (hd ag : Nat → Nat) (k e : Nat) : Nat := if e < k then older hd ag e else ag e
theorem po_lt {hd ag : Nat → Nat} {k e : Nat} (h : e < k) : partO hd ag k e = older hd ag e := if_pos h
theorem po_ge {hd ag : Nat → Nat} {k e : Nat} (h : ¬ e < k) : partO hd ag k e = ag e := if_neg h
theorem SC_ag {W H : Nat} {hd ag ag2 : Nat → Nat} {ga : Nat → Bool} {ow : Int32} {yr : Nat} {z : SS} (h : SC W H hd ag ga ow yr z) (e : ∀ d, d < eN W H → hd d ≠ 0 → ag d = ag2 d) : SC W H hd ag2 ga ow yr z :=
  ⟨h.1, fun d hdl => ⟨(h.2.1 d hdl).1, (h.2.1 d hdl).2.1, (h.2.1 d hdl).2.2.1, fun q => by rw [← e d hdl q]; exact (h.2.1 d hdl).2.2.2 q⟩, h.2.2⟩
theorem SM_ag {W H : Nat} {hd ag ag2 : Nat → Nat} {ga : Nat → Bool} {ow : Int32} {yr : Nat} {n : Nat → Int32} (h : SM W H hd ag ga ow yr n) (e : ∀ d, d < eN W H → hd d ≠ 0 → ag d = ag2 d) : SM W H hd ag2 ga ow yr n :=
  ⟨fun d hdl => ⟨(h.1 d hdl).1, fun q => by rw [← e d hdl q]; exact (h.1 d hdl).2.1 q, (h.1 d hdl).2.2⟩, h.2⟩
theorem SK_old {W H : Nat} {hd ag : Nat → Nat} {ga : Nat → Bool} {ow ow2 : Int32} {yr yr2 : Nat} (hK : SK W H hd ag ga ow yr) (how : ∀ i, bt ow2 i = true → i < W * H) : SK W H hd (older hd ag) ga ow2 yr2 := by
  refine ⟨fun e => ⟨(hK.1 e).1, ?_, (hK.1 e).2.2⟩, how, rfl⟩
  have := (hK.1 e).2.1
  unfold older
  by_cases c : hd e = 0
  · rw [if_pos c]; exact this
  · rw [if_neg c]; omega
theorem grow_c {W H : Nat} {so : Nat → Nat} {pa : Nat → Bool} {zG : GS} {zS : SS} {hd ag : Nat → Nat} {ga : Nat → Bool} {ow : Int32} {yr : Nat} (ok : okB W H = true) (hG : GC W H so pa zG) (hK : SK W H hd ag ga ow yr) (hS : SC W H hd ag ga ow yr zS) :
    ∃ z, f_X5_growOlder zG zS = some z ∧ SC W H hd (older hd ag) ga ow yr z := by
  have hgn := geo_n ok
  obtain ⟨q, hq, hp⟩ := up_loop (σ := SS) (fun n i s => L_X5_growOlder_2 zG n i s) (eN W H) (fun k s => SC W H hd (partO hd ag k) ga ow yr s) (fun q => SC W H hd (older hd ag) ga ow yr q.2)
    (fun n s hI => ⟨(nI (eN W H), s), by
      show L_X5_growOlder_2 zG (n + 1) (nI (eN W H)) s = _
      rw [L_X5_growOlder_2, hG.1.2.2.2, if_pos (Int32.le_refl _)], SC_ag hI (fun d hdl _ => po_lt hdl)⟩)
    (fun n k s hk hI => by
      right
      have hs := hI.2.1 k hk
      by_cases c : hd k = 0
      · refine ⟨s, SC_ag hI (fun d hdl q => ?_), ?_⟩
        · have hdk : ¬ d = k := fun z => q (by rw [z]; exact c)
          by_cases z : d < k
          · rw [po_lt z, po_lt (by omega)]
          · rw [po_ge z, po_ge (by omega)]
        · show L_X5_growOlder_2 zG (n + 1) (nI k) s = L_X5_growOlder_2 zG n (nI (k + 1)) s
          rw [L_X5_growOlder_2, hG.1.2.2.2, if_neg (fun q => absurd ((nI_leI (by omega) (by omega)).mp q) (by omega)), ald_s _ _ (show k < 40 by omega) (by omega), (hG.2.2.2.2 k hk).2.2, if_pos ((ES_test ok hk).mpr (by rw [hs.1]; simp [c]))]
          simp only [nm_s, nI_1]
      · have hage : s.2.2 k = nI (ag k) := by rw [hs.2.2.2 c, po_ge (Nat.lt_irrefl k)]
        have hka := (hK.1 k).2.1
        refine ⟨(s.1, s.2.1, upd s.2.2 k (nI (min 99 (ag k + 1)))), ⟨hI.1, fun d hdl => ⟨(hI.2.1 d hdl).1, (hI.2.1 d hdl).2.1, (hI.2.1 d hdl).2.2.1, fun q => ?_⟩, hI.2.2⟩, ?_⟩
        · show upd s.2.2 k (nI (min 99 (ag k + 1))) d = nI (partO hd ag (k + 1) d)
          by_cases z : d = k
          · rw [z, ud_eq, po_lt (by omega)]; unfold older; rw [if_neg c]
          · rw [ud_ne _ _ z, (hI.2.1 d hdl).2.2.2 q]
            by_cases y : d < k
            · rw [po_lt y, po_lt (by omega)]
            · rw [po_ge y, po_ge (by omega)]
        · show L_X5_growOlder_2 zG (n + 1) (nI k) s = L_X5_growOlder_2 zG n (nI (k + 1)) _
          rw [L_X5_growOlder_2, hG.1.2.2.2, if_neg (fun q => absurd ((nI_leI (by omega) (by omega)).mp q) (by omega)), ald_s _ _ (show k < 40 by omega) (by omega), (hG.2.2.2.2 k hk).2.2, if_neg (fun q => by rw [ES_test ok hk, hs.1] at q; simp [c] at q), ald_s _ _ (show k < 40 by omega) (by omega), hage, nI_1, show imin 99 (nI (ag k + 1)) = nI (min 99 (ag k + 1)) from imin_nI (a := 99) (by omega) (by omega)]
          simp only [nm_s, nI_1]
          rw [ast_s _ (show k < 40 by omega) (by omega), nI_clamp (by omega)]) 3000 0 zS (by omega) (by omega) (SC_ag hS (fun d hdl _ => (po_ge (Nat.not_lt_zero d)).symm))
  refine ⟨q.2, ?_, hp⟩
  unfold f_X5_growOlder
  simp only [nm_s]
  rw [show (L_X5_growOlder_2 zG 3000 0 zS) = some q from hq]
  rfl
theorem grow_m {W H : Nat} {so : Nat → Nat} {pa : Nat → Bool} {zM : MS} {hd ag : Nat → Nat} {ga : Nat → Bool} {ow : Int32} {yr : Nat} (ok : okB W H = true) (hG : GM W H so pa zM) (hK : SK W H hd ag ga ow yr) (hS : SM W H hd ag ga ow yr (zM.2 8)) :
    ∃ v n, L_X7_pass_2 3000 0 zM = some (v, ((zM.1, va_up zM.2 8 n) : MS)) ∧ SM W H hd (older hd ag) ga ow yr n := by
  have hgn := geo_n ok
  obtain ⟨q, hq, n, e, hp⟩ := up_loop (σ := MS) (fun n i s => L_X7_pass_2 n i s) (eN W H) (fun k s => ∃ n, s = (zM.1, va_up zM.2 8 n) ∧ SM W H hd (partO hd ag k) ga ow yr n) (fun q => ∃ n, q.2 = (zM.1, va_up zM.2 8 n) ∧ SM W H hd (older hd ag) ga ow yr n)
    (fun n s hI => by
      obtain ⟨m, e, h⟩ := hI
      refine ⟨(nI (eN W H), s), ?_, m, e, SM_ag h (fun d hdl _ => po_lt hdl)⟩
      show L_X7_pass_2 (n + 1) (nI (eN W H)) s = _
      rw [L_X7_pass_2, e, show ((zM.1, va_up zM.2 8 m) : MS).1 3 = nI (eN W H) from hG.1.2.2.2, if_pos (Int32.le_refl _)])
    (fun n k s hk hI => by
      obtain ⟨m, e, h⟩ := hI
      right
      have hs := h.1 k hk
      have hka := (hK.1 k).2.1
      have hkh := (hK.1 k).1
      have e0 : ∀ t : Int32, (if hd k = 0 then t = m (40 + k) else t = nI (min 99 (ag k + 1))) → L_X7_pass_2 (n + 1) (nI k) s = L_X7_pass_2 n (nI (k + 1)) (zM.1, va_up zM.2 8 (upd m (40 + k) t)) := fun t ht => by
        rw [L_X7_pass_2, e, show ((zM.1, va_up zM.2 8 m) : MS).1 3 = nI (eN W H) from hG.1.2.2.2, if_neg (fun q => absurd ((nI_leI (by omega) (by omega)).mp q) (by omega))]
        simp only [zu_eq]
        rw [ald_s _ _ (show k < 122 by omega) (by omega), hs.1, show (40 : Int32) = nI 40 from rfl, nI_add, ald_s _ _ (show 40 + k < 122 by omega) (by omega), ald_s _ _ (show 40 + k < 122 by omega) (by omega), ald_s _ _ (show 40 + k < 122 by omega) (by omega)]
        by_cases c : hd k = 0
        · rw [if_pos c] at ht
          rw [if_pos c, if_pos (show (-1 : Int32) < 0 by decide)]
          simp only [Option.bind_some]
          rw [ast_s _ (show 40 + k < 122 by omega) (by omega), nI_clamp (by omega), ht]
          simp only [nm_s, nI_1, zu_up]
        · rw [if_neg c] at ht
          have hag : m (40 + k) = nI (ag k) := by rw [hs.2.1 c, po_ge (Nat.lt_irrefl k)]
          rw [if_neg c, if_neg (nI_pos (by omega)), hag]
          by_cases d : 99 ≤ ag k
          · rw [if_pos (show (99 : Int32) ≤ nI (ag k) from (nI_leI (a := 99) (by omega) (by omega)).mpr d)]
            simp only [Option.bind_some]
            rw [ast_s _ (show 40 + k < 122 by omega) (by omega), nI_clamp (by omega), ht, show min 99 (ag k + 1) = ag k by omega]
            simp only [nm_s, nI_1, zu_up]
          · rw [if_neg (show ¬ (99 : Int32) ≤ nI (ag k) from fun q => d ((nI_leI (a := 99) (by omega) (by omega)).mp q))]
            simp only [Option.bind_some]
            rw [ast_s _ (show 40 + k < 122 by omega) (by omega), nI_clamp (by omega), ht, show min 99 (ag k + 1) = ag k + 1 by omega]
            simp only [nm_s, nI_1, zu_up]
      obtain ⟨t, ht⟩ : ∃ t : Int32, (if hd k = 0 then t = m (40 + k) else t = nI (min 99 (ag k + 1))) := by
        by_cases c : hd k = 0
        · exact ⟨_, by rw [if_pos c]⟩
        · exact ⟨_, by rw [if_neg c]⟩
      refine ⟨(zM.1, va_up zM.2 8 (upd m (40 + k) t)), ⟨_, rfl, fun d hdl => ⟨?_, fun q => ?_, ?_⟩, ?_, ?_⟩, e0 t ht⟩
      · rw [ud_ne _ _ (by omega)]; exact (h.1 d hdl).1
      · by_cases z : d = k
        · rw [z] at q
          rw [if_neg q] at ht
          rw [z, ud_eq, po_lt (by omega), ht]; unfold older; rw [if_neg q]
        · rw [ud_ne _ _ (by omega), (h.1 d hdl).2.1 q]
          by_cases y : d < k
          · rw [po_lt y, po_lt (by omega)]
          · rw [po_ge y, po_ge (by omega)]
      · rw [ud_ne _ _ (by omega)]; exact (h.1 d hdl).2.2
      · rw [ud_ne _ _ (by omega)]; exact h.2.1
      · rw [ud_ne _ _ (by omega)]; exact h.2.2) 3000 0 zM (by omega) (by omega) ⟨zM.2 8, by rw [zu_self], SM_ag hS (fun d hdl _ => (po_ge (Nat.not_lt_zero d)).symm)⟩
  exact ⟨q.1, n, by rw [show (L_X7_pass_2 3000 0 zM) = some q from hq, ← e], hp⟩
theorem pc_pass {W H : Nat} {so : Nat → Nat} {pa : Nat → Bool} {zG : GS} {zS : SS} {hd ag : Nat → Nat} {ga : Nat → Bool} {ow : Int32} {yr : Nat} (zX : XS) (ok : okB W H = true) (hs : soOk so) (hG : GC W H so pa zG) (hK : SK W H hd ag ga ow yr) (hS : SC W H hd ag ga ow yr zS) :
    ∃ z x, f_X6_passOneYear zX zG zS = some z ∧ isMar W H (shutB W H so hd (older hd ag) ga) (fun e => decide (hd e = 2)) ow x ∧ SC W H hd (older hd ag) ga x (yr + 1) z := by
  obtain ⟨z, h1, h2⟩ := grow_c ok hG hK hS
  obtain ⟨t, h3, h4⟩ := pc_shut ok hs hG (SK_old (ow2 := ow) (yr2 := yr) hK hK.2.1) h2
  obtain ⟨x, h5, h6⟩ := pc_march ok hG h4.1 (fun e he => (h2.2.1 e he).2.1) ow hK.2.1
  refine ⟨(z.1, upd (upd z.2.1 3 x) 4 (nI (yr + 1)), z.2.2), x, ?_, h6, h2.1, h2.2.1, rfl, rfl⟩
  unfold f_X6_passOneYear
  rw [h1]
  simp only [Option.bind_some]
  rw [h3]
  simp only [Option.bind_some]
  rw [h2.2.2.1, h5]
  simp only [Option.bind_some, nm_s]
  rw [ud_ne _ _ (by decide), h2.2.2.2, nI_1]
theorem pm_pass {W H : Nat} {so : Nat → Nat} {pa : Nat → Bool} {zM : MS} {hd ag : Nat → Nat} {ga : Nat → Bool} {ow : Int32} {yr : Nat} (ok : okB W H = true) (hs : soOk so) (hG : GM W H so pa zM) (hK : SK W H hd ag ga ow yr) (hS : SM W H hd ag ga ow yr (zM.2 8)) :
    ∃ n x, f_X7_pass zM = some (zM.1, va_up zM.2 8 n) ∧ isMar W H (shutB W H so hd (older hd ag) ga) (fun e => decide (hd e = 2)) ow x ∧ SM W H hd (older hd ag) ga x (yr + 1) n := by
  have hgn := geo_n ok
  obtain ⟨v, n, h1, h2⟩ := grow_m ok hG hK hS
  have hG2 : GM W H so pa (zM.1, va_up zM.2 8 n) := GM_up hG rfl rfl rfl rfl rfl rfl rfl rfl
  obtain ⟨r, h3, h4⟩ := pm_march (zM := (zM.1, va_up zM.2 8 n)) ok hs hG2 (SK_old (ow2 := ow) (yr2 := yr) hK hK.2.1) h2
  refine ⟨upd (upd n 120 r.1) 121 (nI (yr + 1)), r.1, ?_, h4, fun d hdl => ⟨?_, fun q => ?_, ?_⟩, ?_, ?_⟩
  · unfold f_X7_pass
    simp only [nm_s]
    rw [h1]
    simp only [Option.bind_some, zu_eq]
    rw [show (120 : Int32) = nI 120 from rfl, show (121 : Int32) = nI 121 from rfl, ald_s _ _ (show 120 < 122 by omega) (by omega), h2.2.1, h3]
    simp only [Option.bind_some]
    rw [ast_s _ (show 120 < 122 by omega) (by omega), nI_clamp (show 120 < 2 ^ 31 by omega), ald_s _ _ (show 121 < 122 by omega) (by omega), ast_s _ (show 121 < 122 by omega) (by omega), nI_clamp (show 121 < 2 ^ 31 by omega), ud_ne _ _ (by decide), h2.2.2, nI_1]
    simp only [zu_up]
  · rw [ud_ne _ _ (by omega), ud_ne _ _ (by omega)]; exact (h2.1 d hdl).1
  · rw [ud_ne _ _ (by omega), ud_ne _ _ (by omega)]; exact (h2.1 d hdl).2.1 q
  · rw [ud_ne _ _ (by omega), ud_ne _ _ (by omega)]; exact (h2.1 d hdl).2.2
  · rw [ud_ne _ _ (by omega), ud_eq]
  · rw [ud_eq]
theorem pass_both {W H : Nat} {so : Nat → Nat} {pa : Nat → Bool} {zG : GS} {zS : SS} {zM : MS} (zX : XS) (ok : okB W H = true) (hs : soOk so) (hGC : GC W H so pa zG) (hGM : GM W H so pa zM) (hS : RelS W H zS (zM.2 8)) :
    ∃ z n, f_X6_passOneYear zX zG zS = some z ∧ f_X7_pass zM = some (zM.1, va_up zM.2 8 n) ∧ RelS W H z n := by
  obtain ⟨hd, ag, ga, ow, yr, hK, hSC, hSM⟩ := hS
  obtain ⟨z, x, h1, h2, h3⟩ := pc_pass zX ok hs hGC hK hSC
  obtain ⟨n, y, h4, h5, h6⟩ := pm_pass ok hs hGM hK hSM
  have e := isMar_one h5 h2
  subst e
  exact ⟨z, n, h1, h4, hd, older hd ag, ga, y, yr + 1, SK_old hK (isMar_in h5), h3, h6⟩
theorem year_both {W H : Nat} {so : Nat → Nat} {pa : Nat → Bool} {zG : GS} {zM : MS} (zX : XS) (zP : PS) (zQ : QS) (r1 : Int32) (ok : okB W H = true) (hs : soOk so) (hGC : GC W H so pa zG) (hGM : GM W H so pa zM) {N : Nat} (hN : N ≤ 40) :
    ∀ n k zS nn, k ≤ N → N < k + n → RelS W H zS nn → ∃ z n', L_X6_passYears_56 zG zP zQ (nI N) 0 n (nI k) zX zS = some (nI N, zX, z) ∧ L_X7_year_18 (nI N) r1 n (nI k) (zM.1, va_up zM.2 8 nn) = some (nI N, ((zM.1, va_up zM.2 8 n') : MS)) ∧ RelS W H z n' := by
  intro n
  induction n with
  | zero => intro k zS nn h1 h2; omega
  | succ n ih =>
    intro k zS nn h1 h2 hS
    rw [L_X6_passYears_56, L_X7_year_18]
    by_cases c : N ≤ k
    · have e : k = N := by omega
      rw [e, if_pos (Int32.le_refl _), if_pos (Int32.le_refl _)]
      exact ⟨_, _, rfl, rfl, hS⟩
    · rw [if_neg (fun q => c ((nI_leI (by omega) (by omega)).mp q)), if_neg (fun q => c ((nI_leI (by omega) (by omega)).mp q))]
      have hG2 : GM W H so pa (zM.1, va_up zM.2 8 nn) := GM_up hGM rfl rfl rfl rfl rfl rfl rfl rfl
      obtain ⟨z, m, e1, e2, h⟩ := pass_both (zM := (zM.1, va_up zM.2 8 nn)) zX ok hs hGC hG2 hS
      rw [if_pos rfl, e2]
      simp only [Option.bind_some, nm_s]
      rw [e1]
      simp only [Option.bind_some, nI_1, zu_up]
      exact ih (k + 1) z m (by omega) (by omega) h
/-! ===== refusals of year, drift ===== -/
def inR1 (x : Int32) (n : Nat) : Bool := decide (1 ≤ x.toInt) && decide (x.toInt ≤ n)
theorem inR1_nI {x : Int32} {n : Nat} (hn : n < 2 ^ 30) (h : inR1 x n = true) : ∃ j, 1 ≤ j ∧ j ≤ n ∧ x = nI j := by
  unfold inR1 at h
  rw [Bool.and_eq_true, decide_eq_true_eq, decide_eq_true_eq] at h
  refine ⟨x.toInt.toNat, by omega, by omega, ?_⟩
  rw [fa_eq, nI_toInt (by omega)]
  omega
theorem rng1 {α : Type} (x : Int32) {n : Nat} (hn : n < 2 ^ 30) (A B : α) : (if x < 1 then A else (if x ≤ nI n then B else A)) = if inR1 x n then B else A := by
  have h2 : (nI n).toInt = (n : Int) := nI_toInt (by omega)
  have h1 : (1 : Int32).toInt = 1 := rfl
  unfold inR1
  by_cases c : x < 1
  · rw [if_pos c]
    rw [fa_lt, h1] at c
    rw [decide_eq_false (show ¬ 1 ≤ x.toInt by omega)]
    rfl
  · rw [if_neg c]
    rw [fa_lt, h1] at c
    by_cases d : x ≤ nI n
    · rw [if_pos d]
      rw [fa_le, h2] at d
      rw [decide_eq_true (show 1 ≤ x.toInt by omega), decide_eq_true (show x.toInt ≤ (n : Int) by omega)]
      rfl
    · rw [if_neg d]
      rw [fa_le, h2] at d
      rw [decide_eq_false (show ¬ x.toInt ≤ (n : Int) by omega), Bool.and_false]
      rfl
theorem pm_in1 {x : Int32} {n : Nat} (hn : n < 2 ^ 30) : f_X7_in (Int32.toInt64 x) 1 (Int32.toInt64 (nI n)) = some (if inR1 x n then 1 else 0) := by
  rw [pm_in]
  have e : ((1 : Int64) ≤ Int32.toInt64 x ∧ Int32.toInt64 x ≤ Int32.toInt64 (nI n)) ↔ inR1 x n = true := by
    have h0 : (1 : Int64) = Int32.toInt64 1 := rfl
    rw [h0, fa_wide_le, fa_wide_le, fa_le, fa_le, nI_toInt (by omega)]
    unfold inR1
    rw [Bool.and_eq_true, decide_eq_true_eq, decide_eq_true_eq]
    exact Iff.rfl
  by_cases c : inR1 x n = true
  · rw [if_pos (e.mpr c), if_pos c]
  · rw [if_neg (fun q => c (e.mp q)), if_neg c]
theorem pm_refused {W H : Nat} {so : Nat → Nat} {pa : Nat → Bool} {zM : MS} {hd ag : Nat → Nat} {ga : Nat → Bool} {ow : Int32} {yr : Nat} (hG : GM W H so pa zM) (hS : SM W H hd ag ga ow yr (zM.2 8)) (x : Int32) :
    f_X7_yearsRefused zM x = some (if inR1 x 40 then (if nI (W * H) = 0 then -1000000003 else (if nI yr ≤ 9000 then 0 else -1000000004)) else -1000000002) := by
  unfold f_X7_yearsRefused
  rw [show f_X7_in (Int32.toInt64 x) 1 40 = some (if inR1 x 40 then 1 else 0) from pm_in1 (n := 40) (by omega)]
  simp only [Option.bind_some, if_one]
  rw [hG.1.2.2.1, show (121 : Int32) = nI 121 from rfl, ald_s _ _ (show 121 < 122 by omega) (by omega), hS.2.2]
  cases inR1 x 40
  · rfl
  · by_cases c : nI (W * H) = 0
    · simp [c]
    · by_cases d : nI yr ≤ 9000
      · simp [c, d]
      · simp [c, d]
theorem pc_passYears {W H : Nat} {so : Nat → Nat} {pa : Nat → Bool} {zG : GS} {zS : SS} {hd ag : Nat → Nat} {ga : Nat → Bool} {ow : Int32} {yr : Nat} (hG : GC W H so pa zG) (hS : SC W H hd ag ga ow yr zS) (zX : XS) (zP : PS) (zQ : QS) (x p2 : Int32) :
    f_X6_passYears zX zG zS zP zQ x p2 = if inR1 x 40 then (if nI (W * H) = 0 then (some ((-1000000003 : Int32), zX, zS, zP, zQ)) else (if nI yr ≤ 9000 then ((f_X3_remember zS zP zQ).bind fun q_8 => (L_X6_passYears_56 zG q_8.1 q_8.2 x p2 3000 0 zX zS).bind fun q_42 => (f_J6_bitCount_0f7a4 (q_42.2.2.2.1 3)).bind fun r_40 => some (r_40, q_42.2.1, q_42.2.2, q_8.1, q_8.2)) else (some ((-1000000004 : Int32), zX, zS, zP, zQ)))) else (some ((-1000000002 : Int32), zX, zS, zP, zQ)) := by
  unfold f_X6_passYears
  rw [show (40 : Int32) = nI 40 from rfl, rng1 x (n := 40) (by omega), hG.1.2.2.1, hS.2.2.2]
  rfl
theorem own_bits {W H : Nat} (ok : okB W H = true) {z : SS} {n : Nat → Int32} (h : RelS W H z n) : ∃ v, f_J6_bitCount_0f7a4 (z.2.1 3) = some v ∧ f_X7_bits (n 120) = some v := by
  have hgn := geo_n ok
  obtain ⟨hd, ag, ga, ow, yr, hK, hSC, hSM⟩ := h
  refine ⟨nI (fb_ct (bt ow) 25), ?_, ?_⟩
  · rw [hSC.2.2.1, pc_int, ct_same (n := W * H) hK.2.1 (m := 32) (by omega), ct_same (n := W * H) hK.2.1 (m := 25) (by omega)]
  · rw [hSM.2.1, pm_bits]
theorem sim_9 : SM_9 Rel := by
  intro zX zR zRG zRS zG zS zP zQ zN zI zJ zT zM a1 hR
  have hR0 := hR
  obtain ⟨W, H, ok, ⟨so, pa, hso, hGC, hGM⟩, hS, hP, hI, hN, hT, hf, hs, hs0⟩ := hR
  have hS0 := hS
  obtain ⟨hd, ag, ga, ow, yr, hSK, hSC, hSM⟩ := hS
  have hgn := geo_n ok
  suffices hx : ∃ v zX' z zP' zQ' zM', f_X6_passYears zX zG zS zP zQ a1 0 = some (v, zX', z, zP', zQ') ∧ f_X7_year zM a1 = some (v, zM') ∧ Rel (zX', zR, zRG, zRS, zG, z, zP', zQ', zN, zI, zJ, zT, zM') by
    obtain ⟨v, zX', z, zP', zQ', zM', e1, e2, h⟩ := hx
    unfold sp_9 f_X6_year
    rw [e1, e2]
    simp only [Option.bind_some, nm_s, if_true]
    exact ⟨_, rfl, h⟩
  rw [pc_passYears hGC hSC]
  unfold f_X7_year
  rw [pm_refused hGM hSM]
  simp only [Option.bind_some]
  by_cases c : inR1 a1 40 = true
  · obtain ⟨N, hN1, hN2, rfl⟩ := inR1_nI (by omega) c
    rw [if_pos c, if_pos c]
    by_cases d : nI (W * H) = 0
    · rw [if_pos d, if_pos d, if_neg (by decide)]
      exact ⟨_, _, _, _, _, _, rfl, rfl, hR0⟩
    · rw [if_neg d, if_neg d]
      by_cases g : nI yr ≤ 9000
      · rw [if_pos g, if_pos g, if_pos rfl]
        obtain ⟨zP', zQ', u, r, k1, k2, k3⟩ := relP_remember ok hP hS0
        have hG2 : GM W H so pa (upd zM.1 22 u, va_up zM.2 23 r) := GM_up hGM rfl rfl rfl rfl rfl rfl rfl rfl
        obtain ⟨z, n', y1, y2, y3⟩ := year_both (zM := (upd zM.1 22 u, va_up zM.2 23 r)) zX zP' zQ' 0 ok hso hGC hG2 hN2 3000 0 zS (zM.2 8) (by omega) (by omega) hS0
        rw [show va_up ((upd zM.1 22 u, va_up zM.2 23 r) : MS).2 8 (zM.2 8) = va_up zM.2 23 r from up_same rfl] at y2
        obtain ⟨v, b1, b2⟩ := own_bits ok y3
        refine ⟨v, zX, z, zP', zQ', (upd zM.1 22 u, va_up (va_up zM.2 23 r) 8 n'), ?_, ?_, W, H, ok, ⟨so, pa, hso, hGC, GM_up hGM rfl rfl rfl rfl rfl rfl rfl rfl⟩, y3, k3 _ rfl rfl, hI, hN, hT, hf, hs, hs0⟩
        · rw [k1]
          simp only [Option.bind_some]
          rw [show (L_X6_passYears_56 zG zP' zQ' (nI N) 0 3000 0 zX zS) = some (nI N, zX, z) from y1]
          simp only [Option.bind_some]
          rw [b1]
          rfl
        · rw [k2]
          simp only [Option.bind_some, nm_s]
          rw [show (L_X7_year_18 (nI N) 0 3000 0 (upd zM.1 22 u, va_up zM.2 23 r)) = some (nI N, ((upd zM.1 22 u, va_up (va_up zM.2 23 r) 8 n') : MS)) from y2]
          simp only [Option.bind_some, zu_eq]
          rw [show (120 : Int32) = nI 120 from rfl, ald_s _ _ (show 120 < 122 by omega) (by omega), b2]
          rfl
      · rw [if_neg g, if_neg g, if_neg (by decide)]
        exact ⟨_, _, _, _, _, _, rfl, rfl, hR0⟩
  · rw [if_neg c, if_neg c, if_neg (by decide)]
    exact ⟨_, _, _, _, _, _, rfl, rfl, hR0⟩
/-! ===== draws ===== -/
theorem draw_both {zX : XS} {zM : MS} (h : zX 8 = zM.1 9) (h0 : ¬ zX 8 < 0) {N : Nat} (hN0 : 0 < N) (hN : N < 2 ^ 31) :
    ∃ d v, d < N ∧ ¬ v < 0 ∧ f_X6_draw zX (nI N) = some (nI d, upd zX 8 v) ∧ f_X7_draw zM (nI N) = some (nI d, ((upd zM.1 9 v, zM.2) : MS)) := by
  obtain ⟨s, hs, e⟩ := nI_of h0
  have hp : (2 : Nat) ^ 31 = 2147483648 := by decide
  have hp3 : (2 : Nat) ^ 63 = 9223372036854775808 := by decide
  have hx : (Int32.toInt64 (nI s)) * 1103515245 + 12345 = lN (s * 1103515245 + 12345) := by
    rw [nI_l hs, show (1103515245 : Int64) = lN 1103515245 from rfl, show (12345 : Int64) = lN 12345 from rfl, lN_mul, lN_add]
  have hw : (s * 1103515245 + 12345) % 2147483648 < 2147483648 := Nat.mod_lt _ (by decide)
  generalize hwd : (s * 1103515245 + 12345) % 2147483648 = w at hw
  have hv1 : Int64.toInt32 ((((Int32.toInt64 (nI s)) * 1103515245) + 12345) &&& 2147483647) = nI w := by
    rw [hx, show (2147483647 : Int64) = lN (2 ^ 31 - 1) from rfl, fb_maskL, lN_i, hp, hwd]
  have hv2 : Int64.toInt32 ((((Int32.toInt64 (nI s)) * 1103515245) + 12345) - (((Int32.toInt64 (nI s)) * 1103515245) + 12345) / 2147483648 * 2147483648) = nI w := by
    rw [hx, show (2147483648 : Int64) = lN 2147483648 from rfl, pk_lRem (by omega) (by omega) (by omega), lN_i, hwd]
  have hdr : nI w / 65536 - nI w / 65536 / nI N * nI N = nI (w / 65536 % N) := by
    rw [show (65536 : Int32) = nI 65536 from rfl, pk_div (by omega) (by omega) (by omega)]
    exact pk_rem (by omega) hN0 hN
  have hne : ¬ nI N = 0 := nI_ne0 hN0 hN
  refine ⟨w / 65536 % N, nI w, Nat.mod_lt _ hN0, nI_pos (by omega), ?_, ?_⟩
  · unfold f_X6_draw dvi
    rw [e, hv1]
    simp only [nm_s]
    rw [if_neg (nI_nle hN0 hN), if_neg (by decide), if_neg hne, ud_eq, hdr]
  · unfold f_X7_draw dvi dvl
    rw [← h, e, hv2]
    simp only [nm_s]
    rw [if_neg (by decide), if_neg (by decide), if_neg hne, ud_eq, hdr]
theorem geo_pos0 : chkWH (fun W H => decide (W * H = 0) || decide (0 < eN W H)) = true := by decide +kernel
theorem geo_pos {W H : Nat} (h : okB W H = true) (h0 : ¬ W * H = 0) : 0 < eN W H := by
  have := chk_at geo_pos0 h
  rw [Bool.or_eq_true, decide_eq_true_eq, decide_eq_true_eq] at this
  rcases this with q | q
  · exact absurd q h0
  · exact q
theorem sow_both {W H : Nat} {so : Nat → Nat} {pa : Nat → Bool} {zG : GS} {zS : SS} {zM : MS} {zX : XS} (ok : okB W H = true) (hGC : GC W H so pa zG) (hGM : GM W H so pa zM) (hS : RelS W H zS (zM.2 8)) (h : zX 8 = zM.1 9) (h0 : ¬ zX 8 < 0) (hE : 0 < eN W H) :
    ∃ e a v z n, e < eN W H ∧ ¬ v < 0 ∧ f_X6_sowByDraws zX zG zS = some (upd zX 8 v, z) ∧ (∃ v1, f_X7_draw zM (nI (eN W H)) = some (nI e, ((upd zM.1 9 v1, zM.2) : MS)) ∧ f_X7_draw (upd zM.1 9 v1, zM.2) 2 = some (nI a, ((upd zM.1 9 v, zM.2) : MS))) ∧ ((f_X7_mayPlant (upd zM.1 9 v, zM.2) (nI e)).bind fun r_24 => (if r_24 = 0 then (some ((upd zM.1 9 v, zM.2) : MS)) else ((f_X7_plantNow (upd zM.1 9 v, zM.2) (nI e) (nI a)).bind fun zM_29 => some (zM_29 : MS)))) = some (upd zM.1 9 v, va_up zM.2 8 n) ∧ RelS W H z n := by
  have hgn := geo_n ok
  obtain ⟨e, v1, he, hv1, d1, d2⟩ := draw_both h h0 hE (by omega)
  obtain ⟨a, v, ha, hv, d3, d4⟩ := draw_both (zX := upd zX 8 v1) (zM := (upd zM.1 9 v1, zM.2)) (by rw [ud_eq]; exact (ud_eq zM.1 9 v1).symm) (by rw [ud_eq]; exact hv1) (N := 2) (by omega) (by omega)
  rw [ud_ud] at d3 d4
  have hS0 := hS
  obtain ⟨hd, ag, ga, ow, yr, hK, hSC, hSM⟩ := hS
  have hG2 : GM W H so pa (upd zM.1 9 v, zM.2) := GM_up hGM rfl rfl rfl rfl rfl rfl rfl rfl
  have hm := mayP_m (zM := (upd zM.1 9 v, zM.2)) ok hG2 hK hSM he
  cases q : mayB hd pa e
  · refine ⟨e, a, v, zS, zM.2 8, he, hv, ?_, ⟨v1, d2, d4⟩, ?_, hS0⟩
    · unfold f_X6_sowByDraws
      rw [hGC.1.2.2.2, d1]
      simp only [bdS, nmq]
      rw [show f_X6_draw (upd zX 8 v1) 2 = some (nI a, upd zX 8 v) from d3]
      simp only [bdS]
      rw [ald_s _ _ (show e < 40 by omega) (by omega), (hGC.2.2.2.2 e he).2.2, mayP_c _ ok hGC hSC he, q]
      rfl
    · rw [hm, q, zu_self]
      rfl
  · have hde : hd e = 0 := by
      unfold mayB at q
      rw [Bool.and_eq_true, decide_eq_true_eq] at q
      exact q.1
    have hga := (hK.1 e).2.2 hde
    obtain ⟨z, s1, s2⟩ := pc_set ok hSC he ha (g := 0)
    obtain ⟨n, m1, m2⟩ := pm_plantNow (zM := (upd zM.1 9 v, zM.2)) ok hSM he (h := a + 1) (x := nI a) (by rw [if_neg (by omega)]; rfl)
    have hK2 := SK_set hK (e := e) (h := a + 1) (g := 0) (by omega) (by omega) false (fun _ => rfl)
    rw [up_same hga] at m2 hK2
    refine ⟨e, a, v, z, n, he, hv, ?_, ⟨v1, d2, d4⟩, ?_, ⟨_, _, ga, ow, yr, hK2, s2, m2⟩⟩
    · unfold f_X6_sowByDraws
      rw [hGC.1.2.2.2, d1]
      simp only [bdS, nmq]
      rw [show f_X6_draw (upd zX 8 v1) 2 = some (nI a, upd zX 8 v) from d3]
      simp only [bdS]
      rw [ald_s _ _ (show e < 40 by omega) (by omega), (hGC.2.2.2.2 e he).2.2, mayP_c _ ok hGC hSC he, q]
      simp only [bdS]
      rw [if_neg (by decide), ald_s _ _ (show e < 40 by omega) (by omega), (hGC.2.2.2.2 e he).2.2, show (f_X5_setHedge zS (nI e) (lshl 1 (nI (ePl W H e))) (nI a) 0) = some z from s1]
      rfl
    · rw [hm, q]
      simp only [bdS]
      rw [if_neg (by decide), m1]
      rfl
theorem drift_both {W H : Nat} {so : Nat → Nat} {pa : Nat → Bool} {zG : GS} {zM : MS} (zX : XS) (zP : PS) (zQ : QS) (r1 : Int32) (ok : okB W H = true) (hs : soOk so) (hGC : GC W H so pa zG) (hGM : GM W H so pa zM) (hE : 0 < eN W H) {N : Nat} (hN : N ≤ 40) :
    ∀ n k v zS nn, k ≤ N → N < k + n → ¬ v < 0 → RelS W H zS nn → ∃ v' z n', L_X6_passYears_56 zG zP zQ (nI N) 1 n (nI k) (upd zX 8 v) zS = some (nI N, upd zX 8 v', z) ∧ L_X7_drift_18 (nI N) r1 n (nI k) (upd zM.1 9 v, va_up zM.2 8 nn) = some (nI N, ((upd zM.1 9 v', va_up zM.2 8 n') : MS)) ∧ RelS W H z n' ∧ ¬ v' < 0 := by
  intro n
  induction n with
  | zero => intro k v zS nn h1 h2; omega
  | succ n ih =>
    intro k v zS nn h1 h2 hv hS
    rw [L_X6_passYears_56, L_X7_drift_18]
    by_cases c : N ≤ k
    · have e : k = N := by omega
      rw [e, if_pos (Int32.le_refl _), if_pos (Int32.le_refl _)]
      exact ⟨_, _, _, rfl, rfl, hS, hv⟩
    · rw [if_neg (fun q => c ((nI_leI (by omega) (by omega)).mp q)), if_neg (fun q => c ((nI_leI (by omega) (by omega)).mp q))]
      have hG1 : GM W H so pa (upd zM.1 9 v, va_up zM.2 8 nn) := GM_up hGM rfl rfl rfl rfl rfl rfl rfl rfl
      obtain ⟨e, a, w, z, m, he, hw, s1, ⟨v1, d1, d2⟩, s2, hS2⟩ := sow_both (zX := upd zX 8 v) (zM := (upd zM.1 9 v, va_up zM.2 8 nn)) ok hGC hG1 hS (by rw [ud_eq]; exact (ud_eq zM.1 9 v).symm) (by rw [ud_eq]; exact hv) hE
      simp only [ud_ud, zu_up] at s1 d1 d2 s2
      have hG2 : GM W H so pa (upd zM.1 9 w, va_up zM.2 8 m) := GM_up hGM rfl rfl rfl rfl rfl rfl rfl rfl
      obtain ⟨z2, m2, e1, e2, h⟩ := pass_both (zM := (upd zM.1 9 w, va_up zM.2 8 m)) (upd zX 8 w) ok hs hGC hG2 hS2
      simp only [zu_up] at e2
      rw [if_neg (show ¬ (1 : Int32) = 0 by decide), s1, show ((upd zM.1 9 v, va_up zM.2 8 nn) : MS).1 3 = nI (eN W H) from hGM.1.2.2.2, d1]
      simp only [bdS, nmq]
      rw [e1, d2]
      simp only [bdS]
      obtain ⟨rr, hrr⟩ : ∃ rr, f_X7_mayPlant (upd zM.1 9 w, va_up zM.2 8 nn) (nI e) = some rr := by
        cases q : f_X7_mayPlant (upd zM.1 9 w, va_up zM.2 8 nn) (nI e) with
        | none => rw [q] at s2; cases s2
        | some rr => exact ⟨rr, rfl⟩
      rw [hrr] at s2 ⊢
      simp only [bdS] at s2 ⊢
      rw [s2]
      simp only [bdS]
      rw [e2]
      simp only [bdS, nmq, nI_1]
      exact ih (k + 1) w z2 m2 (by omega) (by omega) hw h
theorem sim_10 : SM_10 Rel := by
  intro zX zR zRG zRS zG zS zP zQ zN zI zJ zT zM a1 hR
  have hR0 := hR
  obtain ⟨W, H, ok, ⟨so, pa, hso, hGC, hGM⟩, hS, hP, hI, hN, hT, hf, hs, hs0⟩ := hR
  have hS0 := hS
  obtain ⟨hd, ag, ga, ow, yr, hSK, hSC, hSM⟩ := hS
  have hgn := geo_n ok
  suffices hx : ∃ v zX' z zP' zQ' zM', f_X6_passYears zX zG zS zP zQ a1 1 = some (v, zX', z, zP', zQ') ∧ f_X7_drift zM a1 = some (v, zM') ∧ Rel (zX', zR, zRG, zRS, zG, z, zP', zQ', zN, zI, zJ, zT, zM') by
    obtain ⟨v, zX', z, zP', zQ', zM', e1, e2, h⟩ := hx
    unfold sp_10 f_X6_drift
    rw [e1, e2]
    simp only [Option.bind_some, nm_s, if_true]
    exact ⟨_, rfl, h⟩
  rw [pc_passYears hGC hSC]
  unfold f_X7_drift
  rw [pm_refused hGM hSM]
  simp only [Option.bind_some]
  by_cases c : inR1 a1 40 = true
  · obtain ⟨N, hN1, hN2, rfl⟩ := inR1_nI (by omega) c
    rw [if_pos c, if_pos c]
    by_cases d : nI (W * H) = 0
    · rw [if_pos d, if_pos d, if_neg (by decide)]
      exact ⟨_, _, _, _, _, _, rfl, rfl, hR0⟩
    · rw [if_neg d, if_neg d]
      by_cases g : nI yr ≤ 9000
      · rw [if_pos g, if_pos g, if_pos rfl]
        obtain ⟨zP', zQ', u, r, k1, k2, k3⟩ := relP_remember ok hP hS0
        have hG2 : GM W H so pa (upd zM.1 22 u, va_up zM.2 23 r) := GM_up hGM rfl rfl rfl rfl rfl rfl rfl rfl
        have hE := geo_pos ok (fun q => d (by rw [q]; rfl))
        obtain ⟨w, z, n', y1, y2, y3, y4⟩ := drift_both (zM := (upd zM.1 22 u, va_up zM.2 23 r)) zX zP' zQ' 0 ok hso hGC hG2 hE hN2 3000 0 (zX 8) zS (zM.2 8) (by omega) (by omega) hs0 hS0
        rw [show va_up ((upd zM.1 22 u, va_up zM.2 23 r) : MS).2 8 (zM.2 8) = va_up zM.2 23 r from up_same rfl, show upd ((upd zM.1 22 u, va_up zM.2 23 r) : MS).1 9 (zX 8) = upd zM.1 22 u from ud_self hs.symm] at y2
        rw [show upd zX 8 (zX 8) = zX from ud_self rfl] at y1
        obtain ⟨v, b1, b2⟩ := own_bits ok y3
        refine ⟨v, upd zX 8 w, z, zP', zQ', (upd (upd zM.1 22 u) 9 w, va_up (va_up zM.2 23 r) 8 n'), ?_, ?_, W, H, ok, ⟨so, pa, hso, hGC, GM_up hGM rfl rfl rfl rfl rfl rfl rfl rfl⟩, y3, k3 _ rfl rfl, hI, hN, hT, hf, rfl, y4⟩
        · rw [k1]
          simp only [Option.bind_some]
          rw [show (L_X6_passYears_56 zG zP' zQ' (nI N) 1 3000 0 zX zS) = some (nI N, upd zX 8 w, z) from y1]
          simp only [Option.bind_some]
          rw [b1]
          rfl
        · rw [k2]
          simp only [Option.bind_some, nm_s]
          rw [show (L_X7_drift_18 (nI N) 0 3000 0 (upd zM.1 22 u, va_up zM.2 23 r)) = some (nI N, ((upd (upd zM.1 22 u) 9 w, va_up (va_up zM.2 23 r) 8 n') : MS)) from y2]
          simp only [Option.bind_some, zu_eq]
          rw [show (120 : Int32) = nI 120 from rfl, ald_s _ _ (show 120 < 122 by omega) (by omega), b2]
          rfl
      · rw [if_neg g, if_neg g, if_neg (by decide)]
        exact ⟨_, _, _, _, _, _, rfl, rfl, hR0⟩
  · rw [if_neg c, if_neg c, if_neg (by decide)]
    exact ⟨_, _, _, _, _, _, rfl, rfl, hR0⟩

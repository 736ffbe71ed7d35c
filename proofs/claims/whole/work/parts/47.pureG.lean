/-! ===== stands copied, remembered, recalled ===== -/
def cpS (zS zS2 : SS) : SS := (vp_updL (vp_updL (vp_updL zS.1 0 (zS2.1 0)) 1 (zS2.1 1)) 2 (zS2.1 2), upd (upd zS.2.1 3 (zS2.2.1 3)) 4 (zS2.2.1 4), va_cpy zS2.2.2 zS.2.2 0 0 40)
theorem copy_s (zS zS2 : SS) : f_X5_copyFrom zS zS2 = some (cpS zS zS2) := rfl
theorem SC_cong {W H : Nat} (ok : okB W H = true) {hd ag : Nat → Nat} {ga : Nat → Bool} {ow : Int32} {yr : Nat} {z z2 : SS} (h : SC W H hd ag ga ow yr z2) (e0 : z.1 0 = z2.1 0) (e1 : z.1 1 = z2.1 1) (e2 : z.1 2 = z2.1 2) (e3 : z.2.1 3 = z2.2.1 3) (e4 : z.2.1 4 = z2.2.1 4) (e5 : ∀ e, e < 40 → z.2.2 e = z2.2.2 e) : SC W H hd ag ga ow yr z := by
  have hgn := geo_n ok
  unfold SC
  rw [e0, e1, e2, e3, e4]
  exact ⟨h.1, fun e he => ⟨(h.2.1 e he).1, (h.2.1 e he).2.1, (h.2.1 e he).2.2.1, fun q => by rw [e5 e (by omega)]; exact (h.2.1 e he).2.2.2 q⟩, h.2.2⟩
theorem SC_cp {W H : Nat} (ok : okB W H = true) {hd ag : Nat → Nat} {ga : Nat → Bool} {ow : Int32} {yr : Nat} {zS zS2 : SS} (h : SC W H hd ag ga ow yr zS2) : SC W H hd ag ga ow yr (cpS zS zS2) :=
  SC_cong ok h rfl rfl rfl rfl rfl (fun e he => by
    show va_cpy zS2.2.2 zS.2.2 0 0 40 e = _
    exact sb_cpy0 he)
theorem SM_cong {W H : Nat} (ok : okB W H = true) {hd ag : Nat → Nat} {ga : Nat → Bool} {ow : Int32} {yr : Nat} {n n2 : Nat → Int32} (h : SM W H hd ag ga ow yr n2) (e : ∀ j, j < 122 → n j = n2 j) : SM W H hd ag ga ow yr n := by
  have hgn := geo_n ok
  refine ⟨fun d hdl => ?_, ?_, ?_⟩
  · rw [e d (by omega), e (40 + d) (by omega), e (80 + d) (by omega)]; exact h.1 d hdl
  · rw [e 120 (by omega)]; exact h.2.1
  · rw [e 121 (by omega)]; exact h.2.2
theorem RelS_cp {W H : Nat} (ok : okB W H = true) {zS zS2 : SS} {n n2 : Nat → Int32} (h : RelS W H zS2 n2) (e : ∀ j, j < 122 → n j = n2 j) : RelS W H (cpS zS zS2) n := by
  obtain ⟨hd, ag, ga, ow, yr, h1, h2, h3⟩ := h
  exact ⟨hd, ag, ga, ow, yr, h1, SC_cp ok h2, SM_cong ok h3 e⟩
theorem RelS_n {W H : Nat} (ok : okB W H = true) {zS : SS} {n n2 : Nat → Int32} (h : RelS W H zS n2) (e : ∀ j, j < 122 → n j = n2 j) : RelS W H zS n := by
  obtain ⟨hd, ag, ga, ow, yr, h1, h2, h3⟩ := h
  exact ⟨hd, ag, ga, ow, yr, h1, h2, SM_cong ok h3 e⟩
theorem chain20 {β : Type} (A : Nat → Option β) {k : Nat} (hk : k < 20) : (if nI k = 0 then A 0 else if nI k = 1 then A 1 else if nI k = 2 then A 2 else if nI k = 3 then A 3 else if nI k = 4 then A 4 else if nI k = 5 then A 5 else if nI k = 6 then A 6 else if nI k = 7 then A 7 else if nI k = 8 then A 8 else if nI k = 9 then A 9 else if nI k = 10 then A 10 else if nI k = 11 then A 11 else if nI k = 12 then A 12 else if nI k = 13 then A 13 else if nI k = 14 then A 14 else if nI k = 15 then A 15 else if nI k = 16 then A 16 else if nI k = 17 then A 17 else if nI k = 18 then A 18 else if nI k = 19 then A 19 else none) = A k := by
  rcases (show k = 0 ∨ k = 1 ∨ k = 2 ∨ k = 3 ∨ k = 4 ∨ k = 5 ∨ k = 6 ∨ k = 7 ∨ k = 8 ∨ k = 9 ∨ k = 10 ∨ k = 11 ∨ k = 12 ∨ k = 13 ∨ k = 14 ∨ k = 15 ∨ k = 16 ∨ k = 17 ∨ k = 18 ∨ k = 19 by omega) with rfl | rfl | rfl | rfl | rfl | rfl | rfl | rfl | rfl | rfl | rfl | rfl | rfl | rfl | rfl | rfl | rfl | rfl | rfl | rfl <;> rfl
theorem dvi20 {β : Type} (k : Option β) : dvi (20 : Int32) k = k := by unfold dvi; rw [if_neg (by decide)]
theorem pc_remember (zS : SS) (zP : PS) (zQ : QS) {u nx : Nat} (hu : u ≤ 20) (hn : nx < 20) (h1 : zP 1 = nI u) (h2 : zP 2 = nI nx) :
    f_X3_remember zS zP zQ = some (upd (upd zP 2 (nI ((nx + 1) % 20))) 1 (nI (min 20 (u + 1))), va_up zQ nx (cpS (zQ nx) zS)) := by
  have e1 : (zP 2 + 1) - (zP 2 + 1) / 20 * 20 = nI ((nx + 1) % 20) := by
    rw [h2, nI_1]
    exact pk_rem (d := 20) (by omega) (by omega) (by omega)
  have e2 : imin 20 (upd zP 2 (nI ((nx + 1) % 20)) 1 + 1) = nI (min 20 (u + 1)) := by
    rw [ud_ne _ _ (by decide), h1, nI_1]
    exact imin_nI (a := 20) (by omega) (by omega)
  unfold f_X3_remember
  simp only [nm_s, copy_s, Option.bind_some, dvi20, e1, e2]
  rw [h2]
  exact chain20 (fun k => some (upd (upd zP 2 (nI ((nx + 1) % 20))) 1 (nI (min 20 (u + 1))), va_up zQ k (cpS (zQ k) zS))) hn
theorem pc_recall (zS : SS) (zP : PS) (zQ : QS) {u nx : Nat} (hu : u ≤ 20) (h0 : 0 < u) (hn : nx < 20) (h1 : zP 1 = nI u) (h2 : zP 2 = nI nx) :
    f_X3_recall zS zP zQ = some (cpS zS (zQ ((nx + 19) % 20)), upd (upd zP 2 (nI ((nx + 19) % 20))) 1 (nI (u - 1))) := by
  have e1 : ((zP 2 + 20) - 1) - ((zP 2 + 20) - 1) / 20 * 20 = nI ((nx + 19) % 20) := by
    rw [h2, show nI nx + 20 - 1 = nI (nx + 19) from by rw [show (20 : Int32) = nI 20 from rfl, show (1 : Int32) = nI 1 from rfl, nI_add, pk_sub (by omega)]; congr 1]
    exact pk_rem (d := 20) (by omega) (by omega) (by omega)
  have e2 : upd zP 2 (nI ((nx + 19) % 20)) 1 - 1 = nI (u - 1) := by
    rw [ud_ne _ _ (by decide), h1]
    exact pk_sub (b := 1) h0
  unfold f_X3_recall
  simp only [nm_s, copy_s, Option.bind_some, dvi20, e1, e2]
  rw [ud_ne _ _ (by decide), ud_eq]
  exact chain20 (fun k => some (cpS zS (zQ k), upd (upd zP 2 (nI ((nx + 19) % 20))) 1 (nI (u - 1)))) (by omega)
/-! ===== the reference's rows of 122 copied ===== -/
theorem cp_loop (L : Nat → Int32 → MS → Option (Int32 × MS)) (zM : MS) (D S : Nat) (d s : Nat → Nat) (hinj : ∀ i j, d i = d j → i = j)
    (h0 : ∀ n z, L (n + 1) (nI 122) z = some (nI 122, z))
    (h1 : ∀ n i r, i < 122 → L (n + 1) (nI i) (zM.1, va_up zM.2 D r) = L n (nI (i + 1)) (zM.1, va_up zM.2 D (upd r (d i) (zM.2 S (s i))))) :
    ∃ v r, L 3000 0 zM = some (v, ((zM.1, va_up zM.2 D r) : MS)) ∧ (∀ j, j < 122 → r (d j) = zM.2 S (s j)) ∧ ∀ j, (∀ i, i < 122 → ¬ j = d i) → r j = zM.2 D j := by
  obtain ⟨q, hq, r, e, hr⟩ := up_loop (σ := MS) (fun n i z => L n i z) 122
    (fun i z => ∃ r, z = (zM.1, va_up zM.2 D r) ∧ (∀ j, j < i → r (d j) = zM.2 S (s j)) ∧ ∀ j, (∀ k, k < i → ¬ j = d k) → r j = zM.2 D j)
    (fun q => ∃ r, q.2 = (zM.1, va_up zM.2 D r) ∧ (∀ j, j < 122 → r (d j) = zM.2 S (s j)) ∧ ∀ j, (∀ k, k < 122 → ¬ j = d k) → r j = zM.2 D j)
    (fun n z hI => ⟨(nI 122, z), h0 n z, hI⟩)
    (fun n i z hi hI => by
      obtain ⟨r, e, g1, g2⟩ := hI
      right
      refine ⟨(zM.1, va_up zM.2 D (upd r (d i) (zM.2 S (s i)))), ⟨_, rfl, fun j hj => ?_, fun j hj => ?_⟩, ?_⟩
      · by_cases c : j = i
        · rw [c, ud_eq]
        · rw [ud_ne _ _ (fun q => c (hinj j i q))]; exact g1 j (by omega)
      · rw [ud_ne _ _ (hj i (by omega))]; exact g2 j (fun k hk => hj k (by omega))
      · show L (n + 1) (nI i) z = L n (nI (i + 1)) _
        rw [e]; exact h1 n i r hi) 3000 0 zM (by omega) (by omega) ⟨zM.2 D, by rw [zu_self], fun j hj => absurd hj (Nat.not_lt_zero j), fun j _ => rfl⟩
  exact ⟨q.1, r, by rw [show (L 3000 0 zM) = some q from hq, ← e], hr⟩
theorem le122 : (122 : Int32) ≤ nI 122 := by decide
theorem lt122 {i : Nat} (hi : i < 122) : ¬ (122 : Int32) ≤ nI i := fun q => absurd ((nI_leI (a := 122) (by omega) (by omega)).mp q) (by omega)
theorem cp_store {zM : MS} {u : Nat} (hu : u < 20) (h : zM.1 22 = nI u) : ∃ v r, L_X7_remember_52 3000 0 zM = some (v, ((zM.1, va_up zM.2 23 r) : MS)) ∧ (∀ j, j < 122 → r (122 * u + j) = zM.2 8 j) ∧ ∀ j, (∀ i, i < 122 → ¬ j = 122 * u + i) → r j = zM.2 23 j :=
  cp_loop L_X7_remember_52 zM 23 8 (fun i => 122 * u + i) (fun i => i) (fun i j q => Nat.add_left_cancel q)
    (fun n z => by rw [L_X7_remember_52, if_pos le122])
    (fun n i r hi => by
      rw [L_X7_remember_52, if_neg (lt122 hi), ald_s _ _ hi (by omega)]
      simp only [h, nm_s]
      rw [show (122 : Int32) = nI 122 from rfl, pk_mul, nI_add, ast_s _ (show 122 * u + i < 2440 by omega) (by omega), nI_clamp (by omega), nI_1, zu_up, zu_eq, zu_ne _ _ (by decide)])
theorem cp_undo {zM : MS} {u : Nat} (hu : u < 20) (h : zM.1 22 = nI u) : ∃ v r, L_X7_undo_22 3000 0 zM = some (v, ((zM.1, va_up zM.2 8 r) : MS)) ∧ (∀ j, j < 122 → r j = zM.2 23 (122 * u + j)) ∧ ∀ j, (∀ i, i < 122 → ¬ j = i) → r j = zM.2 8 j :=
  cp_loop L_X7_undo_22 zM 8 23 (fun i => i) (fun i => 122 * u + i) (fun i j q => q)
    (fun n z => by rw [L_X7_undo_22, if_pos le122])
    (fun n i r hi => by
      rw [L_X7_undo_22, if_neg (lt122 hi)]
      simp only [h, nm_s]
      rw [show (122 : Int32) * nI u + nI i = nI (122 * u + i) from by rw [show (122 : Int32) = nI 122 from rfl, pk_mul, nI_add], ald_s _ _ (show 122 * u + i < 2440 by omega) (by omega), ast_s _ hi (by omega), nI_clamp (by omega), nI_1, zu_up, zu_eq, zu_ne _ _ (by decide)])
theorem cp_keep {zM : MS} {k : Nat} (hk : k < 2) : ∃ v r, L_X7_keep_15 (nI k) 3000 0 zM = some (v, ((zM.1, va_up zM.2 36 r) : MS)) ∧ (∀ j, j < 122 → r (123 * k + j) = zM.2 8 j) ∧ ∀ j, (∀ i, i < 122 → ¬ j = 123 * k + i) → r j = zM.2 36 j :=
  cp_loop (L_X7_keep_15 (nI k)) zM 36 8 (fun i => 123 * k + i) (fun i => i) (fun i j q => Nat.add_left_cancel q)
    (fun n z => by rw [L_X7_keep_15, if_pos le122])
    (fun n i r hi => by
      rw [L_X7_keep_15, if_neg (lt122 hi), ald_s _ _ hi (by omega)]
      simp only [nm_s]
      rw [show (123 : Int32) = nI 123 from rfl, pk_mul, nI_add, ast_s _ (show 123 * k + i < 246 by omega) (by omega), nI_clamp (by omega), nI_1, zu_up, zu_eq, zu_ne _ _ (by decide)])
theorem cp_goBack {zM : MS} {k : Nat} (hk : k < 2) : ∃ v r, L_X7_goBack_27 (nI k) 3000 0 zM = some (v, ((zM.1, va_up zM.2 8 r) : MS)) ∧ (∀ j, j < 122 → r j = zM.2 36 (123 * k + j)) ∧ ∀ j, (∀ i, i < 122 → ¬ j = i) → r j = zM.2 8 j :=
  cp_loop (L_X7_goBack_27 (nI k)) zM 8 36 (fun i => i) (fun i => 123 * k + i) (fun i j q => q)
    (fun n z => by rw [L_X7_goBack_27, if_pos le122])
    (fun n i r hi => by
      rw [L_X7_goBack_27, if_neg (lt122 hi)]
      simp only [nm_s]
      rw [show (123 : Int32) * nI k + nI i = nI (123 * k + i) from by rw [show (123 : Int32) = nI 123 from rfl, pk_mul, nI_add], ald_s _ _ (show 123 * k + i < 246 by omega) (by omega), ast_s _ hi (by omega), nI_clamp (by omega), nI_1, zu_up, zu_eq, zu_ne _ _ (by decide)])
theorem cp_putBack {zM : MS} : ∃ v r, L_X7_putBack_2 3000 0 zM = some (v, ((zM.1, va_up zM.2 8 r) : MS)) ∧ (∀ j, j < 122 → r j = zM.2 28 j) ∧ ∀ j, (∀ i, i < 122 → ¬ j = i) → r j = zM.2 8 j :=
  cp_loop L_X7_putBack_2 zM 8 28 (fun i => i) (fun i => i) (fun i j q => q)
    (fun n z => by rw [L_X7_putBack_2, if_pos le122])
    (fun n i r hi => by
      rw [L_X7_putBack_2, if_neg (lt122 hi), ald_s _ _ hi (by omega)]
      simp only [nm_s]
      rw [ast_s _ hi (by omega), nI_clamp (by omega), nI_1, zu_up, zu_eq, zu_ne _ _ (by decide)])
theorem cp_turns {zM : MS} (p1 p2 : Int32) : ∃ v r, L_X7_turns_37 p1 p2 3000 0 zM = some (v, ((zM.1, va_up zM.2 28 r) : MS)) ∧ (∀ j, j < 122 → r j = zM.2 8 j) ∧ ∀ j, (∀ i, i < 122 → ¬ j = i) → r j = zM.2 28 j :=
  cp_loop (L_X7_turns_37 p1 p2) zM 28 8 (fun i => i) (fun i => i) (fun i j q => q)
    (fun n z => by rw [L_X7_turns_37, if_pos le122])
    (fun n i r hi => by
      rw [L_X7_turns_37, if_neg (lt122 hi), ald_s _ _ hi (by omega)]
      simp only [nm_s]
      rw [ast_s _ hi (by omega), nI_clamp (by omega), nI_1, zu_up, zu_eq, zu_ne _ _ (by decide)])
theorem pm_shift {zM : MS} : ∃ v r, L_X7_remember_12 3000 122 zM = some (v, ((zM.1, va_up zM.2 23 r) : MS)) ∧ ∀ j, j < 2318 → r j = zM.2 23 (j + 122) := by
  obtain ⟨q, hq, r, e, hr⟩ := up_loop (σ := MS) (fun n i s => L_X7_remember_12 n i s) 2440
    (fun i s => 122 ≤ i ∧ ∃ r, s = (zM.1, va_up zM.2 23 r) ∧ (∀ j, j + 122 < i → r j = zM.2 23 (j + 122)) ∧ (∀ j, i ≤ j + 122 → r j = zM.2 23 j))
    (fun q => ∃ r, q.2 = (zM.1, va_up zM.2 23 r) ∧ ∀ j, j < 2318 → r j = zM.2 23 (j + 122))
    (fun n s hI => by
      obtain ⟨-, r, e, h1, h2⟩ := hI
      exact ⟨(nI 2440, s), by
        show L_X7_remember_12 (n + 1) (nI 2440) s = _
        rw [L_X7_remember_12, if_pos (show (2440 : Int32) ≤ nI 2440 by decide)], r, e, fun j hj => h1 j (by omega)⟩)
    (fun n i s hi hI => by
      obtain ⟨hi0, r, e, h1, h2⟩ := hI
      right
      refine ⟨(zM.1, va_up zM.2 23 (upd r (i - 122) (zM.2 23 i))), ⟨by omega, _, rfl, fun j hj => ?_, fun j hj => ?_⟩, ?_⟩
      · by_cases c : j = i - 122
        · rw [c, ud_eq, show i - 122 + 122 = i by omega]
        · rw [ud_ne _ _ c]; exact h1 j (by omega)
      · rw [ud_ne _ _ (by omega)]; exact h2 j (by omega)
      · show L_X7_remember_12 (n + 1) (nI i) s = L_X7_remember_12 n (nI (i + 1)) _
        rw [e, L_X7_remember_12, if_neg (show ¬ (2440 : Int32) ≤ nI i from fun q => absurd ((nI_leI (a := 2440) (by omega) (by omega)).mp q) (by omega)), ald_s _ _ hi (by omega), show (122 : Int32) = nI 122 from rfl, pk_sub hi0, ast_s _ (show i - 122 < 2440 by omega) (by omega), nI_clamp (by omega)]
        simp only [nm_s, nI_1]
        rw [zu_up, zu_eq, h2 i (by omega)]) 3000 122 zM (by omega) (by omega) ⟨by omega, zM.2 23, by rw [zu_self], fun j hj => by omega, fun j hj => rfl⟩
  exact ⟨q.1, r, by rw [show (L_X7_remember_12 3000 122 zM) = some q from hq, ← e], hr⟩
theorem pm_remember {zM : MS} {u : Nat} (hu : u ≤ 20) (h : zM.1 22 = nI u) : ∃ r, f_X7_remember zM = some (upd zM.1 22 (nI (min 20 (u + 1))), va_up zM.2 23 r) ∧ (u < 20 → ∀ j, j < 122 * u → r j = zM.2 23 j) ∧ (u = 20 → ∀ j, j < 2318 → r j = zM.2 23 (j + 122)) ∧ ∀ j, j < 122 → r (122 * (min 20 (u + 1) - 1) + j) = zM.2 8 j := by
  rcases Nat.lt_or_ge u 20 with c | c
  · obtain ⟨v, r, hr, h1, h2⟩ := cp_store c h
    refine ⟨r, ?_, fun _ j hj => h2 j (fun i _ => by omega), fun q => by omega, fun j hj => ?_⟩
    · unfold f_X7_remember
      rw [if_neg (show ¬ zM.1 22 = (20 : Int32) from fun q => absurd ((nI_eq (b := 20) (by omega) (by omega)).mp (h.symm.trans q)) (by omega))]
      simp only [Option.bind_some, nm_s]
      rw [hr]
      simp only [Option.bind_some]
      rw [h, nI_1, Nat.min_eq_right (show u + 1 ≤ 20 by omega)]
    · rw [show min 20 (u + 1) - 1 = u by omega]; exact h1 j hj
  · have e : u = 20 := by omega
    subst e
    obtain ⟨v, s, hs, g⟩ := pm_shift (zM := zM)
    have hz : ((upd zM.1 22 (nI 19), va_up zM.2 23 s) : MS).1 22 = nI 19 := ud_eq zM.1 22 _
    obtain ⟨w, r, hr, h1, h2⟩ := cp_store (u := 19) (by omega) hz
    refine ⟨r, ?_, fun q => by omega, fun _ j hj => ?_, fun j hj => ?_⟩
    · unfold f_X7_remember
      rw [if_pos (show zM.1 22 = (20 : Int32) from h)]
      simp only [nm_s]
      rw [hs]
      simp only [Option.bind_some]
      rw [show zM.1 22 - 1 = nI 19 from by rw [h]; rfl, hr]
      simp only [Option.bind_some]
      rw [ud_eq, ud_ud, zu_up]
      rfl
    · rw [h2 j (fun i _ => by omega)]; exact g j hj
    · rw [show min 20 (20 + 1) - 1 = 19 from rfl]; exact h1 j hj
theorem relP_remember {W H : Nat} (ok : okB W H = true) {zS : SS} {zP : PS} {zQ : QS} {zM : MS} (hP : RelP W H zP zQ zM) (hS : RelS W H zS (zM.2 8)) :
    ∃ zP' zQ' g r, f_X3_remember zS zP zQ = some (zP', zQ') ∧ f_X7_remember zM = some (upd zM.1 22 g, va_up zM.2 23 r) ∧ ∀ zM' : MS, zM'.1 22 = g → zM'.2 23 = r → RelP W H zP' zQ' zM' := by
  obtain ⟨u, nx, hu, hn, p1, p2, p3, p4⟩ := hP
  obtain ⟨r, h1, h2, h3, h4⟩ := pm_remember hu p2
  refine ⟨_, _, _, r, pc_remember zS zP zQ hu hn p1 p3, h1, fun zM' e1 e2 => ⟨min 20 (u + 1), (nx + 1) % 20, by omega, by omega, ud_eq _ _ _, e1, ?_, fun k hk => ?_⟩⟩
  · rw [ud_ne _ _ (by decide), ud_eq]
  · rw [e2]
    by_cases c : k = min 20 (u + 1) - 1
    · rw [show ((nx + 1) % 20 + 20 - min 20 (u + 1) + k) % 20 = nx by omega, zu_eq]
      exact RelS_cp ok hS (fun j hj => by rw [c]; exact h4 j hj)
    · rcases Nat.lt_or_ge u 20 with d | d
      · rw [show ((nx + 1) % 20 + 20 - min 20 (u + 1) + k) % 20 = (nx + 20 - u + k) % 20 by omega, zu_ne _ _ (by omega)]
        exact RelS_n ok (p4 k (by omega)) (fun j hj => h2 d _ (by omega))
      · have e : u = 20 := by omega
        subst e
        rw [show ((nx + 1) % 20 + 20 - min 20 (20 + 1) + k) % 20 = (nx + 20 - 20 + (k + 1)) % 20 by omega, zu_ne _ _ (by omega)]
        refine RelS_n ok (p4 (k + 1) (by omega)) (fun j hj => ?_)
        show r (122 * k + j) = zM.2 23 (122 * (k + 1) + j)
        rw [h3 rfl _ (by omega), show 122 * k + j + 122 = 122 * (k + 1) + j by omega]

/-! ===== the first calls: seed, fault, tear, feed, write, root, judge, birds ===== -/
theorem rng_le {α : Type} (x : Int32) {n : Nat} (hn : n < 2 ^ 30) (A B : α) : (if x < 0 then A else (if x ≤ nI n then B else A)) = if inR x (n + 1) then B else A := by
  have h2 : (nI n).toInt = (n : Int) := nI_toInt (by omega)
  have h0 : (0 : Int32).toInt = 0 := rfl
  unfold inR
  by_cases c : x < 0
  · rw [if_pos c]
    rw [fa_lt, h0] at c
    rw [decide_eq_false (show ¬ 0 ≤ x.toInt by omega)]
    rfl
  · rw [if_neg c]
    rw [fa_lt, h0] at c
    by_cases d : x ≤ nI n
    · rw [if_pos d]
      rw [fa_le, h2] at d
      rw [decide_eq_true (show 0 ≤ x.toInt by omega), decide_eq_true (show x.toInt < ((n + 1 : Nat) : Int) by omega)]
      rfl
    · rw [if_neg d]
      rw [fa_le, h2] at d
      rw [decide_eq_false (show ¬ x.toInt < ((n + 1 : Nat) : Int) by omega), Bool.and_false]
      rfl
theorem rng_lt {α : Type} (x : Int32) {n : Nat} (hn : n < 2 ^ 30) (A B : α) : (if x < 0 then A else (if x < nI n then B else A)) = if inR x n then B else A := by
  have h2 : (nI n).toInt = (n : Int) := nI_toInt (by omega)
  have h0 : (0 : Int32).toInt = 0 := rfl
  unfold inR
  by_cases c : x < 0
  · rw [if_pos c]
    rw [fa_lt, h0] at c
    rw [decide_eq_false (show ¬ 0 ≤ x.toInt by omega)]
    rfl
  · rw [if_neg c]
    rw [fa_lt, h0] at c
    by_cases d : x < nI n
    · rw [if_pos d]
      rw [fa_lt, h2] at d
      rw [decide_eq_true (show 0 ≤ x.toInt by omega), decide_eq_true (show x.toInt < (n : Int) by omega)]
      rfl
    · rw [if_neg d]
      rw [fa_lt, h2] at d
      rw [decide_eq_false (show ¬ x.toInt < (n : Int) by omega), Bool.and_false]
      rfl
theorem if_one {α : Type} (c : Bool) (A B : α) : (if (if c then (1 : Int32) else 0) = 0 then A else B) = if c then B else A := by cases c <;> rfl
theorem sim_24 : SM_24 Rel := by
  intro zX zR zRG zRS zG zS zP zQ zN zI zJ zT zM a1 hR
  obtain ⟨W, H, ok, hG, hS, hP, hI, hN, hT, hf, hs, hs0⟩ := hR
  unfold sp_24 f_X6_seed f_X7_seed
  by_cases c : (0 : Int32) ≤ a1
  · rw [if_pos c, if_pos c]
    simp only [nm_s, Option.bind_some]
    rw [if_pos hs]
    exact ⟨_, rfl, W, H, ok, hG, hS, hP, hI, hN, hT, hf, rfl, Int32.not_lt.mpr c⟩
  · rw [if_neg c, if_neg c]
    simp only [nm_s, Option.bind_some, if_true]
    exact ⟨_, rfl, W, H, ok, hG, hS, hP, hI, hN, hT, hf, hs, hs0⟩
theorem sim_2 : SM_2 Rel := by
  intro zX zR zRG zRS zG zS zP zQ zN zI zJ zT zM hR
  have hR0 := hR
  obtain ⟨W, H, ok, hG, hS, hP, hI, hN, hT, hf, hs, hs0⟩ := hR
  unfold sp_2 f_X6_fault f_X7_fault
  simp only [Option.bind_some]
  rw [if_pos hf]
  exact ⟨_, rfl, hR0⟩
theorem sim_22 : SM_22 Rel := by
  intro zX zR zRG zRS zG zS zP zQ zN zI zJ zT zM hR
  obtain ⟨W, H, ok, hG, hS, hP, hI, ⟨r, b, h1, h2, h3, h4, h5, h6, h7, h8⟩, hT, hf, hs, hs0⟩ := hR
  unfold sp_22 f_X6_tear f_X7_tear f_X2_forget
  simp only [nm_s, Option.bind_some]
  rw [if_pos (by rw [h3, h4, h5, h6])]
  exact ⟨_, rfl, W, H, ok, hG, hS, hP, hI, ⟨0, 0, by omega, by omega, rfl, rfl, rfl, rfl, fun k hk => absurd hk (Nat.not_lt_zero k), fun k hk => absurd hk (Nat.not_lt_zero k)⟩, hT, hf, hs, hs0⟩
theorem sim_0 : SM_0 Rel := by
  intro zX zR zRG zRS zG zS zP zQ zN zI zJ zT zM a1 hR
  have hR0 := hR
  obtain ⟨W, H, ok, hG, hS, hP, hI, hN, ⟨n, hn, h1, h2, h3⟩, hf, hs, hs0⟩ := hR
  unfold sp_0 f_X6_feed f_X7_feed
  have e1 := rng_le (α := Option (Int32 × RS)) a1 (n := 255) (by omega)
  have e2 : f_X7_in (Int32.toInt64 a1) 0 255 = some (if inR a1 256 then 1 else 0) := pm_in_int (x := a1) (n := 256) (by omega)
  rw [show (255 : Int32) = nI 255 from rfl, e1, e2]
  simp only [Option.bind_some, if_one, h1, h2]
  by_cases c : inR a1 256 = true
  · obtain ⟨j, hj, rfl⟩ := (inR_nI (by omega)).mp c
    rw [if_pos c, if_pos c]
    rcases Nat.lt_or_ge n 240 with hl | hl
    · rw [if_pos (show nI n < (240 : Int32) from (nI_ltI (b := 240) (by omega) (by omega)).mpr hl), if_neg (show ¬ nI n = (240 : Int32) from fun q => absurd ((nI_eq (b := 240) (by omega) (by omega)).mp q) (by omega)), ast_s _ hl (by omega), ast_s _ hl (by omega), nI_clamp (by omega)]
      simp only [nm_s, Option.bind_some]
      rw [h1, show (zM.1, va_up zM.2 10 (upd (zM.2 10) n (nI j))).1 11 = nI n from h2, nI_1]
      rw [pk_us, pk_us, if_pos rfl]
      refine ⟨_, rfl, W, H, ok, hG, hS, hP, hI, hN, ⟨n + 1, by omega, rfl, rfl, fun k hk => ?_⟩, hf, hs, hs0⟩
      show upd zR.2 n (nI j) k = upd (zM.2 10) n (nI j) k ∧ ∃ v, v ≤ 255 ∧ upd zR.2 n (nI j) k = nI v
      by_cases e : k = n
      · subst e
        rw [pk_us, pk_us]
        exact ⟨rfl, j, by omega, rfl⟩
      · rw [pk_un e, pk_un e]
        exact h3 k (by omega)
    · have e : n = 240 := by omega
      subst e
      rw [if_neg (show ¬ nI 240 < 240 by decide), if_pos (show nI 240 = 240 from rfl)]
      simp only [nm_s, Option.bind_some, if_true]
      exact ⟨_, rfl, hR0⟩
  · rw [if_neg c, if_neg c]
    simp only [nm_s, Option.bind_some, if_true]
    exact ⟨_, rfl, hR0⟩
theorem isE (x : Int32) : f_X6_isEstate x = some (if inR x 2 then 1 else 0) ∧ f_X7_isEstate x = some (if inR x 2 then 1 else 0) := by
  unfold f_X6_isEstate f_X7_isEstate
  by_cases c : x = 0
  · subst c; exact ⟨rfl, rfl⟩
  · rw [if_neg c]
    by_cases d : x = 1
    · subst d; exact ⟨rfl, rfl⟩
    · rw [if_neg d]
      have h : inR x 2 = false := by
        cases h : inR x 2
        · rfl
        · obtain ⟨j, hj, rfl⟩ := (inR_nI (by omega)).mp h
          rcases (show j = 0 ∨ j = 1 by omega) with rfl | rfl
          · exact absurd rfl c
          · exact absurd rfl d
      rw [h]
      exact ⟨rfl, rfl⟩
theorem sim_21 : SM_21 Rel := by
  intro zX zR zRG zRS zG zS zP zQ zN zI zJ zT zM a1 a2 hR
  have hR0 := hR
  obtain ⟨W, H, ok, ⟨so, pa, hso, hGC, hGM⟩, hS, hP, hI, ⟨r, b, h1, h2, h3, h4, h5, h6, h7, h8⟩, hT, hf, hs, hs0⟩ := hR
  have hgn := geo_n ok
  unfold sp_21 f_X6_write f_X7_write
  rw [pc_hasField ok hGC, pm_isField ok hGM, (isE a2).1, (isE a2).2]
  simp only [Option.bind_some, if_one, h5, h6]
  by_cases c : inR a1 (W * H) = true
  · obtain ⟨j, hj, rfl⟩ := (inR_nI (by omega)).mp c
    rw [if_pos c, if_pos c]
    by_cases d : inR a2 2 = true
    · rw [if_pos d, if_pos d]
      rcases Nat.lt_or_ge b 15 with hl | hl
      · rw [if_pos (show nI b < (15 : Int32) from (nI_ltI (b := 15) (by omega) (by omega)).mpr hl), if_neg (show ¬ nI b = (15 : Int32) from fun q => absurd ((nI_eq (b := 15) (by omega) (by omega)).mp q) (by omega)), ast_s _ hl (by omega), ast_s _ hl (by omega), nI_clamp (by omega)]
        simp only [nm_s, Option.bind_some]
        rw [h5, h6, ast_s _ hl (by omega), ast_s _ hl (by omega), nI_clamp (by omega), nI_1]
        simp only [Option.bind_some]
        rw [pk_us, pk_us, if_pos rfl]
        refine ⟨_, rfl, W, H, ok, ⟨so, pa, hso, hGC, hGM⟩, hS, hP, hI, ⟨r, b + 1, h1, by omega, h3, h4, rfl, rfl, h7, fun k hk => ?_⟩, hT, hf, hs, hs0⟩
        show upd (zN.2 4) b (nI j) k = upd (zM.2 34) b (nI j) k ∧ upd (zN.2 5) b a2 k = upd (zM.2 35) b a2 k ∧ ∃ f, f < W * H ∧ upd (zN.2 4) b (nI j) k = nI f
        by_cases e : k = b
        · subst e
          rw [pk_us, pk_us, pk_us, pk_us]
          exact ⟨rfl, rfl, j, hj, rfl⟩
        · rw [pk_un e, pk_un e, pk_un e, pk_un e]
          exact h8 k (by omega)
      · have e : b = 15 := by omega
        subst e
        rw [if_neg (show ¬ nI 15 < 15 by decide), if_pos (show nI 15 = 15 from rfl)]
        simp only [nm_s, Option.bind_some, if_true]
        exact ⟨_, rfl, hR0⟩
    · rw [if_neg d, if_neg d]
      simp only [nm_s, Option.bind_some, if_true]
      exact ⟨_, rfl, hR0⟩
  · rw [if_neg c, if_neg c]
    simp only [nm_s, Option.bind_some, if_true]
    exact ⟨_, rfl, hR0⟩
theorem sim_18 : SM_18 Rel := by
  intro zX zR zRG zRS zG zS zP zQ zN zI zJ zT zM a1 a2 hR
  have hR0 := hR
  obtain ⟨W, H, ok, ⟨so, pa, hso, hGC, hGM⟩, hS, hP, hI, ⟨r, b, h1, h2, h3, h4, h5, h6, h7, h8⟩, hT, hf, hs, hs0⟩ := hR
  have hgn := geo_n ok
  unfold sp_18 f_X6_root f_X7_root
  have e1 := rng_le (α := Option (Int32 × NS)) a2 (n := 99) (by omega)
  have e2 : f_X7_in (Int32.toInt64 a2) 0 99 = some (if inR a2 100 then 1 else 0) := pm_in_int (x := a2) (n := 100) (by omega)
  rw [pc_hasEdge ok hGC, pm_isEdge ok hGM, show (99 : Int32) = nI 99 from rfl, e1, e2]
  simp only [Option.bind_some, if_one, h3, h4]
  by_cases c : inR a1 (eN W H) = true
  · obtain ⟨j, hj, rfl⟩ := (inR_nI (by omega)).mp c
    rw [if_pos c, if_pos c]
    by_cases d : inR a2 100 = true
    · rw [if_pos d, if_pos d]
      rcases Nat.lt_or_ge r 6 with hl | hl
      · rw [if_pos (show nI r < (6 : Int32) from (nI_ltI (b := 6) (by omega) (by omega)).mpr hl), if_neg (show ¬ nI r = (6 : Int32) from fun q => absurd ((nI_eq (b := 6) (by omega) (by omega)).mp q) (by omega)), ast_s _ hl (by omega), ast_s _ hl (by omega), nI_clamp (by omega)]
        simp only [nm_s, Option.bind_some]
        rw [h3, h4, ast_s _ hl (by omega), ast_s _ hl (by omega), nI_clamp (by omega), nI_1]
        simp only [Option.bind_some]
        rw [pk_us, pk_us, if_pos rfl]
        refine ⟨_, rfl, W, H, ok, ⟨so, pa, hso, hGC, hGM⟩, hS, hP, hI, ⟨r + 1, b, by omega, h2, rfl, rfl, h5, h6, fun k hk => ?_, h8⟩, hT, hf, hs, hs0⟩
        show upd (zN.2 2) r (nI j) k = upd (zM.2 30) r (nI j) k ∧ upd (zN.2 3) r a2 k = upd (zM.2 31) r a2 k ∧ ∃ e, e < eN W H ∧ upd (zN.2 2) r (nI j) k = nI e
        by_cases e : k = r
        · subst e
          rw [pk_us, pk_us, pk_us, pk_us]
          exact ⟨rfl, rfl, j, hj, rfl⟩
        · rw [pk_un e, pk_un e, pk_un e, pk_un e]
          exact h7 k (by omega)
      · have e : r = 6 := by omega
        subst e
        rw [if_neg (show ¬ nI 6 < 6 by decide), if_pos (show nI 6 = 6 from rfl)]
        simp only [nm_s, Option.bind_some, if_true]
        exact ⟨_, rfl, hR0⟩
    · rw [if_neg d, if_neg d]
      simp only [nm_s, Option.bind_some, if_true]
      exact ⟨_, rfl, hR0⟩
  · rw [if_neg c, if_neg c]
    simp only [nm_s, Option.bind_some, if_true]
    exact ⟨_, rfl, hR0⟩
theorem birds_same (zX : XS) (zM : MS) (p1 p2 : Int32) : ∀ (n : Nat) (v : Int64) (i : Int32), L_X6_birds_30 zX p1 p2 n v i = L_X7_birds_34 zM p1 p2 n v i
  | 0, _, _ => rfl
  | n + 1, v, i => by
    rw [L_X6_birds_30, L_X7_birds_34]
    simp only [nm_s, birds_same zX zM p1 p2 n]
theorem birds_some (zM : MS) (p2 : Int32) {N : Nat} (hN : N ≤ 60) : ∃ r, L_X7_birds_34 zM (nI N) p2 3000 1000000000 (nI 0) = some r := by
  obtain ⟨r, hr, -⟩ := up_loop (σ := Int64) (fun n i s => L_X7_birds_34 zM (nI N) p2 n s i) N (fun _ _ => True) (fun _ => True)
    (fun n s _ => ⟨_, by show L_X7_birds_34 zM (nI N) p2 (n + 1) s (nI N) = _; rw [L_X7_birds_34, if_pos (Int32.le_refl _)], trivial⟩)
    (fun n i s hi _ => Or.inr ⟨_, trivial, by
      show L_X7_birds_34 zM (nI N) p2 (n + 1) s (nI i) = _
      rw [L_X7_birds_34, if_neg (fun q => absurd ((nI_leI (by omega) (by omega)).mp q) (by omega))]
      show (if (100 : Int64) = 0 then none else _) = _
      rw [if_neg (by decide)]
      simp only [nm_s, nI_1]
      rfl⟩) 3000 0 1000000000 (by omega) (by omega) trivial
  exact ⟨r, hr⟩
theorem sim_17 : SM_17 Rel := by
  intro zX zR zRG zRS zG zS zP zQ zN zI zJ zT zM a1 a2 hR
  unfold sp_17 f_X6_birds f_X7_birds
  have e1 : f_X7_in (Int32.toInt64 a1) 0 60 = some (if inR a1 61 then 1 else 0) := pm_in_int (x := a1) (n := 61) (by omega)
  have e2 : f_X7_in (Int32.toInt64 a2) 0 100 = some (if inR a2 101 then 1 else 0) := pm_in_int (x := a2) (n := 101) (by omega)
  have e3 := rng_le (α := Option Int32) a2 (n := 100) (by omega)
  rw [e1, e2, show (100 : Int32) = nI 100 from rfl, e3]
  have e4 : ∀ A B : Option Int32, (if a1 < 0 then A else (if (60 : Int32) < a1 then A else B)) = if inR a1 61 then B else A := by
    intro A B
    rw [← rng_le a1 (n := 60) (by omega)]
    show _ = (if a1 < 0 then A else (if a1 ≤ (60 : Int32) then B else A))
    by_cases c : a1 < 0
    · rw [if_pos c, if_pos c]
    · rw [if_neg c, if_neg c]
      by_cases d : (60 : Int32) < a1
      · rw [if_pos d, if_neg (fun q => absurd d (Int32.not_lt.mpr q))]
      · rw [if_neg d, if_pos (Int32.not_lt.mp d)]
  rw [e4]
  simp only [Option.bind_some, if_one]
  by_cases c : inR a1 61 = true
  · rw [if_pos c, if_pos c]
    by_cases d : inR a2 101 = true
    · rw [if_pos d, if_pos d]
      obtain ⟨j, hj, rfl⟩ := (inR_nI (by omega)).mp c
      obtain ⟨r, hr⟩ := birds_some zM a2 (N := j) (by omega)
      simp only [nm_s, birds_same zX zM]
      rw [show (0 : Int32) = nI 0 from rfl, hr]
      simp only [Option.bind_some]
      rw [if_pos trivial]
      exact ⟨_, rfl, hR⟩
    · rw [if_neg d, if_neg d]
      simp only [Option.bind_some, if_true]
      exact ⟨_, rfl, hR⟩
  · rw [if_neg c, if_neg c]
    simp only [Option.bind_some, if_true]
    exact ⟨_, rfl, hR⟩

/-! ===== slips: the reference's search, push, cut ===== -/
def frm (a b : List Nat) (z0 z : MS) : Prop := (∀ k, k ∉ a → z.1 k = z0.1 k) ∧ (∀ k, k ∉ b → z.2 k = z0.2 k)
theorem frm_refl (a b : List Nat) (z : MS) : frm a b z z := ⟨fun _ _ => rfl, fun _ _ => rfl⟩
theorem frm_tr {a b : List Nat} {z0 z1 z2 : MS} (h : frm a b z0 z1) (k : frm a b z1 z2) : frm a b z0 z2 := ⟨fun j hj => (k.1 j hj).trans (h.1 j hj), fun j hj => (k.2 j hj).trans (h.2 j hj)⟩
theorem frm_1 {a b : List Nat} {z0 z : MS} (h : frm a b z0 z) {k : Nat} (hk : k ∈ a) (x : Int32) : frm a b z0 (upd z.1 k x, z.2) := ⟨fun j hj => by
  show upd z.1 k x j = _
  rw [ud_ne _ _ (fun q => hj (by rw [q]; exact hk))]; exact h.1 j hj, h.2⟩
theorem frm_2 {a b : List Nat} {z0 z : MS} (h : frm a b z0 z) {k : Nat} (hk : k ∈ b) (r : Nat → Int32) : frm a b z0 (z.1, va_up z.2 k r) := ⟨h.1, fun j hj => by
  show va_up z.2 k r j = _
  rw [zu_ne _ _ (fun q => hj (by rw [q]; exact hk))]; exact h.2 j hj⟩
theorem frm_mono {a b c d : List Nat} {z0 z : MS} (h : frm a b z0 z) (ha : ∀ k, k ∈ a → k ∈ c) (hb : ∀ k, k ∈ b → k ∈ d) : frm c d z0 z := ⟨fun j hj => h.1 j (fun q => hj (ha j q)), fun j hj => h.2 j (fun q => hj (hb j q))⟩
theorem GM_fr {W H : Nat} {so : Nat → Nat} {pa : Nat → Bool} {z0 z : MS} (h : GM W H so pa z0) (fr : frm [27] [24, 25, 26] z0 z) : GM W H so pa z := GM_up h (fr.1 0 (by decide)) (fr.1 1 (by decide)) (fr.1 2 (by decide)) (fr.1 3 (by decide)) (fr.2 4 (by decide)) (fr.2 5 (by decide)) (fr.2 6 (by decide)) (fr.2 7 (by decide))
def flw (z : MS) (e : Nat) : Int := (z.2 25 e).toInt
def cloA (W H : Nat) (ρ : Nat → Nat) (φ : Nat → Int) (R : Int32) : Prop := ∀ e u v, e < eN W H → arc W H ρ φ e u v → bt R u = true → bt R v = true
theorem pm_sweepS {W H : Nat} {so : Nat → Nat} {pa : Nat → Bool} {z0 s0 : MS} {ρ : Nat → Nat} {f : Nat} {rk0 : Nat → Nat} (p1 : Int32) (ok : okB W H = true) (hG : GM W H so pa z0) (hr : ∀ e, e < eN W H → z0.2 24 e = nI (ρ e) ∧ ρ e ≤ 1000) (h0 : frm [27] [26] z0 s0) (ht : treeT W H ρ (flw z0) f (s0.1 27) (s0.2 26) rk0) :
    ∃ r, L_X7_search_17 p1 3000 0 0 s0 = some r ∧ frm [27] [26] z0 r.2.2 ∧ (∃ rk, treeT W H ρ (flw z0) f (r.2.2.1 27) (r.2.2.2 26) rk) ∧ ((r.1 = 0 ∧ cloA W H ρ (flw z0) (r.2.2.1 27)) ∨ (r.1 = 1 ∧ fb_ct (bt (s0.1 27)) 25 + 1 ≤ fb_ct (bt (r.2.2.1 27)) 25)) := by
  have hgn := geo_n ok
  refine up_loop (σ := Int32 × MS) (fun n i s => L_X7_search_17 p1 n s.1 i s.2) (eN W H)
    (fun k s => frm [27] [26] z0 s.2 ∧ (∃ rk, treeT W H ρ (flw z0) f (s.2.1 27) (s.2.2 26) rk) ∧ ((s.1 = 0 ∧ s.2.1 27 = s0.1 27 ∧ ∀ e u v, e < k → arc W H ρ (flw z0) e u v → bt (s0.1 27) u = true → bt (s0.1 27) v = true) ∨ (s.1 = 1 ∧ fb_ct (bt (s0.1 27)) 25 + 1 ≤ fb_ct (bt (s.2.1 27)) 25)))
    (fun r => frm [27] [26] z0 r.2.2 ∧ (∃ rk, treeT W H ρ (flw z0) f (r.2.2.1 27) (r.2.2.2 26) rk) ∧ ((r.1 = 0 ∧ cloA W H ρ (flw z0) (r.2.2.1 27)) ∨ (r.1 = 1 ∧ fb_ct (bt (s0.1 27)) 25 + 1 ≤ fb_ct (bt (r.2.2.1 27)) 25)))
    ?_ ?_ 3000 0 (0, s0) (by omega) (by omega) ⟨h0, ⟨rk0, ht⟩, Or.inl ⟨rfl, rfl, fun e u v he => absurd he (Nat.not_lt_zero e)⟩⟩
  · intro n s hI
    refine ⟨(s.1, nI (eN W H), s.2), ?_, hI.1, hI.2.1, ?_⟩
    · show L_X7_search_17 p1 (n + 1) s.1 (nI (eN W H)) s.2 = _
      rw [L_X7_search_17, hI.1.1 3 (by decide), hG.1.2.2.2, if_pos (Int32.le_refl _)]
    · rcases hI.2.2 with ⟨q1, q2, q3⟩ | q
      · exact Or.inl ⟨q1, fun e u v he ha hu => by
          show bt (s.2.1 27) v = true
          rw [q2]
          exact q3 e u v he ha (by rw [← q2]; exact hu)⟩
      · exact Or.inr q
  · intro n k s hk hI
    right
    obtain ⟨fr, ⟨rk, hT⟩, hc⟩ := hI
    have hm := hG.2.2 k hk
    have hg := geo_e ok hk
    have hrk := hr k hk
    generalize hR : s.2.1 27 = R at hT hc
    have hl := pm_has R (show eLo W H k < 32 by omega)
    have hh := pm_has R (show eHi W H k < 32 by omega)
    have hald : ∀ {β : Type} (fn : Nat → Int32) (g : Int32 → Option β), ald 40 fn (nI k) g = g (fn k) := fun fn g => ald_s fn g (by omega) (by omega)
    have hast1 : ∀ {β : Type} (g : Option β), ast 25 (nI (eLo W H k)) g = g := fun g => ast_s g (by omega) (by omega)
    have hast2 : ∀ {β : Type} (g : Option β), ast 25 (nI (eHi W H k)) g = g := fun g => ast_s g (by omega) (by omega)
    have hc1 : (nI (eLo W H k)).toNatClampNeg = eLo W H k := nI_clamp (by omega)
    have hc2 : (nI (eHi W H k)).toNatClampNeg = eHi W H k := nI_clamp (by omega)
    have t1 : (nI (ρ k) ≤ z0.2 25 k) ↔ ¬ flw z0 k < ρ k := by
      rw [fa_le, nI_toInt (by omega)]
      unfold flw
      omega
    have t2 : (z0.2 25 k ≤ -nI (ρ k)) ↔ ¬ -(ρ k : Int) < flw z0 k := by
      rw [fa_le, sb_negT (by omega)]
      unfold flw
      omega
    have e0 : L_X7_search_17 p1 (n + 1) s.1 (nI k) s.2 = if bt R (eLo W H k) = true ∧ bt R (eHi W H k) = false ∧ flw z0 k < ρ k then L_X7_search_17 p1 n 1 (nI (k + 1)) (upd s.2.1 27 (R ||| ((1 : Int32) <<< (nI (eHi W H k) &&& 31))), va_up s.2.2 26 (upd (s.2.2 26) (eHi W H k) (nI k))) else (if bt R (eHi W H k) = true ∧ bt R (eLo W H k) = false ∧ -(ρ k : Int) < flw z0 k then L_X7_search_17 p1 n 1 (nI (k + 1)) (upd s.2.1 27 (R ||| ((1 : Int32) <<< (nI (eLo W H k) &&& 31))), va_up s.2.2 26 (upd (s.2.2 26) (eLo W H k) (nI k))) else L_X7_search_17 p1 n s.1 (nI (k + 1)) s.2) := by
      rw [L_X7_search_17, fr.1 3 (by decide), hG.1.2.2.2, if_neg (fun q => absurd ((nI_leI (by omega) (by omega)).mp q) (by omega)), fr.2 5 (by decide), fr.2 6 (by decide), fr.2 24 (by decide), fr.2 25 (by decide), hR]
      simp only [hald, hm.1, hm.2.1, hl, hh, bdS, nmq, if_one, hrk.1, nI_1, hast1, hast2, hc1, hc2]
      cases ha : bt R (eLo W H k) <;> cases hb : bt R (eHi W H k)
      all_goals
        by_cases c1 : flw z0 k < ρ k <;> by_cases c2 : -(ρ k : Int) < flw z0 k <;> simp [t1, t2, c1, c2]
    have add : ∀ v u : Nat, v < W * H → bt R v = false → bt R u = true → arc W H ρ (flw z0) k u v → L_X7_search_17 p1 (n + 1) s.1 (nI k) s.2 = L_X7_search_17 p1 n 1 (nI (k + 1)) (upd s.2.1 27 (R ||| ((1 : Int32) <<< (nI v &&& 31))), va_up s.2.2 26 (upd (s.2.2 26) v (nI k))) → ∃ t : Int32 × MS, (frm [27] [26] z0 t.2 ∧ (∃ rk, treeT W H ρ (flw z0) f (t.2.1 27) (t.2.2 26) rk) ∧ ((t.1 = 0 ∧ t.2.1 27 = s0.1 27 ∧ ∀ e u v, e < k + 1 → arc W H ρ (flw z0) e u v → bt (s0.1 27) u = true → bt (s0.1 27) v = true) ∨ (t.1 = 1 ∧ fb_ct (bt (s0.1 27)) 25 + 1 ≤ fb_ct (bt (t.2.1 27)) 25))) ∧ L_X7_search_17 p1 (n + 1) s.1 (nI k) s.2 = L_X7_search_17 p1 n t.1 (nI (k + 1)) t.2 := by
      intro v u hv hRv hRu harc he
      obtain ⟨a1, a2⟩ := tree_add ok hT hv hRv hk harc hRu
      refine ⟨(1, (upd s.2.1 27 (R ||| ((1 : Int32) <<< (nI v &&& 31))), va_up s.2.2 26 (upd (s.2.2 26) v (nI k)))), ⟨frm_2 (z := (upd s.2.1 27 (R ||| ((1 : Int32) <<< (nI v &&& 31))), s.2.2)) (frm_1 fr (by decide) _) (by decide) _, ⟨_, a1⟩, Or.inr ⟨rfl, ?_⟩⟩, he⟩
      show fb_ct (bt (s0.1 27)) 25 + 1 ≤ fb_ct (bt (R ||| ((1 : Int32) <<< (nI v &&& 31)))) 25
      rcases hc with ⟨q1, q2, q3⟩ | ⟨q1, q2⟩
      · rw [← q2]; exact a2
      · omega
    by_cases c1 : bt R (eLo W H k) = true ∧ bt R (eHi W H k) = false ∧ flw z0 k < ρ k
    · exact add (eHi W H k) (eLo W H k) hg.2.1 c1.2.1 c1.1 (Or.inl ⟨rfl, rfl, c1.2.2⟩) (by rw [e0, if_pos c1])
    · by_cases c2 : bt R (eHi W H k) = true ∧ bt R (eLo W H k) = false ∧ -(ρ k : Int) < flw z0 k
      · exact add (eLo W H k) (eHi W H k) hg.1 c2.2.1 c2.1 (Or.inr ⟨rfl, rfl, c2.2.2⟩) (by rw [e0, if_neg c1, if_pos c2])
      · refine ⟨s, ⟨fr, ⟨rk, by rw [hR]; exact hT⟩, ?_⟩, by show L_X7_search_17 p1 (n + 1) s.1 (nI k) s.2 = _; rw [e0, if_neg c1, if_neg c2]⟩
        rcases hc with ⟨q1, q2, q3⟩ | ⟨q1, q2⟩
        · refine Or.inl ⟨q1, by rw [hR]; exact q2, fun e u v he harc hu => ?_⟩
          rcases Nat.lt_or_ge e k with z | z
          · exact q3 e u v z harc hu
          · have hek : e = k := by omega
            rw [hek] at harc
            rw [← q2] at hu ⊢
            cases hv : bt R v
            · rcases harc with ⟨b1, b2, b3⟩ | ⟨b1, b2, b3⟩
              · exact absurd ⟨by rw [b1]; exact hu, by rw [b2]; exact hv, b3⟩ c1
              · exact absurd ⟨by rw [b1]; exact hu, by rw [b2]; exact hv, b3⟩ c2
            · rfl
        · exact Or.inr ⟨q1, by rw [hR]; exact q2⟩
theorem pm_search {W H : Nat} {so : Nat → Nat} {pa : Nat → Bool} {z0 : MS} {ρ : Nat → Nat} {f : Nat} (ok : okB W H = true) (hG : GM W H so pa z0) (hr : ∀ e, e < eN W H → z0.2 24 e = nI (ρ e) ∧ ρ e ≤ 1000) (hf : f < W * H) :
    ∃ g z, f_X7_search z0 (nI f) = some (g, z) ∧ frm [27] [26] z0 z ∧ (∃ rk, treeT W H ρ (flw z0) f (z.1 27) (z.2 26) rk) ∧ cloA W H ρ (flw z0) (z.1 27) ∧ ((g = -1 ∧ ∀ v, v < W * H → (bt (z.1 27) v && rimB W H v) = false) ∨ ∃ v, v < W * H ∧ g = nI v ∧ bt (z.1 27) v = true ∧ rimB W H v = true) := by
  have hgn := geo_n ok
  have hstart : treeT W H ρ (flw z0) f ((1 : Int32) <<< (nI f &&& 31)) (z0.2 26) (fun _ => 0) := by
    have hb : ∀ i, bt ((1 : Int32) <<< (nI f &&& 31)) i = decide (i = f) := b_pow f (by omega)
    refine ⟨by rw [hb]; simp, pow_in ok hf, fun v hv => ?_, fun v hv hvf => ?_⟩
    · exact fb_ct_pos.mpr ⟨f, by omega, by rw [hb]; simp⟩
    · rw [hb, decide_eq_true_eq] at hv
      exact absurd hv hvf
  obtain ⟨r, hr1, fr, ⟨rk, hT⟩, hcl⟩ := dn_loop (σ := Int32 × MS) (fun n s => L_X7_search_9 (nI f) n s.1 s.2) (fun s => if s.1 = 0 then 0 else 27 - fb_ct (bt (s.2.1 27)) 25)
    (fun s => frm [27] [26] z0 s.2 ∧ (∃ rk, treeT W H ρ (flw z0) f (s.2.1 27) (s.2.2 26) rk) ∧ ((s.1 = 0 ∧ cloA W H ρ (flw z0) (s.2.1 27)) ∨ s.1 = 1))
    (fun r => frm [27] [26] z0 r.2 ∧ (∃ rk, treeT W H ρ (flw z0) f (r.2.1 27) (r.2.2 26) rk) ∧ cloA W H ρ (flw z0) (r.2.1 27))
    (fun n s hI => by
      obtain ⟨fr, ⟨rk, hT⟩, hc⟩ := hI
      rcases hc with ⟨q1, q2⟩ | q1
      · left
        exact ⟨(s.1, s.2), by show L_X7_search_9 (nI f) (n + 1) s.1 s.2 = _; rw [L_X7_search_9, if_pos q1], fr, ⟨rk, hT⟩, q2⟩
      · right
        obtain ⟨r, hr1, k1, k2, k3⟩ := pm_sweepS (nI f) ok hG hr fr hT
        have hne : ¬ s.1 = 0 := by rw [q1]; decide
        refine ⟨(r.1, r.2.2), ⟨k1, k2, ?_⟩, ?_, ?_⟩
        · rcases k3 with k3 | k3
          · exact Or.inl k3
          · exact Or.inr k3.1
        · show (if r.1 = 0 then 0 else 27 - fb_ct (bt (r.2.2.1 27)) 25) < (if s.1 = 0 then 0 else 27 - fb_ct (bt (s.2.1 27)) 25)
          rw [if_neg hne]
          have hle := fb_ct_le (bt (s.2.1 27)) 25
          rcases k3 with k3 | k3
          · rw [if_pos k3.1]; omega
          · rw [k3.1, if_neg (by decide)]; omega
        · show L_X7_search_9 (nI f) (n + 1) s.1 s.2 = L_X7_search_9 (nI f) n r.1 r.2.2
          rw [L_X7_search_9, if_neg hne]
          simp only [nm_s]
          rw [hr1]
          rfl) 3000 (1, (upd z0.1 27 ((1 : Int32) <<< (nI f &&& 31)), z0.2)) (by show (if (1 : Int32) = 0 then 0 else _) < 3000; rw [if_neg (by decide)]; omega)
      ⟨frm_1 (frm_refl _ _ _) (by decide) _, ⟨_, hstart⟩, Or.inr rfl⟩
  have hG2 : GM W H so pa r.2 := GM_fr hG (frm_mono fr (fun _ h => h) (fun k h => by simp at h; simp [h]))
  obtain ⟨q, hq, hqz, hqp⟩ := up_loop (σ := Unit) (fun n i _ => L_X7_search_180 r.2 (nI f) r.1 n i) (W * H) (fun k _ => ∀ v, v < k → (bt (r.2.1 27) v && rimB W H v) = false)
    (fun q => q.2 = r.2 ∧ ((q.1 = -1 ∧ ∀ v, v < W * H → (bt (r.2.1 27) v && rimB W H v) = false) ∨ ∃ v, v < W * H ∧ q.1 = nI v ∧ bt (r.2.1 27) v = true ∧ rimB W H v = true))
    (fun n s hI => ⟨(-1, r.2), by
      show L_X7_search_180 r.2 (nI f) r.1 (n + 1) (nI (W * H)) = _
      rw [L_X7_search_180, hG2.1.2.2.1, if_pos (Int32.le_refl _)], rfl, Or.inl ⟨rfl, hI⟩⟩)
    (fun n k s hk hI => by
      have e0 : L_X7_search_180 r.2 (nI f) r.1 (n + 1) (nI k) = if (bt (r.2.1 27) k && rimB W H k) = false then L_X7_search_180 r.2 (nI f) r.1 n (nI (k + 1)) else some (nI k, r.2) := by
        rw [L_X7_search_180, hG2.1.2.2.1, if_neg (fun q => absurd ((nI_leI (by omega) (by omega)).mp q) (by omega)), pm_has _ (show k < 32 by omega), pm_rim ok hG2 hk]
        simp only [Option.bind_some, if_one, nm_s, nI_1]
        cases bt (r.2.1 27) k <;> cases rimB W H k <;> rfl
      by_cases c : (bt (r.2.1 27) k && rimB W H k) = false
      · right
        refine ⟨(), fun v hv => ?_, by show L_X7_search_180 r.2 (nI f) r.1 (n + 1) (nI k) = _; rw [e0, if_pos c]⟩
        rcases Nat.lt_or_ge v k with z | z
        · exact hI v z
        · have : v = k := by omega
          rw [this]; exact c
      · left
        have c1 : (bt (r.2.1 27) k && rimB W H k) = true := by cases z : (bt (r.2.1 27) k && rimB W H k); exact absurd z c; rfl
        rw [Bool.and_eq_true] at c1
        exact ⟨(nI k, r.2), by show L_X7_search_180 r.2 (nI f) r.1 (n + 1) (nI k) = _; rw [e0, if_neg c], rfl, Or.inr ⟨k, hk, rfl, c1.1, c1.2⟩⟩) 3000 0 () (by omega) (by omega) (fun v hv => absurd hv (Nat.not_lt_zero v))
  refine ⟨q.1, r.2, ?_, fr, ⟨rk, hT⟩, hcl, hqp⟩
  unfold f_X7_search
  simp only [nm_s]
  rw [show (L_X7_search_9 (nI f) 3000 1 (upd z0.1 27 ((1 : Int32) <<< (nI f &&& 31)), z0.2)) = some r from hr1, Option.bind_some]
  show L_X7_search_180 r.2 (nI f) r.1 3000 0 = _
  rw [show (L_X7_search_180 r.2 (nI f) r.1 3000 0) = some q from hq, ← hqz]
theorem pm_push {W H : Nat} {so : Nat → Nat} {pa : Nat → Bool} {z0 : MS} {ρ : Nat → Nat} {f g : Nat} {rk : Nat → Nat} (ok : okB W H = true) (hG : GM W H so pa z0) (hρ : ∀ e, e < eN W H → ρ e ≤ 1000) (hcap : ∀ e, e < eN W H → -(ρ e : Int) ≤ flw z0 e ∧ flw z0 e ≤ ρ e) (hT : treeT W H ρ (flw z0) f (z0.1 27) (z0.2 26) rk) (hg : bt (z0.1 27) g = true) :
    ∃ z, f_X7_push z0 (nI f) (nI g) = some z ∧ frm [] [25] z0 z ∧ (∀ e, e < eN W H → -(ρ e : Int) ≤ flw z e ∧ flw z e ≤ ρ e) ∧ ∀ S : Nat → Bool, outS W H (flw z) S = outS W H (flw z0) S + sI (S f) - sI (S g) := by
  have hgn := geo_n ok
  have hfw := hT.2.1 f hT.1
  obtain ⟨r, hr, p1, p2, p3⟩ := dn_loop (σ := Int32 × MS) (fun n s => L_X7_push_2 (nI f) (nI g) n s.1 s.2) (fun s => rk (Int32.toNatClampNeg s.1))
    (fun s => ∃ v, s.1 = nI v ∧ bt (z0.1 27) v = true ∧ frm [] [25] z0 s.2 ∧ (∀ e, e < eN W H → -(ρ e : Int) ≤ flw s.2 e ∧ flw s.2 e ≤ ρ e) ∧ (∀ S : Nat → Bool, outS W H (flw s.2) S = outS W H (flw z0) S + sI (S v) - sI (S g)) ∧ ∀ w e, bt (z0.1 27) w = true → rk w ≤ rk v → ¬ w = f → e < eN W H → z0.2 26 w = nI e → flw s.2 e = flw z0 e)
    (fun r => frm [] [25] z0 r.2 ∧ (∀ e, e < eN W H → -(ρ e : Int) ≤ flw r.2 e ∧ flw r.2 e ≤ ρ e) ∧ ∀ S : Nat → Bool, outS W H (flw r.2) S = outS W H (flw z0) S + sI (S f) - sI (S g))
    (fun n s hI => by
      obtain ⟨v, v1, v2, fr, v3, v4, v5⟩ := hI
      have hvw := hT.2.1 v v2
      by_cases c : v = f
      · left
        refine ⟨(s.1, s.2), ?_, fr, v3, by rw [← c]; exact v4⟩
        show L_X7_push_2 (nI f) (nI g) (n + 1) s.1 s.2 = _
        rw [L_X7_push_2, if_pos (by rw [v1, c])]
      · right
        obtain ⟨e, u, d1, d2, d3, d4, d5⟩ := hT.2.2.2 v v2 c
        have huw := hT.2.1 u d4
        have hge := geo_e ok d1
        have hm := hG.2.2 e d1
        have hold := v5 v e v2 (Nat.le_refl _) c d1 d2
        have hce := hcap e d1
        have hρe := hρ e d1
        have huv : ¬ u = v := fun q => by rw [q] at d5; omega
        obtain ⟨d, hd, t1, t2, hin, hout⟩ : ∃ d : Int, (d = 1 ∨ d = -1) ∧ (if nI (eHi W H e) = nI v then (some (1 : Int32)) else (some (0 : Int32))) = some (if d = 1 then 1 else 0) ∧ (if d = 1 then eLo W H e else eHi W H e) = u ∧ (-(ρ e : Int) ≤ flw z0 e + d ∧ flw z0 e + d ≤ ρ e) ∧ ∀ S : Nat → Bool, d * (sI (S (eLo W H e)) - sI (S (eHi W H e))) = sI (S u) - sI (S v) := by
          rcases d3 with ⟨b1, b2, b3⟩ | ⟨b1, b2, b3⟩
          · refine ⟨1, Or.inl rfl, by rw [if_pos (by rw [b2])]; rfl, by rw [if_pos rfl, b1], by omega, fun S => by rw [b1, b2]; omega⟩
          · refine ⟨-1, Or.inr rfl, by rw [if_neg (fun q => huv (by rw [← b1]; exact (nI_eq (by omega) (by omega)).mp q))]; rfl, by rw [if_neg (by decide), b1], by omega, fun S => by rw [b1, b2]; omega⟩
        have hy : ∀ x : Int32, x.toInt = flw z0 e → (x + (if d = 1 then 1 else -1)).toInt = flw z0 e + d := fun x hx => by
          have hdd : (if d = 1 then (1 : Int32) else -1).toInt = d := by
            rcases hd with q | q <;> rw [q] <;> rfl
          rw [fb_addI (by rw [hx, hdd]; omega) (by rw [hx, hdd]; omega), hx, hdd]
        have hflw : ∀ x : Int32, x.toInt = flw z0 e + d → ∀ e2, flw ((s.2.1, va_up s.2.2 25 (upd (s.2.2 25) e x)) : MS) e2 = if e2 = e then flw s.2 e + d else flw s.2 e2 := fun x hx e2 => by
          show (upd (s.2.2 25) e x e2).toInt = _
          by_cases z : e2 = e
          · rw [z, ud_eq, if_pos rfl, hx, hold]
          · rw [ud_ne _ _ z, if_neg z]; rfl
        have hx25 : (s.2.2 25 e).toInt = flw z0 e := hold
        have hnew := hflw _ (hy _ hx25)
        refine ⟨(nI u, (s.2.1, va_up s.2.2 25 (upd (s.2.2 25) e (s.2.2 25 e + (if d = 1 then 1 else -1))))), ⟨u, rfl, d4, frm_2 fr (by decide) _, fun e2 he2 => ?_, fun S => ?_, fun w e2 w1 w2 w3 w4 w5 => ?_⟩, ?_, ?_⟩
        · rw [hnew]
          by_cases z : e2 = e
          · rw [if_pos z, hold, z]; exact hin
          · rw [if_neg z]; exact v3 e2 he2
        · show outS W H (flw (s.2.1, va_up s.2.2 25 (upd (s.2.2 25) e (s.2.2 25 e + (if d = 1 then 1 else -1))))) S = _
          rw [out_cong (ψ := fun e2 => if e2 = e then flw s.2 e + d else flw s.2 e2) (fun e2 _ => hnew e2), out_upd d1, v4 S, hout S]
          omega
        · rw [hnew]
          have hne : ¬ e2 = e := fun z => by
            obtain ⟨e3, u3, c1, c2, c3, c4, c5⟩ := hT.2.2.2 w w1 w3
            have h3 : e3 = e := by
              rw [w5] at c2
              rw [← z]; exact ((nI_eq (by omega) (by omega)).mp c2).symm
            rw [h3] at c3
            have hwv : ¬ w = v := fun q => by rw [q] at w2; omega
            have : w = u ∧ u3 = v := by
              rcases d3 with ⟨b1, b2, -⟩ | ⟨b1, b2, -⟩ <;> rcases c3 with ⟨b4, b5, -⟩ | ⟨b4, b5, -⟩ <;> omega
            rw [this.1, this.2] at c5
            omega
          rw [if_neg hne]
          exact v5 w e2 w1 (by omega) w3 w4 w5
        · show rk (Int32.toNatClampNeg (nI u)) < rk (Int32.toNatClampNeg s.1)
          rw [v1, nI_clamp (by omega), nI_clamp (by omega)]; exact d5
        · show L_X7_push_2 (nI f) (nI g) (n + 1) s.1 s.2 = L_X7_push_2 (nI f) (nI g) n (nI u) _
          have h26 : s.2.2 26 = z0.2 26 := fr.2 26 (by decide)
          have h6 : s.2.2 6 = z0.2 6 := fr.2 6 (by decide)
          have h5 : s.2.2 5 = z0.2 5 := fr.2 5 (by decide)
          rw [L_X7_push_2, v1, if_neg (fun q => c ((nI_eq (by omega) (by omega)).mp q)), ald_s _ _ (show v < 25 by omega) (by omega), h26, d2, ald_s _ _ (show e < 40 by omega) (by omega), h6, hm.2.1, t1]
          simp only [bdS]
          rw [ald_s _ _ (show e < 40 by omega) (by omega)]
          rcases hd with q | q
          · rw [q] at t2 ⊢
            rw [if_pos rfl] at t2
            rw [if_pos rfl, if_neg (show ¬ (1 : Int32) = 0 by decide), bdS]
            simp only [nmq]
            rw [ast_s _ (show e < 40 by omega) (by omega), nI_clamp (by omega), if_neg (show ¬ (1 : Int32) = 0 by decide), zu_ne _ _ (show ¬ 5 = 25 by decide), ald_s _ _ (show e < 40 by omega) (by omega), h5, hm.1, t2]
            rfl
          · rw [q] at t2 ⊢
            rw [if_neg (by decide)] at t2
            rw [if_neg (show ¬ (-1 : Int) = 1 by decide), if_pos rfl, bdS]
            simp only [nmq]
            rw [ast_s _ (show e < 40 by omega) (by omega), nI_clamp (by omega), if_pos trivial, zu_ne _ _ (show ¬ 6 = 25 by decide), ald_s _ _ (show e < 40 by omega) (by omega), h6, hm.2.1, t2]
            rfl) 3000 (nI g, z0) (by
      show rk (Int32.toNatClampNeg (nI g)) < 3000
      have := hT.2.1 g hg
      have h2 := hT.2.2.1 g hg
      have h3 := fb_ct_le (bt (z0.1 27)) 25
      rw [nI_clamp (by omega)]; omega)
      ⟨g, rfl, hg, frm_refl _ _ _, hcap, fun S => by show outS W H (flw z0) S = outS W H (flw z0) S + sI (S g) - sI (S g); omega, fun _ _ _ _ _ _ _ => rfl⟩
  refine ⟨r.2, ?_, p1, p2, p3⟩
  unfold f_X7_push
  rw [show (L_X7_push_2 (nI f) (nI g) 3000 (nI g) z0) = some r from hr]
  rfl
theorem pm_cut {W H : Nat} {so : Nat → Nat} {pa : Nat → Bool} {z0 : MS} {ρ : Nat → Nat} {f : Nat} (ok : okB W H = true) (hG : GM W H so pa z0) (hr : ∀ e, e < eN W H → z0.2 24 e = nI (ρ e) ∧ ρ e ≤ 1000) (h0 : ∀ e, e < eN W H → z0.2 25 e = 0) (hf : f < W * H) :
    ∃ v z, f_X7_cut z0 (nI f) = some (v, z) ∧ frm [27] [25, 26] z0 z ∧ ((v = -1 ∧ ∀ S : Nat → Bool, S f = true → (∀ v, v < W * H → (S v && rimB W H v) = false) → 41 ≤ capS W H ρ S) ∨ ∃ n, n ≤ 40 ∧ v = nI n ∧ isCut W H ρ f n (z.1 27)) := by
  have hgn := geo_n ok
  have hfl0 : ∀ e, e < eN W H → flw z0 e = 0 := fun e he => by unfold flw; rw [h0 e he]; rfl
  -- a search at a state with a flow
  have hse : ∀ z, frm [27] [25, 26] z0 z → ∃ g z2, f_X7_search z (nI f) = some (g, z2) ∧ frm [27] [25, 26] z0 z2 ∧ flw z2 = flw z ∧ (∃ rk, treeT W H ρ (flw z2) f (z2.1 27) (z2.2 26) rk) ∧ cloA W H ρ (flw z2) (z2.1 27) ∧ ((g = -1 ∧ ∀ v, v < W * H → (bt (z2.1 27) v && rimB W H v) = false) ∨ ∃ v, v < W * H ∧ g = nI v ∧ bt (z2.1 27) v = true ∧ rimB W H v = true) := fun z fr => by
    have hG2 : GM W H so pa z := GM_fr hG (frm_mono fr (fun _ h => h) (fun k h => by simp at h; rcases h with h | h <;> simp [h]))
    obtain ⟨g, z2, s1, s2, s3, s4, s5⟩ := pm_search ok hG2 (fun e he => by rw [fr.2 24 (by decide)]; exact hr e he) hf
    have hfl : flw z2 = flw z := funext (fun e => by unfold flw; rw [s2.2 25 (by decide)])
    exact ⟨g, z2, s1, frm_tr fr (frm_mono s2 (fun _ h => h) (fun k h => by simp at h; simp [h])), hfl, by rw [hfl]; exact s3, by rw [hfl]; exact s4, s5⟩
  obtain ⟨g1, z1, a1, a2, a3, a4, a5, a6⟩ := hse z0 (frm_refl _ _ _)
  obtain ⟨r, hr1, p1, p2⟩ := up_loop (σ := Int32 × MS) (fun n i s => L_X7_cut_8 (nI f) n i s.1 s.2) 41
    (fun i s => i ≤ 40 ∧ frm [27] [25, 26] z0 s.2 ∧ (∀ e, e < eN W H → -(ρ e : Int) ≤ flw s.2 e ∧ flw s.2 e ≤ ρ e) ∧ (∀ S : Nat → Bool, S f = true → (∀ v, v < W * H → (S v && rimB W H v) = false) → outS W H (flw s.2) S = (i : Int)) ∧ (∃ rk, treeT W H ρ (flw s.2) f (s.2.1 27) (s.2.2 26) rk) ∧ cloA W H ρ (flw s.2) (s.2.1 27) ∧ ((s.1 = -1 ∧ ∀ v, v < W * H → (bt (s.2.1 27) v && rimB W H v) = false) ∨ ∃ v, v < W * H ∧ s.1 = nI v ∧ bt (s.2.1 27) v = true ∧ rimB W H v = true))
    (fun r => frm [27] [25, 26] z0 r.2 ∧ ((r.1 = -1 ∧ ∀ S : Nat → Bool, S f = true → (∀ v, v < W * H → (S v && rimB W H v) = false) → 41 ≤ capS W H ρ S) ∨ ∃ n, n ≤ 40 ∧ r.1 = nI n ∧ isCut W H ρ f n (r.2.1 27)))
    (fun n s hI => by have := hI.1; omega)
    (fun n i s hi hI => by
      obtain ⟨i1, i2, i3, i4, ⟨rk, i5⟩, i6, i7⟩ := hI
      rcases i7 with ⟨j1, j2⟩ | ⟨v, j1, j2, j3, j4⟩
      · left
        refine ⟨(nI i, s.2), ?_, i2, Or.inr ⟨i, i1, rfl, cut_end i3 i5 i6 j2 i4⟩⟩
        show L_X7_cut_8 (nI f) (n + 1) (nI i) s.1 s.2 = _
        rw [L_X7_cut_8, if_pos (by rw [j1]; decide)]
      · have hG2 : GM W H so pa s.2 := GM_fr hG (frm_mono i2 (fun _ h => h) (fun k h => by simp at h; rcases h with h | h <;> simp [h]))
        obtain ⟨z2, b1, b2, b3, b4⟩ := pm_push ok hG2 (fun e he => (hr e he).2) i3 i5 j3
        have hout : ∀ S : Nat → Bool, S f = true → (∀ v, v < W * H → (S v && rimB W H v) = false) → outS W H (flw z2) S = ((i + 1 : Nat) : Int) := fun S hS hSr => by
          have hSv : S v = false := by
            have := hSr v j1
            rw [j4, Bool.and_true] at this
            exact this
          rw [b4 S, i4 S hS hSr, hS, hSv]
          show (i : Int) + 1 - 0 = _
          omega
        have fr2 : frm [27] [25, 26] z0 z2 := frm_tr i2 (frm_mono b2 (fun k h => by cases h) (fun k h => by simp at h; simp [h]))
        rcases Nat.lt_or_ge i 40 with c | c
        · right
          obtain ⟨g3, z3, c1, c2, c3, c4, c5, c6⟩ := hse z2 fr2
          refine ⟨(g3, z3), ⟨by omega, c2, by rw [c3]; exact b3, by rw [c3]; exact hout, c4, c5, c6⟩, ?_⟩
          show L_X7_cut_8 (nI f) (n + 1) (nI i) s.1 s.2 = L_X7_cut_8 (nI f) n (nI (i + 1)) g3 z3
          rw [L_X7_cut_8, if_neg (by rw [j2]; exact nI_pos (by omega)), j2, b1]
          simp only [bdS, nmq, nI_1]
          rw [if_pos (show nI (i + 1) ≤ 40 from (nI_leI (b := 40) (by omega) (by omega)).mpr (by omega)), c1]
          simp only [bdS]
        · left
          refine ⟨(-1, z2), ?_, fr2, Or.inl ⟨rfl, fun S hS hSr => ?_⟩⟩
          · show L_X7_cut_8 (nI f) (n + 1) (nI i) s.1 s.2 = _
            rw [L_X7_cut_8, if_neg (by rw [j2]; exact nI_pos (by omega)), j2, b1]
            simp only [bdS, nmq, nI_1]
            rw [if_neg (show ¬ nI (i + 1) ≤ 40 from fun q => absurd ((nI_leI (b := 40) (by omega) (by omega)).mp q) (by omega))]
          · have h1 := hout S hS hSr
            have h2 := out_cap b3 S
            omega) 3000 0 (g1, z1) (by omega) (by omega)
    ⟨by omega, a2, fun e he => by rw [a3, hfl0 e he]; omega, fun S _ _ => by
      rw [a3, out_cong (ψ := fun _ => 0) hfl0]
      unfold outS
      rw [fb_si_cong (g := fun e => ((0 : Nat) : Int)) (fun e _ => by simp), fb_si_nat (fun _ => 0), fb_sm_const]
      rfl, a4, a5, a6⟩
  refine ⟨r.1, r.2, ?_, p1, p2⟩
  unfold f_X7_cut
  simp only [nm_s]
  rw [a1]
  simp only [bdS]
  rw [show (L_X7_cut_8 (nI f) 3000 0 g1 z1) = some r from hr1]

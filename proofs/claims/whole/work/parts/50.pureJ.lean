/-! ===== March: who is shut in goes over ===== -/
theorem low_bit {v : Int32} (hv : ¬ v = 0) : ∃ f, f < 32 ∧ bt v f = true ∧ v &&& (-v) = (1 : Int32) <<< (nI f &&& 31) := by
  have hex : ∃ i, i < 32 ∧ bt v i = true := by
    refine Classical.byContradiction fun q => hv (b_ext (fun i hi => ?_))
    rw [b_0]
    cases c : bt v i
    · rfl
    · exact absurd ⟨i, hi, c⟩ q
  obtain ⟨f, hf, h1, h2⟩ := fb_first (p := fun i => bt v i = true) hex
  refine ⟨f, hf, h1, b_ext (fun i hi => ?_)⟩
  have hneg : bt (-v) i = (bt v i ^^ (decide (i < 32) && decide (∃ j, j < i ∧ bt v j = true))) := by
    unfold bt
    rw [Int32.toBitVec_neg, BitVec.getLsbD_neg]
  rw [b_and, b_pow f hf, hneg, decide_eq_true hi, Bool.true_and]
  by_cases c : i = f
  · rw [c, h1, decide_eq_false (fun q => by obtain ⟨j, hj, hb⟩ := q; exact h2 j hj hb)]; simp
  · rw [decide_eq_false c]
    cases hb : bt v i
    · rfl
    · have : f < i := by
        rcases Nat.lt_trichotomy f i with q | q | q
        · exact q
        · exact absurd q.symm c
        · exact absurd hb (h2 i q)
      rw [decide_eq_true ⟨f, this, h1⟩]; rfl
theorem b_andn (x y : Int32) (i : Nat) : bt (x &&& (y ^^^ (-1))) i = (bt x i && !(bt y i)) := by
  rcases Nat.lt_or_ge i 32 with h | h
  · rw [b_and, b_not _ h]
  · rw [b_big h, b_big h]; rfl
theorem b_make (p : Nat → Bool) : ∃ x : Int32, ∀ j, bt x j = (decide (j < 32) && p j) := by
  have key : ∀ k, k ≤ 32 → ∃ x : Int32, ∀ j, bt x j = (decide (j < k) && p j) := by
    intro k
    induction k with
    | zero => intro _; exact ⟨0, fun j => by rw [b_0]; simp⟩
    | succ k ih =>
      intro h
      obtain ⟨s, hs⟩ := ih (by omega)
      exact ⟨_, b_grow (by omega) hs⟩
  exact key 32 (Nat.le_refl _)
theorem clo_not {W H : Nat} {sh S : Nat → Bool} (h : clo W H sh S) : clo W H sh (fun j => !(S j)) := fun e he hs => by
  show (!(S _)) = (!(S _))
  rw [h e he hs]
theorem land_ex {W H : Nat} (ok : okB W H = true) (sh : Nat → Bool) {f : Nat} (hf : f < W * H) : ∃ R, isLand W H sh ((1 : Int32) <<< (nI f &&& 31)) R := by
  have hgn := geo_n ok
  obtain ⟨R, hR⟩ := b_make (fun i => @decide (i < W * H ∧ ∀ S : Nat → Bool, clo W H sh S → S f = true → S i = true) (Classical.propDecidable _))
  have hR2 : ∀ i, bt R i = true ↔ (i < W * H ∧ ∀ S : Nat → Bool, clo W H sh S → S f = true → S i = true) := fun i => by
    rw [hR, Bool.and_eq_true, decide_eq_true_eq]
    exact ⟨fun h => (@decide_eq_true_iff _ (Classical.propDecidable _)).mp h.2, fun h => ⟨by have := h.1; omega, (@decide_eq_true_iff _ (Classical.propDecidable _)).mpr h⟩⟩
  refine ⟨R, ⟨fun i hi => ((hR2 i).mp hi).1, fun i hi => ?_, fun S hS hA i hi => ((hR2 i).mp hi).2 S hS (hA f (by rw [b_pow f (by omega)]; simp))⟩, fun e he hs => ?_⟩
  · rw [b_pow f (by omega), decide_eq_true_eq] at hi
    rw [hi]
    exact (hR2 f).mpr ⟨hf, fun S _ h => h⟩
  · have hg := geo_e ok he
    apply Bool.eq_iff_iff.mpr
    rw [hR2, hR2]
    constructor
    · intro h
      exact ⟨hg.2.1, fun S hS hF => by rw [← hS e he hs]; exact h.2 S hS hF⟩
    · intro h
      exact ⟨hg.1, fun S hS hF => by rw [hS e he hs]; exact h.2 S hS hF⟩
theorem landC_ok {W H : Nat} (ok : okB W H = true) (sh : Nat → Bool) {f : Nat} (hf : f < W * H) : isLand W H sh ((1 : Int32) <<< (nI f &&& 31)) (landC W H sh f) := Classical.epsilon_spec (land_ex ok sh hf)
theorem land_same {W H : Nat} {sh : Nat → Bool} {f i : Nat} (hf : f < 32) (hi : i < 32) {R : Int32} (h : isLand W H sh ((1 : Int32) <<< (nI f &&& 31)) R) (hb : bt R i = true) : isLand W H sh ((1 : Int32) <<< (nI i &&& 31)) R := by
  refine ⟨⟨h.1.1, fun k hk => ?_, fun S hS hA k hk => ?_⟩, h.2⟩
  · rw [b_pow i hi, decide_eq_true_eq] at hk
    rw [hk]; exact hb
  · have hSi : S i = true := hA i (by rw [b_pow i hi]; simp)
    have hSf : S f = true := by
      cases q : S f
      · have := h.1.2.2 (fun j => !(S j)) (clo_not hS) (fun j hj => by
          rw [b_pow f hf, decide_eq_true_eq] at hj
          show (!(S j)) = true
          rw [hj, q]; rfl) i hb
        simp [hSi] at this
      · rfl
    exact h.1.2.2 S hS (fun j hj => by
      rw [b_pow f hf, decide_eq_true_eq] at hj
      rw [hj]; exact hSf) k hk
noncomputable def marB (W H : Nat) (sh one : Nat → Bool) (ow : Int32) (i : Nat) : Bool := if byV W H one (landC W H sh i) = 1 then true else (if byV W H one (landC W H sh i) = 0 then false else bt ow i)
def isMar (W H : Nat) (sh one : Nat → Bool) (ow x : Int32) : Prop := ∀ i, bt x i = (decide (i < W * H) && marB W H sh one ow i)
theorem isMar_one {W H : Nat} {sh one : Nat → Bool} {ow x y : Int32} (h : isMar W H sh one ow x) (k : isMar W H sh one ow y) : x = y := b_ext (fun i _ => by rw [h i, k i])
theorem isMar_in {W H : Nat} {sh one : Nat → Bool} {ow x : Int32} (h : isMar W H sh one ow x) : ∀ i, bt x i = true → i < W * H := fun i hi => by
  rw [h i, Bool.and_eq_true, decide_eq_true_eq] at hi
  exact hi.1
def marOwn (W H : Nat) (one : Nat → Bool) (own R : Int32) : Int32 := if byV W H one R = 1 then own ||| R else (if byV W H one R = 0 then own &&& (R ^^^ (-1)) else own)
theorem mar_step {W H : Nat} (ok : okB W H = true) {sh one done : Nat → Bool} {ow own : Int32} {f : Nat} (hf : f < W * H) {R : Int32} (hR : isLand W H sh ((1 : Int32) <<< (nI f &&& 31)) R) (hd : ∀ i, bt R i = true → done i = false) (hm : ∀ i, bt own i = if done i then marB W H sh one ow i else bt ow i) :
    ∀ i, bt (marOwn W H one own R) i = if (done i || bt R i) then marB W H sh one ow i else bt ow i := by
  have hgn := geo_n ok
  intro i
  unfold marOwn
  cases hb : bt R i
  · have e : bt (if byV W H one R = 1 then own ||| R else (if byV W H one R = 0 then own &&& (R ^^^ (-1)) else own)) i = bt own i := by
      by_cases c : byV W H one R = 1
      · rw [if_pos c, b_or, hb, Bool.or_false]
      · rw [if_neg c]
        by_cases d : byV W H one R = 0
        · rw [if_pos d, b_andn, hb]; simp
        · rw [if_neg d]
    rw [e, hm i, Bool.or_false]
  · have hi := hR.1.1 i hb
    have hl : landC W H sh i = R := landC_is (land_same (by omega) (by omega) hR hb)
    have hw := hm i
    rw [hd i hb, if_neg (by decide)] at hw
    rw [Bool.or_true, if_pos rfl]
    unfold marB
    rw [hl]
    by_cases c : byV W H one R = 1
    · rw [if_pos c, if_pos c, b_or, hb, Bool.or_true]
    · rw [if_neg c, if_neg c]
      by_cases d : byV W H one R = 0
      · rw [if_pos d, if_pos d, b_andn, hb]; simp
      · rw [if_neg d, if_neg d, hw]
theorem mar_end {W H : Nat} {sh one done : Nat → Bool} {ow own : Int32} (how : ∀ i, bt ow i = true → i < W * H) (hall : ∀ i, done i = decide (i < W * H)) (hm : ∀ i, bt own i = if done i then marB W H sh one ow i else bt ow i) : isMar W H sh one ow own := fun i => by
  rw [hm i, hall i]
  by_cases c : i < W * H
  · simp [c]
  · have : bt ow i = false := by cases q : bt ow i; rfl; exact absurd (how i q) c
    simp [c, this]
theorem pc_march {W H : Nat} {so : Nat → Nat} {pa : Nat → Bool} {zG : GS} (ok : okB W H = true) (hG : GC W H so pa zG) {t u : Int64} {sh one : Nat → Bool} (ht : ∀ e, e < eN W H → bl t (ePl W H e) = sh e) (hu : ∀ e, e < eN W H → bl u (ePl W H e) = one e) (ow : Int32) (how : ∀ i, bt ow i = true → i < W * H) :
    ∃ x, f_X0_ownedAfterMarch zG t u ow = some x ∧ isMar W H sh one ow x := by
  have hgn := geo_n ok
  have hrim : ∀ i, bt (zG.1 5) i = true ↔ (i < W * H ∧ rimB W H i = true) := fun i => by rw [hG.2.1.2.1, Bool.and_eq_true, decide_eq_true_eq]
  obtain ⟨L0, hL1, hL2⟩ := pc_land ok hG ht (zG.1 5) (fun i hi => ((hrim i).mp hi).1)
  have hl0 : ∀ i, bt ((zG.1 4) &&& (L0 ^^^ (-1))) i = (decide (i < W * H) && !(bt L0 i)) := fun i => by rw [b_andn, hG.2.1.1]
  obtain ⟨r, hr, hp⟩ := up_loop (σ := Int32 × Int32) (fun n i s => L_X0_ownedAfterMarch_25 zG t u ow n s.1 s.2 i) 25
    (fun k s => (∀ i, bt s.2 i = true → i < W * H) ∧ clo W H sh (bt s.2) ∧ (∀ i, bt s.1 i = if (decide (i < W * H) && !(bt s.2 i)) then marB W H sh one ow i else bt ow i) ∧ k + fb_ct (bt s.2) 25 ≤ 25)
    (fun r => isMar W H sh one ow r.1)
    (fun n s hI => by
      refine ⟨(s.1, s.2, nI 25), ?_, ?_⟩
      · show L_X0_ownedAfterMarch_25 zG t u ow (n + 1) s.1 s.2 (nI 25) = _
        rw [L_X0_ownedAfterMarch_25, if_pos (show (25 : Int32) ≤ nI 25 by decide)]
      · have hz : fb_ct (bt s.2) 25 = 0 := by have := hI.2.2.2; omega
        refine mar_end how (fun i => ?_) hI.2.2.1
        by_cases c : i < W * H
        · rw [fb_ct_zero.mp hz i (by omega)]; simp [c]
        · simp [c])
    (fun n k s hk hI => by
      by_cases c : s.2 = 0
      · left
        refine ⟨(s.1, s.2, nI k), ?_, mar_end how (fun i => ?_) hI.2.2.1⟩
        · show L_X0_ownedAfterMarch_25 zG t u ow (n + 1) s.1 s.2 (nI k) = _
          rw [L_X0_ownedAfterMarch_25, if_neg (show ¬ (25 : Int32) ≤ nI k from fun q => absurd ((nI_leI (a := 25) (by omega) (by omega)).mp q) (by omega)), if_pos c]
        · rw [c, b_0]; simp
      · right
        obtain ⟨f, hf, hf1, hf2⟩ := low_bit c
        have hfl := hI.1 f hf1
        obtain ⟨R, hR1, hR2⟩ := pc_land ok hG ht _ (pow_in ok hfl)
        have hsub : ∀ i, bt R i = true → bt s.2 i = true := hR2.1.2.2 (bt s.2) hI.2.1 (fun i hi => by
          rw [b_pow f (by omega), decide_eq_true_eq] at hi
          rw [hi]; exact hf1)
        refine ⟨(marOwn W H one s.1 R, s.2 &&& (R ^^^ (-1))), ⟨fun i hi => ?_, fun e he hs => ?_, fun i => ?_, ?_⟩, ?_⟩
        · rw [b_andn, Bool.and_eq_true] at hi
          exact hI.1 i hi.1
        · rw [b_andn, b_andn, hI.2.1 e he hs, hR2.2 e he hs]
        · have h := mar_step ok hfl hR2 (done := fun i => decide (i < W * H) && !(bt s.2 i)) (fun j hj => by
            show (decide (j < W * H) && !(bt s.2 j)) = false
            rw [hsub j hj]; simp) hI.2.2.1 i
          rw [h, b_andn]
          congr 1
          cases hb : bt R i
          · simp
          · simp [hR2.1.1 i hb, hsub i hb]
        · have := ct_more (p := bt (s.2 &&& (R ^^^ (-1)))) (q := bt s.2) (n := 25) (j := f) (fun i _ hi => by
            rw [b_andn, Bool.and_eq_true] at hi
            exact hi.1) (by omega) hf1 (by rw [b_andn, land_self (by omega) hR2]; simp)
          have := hI.2.2.2
          show k + 1 + fb_ct (bt (s.2 &&& (R ^^^ (-1)))) 25 ≤ 25
          omega
        · show L_X0_ownedAfterMarch_25 zG t u ow (n + 1) s.1 s.2 (nI k) = L_X0_ownedAfterMarch_25 zG t u ow n (marOwn W H one s.1 R) (s.2 &&& (R ^^^ (-1))) (nI (k + 1))
          rw [L_X0_ownedAfterMarch_25, if_neg (show ¬ (25 : Int32) ≤ nI k from fun q => absurd ((nI_leI (a := 25) (by omega) (by omega)).mp q) (by omega)), if_neg c, hf2, hR1]
          simp only [Option.bind_some]
          rw [pc_by ok hG R hu]
          simp only [Option.bind_some, nm_s, nI_1]
          unfold marOwn
          by_cases d : byV W H one R = 1
          · rw [if_pos d, if_pos d]
          · rw [if_neg d, if_neg d]
            by_cases g : byV W H one R = 0
            · rw [if_pos g, if_pos g]
            · rw [if_neg g, if_neg g]) 3000 0 (ow, (zG.1 4) &&& (L0 ^^^ (-1))) (by omega) (by omega)
    ⟨fun i hi => by
        rw [hl0, Bool.and_eq_true, decide_eq_true_eq] at hi
        exact hi.1, fun e he hs => by
        have hg := geo_e ok he
        rw [hl0, hl0, hL2.2 e he hs, decide_eq_true hg.1, decide_eq_true hg.2.1], fun i => by
        show bt ow i = if (decide (i < W * H) && !(bt ((zG.1 4) &&& (L0 ^^^ (-1))) i)) then marB W H sh one ow i else bt ow i
        rw [hl0]
        by_cases c : i < W * H
        · cases d : bt L0 i
          · simp [c]
          · rw [decide_eq_true c]
            simp only [Bool.true_and, Bool.not_true, Bool.not_false, if_true]
            have hli := landC_ok ok sh c
            have hv : byV W H one (landC W H sh i) = -1 := by
              unfold byV
              rw [if_neg (fun q => ?_)]
              have := hL2.1.2.2 (fun j => !(bt (landC W H sh i) j)) (clo_not hli.2) (fun j hj => by
                obtain ⟨j1, j2⟩ := (hrim j).mp hj
                have := q j j1
                rw [j2, Bool.and_true] at this
                show (!(bt (landC W H sh i) j)) = true
                rw [this]; rfl) i d
              rw [land_self (by omega) hli] at this
              cases this
            unfold marB
            rw [hv, if_neg (by decide), if_neg (by decide)]
        · simp [c], by
        show 0 + fb_ct (bt ((zG.1 4) &&& (L0 ^^^ (-1)))) 25 ≤ 25
        have := fb_ct_le (bt ((zG.1 4) &&& (L0 ^^^ (-1)))) 25
        omega⟩
  refine ⟨r.1, ?_, hp⟩
  unfold f_X0_ownedAfterMarch
  rw [hL1]
  simp only [Option.bind_some, nm_s]
  rw [show (L_X0_ownedAfterMarch_25 zG t u ow 3000 ow ((zG.1 4) &&& (L0 ^^^ (-1))) 0) = some r from hr]
  rfl
theorem pm_march {W H : Nat} {so : Nat → Nat} {pa : Nat → Bool} {zM : MS} {hd ag : Nat → Nat} {ga : Nat → Bool} {ow : Int32} {yr : Nat} (ok : okB W H = true) (hs : soOk so) (hG : GM W H so pa zM) (hK : SK W H hd ag ga ow yr) (hS : SM W H hd ag ga ow yr (zM.2 8)) :
    ∃ r, L_X7_pass_83 zM 3000 ow 0 0 = some r ∧ isMar W H (shutB W H so hd ag ga) (fun e => decide (hd e = 2)) ow r.1 := by
  have hgn := geo_n ok
  refine up_loop (σ := Int32 × Int32) (fun n i s => L_X7_pass_83 zM n s.1 s.2 i) (W * H)
    (fun k s => (∀ i, bt s.2 i = true → i < W * H) ∧ clo W H (shutB W H so hd ag ga) (bt s.2) ∧ (∀ i, i < k → bt s.2 i = true) ∧ (∀ i, bt s.1 i = if bt s.2 i then marB W H (shutB W H so hd ag ga) (fun e => decide (hd e = 2)) ow i else bt ow i))
    (fun r => isMar W H (shutB W H so hd ag ga) (fun e => decide (hd e = 2)) ow r.1) ?_ ?_ 3000 0 (ow, 0) (by omega) (by omega)
    ⟨fun i hi => (by rw [b_0] at hi; cases hi), fun e he _ => (by rw [b_0, b_0]), fun i hi => absurd hi (Nat.not_lt_zero i), fun i => by rw [b_0]; rfl⟩
  · intro n s hI
    refine ⟨(s.1, s.2, nI (W * H)), ?_, mar_end hK.2.1 (fun i => ?_) hI.2.2.2⟩
    · show L_X7_pass_83 zM (n + 1) s.1 s.2 (nI (W * H)) = _
      rw [L_X7_pass_83, hG.1.2.2.1, if_pos (Int32.le_refl _)]
    · by_cases c : i < W * H
      · rw [hI.2.2.1 i c, decide_eq_true c]
      · rw [decide_eq_false c]
        cases q : bt s.2 i
        · rfl
        · exact absurd (hI.1 i q) c
  · intro n k s hk hI
    right
    cases c : bt s.2 k
    · obtain ⟨R, hR1, hR2⟩ := pm_land ok hs hG hK hS hk
      have hdis : ∀ i, bt R i = true → bt s.2 i = false := fun i hi => by
        have := hR2.1.2.2 (fun j => !(bt s.2 j)) (clo_not hI.2.1) (fun j hj => by
          rw [b_pow k (by omega), decide_eq_true_eq] at hj
          show (!(bt s.2 j)) = true
          rw [hj, c]; rfl) i hi
        simpa using this
      refine ⟨(marOwn W H (fun e => decide (hd e = 2)) s.1 R, s.2 ||| R), ⟨fun i hi => ?_, fun e he hsh => ?_, fun i hi => ?_, fun i => ?_⟩, ?_⟩
      · rw [b_or, Bool.or_eq_true] at hi
        rcases hi with q | q
        · exact hI.1 i q
        · exact hR2.1.1 i q
      · rw [b_or, b_or, hI.2.1 e he hsh, hR2.2 e he hsh]
      · rw [b_or]
        rcases Nat.lt_or_ge i k with z | z
        · rw [hI.2.2.1 i z, Bool.true_or]
        · have : i = k := by omega
          rw [this, land_self (by omega) hR2, Bool.or_true]
      · rw [b_or]
        exact mar_step ok hk hR2 hdis hI.2.2.2 i
      · show L_X7_pass_83 zM (n + 1) s.1 s.2 (nI k) = L_X7_pass_83 zM n (marOwn W H (fun e => decide (hd e = 2)) s.1 R) (s.2 ||| R) (nI (k + 1))
        rw [L_X7_pass_83, hG.1.2.2.1, if_neg (fun q => absurd ((nI_leI (by omega) (by omega)).mp q) (by omega)), pm_has _ (show k < 32 by omega), c]
        simp only [Option.bind_some]
        rw [if_pos (show (if false = true then (1 : Int32) else 0) = 0 from rfl), hR1]
        simp only [Option.bind_some]
        rw [pm_by ok hG hK hS hk (land_self (by omega) hR2) (fun e he hc => shut_hd (land_cross hR2 he hc))]
        simp only [Option.bind_some, nm_s, nI_1]
        unfold marOwn
        by_cases d : byV W H (fun e => decide (hd e = 2)) R = 1
        · rw [if_pos d, if_pos d]
        · rw [if_neg d, if_neg d]
          by_cases g : byV W H (fun e => decide (hd e = 2)) R = 0
          · rw [if_pos g, if_pos g]
          · rw [if_neg g, if_neg g]
    · refine ⟨s, ⟨hI.1, hI.2.1, fun i hi => ?_, hI.2.2.2⟩, ?_⟩
      · rcases Nat.lt_or_ge i k with z | z
        · exact hI.2.2.1 i z
        · have : i = k := by omega
          rw [this]; exact c
      · show L_X7_pass_83 zM (n + 1) s.1 s.2 (nI k) = L_X7_pass_83 zM n s.1 s.2 (nI (k + 1))
        rw [L_X7_pass_83, hG.1.2.2.1, if_neg (fun q => absurd ((nI_leI (by omega) (by omega)).mp q) (by omega)), pm_has _ (show k < 32 by omega), c]
        rw [Option.bind_some, if_neg (show ¬ (if true = true then (1 : Int32) else 0) = 0 by decide)]
        simp only [nm_s, nI_1]

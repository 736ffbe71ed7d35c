/-! THE CLAIM OUT OF ONE WALK OF THE LAW'S BODY. Your part is whole_start (and what it stands on); all else here is the same for every law, but numbers. -/
def R_law : String := "HedgeWarLaw"
def lw_P (b : Addr) (xs : List Int32) (args : Array Value) (s : State) : Prop := args = #[.ref b] ∧ s.IntsAt b xs ∧ xs.length ≤ 320 ∧ (Jvm.Cond.and given_1 narrow_1).before args s = true
def lw_Q (_ : Array Value) (s : State) (o : Outcome) (t : State) : Prop := o = .returned (some (.int 1)) ∧ Framed s o t [] 600000 7302250
def lw_Z (below : List Frame) (a : Array Value) (s : State) : State → Prop := fun t => ∃ o, t.status = .running ∧ Ended t below o ∧ lw_Q a s o t
/-- the law's own end, with 1 on the stack, nothing written that was there before, its room as the claim has it -/
theorem lw_ret {p : Program} {l : Launch} {e : Env} {s : State} {m : MethodId} {below : List Frame} {meth : Method} {c : Code} {b : Nat} (hx : p.tables.exec = Jvm.exec) (hb : c.code = code) (hr : meth.sig.returnType = ret) (hlocks : meth.locks = false) {pc : Nat} {H : Heap} {ls : Array Slot} (hdg : decode code pc = .ok (.ireturn, 1)) : W p l e room_1 s m #[Value.ref b] below meth c H [] 600000 7302250 (lw_Z below #[Value.ref b] s) (F0 m pc ls [.int 1]) := by
  intro T hT X
  obtain ⟨fs, hret, hrun, hended, hW, hframe⟩ := X.leave (v := some (.int 1)) (hlocks := hlocks) (fun h => by rw [hr] at h; cases h)
  have hmeth' : T.vm.method? m = some meth := X.method'
  refine ⟨T.setFrames fs, ?_, .returned (some (.int 1)), hrun, hended, rfl, ⟨_, rfl⟩, hW, hframe⟩
  jvm_step X.here [X.here.top, hx, hb, hdg, hmeth', hr, ret, narrow_b1]
  (try refine ⟨rfl, ?_⟩); (try refine ⟨rfl, ?_⟩)
  first | (intro acts; rw [hret _ acts rfl rfl rfl]) | rw [hret _ _ rfl rfl rfl]
  exact Steps.refl _
/-- what holds at the law's entry: the machine, the code, the tables' words (any of lw_tbl by 'hts w (by decide +kernel)'), the script of L ints xs at the cell b, what the Statement gives of the start (any of its parts by flat_of_before) -/
def lw_At (p : Program) (s : State) (m : MethodId) (meth : Method) (c : Code) (b L : Nat) (xs : Nat → Int32) : Prop :=
  p.tables.exec = Jvm.exec ∧ c.code = code ∧ meth.sig.returnType = ret ∧ c.maxLocals = 4 ∧ s.vm.findClass R_law = some m.cls ∧ (∀ w ∈ lw_tbl, w.before #[Value.ref b] s = true) ∧ va_X b L xs s s.heap ∧ b < s.heap.size ∧ meth.locks = false ∧ (Jvm.Cond.and given_1 narrow_1).before #[Value.ref b] s = true
def SM_0 (Rel : ZZ → Prop) : Prop := ∀ (zX : XS) (zR : RS) (zRG : GS) (zRS : SS) (zG : GS) (zS : SS) (zP : PS) (zQ : QS) (zN : NS) (zI : IS) (zJ : QS) (zT : TS) (zM : MS) (a1 : Int32), Rel (zX, zR, zRG, zRS, zG, zS, zP, zQ, zN, zI, zJ, zT, zM) → ∃ z : ZZ, sp_0 zX zR zRG zRS zG zS zP zQ zN zI zJ zT zM a1 = some z ∧ Rel z
def SM_1 (Rel : ZZ → Prop) : Prop := ∀ (zX : XS) (zR : RS) (zRG : GS) (zRS : SS) (zG : GS) (zS : SS) (zP : PS) (zQ : QS) (zN : NS) (zI : IS) (zJ : QS) (zT : TS) (zM : MS), Rel (zX, zR, zRG, zRS, zG, zS, zP, zQ, zN, zI, zJ, zT, zM) → ∃ z : ZZ, sp_1 zX zR zRG zRS zG zS zP zQ zN zI zJ zT zM = some z ∧ Rel z
def SM_2 (Rel : ZZ → Prop) : Prop := ∀ (zX : XS) (zR : RS) (zRG : GS) (zRS : SS) (zG : GS) (zS : SS) (zP : PS) (zQ : QS) (zN : NS) (zI : IS) (zJ : QS) (zT : TS) (zM : MS), Rel (zX, zR, zRG, zRS, zG, zS, zP, zQ, zN, zI, zJ, zT, zM) → ∃ z : ZZ, sp_2 zX zR zRG zRS zG zS zP zQ zN zI zJ zT zM = some z ∧ Rel z
def SM_3 (Rel : ZZ → Prop) : Prop := ∀ (zX : XS) (zR : RS) (zRG : GS) (zRS : SS) (zG : GS) (zS : SS) (zP : PS) (zQ : QS) (zN : NS) (zI : IS) (zJ : QS) (zT : TS) (zM : MS) (a1 : Int32), Rel (zX, zR, zRG, zRS, zG, zS, zP, zQ, zN, zI, zJ, zT, zM) → ∃ z : ZZ, sp_3 zX zR zRG zRS zG zS zP zQ zN zI zJ zT zM a1 = some z ∧ Rel z
def SM_4 (Rel : ZZ → Prop) : Prop := ∀ (zX : XS) (zR : RS) (zRG : GS) (zRS : SS) (zG : GS) (zS : SS) (zP : PS) (zQ : QS) (zN : NS) (zI : IS) (zJ : QS) (zT : TS) (zM : MS) (a1 a2 : Int32), Rel (zX, zR, zRG, zRS, zG, zS, zP, zQ, zN, zI, zJ, zT, zM) → ∃ z : ZZ, sp_4 zX zR zRG zRS zG zS zP zQ zN zI zJ zT zM a1 a2 = some z ∧ Rel z
def SM_5 (Rel : ZZ → Prop) : Prop := ∀ (zX : XS) (zR : RS) (zRG : GS) (zRS : SS) (zG : GS) (zS : SS) (zP : PS) (zQ : QS) (zN : NS) (zI : IS) (zJ : QS) (zT : TS) (zM : MS) (a1 a2 : Int32), Rel (zX, zR, zRG, zRS, zG, zS, zP, zQ, zN, zI, zJ, zT, zM) → ∃ z : ZZ, sp_5 zX zR zRG zRS zG zS zP zQ zN zI zJ zT zM a1 a2 = some z ∧ Rel z
def SM_6 (Rel : ZZ → Prop) : Prop := ∀ (zX : XS) (zR : RS) (zRG : GS) (zRS : SS) (zG : GS) (zS : SS) (zP : PS) (zQ : QS) (zN : NS) (zI : IS) (zJ : QS) (zT : TS) (zM : MS) (a1 a2 : Int32), Rel (zX, zR, zRG, zRS, zG, zS, zP, zQ, zN, zI, zJ, zT, zM) → ∃ z : ZZ, sp_6 zX zR zRG zRS zG zS zP zQ zN zI zJ zT zM a1 a2 = some z ∧ Rel z
def SM_7 (Rel : ZZ → Prop) : Prop := ∀ (zX : XS) (zR : RS) (zRG : GS) (zRS : SS) (zG : GS) (zS : SS) (zP : PS) (zQ : QS) (zN : NS) (zI : IS) (zJ : QS) (zT : TS) (zM : MS) (a1 : Int32), Rel (zX, zR, zRG, zRS, zG, zS, zP, zQ, zN, zI, zJ, zT, zM) → ∃ z : ZZ, sp_7 zX zR zRG zRS zG zS zP zQ zN zI zJ zT zM a1 = some z ∧ Rel z
def SM_8 (Rel : ZZ → Prop) : Prop := ∀ (zX : XS) (zR : RS) (zRG : GS) (zRS : SS) (zG : GS) (zS : SS) (zP : PS) (zQ : QS) (zN : NS) (zI : IS) (zJ : QS) (zT : TS) (zM : MS) (a1 a2 : Int32), Rel (zX, zR, zRG, zRS, zG, zS, zP, zQ, zN, zI, zJ, zT, zM) → ∃ z : ZZ, sp_8 zX zR zRG zRS zG zS zP zQ zN zI zJ zT zM a1 a2 = some z ∧ Rel z
def SM_9 (Rel : ZZ → Prop) : Prop := ∀ (zX : XS) (zR : RS) (zRG : GS) (zRS : SS) (zG : GS) (zS : SS) (zP : PS) (zQ : QS) (zN : NS) (zI : IS) (zJ : QS) (zT : TS) (zM : MS) (a1 : Int32), Rel (zX, zR, zRG, zRS, zG, zS, zP, zQ, zN, zI, zJ, zT, zM) → ∃ z : ZZ, sp_9 zX zR zRG zRS zG zS zP zQ zN zI zJ zT zM a1 = some z ∧ Rel z
def SM_10 (Rel : ZZ → Prop) : Prop := ∀ (zX : XS) (zR : RS) (zRG : GS) (zRS : SS) (zG : GS) (zS : SS) (zP : PS) (zQ : QS) (zN : NS) (zI : IS) (zJ : QS) (zT : TS) (zM : MS) (a1 : Int32), Rel (zX, zR, zRG, zRS, zG, zS, zP, zQ, zN, zI, zJ, zT, zM) → ∃ z : ZZ, sp_10 zX zR zRG zRS zG zS zP zQ zN zI zJ zT zM a1 = some z ∧ Rel z
def SM_11 (Rel : ZZ → Prop) : Prop := ∀ (zX : XS) (zR : RS) (zRG : GS) (zRS : SS) (zG : GS) (zS : SS) (zP : PS) (zQ : QS) (zN : NS) (zI : IS) (zJ : QS) (zT : TS) (zM : MS), Rel (zX, zR, zRG, zRS, zG, zS, zP, zQ, zN, zI, zJ, zT, zM) → ∃ z : ZZ, sp_11 zX zR zRG zRS zG zS zP zQ zN zI zJ zT zM = some z ∧ Rel z
def SM_12 (Rel : ZZ → Prop) : Prop := ∀ (zX : XS) (zR : RS) (zRG : GS) (zRS : SS) (zG : GS) (zS : SS) (zP : PS) (zQ : QS) (zN : NS) (zI : IS) (zJ : QS) (zT : TS) (zM : MS) (a1 a2 a3 a4 : Int32), Rel (zX, zR, zRG, zRS, zG, zS, zP, zQ, zN, zI, zJ, zT, zM) → ∃ z : ZZ, sp_12 zX zR zRG zRS zG zS zP zQ zN zI zJ zT zM a1 a2 a3 a4 = some z ∧ Rel z
def SM_13 (Rel : ZZ → Prop) : Prop := ∀ (zX : XS) (zR : RS) (zRG : GS) (zRS : SS) (zG : GS) (zS : SS) (zP : PS) (zQ : QS) (zN : NS) (zI : IS) (zJ : QS) (zT : TS) (zM : MS) (a1 a2 : Int32), Rel (zX, zR, zRG, zRS, zG, zS, zP, zQ, zN, zI, zJ, zT, zM) → ∃ z : ZZ, sp_13 zX zR zRG zRS zG zS zP zQ zN zI zJ zT zM a1 a2 = some z ∧ Rel z
def SM_14 (Rel : ZZ → Prop) : Prop := ∀ (zX : XS) (zR : RS) (zRG : GS) (zRS : SS) (zG : GS) (zS : SS) (zP : PS) (zQ : QS) (zN : NS) (zI : IS) (zJ : QS) (zT : TS) (zM : MS) (a1 : Int32), Rel (zX, zR, zRG, zRS, zG, zS, zP, zQ, zN, zI, zJ, zT, zM) → ∃ z : ZZ, sp_14 zX zR zRG zRS zG zS zP zQ zN zI zJ zT zM a1 = some z ∧ Rel z
def SM_15 (Rel : ZZ → Prop) : Prop := ∀ (zX : XS) (zR : RS) (zRG : GS) (zRS : SS) (zG : GS) (zS : SS) (zP : PS) (zQ : QS) (zN : NS) (zI : IS) (zJ : QS) (zT : TS) (zM : MS) (a1 a2 : Int32), Rel (zX, zR, zRG, zRS, zG, zS, zP, zQ, zN, zI, zJ, zT, zM) → ∃ z : ZZ, sp_15 zX zR zRG zRS zG zS zP zQ zN zI zJ zT zM a1 a2 = some z ∧ Rel z
def SM_16 (Rel : ZZ → Prop) : Prop := ∀ (zX : XS) (zR : RS) (zRG : GS) (zRS : SS) (zG : GS) (zS : SS) (zP : PS) (zQ : QS) (zN : NS) (zI : IS) (zJ : QS) (zT : TS) (zM : MS) (a1 a2 : Int32), Rel (zX, zR, zRG, zRS, zG, zS, zP, zQ, zN, zI, zJ, zT, zM) → ∃ z : ZZ, sp_16 zX zR zRG zRS zG zS zP zQ zN zI zJ zT zM a1 a2 = some z ∧ Rel z
def SM_17 (Rel : ZZ → Prop) : Prop := ∀ (zX : XS) (zR : RS) (zRG : GS) (zRS : SS) (zG : GS) (zS : SS) (zP : PS) (zQ : QS) (zN : NS) (zI : IS) (zJ : QS) (zT : TS) (zM : MS) (a1 a2 : Int32), Rel (zX, zR, zRG, zRS, zG, zS, zP, zQ, zN, zI, zJ, zT, zM) → ∃ z : ZZ, sp_17 zX zR zRG zRS zG zS zP zQ zN zI zJ zT zM a1 a2 = some z ∧ Rel z
def SM_18 (Rel : ZZ → Prop) : Prop := ∀ (zX : XS) (zR : RS) (zRG : GS) (zRS : SS) (zG : GS) (zS : SS) (zP : PS) (zQ : QS) (zN : NS) (zI : IS) (zJ : QS) (zT : TS) (zM : MS) (a1 a2 : Int32), Rel (zX, zR, zRG, zRS, zG, zS, zP, zQ, zN, zI, zJ, zT, zM) → ∃ z : ZZ, sp_18 zX zR zRG zRS zG zS zP zQ zN zI zJ zT zM a1 a2 = some z ∧ Rel z
def SM_19 (Rel : ZZ → Prop) : Prop := ∀ (zX : XS) (zR : RS) (zRG : GS) (zRS : SS) (zG : GS) (zS : SS) (zP : PS) (zQ : QS) (zN : NS) (zI : IS) (zJ : QS) (zT : TS) (zM : MS), Rel (zX, zR, zRG, zRS, zG, zS, zP, zQ, zN, zI, zJ, zT, zM) → ∃ z : ZZ, sp_19 zX zR zRG zRS zG zS zP zQ zN zI zJ zT zM = some z ∧ Rel z
def SM_20 (Rel : ZZ → Prop) : Prop := ∀ (zX : XS) (zR : RS) (zRG : GS) (zRS : SS) (zG : GS) (zS : SS) (zP : PS) (zQ : QS) (zN : NS) (zI : IS) (zJ : QS) (zT : TS) (zM : MS), Rel (zX, zR, zRG, zRS, zG, zS, zP, zQ, zN, zI, zJ, zT, zM) → ∃ z : ZZ, sp_20 zX zR zRG zRS zG zS zP zQ zN zI zJ zT zM = some z ∧ Rel z
def SM_21 (Rel : ZZ → Prop) : Prop := ∀ (zX : XS) (zR : RS) (zRG : GS) (zRS : SS) (zG : GS) (zS : SS) (zP : PS) (zQ : QS) (zN : NS) (zI : IS) (zJ : QS) (zT : TS) (zM : MS) (a1 a2 : Int32), Rel (zX, zR, zRG, zRS, zG, zS, zP, zQ, zN, zI, zJ, zT, zM) → ∃ z : ZZ, sp_21 zX zR zRG zRS zG zS zP zQ zN zI zJ zT zM a1 a2 = some z ∧ Rel z
def SM_22 (Rel : ZZ → Prop) : Prop := ∀ (zX : XS) (zR : RS) (zRG : GS) (zRS : SS) (zG : GS) (zS : SS) (zP : PS) (zQ : QS) (zN : NS) (zI : IS) (zJ : QS) (zT : TS) (zM : MS), Rel (zX, zR, zRG, zRS, zG, zS, zP, zQ, zN, zI, zJ, zT, zM) → ∃ z : ZZ, sp_22 zX zR zRG zRS zG zS zP zQ zN zI zJ zT zM = some z ∧ Rel z
def SM_23 (Rel : ZZ → Prop) : Prop := ∀ (zX : XS) (zR : RS) (zRG : GS) (zRS : SS) (zG : GS) (zS : SS) (zP : PS) (zQ : QS) (zN : NS) (zI : IS) (zJ : QS) (zT : TS) (zM : MS), Rel (zX, zR, zRG, zRS, zG, zS, zP, zQ, zN, zI, zJ, zT, zM) → ∃ z : ZZ, sp_23 zX zR zRG zRS zG zS zP zQ zN zI zJ zT zM = some z ∧ Rel z
def SM_24 (Rel : ZZ → Prop) : Prop := ∀ (zX : XS) (zR : RS) (zRG : GS) (zRS : SS) (zG : GS) (zS : SS) (zP : PS) (zQ : QS) (zN : NS) (zI : IS) (zJ : QS) (zT : TS) (zM : MS) (a1 : Int32), Rel (zX, zR, zRG, zRS, zG, zS, zP, zQ, zN, zI, zJ, zT, zM) → ∃ z : ZZ, sp_24 zX zR zRG zRS zG zS zP zQ zN zI zJ zT zM a1 = some z ∧ Rel z
def SM_25 (Rel : ZZ → Prop) : Prop := ∀ (zX : XS) (zR : RS) (zRG : GS) (zRS : SS) (zG : GS) (zS : SS) (zP : PS) (zQ : QS) (zN : NS) (zI : IS) (zJ : QS) (zT : TS) (zM : MS) (a1 : Int32), Rel (zX, zR, zRG, zRS, zG, zS, zP, zQ, zN, zI, zJ, zT, zM) → ∃ z : ZZ, sp_25 zX zR zRG zRS zG zS zP zQ zN zI zJ zT zM a1 = some z ∧ Rel z
def SM_26 (Rel : ZZ → Prop) : Prop := ∀ (zX : XS) (zR : RS) (zRG : GS) (zRS : SS) (zG : GS) (zS : SS) (zP : PS) (zQ : QS) (zN : NS) (zI : IS) (zJ : QS) (zT : TS) (zM : MS) (a1 : Int32), Rel (zX, zR, zRG, zRS, zG, zS, zP, zQ, zN, zI, zJ, zT, zM) → ∃ z : ZZ, sp_26 zX zR zRG zRS zG zS zP zQ zN zI zJ zT zM a1 = some z ∧ Rel z
def SMs (Rel : ZZ → Prop) : Prop := SM_0 Rel ∧ SM_1 Rel ∧ SM_2 Rel ∧ SM_3 Rel ∧ SM_4 Rel ∧ SM_5 Rel ∧ SM_6 Rel ∧ SM_7 Rel ∧ SM_8 Rel ∧ SM_9 Rel ∧ SM_10 Rel ∧ SM_11 Rel ∧ SM_12 Rel ∧ SM_13 Rel ∧ SM_14 Rel ∧ SM_15 Rel ∧ SM_16 Rel ∧ SM_17 Rel ∧ SM_18 Rel ∧ SM_19 Rel ∧ SM_20 Rel ∧ SM_21 Rel ∧ SM_22 Rel ∧ SM_23 Rel ∧ SM_24 Rel ∧ SM_25 Rel ∧ SM_26 Rel
theorem law_exit {L k : Nat} (hL : L ≤ 320) (hk : k ≤ L) : (Int32.ofNat L - 5 < nI k) ↔ L < k + 5 := by
  have h1 : (Int32.ofNat L - 5).toInt = (L : Int) - 5 := pk_sub_toInt (a := L) (b := 5) (by omega) (by omega)
  have h2 : (nI k).toInt = (k : Int) := nI_toInt (by omega)
  rw [Int32.lt_iff_toInt_lt, h1, h2]
  omega
theorem law_at {k : Nat} (xs : Nat → Int32) (h : k ≤ 320) : xs (nI k).toNatClampNeg = xs k := by rw [nI_clamp (by omega)]
set_option maxHeartbeats 8000000 in
set_option maxRecDepth 200000 in
theorem law_loop {p : Program} {l : Launch} {e : Env} {s : State} {m : MethodId} {below : List Frame} {meth : Method} {c : Code} {b L : Nat} {xs : Nat → Int32} {D : va_G} {ci : Nat → ClassId} (Rel : ZZ → Prop) (hsim : SMs Rel) (hL320 : L ≤ 320) (C0 : lw_At p s m meth c b L xs) (hK : va_K D vwCl (tyL ci) s) (aX_0 : Nat) (aR_0 : Nat) (aG_0 : Nat) (aS_0 : Nat) (aP_0 : Nat) (aN_0 : Nat) (aI_0 : Nat) (aT_0 : Nat) (aR_1 : Nat) (aRG_0 : Nat) (aRS_0 : Nat) (aRG_1 : Nat) (aRG_2 : Nat) (aRG_3 : Nat) (aRG_4 : Nat) (aRS_1 : Nat) (aG_1 : Nat) (aG_2 : Nat) (aG_3 : Nat) (aG_4 : Nat) (aS_1 : Nat) (aP_1 : Nat) (aQ : Nat → Nat) (aN_1 : Nat) (aN_2 : Nat) (aN_3 : Nat) (aN_4 : Nat) (aI_1 : Nat) (aI_2 : Nat) (aJ : Nat → Nat) (aM : Nat → Nat) (z0 : ZZ) (hR0 : Rel z0) (H : Heap) (locs : List Loc) (ls : Array Slot) (hP : va_P D vwCl (fl [(wcX aX_0 aR_0 aG_0 aS_0 aP_0 aN_0 aI_0 aT_0 z0.1), (wcR ci aR_0 aR_1 aRG_0 aRS_0 z0.2.1), (wcG ci aRG_0 aRG_1 aRG_2 aRG_3 aRG_4 z0.2.2.1), (wcS ci aRS_0 aRS_1 z0.2.2.2.1), (wcG ci aG_0 aG_1 aG_2 aG_3 aG_4 z0.2.2.2.2.1), (wcS ci aS_0 aS_1 z0.2.2.2.2.2.1), (wcP ci aP_0 aP_1 aQ z0.2.2.2.2.2.2.1), (wcQ ci aQ z0.2.2.2.2.2.2.2.1), (wcN ci aN_0 aN_1 aN_2 aN_3 aN_4 z0.2.2.2.2.2.2.2.2.1), (wcI ci aI_0 aI_1 aI_2 aJ z0.2.2.2.2.2.2.2.2.2.1), (wcJ ci aJ z0.2.2.2.2.2.2.2.2.2.2.1), (wcT ci aT_0 z0.2.2.2.2.2.2.2.2.2.2.2.1), (wcM ci aM z0.2.2.2.2.2.2.2.2.2.2.2.2)]) H) (hD : va_D (fun q : Nat => s.heap.size ≤ q) (fl [(wcX aX_0 aR_0 aG_0 aS_0 aP_0 aN_0 aI_0 aT_0 z0.1), (wcR ci aR_0 aR_1 aRG_0 aRS_0 z0.2.1), (wcG ci aRG_0 aRG_1 aRG_2 aRG_3 aRG_4 z0.2.2.1), (wcS ci aRS_0 aRS_1 z0.2.2.2.1), (wcG ci aG_0 aG_1 aG_2 aG_3 aG_4 z0.2.2.2.2.1), (wcS ci aS_0 aS_1 z0.2.2.2.2.2.1), (wcP ci aP_0 aP_1 aQ z0.2.2.2.2.2.2.1), (wcQ ci aQ z0.2.2.2.2.2.2.2.1), (wcN ci aN_0 aN_1 aN_2 aN_3 aN_4 z0.2.2.2.2.2.2.2.2.1), (wcI ci aI_0 aI_1 aI_2 aJ z0.2.2.2.2.2.2.2.2.2.1), (wcJ ci aJ z0.2.2.2.2.2.2.2.2.2.2.1), (wcT ci aT_0 z0.2.2.2.2.2.2.2.2.2.2.2.1), (wcM ci aM z0.2.2.2.2.2.2.2.2.2.2.2.2)])) (hS : va_S (fun q : Nat => s.heap.size ≤ q) s.heap H locs) (hl : lv_has ls 4 [(3, .int (nI 0)), (2, .ref (aM 0)), (1, .ref aX_0), (0, .ref b)]) : W p l e room_1 s m #[Value.ref b] below meth c H locs 96 5513 (lw_Z below #[Value.ref b] s) (F0 m 18 ls []) := by
  obtain ⟨hx, hb, hr, hml, hown0, hts0, hX, hbl, hlocks, hgv⟩ := C0
  have hts : ∀ w ∈ wsL_law, w.before #[Value.ref b] s = true := fun w h => hts0 w (wsL_law_in w h)
  have hown : s.vm.findClass RL = some m.cls := hown0
  have hbA : ¬ (fun q : Nat => s.heap.size ≤ q) b := Nat.not_le.mpr hbl
  obtain ⟨hs0, hs1, hs2, hs3, hs4, hs5, hs6, hs7, hs8, hs9, hs10, hs11, hs12, hs13, hs14, hs15, hs16, hs17, hs18, hs19, hs20, hs21, hs22, hs23, hs24, hs25, hs26⟩ := hsim
  refine lpW (σ := Nat × ZZ) (I := fun n v H locs ls => (v.1 ≤ L ∧ L < v.1 + n) ∧ Rel v.2 ∧ va_P D vwCl (fl [(wcX aX_0 aR_0 aG_0 aS_0 aP_0 aN_0 aI_0 aT_0 v.2.1), (wcR ci aR_0 aR_1 aRG_0 aRS_0 v.2.2.1), (wcG ci aRG_0 aRG_1 aRG_2 aRG_3 aRG_4 v.2.2.2.1), (wcS ci aRS_0 aRS_1 v.2.2.2.2.1), (wcG ci aG_0 aG_1 aG_2 aG_3 aG_4 v.2.2.2.2.2.1), (wcS ci aS_0 aS_1 v.2.2.2.2.2.2.1), (wcP ci aP_0 aP_1 aQ v.2.2.2.2.2.2.2.1), (wcQ ci aQ v.2.2.2.2.2.2.2.2.1), (wcN ci aN_0 aN_1 aN_2 aN_3 aN_4 v.2.2.2.2.2.2.2.2.2.1), (wcI ci aI_0 aI_1 aI_2 aJ v.2.2.2.2.2.2.2.2.2.2.1), (wcJ ci aJ v.2.2.2.2.2.2.2.2.2.2.2.1), (wcT ci aT_0 v.2.2.2.2.2.2.2.2.2.2.2.2.1), (wcM ci aM v.2.2.2.2.2.2.2.2.2.2.2.2.2)]) H ∧ va_D (fun q : Nat => s.heap.size ≤ q) (fl [(wcX aX_0 aR_0 aG_0 aS_0 aP_0 aN_0 aI_0 aT_0 v.2.1), (wcR ci aR_0 aR_1 aRG_0 aRS_0 v.2.2.1), (wcG ci aRG_0 aRG_1 aRG_2 aRG_3 aRG_4 v.2.2.2.1), (wcS ci aRS_0 aRS_1 v.2.2.2.2.1), (wcG ci aG_0 aG_1 aG_2 aG_3 aG_4 v.2.2.2.2.2.1), (wcS ci aS_0 aS_1 v.2.2.2.2.2.2.1), (wcP ci aP_0 aP_1 aQ v.2.2.2.2.2.2.2.1), (wcQ ci aQ v.2.2.2.2.2.2.2.2.1), (wcN ci aN_0 aN_1 aN_2 aN_3 aN_4 v.2.2.2.2.2.2.2.2.2.1), (wcI ci aI_0 aI_1 aI_2 aJ v.2.2.2.2.2.2.2.2.2.2.1), (wcJ ci aJ v.2.2.2.2.2.2.2.2.2.2.2.1), (wcT ci aT_0 v.2.2.2.2.2.2.2.2.2.2.2.2.1), (wcM ci aM v.2.2.2.2.2.2.2.2.2.2.2.2.2)]) ∧ va_S (fun q : Nat => s.heap.size ≤ q) s.heap H locs ∧ lv_has ls 4 [(3, .int (nI v.1)), (2, .ref (aM 0)), (1, .ref aX_0), (0, .ref b)]) (L + 1) (0, z0) (fun v _ _ _ h => by have := h.1; omega) ⟨⟨Nat.zero_le _, by show L < 0 + (L + 1); omega⟩, hR0, hP, hD, hS, hl⟩ ?_
  clear hP hD hS hl hR0
  intro n ih vq H locs ls hI
  obtain ⟨k, zX, zR, zRG, zRS, zG, zS, zP, zQ, zN, zI, zJ, zT, zM⟩ := vq
  obtain ⟨⟨hkL, hkn⟩, hR, hP, hD, hS, hl⟩ := hI
  replace hkL : k ≤ L := hkL
  replace hkn : L < k + (n + 1) := hkn
  replace hR : Rel (zX, zR, zRG, zRS, zG, zS, zP, zQ, zN, zI, zJ, zT, zM) := hR
  replace hP : va_P D vwCl (fl [(wcX aX_0 aR_0 aG_0 aS_0 aP_0 aN_0 aI_0 aT_0 zX), (wcR ci aR_0 aR_1 aRG_0 aRS_0 zR), (wcG ci aRG_0 aRG_1 aRG_2 aRG_3 aRG_4 zRG), (wcS ci aRS_0 aRS_1 zRS), (wcG ci aG_0 aG_1 aG_2 aG_3 aG_4 zG), (wcS ci aS_0 aS_1 zS), (wcP ci aP_0 aP_1 aQ zP), (wcQ ci aQ zQ), (wcN ci aN_0 aN_1 aN_2 aN_3 aN_4 zN), (wcI ci aI_0 aI_1 aI_2 aJ zI), (wcJ ci aJ zJ), (wcT ci aT_0 zT), (wcM ci aM zM)]) H := hP
  replace hD : va_D (fun q : Nat => s.heap.size ≤ q) (fl [(wcX aX_0 aR_0 aG_0 aS_0 aP_0 aN_0 aI_0 aT_0 zX), (wcR ci aR_0 aR_1 aRG_0 aRS_0 zR), (wcG ci aRG_0 aRG_1 aRG_2 aRG_3 aRG_4 zRG), (wcS ci aRS_0 aRS_1 zRS), (wcG ci aG_0 aG_1 aG_2 aG_3 aG_4 zG), (wcS ci aS_0 aS_1 zS), (wcP ci aP_0 aP_1 aQ zP), (wcQ ci aQ zQ), (wcN ci aN_0 aN_1 aN_2 aN_3 aN_4 zN), (wcI ci aI_0 aI_1 aI_2 aJ zI), (wcJ ci aJ zJ), (wcT ci aT_0 zT), (wcM ci aM zM)]) := hD
  replace hl : lv_has ls 4 [(3, .int (nI k)), (2, .ref (aM 0)), (1, .ref aX_0), (0, .ref b)] := hl
  refine lv_iload_n hx hb dL_law_18 rfl (lv_at hl 0 rfl) ?_
  refine lv_aload_n hx hb dL_law_19 rfl (lv_at hl 3 rfl) ?_
  refine va_slen hx hb hX hbl hbA hS dL_law_20 ?_
  refine lv_iconst (v := 5) hx hb dL_law_21 (by decide) ?_
  refine lv_isub hx hb dL_law_22 ?_
  refine lv_icmp_gt (tgt := 859) hx hb dL_law_23 (by decide) (fun c9 => ?_) (fun c9 => ?_)
  · refine lv_iconst (v := 1) hx hb dL_law_859 (by decide) ?_
    refine va_forget (fun q hq => hS.2.2 q hq) ?_
    refine W.widen (k := 600000) (n := 7302250) (by omega) (by omega) ?_
    exact lw_ret hx hb hr hlocks dL_law_860
  · have hk5 : k + 5 ≤ L := by rw [law_exit hL320 hkL] at c9; omega
    have hcont : ∀ z : ZZ, Rel z → ∀ (H : Heap) (locs : List Loc) (ls : Array Slot), va_P D vwCl (fl [(wcX aX_0 aR_0 aG_0 aS_0 aP_0 aN_0 aI_0 aT_0 z.1), (wcR ci aR_0 aR_1 aRG_0 aRS_0 z.2.1), (wcG ci aRG_0 aRG_1 aRG_2 aRG_3 aRG_4 z.2.2.1), (wcS ci aRS_0 aRS_1 z.2.2.2.1), (wcG ci aG_0 aG_1 aG_2 aG_3 aG_4 z.2.2.2.2.1), (wcS ci aS_0 aS_1 z.2.2.2.2.2.1), (wcP ci aP_0 aP_1 aQ z.2.2.2.2.2.2.1), (wcQ ci aQ z.2.2.2.2.2.2.2.1), (wcN ci aN_0 aN_1 aN_2 aN_3 aN_4 z.2.2.2.2.2.2.2.2.1), (wcI ci aI_0 aI_1 aI_2 aJ z.2.2.2.2.2.2.2.2.2.1), (wcJ ci aJ z.2.2.2.2.2.2.2.2.2.2.1), (wcT ci aT_0 z.2.2.2.2.2.2.2.2.2.2.2.1), (wcM ci aM z.2.2.2.2.2.2.2.2.2.2.2.2)]) H → va_D (fun q : Nat => s.heap.size ≤ q) (fl [(wcX aX_0 aR_0 aG_0 aS_0 aP_0 aN_0 aI_0 aT_0 z.1), (wcR ci aR_0 aR_1 aRG_0 aRS_0 z.2.1), (wcG ci aRG_0 aRG_1 aRG_2 aRG_3 aRG_4 z.2.2.1), (wcS ci aRS_0 aRS_1 z.2.2.2.1), (wcG ci aG_0 aG_1 aG_2 aG_3 aG_4 z.2.2.2.2.1), (wcS ci aS_0 aS_1 z.2.2.2.2.2.1), (wcP ci aP_0 aP_1 aQ z.2.2.2.2.2.2.1), (wcQ ci aQ z.2.2.2.2.2.2.2.1), (wcN ci aN_0 aN_1 aN_2 aN_3 aN_4 z.2.2.2.2.2.2.2.2.1), (wcI ci aI_0 aI_1 aI_2 aJ z.2.2.2.2.2.2.2.2.2.1), (wcJ ci aJ z.2.2.2.2.2.2.2.2.2.2.1), (wcT ci aT_0 z.2.2.2.2.2.2.2.2.2.2.2.1), (wcM ci aM z.2.2.2.2.2.2.2.2.2.2.2.2)]) → va_S (fun q : Nat => s.heap.size ≤ q) s.heap H locs → lv_has ls 4 [(3, .int (nI k)), (2, .ref (aM 0)), (1, .ref aX_0), (0, .ref b)] → W p l e room_1 s m #[Value.ref b] below meth c H locs 96 5513 (lw_Z below #[Value.ref b] s) (F0 m 853 ls []) := by
      intro z hz H locs ls hP hD hS hl
      refine lv_iinc (v := nI (k + 5)) (lv' := [(3, .int (nI (k + 5))), (2, .ref (aM 0)), (1, .ref aX_0), (0, .ref b)]) hx hb dL_law_853 hl (k := 0) rfl (nI_add k 5) (by decide) rfl (fun ls hl => ?_)
      refine lv_goto (tgt := 18) hx hb dL_law_856 (by decide) ?_
      exact ih (k + 5, z) H locs ls ⟨⟨hk5, by show L < (k + 5) + n; omega⟩, hz, hP, hD, hS, hl⟩
    refine lv_aload_n hx hb dL_law_26 rfl (lv_at hl 3 rfl) ?_
    refine lv_iload_n hx hb dL_law_27 rfl (lv_at hl 0 rfl) ?_
    refine va_sld hx hb hX hbl hbA hS (vp_in_nI (n := k) (N := L) (by omega) (by omega)) dL_law_28 ?_
    refine lv_bipush (v := 31) hx hb dL_law_29 (by decide) ?_
    refine lv_iand hx hb dL_law_31 ?_
    refine lv_topi (fun kk ekk => ?_)
    by_cases c_0 : kk = 0
    · clear ekk
      subst c_0
      refine lv_tableIn (tgt := 156) hx hb dL_law_32 (by decide) (by decide) rfl (by decide) ?_
      obtain ⟨z9, hz9, hR9⟩ := hs0 zX zR zRG zRS zG zS zP zQ zN zI zJ zT zM (xs (k + 1)) hR
      exact lc_0 hx hb hml hown hts hX hbl hL320 hk5 hK aX_0 aR_0 aG_0 aS_0 aP_0 aN_0 aI_0 aT_0 aR_1 aRG_0 aRS_0 aRG_1 aRG_2 aRG_3 aRG_4 aRS_1 aG_1 aG_2 aG_3 aG_4 aS_1 aP_1 aQ aN_1 aN_2 aN_3 aN_4 aI_1 aI_2 aJ aM zX zR zRG zRS zG zS zP zQ zN zI zJ zT zM (xs (k + 1)) rfl z9 hz9 H locs ls hP hD hS hl (hcont z9 hR9)
    by_cases c_1 : kk = 1
    · clear ekk
      subst c_1
      refine lv_tableIn (tgt := 179) hx hb dL_law_32 (by decide) (by decide) rfl (by decide) ?_
      obtain ⟨z9, hz9, hR9⟩ := hs1 zX zR zRG zRS zG zS zP zQ zN zI zJ zT zM hR
      exact lc_1 hx hb hml hown hts hX hbl hL320 hk5 hK aX_0 aR_0 aG_0 aS_0 aP_0 aN_0 aI_0 aT_0 aR_1 aRG_0 aRS_0 aRG_1 aRG_2 aRG_3 aRG_4 aRS_1 aG_1 aG_2 aG_3 aG_4 aS_1 aP_1 aQ aN_1 aN_2 aN_3 aN_4 aI_1 aI_2 aJ aM zX zR zRG zRS zG zS zP zQ zN zI zJ zT zM  z9 hz9 H locs ls hP hD hS hl (hcont z9 hR9)
    by_cases c_2 : kk = 2
    · clear ekk
      subst c_2
      refine lv_tableIn (tgt := 192) hx hb dL_law_32 (by decide) (by decide) rfl (by decide) ?_
      obtain ⟨z9, hz9, hR9⟩ := hs2 zX zR zRG zRS zG zS zP zQ zN zI zJ zT zM hR
      exact lc_2 hx hb hml hown hts hX hbl hL320 hk5 hK aX_0 aR_0 aG_0 aS_0 aP_0 aN_0 aI_0 aT_0 aR_1 aRG_0 aRS_0 aRG_1 aRG_2 aRG_3 aRG_4 aRS_1 aG_1 aG_2 aG_3 aG_4 aS_1 aP_1 aQ aN_1 aN_2 aN_3 aN_4 aI_1 aI_2 aJ aM zX zR zRG zRS zG zS zP zQ zN zI zJ zT zM  z9 hz9 H locs ls hP hD hS hl (hcont z9 hR9)
    by_cases c_3 : kk = 3
    · clear ekk
      subst c_3
      refine lv_tableIn (tgt := 205) hx hb dL_law_32 (by decide) (by decide) rfl (by decide) ?_
      obtain ⟨z9, hz9, hR9⟩ := hs3 zX zR zRG zRS zG zS zP zQ zN zI zJ zT zM (xs (k + 1)) hR
      exact lc_3 hx hb hml hown hts hX hbl hL320 hk5 hK aX_0 aR_0 aG_0 aS_0 aP_0 aN_0 aI_0 aT_0 aR_1 aRG_0 aRS_0 aRG_1 aRG_2 aRG_3 aRG_4 aRS_1 aG_1 aG_2 aG_3 aG_4 aS_1 aP_1 aQ aN_1 aN_2 aN_3 aN_4 aI_1 aI_2 aJ aM zX zR zRG zRS zG zS zP zQ zN zI zJ zT zM (xs (k + 1)) rfl z9 hz9 H locs ls hP hD hS hl (hcont z9 hR9)
    by_cases c_4 : kk = 4
    · clear ekk
      subst c_4
      refine lv_tableIn (tgt := 228) hx hb dL_law_32 (by decide) (by decide) rfl (by decide) ?_
      obtain ⟨z9, hz9, hR9⟩ := hs4 zX zR zRG zRS zG zS zP zQ zN zI zJ zT zM (xs (k + 1)) (xs (k + 2)) hR
      exact lc_4 hx hb hml hown hts hX hbl hL320 hk5 hK aX_0 aR_0 aG_0 aS_0 aP_0 aN_0 aI_0 aT_0 aR_1 aRG_0 aRS_0 aRG_1 aRG_2 aRG_3 aRG_4 aRS_1 aG_1 aG_2 aG_3 aG_4 aS_1 aP_1 aQ aN_1 aN_2 aN_3 aN_4 aI_1 aI_2 aJ aM zX zR zRG zRS zG zS zP zQ zN zI zJ zT zM (xs (k + 1)) (xs (k + 2)) rfl rfl z9 hz9 H locs ls hP hD hS hl (hcont z9 hR9)
    by_cases c_5 : kk = 5
    · clear ekk
      subst c_5
      refine lv_tableIn (tgt := 261) hx hb dL_law_32 (by decide) (by decide) rfl (by decide) ?_
      obtain ⟨z9, hz9, hR9⟩ := hs5 zX zR zRG zRS zG zS zP zQ zN zI zJ zT zM (xs (k + 1)) (xs (k + 2)) hR
      exact lc_5 hx hb hml hown hts hX hbl hL320 hk5 hK aX_0 aR_0 aG_0 aS_0 aP_0 aN_0 aI_0 aT_0 aR_1 aRG_0 aRS_0 aRG_1 aRG_2 aRG_3 aRG_4 aRS_1 aG_1 aG_2 aG_3 aG_4 aS_1 aP_1 aQ aN_1 aN_2 aN_3 aN_4 aI_1 aI_2 aJ aM zX zR zRG zRS zG zS zP zQ zN zI zJ zT zM (xs (k + 1)) (xs (k + 2)) rfl rfl z9 hz9 H locs ls hP hD hS hl (hcont z9 hR9)
    by_cases c_6 : kk = 6
    · clear ekk
      subst c_6
      refine lv_tableIn (tgt := 294) hx hb dL_law_32 (by decide) (by decide) rfl (by decide) ?_
      obtain ⟨z9, hz9, hR9⟩ := hs6 zX zR zRG zRS zG zS zP zQ zN zI zJ zT zM (xs (k + 1)) (xs (k + 2)) hR
      exact lc_6 hx hb hml hown hts hX hbl hL320 hk5 hK aX_0 aR_0 aG_0 aS_0 aP_0 aN_0 aI_0 aT_0 aR_1 aRG_0 aRS_0 aRG_1 aRG_2 aRG_3 aRG_4 aRS_1 aG_1 aG_2 aG_3 aG_4 aS_1 aP_1 aQ aN_1 aN_2 aN_3 aN_4 aI_1 aI_2 aJ aM zX zR zRG zRS zG zS zP zQ zN zI zJ zT zM (xs (k + 1)) (xs (k + 2)) rfl rfl z9 hz9 H locs ls hP hD hS hl (hcont z9 hR9)
    by_cases c_7 : kk = 7
    · clear ekk
      subst c_7
      refine lv_tableIn (tgt := 327) hx hb dL_law_32 (by decide) (by decide) rfl (by decide) ?_
      obtain ⟨z9, hz9, hR9⟩ := hs7 zX zR zRG zRS zG zS zP zQ zN zI zJ zT zM (xs (k + 1)) hR
      exact lc_7 hx hb hml hown hts hX hbl hL320 hk5 hK aX_0 aR_0 aG_0 aS_0 aP_0 aN_0 aI_0 aT_0 aR_1 aRG_0 aRS_0 aRG_1 aRG_2 aRG_3 aRG_4 aRS_1 aG_1 aG_2 aG_3 aG_4 aS_1 aP_1 aQ aN_1 aN_2 aN_3 aN_4 aI_1 aI_2 aJ aM zX zR zRG zRS zG zS zP zQ zN zI zJ zT zM (xs (k + 1)) rfl z9 hz9 H locs ls hP hD hS hl (hcont z9 hR9)
    by_cases c_8 : kk = 8
    · clear ekk
      subst c_8
      refine lv_tableIn (tgt := 350) hx hb dL_law_32 (by decide) (by decide) rfl (by decide) ?_
      obtain ⟨z9, hz9, hR9⟩ := hs8 zX zR zRG zRS zG zS zP zQ zN zI zJ zT zM (xs (k + 1)) (xs (k + 2)) hR
      exact lc_8 hx hb hml hown hts hX hbl hL320 hk5 hK aX_0 aR_0 aG_0 aS_0 aP_0 aN_0 aI_0 aT_0 aR_1 aRG_0 aRS_0 aRG_1 aRG_2 aRG_3 aRG_4 aRS_1 aG_1 aG_2 aG_3 aG_4 aS_1 aP_1 aQ aN_1 aN_2 aN_3 aN_4 aI_1 aI_2 aJ aM zX zR zRG zRS zG zS zP zQ zN zI zJ zT zM (xs (k + 1)) (xs (k + 2)) rfl rfl z9 hz9 H locs ls hP hD hS hl (hcont z9 hR9)
    by_cases c_9 : kk = 9
    · clear ekk
      subst c_9
      refine lv_tableIn (tgt := 399) hx hb dL_law_32 (by decide) (by decide) rfl (by decide) ?_
      obtain ⟨z9, hz9, hR9⟩ := hs9 zX zR zRG zRS zG zS zP zQ zN zI zJ zT zM (xs (k + 1)) hR
      exact lc_9 hx hb hml hown hts hX hbl hL320 hk5 hK aX_0 aR_0 aG_0 aS_0 aP_0 aN_0 aI_0 aT_0 aR_1 aRG_0 aRS_0 aRG_1 aRG_2 aRG_3 aRG_4 aRS_1 aG_1 aG_2 aG_3 aG_4 aS_1 aP_1 aQ aN_1 aN_2 aN_3 aN_4 aI_1 aI_2 aJ aM zX zR zRG zRS zG zS zP zQ zN zI zJ zT zM (xs (k + 1)) rfl z9 hz9 H locs ls hP hD hS hl (hcont z9 hR9)
    by_cases c_10 : kk = 10
    · clear ekk
      subst c_10
      refine lv_tableIn (tgt := 422) hx hb dL_law_32 (by decide) (by decide) rfl (by decide) ?_
      obtain ⟨z9, hz9, hR9⟩ := hs10 zX zR zRG zRS zG zS zP zQ zN zI zJ zT zM (xs (k + 1)) hR
      exact lc_10 hx hb hml hown hts hX hbl hL320 hk5 hK aX_0 aR_0 aG_0 aS_0 aP_0 aN_0 aI_0 aT_0 aR_1 aRG_0 aRS_0 aRG_1 aRG_2 aRG_3 aRG_4 aRS_1 aG_1 aG_2 aG_3 aG_4 aS_1 aP_1 aQ aN_1 aN_2 aN_3 aN_4 aI_1 aI_2 aJ aM zX zR zRG zRS zG zS zP zQ zN zI zJ zT zM (xs (k + 1)) rfl z9 hz9 H locs ls hP hD hS hl (hcont z9 hR9)
    by_cases c_11 : kk = 11
    · clear ekk
      subst c_11
      refine lv_tableIn (tgt := 445) hx hb dL_law_32 (by decide) (by decide) rfl (by decide) ?_
      obtain ⟨z9, hz9, hR9⟩ := hs11 zX zR zRG zRS zG zS zP zQ zN zI zJ zT zM hR
      exact lc_11 hx hb hml hown hts hX hbl hL320 hk5 hK aX_0 aR_0 aG_0 aS_0 aP_0 aN_0 aI_0 aT_0 aR_1 aRG_0 aRS_0 aRG_1 aRG_2 aRG_3 aRG_4 aRS_1 aG_1 aG_2 aG_3 aG_4 aS_1 aP_1 aQ aN_1 aN_2 aN_3 aN_4 aI_1 aI_2 aJ aM zX zR zRG zRS zG zS zP zQ zN zI zJ zT zM  z9 hz9 H locs ls hP hD hS hl (hcont z9 hR9)
    by_cases c_12 : kk = 12
    · clear ekk
      subst c_12
      refine lv_tableIn (tgt := 458) hx hb dL_law_32 (by decide) (by decide) rfl (by decide) ?_
      obtain ⟨z9, hz9, hR9⟩ := hs12 zX zR zRG zRS zG zS zP zQ zN zI zJ zT zM (xs (k + 1)) (xs (k + 2)) (xs (k + 3)) (xs (k + 4)) hR
      exact lc_12 hx hb hml hown hts hX hbl hL320 hk5 hK aX_0 aR_0 aG_0 aS_0 aP_0 aN_0 aI_0 aT_0 aR_1 aRG_0 aRS_0 aRG_1 aRG_2 aRG_3 aRG_4 aRS_1 aG_1 aG_2 aG_3 aG_4 aS_1 aP_1 aQ aN_1 aN_2 aN_3 aN_4 aI_1 aI_2 aJ aM zX zR zRG zRS zG zS zP zQ zN zI zJ zT zM (xs (k + 1)) (xs (k + 2)) (xs (k + 3)) (xs (k + 4)) rfl rfl rfl rfl z9 hz9 H locs ls hP hD hS hl (hcont z9 hR9)
    by_cases c_13 : kk = 13
    · clear ekk
      subst c_13
      refine lv_tableIn (tgt := 511) hx hb dL_law_32 (by decide) (by decide) rfl (by decide) ?_
      obtain ⟨z9, hz9, hR9⟩ := hs13 zX zR zRG zRS zG zS zP zQ zN zI zJ zT zM (xs (k + 1)) (xs (k + 2)) hR
      exact lc_13 hx hb hml hown hts hX hbl hL320 hk5 hK aX_0 aR_0 aG_0 aS_0 aP_0 aN_0 aI_0 aT_0 aR_1 aRG_0 aRS_0 aRG_1 aRG_2 aRG_3 aRG_4 aRS_1 aG_1 aG_2 aG_3 aG_4 aS_1 aP_1 aQ aN_1 aN_2 aN_3 aN_4 aI_1 aI_2 aJ aM zX zR zRG zRS zG zS zP zQ zN zI zJ zT zM (xs (k + 1)) (xs (k + 2)) rfl rfl z9 hz9 H locs ls hP hD hS hl (hcont z9 hR9)
    by_cases c_14 : kk = 14
    · clear ekk
      subst c_14
      refine lv_tableIn (tgt := 544) hx hb dL_law_32 (by decide) (by decide) rfl (by decide) ?_
      obtain ⟨z9, hz9, hR9⟩ := hs14 zX zR zRG zRS zG zS zP zQ zN zI zJ zT zM (xs (k + 1)) hR
      exact lc_14 hx hb hml hown hts hX hbl hL320 hk5 hK aX_0 aR_0 aG_0 aS_0 aP_0 aN_0 aI_0 aT_0 aR_1 aRG_0 aRS_0 aRG_1 aRG_2 aRG_3 aRG_4 aRS_1 aG_1 aG_2 aG_3 aG_4 aS_1 aP_1 aQ aN_1 aN_2 aN_3 aN_4 aI_1 aI_2 aJ aM zX zR zRG zRS zG zS zP zQ zN zI zJ zT zM (xs (k + 1)) rfl z9 hz9 H locs ls hP hD hS hl (hcont z9 hR9)
    by_cases c_15 : kk = 15
    · clear ekk
      subst c_15
      refine lv_tableIn (tgt := 567) hx hb dL_law_32 (by decide) (by decide) rfl (by decide) ?_
      obtain ⟨z9, hz9, hR9⟩ := hs15 zX zR zRG zRS zG zS zP zQ zN zI zJ zT zM (xs (k + 1)) (xs (k + 2)) hR
      exact lc_15 hx hb hml hown hts hX hbl hL320 hk5 hK aX_0 aR_0 aG_0 aS_0 aP_0 aN_0 aI_0 aT_0 aR_1 aRG_0 aRS_0 aRG_1 aRG_2 aRG_3 aRG_4 aRS_1 aG_1 aG_2 aG_3 aG_4 aS_1 aP_1 aQ aN_1 aN_2 aN_3 aN_4 aI_1 aI_2 aJ aM zX zR zRG zRS zG zS zP zQ zN zI zJ zT zM (xs (k + 1)) (xs (k + 2)) rfl rfl z9 hz9 H locs ls hP hD hS hl (hcont z9 hR9)
    by_cases c_16 : kk = 16
    · clear ekk
      subst c_16
      refine lv_tableIn (tgt := 600) hx hb dL_law_32 (by decide) (by decide) rfl (by decide) ?_
      obtain ⟨z9, hz9, hR9⟩ := hs16 zX zR zRG zRS zG zS zP zQ zN zI zJ zT zM (xs (k + 1)) (xs (k + 2)) hR
      exact lc_16 hx hb hml hown hts hX hbl hL320 hk5 hK aX_0 aR_0 aG_0 aS_0 aP_0 aN_0 aI_0 aT_0 aR_1 aRG_0 aRS_0 aRG_1 aRG_2 aRG_3 aRG_4 aRS_1 aG_1 aG_2 aG_3 aG_4 aS_1 aP_1 aQ aN_1 aN_2 aN_3 aN_4 aI_1 aI_2 aJ aM zX zR zRG zRS zG zS zP zQ zN zI zJ zT zM (xs (k + 1)) (xs (k + 2)) rfl rfl z9 hz9 H locs ls hP hD hS hl (hcont z9 hR9)
    by_cases c_17 : kk = 17
    · clear ekk
      subst c_17
      refine lv_tableIn (tgt := 633) hx hb dL_law_32 (by decide) (by decide) rfl (by decide) ?_
      obtain ⟨z9, hz9, hR9⟩ := hs17 zX zR zRG zRS zG zS zP zQ zN zI zJ zT zM (xs (k + 1)) (xs (k + 2)) hR
      exact lc_17 hx hb hml hown hts hX hbl hL320 hk5 hK aX_0 aR_0 aG_0 aS_0 aP_0 aN_0 aI_0 aT_0 aR_1 aRG_0 aRS_0 aRG_1 aRG_2 aRG_3 aRG_4 aRS_1 aG_1 aG_2 aG_3 aG_4 aS_1 aP_1 aQ aN_1 aN_2 aN_3 aN_4 aI_1 aI_2 aJ aM zX zR zRG zRS zG zS zP zQ zN zI zJ zT zM (xs (k + 1)) (xs (k + 2)) rfl rfl z9 hz9 H locs ls hP hD hS hl (hcont z9 hR9)
    by_cases c_18 : kk = 18
    · clear ekk
      subst c_18
      refine lv_tableIn (tgt := 666) hx hb dL_law_32 (by decide) (by decide) rfl (by decide) ?_
      obtain ⟨z9, hz9, hR9⟩ := hs18 zX zR zRG zRS zG zS zP zQ zN zI zJ zT zM (xs (k + 1)) (xs (k + 2)) hR
      exact lc_18 hx hb hml hown hts hX hbl hL320 hk5 hK aX_0 aR_0 aG_0 aS_0 aP_0 aN_0 aI_0 aT_0 aR_1 aRG_0 aRS_0 aRG_1 aRG_2 aRG_3 aRG_4 aRS_1 aG_1 aG_2 aG_3 aG_4 aS_1 aP_1 aQ aN_1 aN_2 aN_3 aN_4 aI_1 aI_2 aJ aM zX zR zRG zRS zG zS zP zQ zN zI zJ zT zM (xs (k + 1)) (xs (k + 2)) rfl rfl z9 hz9 H locs ls hP hD hS hl (hcont z9 hR9)
    by_cases c_19 : kk = 19
    · clear ekk
      subst c_19
      refine lv_tableIn (tgt := 699) hx hb dL_law_32 (by decide) (by decide) rfl (by decide) ?_
      obtain ⟨z9, hz9, hR9⟩ := hs19 zX zR zRG zRS zG zS zP zQ zN zI zJ zT zM hR
      exact lc_19 hx hb hml hown hts hX hbl hL320 hk5 hK aX_0 aR_0 aG_0 aS_0 aP_0 aN_0 aI_0 aT_0 aR_1 aRG_0 aRS_0 aRG_1 aRG_2 aRG_3 aRG_4 aRS_1 aG_1 aG_2 aG_3 aG_4 aS_1 aP_1 aQ aN_1 aN_2 aN_3 aN_4 aI_1 aI_2 aJ aM zX zR zRG zRS zG zS zP zQ zN zI zJ zT zM  z9 hz9 H locs ls hP hD hS hl (hcont z9 hR9)
    by_cases c_20 : kk = 20
    · clear ekk
      subst c_20
      refine lv_tableIn (tgt := 712) hx hb dL_law_32 (by decide) (by decide) rfl (by decide) ?_
      obtain ⟨z9, hz9, hR9⟩ := hs20 zX zR zRG zRS zG zS zP zQ zN zI zJ zT zM hR
      exact lc_20 hx hb hml hown hts hX hbl hL320 hk5 hK aX_0 aR_0 aG_0 aS_0 aP_0 aN_0 aI_0 aT_0 aR_1 aRG_0 aRS_0 aRG_1 aRG_2 aRG_3 aRG_4 aRS_1 aG_1 aG_2 aG_3 aG_4 aS_1 aP_1 aQ aN_1 aN_2 aN_3 aN_4 aI_1 aI_2 aJ aM zX zR zRG zRS zG zS zP zQ zN zI zJ zT zM  z9 hz9 H locs ls hP hD hS hl (hcont z9 hR9)
    by_cases c_21 : kk = 21
    · clear ekk
      subst c_21
      refine lv_tableIn (tgt := 725) hx hb dL_law_32 (by decide) (by decide) rfl (by decide) ?_
      obtain ⟨z9, hz9, hR9⟩ := hs21 zX zR zRG zRS zG zS zP zQ zN zI zJ zT zM (xs (k + 1)) (xs (k + 2)) hR
      exact lc_21 hx hb hml hown hts hX hbl hL320 hk5 hK aX_0 aR_0 aG_0 aS_0 aP_0 aN_0 aI_0 aT_0 aR_1 aRG_0 aRS_0 aRG_1 aRG_2 aRG_3 aRG_4 aRS_1 aG_1 aG_2 aG_3 aG_4 aS_1 aP_1 aQ aN_1 aN_2 aN_3 aN_4 aI_1 aI_2 aJ aM zX zR zRG zRS zG zS zP zQ zN zI zJ zT zM (xs (k + 1)) (xs (k + 2)) rfl rfl z9 hz9 H locs ls hP hD hS hl (hcont z9 hR9)
    by_cases c_22 : kk = 22
    · clear ekk
      subst c_22
      refine lv_tableIn (tgt := 758) hx hb dL_law_32 (by decide) (by decide) rfl (by decide) ?_
      obtain ⟨z9, hz9, hR9⟩ := hs22 zX zR zRG zRS zG zS zP zQ zN zI zJ zT zM hR
      exact lc_22 hx hb hml hown hts hX hbl hL320 hk5 hK aX_0 aR_0 aG_0 aS_0 aP_0 aN_0 aI_0 aT_0 aR_1 aRG_0 aRS_0 aRG_1 aRG_2 aRG_3 aRG_4 aRS_1 aG_1 aG_2 aG_3 aG_4 aS_1 aP_1 aQ aN_1 aN_2 aN_3 aN_4 aI_1 aI_2 aJ aM zX zR zRG zRS zG zS zP zQ zN zI zJ zT zM  z9 hz9 H locs ls hP hD hS hl (hcont z9 hR9)
    by_cases c_23 : kk = 23
    · clear ekk
      subst c_23
      refine lv_tableIn (tgt := 771) hx hb dL_law_32 (by decide) (by decide) rfl (by decide) ?_
      obtain ⟨z9, hz9, hR9⟩ := hs23 zX zR zRG zRS zG zS zP zQ zN zI zJ zT zM hR
      exact lc_23 hx hb hml hown hts hX hbl hL320 hk5 hK aX_0 aR_0 aG_0 aS_0 aP_0 aN_0 aI_0 aT_0 aR_1 aRG_0 aRS_0 aRG_1 aRG_2 aRG_3 aRG_4 aRS_1 aG_1 aG_2 aG_3 aG_4 aS_1 aP_1 aQ aN_1 aN_2 aN_3 aN_4 aI_1 aI_2 aJ aM zX zR zRG zRS zG zS zP zQ zN zI zJ zT zM  z9 hz9 H locs ls hP hD hS hl (hcont z9 hR9)
    by_cases c_24 : kk = 24
    · clear ekk
      subst c_24
      refine lv_tableIn (tgt := 784) hx hb dL_law_32 (by decide) (by decide) rfl (by decide) ?_
      obtain ⟨z9, hz9, hR9⟩ := hs24 zX zR zRG zRS zG zS zP zQ zN zI zJ zT zM (xs (k + 1)) hR
      exact lc_24 hx hb hml hown hts hX hbl hL320 hk5 hK aX_0 aR_0 aG_0 aS_0 aP_0 aN_0 aI_0 aT_0 aR_1 aRG_0 aRS_0 aRG_1 aRG_2 aRG_3 aRG_4 aRS_1 aG_1 aG_2 aG_3 aG_4 aS_1 aP_1 aQ aN_1 aN_2 aN_3 aN_4 aI_1 aI_2 aJ aM zX zR zRG zRS zG zS zP zQ zN zI zJ zT zM (xs (k + 1)) rfl z9 hz9 H locs ls hP hD hS hl (hcont z9 hR9)
    by_cases c_25 : kk = 25
    · clear ekk
      subst c_25
      refine lv_tableIn (tgt := 807) hx hb dL_law_32 (by decide) (by decide) rfl (by decide) ?_
      obtain ⟨z9, hz9, hR9⟩ := hs25 zX zR zRG zRS zG zS zP zQ zN zI zJ zT zM (xs (k + 1)) hR
      exact lc_25 hx hb hml hown hts hX hbl hL320 hk5 hK aX_0 aR_0 aG_0 aS_0 aP_0 aN_0 aI_0 aT_0 aR_1 aRG_0 aRS_0 aRG_1 aRG_2 aRG_3 aRG_4 aRS_1 aG_1 aG_2 aG_3 aG_4 aS_1 aP_1 aQ aN_1 aN_2 aN_3 aN_4 aI_1 aI_2 aJ aM zX zR zRG zRS zG zS zP zQ zN zI zJ zT zM (xs (k + 1)) rfl z9 hz9 H locs ls hP hD hS hl (hcont z9 hR9)
    by_cases c_26 : kk = 26
    · clear ekk
      subst c_26
      refine lv_tableIn (tgt := 830) hx hb dL_law_32 (by decide) (by decide) rfl (by decide) ?_
      obtain ⟨z9, hz9, hR9⟩ := hs26 zX zR zRG zRS zG zS zP zQ zN zI zJ zT zM (xs (k + 1)) hR
      exact lc_26 hx hb hml hown hts hX hbl hL320 hk5 hK aX_0 aR_0 aG_0 aS_0 aP_0 aN_0 aI_0 aT_0 aR_1 aRG_0 aRS_0 aRG_1 aRG_2 aRG_3 aRG_4 aRS_1 aG_1 aG_2 aG_3 aG_4 aS_1 aP_1 aQ aN_1 aN_2 aN_3 aN_4 aI_1 aI_2 aJ aM zX zR zRG zRS zG zS zP zQ zN zI zJ zT zM (xs (k + 1)) rfl z9 hz9 H locs ls hP hD hS hl (hcont z9 hR9)
    have t_0 := lv_neT c_0 (a := 0) (by decide)
    have t_1 := lv_neT c_1 (a := 1) (by decide)
    have t_2 := lv_neT c_2 (a := 2) (by decide)
    have t_3 := lv_neT c_3 (a := 3) (by decide)
    have t_4 := lv_neT c_4 (a := 4) (by decide)
    have t_5 := lv_neT c_5 (a := 5) (by decide)
    have t_6 := lv_neT c_6 (a := 6) (by decide)
    have t_7 := lv_neT c_7 (a := 7) (by decide)
    have t_8 := lv_neT c_8 (a := 8) (by decide)
    have t_9 := lv_neT c_9 (a := 9) (by decide)
    have t_10 := lv_neT c_10 (a := 10) (by decide)
    have t_11 := lv_neT c_11 (a := 11) (by decide)
    have t_12 := lv_neT c_12 (a := 12) (by decide)
    have t_13 := lv_neT c_13 (a := 13) (by decide)
    have t_14 := lv_neT c_14 (a := 14) (by decide)
    have t_15 := lv_neT c_15 (a := 15) (by decide)
    have t_16 := lv_neT c_16 (a := 16) (by decide)
    have t_17 := lv_neT c_17 (a := 17) (by decide)
    have t_18 := lv_neT c_18 (a := 18) (by decide)
    have t_19 := lv_neT c_19 (a := 19) (by decide)
    have t_20 := lv_neT c_20 (a := 20) (by decide)
    have t_21 := lv_neT c_21 (a := 21) (by decide)
    have t_22 := lv_neT c_22 (a := 22) (by decide)
    have t_23 := lv_neT c_23 (a := 23) (by decide)
    have t_24 := lv_neT c_24 (a := 24) (by decide)
    have t_25 := lv_neT c_25 (a := 25) (by decide)
    have t_26 := lv_neT c_26 (a := 26) (by decide)
    refine lv_tableOut (tgt := 853) hx hb dL_law_32 (by omega) (by decide) ?_
    exact hcont (zX, zR, zRG, zRS, zG, zS, zP, zQ, zN, zI, zJ, zT, zM) hR H locs ls hP hD hS hl
theorem arrC_spec {args : Array Value} {s : State} {ty : FieldType} (h : (Cond.arrayClass ty).before args s = true) : ∃ cA kA comp, s.vm.findClass ("[" ++ ty.toString) = some cA ∧ s.vm.classes[cA]? = some kA ∧ kA.kind = .array comp ty := by
  unfold Cond.before at h
  simp only [Cond.holds, Cond.value, beq_iff_eq] at h
  cases hc : s.vm.findClass ("[" ++ ty.toString) with
  | none => simp [hc] at h
  | some cA =>
    simp only [hc, Option.bind_some, Option.map_eq_some_iff] at h
    obtain ⟨kA, hk, hb⟩ := h
    cases hkd : kA.kind with
    | array comp t =>
      rw [hkd] at hb
      have ht : t = ty := by simpa using hb
      subst ht
      exact ⟨cA, kA, comp, rfl, hk, hkd⟩
    | _ => rw [hkd] at hb; simp at hb
noncomputable def wZ0 : ZZ := (zX0, zR0, zG0, zS0, zG0, zS0, zP0, zQ0, zN0, zI0, zQ0, zT0, zM0)
set_option maxHeartbeats 8000000 in
set_option maxRecDepth 200000 in
theorem law_start {p : Program} {e : Env} {s : State} {m : MethodId} {below : List Frame} {meth : Method} {c : Code} (l : Launch) {b L : Nat} {xs : Nat → Int32} (Rel : ZZ → Prop) (hsim : SMs Rel) (hrel0 : Rel wZ0) (hL : L ≤ 320) (C0 : lw_At p s m meth c b L xs) : W p l e room_1 s m #[Value.ref b] below meth c s.heap [] 0 0 (lw_Z below #[Value.ref b] s) (entryFrame m ([Value.ref b] : List Value).toArray 4) := by
  obtain ⟨hx, hb, hr, hml, hown0, hts, hX, hbl, hlocks, hgv⟩ := id C0
  have hown : s.vm.findClass RL = some m.cls := hown0
  have hA : ∀ q : Nat, s.heap.size ≤ q → (fun q : Nat => s.heap.size ≤ q) q := fun _ h => h
  obtain ⟨c0, iS0, hKn0⟩ := u_known (C := RX0) (T := TX0) (N := 13) (n := 13) hts inX0 (hts (.instantiable RX0 13) (by decide +kernel))
  obtain ⟨c1, iS1, hKn1⟩ := u_known (C := RX1) (T := TX1) (N := 3) (n := 3) hts inX1 (hts (.instantiable RX1 3) (by decide +kernel))
  obtain ⟨c2, iS2, hKn2⟩ := u_known (C := RX2) (T := TX2) (N := 6) (n := 6) hts inX2 (hts (.instantiable RX2 6) (by decide +kernel))
  obtain ⟨c3, iS3, hKn3⟩ := u_known (C := RX3) (T := TX3) (N := 3) (n := 3) hts inX3 (hts (.instantiable RX3 3) (by decide +kernel))
  obtain ⟨c4, iS4, hKn4⟩ := u_known (C := RX4) (T := TX4) (N := 8) (n := 8) hts inX4 (hts (.instantiable RX4 8) (by decide +kernel))
  obtain ⟨c5, iS5, hKn5⟩ := u_known (C := RX5) (T := TX5) (N := 6) (n := 6) hts inX5 (hts (.instantiable RX5 6) (by decide +kernel))
  obtain ⟨c6, iS6, hKn6⟩ := u_known (C := RX6) (T := TX6) (N := 9) (n := 9) hts inX6 (hts (.instantiable RX6 9) (by decide +kernel))
  obtain ⟨c7, iS7, hKn7⟩ := u_known (C := RX7) (T := TX7) (N := 38) (n := 38) hts inX7 (hts (.instantiable RX7 38) (by decide +kernel))
  obtain ⟨dC, dI, hKc⟩ : ∃ (dC : Nat → ClassId) (dI : Nat → Nat → Nat), ∀ (k : Nat) (q : vw_C), vwCl[k]? = some q → u_Kn s q.1 q.2.1 q.2.2 (dC k) (dI k) := by
    refine ⟨fun k => if k = 0 then c0 else if k = 1 then c1 else if k = 2 then c2 else if k = 3 then c3 else if k = 4 then c4 else if k = 5 then c5 else if k = 6 then c6 else c7, fun k => if k = 0 then iS0 else if k = 1 then iS1 else if k = 2 then iS2 else if k = 3 then iS3 else if k = 4 then iS4 else if k = 5 then iS5 else if k = 6 then iS6 else iS7, ?_⟩
    intro k q hq
    match k, hq with
    | 0, hq => cases hq; exact hKn0
    | 1, hq => cases hq; exact hKn1
    | 2, hq => cases hq; exact hKn2
    | 3, hq => cases hq; exact hKn3
    | 4, hq => cases hq; exact hKn4
    | 5, hq => cases hq; exact hKn5
    | 6, hq => cases hq; exact hKn6
    | 7, hq => cases hq; exact hKn7
    | k + 8, hq => simp [vwCl] at hq
  obtain ⟨y0, ky0, cy0, hy01, hy02, hy03⟩ := arrC_spec (hts (.arrayClass .int) (by decide +kernel))
  obtain ⟨y1, ky1, cy1, hy11, hy12, hy13⟩ := arrC_spec (hts (.arrayClass .long) (by decide +kernel))
  obtain ⟨y2, ky2, cy2, hy21, hy22, hy23⟩ := arrC_spec (hts (.arrayClass .boolean) (by decide +kernel))
  have hov3 : (Cond.arrayOver (.object "HedgeWar$Stand")).before #[Value.ref b] s = true := hts (.arrayOver (.object "HedgeWar$Stand")) (by decide +kernel)
  obtain ⟨cy3, y3, ky3, hy30, hyi3, hy32, hy33, hy31⟩ := Cond.arrayOver_spec hov3
  have hov4 : (Cond.arrayOver (.object "HedgeWar$Image")).before #[Value.ref b] s = true := hts (.arrayOver (.object "HedgeWar$Image")) (by decide +kernel)
  obtain ⟨cy4, y4, ky4, hy40, hyi4, hy42, hy43, hy41⟩ := Cond.arrayOver_spec hov4
  obtain ⟨ci, hci⟩ : ∃ ci : Nat → ClassId, ci = fun k => if k = 0 then y0 else if k = 1 then y1 else if k = 2 then y2 else if k = 3 then y3 else y4 := ⟨_, rfl⟩
  have hK : va_K (dC, dI) vwCl (tyL ci) s := by
    refine ⟨hKc, fun k q hq => ?_⟩
    rw [hci] at hq
    match k, hq with
    | 0, hq => cases hq; exact ⟨fun N z => ⟨(fun k h => by cases h), ky0, hy02, cy0, hy03⟩, hy01⟩
    | 1, hq => cases hq; exact ⟨fun N z => ⟨(fun k h => by cases h), ky1, hy12, cy1, hy13⟩, hy11⟩
    | 2, hq => cases hq; exact ⟨fun N z => ⟨(fun k h => by cases h), ky2, hy22, cy2, hy23⟩, hy21⟩
    | 3, hq => cases hq; exact ⟨fun N z => ⟨(fun k h => by cases h), ky3, hy32, cy3, hy33⟩, ky3, cy3, hy32, hy33, hy30, hy31⟩
    | 4, hq => cases hq; exact ⟨fun N z => ⟨(fun k h => by cases h), ky4, hy42, cy4, hy43⟩, ky4, cy4, hy42, hy43, hy40, hy41⟩
    | k + 5, hq => simp [tyL] at hq
  have hNW : NW s := by
    refine ⟨fun k q hq => ?_, va_AO.of hov3, va_AO.of hov4⟩
    match k, hq with
    | 0, hq => cases hq; exact va_Nw.of rfl (hts _ (by decide +kernel))
    | 1, hq => cases hq; exact va_Nw.of rfl (hts _ (by decide +kernel))
    | 2, hq => cases hq; exact va_Nw.of rfl (hts _ (by decide +kernel))
    | 3, hq => cases hq; exact va_Nw.of rfl (hts _ (by decide +kernel))
    | 4, hq => cases hq; exact va_Nw.of rfl (hts _ (by decide +kernel))
    | 5, hq => cases hq; exact va_Nw.of rfl (hts _ (by decide +kernel))
    | 6, hq => cases hq; exact va_Nw.of rfl (hts _ (by decide +kernel))
    | 7, hq => cases hq; exact va_Nw.of rfl (hts _ (by decide +kernel))
    | 8, hq => cases hq; exact va_Nw.of rfl (hts _ (by decide +kernel))
    | k + 9, hq => simp [nestW] at hq
  have hS : va_S (fun q : Nat => s.heap.size ≤ q) s.heap s.heap [] := va_S.rf
  have hP : va_P (dC, dI) vwCl [] s.heap := fun k q h => by simp at h
  have hD : va_D (fun q : Nat => s.heap.size ≤ q) [] := ⟨fun i j p q h => by simp at h, fun k q h => by simp at h⟩
  have hl := lv_entry ([.ref b]) (n := 4) (Nat.le_of_ble_eq_true rfl)
  rw [lg_entry_eq]
  generalize (lg_sl ([.ref b]) ++ List.replicate (4 - (lg_sl ([.ref b])).length) Slot.unset).toArray = ls at hl ⊢
  have hl : lv_has ls 4 [(0, .ref b)] := hl
  refine va_new (ci := 6) (fs := [.null, .null, .null, .null, .null, .null, .null, .int 0, .int 0]) (C := RX6) (T := TX6) (N := 9) hx hb hts inX6 tyX6 tyX6_ok hown (hts (.classLink RL 7 RX6) (by decide +kernel)) (hts (.instantiable RX6 9) (by decide +kernel)) (hts (.initialized RX6) (by decide +kernel)) hK hP hD hS hA rfl (fun j hj => by have := hj; match j, hj with | 0, _ => rfl | 1, _ => rfl | 2, _ => rfl | 3, _ => rfl | 4, _ => rfl | 5, _ => rfl | 6, _ => rfl | 7, _ => rfl | 8, _ => rfl) (Nat.le_of_ble_eq_true rfl) (Nat.le_of_ble_eq_true rfl) dL_law_0 (fun qx H hP hD hS => ?_)
  refine W.widen (k := 1) (n := 9) (by decide) (by decide) ?_
  refine lv_dup hx hb dL_law_3 rfl ?_
  have hP : va_P (dC, dI) vwCl ([] ++ [(qx, .inr (6, [.null, .null, .null, .null, .null, .null, .null, .int 0, .int 0]))]) H := hP
  have hD : va_D (fun q : Nat => s.heap.size ≤ q) ([] ++ [(qx, .inr (6, [.null, .null, .null, .null, .null, .null, .null, .int 0, .int 0]))]) := hD
  refine cl_N (wr := []) (wc := [(qx, .inr (6, [.null, .null, .null, .null, .null, .null, .null, .int 0, .int 0]))]) (w1 := fun u : UX => wX72 ci qx u) (va_runI (As := []) (rest := [.ref qx]) ⟨hx, hb, hml, hown, hts⟩ (c_X6_init l (dC, dI) ci qx H.size) (cwI 0 hts (fun w h => ⟨wsL_law_in w (gL_law_X6_init w h).1, (gL_law_X6_init w h).2⟩) rfl rfl rfl (hts (.initialized RX6) (by decide +kernel)) (hts (.methodLink RL 9 yX6_init) (by decide +kernel)) (hts (.instanceMethod yX6_init) (by decide +kernel)) rfl (by decide +kernel) ⟨Nat.le_of_ble_eq_true rfl, Nat.le_of_ble_eq_true rfl⟩) (preN hP hD hK hNW) rfl rfl hl.1 rfl (lv_room (Nat.le_of_ble_eq_true rfl)) dL_law_4 ⟨Nat.le_of_ble_eq_true rfl, Nat.le_of_ble_eq_true rfl⟩) hP hD hS hA (fun ux H locs hP hD hS => ?_)
  refine W.widen (k := 72) (n := 1763) (by decide) (by decide) ?_
  refine lv_astore_n (lv' := [(1, .ref qx), (0, .ref b)]) hx hb dL_law_7 rfl hl (by decide) rfl (fun ls hl => ?_)
  have hP : va_P (dC, dI) vwCl (wX72 ci qx ux) H := hP
  have hD : va_D (fun q : Nat => s.heap.size ≤ q) (wX72 ci qx ux) := hD
  refine va_new (ci := 7) (fs := [.int 0, .int 0, .int 0, .int 0, .null, .null, .null, .null, .null, .int 0, .null, .int 0, .int 0, .int 0, .int 0, .int 0, .null, .null, .int 0, .null, .null, .null, .int 0, .null, .null, .null, .null, .int 0, .null, .int 0, .null, .null, .null, .int 0, .null, .null, .null, .null]) (C := RX7) (T := TX7) (N := 38) hx hb hts inX7 tyX7 tyX7_ok hown (hts (.classLink RL 10 RX7) (by decide +kernel)) (hts (.instantiable RX7 38) (by decide +kernel)) (hts (.initialized RX7) (by decide +kernel)) hK hP hD hS hA rfl (fun j hj => by have := hj; match j, hj with | 0, _ => rfl | 1, _ => rfl | 2, _ => rfl | 3, _ => rfl | 4, _ => rfl | 5, _ => rfl | 6, _ => rfl | 7, _ => rfl | 8, _ => rfl | 9, _ => rfl | 10, _ => rfl | 11, _ => rfl | 12, _ => rfl | 13, _ => rfl | 14, _ => rfl | 15, _ => rfl | 16, _ => rfl | 17, _ => rfl | 18, _ => rfl | 19, _ => rfl | 20, _ => rfl | 21, _ => rfl | 22, _ => rfl | 23, _ => rfl | 24, _ => rfl | 25, _ => rfl | 26, _ => rfl | 27, _ => rfl | 28, _ => rfl | 29, _ => rfl | 30, _ => rfl | 31, _ => rfl | 32, _ => rfl | 33, _ => rfl | 34, _ => rfl | 35, _ => rfl | 36, _ => rfl | 37, _ => rfl | _ + 38, h => exact absurd h (by omega)) (Nat.le_of_ble_eq_true rfl) (Nat.le_of_ble_eq_true rfl) dL_law_8 (fun qm H hP hD hS => ?_)
  refine W.widen (k := 73) (n := 1801) (by decide) (by decide) ?_
  refine lv_dup hx hb dL_law_11 rfl ?_
  have hP : va_P (dC, dI) vwCl ((wX72 ci qx ux) ++ (wM0 qm)) H := hP
  have hD : va_D (fun q : Nat => s.heap.size ≤ q) ((wX72 ci qx ux) ++ (wM0 qm)) := hD
  refine cl_N (wr := (wX72 ci qx ux)) (wc := (wM0 qm)) (w1 := fun u : Nat → Nat => wcM ci (fun k => if k = 0 then qm else u k) zM0) (va_runI (As := []) (rest := [.ref qm]) ⟨hx, hb, hml, hown, hts⟩ (c_X7_init l (dC, dI) ci qm H.size) (cwI 0 hts (fun w h => ⟨wsL_law_in w (gL_law_X7_init w h).1, (gL_law_X7_init w h).2⟩) rfl rfl rfl (hts (.initialized RX7) (by decide +kernel)) (hts (.methodLink RL 12 yX7_init) (by decide +kernel)) (hts (.instanceMethod yX7_init) (by decide +kernel)) rfl (by decide +kernel) ⟨Nat.le_of_ble_eq_true rfl, Nat.le_of_ble_eq_true rfl⟩) (preN hP hD hK hNW) rfl rfl hl.1 rfl (lv_room (Nat.le_of_ble_eq_true rfl)) dL_law_12 ⟨Nat.le_of_ble_eq_true rfl, Nat.le_of_ble_eq_true rfl⟩) hP hD hS hA (fun um H locs hP hD hS => ?_)
  refine W.widen (k := 96) (n := 5513) (by decide) (by decide) ?_
  refine lv_astore_n (lv' := [(2, .ref qm), (1, .ref qx), (0, .ref b)]) hx hb dL_law_15 rfl hl (by decide) rfl (fun ls hl => ?_)
  refine lv_iconst (v := 0) hx hb dL_law_16 (by decide) ?_
  refine lv_istore_n (lv' := [(3, .int 0), (2, .ref qm), (1, .ref qx), (0, .ref b)]) hx hb dL_law_17 rfl hl (by decide) rfl (fun ls hl => ?_)
  exact law_loop Rel hsim hL C0 hK qx (ux.1 0) (ux.1 9) (ux.1 14) (ux.1 16) (ux.1 18) (ux.1 23) (ux.1 26) (ux.1 1) (ux.1 2) (ux.1 7) (ux.1 3) (ux.1 4) (ux.1 5) (ux.1 6) (ux.1 8) (ux.1 10) (ux.1 11) (ux.1 12) (ux.1 13) (ux.1 15) (ux.1 17) ux.2.1 (ux.1 19) (ux.1 20) (ux.1 21) (ux.1 22) (ux.1 24) (ux.1 25) ux.2.2 (fun k => if k = 0 then qm else um k) wZ0 hrel0 H locs ls hP hD hS hl

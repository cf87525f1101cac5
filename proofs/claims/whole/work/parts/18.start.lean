/-! THE CLAIM OUT OF ONE WALK OF THE LAW'S BODY. Your part is whole_start (and what it stands on); all else here is the same for every law, but numbers. -/
def R_law : String := "ToothWheelTimerLaw"
def lw_P (b : Addr) (xs : List Int32) (args : Array Value) (s : State) : Prop := args = #[.ref b] ∧ s.IntsAt b xs ∧ xs.length ≤ 2564 ∧ (Jvm.Cond.and given_1 narrow_1).before args s = true
def lw_Q (_ : Array Value) (s : State) (o : Outcome) (t : State) : Prop := o = .returned (some (.int 1)) ∧ Framed s o t [] 600000 7302250
def lw_Z (below : List Frame) (a : Array Value) (s : State) : State → Prop := fun t => ∃ o, t.status = .running ∧ Ended t below o ∧ lw_Q a s o t
/-- the law's own end, with 1 on the stack, nothing written that was there before, its room as the claim has it -/
theorem lw_ret {p : Program} {l : Launch} {e : Env} {s : State} {m : MethodId} {below : List Frame} {meth : Method} {c : Code} {b : Nat} (hx : p.tables.exec = Jvm.exec) (hb : c.code = code) (hr : meth.sig.returnType = ret) (hlocks : meth.locks = false) {pc : Nat} {H : Heap} {ls : Array Slot} (hdg : decode code pc = .ok (.ireturn, 1)) : W p l e room_1 s m #[Value.ref b] below meth c H [] 600000 7302250 (lw_Z below #[Value.ref b] s) (F0 m pc ls [.int 1]) := by
  intro T hT X
  obtain ⟨fs, hret, hrun, hended, hW, hframe⟩ := X.leave (v := some (.int 1)) (hlocks := hlocks) (fun h => by rw [hr] at h; cases h)
  have hmeth' : T.vm.method? m = some meth := X.method'
  refine ⟨T.setFrames fs, ?_, .returned (some (.int 1)), hrun, hended, rfl, ⟨_, rfl⟩, hW, hframe⟩
  jvm_step X.here [X.here.top, hx, hb, hdg, hmeth', hr, ret, narrow_b1]
  (try refine ⟨rfl, ?_⟩); (try refine ⟨rfl, ?_⟩)
  first | (intro acts; rw [hret _ acts rfl rfl rfl]) | rw [hret _ _ rfl rfl rfl]
  exact Steps.refl _
/-- what holds at the law's entry: the machine, the code, the tables' words (any of lw_tbl by 'hts w (by decide +kernel)'), the script of L ints xs at the cell b, what the Statement gives of the start (any of its parts by flat_of_before) -/
def lw_At (p : Program) (s : State) (m : MethodId) (meth : Method) (c : Code) (b L : Nat) (xs : Nat → Int32) : Prop :=
  p.tables.exec = Jvm.exec ∧ c.code = code ∧ meth.sig.returnType = ret ∧ c.maxLocals = 4 ∧ s.vm.findClass R_law = some m.cls ∧ (∀ w ∈ lw_tbl, w.before #[Value.ref b] s = true) ∧ va_X b L xs s s.heap ∧ b < s.heap.size ∧ meth.locks = false ∧ (Jvm.Cond.and given_1 narrow_1).before #[Value.ref b] s = true
def pick7 {α : Type} (a0 a1 a2 a3 a4 a5 a6 : α) : Nat → α := fun i => match i with
  | 0 => a0
  | 1 => a1
  | 2 => a2
  | 3 => a3
  | 4 => a4
  | 5 => a5
  | _ => a6
theorem k_arr {args : Array Value} {s : State} {ty : FieldType} (h : (Cond.arrayClass ty).before args s = true) : ∃ cA : ClassId, ArrOfT s cA ty ∧ s.vm.findClass ("[" ++ ty.toString) = some cA := by
  obtain ⟨cA, kA, comp, h1, h2, h3⟩ := Cond.arrayClass_spec h
  exact ⟨cA, fun n z => ⟨fun k h => (by cases h), kA, h2, comp, h3⟩, h1⟩
theorem k_known {args : Array Value} {s : State} (hts : ∀ w ∈ wsG, w.before args s = true) : ∃ (D : va_G) (cZ cI cJ : ClassId), va_K D vwCl (tyG cZ cI cJ) s := by
  obtain ⟨c0, i0, h0⟩ := u_known hts inA (hts _ (wg wd_138 rfl))
  obtain ⟨c1, i1, h1⟩ := u_known hts inC (hts _ (wg wd_37 rfl))
  obtain ⟨c2, i2, h2⟩ := u_known hts inP (hts _ (wg wd_18 rfl))
  obtain ⟨c3, i3, h3⟩ := u_known hts inS (hts _ (wg wd_51 rfl))
  obtain ⟨c4, i4, h4⟩ := u_known hts inW (hts _ (wg wd_95 rfl))
  obtain ⟨c5, i5, h5⟩ := u_known hts inT (hts _ (wg wd_10 rfl))
  obtain ⟨c6, i6, h6⟩ := u_known hts inM (hts _ (wg wd_530 rfl))
  obtain ⟨cZ, z1, z2⟩ := k_arr (hts _ (wg wd_164 rfl))
  obtain ⟨cI, y1, y2⟩ := k_arr (hts _ (wg wd_49 rfl))
  obtain ⟨cJ, x1, x2⟩ := k_arr (hts _ (wg wd_35 rfl))
  refine ⟨(pick7 c0 c1 c2 c3 c4 c5 c6, pick7 i0 i1 i2 i3 i4 i5 i6), cZ, cI, cJ, ⟨fun c q hq => ?_, fun j q hq => ?_⟩⟩
  · match c, hq with
    | 0, hq => cases hq; exact h0
    | 1, hq => cases hq; exact h1
    | 2, hq => cases hq; exact h2
    | 3, hq => cases hq; exact h3
    | 4, hq => cases hq; exact h4
    | 5, hq => cases hq; exact h5
    | 6, hq => cases hq; exact h6
    | c + 7, hq => exact absurd hq (by simp [vwCl])
  · match j, hq with
    | 0, hq => cases hq; exact ⟨z1, z2⟩
    | 1, hq => cases hq; exact ⟨y1, y2⟩
    | 2, hq => cases hq; exact ⟨x1, x2⟩
    | j + 3, hq => exact absurd hq (by simp [tyG])
theorem k_nw {args : Array Value} {s : State} (hts : ∀ w ∈ lw_tbl, w.before args s = true) : NW s := fun w hw hn => va_Nw.of (nw_tab hn) (hts w hw)
theorem k_stt {args : Array Value} {s : State} {A : Nat → Prop} (hts : ∀ w ∈ lw_tbl, w.before args s = true) (hgv : (Jvm.Cond.and given_1 narrow_1).before args s = true) (hA : ∀ a : Nat, a < s.heap.size → ¬ A a) : ∃ tL tH : Nat, STT tL tH A s s.heap := by
  have hs := flat_of_before _ hgv
  obtain ⟨tL, eL, vL⟩ := va_Tof (tm := .static "ToothWheelTimer" "LOAD_CURVE" "[I") (ty := .int) (N := 5) (f := lcurve) (A := A) (by decide) (hs (Cond.arrayOf (.static "ToothWheelTimer" "LOAD_CURVE" "[I") .int) (by decide +kernel)) (va_eqt (z := 5) (hs (Cond.eq (.length (.static "ToothWheelTimer" "LOAD_CURVE" "[I")) (.int 5)) (by decide +kernel)))
    (fun j hj => by
      match j, hj with
      | 0, _ => exact va_eqt (hs (Cond.eq (.elem (.static "ToothWheelTimer" "LOAD_CURVE" "[I") (.int 0)) (.int 0)) (by decide +kernel))
      | 1, _ => exact va_eqt (hs (Cond.eq (.elem (.static "ToothWheelTimer" "LOAD_CURVE" "[I") (.int 1)) (.int 256)) (by decide +kernel))
      | 2, _ => exact va_eqt (hs (Cond.eq (.elem (.static "ToothWheelTimer" "LOAD_CURVE" "[I") (.int 2)) (.int 512)) (by decide +kernel))
      | 3, _ => exact va_eqt (hs (Cond.eq (.elem (.static "ToothWheelTimer" "LOAD_CURVE" "[I") (.int 3)) (.int 768)) (by decide +kernel))
      | 4, _ => exact va_eqt (hs (Cond.eq (.elem (.static "ToothWheelTimer" "LOAD_CURVE" "[I") (.int 4)) (.int 1024)) (by decide +kernel))
      | j + 5, h => exact absurd h (by omega)) hA
  obtain ⟨tH, eH, vH⟩ := va_Tof (tm := .static "ToothWheelTimer" "HEAT_CURVE" "[I") (ty := .int) (N := 5) (f := hcurve) (A := A) (by decide) (hs (Cond.arrayOf (.static "ToothWheelTimer" "HEAT_CURVE" "[I") .int) (by decide +kernel)) (va_eqt (z := 5) (hs (Cond.eq (.length (.static "ToothWheelTimer" "HEAT_CURVE" "[I")) (.int 5)) (by decide +kernel)))
    (fun j hj => by
      match j, hj with
      | 0, _ => exact va_eqt (hs (Cond.eq (.elem (.static "ToothWheelTimer" "HEAT_CURVE" "[I") (.int 0)) (.int 140)) (by decide +kernel))
      | 1, _ => exact va_eqt (hs (Cond.eq (.elem (.static "ToothWheelTimer" "HEAT_CURVE" "[I") (.int 1)) (.int 90)) (by decide +kernel))
      | 2, _ => exact va_eqt (hs (Cond.eq (.elem (.static "ToothWheelTimer" "HEAT_CURVE" "[I") (.int 2)) (.int 60)) (by decide +kernel))
      | 3, _ => exact va_eqt (hs (Cond.eq (.elem (.static "ToothWheelTimer" "HEAT_CURVE" "[I") (.int 3)) (.int 25)) (by decide +kernel))
      | 4, _ => exact va_eqt (hs (Cond.eq (.elem (.static "ToothWheelTimer" "HEAT_CURVE" "[I") (.int 4)) (.int (-40))) (by decide +kernel))
      | j + 5, h => exact absurd h (by omega)) hA
  refine ⟨tL, tH, vL, vH, va_Zof (hts _ wd_53) (hts _ wd_1) eL hA, va_Zof (hts _ wd_83) (hts _ wd_1) eH hA⟩
def cellv (xs : Nat → Int32) (L i : Nat) : Int32 := if i < L then xs i else 0
theorem wcI_ne (po : Int32) : ¬ (wcI po).2.2 = 0 := by
  have e : ∃ a : Nat, 12 ≤ a ∧ a ≤ 60 ∧ fT_within po (12 : Int32) (60 : Int32) = nI a := by
    have t1 : (12 : Int32).toInt = 12 := by decide
    have t6 : (60 : Int32).toInt = 60 := by decide
    have h : ¬ fT_within po (12 : Int32) (60 : Int32) < (12 : Int32) ∧ ¬ (60 : Int32) < fT_within po (12 : Int32) (60 : Int32) := by
      unfold fT_within fJ_maxI fJ_min
      dsimp only
      constructor
      · repeat' split
        all_goals (simp only [Int32.lt_iff_toInt_lt, Int32.le_iff_toInt_le] at *; omega)
      · repeat' split
        all_goals (simp only [Int32.lt_iff_toInt_lt, Int32.le_iff_toInt_le] at *; omega)
    have h3 : ¬ fT_within po (12 : Int32) (60 : Int32) < 0 := fun z => h.1 (Int32.lt_trans z (by decide))
    obtain ⟨a, ha, ea⟩ := k_nat2 (N := 60) h3 h.2 (by decide)
    refine ⟨a, ?_, ha, ea⟩
    rcases Nat.lt_or_ge a 12 with h4 | h4
    · rw [ea] at h
      exact absurd (nI_lt (a := a) (b := 12) h4 (by decide)) h.1
    · exact h4
  obtain ⟨a, h1, h2, e⟩ := e
  intro z
  have z : (2 : Int32) * (fT_within po (12 : Int32) (60 : Int32)) * (64 : Int32) = 0 := z
  rw [e] at z
  have e2 : (2 : Int32) * nI a * (64 : Int32) = nI (2 * a * 64) := by rw [← pk_mul, ← pk_mul]; rfl
  rw [e2] at z
  exact nI_ne0 (by omega) (by omega) z
set_option maxRecDepth 100000 in
set_option maxHeartbeats 4000000 in
theorem ctL_cell (l : Launch) {b L : Nat} {xs : Nat → Int32} (hL : L ≤ 2564) (i : Nat) (hi : i < 4) : Met l yL_cell wL_cell ({ frames := 0, cells := 0, slots := 0, locals := 0 }) (va_Pc [.ref b, .int (nI i)] (fun U => va_X b L xs U U.heap)) (fun _ st oc t => oc = .returned (some (.int (cellv xs L i))) ∧ t.heap = st.heap) 0 0 (fun _ => False) := by
  refine Met.ofW (cc := cL_cell) (maxL := 2) (ret := some .int) (by decide +kernel) rfl ?_
  intro p e s m args below meth c s₁ B hml hv
  obtain ⟨rfl, hX⟩ := hv
  have hx := B.exec
  have hb := B.bytes
  have hr := B.returns
  have hlk := B.notSynchronized
  have hbl : b < s.heap.size := by
    obtain ⟨scr, h1, _⟩ := hX
    exact (Array.getElem?_eq_some_iff.mp h1).1
  have hl := lv_entry ([.ref b, .int (nI i)]) (n := 2) (Nat.le_of_ble_eq_true rfl)
  rw [lg_entry_eq]
  generalize (lg_sl ([.ref b, .int (nI i)]) ++ List.replicate (2 - (lg_sl ([.ref b, .int (nI i)])).length) Slot.unset).toArray = ls at hl ⊢
  have hl : lv_has ls 2 [(0, .ref b), (1, .int (nI i))] := hl
  have hS : va_S (fun _ => False) s.heap s.heap [] := va_S.rf
  have hbA : ¬ (fun _ : Nat => False) b := fun z => z
  refine lv_iload_n hx hb dL_cell_0 rfl (lv_at hl 1 rfl) ?_
  refine lv_aload_n hx hb dL_cell_1 rfl (lv_at hl 0 rfl) ?_
  refine va_slen hx hb hX hbl hbA hS dL_cell_2 ?_
  refine lv_icmp_ge (tgt := 12) hx hb dL_cell_3 (by decide) (fun h1 => ?_) (fun h1 => ?_)
  · have h2 : ¬ i < L := fun z => absurd h1 (nI_ge (a := i) (b := L) z (by omega))
    refine lv_iconst (v := (0 : Int32)) hx hb dL_cell_12 (by decide) ?_
    exact W.iret hx hb hr (fun t ht _ => ⟨by rw [cellv, if_neg h2], ht⟩) (fun q h => by cases h) dL_cell_13 hlk
  · have h2 : i < L := by
      rcases Nat.lt_or_ge i L with h | h
      · exact h
      · exact absurd (nI_le (a := L) (b := i) h (by omega)) h1
    refine lv_aload_n hx hb dL_cell_6 rfl (lv_at hl 0 rfl) ?_
    refine lv_iload_n hx hb dL_cell_7 rfl (lv_at hl 1 rfl) ?_
    refine va_sld hx hb hX hbl hbA hS (vp_in_nI (n := i) (N := L) h2 (by omega)) dL_cell_8 ?_
    refine lv_goto (tgt := 13) hx hb dL_cell_9 (by decide) ?_
    exact W.iret hx hb hr (fun t ht _ => ⟨by rw [cellv, if_pos h2, nI_clamp (by omega)], ht⟩) (fun q h => by cases h) dL_cell_13 hlk
section CS
variable {p : Program} {l : Launch} {e : Env} {R : Room} {s : State} {m : MethodId} {args : Array Value} {below : List Frame} {meth : Method} {c : Code} {H : Heap} {locs : List Loc} {cells slots : Nat} {Q : State → Prop} {pc : Nat} {ls : Array Slot} {rest st0 : List Value} {A : Nat → Prop} {b L : Nat} {xs : Nat → Int32}
theorem k_cs {r : Int32} (hr : va_Run p l e R s m args below meth c H locs cells slots 0 0 (F0 m pc ls st0) rest (fun st oc t => oc = .returned (some (.int r)) ∧ t.heap = st.heap) (fun _ => False)) (kk : W p l e R s m args below meth c H locs cells slots Q (F0 m (pc + 3) ls (.int r :: rest))) : W p l e R s m args below meth c H locs cells slots Q (F0 m pc ls st0) := by
  intro T hT X
  obtain ⟨v, st₀, t, T', L, h0, X', hL, e1, e2, ⟨hv, hh⟩, st⟩ := hr T hT X
  cases hv
  obtain ⟨t2, a1, b1⟩ := kk T' (by rw [e1, hh, h0]) (Stand.forget X' (fun q h => (hL q h).elim))
  exact ⟨t2, st t2 a1, b1⟩
theorem k_preX {v : Value} (hX : va_X b L xs s s.heap) (hbl : b < s.heap.size) (hbA : ¬ A b) (hS : va_S A s.heap H locs) : PreS s H (va_Pc [.ref b, v] (fun U => va_X b L xs U U.heap)) [.ref b, v] :=
  ⟨fun a U g mk q => ⟨q.1, va_X.moved (u := U) (U := U.calling g mk a) (Vm.Alike.refl U.vm) q.2⟩, fun U hU hW => ⟨rfl, by show va_X b L xs U U.heap; rw [hU]; exact (hX.kept (hS.2.1 b hbl hbA)).moved hW.alike⟩⟩
end CS
set_option maxRecDepth 100000 in
set_option maxHeartbeats 4000000 in
theorem whole_open {p : Program} {e : Env} {s : State} {m : MethodId} {below : List Frame} {meth : Method} {c : Code} (l : Launch) {b L : Nat} {xs : Nat → Int32} (hL : L ≤ 2564) (C0 : lw_At p s m meth c b L xs) (Rl : Int32 → Int32 → Int32 → Int32 → Nat → TmT → WhT → AgT → PnT → ChT → ChT → SnT → SnT → MwT → MpT → MeT → MoT → MsT → Prop) (h_set : ∀ (po cy cg dw : Int32), ∀ (n : Nat) (tm : TmT) (wh : WhT) (ag : AgT) (pn : PnT) (ca : ChT) (cf : ChT) (sl : SnT) (sh : SnT) (mw : MwT) (mp : MpT) (me : MeT) (mo : MoT) (ms : MsT) (a1 a2 a3 a4 : Int32), n < 520 → (Rl po cy cg dw) n tm wh ag pn ca cf sl sh mw mp me mo ms → (fT_set (kOf cy) (wcI po) (tcI cg dw) tm wh ag pn ca cf sl sh a1 a2 a3 a4).1 = (fM_set (kOf cy) (mcI po cg dw) mw mp me mo ms a1 a2 a3 a4).1 ∧ (Rl po cy cg dw) (n + 1) tm wh ag pn ((fT_set (kOf cy) (wcI po) (tcI cg dw) tm wh ag pn ca cf sl sh a1 a2 a3 a4).2.1) ((fT_set (kOf cy) (wcI po) (tcI cg dw) tm wh ag pn ca cf sl sh a1 a2 a3 a4).2.2) sl sh mw ((fM_set (kOf cy) (mcI po cg dw) mw mp me mo ms a1 a2 a3 a4).2) me mo ms) (h_look : ∀ (po cy cg dw : Int32), ∀ (n : Nat) (tm : TmT) (wh : WhT) (ag : AgT) (pn : PnT) (ca : ChT) (cf : ChT) (sl : SnT) (sh : SnT) (mw : MwT) (mp : MpT) (me : MeT) (mo : MoT) (ms : MsT) (a1 a2 a3 : Int32), n < 520 → (Rl po cy cg dw) n tm wh ag pn ca cf sl sh mw mp me mo ms → (fT_look (kOf cy) (wcI po) (tcI cg dw) tm wh ag pn ca cf sl sh a1 a2 a3) = (fM_look (kOf cy) (mcI po cg dw) mw mp me mo ms a1 a2 a3) ∧ (Rl po cy cg dw) (n + 1) tm wh ag pn ca cf sl sh mw mp me mo ms) (h_sample : ∀ (po cy cg dw : Int32), ∀ (n : Nat) (tm : TmT) (wh : WhT) (ag : AgT) (pn : PnT) (ca : ChT) (cf : ChT) (sl : SnT) (sh : SnT) (mw : MwT) (mp : MpT) (me : MeT) (mo : MoT) (ms : MsT) (a1 a2 : Int32), n < 520 → (Rl po cy cg dw) n tm wh ag pn ca cf sl sh mw mp me mo ms → (fT_sample (kOf cy) (wcI po) (tcI cg dw) tm wh ag pn ca cf sl sh a1 a2).1 = (fM_sample (kOf cy) (mcI po cg dw) mw mp me mo ms a1 a2).1 ∧ (Rl po cy cg dw) (n + 1) tm wh ag pn ca cf ((fT_sample (kOf cy) (wcI po) (tcI cg dw) tm wh ag pn ca cf sl sh a1 a2).2.1) ((fT_sample (kOf cy) (wcI po) (tcI cg dw) tm wh ag pn ca cf sl sh a1 a2).2.2) mw mp me mo ((fM_sample (kOf cy) (mcI po cg dw) mw mp me mo ms a1 a2).2)) (h_value : ∀ (po cy cg dw : Int32), ∀ (n : Nat) (tm : TmT) (wh : WhT) (ag : AgT) (pn : PnT) (ca : ChT) (cf : ChT) (sl : SnT) (sh : SnT) (mw : MwT) (mp : MpT) (me : MeT) (mo : MoT) (ms : MsT) (a1 : Int32), n < 520 → (Rl po cy cg dw) n tm wh ag pn ca cf sl sh mw mp me mo ms → (fT_value (kOf cy) (wcI po) (tcI cg dw) tm wh ag pn ca cf sl sh a1) = (fM_value (kOf cy) (mcI po cg dw) mw mp me mo ms a1) ∧ (Rl po cy cg dw) (n + 1) tm wh ag pn ca cf sl sh mw mp me mo ms) (h_count : ∀ (po cy cg dw : Int32), ∀ (n : Nat) (tm : TmT) (wh : WhT) (ag : AgT) (pn : PnT) (ca : ChT) (cf : ChT) (sl : SnT) (sh : SnT) (mw : MwT) (mp : MpT) (me : MeT) (mo : MoT) (ms : MsT) (a1 : Int32), n < 520 → (Rl po cy cg dw) n tm wh ag pn ca cf sl sh mw mp me mo ms → (fT_count (kOf cy) (wcI po) (tcI cg dw) tm wh ag pn ca cf sl sh a1) = (fM_count (kOf cy) (mcI po cg dw) mw mp me mo ms a1) ∧ (Rl po cy cg dw) (n + 1) tm wh ag pn ca cf sl sh mw mp me mo ms) (h_frame : ∀ (po cy cg dw : Int32), ∀ (n : Nat) (tm : TmT) (wh : WhT) (ag : AgT) (pn : PnT) (ca : ChT) (cf : ChT) (sl : SnT) (sh : SnT) (mw : MwT) (mp : MpT) (me : MeT) (mo : MoT) (ms : MsT) (a1 a2 : Int32), n < 520 → (Rl po cy cg dw) n tm wh ag pn ca cf sl sh mw mp me mo ms → (fT_frame (kOf cy) (wcI po) (tcI cg dw) tm wh ag pn ca cf sl sh a1 a2) = (fM_frame (kOf cy) (mcI po cg dw) mw mp me mo ms a1 a2) ∧ (Rl po cy cg dw) (n + 1) tm wh ag pn ca cf sl sh mw mp me mo ms) (h_clear : ∀ (po cy cg dw : Int32), ∀ (n : Nat) (tm : TmT) (wh : WhT) (ag : AgT) (pn : PnT) (ca : ChT) (cf : ChT) (sl : SnT) (sh : SnT) (mw : MwT) (mp : MpT) (me : MeT) (mo : MoT) (ms : MsT), n < 520 → (Rl po cy cg dw) n tm wh ag pn ca cf sl sh mw mp me mo ms → (fT_clear (kOf cy) (wcI po) (tcI cg dw) tm wh ag pn ca cf sl sh).1 = (fM_clear (kOf cy) (mcI po cg dw) mw mp me mo ms).1 ∧ (Rl po cy cg dw) (n + 1) tm wh ag pn ca cf ((fT_clear (kOf cy) (wcI po) (tcI cg dw) tm wh ag pn ca cf sl sh).2.1) ((fT_clear (kOf cy) (wcI po) (tcI cg dw) tm wh ag pn ca cf sl sh).2.2) mw mp me mo ((fM_clear (kOf cy) (mcI po cg dw) mw mp me mo ms).2)) (h_edge : ∀ (po cy cg dw : Int32), ∀ (n : Nat) (tm : TmT) (wh : WhT) (ag : AgT) (pn : PnT) (ca : ChT) (cf : ChT) (sl : SnT) (sh : SnT) (mw : MwT) (mp : MpT) (me : MeT) (mo : MoT) (ms : MsT) (a1 : Int32), n < 520 → (Rl po cy cg dw) n tm wh ag pn ca cf sl sh mw mp me mo ms → (fT_edge (kOf cy) (wcI po) (tcI cg dw) tm wh ag pn ca cf sl sh a1).1 = (fM_edge (kOf cy) (mcI po cg dw) mw mp me mo ms a1).1 ∧ (Rl po cy cg dw) (n + 1) ((fT_edge (kOf cy) (wcI po) (tcI cg dw) tm wh ag pn ca cf sl sh a1).2.1) ((fT_edge (kOf cy) (wcI po) (tcI cg dw) tm wh ag pn ca cf sl sh a1).2.2.1) ((fT_edge (kOf cy) (wcI po) (tcI cg dw) tm wh ag pn ca cf sl sh a1).2.2.2.1) ((fT_edge (kOf cy) (wcI po) (tcI cg dw) tm wh ag pn ca cf sl sh a1).2.2.2.2) ca cf sl sh ((fM_edge (kOf cy) (mcI po cg dw) mw mp me mo ms a1).2.1) mp ((fM_edge (kOf cy) (mcI po cg dw) mw mp me mo ms a1).2.2.1) ((fM_edge (kOf cy) (mcI po cg dw) mw mp me mo ms a1).2.2.2) ms) (h_teeth : ∀ (po cy cg dw : Int32), ∀ (n : Nat) (tm : TmT) (wh : WhT) (ag : AgT) (pn : PnT) (ca : ChT) (cf : ChT) (sl : SnT) (sh : SnT) (mw : MwT) (mp : MpT) (me : MeT) (mo : MoT) (ms : MsT) (a1 a2 : Int32), n < 520 → (Rl po cy cg dw) n tm wh ag pn ca cf sl sh mw mp me mo ms → (fT_teeth (kOf cy) (wcI po) (tcI cg dw) tm wh ag pn ca cf sl sh a1 a2).1 = (fM_teeth (kOf cy) (mcI po cg dw) mw mp me mo ms a1 a2).1 ∧ (Rl po cy cg dw) (n + 1) ((fT_teeth (kOf cy) (wcI po) (tcI cg dw) tm wh ag pn ca cf sl sh a1 a2).2.1) ((fT_teeth (kOf cy) (wcI po) (tcI cg dw) tm wh ag pn ca cf sl sh a1 a2).2.2.1) ((fT_teeth (kOf cy) (wcI po) (tcI cg dw) tm wh ag pn ca cf sl sh a1 a2).2.2.2.1) ((fT_teeth (kOf cy) (wcI po) (tcI cg dw) tm wh ag pn ca cf sl sh a1 a2).2.2.2.2) ca cf sl sh ((fM_teeth (kOf cy) (mcI po cg dw) mw mp me mo ms a1 a2).2.1) mp ((fM_teeth (kOf cy) (mcI po cg dw) mw mp me mo ms a1 a2).2.2.1) ((fM_teeth (kOf cy) (mcI po cg dw) mw mp me mo ms a1 a2).2.2.2) ms) (h_cam : ∀ (po cy cg dw : Int32), ∀ (n : Nat) (tm : TmT) (wh : WhT) (ag : AgT) (pn : PnT) (ca : ChT) (cf : ChT) (sl : SnT) (sh : SnT) (mw : MwT) (mp : MpT) (me : MeT) (mo : MoT) (ms : MsT), n < 520 → (Rl po cy cg dw) n tm wh ag pn ca cf sl sh mw mp me mo ms → (fT_cam (kOf cy) (wcI po) (tcI cg dw) tm wh ag pn ca cf sl sh).1 = (fM_cam (kOf cy) (mcI po cg dw) mw mp me mo ms).1 ∧ (Rl po cy cg dw) (n + 1) tm ((fT_cam (kOf cy) (wcI po) (tcI cg dw) tm wh ag pn ca cf sl sh).2) ag pn ca cf sl sh ((fM_cam (kOf cy) (mcI po cg dw) mw mp me mo ms).2) mp me mo ms) (h_rest : ∀ (po cy cg dw : Int32), ∀ (n : Nat) (tm : TmT) (wh : WhT) (ag : AgT) (pn : PnT) (ca : ChT) (cf : ChT) (sl : SnT) (sh : SnT) (mw : MwT) (mp : MpT) (me : MeT) (mo : MoT) (ms : MsT) (a1 : Int32), n < 520 → (Rl po cy cg dw) n tm wh ag pn ca cf sl sh mw mp me mo ms → (fT_rest (kOf cy) (wcI po) (tcI cg dw) tm wh ag pn ca cf sl sh a1).1 = (fM_rest (kOf cy) (mcI po cg dw) mw mp me mo ms a1).1 ∧ (Rl po cy cg dw) (n + 1) ((fT_rest (kOf cy) (wcI po) (tcI cg dw) tm wh ag pn ca cf sl sh a1).2.1) ((fT_rest (kOf cy) (wcI po) (tcI cg dw) tm wh ag pn ca cf sl sh a1).2.2.1) ((fT_rest (kOf cy) (wcI po) (tcI cg dw) tm wh ag pn ca cf sl sh a1).2.2.2.1) ((fT_rest (kOf cy) (wcI po) (tcI cg dw) tm wh ag pn ca cf sl sh a1).2.2.2.2) ca cf sl sh ((fM_rest (kOf cy) (mcI po cg dw) mw mp me mo ms a1).2.1) mp ((fM_rest (kOf cy) (mcI po cg dw) mw mp me mo ms a1).2.2.1) ((fM_rest (kOf cy) (mcI po cg dw) mw mp me mo ms a1).2.2.2) ms) (h_state : ∀ (po cy cg dw : Int32), ∀ (n : Nat) (tm : TmT) (wh : WhT) (ag : AgT) (pn : PnT) (ca : ChT) (cf : ChT) (sl : SnT) (sh : SnT) (mw : MwT) (mp : MpT) (me : MeT) (mo : MoT) (ms : MsT), n < 520 → (Rl po cy cg dw) n tm wh ag pn ca cf sl sh mw mp me mo ms → (fT_state (kOf cy) (wcI po) (tcI cg dw) tm wh ag pn ca cf sl sh) = (fM_state (kOf cy) (mcI po cg dw) mw mp me mo ms) ∧ (Rl po cy cg dw) (n + 1) tm wh ag pn ca cf sl sh mw mp me mo ms) (h_tooth : ∀ (po cy cg dw : Int32), ∀ (n : Nat) (tm : TmT) (wh : WhT) (ag : AgT) (pn : PnT) (ca : ChT) (cf : ChT) (sl : SnT) (sh : SnT) (mw : MwT) (mp : MpT) (me : MeT) (mo : MoT) (ms : MsT), n < 520 → (Rl po cy cg dw) n tm wh ag pn ca cf sl sh mw mp me mo ms → (fT_tooth (kOf cy) (wcI po) (tcI cg dw) tm wh ag pn ca cf sl sh) = (fM_tooth (kOf cy) (mcI po cg dw) mw mp me mo ms) ∧ (Rl po cy cg dw) (n + 1) tm wh ag pn ca cf sl sh mw mp me mo ms) (h_turn : ∀ (po cy cg dw : Int32), ∀ (n : Nat) (tm : TmT) (wh : WhT) (ag : AgT) (pn : PnT) (ca : ChT) (cf : ChT) (sl : SnT) (sh : SnT) (mw : MwT) (mp : MpT) (me : MeT) (mo : MoT) (ms : MsT), n < 520 → (Rl po cy cg dw) n tm wh ag pn ca cf sl sh mw mp me mo ms → (fT_turn (kOf cy) (wcI po) (tcI cg dw) tm wh ag pn ca cf sl sh) = (fM_turn (kOf cy) (mcI po cg dw) mw mp me mo ms) ∧ (Rl po cy cg dw) (n + 1) tm wh ag pn ca cf sl sh mw mp me mo ms) (h_unit : ∀ (po cy cg dw : Int32), ∀ (n : Nat) (tm : TmT) (wh : WhT) (ag : AgT) (pn : PnT) (ca : ChT) (cf : ChT) (sl : SnT) (sh : SnT) (mw : MwT) (mp : MpT) (me : MeT) (mo : MoT) (ms : MsT), n < 520 → (Rl po cy cg dw) n tm wh ag pn ca cf sl sh mw mp me mo ms → (fT_unit (kOf cy) (wcI po) (tcI cg dw) tm wh ag pn ca cf sl sh) = (fM_unit (kOf cy) (mcI po cg dw) mw mp me mo ms) ∧ (Rl po cy cg dw) (n + 1) tm wh ag pn ca cf sl sh mw mp me mo ms) (h_foretell : ∀ (po cy cg dw : Int32), ∀ (n : Nat) (tm : TmT) (wh : WhT) (ag : AgT) (pn : PnT) (ca : ChT) (cf : ChT) (sl : SnT) (sh : SnT) (mw : MwT) (mp : MpT) (me : MeT) (mo : MoT) (ms : MsT) (a1 : Int32), n < 520 → (Rl po cy cg dw) n tm wh ag pn ca cf sl sh mw mp me mo ms → (fT_foretell (kOf cy) (wcI po) (tcI cg dw) tm wh ag pn ca cf sl sh a1) = (fM_foretell (kOf cy) (mcI po cg dw) mw mp me mo ms a1) ∧ (Rl po cy cg dw) (n + 1) tm wh ag pn ca cf sl sh mw mp me mo ms) (h_output : ∀ (po cy cg dw : Int32), ∀ (n : Nat) (tm : TmT) (wh : WhT) (ag : AgT) (pn : PnT) (ca : ChT) (cf : ChT) (sl : SnT) (sh : SnT) (mw : MwT) (mp : MpT) (me : MeT) (mo : MoT) (ms : MsT) (a1 : Int32), n < 520 → (Rl po cy cg dw) n tm wh ag pn ca cf sl sh mw mp me mo ms → (fT_output (kOf cy) (wcI po) (tcI cg dw) tm wh ag pn ca cf sl sh a1) = (fM_output (kOf cy) (mcI po cg dw) mw mp me mo ms a1) ∧ (Rl po cy cg dw) (n + 1) tm wh ag pn ca cf sl sh mw mp me mo ms) (h_tally : ∀ (po cy cg dw : Int32), ∀ (n : Nat) (tm : TmT) (wh : WhT) (ag : AgT) (pn : PnT) (ca : ChT) (cf : ChT) (sl : SnT) (sh : SnT) (mw : MwT) (mp : MpT) (me : MeT) (mo : MoT) (ms : MsT) (a1 : Int32), n < 520 → (Rl po cy cg dw) n tm wh ag pn ca cf sl sh mw mp me mo ms → (fT_tally (kOf cy) (wcI po) (tcI cg dw) tm wh ag pn ca cf sl sh a1) = (fM_tally (kOf cy) (mcI po cg dw) mw mp me mo ms a1) ∧ (Rl po cy cg dw) (n + 1) tm wh ag pn ca cf sl sh mw mp me mo ms) (h_waiting : ∀ (po cy cg dw : Int32), ∀ (n : Nat) (tm : TmT) (wh : WhT) (ag : AgT) (pn : PnT) (ca : ChT) (cf : ChT) (sl : SnT) (sh : SnT) (mw : MwT) (mp : MpT) (me : MeT) (mo : MoT) (ms : MsT), n < 520 → (Rl po cy cg dw) n tm wh ag pn ca cf sl sh mw mp me mo ms → (fT_waiting (kOf cy) (wcI po) (tcI cg dw) tm wh ag pn ca cf sl sh) = (fM_waiting (kOf cy) (mcI po cg dw) mw mp me mo ms) ∧ (Rl po cy cg dw) (n + 1) tm wh ag pn ca cf sl sh mw mp me mo ms) (h_running : ∀ (po cy cg dw : Int32), ∀ (n : Nat) (tm : TmT) (wh : WhT) (ag : AgT) (pn : PnT) (ca : ChT) (cf : ChT) (sl : SnT) (sh : SnT) (mw : MwT) (mp : MpT) (me : MeT) (mo : MoT) (ms : MsT), n < 520 → (Rl po cy cg dw) n tm wh ag pn ca cf sl sh mw mp me mo ms → (fT_running (kOf cy) (wcI po) (tcI cg dw) tm wh ag pn ca cf sl sh) = (fM_running (kOf cy) (mcI po cg dw) mw mp me mo ms) ∧ (Rl po cy cg dw) (n + 1) tm wh ag pn ca cf sl sh mw mp me mo ms) (h_skip : ∀ (po cy cg dw : Int32), ∀ (n : Nat) (tm : TmT) (wh : WhT) (ag : AgT) (pn : PnT) (ca : ChT) (cf : ChT) (sl : SnT) (sh : SnT) (mw : MwT) (mp : MpT) (me : MeT) (mo : MoT) (ms : MsT), Rl po cy cg dw n tm wh ag pn ca cf sl sh mw mp me mo ms → Rl po cy cg dw (n + 1) tm wh ag pn ca cf sl sh mw mp me mo ms) (h_0 : ∀ (po cy cg dw : Int32), Rl po cy cg dw 0 tmI whI agI pnI chI chI slI shI mwI mpI meI moI msI) : W p l e room_1 s m #[Value.ref b] below meth c s.heap [] 0 0 (lw_Z below #[Value.ref b] s) (entryFrame m ([Value.ref b] : List Value).toArray 4) := by
  obtain ⟨hx, hb, hr, hml, hown, hts0, hX, hbl, hlk, hgv⟩ := C0
  have hts : ∀ w ∈ wsG, w.before #[Value.ref b] s = true := fun w hw => hts0 w (List.mem_filter.mp hw).1
  have hown : s.vm.findClass "ToothWheelTimerLaw" = some m.cls := hown
  have hN := k_nw hts0
  obtain ⟨D, cZ, cI, cJ, hK⟩ := k_known hts
  obtain ⟨A, hAe⟩ : ∃ A : Nat → Prop, A = fun q => s.heap.size ≤ q := ⟨_, rfl⟩
  have hA : ∀ q : Nat, s.heap.size ≤ q → A q := fun q h => by rw [hAe]; exact h
  have hA2 : ∀ a : Nat, a < s.heap.size → ¬ A a := fun a h z => by rw [hAe] at z; exact absurd z (Nat.not_le_of_lt h)
  obtain ⟨tL, tH, hT⟩ := k_stt (A := A) hts0 hgv hA2
  have hbA : ¬ A b := hA2 b hbl
  have hl := lv_entry ([.ref b]) (n := 4) (Nat.le_of_ble_eq_true rfl)
  rw [lg_entry_eq]
  generalize (lg_sl ([.ref b]) ++ List.replicate (4 - (lg_sl ([.ref b])).length) Slot.unset).toArray = ls at hl ⊢
  have hl : lv_has ls 4 [(0, .ref b)] := hl
  have hS : va_S A s.heap s.heap [] := va_S.rf
  have hP : va_P D vwCl [] s.heap := fun k q h => by simp at h
  have hD : va_D A [] := ⟨fun i j p q h => by simp at h, fun k q h => by simp at h⟩
  refine va_new (ci := 5) (fs := [.int 0, .int 0, .int 0, .null, .null, .null, .null, .null, .null, .null, .long 0, .int 0, .int 0, .int 0]) (C := "ToothWheelTimer") (T := TT) (N := 14) hx hb hts inT tyT tyokT hown (hts _ (wg wd_9 rfl)) (hts _ (wg wd_10 rfl)) (hts _ (wg wd_1 rfl)) hK hP hD hS hA rfl dfT (by show _ ≤ 600000; omega) (by show _ ≤ 7302250; omega) dL_law_0 (fun q0 H hP hD hS => ?_)
  refine W.widen (k := 1) (n := 14) (by first | exact Nat.le_of_ble_eq_true rfl | omega) (by first | exact Nat.le_of_ble_eq_true rfl | omega) ?_
  have hP : va_P D vwCl [(q0, .inr (5, [.int 0, .int 0, .int 0, .null, .null, .null, .null, .null, .null, .null, .long 0, .int 0, .int 0, .int 0]))] H := hP
  have hD : va_D A [(q0, .inr (5, [.int 0, .int 0, .int 0, .null, .null, .null, .null, .null, .null, .null, .long 0, .int 0, .int 0, .int 0]))] := hD
  refine lv_dup hx hb dL_law_3 rfl ?_
  refine lv_aload_n hx hb dL_law_4 rfl (lv_at hl 0 rfl) ?_
  refine lv_iconst (v := (0 : Int32)) hx hb dL_law_5 (by decide) ?_
  refine k_cs (va_runS (As := [.ref b, .int (nI 0)]) (rest := [.ref q0, .ref q0]) ⟨hx, hb, hml, hown, hts⟩ (ctL_cell l hL 0 (by decide)) (cwL_9 hts hN rfl rfl ⟨Nat.le_of_ble_eq_true rfl, Nat.le_of_ble_eq_true rfl⟩) (k_preX hX hbl hbA hS) rfl rfl hl.1 rfl (lv_room (Nat.le_of_ble_eq_true rfl)) dL_law_6 ⟨Nat.le_of_ble_eq_true rfl, Nat.le_of_ble_eq_true rfl⟩) ?_
  refine W.eq (g2 := F0 m 9 ls [.int (cellv xs L 0), .ref q0, .ref q0]) rfl ?_
  refine lv_aload_n hx hb dL_law_9 rfl (lv_at hl 0 rfl) ?_
  refine lv_iconst (v := (1 : Int32)) hx hb dL_law_10 (by decide) ?_
  refine k_cs (va_runS (As := [.ref b, .int (nI 1)]) (rest := [.int (cellv xs L 0), .ref q0, .ref q0]) ⟨hx, hb, hml, hown, hts⟩ (ctL_cell l hL 1 (by decide)) (cwL_9 hts hN rfl rfl ⟨Nat.le_of_ble_eq_true rfl, Nat.le_of_ble_eq_true rfl⟩) (k_preX hX hbl hbA hS) rfl rfl hl.1 rfl (lv_room (Nat.le_of_ble_eq_true rfl)) dL_law_11 ⟨Nat.le_of_ble_eq_true rfl, Nat.le_of_ble_eq_true rfl⟩) ?_
  refine W.eq (g2 := F0 m 14 ls [.int (cellv xs L 1), .int (cellv xs L 0), .ref q0, .ref q0]) rfl ?_
  refine lv_aload_n hx hb dL_law_14 rfl (lv_at hl 0 rfl) ?_
  refine lv_iconst (v := (2 : Int32)) hx hb dL_law_15 (by decide) ?_
  refine k_cs (va_runS (As := [.ref b, .int (nI 2)]) (rest := [.int (cellv xs L 1), .int (cellv xs L 0), .ref q0, .ref q0]) ⟨hx, hb, hml, hown, hts⟩ (ctL_cell l hL 2 (by decide)) (cwL_9 hts hN rfl rfl ⟨Nat.le_of_ble_eq_true rfl, Nat.le_of_ble_eq_true rfl⟩) (k_preX hX hbl hbA hS) rfl rfl hl.1 rfl (lv_room (Nat.le_of_ble_eq_true rfl)) dL_law_16 ⟨Nat.le_of_ble_eq_true rfl, Nat.le_of_ble_eq_true rfl⟩) ?_
  refine W.eq (g2 := F0 m 19 ls [.int (cellv xs L 2), .int (cellv xs L 1), .int (cellv xs L 0), .ref q0, .ref q0]) rfl ?_
  refine lv_aload_n hx hb dL_law_19 rfl (lv_at hl 0 rfl) ?_
  refine lv_iconst (v := (3 : Int32)) hx hb dL_law_20 (by decide) ?_
  refine k_cs (va_runS (As := [.ref b, .int (nI 3)]) (rest := [.int (cellv xs L 2), .int (cellv xs L 1), .int (cellv xs L 0), .ref q0, .ref q0]) ⟨hx, hb, hml, hown, hts⟩ (ctL_cell l hL 3 (by decide)) (cwL_9 hts hN rfl rfl ⟨Nat.le_of_ble_eq_true rfl, Nat.le_of_ble_eq_true rfl⟩) (k_preX hX hbl hbA hS) rfl rfl hl.1 rfl (lv_room (Nat.le_of_ble_eq_true rfl)) dL_law_21 ⟨Nat.le_of_ble_eq_true rfl, Nat.le_of_ble_eq_true rfl⟩) ?_
  refine W.eq (g2 := F0 m 24 ls [.int (cellv xs L 3), .int (cellv xs L 2), .int (cellv xs L 1), .int (cellv xs L 0), .ref q0, .ref q0]) rfl ?_
  refine k_ca (wc := [(q0, .inr (5, [.int 0, .int 0, .int 0, .null, .null, .null, .null, .null, .null, .null, .long 0, .int 0, .int 0, .int 0]))]) (wr := []) (va_runI (As := [.int (cellv xs L 0), .int (cellv xs L 1), .int (cellv xs L 2), .int (cellv xs L 3)]) (rest := [.ref q0]) ⟨hx, hb, hml, hown, hts⟩ (ctT_init l D cZ cI cJ tL tH H.size q0 (cellv xs L 0) (cellv xs L 1) (cellv xs L 2) (cellv xs L 3)) (cwL_15 hts hN rfl rfl ⟨Nat.le_of_ble_eq_true rfl, Nat.le_of_ble_eq_true rfl⟩) (k_pre hK hN hT hA hS hP hD [0] rfl (by decide)) rfl rfl hl.1 rfl (lv_room (Nat.le_of_ble_eq_true rfl)) dL_law_24 ⟨by show _ ≤ 600000; omega, by show _ ≤ 7302250; omega⟩) hP hD hS hA [0] [] rfl rfl (by decide) (by decide) (fun u24 H locs hP hD hS => ?_)
  refine W.widen (k := 16) (n := 291) (by first | exact Nat.le_of_ble_eq_true rfl | omega) (by first | exact Nat.le_of_ble_eq_true rfl | omega) ?_
  refine W.eq (g2 := F0 m 27 ls [.ref q0]) rfl ?_
  obtain ⟨ad, had⟩ := u24
  subst had
  have hP : va_P D vwCl [cTm ad (kOf (cellv xs L 1)) (tcI (cellv xs L 2) (cellv xs L 3)) tmI, cWh (ad 1) (wcI (cellv xs L 0)) whI, cAg (ad 2) (ad 3) (ad 4) (ad 5) (kOf (cellv xs L 1)) agI, cZa cZ (ad 3) (5 * kOf (cellv xs L 1)) agI.1, cJa cJ (ad 4) (5 * kOf (cellv xs L 1)) agI.2.1, cIa cI (ad 5) (5 * kOf (cellv xs L 1)) agI.2.2.1, cPn (ad 6) (ad 7) pnI, cJa cJ (ad 7) 16 pnI.1, cCh (ad 8) (ad 9) (2047 : Int32), cIa cI (ad 9) 64 chI, cCh (ad 10) (ad 11) (32000 : Int32), cIa cI (ad 11) 64 chI, cSn (ad 12) tL (ad 13) (400 : Int32) slI, cJa cJ (ad 13) 3 slI.2.2.2.2, cSn (ad 14) tH (ad 15) (80 : Int32) shI, cJa cJ (ad 15) 3 shI.2.2.2.2] H := hP
  have hD : va_D A [cTm ad (kOf (cellv xs L 1)) (tcI (cellv xs L 2) (cellv xs L 3)) tmI, cWh (ad 1) (wcI (cellv xs L 0)) whI, cAg (ad 2) (ad 3) (ad 4) (ad 5) (kOf (cellv xs L 1)) agI, cZa cZ (ad 3) (5 * kOf (cellv xs L 1)) agI.1, cJa cJ (ad 4) (5 * kOf (cellv xs L 1)) agI.2.1, cIa cI (ad 5) (5 * kOf (cellv xs L 1)) agI.2.2.1, cPn (ad 6) (ad 7) pnI, cJa cJ (ad 7) 16 pnI.1, cCh (ad 8) (ad 9) (2047 : Int32), cIa cI (ad 9) 64 chI, cCh (ad 10) (ad 11) (32000 : Int32), cIa cI (ad 11) 64 chI, cSn (ad 12) tL (ad 13) (400 : Int32) slI, cJa cJ (ad 13) 3 slI.2.2.2.2, cSn (ad 14) tH (ad 15) (80 : Int32) shI, cJa cJ (ad 15) 3 shI.2.2.2.2] := hD
  refine lv_astore_n (lv' := [(1, .ref (ad 0)), (0, .ref b)]) hx hb dL_law_27 rfl hl (by decide) rfl (fun ls hl => ?_)
  refine va_new (ci := 6) (fs := [.int 0, .int 0, .int 0, .int 0, .int 0, .long 0, .int 0, .long 0, .long 0, .int 0, .int 0, .int 0, .int 0, .null, .null, .null, .null, .int 0, .null, .null, .null, .null, .null, .null, .null, .null, .null, .null, .int 0, .int 0, .int 0, .int 0]) (C := "ToothWheelTimerModel") (T := TM) (N := 32) hx hb hts inM tyM tyokM hown (hts _ (wg wd_529 rfl)) (hts _ (wg wd_530 rfl)) (hts _ (wg wd_8 rfl)) hK hP hD hS hA rfl dfM (by show _ ≤ 600000; omega) (by show _ ≤ 7302250; omega) dL_law_28 (fun q28 H hP hD hS => ?_)
  refine W.widen (k := 17) (n := 323) (by first | exact Nat.le_of_ble_eq_true rfl | omega) (by first | exact Nat.le_of_ble_eq_true rfl | omega) ?_
  have hP : va_P D vwCl [cTm ad (kOf (cellv xs L 1)) (tcI (cellv xs L 2) (cellv xs L 3)) tmI, cWh (ad 1) (wcI (cellv xs L 0)) whI, cAg (ad 2) (ad 3) (ad 4) (ad 5) (kOf (cellv xs L 1)) agI, cZa cZ (ad 3) (5 * kOf (cellv xs L 1)) agI.1, cJa cJ (ad 4) (5 * kOf (cellv xs L 1)) agI.2.1, cIa cI (ad 5) (5 * kOf (cellv xs L 1)) agI.2.2.1, cPn (ad 6) (ad 7) pnI, cJa cJ (ad 7) 16 pnI.1, cCh (ad 8) (ad 9) (2047 : Int32), cIa cI (ad 9) 64 chI, cCh (ad 10) (ad 11) (32000 : Int32), cIa cI (ad 11) 64 chI, cSn (ad 12) tL (ad 13) (400 : Int32) slI, cJa cJ (ad 13) 3 slI.2.2.2.2, cSn (ad 14) tH (ad 15) (80 : Int32) shI, cJa cJ (ad 15) 3 shI.2.2.2.2, (q28, .inr (6, [.int 0, .int 0, .int 0, .int 0, .int 0, .long 0, .int 0, .long 0, .long 0, .int 0, .int 0, .int 0, .int 0, .null, .null, .null, .null, .int 0, .null, .null, .null, .null, .null, .null, .null, .null, .null, .null, .int 0, .int 0, .int 0, .int 0]))] H := hP
  have hD : va_D A [cTm ad (kOf (cellv xs L 1)) (tcI (cellv xs L 2) (cellv xs L 3)) tmI, cWh (ad 1) (wcI (cellv xs L 0)) whI, cAg (ad 2) (ad 3) (ad 4) (ad 5) (kOf (cellv xs L 1)) agI, cZa cZ (ad 3) (5 * kOf (cellv xs L 1)) agI.1, cJa cJ (ad 4) (5 * kOf (cellv xs L 1)) agI.2.1, cIa cI (ad 5) (5 * kOf (cellv xs L 1)) agI.2.2.1, cPn (ad 6) (ad 7) pnI, cJa cJ (ad 7) 16 pnI.1, cCh (ad 8) (ad 9) (2047 : Int32), cIa cI (ad 9) 64 chI, cCh (ad 10) (ad 11) (32000 : Int32), cIa cI (ad 11) 64 chI, cSn (ad 12) tL (ad 13) (400 : Int32) slI, cJa cJ (ad 13) 3 slI.2.2.2.2, cSn (ad 14) tH (ad 15) (80 : Int32) shI, cJa cJ (ad 15) 3 shI.2.2.2.2, (q28, .inr (6, [.int 0, .int 0, .int 0, .int 0, .int 0, .long 0, .int 0, .long 0, .long 0, .int 0, .int 0, .int 0, .int 0, .null, .null, .null, .null, .int 0, .null, .null, .null, .null, .null, .null, .null, .null, .null, .null, .int 0, .int 0, .int 0, .int 0]))] := hD
  refine lv_dup hx hb dL_law_31 rfl ?_
  refine lv_aload_n hx hb dL_law_32 rfl (lv_at hl 1 rfl) ?_
  refine lv_iconst (v := (0 : Int32)) hx hb dL_law_33 (by decide) ?_
  refine k_cs (va_runS (As := [.ref b, .int (nI 0)]) (rest := [.ref q28, .ref q28]) ⟨hx, hb, hml, hown, hts⟩ (ctL_cell l hL 0 (by decide)) (cwL_9 hts hN rfl rfl ⟨Nat.le_of_ble_eq_true rfl, Nat.le_of_ble_eq_true rfl⟩) (k_preX hX hbl hbA hS) rfl rfl hl.1 rfl (lv_room (Nat.le_of_ble_eq_true rfl)) dL_law_34 ⟨Nat.le_of_ble_eq_true rfl, Nat.le_of_ble_eq_true rfl⟩) ?_
  refine W.eq (g2 := F0 m 37 ls [.int (cellv xs L 0), .ref q28, .ref q28]) rfl ?_
  refine lv_aload_n hx hb dL_law_37 rfl (lv_at hl 1 rfl) ?_
  refine lv_iconst (v := (1 : Int32)) hx hb dL_law_38 (by decide) ?_
  refine k_cs (va_runS (As := [.ref b, .int (nI 1)]) (rest := [.int (cellv xs L 0), .ref q28, .ref q28]) ⟨hx, hb, hml, hown, hts⟩ (ctL_cell l hL 1 (by decide)) (cwL_9 hts hN rfl rfl ⟨Nat.le_of_ble_eq_true rfl, Nat.le_of_ble_eq_true rfl⟩) (k_preX hX hbl hbA hS) rfl rfl hl.1 rfl (lv_room (Nat.le_of_ble_eq_true rfl)) dL_law_39 ⟨Nat.le_of_ble_eq_true rfl, Nat.le_of_ble_eq_true rfl⟩) ?_
  refine W.eq (g2 := F0 m 42 ls [.int (cellv xs L 1), .int (cellv xs L 0), .ref q28, .ref q28]) rfl ?_
  refine lv_aload_n hx hb dL_law_42 rfl (lv_at hl 1 rfl) ?_
  refine lv_iconst (v := (2 : Int32)) hx hb dL_law_43 (by decide) ?_
  refine k_cs (va_runS (As := [.ref b, .int (nI 2)]) (rest := [.int (cellv xs L 1), .int (cellv xs L 0), .ref q28, .ref q28]) ⟨hx, hb, hml, hown, hts⟩ (ctL_cell l hL 2 (by decide)) (cwL_9 hts hN rfl rfl ⟨Nat.le_of_ble_eq_true rfl, Nat.le_of_ble_eq_true rfl⟩) (k_preX hX hbl hbA hS) rfl rfl hl.1 rfl (lv_room (Nat.le_of_ble_eq_true rfl)) dL_law_44 ⟨Nat.le_of_ble_eq_true rfl, Nat.le_of_ble_eq_true rfl⟩) ?_
  refine W.eq (g2 := F0 m 47 ls [.int (cellv xs L 2), .int (cellv xs L 1), .int (cellv xs L 0), .ref q28, .ref q28]) rfl ?_
  refine lv_aload_n hx hb dL_law_47 rfl (lv_at hl 1 rfl) ?_
  refine lv_iconst (v := (3 : Int32)) hx hb dL_law_48 (by decide) ?_
  refine k_cs (va_runS (As := [.ref b, .int (nI 3)]) (rest := [.int (cellv xs L 2), .int (cellv xs L 1), .int (cellv xs L 0), .ref q28, .ref q28]) ⟨hx, hb, hml, hown, hts⟩ (ctL_cell l hL 3 (by decide)) (cwL_9 hts hN rfl rfl ⟨Nat.le_of_ble_eq_true rfl, Nat.le_of_ble_eq_true rfl⟩) (k_preX hX hbl hbA hS) rfl rfl hl.1 rfl (lv_room (Nat.le_of_ble_eq_true rfl)) dL_law_49 ⟨Nat.le_of_ble_eq_true rfl, Nat.le_of_ble_eq_true rfl⟩) ?_
  refine W.eq (g2 := F0 m 52 ls [.int (cellv xs L 3), .int (cellv xs L 2), .int (cellv xs L 1), .int (cellv xs L 0), .ref q28, .ref q28]) rfl ?_
  refine k_ca (wc := [(q28, .inr (6, [.int 0, .int 0, .int 0, .int 0, .int 0, .long 0, .int 0, .long 0, .long 0, .int 0, .int 0, .int 0, .int 0, .null, .null, .null, .null, .int 0, .null, .null, .null, .null, .null, .null, .null, .null, .null, .null, .int 0, .int 0, .int 0, .int 0]))]) (wr := [cTm ad (kOf (cellv xs L 1)) (tcI (cellv xs L 2) (cellv xs L 3)) tmI, cWh (ad 1) (wcI (cellv xs L 0)) whI, cAg (ad 2) (ad 3) (ad 4) (ad 5) (kOf (cellv xs L 1)) agI, cZa cZ (ad 3) (5 * kOf (cellv xs L 1)) agI.1, cJa cJ (ad 4) (5 * kOf (cellv xs L 1)) agI.2.1, cIa cI (ad 5) (5 * kOf (cellv xs L 1)) agI.2.2.1, cPn (ad 6) (ad 7) pnI, cJa cJ (ad 7) 16 pnI.1, cCh (ad 8) (ad 9) (2047 : Int32), cIa cI (ad 9) 64 chI, cCh (ad 10) (ad 11) (32000 : Int32), cIa cI (ad 11) 64 chI, cSn (ad 12) tL (ad 13) (400 : Int32) slI, cJa cJ (ad 13) 3 slI.2.2.2.2, cSn (ad 14) tH (ad 15) (80 : Int32) shI, cJa cJ (ad 15) 3 shI.2.2.2.2]) (va_runI (As := [.int (cellv xs L 0), .int (cellv xs L 1), .int (cellv xs L 2), .int (cellv xs L 3)]) (rest := [.ref q28]) ⟨hx, hb, hml, hown, hts⟩ (ctM_init l D cZ cI cJ tL tH H.size q28 (cellv xs L 0) (cellv xs L 1) (cellv xs L 2) (cellv xs L 3)) (cwL_20 hts hN rfl rfl ⟨Nat.le_of_ble_eq_true rfl, Nat.le_of_ble_eq_true rfl⟩) (k_pre hK hN hT hA hS hP hD [16] rfl (by decide)) rfl rfl hl.1 rfl (lv_room (Nat.le_of_ble_eq_true rfl)) dL_law_52 ⟨by show _ ≤ 600000; omega, by show _ ≤ 7302250; omega⟩) hP hD hS hA [16] [0, 1, 2, 3, 4, 5, 6, 7, 8, 9, 10, 11, 12, 13, 14, 15] rfl rfl (by decide) (by decide) (fun u52 H locs hP hD hS => ?_)
  refine W.widen (k := 31) (n := 587) (by first | exact Nat.le_of_ble_eq_true rfl | omega) (by first | exact Nat.le_of_ble_eq_true rfl | omega) ?_
  refine W.eq (g2 := F0 m 55 ls [.ref q28]) rfl ?_
  obtain ⟨bd, hbd⟩ := u52
  subst hbd
  have hP : va_P D vwCl [cTm ad (kOf (cellv xs L 1)) (tcI (cellv xs L 2) (cellv xs L 3)) tmI, cWh (ad 1) (wcI (cellv xs L 0)) whI, cAg (ad 2) (ad 3) (ad 4) (ad 5) (kOf (cellv xs L 1)) agI, cZa cZ (ad 3) (5 * kOf (cellv xs L 1)) agI.1, cJa cJ (ad 4) (5 * kOf (cellv xs L 1)) agI.2.1, cIa cI (ad 5) (5 * kOf (cellv xs L 1)) agI.2.2.1, cPn (ad 6) (ad 7) pnI, cJa cJ (ad 7) 16 pnI.1, cCh (ad 8) (ad 9) (2047 : Int32), cIa cI (ad 9) 64 chI, cCh (ad 10) (ad 11) (32000 : Int32), cIa cI (ad 11) 64 chI, cSn (ad 12) tL (ad 13) (400 : Int32) slI, cJa cJ (ad 13) 3 slI.2.2.2.2, cSn (ad 14) tH (ad 15) (80 : Int32) shI, cJa cJ (ad 15) 3 shI.2.2.2.2, cMd bd (kOf (cellv xs L 1)) (mcI (cellv xs L 0) (cellv xs L 2) (cellv xs L 3)) mwI meI moI, cIa cI (bd 1) 128 mpI, cZa cZ (bd 2) 30 meI.1, cJa cJ (bd 3) 30 meI.2.1, cIa cI (bd 4) 30 meI.2.2.1, cZa cZ (bd 5) 6 moI.1, cZa cZ (bd 6) 6 moI.2.1, cZa cZ (bd 7) 2 msI.1, cIa cI (bd 8) 2 msI.2.1, cZa cZ (bd 9) 2 msI.2.2.1, cIa cI (bd 10) 2 msI.2.2.2.1, cIa cI (bd 11) 2 msI.2.2.2.2.1, cZa cZ (bd 12) 2 msI.2.2.2.2.2.1, cJa cJ (bd 13) 6 msI.2.2.2.2.2.2, cJa cJ (bd 14) 16 moI.2.2.1] H := hP
  have hD : va_D A [cTm ad (kOf (cellv xs L 1)) (tcI (cellv xs L 2) (cellv xs L 3)) tmI, cWh (ad 1) (wcI (cellv xs L 0)) whI, cAg (ad 2) (ad 3) (ad 4) (ad 5) (kOf (cellv xs L 1)) agI, cZa cZ (ad 3) (5 * kOf (cellv xs L 1)) agI.1, cJa cJ (ad 4) (5 * kOf (cellv xs L 1)) agI.2.1, cIa cI (ad 5) (5 * kOf (cellv xs L 1)) agI.2.2.1, cPn (ad 6) (ad 7) pnI, cJa cJ (ad 7) 16 pnI.1, cCh (ad 8) (ad 9) (2047 : Int32), cIa cI (ad 9) 64 chI, cCh (ad 10) (ad 11) (32000 : Int32), cIa cI (ad 11) 64 chI, cSn (ad 12) tL (ad 13) (400 : Int32) slI, cJa cJ (ad 13) 3 slI.2.2.2.2, cSn (ad 14) tH (ad 15) (80 : Int32) shI, cJa cJ (ad 15) 3 shI.2.2.2.2, cMd bd (kOf (cellv xs L 1)) (mcI (cellv xs L 0) (cellv xs L 2) (cellv xs L 3)) mwI meI moI, cIa cI (bd 1) 128 mpI, cZa cZ (bd 2) 30 meI.1, cJa cJ (bd 3) 30 meI.2.1, cIa cI (bd 4) 30 meI.2.2.1, cZa cZ (bd 5) 6 moI.1, cZa cZ (bd 6) 6 moI.2.1, cZa cZ (bd 7) 2 msI.1, cIa cI (bd 8) 2 msI.2.1, cZa cZ (bd 9) 2 msI.2.2.1, cIa cI (bd 10) 2 msI.2.2.2.1, cIa cI (bd 11) 2 msI.2.2.2.2.1, cZa cZ (bd 12) 2 msI.2.2.2.2.2.1, cJa cJ (bd 13) 6 msI.2.2.2.2.2.2, cJa cJ (bd 14) 16 moI.2.2.1] := hD
  refine lv_astore_n (lv' := [(2, .ref (bd 0)), (1, .ref (ad 0)), (0, .ref b)]) hx hb dL_law_55 rfl hl (by decide) rfl (fun ls hl => ?_)
  refine lv_iconst (v := (4 : Int32)) hx hb dL_law_56 (by decide) ?_
  refine lv_istore_n (lv' := [(3, .int (4 : Int32)), (2, .ref (bd 0)), (1, .ref (ad 0)), (0, .ref b)]) hx hb dL_law_57 rfl hl (by decide) rfl (fun ls hl => ?_)
  have hP := hP.sub (ws' := [cTm ad (kOf (cellv xs L 1)) (tcI (cellv xs L 2) (cellv xs L 3)) tmI, cWh (ad 1) (wcI (cellv xs L 0)) whI, cAg (ad 2) (ad 3) (ad 4) (ad 5) (kOf (cellv xs L 1)) agI, cZa cZ (ad 3) (5 * kOf (cellv xs L 1)) agI.1, cJa cJ (ad 4) (5 * kOf (cellv xs L 1)) agI.2.1, cIa cI (ad 5) (5 * kOf (cellv xs L 1)) agI.2.2.1, cPn (ad 6) (ad 7) pnI, cJa cJ (ad 7) 16 pnI.1, cCh (ad 8) (ad 9) (2047 : Int32), cIa cI (ad 9) 64 chI, cCh (ad 10) (ad 11) (32000 : Int32), cIa cI (ad 11) 64 chI, cSn (ad 12) tL (ad 13) (400 : Int32) slI, cJa cJ (ad 13) 3 slI.2.2.2.2, cSn (ad 14) tH (ad 15) (80 : Int32) shI, cJa cJ (ad 15) 3 shI.2.2.2.2, cMd bd (kOf (cellv xs L 1)) (mcI (cellv xs L 0) (cellv xs L 2) (cellv xs L 3)) mwI meI moI, cIa cI (bd 1) 128 mpI, cZa cZ (bd 2) 30 meI.1, cJa cJ (bd 3) 30 meI.2.1, cIa cI (bd 4) 30 meI.2.2.1, cZa cZ (bd 5) 6 moI.1, cZa cZ (bd 6) 6 moI.2.1, cZa cZ (bd 7) 2 msI.1, cIa cI (bd 8) 2 msI.2.1, cZa cZ (bd 9) 2 msI.2.2.1, cIa cI (bd 10) 2 msI.2.2.2.1, cIa cI (bd 11) 2 msI.2.2.2.2.1, cZa cZ (bd 12) 2 msI.2.2.2.2.2.1, cJa cJ (bd 13) 6 msI.2.2.2.2.2.2, cJa cJ (bd 14) 16 moI.2.2.1]) [0, 1, 2, 3, 4, 5, 6, 7, 8, 9, 10, 11, 12, 13, 14, 15, 16, 17, 18, 19, 20, 21, 22, 23, 24, 25, 26, 27, 28, 29, 30] rfl
  have hD := hD.sub (ws' := [cTm ad (kOf (cellv xs L 1)) (tcI (cellv xs L 2) (cellv xs L 3)) tmI, cWh (ad 1) (wcI (cellv xs L 0)) whI, cAg (ad 2) (ad 3) (ad 4) (ad 5) (kOf (cellv xs L 1)) agI, cZa cZ (ad 3) (5 * kOf (cellv xs L 1)) agI.1, cJa cJ (ad 4) (5 * kOf (cellv xs L 1)) agI.2.1, cIa cI (ad 5) (5 * kOf (cellv xs L 1)) agI.2.2.1, cPn (ad 6) (ad 7) pnI, cJa cJ (ad 7) 16 pnI.1, cCh (ad 8) (ad 9) (2047 : Int32), cIa cI (ad 9) 64 chI, cCh (ad 10) (ad 11) (32000 : Int32), cIa cI (ad 11) 64 chI, cSn (ad 12) tL (ad 13) (400 : Int32) slI, cJa cJ (ad 13) 3 slI.2.2.2.2, cSn (ad 14) tH (ad 15) (80 : Int32) shI, cJa cJ (ad 15) 3 shI.2.2.2.2, cMd bd (kOf (cellv xs L 1)) (mcI (cellv xs L 0) (cellv xs L 2) (cellv xs L 3)) mwI meI moI, cIa cI (bd 1) 128 mpI, cZa cZ (bd 2) 30 meI.1, cJa cJ (bd 3) 30 meI.2.1, cIa cI (bd 4) 30 meI.2.2.1, cZa cZ (bd 5) 6 moI.1, cZa cZ (bd 6) 6 moI.2.1, cZa cZ (bd 7) 2 msI.1, cIa cI (bd 8) 2 msI.2.1, cZa cZ (bd 9) 2 msI.2.2.1, cIa cI (bd 10) 2 msI.2.2.2.1, cIa cI (bd 11) 2 msI.2.2.2.2.1, cZa cZ (bd 12) 2 msI.2.2.2.2.2.1, cJa cJ (bd 13) 6 msI.2.2.2.2.2.2, cJa cJ (bd 14) 16 moI.2.2.1]) [0, 1, 2, 3, 4, 5, 6, 7, 8, 9, 10, 11, 12, 13, 14, 15, 16, 17, 18, 19, 20, 21, 22, 23, 24, 25, 26, 27, 28, 29, 30] (by decide) rfl
  have hl := lv_sub (l' := [(3, .int (nI (4 + 5 * 0))), (0, .ref b), (1, .ref (ad 0)), (2, .ref (bd 0))]) hl [0, 3, 2, 1] rfl
  refine law_loop l D cZ cI cJ tL tH ad bd (kOf (cellv xs L 1)) (wcI (cellv xs L 0)) (tcI (cellv xs L 2) (cellv xs L 3)) (mcI (cellv xs L 0) (cellv xs L 2) (cellv xs L 3)) (kOf_in _) (wcI_ne _) (Rl (cellv xs L 0) (cellv xs L 1) (cellv xs L 2) (cellv xs L 3)) hx hb hml hts hown hK hN hT hA hX hbl hbA hL (h_set (cellv xs L 0) (cellv xs L 1) (cellv xs L 2) (cellv xs L 3)) (h_look (cellv xs L 0) (cellv xs L 1) (cellv xs L 2) (cellv xs L 3)) (h_sample (cellv xs L 0) (cellv xs L 1) (cellv xs L 2) (cellv xs L 3)) (h_value (cellv xs L 0) (cellv xs L 1) (cellv xs L 2) (cellv xs L 3)) (h_count (cellv xs L 0) (cellv xs L 1) (cellv xs L 2) (cellv xs L 3)) (h_frame (cellv xs L 0) (cellv xs L 1) (cellv xs L 2) (cellv xs L 3)) (h_clear (cellv xs L 0) (cellv xs L 1) (cellv xs L 2) (cellv xs L 3)) (h_edge (cellv xs L 0) (cellv xs L 1) (cellv xs L 2) (cellv xs L 3)) (h_teeth (cellv xs L 0) (cellv xs L 1) (cellv xs L 2) (cellv xs L 3)) (h_cam (cellv xs L 0) (cellv xs L 1) (cellv xs L 2) (cellv xs L 3)) (h_rest (cellv xs L 0) (cellv xs L 1) (cellv xs L 2) (cellv xs L 3)) (h_state (cellv xs L 0) (cellv xs L 1) (cellv xs L 2) (cellv xs L 3)) (h_tooth (cellv xs L 0) (cellv xs L 1) (cellv xs L 2) (cellv xs L 3)) (h_turn (cellv xs L 0) (cellv xs L 1) (cellv xs L 2) (cellv xs L 3)) (h_unit (cellv xs L 0) (cellv xs L 1) (cellv xs L 2) (cellv xs L 3)) (h_foretell (cellv xs L 0) (cellv xs L 1) (cellv xs L 2) (cellv xs L 3)) (h_output (cellv xs L 0) (cellv xs L 1) (cellv xs L 2) (cellv xs L 3)) (h_tally (cellv xs L 0) (cellv xs L 1) (cellv xs L 2) (cellv xs L 3)) (h_waiting (cellv xs L 0) (cellv xs L 1) (cellv xs L 2) (cellv xs L 3)) (h_running (cellv xs L 0) (cellv xs L 1) (cellv xs L 2) (cellv xs L 3)) (h_skip (cellv xs L 0) (cellv xs L 1) (cellv xs L 2) (cellv xs L 3)) (fun ls H locs hS => ?_) 520 0 tmI whI agI pnI chI chI slI shI mwI mpI meI moI msI rfl (h_0 (cellv xs L 0) (cellv xs L 1) (cellv xs L 2) (cellv xs L 3)) ls H _ hl hP hD hS
  refine lv_iconst (v := (1 : Int32)) hx hb dL_law_638 (by decide) ?_
  refine va_forget (fun q h => by have := hS.2.2 q h; rw [hAe] at this; exact this) ?_
  refine W.widen (k := 600000) (n := 7302250) (Nat.le_of_ble_eq_true rfl) (Nat.le_of_ble_eq_true rfl) ?_
  exact lw_ret hx hb hr hlk dL_law_639

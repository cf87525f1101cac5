def fM_angle (k : Nat) (mc : McT) (mw : MwT) (mp : MpT) (me : MeT) (mo : MoT) (ms : MsT) : Int32 :=
  (64 : Int32) * ((mw.2.2.2.2.2.2.1 * (mc.1 + (3 : Int32))) + mw.2.2.2.2.2.1)
set_option maxRecDepth 100000 in
set_option maxHeartbeats 4000000 in
theorem ctM_angle (l : Launch) (D : va_G) (cZ cI cJ : ClassId) (tL tH : Nat) (sz : Nat) (bd : Nat → Nat) (k : Nat) (mc : McT) (mw : MwT) (mp : MpT) (me : MeT) (mo : MoT) (ms : MsT)  (hk : 0 < k ∧ k ≤ 6) : Ct l yM_angle wM_angle ({ frames := 0, cells := 0, slots := 0, locals := 0 }) D (tyG cZ cI cJ) tL tH [.ref (bd 0)] sz [cMd bd k mc mw me mo, cIa cI (bd 1) 128 mp, cZa cZ (bd 2) 30 me.1, cJa cJ (bd 3) 30 me.2.1, cIa cI (bd 4) 30 me.2.2.1, cZa cZ (bd 5) 6 mo.1, cZa cZ (bd 6) 6 mo.2.1, cZa cZ (bd 7) 2 ms.1, cIa cI (bd 8) 2 ms.2.1, cZa cZ (bd 9) 2 ms.2.2.1, cIa cI (bd 10) 2 ms.2.2.2.1, cIa cI (bd 11) 2 ms.2.2.2.2.1, cZa cZ (bd 12) 2 ms.2.2.2.2.2.1, cJa cJ (bd 13) 6 ms.2.2.2.2.2.2, cJa cJ (bd 14) 16 mo.2.2.1] (fun _ : Unit => some (.int (fM_angle k mc mw mp me mo ms))) (fun _ : Unit => [cMd bd k mc mw me mo, cIa cI (bd 1) 128 mp, cZa cZ (bd 2) 30 me.1, cJa cJ (bd 3) 30 me.2.1, cIa cI (bd 4) 30 me.2.2.1, cZa cZ (bd 5) 6 mo.1, cZa cZ (bd 6) 6 mo.2.1, cZa cZ (bd 7) 2 ms.1, cIa cI (bd 8) 2 ms.2.1, cZa cZ (bd 9) 2 ms.2.2.1, cIa cI (bd 10) 2 ms.2.2.2.1, cIa cI (bd 11) 2 ms.2.2.2.2.1, cZa cZ (bd 12) 2 ms.2.2.2.2.2.1, cJa cJ (bd 13) 6 ms.2.2.2.2.2.2, cJa cJ (bd 14) 16 mo.2.2.1]) 0 0 := by
  refine k_go (by decide +kernel) (Nat.le_of_ble_eq_true rfl) ?_
  intro p e s m args below meth c A ls H hx hb hr hml hts hown hlk hnm hK hN hT hA hS hP hD hl
  have hown : s.vm.findClass "ToothWheelTimerModel" = some m.cls := hown
  have hlk : meth.locks = false := hlk
  have hl : lv_has ls 1 [(0, .ref (bd 0))] := hl
  refine lv_bipush (v := (64 : Int32)) hx hb dM_angle_0 (by decide) ?_
  refine lv_aload_n hx hb dM_angle_2 rfl (lv_at hl 0 rfl) ?_
  refine gfM_7 hx hb hts hown hN hK hP 0 rfl (v := .int mw.2.2.2.2.2.2.1) rfl dM_angle_3 ?_
  refine lv_aload_n hx hb dM_angle_6 rfl (lv_at hl 0 rfl) ?_
  refine gfM_62 hx hb hts hown hN hK hP 0 rfl (v := .int mc.1) rfl dM_angle_7 ?_
  refine lv_iconst (v := (3 : Int32)) hx hb dM_angle_10 (by decide) ?_
  refine lv_iadd hx hb dM_angle_11 ?_
  refine lv_imul hx hb dM_angle_12 ?_
  refine lv_aload_n hx hb dM_angle_13 rfl (lv_at hl 0 rfl) ?_
  refine gfM_171 hx hb hts hown hN hK hP 0 rfl (v := .int mw.2.2.2.2.2.1) rfl dM_angle_14 ?_
  refine lv_iadd hx hb dM_angle_17 ?_
  refine lv_imul hx hb dM_angle_18 ?_
  exact k_iret hx hb hr hlk hP hD hS dM_angle_19 () rfl rfl

def fM_far_l2 (k : Nat) (mc : McT) (mw : MwT) (mp : MpT) (me : MeT) (mo : MoT) (ms : MsT) (an : Int32) : Nat → Nat → Int32 → Int32
  | 0, j, de =>
    de
  | fuel + 1, j, de =>
    if de < mc.2.2.2 then
      de
    else
      fM_far_l2 k mc mw mp me mo ms an fuel (j + 1) (de - mc.2.2.2)
def fM_far_l1 (k : Nat) (mc : McT) (mw : MwT) (mp : MpT) (me : MeT) (mo : MoT) (ms : MsT) (an : Int32) : Nat → Nat → Int32 → Int32
  | 0, i, dd =>
    fM_far_l2 k mc mw mp me mo ms an 10 0 dd
  | fuel + 1, i, dd =>
    if 0 ≤ dd then
      fM_far_l2 k mc mw mp me mo ms an 10 0 dd
    else
      fM_far_l1 k mc mw mp me mo ms an fuel (i + 1) (dd + mc.2.2.2)
def fM_far (k : Nat) (mc : McT) (mw : MwT) (mp : MpT) (me : MeT) (mo : MoT) (ms : MsT) (an : Int32) : Int32 :=
  let q1 := fM_angle k mc mw mp me mo ms
  fM_far_l1 k mc mw mp me mo ms an 10 0 (an - q1)
set_option maxRecDepth 100000 in
set_option maxHeartbeats 4000000 in
theorem ctM_far (l : Launch) (D : va_G) (cZ cI cJ : ClassId) (tL tH : Nat) (sz : Nat) (bd : Nat → Nat) (k : Nat) (mc : McT) (mw : MwT) (mp : MpT) (me : MeT) (mo : MoT) (ms : MsT) (an : Int32)  (hk : 0 < k ∧ k ≤ 6) : Ct l yM_far wM_far ({ frames := 1, cells := 0, slots := 0, locals := 20 }) D (tyG cZ cI cJ) tL tH [.ref (bd 0), .int an] sz [cMd bd k mc mw me mo, cIa cI (bd 1) 128 mp, cZa cZ (bd 2) 30 me.1, cJa cJ (bd 3) 30 me.2.1, cIa cI (bd 4) 30 me.2.2.1, cZa cZ (bd 5) 6 mo.1, cZa cZ (bd 6) 6 mo.2.1, cZa cZ (bd 7) 2 ms.1, cIa cI (bd 8) 2 ms.2.1, cZa cZ (bd 9) 2 ms.2.2.1, cIa cI (bd 10) 2 ms.2.2.2.1, cIa cI (bd 11) 2 ms.2.2.2.2.1, cZa cZ (bd 12) 2 ms.2.2.2.2.2.1, cJa cJ (bd 13) 6 ms.2.2.2.2.2.2, cJa cJ (bd 14) 16 mo.2.2.1] (fun _ : Unit => some (.int (fM_far k mc mw mp me mo ms an))) (fun _ : Unit => [cMd bd k mc mw me mo, cIa cI (bd 1) 128 mp, cZa cZ (bd 2) 30 me.1, cJa cJ (bd 3) 30 me.2.1, cIa cI (bd 4) 30 me.2.2.1, cZa cZ (bd 5) 6 mo.1, cZa cZ (bd 6) 6 mo.2.1, cZa cZ (bd 7) 2 ms.1, cIa cI (bd 8) 2 ms.2.1, cZa cZ (bd 9) 2 ms.2.2.1, cIa cI (bd 10) 2 ms.2.2.2.1, cIa cI (bd 11) 2 ms.2.2.2.2.1, cZa cZ (bd 12) 2 ms.2.2.2.2.2.1, cJa cJ (bd 13) 6 ms.2.2.2.2.2.2, cJa cJ (bd 14) 16 mo.2.2.1]) 0 0 := by
  refine k_go (by decide +kernel) (Nat.le_of_ble_eq_true rfl) ?_
  intro p e s m args below meth c A ls H hx hb hr hml hts hown hlk hnm hK hN hT hA hS hP hD hl
  have hown : s.vm.findClass "ToothWheelTimerModel" = some m.cls := hown
  have hlk : meth.locks = false := hlk
  have hl : lv_has ls 4 [(0, .ref (bd 0)), (1, .int an)] := hl
  refine lv_iload_n hx hb dM_far_0 rfl (lv_at hl 1 rfl) ?_
  refine lv_aload_n hx hb dM_far_1 rfl (lv_at hl 0 rfl) ?_
  refine k_ca0 (wc := [cMd bd k mc mw me mo, cIa cI (bd 1) 128 mp, cZa cZ (bd 2) 30 me.1, cJa cJ (bd 3) 30 me.2.1, cIa cI (bd 4) 30 me.2.2.1, cZa cZ (bd 5) 6 mo.1, cZa cZ (bd 6) 6 mo.2.1, cZa cZ (bd 7) 2 ms.1, cIa cI (bd 8) 2 ms.2.1, cZa cZ (bd 9) 2 ms.2.2.1, cIa cI (bd 10) 2 ms.2.2.2.1, cIa cI (bd 11) 2 ms.2.2.2.2.1, cZa cZ (bd 12) 2 ms.2.2.2.2.2.1, cJa cJ (bd 13) 6 ms.2.2.2.2.2.2, cJa cJ (bd 14) 16 mo.2.2.1]) (wr := []) (va_runV (As := []) (rest := [.int an]) ⟨hx, hb, hml, hown, hts⟩ (ctM_angle l D cZ cI cJ tL tH H.size bd k mc mw mp me mo ms hk) (cwM_194 hts hN rfl rfl ⟨Nat.le_of_ble_eq_true rfl, Nat.le_of_ble_eq_true rfl⟩) (k_preV hK hN hT hA hS hP hD [0, 1, 2, 3, 4, 5, 6, 7, 8, 9, 10, 11, 12, 13, 14] rfl (by decide) 0 rfl rfl) rfl rfl hl.1 rfl (lv_room (Nat.le_of_ble_eq_true rfl)) dM_far_2 ⟨Nat.zero_le _, Nat.zero_le _⟩) hP hD hS hA [0, 1, 2, 3, 4, 5, 6, 7, 8, 9, 10, 11, 12, 13, 14] [] rfl rfl (by decide) (by decide) (fun _ H locs hP hD hS => ?_)
  refine W.eq (g2 := F0 m 5 ls [.int (fM_angle k mc mw mp me mo ms), .int an]) rfl ?_
  have hP : va_P D vwCl [cMd bd k mc mw me mo, cIa cI (bd 1) 128 mp, cZa cZ (bd 2) 30 me.1, cJa cJ (bd 3) 30 me.2.1, cIa cI (bd 4) 30 me.2.2.1, cZa cZ (bd 5) 6 mo.1, cZa cZ (bd 6) 6 mo.2.1, cZa cZ (bd 7) 2 ms.1, cIa cI (bd 8) 2 ms.2.1, cZa cZ (bd 9) 2 ms.2.2.1, cIa cI (bd 10) 2 ms.2.2.2.1, cIa cI (bd 11) 2 ms.2.2.2.2.1, cZa cZ (bd 12) 2 ms.2.2.2.2.2.1, cJa cJ (bd 13) 6 ms.2.2.2.2.2.2, cJa cJ (bd 14) 16 mo.2.2.1] H := hP
  have hD : va_D A [cMd bd k mc mw me mo, cIa cI (bd 1) 128 mp, cZa cZ (bd 2) 30 me.1, cJa cJ (bd 3) 30 me.2.1, cIa cI (bd 4) 30 me.2.2.1, cZa cZ (bd 5) 6 mo.1, cZa cZ (bd 6) 6 mo.2.1, cZa cZ (bd 7) 2 ms.1, cIa cI (bd 8) 2 ms.2.1, cZa cZ (bd 9) 2 ms.2.2.1, cIa cI (bd 10) 2 ms.2.2.2.1, cIa cI (bd 11) 2 ms.2.2.2.2.1, cZa cZ (bd 12) 2 ms.2.2.2.2.2.1, cJa cJ (bd 13) 6 ms.2.2.2.2.2.2, cJa cJ (bd 14) 16 mo.2.2.1] := hD
  generalize hq1 : fM_angle k mc mw mp me mo ms = q1 at ⊢
  refine lv_isub hx hb dM_far_5 ?_
  refine lv_istore_n (lv' := [(2, .int (an - q1)), (0, .ref (bd 0)), (1, .int an)]) hx hb dM_far_6 rfl hl (by decide) rfl (fun ls hl => ?_)
  refine lv_iconst (v := (0 : Int32)) hx hb dM_far_7 (by decide) ?_
  refine lv_istore_n (lv' := [(3, .int (0 : Int32)), (2, .int (an - q1)), (0, .ref (bd 0)), (1, .int an)]) hx hb dM_far_8 rfl hl (by decide) rfl (fun ls hl => ?_)
  have hl := lv_sub (l' := [(3, .int (0 : Int32)), (2, .int (an - q1)), (0, .ref (bd 0)), (1, .int an)]) hl [0, 1, 2, 3] rfl
  have LOOP9 : ∀ (fuel : Nat) (i : Nat) (dd : Int32) , ∀ (ls : Array Slot) (H : Heap) (locs : List Loc), fuel + i = 10 → fM_far k mc mw mp me mo ms an = fM_far_l1 k mc mw mp me mo ms an fuel i dd  → lv_has ls 4 [(3, .int (nI i)), (2, .int dd), (0, .ref (bd 0)), (1, .int an)] → va_P D vwCl [cMd bd k mc mw me mo, cIa cI (bd 1) 128 mp, cZa cZ (bd 2) 30 me.1, cJa cJ (bd 3) 30 me.2.1, cIa cI (bd 4) 30 me.2.2.1, cZa cZ (bd 5) 6 mo.1, cZa cZ (bd 6) 6 mo.2.1, cZa cZ (bd 7) 2 ms.1, cIa cI (bd 8) 2 ms.2.1, cZa cZ (bd 9) 2 ms.2.2.1, cIa cI (bd 10) 2 ms.2.2.2.1, cIa cI (bd 11) 2 ms.2.2.2.2.1, cZa cZ (bd 12) 2 ms.2.2.2.2.2.1, cJa cJ (bd 13) 6 ms.2.2.2.2.2.2, cJa cJ (bd 14) 16 mo.2.2.1] H → va_D A [cMd bd k mc mw me mo, cIa cI (bd 1) 128 mp, cZa cZ (bd 2) 30 me.1, cJa cJ (bd 3) 30 me.2.1, cIa cI (bd 4) 30 me.2.2.1, cZa cZ (bd 5) 6 mo.1, cZa cZ (bd 6) 6 mo.2.1, cZa cZ (bd 7) 2 ms.1, cIa cI (bd 8) 2 ms.2.1, cZa cZ (bd 9) 2 ms.2.2.1, cIa cI (bd 10) 2 ms.2.2.2.1, cIa cI (bd 11) 2 ms.2.2.2.2.1, cZa cZ (bd 12) 2 ms.2.2.2.2.2.1, cJa cJ (bd 13) 6 ms.2.2.2.2.2.2, cJa cJ (bd 14) 16 mo.2.2.1] → va_S A s.heap H locs → W p l e { frames := 1, cells := 0, slots := 0, locals := 20 } s m args below meth c H locs 0 0 (MQ below (QX A D (fun _ : Unit => some (.int (fM_far k mc mw mp me mo ms an))) (fun _ : Unit => [cMd bd k mc mw me mo, cIa cI (bd 1) 128 mp, cZa cZ (bd 2) 30 me.1, cJa cJ (bd 3) 30 me.2.1, cIa cI (bd 4) 30 me.2.2.1, cZa cZ (bd 5) 6 mo.1, cZa cZ (bd 6) 6 mo.2.1, cZa cZ (bd 7) 2 ms.1, cIa cI (bd 8) 2 ms.2.1, cZa cZ (bd 9) 2 ms.2.2.1, cIa cI (bd 10) 2 ms.2.2.2.1, cIa cI (bd 11) 2 ms.2.2.2.2.1, cZa cZ (bd 12) 2 ms.2.2.2.2.2.1, cJa cJ (bd 13) 6 ms.2.2.2.2.2.2, cJa cJ (bd 14) 16 mo.2.2.1])) args s 0 0 A) (F0 m 9 ls []) := by
    intro fuel
    induction fuel with
    | zero =>
      intro i dd   ls H locs hm hres hl hP hD hS
      refine lv_iload_n hx hb dM_far_9 rfl (lv_at hl 0 rfl) ?_
      refine lv_bipush (v := (10 : Int32)) hx hb dM_far_10 (by decide) ?_
      refine lv_icmp_ge (tgt := 32) hx hb dM_far_12 (by decide) (fun _ => ?_) (fun h0 => absurd (nI_le (a := 10) (b := i) (by omega) (by omega)) h0)
      refine lv_iconst (v := (0 : Int32)) hx hb dM_far_32 (by decide) ?_
      refine lv_istore_n (lv' := [(3, .int (0 : Int32)), (2, .int dd), (0, .ref (bd 0)), (1, .int an)]) hx hb dM_far_33 rfl hl (by decide) rfl (fun ls hl => ?_)
      have hl := lv_sub (l' := [(3, .int (0 : Int32)), (2, .int dd), (0, .ref (bd 0)), (1, .int an)]) hl [0, 1, 2, 3] rfl
      have LOOP34 : ∀ (fuel : Nat) (j : Nat) (de : Int32) , ∀ (ls : Array Slot) (H : Heap) (locs : List Loc), fuel + j = 10 → fM_far k mc mw mp me mo ms an = fM_far_l2 k mc mw mp me mo ms an fuel j de  → lv_has ls 4 [(3, .int (nI j)), (2, .int de), (0, .ref (bd 0)), (1, .int an)] → va_P D vwCl [cMd bd k mc mw me mo, cIa cI (bd 1) 128 mp, cZa cZ (bd 2) 30 me.1, cJa cJ (bd 3) 30 me.2.1, cIa cI (bd 4) 30 me.2.2.1, cZa cZ (bd 5) 6 mo.1, cZa cZ (bd 6) 6 mo.2.1, cZa cZ (bd 7) 2 ms.1, cIa cI (bd 8) 2 ms.2.1, cZa cZ (bd 9) 2 ms.2.2.1, cIa cI (bd 10) 2 ms.2.2.2.1, cIa cI (bd 11) 2 ms.2.2.2.2.1, cZa cZ (bd 12) 2 ms.2.2.2.2.2.1, cJa cJ (bd 13) 6 ms.2.2.2.2.2.2, cJa cJ (bd 14) 16 mo.2.2.1] H → va_D A [cMd bd k mc mw me mo, cIa cI (bd 1) 128 mp, cZa cZ (bd 2) 30 me.1, cJa cJ (bd 3) 30 me.2.1, cIa cI (bd 4) 30 me.2.2.1, cZa cZ (bd 5) 6 mo.1, cZa cZ (bd 6) 6 mo.2.1, cZa cZ (bd 7) 2 ms.1, cIa cI (bd 8) 2 ms.2.1, cZa cZ (bd 9) 2 ms.2.2.1, cIa cI (bd 10) 2 ms.2.2.2.1, cIa cI (bd 11) 2 ms.2.2.2.2.1, cZa cZ (bd 12) 2 ms.2.2.2.2.2.1, cJa cJ (bd 13) 6 ms.2.2.2.2.2.2, cJa cJ (bd 14) 16 mo.2.2.1] → va_S A s.heap H locs → W p l e { frames := 1, cells := 0, slots := 0, locals := 20 } s m args below meth c H locs 0 0 (MQ below (QX A D (fun _ : Unit => some (.int (fM_far k mc mw mp me mo ms an))) (fun _ : Unit => [cMd bd k mc mw me mo, cIa cI (bd 1) 128 mp, cZa cZ (bd 2) 30 me.1, cJa cJ (bd 3) 30 me.2.1, cIa cI (bd 4) 30 me.2.2.1, cZa cZ (bd 5) 6 mo.1, cZa cZ (bd 6) 6 mo.2.1, cZa cZ (bd 7) 2 ms.1, cIa cI (bd 8) 2 ms.2.1, cZa cZ (bd 9) 2 ms.2.2.1, cIa cI (bd 10) 2 ms.2.2.2.1, cIa cI (bd 11) 2 ms.2.2.2.2.1, cZa cZ (bd 12) 2 ms.2.2.2.2.2.1, cJa cJ (bd 13) 6 ms.2.2.2.2.2.2, cJa cJ (bd 14) 16 mo.2.2.1])) args s 0 0 A) (F0 m 34 ls []) := by
        intro fuel
        induction fuel with
        | zero =>
          intro j de   ls H locs hm hres hl hP hD hS
          refine lv_iload_n hx hb dM_far_34 rfl (lv_at hl 0 rfl) ?_
          refine lv_bipush (v := (10 : Int32)) hx hb dM_far_35 (by decide) ?_
          refine lv_icmp_ge (tgt := 61) hx hb dM_far_37 (by decide) (fun _ => ?_) (fun h0 => absurd (nI_le (a := 10) (b := j) (by omega) (by omega)) h0)
          refine lv_iload_n hx hb dM_far_61 rfl (lv_at hl 1 rfl) ?_
          exact k_iret hx hb hr hlk hP hD hS dM_far_62 () (by simp only [hres, fM_far_l2]) rfl
        | succ fuel ih =>
          intro j de   ls H locs hm hres hl hP hD hS
          refine lv_iload_n hx hb dM_far_34 rfl (lv_at hl 0 rfl) ?_
          refine lv_bipush (v := (10 : Int32)) hx hb dM_far_35 (by decide) ?_
          refine lv_icmp_ge (tgt := 61) hx hb dM_far_37 (by decide) (fun h0 => absurd h0 (nI_ge (a := j) (b := 10) (by omega) (by omega))) (fun _ => ?_)
          refine lv_iload_n hx hb dM_far_40 rfl (lv_at hl 1 rfl) ?_
          refine lv_aload_n hx hb dM_far_41 rfl (lv_at hl 2 rfl) ?_
          refine gfM_65 hx hb hts hown hN hK hP 0 rfl (v := .int mc.2.2.2) rfl dM_far_42 ?_
          refine lv_icmp_lt (tgt := 61) hx hb dM_far_45 (by decide) (fun h1001 => ?_) (fun h1001 => ?_)
          · -- taken at 45
            refine lv_iload_n hx hb dM_far_61 rfl (lv_at hl 1 rfl) ?_
            exact k_iret hx hb hr hlk hP hD hS dM_far_62 () (by simp only [hres, fM_far_l2, if_pos h1001]) rfl
          · -- not taken at 45
            refine lv_iload_n hx hb dM_far_48 rfl (lv_at hl 1 rfl) ?_
            refine lv_aload_n hx hb dM_far_49 rfl (lv_at hl 2 rfl) ?_
            refine gfM_65 hx hb hts hown hN hK hP 0 rfl (v := .int mc.2.2.2) rfl dM_far_50 ?_
            refine lv_isub hx hb dM_far_53 ?_
            refine lv_istore_n (lv' := [(2, .int (de - mc.2.2.2)), (3, .int (nI j)), (0, .ref (bd 0)), (1, .int an)]) hx hb dM_far_54 rfl hl (by decide) rfl (fun ls hl => ?_)
            refine lv_iinc (k := 1) (v := nI (j + 1)) (lv' := [(3, .int (nI (j + 1))), (2, .int (de - mc.2.2.2)), (0, .ref (bd 0)), (1, .int an)]) hx hb dM_far_55 hl rfl (nI_1 j) (by decide) rfl (fun ls hl => ?_)
            refine lv_goto (tgt := 34) hx hb dM_far_58 (by decide) ?_
            have hl := lv_sub (l' := [(3, .int (nI (j + 1))), (2, .int (de - mc.2.2.2)), (0, .ref (bd 0)), (1, .int an)]) hl [0, 1, 2, 3] rfl
            exact ih (j + 1) (de - mc.2.2.2)  ls H _ (by omega) (by simp only [hres, fM_far_l2, if_neg h1001]) hl hP hD hS
      exact LOOP34 10 0 dd  ls H _ (by omega) (by simp only [hres, fM_far_l1]) hl hP hD hS
    | succ fuel ih =>
      intro i dd   ls H locs hm hres hl hP hD hS
      refine lv_iload_n hx hb dM_far_9 rfl (lv_at hl 0 rfl) ?_
      refine lv_bipush (v := (10 : Int32)) hx hb dM_far_10 (by decide) ?_
      refine lv_icmp_ge (tgt := 32) hx hb dM_far_12 (by decide) (fun h0 => absurd h0 (nI_ge (a := i) (b := 10) (by omega) (by omega))) (fun _ => ?_)
      refine lv_iload_n hx hb dM_far_15 rfl (lv_at hl 1 rfl) ?_
      refine lv_if_ge (tgt := 32) hx hb dM_far_16 (by decide) (fun h1001 => ?_) (fun h1001 => ?_)
      · -- taken at 16
        refine lv_iconst (v := (0 : Int32)) hx hb dM_far_32 (by decide) ?_
        refine lv_istore_n (lv' := [(3, .int (0 : Int32)), (2, .int dd), (0, .ref (bd 0)), (1, .int an)]) hx hb dM_far_33 rfl hl (by decide) rfl (fun ls hl => ?_)
        have hl := lv_sub (l' := [(3, .int (0 : Int32)), (2, .int dd), (0, .ref (bd 0)), (1, .int an)]) hl [0, 1, 2, 3] rfl
        have LOOP34 : ∀ (fuel : Nat) (j : Nat) (de : Int32) , ∀ (ls : Array Slot) (H : Heap) (locs : List Loc), fuel + j = 10 → fM_far k mc mw mp me mo ms an = fM_far_l2 k mc mw mp me mo ms an fuel j de  → lv_has ls 4 [(3, .int (nI j)), (2, .int de), (0, .ref (bd 0)), (1, .int an)] → va_P D vwCl [cMd bd k mc mw me mo, cIa cI (bd 1) 128 mp, cZa cZ (bd 2) 30 me.1, cJa cJ (bd 3) 30 me.2.1, cIa cI (bd 4) 30 me.2.2.1, cZa cZ (bd 5) 6 mo.1, cZa cZ (bd 6) 6 mo.2.1, cZa cZ (bd 7) 2 ms.1, cIa cI (bd 8) 2 ms.2.1, cZa cZ (bd 9) 2 ms.2.2.1, cIa cI (bd 10) 2 ms.2.2.2.1, cIa cI (bd 11) 2 ms.2.2.2.2.1, cZa cZ (bd 12) 2 ms.2.2.2.2.2.1, cJa cJ (bd 13) 6 ms.2.2.2.2.2.2, cJa cJ (bd 14) 16 mo.2.2.1] H → va_D A [cMd bd k mc mw me mo, cIa cI (bd 1) 128 mp, cZa cZ (bd 2) 30 me.1, cJa cJ (bd 3) 30 me.2.1, cIa cI (bd 4) 30 me.2.2.1, cZa cZ (bd 5) 6 mo.1, cZa cZ (bd 6) 6 mo.2.1, cZa cZ (bd 7) 2 ms.1, cIa cI (bd 8) 2 ms.2.1, cZa cZ (bd 9) 2 ms.2.2.1, cIa cI (bd 10) 2 ms.2.2.2.1, cIa cI (bd 11) 2 ms.2.2.2.2.1, cZa cZ (bd 12) 2 ms.2.2.2.2.2.1, cJa cJ (bd 13) 6 ms.2.2.2.2.2.2, cJa cJ (bd 14) 16 mo.2.2.1] → va_S A s.heap H locs → W p l e { frames := 1, cells := 0, slots := 0, locals := 20 } s m args below meth c H locs 0 0 (MQ below (QX A D (fun _ : Unit => some (.int (fM_far k mc mw mp me mo ms an))) (fun _ : Unit => [cMd bd k mc mw me mo, cIa cI (bd 1) 128 mp, cZa cZ (bd 2) 30 me.1, cJa cJ (bd 3) 30 me.2.1, cIa cI (bd 4) 30 me.2.2.1, cZa cZ (bd 5) 6 mo.1, cZa cZ (bd 6) 6 mo.2.1, cZa cZ (bd 7) 2 ms.1, cIa cI (bd 8) 2 ms.2.1, cZa cZ (bd 9) 2 ms.2.2.1, cIa cI (bd 10) 2 ms.2.2.2.1, cIa cI (bd 11) 2 ms.2.2.2.2.1, cZa cZ (bd 12) 2 ms.2.2.2.2.2.1, cJa cJ (bd 13) 6 ms.2.2.2.2.2.2, cJa cJ (bd 14) 16 mo.2.2.1])) args s 0 0 A) (F0 m 34 ls []) := by
          intro fuel
          induction fuel with
          | zero =>
            intro j de   ls H locs hm hres hl hP hD hS
            refine lv_iload_n hx hb dM_far_34 rfl (lv_at hl 0 rfl) ?_
            refine lv_bipush (v := (10 : Int32)) hx hb dM_far_35 (by decide) ?_
            refine lv_icmp_ge (tgt := 61) hx hb dM_far_37 (by decide) (fun _ => ?_) (fun h0 => absurd (nI_le (a := 10) (b := j) (by omega) (by omega)) h0)
            refine lv_iload_n hx hb dM_far_61 rfl (lv_at hl 1 rfl) ?_
            exact k_iret hx hb hr hlk hP hD hS dM_far_62 () (by simp only [hres, fM_far_l2]) rfl
          | succ fuel ih =>
            intro j de   ls H locs hm hres hl hP hD hS
            refine lv_iload_n hx hb dM_far_34 rfl (lv_at hl 0 rfl) ?_
            refine lv_bipush (v := (10 : Int32)) hx hb dM_far_35 (by decide) ?_
            refine lv_icmp_ge (tgt := 61) hx hb dM_far_37 (by decide) (fun h0 => absurd h0 (nI_ge (a := j) (b := 10) (by omega) (by omega))) (fun _ => ?_)
            refine lv_iload_n hx hb dM_far_40 rfl (lv_at hl 1 rfl) ?_
            refine lv_aload_n hx hb dM_far_41 rfl (lv_at hl 2 rfl) ?_
            refine gfM_65 hx hb hts hown hN hK hP 0 rfl (v := .int mc.2.2.2) rfl dM_far_42 ?_
            refine lv_icmp_lt (tgt := 61) hx hb dM_far_45 (by decide) (fun h1001 => ?_) (fun h1001 => ?_)
            · -- taken at 45
              refine lv_iload_n hx hb dM_far_61 rfl (lv_at hl 1 rfl) ?_
              exact k_iret hx hb hr hlk hP hD hS dM_far_62 () (by simp only [hres, fM_far_l2, if_pos h1001]) rfl
            · -- not taken at 45
              refine lv_iload_n hx hb dM_far_48 rfl (lv_at hl 1 rfl) ?_
              refine lv_aload_n hx hb dM_far_49 rfl (lv_at hl 2 rfl) ?_
              refine gfM_65 hx hb hts hown hN hK hP 0 rfl (v := .int mc.2.2.2) rfl dM_far_50 ?_
              refine lv_isub hx hb dM_far_53 ?_
              refine lv_istore_n (lv' := [(2, .int (de - mc.2.2.2)), (3, .int (nI j)), (0, .ref (bd 0)), (1, .int an)]) hx hb dM_far_54 rfl hl (by decide) rfl (fun ls hl => ?_)
              refine lv_iinc (k := 1) (v := nI (j + 1)) (lv' := [(3, .int (nI (j + 1))), (2, .int (de - mc.2.2.2)), (0, .ref (bd 0)), (1, .int an)]) hx hb dM_far_55 hl rfl (nI_1 j) (by decide) rfl (fun ls hl => ?_)
              refine lv_goto (tgt := 34) hx hb dM_far_58 (by decide) ?_
              have hl := lv_sub (l' := [(3, .int (nI (j + 1))), (2, .int (de - mc.2.2.2)), (0, .ref (bd 0)), (1, .int an)]) hl [0, 1, 2, 3] rfl
              exact ih (j + 1) (de - mc.2.2.2)  ls H _ (by omega) (by simp only [hres, fM_far_l2, if_neg h1001]) hl hP hD hS
        exact LOOP34 10 0 dd  ls H _ (by omega) (by simp only [hres, fM_far_l1, if_pos h1001]) hl hP hD hS
      · -- not taken at 16
        refine lv_iload_n hx hb dM_far_19 rfl (lv_at hl 1 rfl) ?_
        refine lv_aload_n hx hb dM_far_20 rfl (lv_at hl 2 rfl) ?_
        refine gfM_65 hx hb hts hown hN hK hP 0 rfl (v := .int mc.2.2.2) rfl dM_far_21 ?_
        refine lv_iadd hx hb dM_far_24 ?_
        refine lv_istore_n (lv' := [(2, .int (dd + mc.2.2.2)), (3, .int (nI i)), (0, .ref (bd 0)), (1, .int an)]) hx hb dM_far_25 rfl hl (by decide) rfl (fun ls hl => ?_)
        refine lv_iinc (k := 1) (v := nI (i + 1)) (lv' := [(3, .int (nI (i + 1))), (2, .int (dd + mc.2.2.2)), (0, .ref (bd 0)), (1, .int an)]) hx hb dM_far_26 hl rfl (nI_1 i) (by decide) rfl (fun ls hl => ?_)
        refine lv_goto (tgt := 9) hx hb dM_far_29 (by decide) ?_
        have hl := lv_sub (l' := [(3, .int (nI (i + 1))), (2, .int (dd + mc.2.2.2)), (0, .ref (bd 0)), (1, .int an)]) hl [0, 1, 2, 3] rfl
        exact ih (i + 1) (dd + mc.2.2.2)  ls H _ (by omega) (by simp only [hres, fM_far_l1, if_neg h1001]) hl hP hD hS
  exact LOOP9 10 0 (an - q1)  ls H _ (by omega) (by simp only [fM_far, hq1]) hl hP hD hS

def fM_planIfNear (k : Nat) (mc : McT) (mw : MwT) (mp : MpT) (me : MeT) (mo : MoT) (ms : MsT) (ki : Nat) (cy : Nat) (at_ : Int32) : MeT :=
  let q1 := fM_far k mc mw mp me mo ms at_
  if mw.2.2.2.2.2.1 = mc.1 then
    if (192 : Int32) ≤ q1 then
      me
    else
      let q6 := fM_plan k mc mw mp me mo ms ki cy (mw.1 + ((q1.toInt64 * mw.2.2.2.1) / (64 : Int64)))
      q6
  else
    if (64 : Int32) ≤ q1 then
      me
    else
      let q4 := fM_plan k mc mw mp me mo ms ki cy (mw.1 + ((q1.toInt64 * mw.2.2.2.1) / (64 : Int64)))
      q4
set_option maxRecDepth 100000 in
set_option maxHeartbeats 4000000 in
theorem ctM_planIfNear (l : Launch) (D : va_G) (cZ cI cJ : ClassId) (tL tH : Nat) (sz : Nat) (bd : Nat → Nat) (k : Nat) (mc : McT) (mw : MwT) (mp : MpT) (me : MeT) (mo : MoT) (ms : MsT) (ki : Nat) (cy : Nat) (at_ : Int32)  (hk : 0 < k ∧ k ≤ 6) (hi : 6 * ki + cy < 30) : Ct l yM_planIfNear wM_planIfNear ({ frames := 2, cells := 0, slots := 0, locals := 43 }) D (tyG cZ cI cJ) tL tH [.ref (bd 0), .int (nI ki), .int (nI cy), .int at_] sz [cMd bd k mc mw me mo, cIa cI (bd 1) 128 mp, cZa cZ (bd 2) 30 me.1, cJa cJ (bd 3) 30 me.2.1, cIa cI (bd 4) 30 me.2.2.1, cZa cZ (bd 5) 6 mo.1, cZa cZ (bd 6) 6 mo.2.1, cZa cZ (bd 7) 2 ms.1, cIa cI (bd 8) 2 ms.2.1, cZa cZ (bd 9) 2 ms.2.2.1, cIa cI (bd 10) 2 ms.2.2.2.1, cIa cI (bd 11) 2 ms.2.2.2.2.1, cZa cZ (bd 12) 2 ms.2.2.2.2.2.1, cJa cJ (bd 13) 6 ms.2.2.2.2.2.2, cJa cJ (bd 14) 16 mo.2.2.1] (fun _ : Unit => none) (fun _ : Unit => [cMd bd k mc mw (fM_planIfNear k mc mw mp me mo ms ki cy at_) mo, cIa cI (bd 1) 128 mp, cZa cZ (bd 2) 30 ((fM_planIfNear k mc mw mp me mo ms ki cy at_).1), cJa cJ (bd 3) 30 ((fM_planIfNear k mc mw mp me mo ms ki cy at_).2.1), cIa cI (bd 4) 30 ((fM_planIfNear k mc mw mp me mo ms ki cy at_).2.2.1), cZa cZ (bd 5) 6 mo.1, cZa cZ (bd 6) 6 mo.2.1, cZa cZ (bd 7) 2 ms.1, cIa cI (bd 8) 2 ms.2.1, cZa cZ (bd 9) 2 ms.2.2.1, cIa cI (bd 10) 2 ms.2.2.2.1, cIa cI (bd 11) 2 ms.2.2.2.2.1, cZa cZ (bd 12) 2 ms.2.2.2.2.2.1, cJa cJ (bd 13) 6 ms.2.2.2.2.2.2, cJa cJ (bd 14) 16 mo.2.2.1]) 0 0 := by
  refine k_go (by decide +kernel) (Nat.le_of_ble_eq_true rfl) ?_
  intro p e s m args below meth c A ls H hx hb hr hml hts hown hlk hnm hK hN hT hA hS hP hD hl
  have hown : s.vm.findClass "ToothWheelTimerModel" = some m.cls := hown
  have hlk : meth.locks = false := hlk
  have hl : lv_has ls 5 [(0, .ref (bd 0)), (1, .int (nI ki)), (2, .int (nI cy)), (3, .int at_)] := hl
  refine lv_aload_n hx hb dM_planIfNear_0 rfl (lv_at hl 0 rfl) ?_
  refine lv_iload_n hx hb dM_planIfNear_1 rfl (lv_at hl 3 rfl) ?_
  refine k_ca0 (wc := [cMd bd k mc mw me mo, cIa cI (bd 1) 128 mp, cZa cZ (bd 2) 30 me.1, cJa cJ (bd 3) 30 me.2.1, cIa cI (bd 4) 30 me.2.2.1, cZa cZ (bd 5) 6 mo.1, cZa cZ (bd 6) 6 mo.2.1, cZa cZ (bd 7) 2 ms.1, cIa cI (bd 8) 2 ms.2.1, cZa cZ (bd 9) 2 ms.2.2.1, cIa cI (bd 10) 2 ms.2.2.2.1, cIa cI (bd 11) 2 ms.2.2.2.2.1, cZa cZ (bd 12) 2 ms.2.2.2.2.2.1, cJa cJ (bd 13) 6 ms.2.2.2.2.2.2, cJa cJ (bd 14) 16 mo.2.2.1]) (wr := []) (va_runV (As := [.int at_]) (rest := []) ⟨hx, hb, hml, hown, hts⟩ (ctM_far l D cZ cI cJ tL tH H.size bd k mc mw mp me mo ms at_ hk) (cwM_197 hts hN rfl rfl ⟨Nat.le_of_ble_eq_true rfl, Nat.le_of_ble_eq_true rfl⟩) (k_preV hK hN hT hA hS hP hD [0, 1, 2, 3, 4, 5, 6, 7, 8, 9, 10, 11, 12, 13, 14] rfl (by decide) 0 rfl rfl) rfl rfl hl.1 rfl (lv_room (Nat.le_of_ble_eq_true rfl)) dM_planIfNear_2 ⟨Nat.zero_le _, Nat.zero_le _⟩) hP hD hS hA [0, 1, 2, 3, 4, 5, 6, 7, 8, 9, 10, 11, 12, 13, 14] [] rfl rfl (by decide) (by decide) (fun _ H locs hP hD hS => ?_)
  refine W.eq (g2 := F0 m 5 ls [.int (fM_far k mc mw mp me mo ms at_)]) rfl ?_
  have hP : va_P D vwCl [cMd bd k mc mw me mo, cIa cI (bd 1) 128 mp, cZa cZ (bd 2) 30 me.1, cJa cJ (bd 3) 30 me.2.1, cIa cI (bd 4) 30 me.2.2.1, cZa cZ (bd 5) 6 mo.1, cZa cZ (bd 6) 6 mo.2.1, cZa cZ (bd 7) 2 ms.1, cIa cI (bd 8) 2 ms.2.1, cZa cZ (bd 9) 2 ms.2.2.1, cIa cI (bd 10) 2 ms.2.2.2.1, cIa cI (bd 11) 2 ms.2.2.2.2.1, cZa cZ (bd 12) 2 ms.2.2.2.2.2.1, cJa cJ (bd 13) 6 ms.2.2.2.2.2.2, cJa cJ (bd 14) 16 mo.2.2.1] H := hP
  have hD : va_D A [cMd bd k mc mw me mo, cIa cI (bd 1) 128 mp, cZa cZ (bd 2) 30 me.1, cJa cJ (bd 3) 30 me.2.1, cIa cI (bd 4) 30 me.2.2.1, cZa cZ (bd 5) 6 mo.1, cZa cZ (bd 6) 6 mo.2.1, cZa cZ (bd 7) 2 ms.1, cIa cI (bd 8) 2 ms.2.1, cZa cZ (bd 9) 2 ms.2.2.1, cIa cI (bd 10) 2 ms.2.2.2.1, cIa cI (bd 11) 2 ms.2.2.2.2.1, cZa cZ (bd 12) 2 ms.2.2.2.2.2.1, cJa cJ (bd 13) 6 ms.2.2.2.2.2.2, cJa cJ (bd 14) 16 mo.2.2.1] := hD
  generalize hq1 : fM_far k mc mw mp me mo ms at_ = q1 at ⊢
  refine lv_istore (lv' := [(4, .int q1), (0, .ref (bd 0)), (1, .int (nI ki)), (2, .int (nI cy)), (3, .int at_)]) hx hb dM_planIfNear_5 hl (by decide) rfl (fun ls hl => ?_)
  refine lv_iload hx hb dM_planIfNear_7 (lv_at hl 0 rfl) ?_
  refine lv_aload_n hx hb dM_planIfNear_9 rfl (lv_at hl 1 rfl) ?_
  refine gfM_171 hx hb hts hown hN hK hP 0 rfl (v := .int mw.2.2.2.2.2.1) rfl dM_planIfNear_10 ?_
  refine lv_aload_n hx hb dM_planIfNear_13 rfl (lv_at hl 1 rfl) ?_
  refine gfM_62 hx hb hts hown hN hK hP 0 rfl (v := .int mc.1) rfl dM_planIfNear_14 ?_
  refine lv_icmp_ne (tgt := 26) hx hb dM_planIfNear_17 (by decide) (fun h2 => ?_) (fun h2 => ?_)
  · -- taken at 17
    refine lv_bipush (v := (64 : Int32)) hx hb dM_planIfNear_26 (by decide) ?_
    refine lv_icmp_ge (tgt := 54) hx hb dM_planIfNear_28 (by decide) (fun h3 => ?_) (fun h3 => ?_)
    · -- taken at 28
      exact k_vret hx hb hr hlk hP hD hS dM_planIfNear_54 () rfl (by simp only [fM_planIfNear, hq1, if_neg h2, if_pos h3])
    · -- not taken at 28
      refine lv_aload_n hx hb dM_planIfNear_31 rfl (lv_at hl 1 rfl) ?_
      refine lv_iload_n hx hb dM_planIfNear_32 rfl (lv_at hl 2 rfl) ?_
      refine lv_iload_n hx hb dM_planIfNear_33 rfl (lv_at hl 3 rfl) ?_
      refine lv_aload_n hx hb dM_planIfNear_34 rfl (lv_at hl 1 rfl) ?_
      refine gfM_111 hx hb hts hown hN hK hP 0 rfl (v := .long mw.1) rfl dM_planIfNear_35 ?_
      refine lv_iload hx hb dM_planIfNear_38 (lv_at hl 0 rfl) ?_
      refine lv_i2l hx hb dM_planIfNear_40 rfl ?_
      refine lv_aload_n hx hb dM_planIfNear_41 rfl (lv_at hl 1 rfl) ?_
      refine gfM_86 hx hb hts hown hN hK hP 0 rfl (v := .long mw.2.2.2.1) rfl dM_planIfNear_42 ?_
      refine lv_lmul hx hb dM_planIfNear_45 ?_
      refine lv_ldc2 (v := (64 : Int64)) hx hb hown (hts _ (wg wd_756 rfl)) dM_planIfNear_46 ?_
      refine lv_ldiv hx hb dM_planIfNear_49 (by decide) ?_
      refine lv_ladd hx hb dM_planIfNear_50 ?_
      refine k_ca0 (wc := [cMd bd k mc mw me mo, cIa cI (bd 1) 128 mp, cZa cZ (bd 2) 30 me.1, cJa cJ (bd 3) 30 me.2.1, cIa cI (bd 4) 30 me.2.2.1, cZa cZ (bd 5) 6 mo.1, cZa cZ (bd 6) 6 mo.2.1, cZa cZ (bd 7) 2 ms.1, cIa cI (bd 8) 2 ms.2.1, cZa cZ (bd 9) 2 ms.2.2.1, cIa cI (bd 10) 2 ms.2.2.2.1, cIa cI (bd 11) 2 ms.2.2.2.2.1, cZa cZ (bd 12) 2 ms.2.2.2.2.2.1, cJa cJ (bd 13) 6 ms.2.2.2.2.2.2, cJa cJ (bd 14) 16 mo.2.2.1]) (wr := []) (va_runV (As := [.int (nI ki), .int (nI cy), .long (mw.1 + ((q1.toInt64 * mw.2.2.2.1) / (64 : Int64)))]) (rest := []) ⟨hx, hb, hml, hown, hts⟩ (ctM_plan l D cZ cI cJ tL tH H.size bd k mc mw mp me mo ms ki cy (mw.1 + ((q1.toInt64 * mw.2.2.2.1) / (64 : Int64))) hk hi) (cwM_128 hts hN rfl rfl ⟨Nat.le_of_ble_eq_true rfl, Nat.le_of_ble_eq_true rfl⟩) (k_preV hK hN hT hA hS hP hD [0, 1, 2, 3, 4, 5, 6, 7, 8, 9, 10, 11, 12, 13, 14] rfl (by decide) 0 rfl rfl) rfl rfl hl.1 rfl (lv_room (Nat.le_of_ble_eq_true rfl)) dM_planIfNear_51 ⟨Nat.zero_le _, Nat.zero_le _⟩) hP hD hS hA [0, 1, 2, 3, 4, 5, 6, 7, 8, 9, 10, 11, 12, 13, 14] [] rfl rfl (by decide) (by decide) (fun _ H locs hP hD hS => ?_)
      refine W.eq (g2 := F0 m 54 ls []) rfl ?_
      have hP : va_P D vwCl [cMd bd k mc mw (fM_plan k mc mw mp me mo ms ki cy (mw.1 + ((q1.toInt64 * mw.2.2.2.1) / (64 : Int64)))) mo, cIa cI (bd 1) 128 mp, cZa cZ (bd 2) 30 ((fM_plan k mc mw mp me mo ms ki cy (mw.1 + ((q1.toInt64 * mw.2.2.2.1) / (64 : Int64)))).1), cJa cJ (bd 3) 30 ((fM_plan k mc mw mp me mo ms ki cy (mw.1 + ((q1.toInt64 * mw.2.2.2.1) / (64 : Int64)))).2.1), cIa cI (bd 4) 30 ((fM_plan k mc mw mp me mo ms ki cy (mw.1 + ((q1.toInt64 * mw.2.2.2.1) / (64 : Int64)))).2.2.1), cZa cZ (bd 5) 6 mo.1, cZa cZ (bd 6) 6 mo.2.1, cZa cZ (bd 7) 2 ms.1, cIa cI (bd 8) 2 ms.2.1, cZa cZ (bd 9) 2 ms.2.2.1, cIa cI (bd 10) 2 ms.2.2.2.1, cIa cI (bd 11) 2 ms.2.2.2.2.1, cZa cZ (bd 12) 2 ms.2.2.2.2.2.1, cJa cJ (bd 13) 6 ms.2.2.2.2.2.2, cJa cJ (bd 14) 16 mo.2.2.1] H := hP
      have hD : va_D A [cMd bd k mc mw (fM_plan k mc mw mp me mo ms ki cy (mw.1 + ((q1.toInt64 * mw.2.2.2.1) / (64 : Int64)))) mo, cIa cI (bd 1) 128 mp, cZa cZ (bd 2) 30 ((fM_plan k mc mw mp me mo ms ki cy (mw.1 + ((q1.toInt64 * mw.2.2.2.1) / (64 : Int64)))).1), cJa cJ (bd 3) 30 ((fM_plan k mc mw mp me mo ms ki cy (mw.1 + ((q1.toInt64 * mw.2.2.2.1) / (64 : Int64)))).2.1), cIa cI (bd 4) 30 ((fM_plan k mc mw mp me mo ms ki cy (mw.1 + ((q1.toInt64 * mw.2.2.2.1) / (64 : Int64)))).2.2.1), cZa cZ (bd 5) 6 mo.1, cZa cZ (bd 6) 6 mo.2.1, cZa cZ (bd 7) 2 ms.1, cIa cI (bd 8) 2 ms.2.1, cZa cZ (bd 9) 2 ms.2.2.1, cIa cI (bd 10) 2 ms.2.2.2.1, cIa cI (bd 11) 2 ms.2.2.2.2.1, cZa cZ (bd 12) 2 ms.2.2.2.2.2.1, cJa cJ (bd 13) 6 ms.2.2.2.2.2.2, cJa cJ (bd 14) 16 mo.2.2.1] := hD
      generalize hq4 : fM_plan k mc mw mp me mo ms ki cy (mw.1 + ((q1.toInt64 * mw.2.2.2.1) / (64 : Int64))) = q4 at hP hD 
      have hP : va_P D vwCl [cMd bd k mc mw q4 mo, cIa cI (bd 1) 128 mp, cZa cZ (bd 2) 30 q4.1, cJa cJ (bd 3) 30 q4.2.1, cIa cI (bd 4) 30 q4.2.2.1, cZa cZ (bd 5) 6 mo.1, cZa cZ (bd 6) 6 mo.2.1, cZa cZ (bd 7) 2 ms.1, cIa cI (bd 8) 2 ms.2.1, cZa cZ (bd 9) 2 ms.2.2.1, cIa cI (bd 10) 2 ms.2.2.2.1, cIa cI (bd 11) 2 ms.2.2.2.2.1, cZa cZ (bd 12) 2 ms.2.2.2.2.2.1, cJa cJ (bd 13) 6 ms.2.2.2.2.2.2, cJa cJ (bd 14) 16 mo.2.2.1] H := hP
      have hD : va_D A [cMd bd k mc mw q4 mo, cIa cI (bd 1) 128 mp, cZa cZ (bd 2) 30 q4.1, cJa cJ (bd 3) 30 q4.2.1, cIa cI (bd 4) 30 q4.2.2.1, cZa cZ (bd 5) 6 mo.1, cZa cZ (bd 6) 6 mo.2.1, cZa cZ (bd 7) 2 ms.1, cIa cI (bd 8) 2 ms.2.1, cZa cZ (bd 9) 2 ms.2.2.1, cIa cI (bd 10) 2 ms.2.2.2.1, cIa cI (bd 11) 2 ms.2.2.2.2.1, cZa cZ (bd 12) 2 ms.2.2.2.2.2.1, cJa cJ (bd 13) 6 ms.2.2.2.2.2.2, cJa cJ (bd 14) 16 mo.2.2.1] := hD
      exact k_vret hx hb hr hlk hP hD hS dM_planIfNear_54 () rfl (by simp only [fM_planIfNear, hq1, if_neg h2, if_neg h3, hq4])
  · -- not taken at 17
    refine lv_sipush (v := (192 : Int32)) hx hb dM_planIfNear_20 (by decide) ?_
    refine lv_goto (tgt := 28) hx hb dM_planIfNear_23 (by decide) ?_
    refine lv_icmp_ge (tgt := 54) hx hb dM_planIfNear_28 (by decide) (fun h5 => ?_) (fun h5 => ?_)
    · -- taken at 28
      exact k_vret hx hb hr hlk hP hD hS dM_planIfNear_54 () rfl (by simp only [fM_planIfNear, hq1, if_pos h2, if_pos h5])
    · -- not taken at 28
      refine lv_aload_n hx hb dM_planIfNear_31 rfl (lv_at hl 1 rfl) ?_
      refine lv_iload_n hx hb dM_planIfNear_32 rfl (lv_at hl 2 rfl) ?_
      refine lv_iload_n hx hb dM_planIfNear_33 rfl (lv_at hl 3 rfl) ?_
      refine lv_aload_n hx hb dM_planIfNear_34 rfl (lv_at hl 1 rfl) ?_
      refine gfM_111 hx hb hts hown hN hK hP 0 rfl (v := .long mw.1) rfl dM_planIfNear_35 ?_
      refine lv_iload hx hb dM_planIfNear_38 (lv_at hl 0 rfl) ?_
      refine lv_i2l hx hb dM_planIfNear_40 rfl ?_
      refine lv_aload_n hx hb dM_planIfNear_41 rfl (lv_at hl 1 rfl) ?_
      refine gfM_86 hx hb hts hown hN hK hP 0 rfl (v := .long mw.2.2.2.1) rfl dM_planIfNear_42 ?_
      refine lv_lmul hx hb dM_planIfNear_45 ?_
      refine lv_ldc2 (v := (64 : Int64)) hx hb hown (hts _ (wg wd_756 rfl)) dM_planIfNear_46 ?_
      refine lv_ldiv hx hb dM_planIfNear_49 (by decide) ?_
      refine lv_ladd hx hb dM_planIfNear_50 ?_
      refine k_ca0 (wc := [cMd bd k mc mw me mo, cIa cI (bd 1) 128 mp, cZa cZ (bd 2) 30 me.1, cJa cJ (bd 3) 30 me.2.1, cIa cI (bd 4) 30 me.2.2.1, cZa cZ (bd 5) 6 mo.1, cZa cZ (bd 6) 6 mo.2.1, cZa cZ (bd 7) 2 ms.1, cIa cI (bd 8) 2 ms.2.1, cZa cZ (bd 9) 2 ms.2.2.1, cIa cI (bd 10) 2 ms.2.2.2.1, cIa cI (bd 11) 2 ms.2.2.2.2.1, cZa cZ (bd 12) 2 ms.2.2.2.2.2.1, cJa cJ (bd 13) 6 ms.2.2.2.2.2.2, cJa cJ (bd 14) 16 mo.2.2.1]) (wr := []) (va_runV (As := [.int (nI ki), .int (nI cy), .long (mw.1 + ((q1.toInt64 * mw.2.2.2.1) / (64 : Int64)))]) (rest := []) ⟨hx, hb, hml, hown, hts⟩ (ctM_plan l D cZ cI cJ tL tH H.size bd k mc mw mp me mo ms ki cy (mw.1 + ((q1.toInt64 * mw.2.2.2.1) / (64 : Int64))) hk hi) (cwM_128 hts hN rfl rfl ⟨Nat.le_of_ble_eq_true rfl, Nat.le_of_ble_eq_true rfl⟩) (k_preV hK hN hT hA hS hP hD [0, 1, 2, 3, 4, 5, 6, 7, 8, 9, 10, 11, 12, 13, 14] rfl (by decide) 0 rfl rfl) rfl rfl hl.1 rfl (lv_room (Nat.le_of_ble_eq_true rfl)) dM_planIfNear_51 ⟨Nat.zero_le _, Nat.zero_le _⟩) hP hD hS hA [0, 1, 2, 3, 4, 5, 6, 7, 8, 9, 10, 11, 12, 13, 14] [] rfl rfl (by decide) (by decide) (fun _ H locs hP hD hS => ?_)
      refine W.eq (g2 := F0 m 54 ls []) rfl ?_
      have hP : va_P D vwCl [cMd bd k mc mw (fM_plan k mc mw mp me mo ms ki cy (mw.1 + ((q1.toInt64 * mw.2.2.2.1) / (64 : Int64)))) mo, cIa cI (bd 1) 128 mp, cZa cZ (bd 2) 30 ((fM_plan k mc mw mp me mo ms ki cy (mw.1 + ((q1.toInt64 * mw.2.2.2.1) / (64 : Int64)))).1), cJa cJ (bd 3) 30 ((fM_plan k mc mw mp me mo ms ki cy (mw.1 + ((q1.toInt64 * mw.2.2.2.1) / (64 : Int64)))).2.1), cIa cI (bd 4) 30 ((fM_plan k mc mw mp me mo ms ki cy (mw.1 + ((q1.toInt64 * mw.2.2.2.1) / (64 : Int64)))).2.2.1), cZa cZ (bd 5) 6 mo.1, cZa cZ (bd 6) 6 mo.2.1, cZa cZ (bd 7) 2 ms.1, cIa cI (bd 8) 2 ms.2.1, cZa cZ (bd 9) 2 ms.2.2.1, cIa cI (bd 10) 2 ms.2.2.2.1, cIa cI (bd 11) 2 ms.2.2.2.2.1, cZa cZ (bd 12) 2 ms.2.2.2.2.2.1, cJa cJ (bd 13) 6 ms.2.2.2.2.2.2, cJa cJ (bd 14) 16 mo.2.2.1] H := hP
      have hD : va_D A [cMd bd k mc mw (fM_plan k mc mw mp me mo ms ki cy (mw.1 + ((q1.toInt64 * mw.2.2.2.1) / (64 : Int64)))) mo, cIa cI (bd 1) 128 mp, cZa cZ (bd 2) 30 ((fM_plan k mc mw mp me mo ms ki cy (mw.1 + ((q1.toInt64 * mw.2.2.2.1) / (64 : Int64)))).1), cJa cJ (bd 3) 30 ((fM_plan k mc mw mp me mo ms ki cy (mw.1 + ((q1.toInt64 * mw.2.2.2.1) / (64 : Int64)))).2.1), cIa cI (bd 4) 30 ((fM_plan k mc mw mp me mo ms ki cy (mw.1 + ((q1.toInt64 * mw.2.2.2.1) / (64 : Int64)))).2.2.1), cZa cZ (bd 5) 6 mo.1, cZa cZ (bd 6) 6 mo.2.1, cZa cZ (bd 7) 2 ms.1, cIa cI (bd 8) 2 ms.2.1, cZa cZ (bd 9) 2 ms.2.2.1, cIa cI (bd 10) 2 ms.2.2.2.1, cIa cI (bd 11) 2 ms.2.2.2.2.1, cZa cZ (bd 12) 2 ms.2.2.2.2.2.1, cJa cJ (bd 13) 6 ms.2.2.2.2.2.2, cJa cJ (bd 14) 16 mo.2.2.1] := hD
      generalize hq6 : fM_plan k mc mw mp me mo ms ki cy (mw.1 + ((q1.toInt64 * mw.2.2.2.1) / (64 : Int64))) = q6 at hP hD 
      have hP : va_P D vwCl [cMd bd k mc mw q6 mo, cIa cI (bd 1) 128 mp, cZa cZ (bd 2) 30 q6.1, cJa cJ (bd 3) 30 q6.2.1, cIa cI (bd 4) 30 q6.2.2.1, cZa cZ (bd 5) 6 mo.1, cZa cZ (bd 6) 6 mo.2.1, cZa cZ (bd 7) 2 ms.1, cIa cI (bd 8) 2 ms.2.1, cZa cZ (bd 9) 2 ms.2.2.1, cIa cI (bd 10) 2 ms.2.2.2.1, cIa cI (bd 11) 2 ms.2.2.2.2.1, cZa cZ (bd 12) 2 ms.2.2.2.2.2.1, cJa cJ (bd 13) 6 ms.2.2.2.2.2.2, cJa cJ (bd 14) 16 mo.2.2.1] H := hP
      have hD : va_D A [cMd bd k mc mw q6 mo, cIa cI (bd 1) 128 mp, cZa cZ (bd 2) 30 q6.1, cJa cJ (bd 3) 30 q6.2.1, cIa cI (bd 4) 30 q6.2.2.1, cZa cZ (bd 5) 6 mo.1, cZa cZ (bd 6) 6 mo.2.1, cZa cZ (bd 7) 2 ms.1, cIa cI (bd 8) 2 ms.2.1, cZa cZ (bd 9) 2 ms.2.2.1, cIa cI (bd 10) 2 ms.2.2.2.1, cIa cI (bd 11) 2 ms.2.2.2.2.1, cZa cZ (bd 12) 2 ms.2.2.2.2.2.1, cJa cJ (bd 13) 6 ms.2.2.2.2.2.2, cJa cJ (bd 14) 16 mo.2.2.1] := hD
      exact k_vret hx hb hr hlk hP hD hS dM_planIfNear_54 () rfl (by simp only [fM_planIfNear, hq1, if_pos h2, if_neg h5, hq6])

def fM_planAll_l (k : Nat) (mc : McT) (mw : MwT) (mp : MpT) (mo : MoT) (ms : MsT)  : Nat → Nat → Int32 → Int32 → MeT → MeT
  | 0, i, early, full, me1 =>
    me1
  | fuel + 1, i, early, full, me1 =>
    if full = 0 then
      let q1002 := fM_planIfNear k mc mw mp me1 mo ms 1 i ((((nI i) * mc.2.2.2) / (nI k)) - early)
      fM_planAll_l k mc mw mp mo ms  fuel (i + 1) early full q1002
    else
      let q1003 := fM_planIfNear k mc mw mp me1 mo ms 0 i (((((nI i) * mc.2.2.2) / (nI k)) - early) - mc.2.1)
      let q1004 := fM_planIfNear k mc mw mp q1003 mo ms 1 i ((((nI i) * mc.2.2.2) / (nI k)) - early)
      let q1005 := fM_planIfNear k mc mw mp q1004 mo ms 3 i ((((nI i) * mc.2.2.2) / (nI k)) + (mc.2.2.2 / (2 : Int32)))
      fM_planAll_l k mc mw mp mo ms  fuel (i + 1) early full q1005
def fM_planAll_j (k : Nat) (mc : McT) (mw : MwT) (mp : MpT) (me : MeT) (mo : MoT) (ms : MsT)  (limit : Int32) (early : Int32)  : MeT :=
  if mw.2.2.2.1 < limit.toInt64 then
    fM_planAll_l k mc mw mp mo ms  k 0 early (0 : Int32) me
  else
    fM_planAll_l k mc mw mp mo ms  k 0 early (1 : Int32) me
def fM_planAll (k : Nat) (mc : McT) (mw : MwT) (mp : MpT) (me : MeT) (mo : MoT) (ms : MsT) : MeT :=
  let q1 := fM_present k mc mw mp me mo ms (0 : Int32)
  if (ms.2.2.2.2.2.1 0) = 0 then
    if (ms.2.2.2.2.2.1 1) = 0 then
      let q4 := fM_valueOf k mc mw mp me mo ms 1
      if q4 ≤ (110 : Int32) then
        fM_planAll_j k mc mw mp me mo ms  (100 : Int32) q1
      else
        fM_planAll_j k mc mw mp me mo ms  (200 : Int32) q1
    else
      fM_planAll_j k mc mw mp me mo ms  (200 : Int32) q1
  else
    fM_planAll_j k mc mw mp me mo ms  (200 : Int32) q1
set_option maxRecDepth 100000 in
set_option maxHeartbeats 4000000 in
theorem ctM_planAll (l : Launch) (D : va_G) (cZ cI cJ : ClassId) (tL tH : Nat) (sz : Nat) (bd : Nat → Nat) (k : Nat) (mc : McT) (mw : MwT) (mp : MpT) (me : MeT) (mo : MoT) (ms : MsT)  (hk : 0 < k ∧ k ≤ 6) : Ct l yM_planAll wM_planAll ({ frames := 3, cells := 0, slots := 0, locals := 78 }) D (tyG cZ cI cJ) tL tH [.ref (bd 0)] sz [cMd bd k mc mw me mo, cIa cI (bd 1) 128 mp, cZa cZ (bd 2) 30 me.1, cJa cJ (bd 3) 30 me.2.1, cIa cI (bd 4) 30 me.2.2.1, cZa cZ (bd 5) 6 mo.1, cZa cZ (bd 6) 6 mo.2.1, cZa cZ (bd 7) 2 ms.1, cIa cI (bd 8) 2 ms.2.1, cZa cZ (bd 9) 2 ms.2.2.1, cIa cI (bd 10) 2 ms.2.2.2.1, cIa cI (bd 11) 2 ms.2.2.2.2.1, cZa cZ (bd 12) 2 ms.2.2.2.2.2.1, cJa cJ (bd 13) 6 ms.2.2.2.2.2.2, cJa cJ (bd 14) 16 mo.2.2.1] (fun _ : Unit => none) (fun _ : Unit => [cMd bd k mc mw (fM_planAll k mc mw mp me mo ms) mo, cIa cI (bd 1) 128 mp, cZa cZ (bd 2) 30 ((fM_planAll k mc mw mp me mo ms).1), cJa cJ (bd 3) 30 ((fM_planAll k mc mw mp me mo ms).2.1), cIa cI (bd 4) 30 ((fM_planAll k mc mw mp me mo ms).2.2.1), cZa cZ (bd 5) 6 mo.1, cZa cZ (bd 6) 6 mo.2.1, cZa cZ (bd 7) 2 ms.1, cIa cI (bd 8) 2 ms.2.1, cZa cZ (bd 9) 2 ms.2.2.1, cIa cI (bd 10) 2 ms.2.2.2.1, cIa cI (bd 11) 2 ms.2.2.2.2.1, cZa cZ (bd 12) 2 ms.2.2.2.2.2.1, cJa cJ (bd 13) 6 ms.2.2.2.2.2.2, cJa cJ (bd 14) 16 mo.2.2.1]) 0 0 := by
  refine k_go (by decide +kernel) (Nat.le_of_ble_eq_true rfl) ?_
  intro p e s m args below meth c A ls H hx hb hr hml hts hown hlk hnm hK hN hT hA hS hP hD hl
  have hown : s.vm.findClass "ToothWheelTimerModel" = some m.cls := hown
  have hlk : meth.locks = false := hlk
  have hl : lv_has ls 6 [(0, .ref (bd 0))] := hl
  refine lv_aload_n hx hb dM_planAll_0 rfl (lv_at hl 0 rfl) ?_
  refine lv_iconst (v := (0 : Int32)) hx hb dM_planAll_1 (by decide) ?_
  refine k_ca0 (wc := [cMd bd k mc mw me mo, cIa cI (bd 1) 128 mp, cZa cZ (bd 2) 30 me.1, cJa cJ (bd 3) 30 me.2.1, cIa cI (bd 4) 30 me.2.2.1, cZa cZ (bd 5) 6 mo.1, cZa cZ (bd 6) 6 mo.2.1, cZa cZ (bd 7) 2 ms.1, cIa cI (bd 8) 2 ms.2.1, cZa cZ (bd 9) 2 ms.2.2.1, cIa cI (bd 10) 2 ms.2.2.2.1, cIa cI (bd 11) 2 ms.2.2.2.2.1, cZa cZ (bd 12) 2 ms.2.2.2.2.2.1, cJa cJ (bd 13) 6 ms.2.2.2.2.2.2, cJa cJ (bd 14) 16 mo.2.2.1]) (wr := []) (va_runV (As := [.int (0 : Int32)]) (rest := []) ⟨hx, hb, hml, hown, hts⟩ (ctM_present l D cZ cI cJ tL tH H.size bd k mc mw mp me mo ms (0 : Int32) hk) (cwM_101 hts hN rfl rfl ⟨Nat.le_of_ble_eq_true rfl, Nat.le_of_ble_eq_true rfl⟩) (k_preV hK hN hT hA hS hP hD [0, 1, 2, 3, 4, 5, 6, 7, 8, 9, 10, 11, 12, 13, 14] rfl (by decide) 0 rfl rfl) rfl rfl hl.1 rfl (lv_room (Nat.le_of_ble_eq_true rfl)) dM_planAll_2 ⟨Nat.zero_le _, Nat.zero_le _⟩) hP hD hS hA [0, 1, 2, 3, 4, 5, 6, 7, 8, 9, 10, 11, 12, 13, 14] [] rfl rfl (by decide) (by decide) (fun _ H locs hP hD hS => ?_)
  refine W.eq (g2 := F0 m 5 ls [.int (fM_present k mc mw mp me mo ms (0 : Int32))]) rfl ?_
  have hP : va_P D vwCl [cMd bd k mc mw me mo, cIa cI (bd 1) 128 mp, cZa cZ (bd 2) 30 me.1, cJa cJ (bd 3) 30 me.2.1, cIa cI (bd 4) 30 me.2.2.1, cZa cZ (bd 5) 6 mo.1, cZa cZ (bd 6) 6 mo.2.1, cZa cZ (bd 7) 2 ms.1, cIa cI (bd 8) 2 ms.2.1, cZa cZ (bd 9) 2 ms.2.2.1, cIa cI (bd 10) 2 ms.2.2.2.1, cIa cI (bd 11) 2 ms.2.2.2.2.1, cZa cZ (bd 12) 2 ms.2.2.2.2.2.1, cJa cJ (bd 13) 6 ms.2.2.2.2.2.2, cJa cJ (bd 14) 16 mo.2.2.1] H := hP
  have hD : va_D A [cMd bd k mc mw me mo, cIa cI (bd 1) 128 mp, cZa cZ (bd 2) 30 me.1, cJa cJ (bd 3) 30 me.2.1, cIa cI (bd 4) 30 me.2.2.1, cZa cZ (bd 5) 6 mo.1, cZa cZ (bd 6) 6 mo.2.1, cZa cZ (bd 7) 2 ms.1, cIa cI (bd 8) 2 ms.2.1, cZa cZ (bd 9) 2 ms.2.2.1, cIa cI (bd 10) 2 ms.2.2.2.1, cIa cI (bd 11) 2 ms.2.2.2.2.1, cZa cZ (bd 12) 2 ms.2.2.2.2.2.1, cJa cJ (bd 13) 6 ms.2.2.2.2.2.2, cJa cJ (bd 14) 16 mo.2.2.1] := hD
  generalize hq1 : fM_present k mc mw mp me mo ms (0 : Int32) = q1 at ⊢
  refine lv_istore_n (lv' := [(1, .int q1), (0, .ref (bd 0))]) hx hb dM_planAll_5 rfl hl (by decide) rfl (fun ls hl => ?_)
  have JOIN43 : ∀ (limit : Int32) (early : Int32)  (ls : Array Slot) (H : Heap) (locs : List Loc), fM_planAll k mc mw mp me mo ms = fM_planAll_j k mc mw mp me mo ms  limit early  → lv_has ls 6 [(2, .int limit), (1, .int early), (0, .ref (bd 0))] → va_P D vwCl [cMd bd k mc mw me mo, cIa cI (bd 1) 128 mp, cZa cZ (bd 2) 30 me.1, cJa cJ (bd 3) 30 me.2.1, cIa cI (bd 4) 30 me.2.2.1, cZa cZ (bd 5) 6 mo.1, cZa cZ (bd 6) 6 mo.2.1, cZa cZ (bd 7) 2 ms.1, cIa cI (bd 8) 2 ms.2.1, cZa cZ (bd 9) 2 ms.2.2.1, cIa cI (bd 10) 2 ms.2.2.2.1, cIa cI (bd 11) 2 ms.2.2.2.2.1, cZa cZ (bd 12) 2 ms.2.2.2.2.2.1, cJa cJ (bd 13) 6 ms.2.2.2.2.2.2, cJa cJ (bd 14) 16 mo.2.2.1] H → va_D A [cMd bd k mc mw me mo, cIa cI (bd 1) 128 mp, cZa cZ (bd 2) 30 me.1, cJa cJ (bd 3) 30 me.2.1, cIa cI (bd 4) 30 me.2.2.1, cZa cZ (bd 5) 6 mo.1, cZa cZ (bd 6) 6 mo.2.1, cZa cZ (bd 7) 2 ms.1, cIa cI (bd 8) 2 ms.2.1, cZa cZ (bd 9) 2 ms.2.2.1, cIa cI (bd 10) 2 ms.2.2.2.1, cIa cI (bd 11) 2 ms.2.2.2.2.1, cZa cZ (bd 12) 2 ms.2.2.2.2.2.1, cJa cJ (bd 13) 6 ms.2.2.2.2.2.2, cJa cJ (bd 14) 16 mo.2.2.1] → va_S A s.heap H locs → W p l e { frames := 3, cells := 0, slots := 0, locals := 78 } s m args below meth c H locs 0 0 (MQ below (QX A D (fun _ : Unit => none) (fun _ : Unit => [cMd bd k mc mw (fM_planAll k mc mw mp me mo ms) mo, cIa cI (bd 1) 128 mp, cZa cZ (bd 2) 30 ((fM_planAll k mc mw mp me mo ms).1), cJa cJ (bd 3) 30 ((fM_planAll k mc mw mp me mo ms).2.1), cIa cI (bd 4) 30 ((fM_planAll k mc mw mp me mo ms).2.2.1), cZa cZ (bd 5) 6 mo.1, cZa cZ (bd 6) 6 mo.2.1, cZa cZ (bd 7) 2 ms.1, cIa cI (bd 8) 2 ms.2.1, cZa cZ (bd 9) 2 ms.2.2.1, cIa cI (bd 10) 2 ms.2.2.2.1, cIa cI (bd 11) 2 ms.2.2.2.2.1, cZa cZ (bd 12) 2 ms.2.2.2.2.2.1, cJa cJ (bd 13) 6 ms.2.2.2.2.2.2, cJa cJ (bd 14) 16 mo.2.2.1])) args s 0 0 A) (F0 m 43 ls []) := by
    intro limit early  ls H locs hres hl hP hD hS
    refine lv_aload_n hx hb dM_planAll_43 rfl (lv_at hl 2 rfl) ?_
    refine gfM_86 hx hb hts hown hN hK hP 0 rfl (v := .long mw.2.2.2.1) rfl dM_planAll_44 ?_
    refine lv_iload_n hx hb dM_planAll_47 rfl (lv_at hl 0 rfl) ?_
    refine lv_i2l hx hb dM_planAll_48 rfl ?_
    refine k_lc_lt (tgt := 57) hx hb dM_planAll_49 dM_planAll_50 (by decide) (fun h2001 => ?_) (fun h2001 => ?_)
    · -- taken at 49
      refine lv_iconst (v := (0 : Int32)) hx hb dM_planAll_57 (by decide) ?_
      refine lv_istore_n (lv' := [(3, .int (0 : Int32)), (2, .int limit), (1, .int early), (0, .ref (bd 0))]) hx hb dM_planAll_58 rfl hl (by decide) rfl (fun ls hl => ?_)
      refine lv_iconst (v := (0 : Int32)) hx hb dM_planAll_59 (by decide) ?_
      refine lv_istore (lv' := [(4, .int (0 : Int32)), (3, .int (0 : Int32)), (2, .int limit), (1, .int early), (0, .ref (bd 0))]) hx hb dM_planAll_60 hl (by decide) rfl (fun ls hl => ?_)
      have hl := lv_sub (l' := [(4, .int (0 : Int32)), (1, .int early), (3, .int (0 : Int32)), (0, .ref (bd 0))]) hl [0, 3, 1, 4] rfl
      have LOOP62 : ∀ (fuel : Nat) (i : Nat) (early : Int32) (full : Int32) (me1 : MeT), ∀ (ls : Array Slot) (H : Heap) (locs : List Loc), fuel + i = k → fM_planAll k mc mw mp me mo ms = fM_planAll_l k mc mw mp mo ms  fuel i early full me1 → lv_has ls 6 [(4, .int (nI i)), (1, .int early), (3, .int full), (0, .ref (bd 0))] → va_P D vwCl [cMd bd k mc mw me1 mo, cIa cI (bd 1) 128 mp, cZa cZ (bd 2) 30 me1.1, cJa cJ (bd 3) 30 me1.2.1, cIa cI (bd 4) 30 me1.2.2.1, cZa cZ (bd 5) 6 mo.1, cZa cZ (bd 6) 6 mo.2.1, cZa cZ (bd 7) 2 ms.1, cIa cI (bd 8) 2 ms.2.1, cZa cZ (bd 9) 2 ms.2.2.1, cIa cI (bd 10) 2 ms.2.2.2.1, cIa cI (bd 11) 2 ms.2.2.2.2.1, cZa cZ (bd 12) 2 ms.2.2.2.2.2.1, cJa cJ (bd 13) 6 ms.2.2.2.2.2.2, cJa cJ (bd 14) 16 mo.2.2.1] H → va_D A [cMd bd k mc mw me1 mo, cIa cI (bd 1) 128 mp, cZa cZ (bd 2) 30 me1.1, cJa cJ (bd 3) 30 me1.2.1, cIa cI (bd 4) 30 me1.2.2.1, cZa cZ (bd 5) 6 mo.1, cZa cZ (bd 6) 6 mo.2.1, cZa cZ (bd 7) 2 ms.1, cIa cI (bd 8) 2 ms.2.1, cZa cZ (bd 9) 2 ms.2.2.1, cIa cI (bd 10) 2 ms.2.2.2.1, cIa cI (bd 11) 2 ms.2.2.2.2.1, cZa cZ (bd 12) 2 ms.2.2.2.2.2.1, cJa cJ (bd 13) 6 ms.2.2.2.2.2.2, cJa cJ (bd 14) 16 mo.2.2.1] → va_S A s.heap H locs → W p l e { frames := 3, cells := 0, slots := 0, locals := 78 } s m args below meth c H locs 0 0 (MQ below (QX A D (fun _ : Unit => none) (fun _ : Unit => [cMd bd k mc mw (fM_planAll k mc mw mp me mo ms) mo, cIa cI (bd 1) 128 mp, cZa cZ (bd 2) 30 ((fM_planAll k mc mw mp me mo ms).1), cJa cJ (bd 3) 30 ((fM_planAll k mc mw mp me mo ms).2.1), cIa cI (bd 4) 30 ((fM_planAll k mc mw mp me mo ms).2.2.1), cZa cZ (bd 5) 6 mo.1, cZa cZ (bd 6) 6 mo.2.1, cZa cZ (bd 7) 2 ms.1, cIa cI (bd 8) 2 ms.2.1, cZa cZ (bd 9) 2 ms.2.2.1, cIa cI (bd 10) 2 ms.2.2.2.1, cIa cI (bd 11) 2 ms.2.2.2.2.1, cZa cZ (bd 12) 2 ms.2.2.2.2.2.1, cJa cJ (bd 13) 6 ms.2.2.2.2.2.2, cJa cJ (bd 14) 16 mo.2.2.1])) args s 0 0 A) (F0 m 62 ls []) := by
        intro fuel
        induction fuel with
        | zero =>
          intro i early full me1  ls H locs hm hres hl hP hD hS
          refine lv_iload hx hb dM_planAll_62 (lv_at hl 0 rfl) ?_
          refine lv_aload_n hx hb dM_planAll_64 rfl (lv_at hl 3 rfl) ?_
          refine gfM_68 hx hb hts hown hN hK hP 0 rfl (v := .int (nI k)) rfl dM_planAll_65 ?_
          refine lv_icmp_ge (tgt := 142) hx hb dM_planAll_68 (by decide) (fun _ => ?_) (fun h0 => absurd (nI_le (a := k) (b := i) (by omega) (by omega)) h0)
          exact k_vret hx hb hr hlk hP hD hS dM_planAll_142 () rfl (by simp only [hres, fM_planAll_l])
        | succ fuel ih =>
          intro i early full me1  ls H locs hm hres hl hP hD hS
          refine lv_iload hx hb dM_planAll_62 (lv_at hl 0 rfl) ?_
          refine lv_aload_n hx hb dM_planAll_64 rfl (lv_at hl 3 rfl) ?_
          refine gfM_68 hx hb hts hown hN hK hP 0 rfl (v := .int (nI k)) rfl dM_planAll_65 ?_
          refine lv_icmp_ge (tgt := 142) hx hb dM_planAll_68 (by decide) (fun h0 => absurd h0 (nI_ge (a := i) (b := k) (by omega) (by omega))) (fun _ => ?_)
          refine lv_iload hx hb dM_planAll_71 (lv_at hl 0 rfl) ?_
          refine lv_aload_n hx hb dM_planAll_73 rfl (lv_at hl 3 rfl) ?_
          refine gfM_65 hx hb hts hown hN hK hP 0 rfl (v := .int mc.2.2.2) rfl dM_planAll_74 ?_
          refine lv_imul hx hb dM_planAll_77 ?_
          refine lv_aload_n hx hb dM_planAll_78 rfl (lv_at hl 3 rfl) ?_
          refine gfM_68 hx hb hts hown hN hK hP 0 rfl (v := .int (nI k)) rfl dM_planAll_79 ?_
          refine lv_idiv hx hb dM_planAll_82 (nI_ne0 (by omega) (by omega)) ?_
          refine lv_istore (lv' := [(5, .int (((nI i) * mc.2.2.2) / (nI k))), (4, .int (nI i)), (1, .int early), (3, .int full), (0, .ref (bd 0))]) hx hb dM_planAll_83 hl (by decide) rfl (fun ls hl => ?_)
          refine lv_iload_n hx hb dM_planAll_85 rfl (lv_at hl 3 rfl) ?_
          refine lv_if_eq (tgt := 105) hx hb dM_planAll_86 (by decide) (fun h1001 => ?_) (fun h1001 => ?_)
          · -- taken at 86
            refine lv_aload_n hx hb dM_planAll_105 rfl (lv_at hl 4 rfl) ?_
            refine lv_iconst (v := (1 : Int32)) hx hb dM_planAll_106 (by decide) ?_
            refine lv_iload hx hb dM_planAll_107 (lv_at hl 1 rfl) ?_
            refine lv_iload hx hb dM_planAll_109 (lv_at hl 0 rfl) ?_
            refine lv_iload_n hx hb dM_planAll_111 rfl (lv_at hl 2 rfl) ?_
            refine lv_isub hx hb dM_planAll_112 ?_
            refine k_ca0 (wc := [cMd bd k mc mw me1 mo, cIa cI (bd 1) 128 mp, cZa cZ (bd 2) 30 me1.1, cJa cJ (bd 3) 30 me1.2.1, cIa cI (bd 4) 30 me1.2.2.1, cZa cZ (bd 5) 6 mo.1, cZa cZ (bd 6) 6 mo.2.1, cZa cZ (bd 7) 2 ms.1, cIa cI (bd 8) 2 ms.2.1, cZa cZ (bd 9) 2 ms.2.2.1, cIa cI (bd 10) 2 ms.2.2.2.1, cIa cI (bd 11) 2 ms.2.2.2.2.1, cZa cZ (bd 12) 2 ms.2.2.2.2.2.1, cJa cJ (bd 13) 6 ms.2.2.2.2.2.2, cJa cJ (bd 14) 16 mo.2.2.1]) (wr := []) (va_runV (As := [.int (nI 1), .int (nI i), .int ((((nI i) * mc.2.2.2) / (nI k)) - early)]) (rest := []) ⟨hx, hb, hml, hown, hts⟩ (ctM_planIfNear l D cZ cI cJ tL tH H.size bd k mc mw mp me1 mo ms 1 i ((((nI i) * mc.2.2.2) / (nI k)) - early) hk (by omega)) (cwM_202 hts hN rfl rfl ⟨Nat.le_of_ble_eq_true rfl, Nat.le_of_ble_eq_true rfl⟩) (k_preV hK hN hT hA hS hP hD [0, 1, 2, 3, 4, 5, 6, 7, 8, 9, 10, 11, 12, 13, 14] rfl (by decide) 0 rfl rfl) rfl rfl hl.1 rfl (lv_room (Nat.le_of_ble_eq_true rfl)) dM_planAll_113 ⟨Nat.zero_le _, Nat.zero_le _⟩) hP hD hS hA [0, 1, 2, 3, 4, 5, 6, 7, 8, 9, 10, 11, 12, 13, 14] [] rfl rfl (by decide) (by decide) (fun _ H locs hP hD hS => ?_)
            refine W.eq (g2 := F0 m 116 ls []) rfl ?_
            have hP : va_P D vwCl [cMd bd k mc mw (fM_planIfNear k mc mw mp me1 mo ms 1 i ((((nI i) * mc.2.2.2) / (nI k)) - early)) mo, cIa cI (bd 1) 128 mp, cZa cZ (bd 2) 30 ((fM_planIfNear k mc mw mp me1 mo ms 1 i ((((nI i) * mc.2.2.2) / (nI k)) - early)).1), cJa cJ (bd 3) 30 ((fM_planIfNear k mc mw mp me1 mo ms 1 i ((((nI i) * mc.2.2.2) / (nI k)) - early)).2.1), cIa cI (bd 4) 30 ((fM_planIfNear k mc mw mp me1 mo ms 1 i ((((nI i) * mc.2.2.2) / (nI k)) - early)).2.2.1), cZa cZ (bd 5) 6 mo.1, cZa cZ (bd 6) 6 mo.2.1, cZa cZ (bd 7) 2 ms.1, cIa cI (bd 8) 2 ms.2.1, cZa cZ (bd 9) 2 ms.2.2.1, cIa cI (bd 10) 2 ms.2.2.2.1, cIa cI (bd 11) 2 ms.2.2.2.2.1, cZa cZ (bd 12) 2 ms.2.2.2.2.2.1, cJa cJ (bd 13) 6 ms.2.2.2.2.2.2, cJa cJ (bd 14) 16 mo.2.2.1] H := hP
            have hD : va_D A [cMd bd k mc mw (fM_planIfNear k mc mw mp me1 mo ms 1 i ((((nI i) * mc.2.2.2) / (nI k)) - early)) mo, cIa cI (bd 1) 128 mp, cZa cZ (bd 2) 30 ((fM_planIfNear k mc mw mp me1 mo ms 1 i ((((nI i) * mc.2.2.2) / (nI k)) - early)).1), cJa cJ (bd 3) 30 ((fM_planIfNear k mc mw mp me1 mo ms 1 i ((((nI i) * mc.2.2.2) / (nI k)) - early)).2.1), cIa cI (bd 4) 30 ((fM_planIfNear k mc mw mp me1 mo ms 1 i ((((nI i) * mc.2.2.2) / (nI k)) - early)).2.2.1), cZa cZ (bd 5) 6 mo.1, cZa cZ (bd 6) 6 mo.2.1, cZa cZ (bd 7) 2 ms.1, cIa cI (bd 8) 2 ms.2.1, cZa cZ (bd 9) 2 ms.2.2.1, cIa cI (bd 10) 2 ms.2.2.2.1, cIa cI (bd 11) 2 ms.2.2.2.2.1, cZa cZ (bd 12) 2 ms.2.2.2.2.2.1, cJa cJ (bd 13) 6 ms.2.2.2.2.2.2, cJa cJ (bd 14) 16 mo.2.2.1] := hD
            generalize hq1002 : fM_planIfNear k mc mw mp me1 mo ms 1 i ((((nI i) * mc.2.2.2) / (nI k)) - early) = q1002 at hP hD 
            have hP : va_P D vwCl [cMd bd k mc mw q1002 mo, cIa cI (bd 1) 128 mp, cZa cZ (bd 2) 30 q1002.1, cJa cJ (bd 3) 30 q1002.2.1, cIa cI (bd 4) 30 q1002.2.2.1, cZa cZ (bd 5) 6 mo.1, cZa cZ (bd 6) 6 mo.2.1, cZa cZ (bd 7) 2 ms.1, cIa cI (bd 8) 2 ms.2.1, cZa cZ (bd 9) 2 ms.2.2.1, cIa cI (bd 10) 2 ms.2.2.2.1, cIa cI (bd 11) 2 ms.2.2.2.2.1, cZa cZ (bd 12) 2 ms.2.2.2.2.2.1, cJa cJ (bd 13) 6 ms.2.2.2.2.2.2, cJa cJ (bd 14) 16 mo.2.2.1] H := hP
            have hD : va_D A [cMd bd k mc mw q1002 mo, cIa cI (bd 1) 128 mp, cZa cZ (bd 2) 30 q1002.1, cJa cJ (bd 3) 30 q1002.2.1, cIa cI (bd 4) 30 q1002.2.2.1, cZa cZ (bd 5) 6 mo.1, cZa cZ (bd 6) 6 mo.2.1, cZa cZ (bd 7) 2 ms.1, cIa cI (bd 8) 2 ms.2.1, cZa cZ (bd 9) 2 ms.2.2.1, cIa cI (bd 10) 2 ms.2.2.2.1, cIa cI (bd 11) 2 ms.2.2.2.2.1, cZa cZ (bd 12) 2 ms.2.2.2.2.2.1, cJa cJ (bd 13) 6 ms.2.2.2.2.2.2, cJa cJ (bd 14) 16 mo.2.2.1] := hD
            refine lv_iload_n hx hb dM_planAll_116 rfl (lv_at hl 3 rfl) ?_
            refine lv_if_eq (tgt := 136) hx hb dM_planAll_117 (by decide) (fun _ => ?_) (fun h0 => absurd h1001 h0)
            refine lv_iinc (k := 1) (v := nI (i + 1)) (lv' := [(4, .int (nI (i + 1))), (5, .int (((nI i) * mc.2.2.2) / (nI k))), (1, .int early), (3, .int full), (0, .ref (bd 0))]) hx hb dM_planAll_136 hl rfl (nI_1 i) (by decide) rfl (fun ls hl => ?_)
            refine lv_goto (tgt := 62) hx hb dM_planAll_139 (by decide) ?_
            have hl := lv_sub (l' := [(4, .int (nI (i + 1))), (1, .int early), (3, .int full), (0, .ref (bd 0))]) hl [0, 2, 3, 4] rfl
            exact ih (i + 1) early full q1002  ls H _ (by omega) (by simp only [hres, fM_planAll_l, if_pos h1001, hq1002]) hl hP hD hS
          · -- not taken at 86
            refine lv_aload_n hx hb dM_planAll_89 rfl (lv_at hl 4 rfl) ?_
            refine lv_iconst (v := (0 : Int32)) hx hb dM_planAll_90 (by decide) ?_
            refine lv_iload hx hb dM_planAll_91 (lv_at hl 1 rfl) ?_
            refine lv_iload hx hb dM_planAll_93 (lv_at hl 0 rfl) ?_
            refine lv_iload_n hx hb dM_planAll_95 rfl (lv_at hl 2 rfl) ?_
            refine lv_isub hx hb dM_planAll_96 ?_
            refine lv_aload_n hx hb dM_planAll_97 rfl (lv_at hl 4 rfl) ?_
            refine gfM_71 hx hb hts hown hN hK hP 0 rfl (v := .int mc.2.1) rfl dM_planAll_98 ?_
            refine lv_isub hx hb dM_planAll_101 ?_
            refine k_ca0 (wc := [cMd bd k mc mw me1 mo, cIa cI (bd 1) 128 mp, cZa cZ (bd 2) 30 me1.1, cJa cJ (bd 3) 30 me1.2.1, cIa cI (bd 4) 30 me1.2.2.1, cZa cZ (bd 5) 6 mo.1, cZa cZ (bd 6) 6 mo.2.1, cZa cZ (bd 7) 2 ms.1, cIa cI (bd 8) 2 ms.2.1, cZa cZ (bd 9) 2 ms.2.2.1, cIa cI (bd 10) 2 ms.2.2.2.1, cIa cI (bd 11) 2 ms.2.2.2.2.1, cZa cZ (bd 12) 2 ms.2.2.2.2.2.1, cJa cJ (bd 13) 6 ms.2.2.2.2.2.2, cJa cJ (bd 14) 16 mo.2.2.1]) (wr := []) (va_runV (As := [.int (nI 0), .int (nI i), .int (((((nI i) * mc.2.2.2) / (nI k)) - early) - mc.2.1)]) (rest := []) ⟨hx, hb, hml, hown, hts⟩ (ctM_planIfNear l D cZ cI cJ tL tH H.size bd k mc mw mp me1 mo ms 0 i (((((nI i) * mc.2.2.2) / (nI k)) - early) - mc.2.1) hk (by omega)) (cwM_202 hts hN rfl rfl ⟨Nat.le_of_ble_eq_true rfl, Nat.le_of_ble_eq_true rfl⟩) (k_preV hK hN hT hA hS hP hD [0, 1, 2, 3, 4, 5, 6, 7, 8, 9, 10, 11, 12, 13, 14] rfl (by decide) 0 rfl rfl) rfl rfl hl.1 rfl (lv_room (Nat.le_of_ble_eq_true rfl)) dM_planAll_102 ⟨Nat.zero_le _, Nat.zero_le _⟩) hP hD hS hA [0, 1, 2, 3, 4, 5, 6, 7, 8, 9, 10, 11, 12, 13, 14] [] rfl rfl (by decide) (by decide) (fun _ H locs hP hD hS => ?_)
            refine W.eq (g2 := F0 m 105 ls []) rfl ?_
            have hP : va_P D vwCl [cMd bd k mc mw (fM_planIfNear k mc mw mp me1 mo ms 0 i (((((nI i) * mc.2.2.2) / (nI k)) - early) - mc.2.1)) mo, cIa cI (bd 1) 128 mp, cZa cZ (bd 2) 30 ((fM_planIfNear k mc mw mp me1 mo ms 0 i (((((nI i) * mc.2.2.2) / (nI k)) - early) - mc.2.1)).1), cJa cJ (bd 3) 30 ((fM_planIfNear k mc mw mp me1 mo ms 0 i (((((nI i) * mc.2.2.2) / (nI k)) - early) - mc.2.1)).2.1), cIa cI (bd 4) 30 ((fM_planIfNear k mc mw mp me1 mo ms 0 i (((((nI i) * mc.2.2.2) / (nI k)) - early) - mc.2.1)).2.2.1), cZa cZ (bd 5) 6 mo.1, cZa cZ (bd 6) 6 mo.2.1, cZa cZ (bd 7) 2 ms.1, cIa cI (bd 8) 2 ms.2.1, cZa cZ (bd 9) 2 ms.2.2.1, cIa cI (bd 10) 2 ms.2.2.2.1, cIa cI (bd 11) 2 ms.2.2.2.2.1, cZa cZ (bd 12) 2 ms.2.2.2.2.2.1, cJa cJ (bd 13) 6 ms.2.2.2.2.2.2, cJa cJ (bd 14) 16 mo.2.2.1] H := hP
            have hD : va_D A [cMd bd k mc mw (fM_planIfNear k mc mw mp me1 mo ms 0 i (((((nI i) * mc.2.2.2) / (nI k)) - early) - mc.2.1)) mo, cIa cI (bd 1) 128 mp, cZa cZ (bd 2) 30 ((fM_planIfNear k mc mw mp me1 mo ms 0 i (((((nI i) * mc.2.2.2) / (nI k)) - early) - mc.2.1)).1), cJa cJ (bd 3) 30 ((fM_planIfNear k mc mw mp me1 mo ms 0 i (((((nI i) * mc.2.2.2) / (nI k)) - early) - mc.2.1)).2.1), cIa cI (bd 4) 30 ((fM_planIfNear k mc mw mp me1 mo ms 0 i (((((nI i) * mc.2.2.2) / (nI k)) - early) - mc.2.1)).2.2.1), cZa cZ (bd 5) 6 mo.1, cZa cZ (bd 6) 6 mo.2.1, cZa cZ (bd 7) 2 ms.1, cIa cI (bd 8) 2 ms.2.1, cZa cZ (bd 9) 2 ms.2.2.1, cIa cI (bd 10) 2 ms.2.2.2.1, cIa cI (bd 11) 2 ms.2.2.2.2.1, cZa cZ (bd 12) 2 ms.2.2.2.2.2.1, cJa cJ (bd 13) 6 ms.2.2.2.2.2.2, cJa cJ (bd 14) 16 mo.2.2.1] := hD
            generalize hq1003 : fM_planIfNear k mc mw mp me1 mo ms 0 i (((((nI i) * mc.2.2.2) / (nI k)) - early) - mc.2.1) = q1003 at hP hD 
            have hP : va_P D vwCl [cMd bd k mc mw q1003 mo, cIa cI (bd 1) 128 mp, cZa cZ (bd 2) 30 q1003.1, cJa cJ (bd 3) 30 q1003.2.1, cIa cI (bd 4) 30 q1003.2.2.1, cZa cZ (bd 5) 6 mo.1, cZa cZ (bd 6) 6 mo.2.1, cZa cZ (bd 7) 2 ms.1, cIa cI (bd 8) 2 ms.2.1, cZa cZ (bd 9) 2 ms.2.2.1, cIa cI (bd 10) 2 ms.2.2.2.1, cIa cI (bd 11) 2 ms.2.2.2.2.1, cZa cZ (bd 12) 2 ms.2.2.2.2.2.1, cJa cJ (bd 13) 6 ms.2.2.2.2.2.2, cJa cJ (bd 14) 16 mo.2.2.1] H := hP
            have hD : va_D A [cMd bd k mc mw q1003 mo, cIa cI (bd 1) 128 mp, cZa cZ (bd 2) 30 q1003.1, cJa cJ (bd 3) 30 q1003.2.1, cIa cI (bd 4) 30 q1003.2.2.1, cZa cZ (bd 5) 6 mo.1, cZa cZ (bd 6) 6 mo.2.1, cZa cZ (bd 7) 2 ms.1, cIa cI (bd 8) 2 ms.2.1, cZa cZ (bd 9) 2 ms.2.2.1, cIa cI (bd 10) 2 ms.2.2.2.1, cIa cI (bd 11) 2 ms.2.2.2.2.1, cZa cZ (bd 12) 2 ms.2.2.2.2.2.1, cJa cJ (bd 13) 6 ms.2.2.2.2.2.2, cJa cJ (bd 14) 16 mo.2.2.1] := hD
            refine lv_aload_n hx hb dM_planAll_105 rfl (lv_at hl 4 rfl) ?_
            refine lv_iconst (v := (1 : Int32)) hx hb dM_planAll_106 (by decide) ?_
            refine lv_iload hx hb dM_planAll_107 (lv_at hl 1 rfl) ?_
            refine lv_iload hx hb dM_planAll_109 (lv_at hl 0 rfl) ?_
            refine lv_iload_n hx hb dM_planAll_111 rfl (lv_at hl 2 rfl) ?_
            refine lv_isub hx hb dM_planAll_112 ?_
            refine k_ca0 (wc := [cMd bd k mc mw q1003 mo, cIa cI (bd 1) 128 mp, cZa cZ (bd 2) 30 q1003.1, cJa cJ (bd 3) 30 q1003.2.1, cIa cI (bd 4) 30 q1003.2.2.1, cZa cZ (bd 5) 6 mo.1, cZa cZ (bd 6) 6 mo.2.1, cZa cZ (bd 7) 2 ms.1, cIa cI (bd 8) 2 ms.2.1, cZa cZ (bd 9) 2 ms.2.2.1, cIa cI (bd 10) 2 ms.2.2.2.1, cIa cI (bd 11) 2 ms.2.2.2.2.1, cZa cZ (bd 12) 2 ms.2.2.2.2.2.1, cJa cJ (bd 13) 6 ms.2.2.2.2.2.2, cJa cJ (bd 14) 16 mo.2.2.1]) (wr := []) (va_runV (As := [.int (nI 1), .int (nI i), .int ((((nI i) * mc.2.2.2) / (nI k)) - early)]) (rest := []) ⟨hx, hb, hml, hown, hts⟩ (ctM_planIfNear l D cZ cI cJ tL tH H.size bd k mc mw mp q1003 mo ms 1 i ((((nI i) * mc.2.2.2) / (nI k)) - early) hk (by omega)) (cwM_202 hts hN rfl rfl ⟨Nat.le_of_ble_eq_true rfl, Nat.le_of_ble_eq_true rfl⟩) (k_preV hK hN hT hA hS hP hD [0, 1, 2, 3, 4, 5, 6, 7, 8, 9, 10, 11, 12, 13, 14] rfl (by decide) 0 rfl rfl) rfl rfl hl.1 rfl (lv_room (Nat.le_of_ble_eq_true rfl)) dM_planAll_113 ⟨Nat.zero_le _, Nat.zero_le _⟩) hP hD hS hA [0, 1, 2, 3, 4, 5, 6, 7, 8, 9, 10, 11, 12, 13, 14] [] rfl rfl (by decide) (by decide) (fun _ H locs hP hD hS => ?_)
            refine W.eq (g2 := F0 m 116 ls []) rfl ?_
            have hP : va_P D vwCl [cMd bd k mc mw (fM_planIfNear k mc mw mp q1003 mo ms 1 i ((((nI i) * mc.2.2.2) / (nI k)) - early)) mo, cIa cI (bd 1) 128 mp, cZa cZ (bd 2) 30 ((fM_planIfNear k mc mw mp q1003 mo ms 1 i ((((nI i) * mc.2.2.2) / (nI k)) - early)).1), cJa cJ (bd 3) 30 ((fM_planIfNear k mc mw mp q1003 mo ms 1 i ((((nI i) * mc.2.2.2) / (nI k)) - early)).2.1), cIa cI (bd 4) 30 ((fM_planIfNear k mc mw mp q1003 mo ms 1 i ((((nI i) * mc.2.2.2) / (nI k)) - early)).2.2.1), cZa cZ (bd 5) 6 mo.1, cZa cZ (bd 6) 6 mo.2.1, cZa cZ (bd 7) 2 ms.1, cIa cI (bd 8) 2 ms.2.1, cZa cZ (bd 9) 2 ms.2.2.1, cIa cI (bd 10) 2 ms.2.2.2.1, cIa cI (bd 11) 2 ms.2.2.2.2.1, cZa cZ (bd 12) 2 ms.2.2.2.2.2.1, cJa cJ (bd 13) 6 ms.2.2.2.2.2.2, cJa cJ (bd 14) 16 mo.2.2.1] H := hP
            have hD : va_D A [cMd bd k mc mw (fM_planIfNear k mc mw mp q1003 mo ms 1 i ((((nI i) * mc.2.2.2) / (nI k)) - early)) mo, cIa cI (bd 1) 128 mp, cZa cZ (bd 2) 30 ((fM_planIfNear k mc mw mp q1003 mo ms 1 i ((((nI i) * mc.2.2.2) / (nI k)) - early)).1), cJa cJ (bd 3) 30 ((fM_planIfNear k mc mw mp q1003 mo ms 1 i ((((nI i) * mc.2.2.2) / (nI k)) - early)).2.1), cIa cI (bd 4) 30 ((fM_planIfNear k mc mw mp q1003 mo ms 1 i ((((nI i) * mc.2.2.2) / (nI k)) - early)).2.2.1), cZa cZ (bd 5) 6 mo.1, cZa cZ (bd 6) 6 mo.2.1, cZa cZ (bd 7) 2 ms.1, cIa cI (bd 8) 2 ms.2.1, cZa cZ (bd 9) 2 ms.2.2.1, cIa cI (bd 10) 2 ms.2.2.2.1, cIa cI (bd 11) 2 ms.2.2.2.2.1, cZa cZ (bd 12) 2 ms.2.2.2.2.2.1, cJa cJ (bd 13) 6 ms.2.2.2.2.2.2, cJa cJ (bd 14) 16 mo.2.2.1] := hD
            generalize hq1004 : fM_planIfNear k mc mw mp q1003 mo ms 1 i ((((nI i) * mc.2.2.2) / (nI k)) - early) = q1004 at hP hD 
            have hP : va_P D vwCl [cMd bd k mc mw q1004 mo, cIa cI (bd 1) 128 mp, cZa cZ (bd 2) 30 q1004.1, cJa cJ (bd 3) 30 q1004.2.1, cIa cI (bd 4) 30 q1004.2.2.1, cZa cZ (bd 5) 6 mo.1, cZa cZ (bd 6) 6 mo.2.1, cZa cZ (bd 7) 2 ms.1, cIa cI (bd 8) 2 ms.2.1, cZa cZ (bd 9) 2 ms.2.2.1, cIa cI (bd 10) 2 ms.2.2.2.1, cIa cI (bd 11) 2 ms.2.2.2.2.1, cZa cZ (bd 12) 2 ms.2.2.2.2.2.1, cJa cJ (bd 13) 6 ms.2.2.2.2.2.2, cJa cJ (bd 14) 16 mo.2.2.1] H := hP
            have hD : va_D A [cMd bd k mc mw q1004 mo, cIa cI (bd 1) 128 mp, cZa cZ (bd 2) 30 q1004.1, cJa cJ (bd 3) 30 q1004.2.1, cIa cI (bd 4) 30 q1004.2.2.1, cZa cZ (bd 5) 6 mo.1, cZa cZ (bd 6) 6 mo.2.1, cZa cZ (bd 7) 2 ms.1, cIa cI (bd 8) 2 ms.2.1, cZa cZ (bd 9) 2 ms.2.2.1, cIa cI (bd 10) 2 ms.2.2.2.1, cIa cI (bd 11) 2 ms.2.2.2.2.1, cZa cZ (bd 12) 2 ms.2.2.2.2.2.1, cJa cJ (bd 13) 6 ms.2.2.2.2.2.2, cJa cJ (bd 14) 16 mo.2.2.1] := hD
            refine lv_iload_n hx hb dM_planAll_116 rfl (lv_at hl 3 rfl) ?_
            refine lv_if_eq (tgt := 136) hx hb dM_planAll_117 (by decide) (fun h0 => absurd h0 h1001) (fun _ => ?_)
            refine lv_aload_n hx hb dM_planAll_120 rfl (lv_at hl 4 rfl) ?_
            refine lv_iconst (v := (3 : Int32)) hx hb dM_planAll_121 (by decide) ?_
            refine lv_iload hx hb dM_planAll_122 (lv_at hl 1 rfl) ?_
            refine lv_iload hx hb dM_planAll_124 (lv_at hl 0 rfl) ?_
            refine lv_aload_n hx hb dM_planAll_126 rfl (lv_at hl 4 rfl) ?_
            refine gfM_65 hx hb hts hown hN hK hP 0 rfl (v := .int mc.2.2.2) rfl dM_planAll_127 ?_
            refine lv_iconst (v := (2 : Int32)) hx hb dM_planAll_130 (by decide) ?_
            refine lv_idiv hx hb dM_planAll_131 (by decide) ?_
            refine lv_iadd hx hb dM_planAll_132 ?_
            refine k_ca0 (wc := [cMd bd k mc mw q1004 mo, cIa cI (bd 1) 128 mp, cZa cZ (bd 2) 30 q1004.1, cJa cJ (bd 3) 30 q1004.2.1, cIa cI (bd 4) 30 q1004.2.2.1, cZa cZ (bd 5) 6 mo.1, cZa cZ (bd 6) 6 mo.2.1, cZa cZ (bd 7) 2 ms.1, cIa cI (bd 8) 2 ms.2.1, cZa cZ (bd 9) 2 ms.2.2.1, cIa cI (bd 10) 2 ms.2.2.2.1, cIa cI (bd 11) 2 ms.2.2.2.2.1, cZa cZ (bd 12) 2 ms.2.2.2.2.2.1, cJa cJ (bd 13) 6 ms.2.2.2.2.2.2, cJa cJ (bd 14) 16 mo.2.2.1]) (wr := []) (va_runV (As := [.int (nI 3), .int (nI i), .int ((((nI i) * mc.2.2.2) / (nI k)) + (mc.2.2.2 / (2 : Int32)))]) (rest := []) ⟨hx, hb, hml, hown, hts⟩ (ctM_planIfNear l D cZ cI cJ tL tH H.size bd k mc mw mp q1004 mo ms 3 i ((((nI i) * mc.2.2.2) / (nI k)) + (mc.2.2.2 / (2 : Int32))) hk (by omega)) (cwM_202 hts hN rfl rfl ⟨Nat.le_of_ble_eq_true rfl, Nat.le_of_ble_eq_true rfl⟩) (k_preV hK hN hT hA hS hP hD [0, 1, 2, 3, 4, 5, 6, 7, 8, 9, 10, 11, 12, 13, 14] rfl (by decide) 0 rfl rfl) rfl rfl hl.1 rfl (lv_room (Nat.le_of_ble_eq_true rfl)) dM_planAll_133 ⟨Nat.zero_le _, Nat.zero_le _⟩) hP hD hS hA [0, 1, 2, 3, 4, 5, 6, 7, 8, 9, 10, 11, 12, 13, 14] [] rfl rfl (by decide) (by decide) (fun _ H locs hP hD hS => ?_)
            refine W.eq (g2 := F0 m 136 ls []) rfl ?_
            have hP : va_P D vwCl [cMd bd k mc mw (fM_planIfNear k mc mw mp q1004 mo ms 3 i ((((nI i) * mc.2.2.2) / (nI k)) + (mc.2.2.2 / (2 : Int32)))) mo, cIa cI (bd 1) 128 mp, cZa cZ (bd 2) 30 ((fM_planIfNear k mc mw mp q1004 mo ms 3 i ((((nI i) * mc.2.2.2) / (nI k)) + (mc.2.2.2 / (2 : Int32)))).1), cJa cJ (bd 3) 30 ((fM_planIfNear k mc mw mp q1004 mo ms 3 i ((((nI i) * mc.2.2.2) / (nI k)) + (mc.2.2.2 / (2 : Int32)))).2.1), cIa cI (bd 4) 30 ((fM_planIfNear k mc mw mp q1004 mo ms 3 i ((((nI i) * mc.2.2.2) / (nI k)) + (mc.2.2.2 / (2 : Int32)))).2.2.1), cZa cZ (bd 5) 6 mo.1, cZa cZ (bd 6) 6 mo.2.1, cZa cZ (bd 7) 2 ms.1, cIa cI (bd 8) 2 ms.2.1, cZa cZ (bd 9) 2 ms.2.2.1, cIa cI (bd 10) 2 ms.2.2.2.1, cIa cI (bd 11) 2 ms.2.2.2.2.1, cZa cZ (bd 12) 2 ms.2.2.2.2.2.1, cJa cJ (bd 13) 6 ms.2.2.2.2.2.2, cJa cJ (bd 14) 16 mo.2.2.1] H := hP
            have hD : va_D A [cMd bd k mc mw (fM_planIfNear k mc mw mp q1004 mo ms 3 i ((((nI i) * mc.2.2.2) / (nI k)) + (mc.2.2.2 / (2 : Int32)))) mo, cIa cI (bd 1) 128 mp, cZa cZ (bd 2) 30 ((fM_planIfNear k mc mw mp q1004 mo ms 3 i ((((nI i) * mc.2.2.2) / (nI k)) + (mc.2.2.2 / (2 : Int32)))).1), cJa cJ (bd 3) 30 ((fM_planIfNear k mc mw mp q1004 mo ms 3 i ((((nI i) * mc.2.2.2) / (nI k)) + (mc.2.2.2 / (2 : Int32)))).2.1), cIa cI (bd 4) 30 ((fM_planIfNear k mc mw mp q1004 mo ms 3 i ((((nI i) * mc.2.2.2) / (nI k)) + (mc.2.2.2 / (2 : Int32)))).2.2.1), cZa cZ (bd 5) 6 mo.1, cZa cZ (bd 6) 6 mo.2.1, cZa cZ (bd 7) 2 ms.1, cIa cI (bd 8) 2 ms.2.1, cZa cZ (bd 9) 2 ms.2.2.1, cIa cI (bd 10) 2 ms.2.2.2.1, cIa cI (bd 11) 2 ms.2.2.2.2.1, cZa cZ (bd 12) 2 ms.2.2.2.2.2.1, cJa cJ (bd 13) 6 ms.2.2.2.2.2.2, cJa cJ (bd 14) 16 mo.2.2.1] := hD
            generalize hq1005 : fM_planIfNear k mc mw mp q1004 mo ms 3 i ((((nI i) * mc.2.2.2) / (nI k)) + (mc.2.2.2 / (2 : Int32))) = q1005 at hP hD 
            have hP : va_P D vwCl [cMd bd k mc mw q1005 mo, cIa cI (bd 1) 128 mp, cZa cZ (bd 2) 30 q1005.1, cJa cJ (bd 3) 30 q1005.2.1, cIa cI (bd 4) 30 q1005.2.2.1, cZa cZ (bd 5) 6 mo.1, cZa cZ (bd 6) 6 mo.2.1, cZa cZ (bd 7) 2 ms.1, cIa cI (bd 8) 2 ms.2.1, cZa cZ (bd 9) 2 ms.2.2.1, cIa cI (bd 10) 2 ms.2.2.2.1, cIa cI (bd 11) 2 ms.2.2.2.2.1, cZa cZ (bd 12) 2 ms.2.2.2.2.2.1, cJa cJ (bd 13) 6 ms.2.2.2.2.2.2, cJa cJ (bd 14) 16 mo.2.2.1] H := hP
            have hD : va_D A [cMd bd k mc mw q1005 mo, cIa cI (bd 1) 128 mp, cZa cZ (bd 2) 30 q1005.1, cJa cJ (bd 3) 30 q1005.2.1, cIa cI (bd 4) 30 q1005.2.2.1, cZa cZ (bd 5) 6 mo.1, cZa cZ (bd 6) 6 mo.2.1, cZa cZ (bd 7) 2 ms.1, cIa cI (bd 8) 2 ms.2.1, cZa cZ (bd 9) 2 ms.2.2.1, cIa cI (bd 10) 2 ms.2.2.2.1, cIa cI (bd 11) 2 ms.2.2.2.2.1, cZa cZ (bd 12) 2 ms.2.2.2.2.2.1, cJa cJ (bd 13) 6 ms.2.2.2.2.2.2, cJa cJ (bd 14) 16 mo.2.2.1] := hD
            refine lv_iinc (k := 1) (v := nI (i + 1)) (lv' := [(4, .int (nI (i + 1))), (5, .int (((nI i) * mc.2.2.2) / (nI k))), (1, .int early), (3, .int full), (0, .ref (bd 0))]) hx hb dM_planAll_136 hl rfl (nI_1 i) (by decide) rfl (fun ls hl => ?_)
            refine lv_goto (tgt := 62) hx hb dM_planAll_139 (by decide) ?_
            have hl := lv_sub (l' := [(4, .int (nI (i + 1))), (1, .int early), (3, .int full), (0, .ref (bd 0))]) hl [0, 2, 3, 4] rfl
            exact ih (i + 1) early full q1005  ls H _ (by omega) (by simp only [hres, fM_planAll_l, if_neg h1001, hq1003, hq1004, hq1005]) hl hP hD hS
      exact LOOP62 k 0 early (0 : Int32) me  ls H _ (by omega) (by simp only [hres, fM_planAll_j, if_pos h2001]) hl hP hD hS
    · -- not taken at 49
      refine lv_iconst (v := (1 : Int32)) hx hb dM_planAll_53 (by decide) ?_
      refine lv_goto (tgt := 58) hx hb dM_planAll_54 (by decide) ?_
      refine lv_istore_n (lv' := [(3, .int (1 : Int32)), (2, .int limit), (1, .int early), (0, .ref (bd 0))]) hx hb dM_planAll_58 rfl hl (by decide) rfl (fun ls hl => ?_)
      refine lv_iconst (v := (0 : Int32)) hx hb dM_planAll_59 (by decide) ?_
      refine lv_istore (lv' := [(4, .int (0 : Int32)), (3, .int (1 : Int32)), (2, .int limit), (1, .int early), (0, .ref (bd 0))]) hx hb dM_planAll_60 hl (by decide) rfl (fun ls hl => ?_)
      have hl := lv_sub (l' := [(4, .int (0 : Int32)), (1, .int early), (3, .int (1 : Int32)), (0, .ref (bd 0))]) hl [0, 3, 1, 4] rfl
      have LOOP62 : ∀ (fuel : Nat) (i : Nat) (early : Int32) (full : Int32) (me1 : MeT), ∀ (ls : Array Slot) (H : Heap) (locs : List Loc), fuel + i = k → fM_planAll k mc mw mp me mo ms = fM_planAll_l k mc mw mp mo ms  fuel i early full me1 → lv_has ls 6 [(4, .int (nI i)), (1, .int early), (3, .int full), (0, .ref (bd 0))] → va_P D vwCl [cMd bd k mc mw me1 mo, cIa cI (bd 1) 128 mp, cZa cZ (bd 2) 30 me1.1, cJa cJ (bd 3) 30 me1.2.1, cIa cI (bd 4) 30 me1.2.2.1, cZa cZ (bd 5) 6 mo.1, cZa cZ (bd 6) 6 mo.2.1, cZa cZ (bd 7) 2 ms.1, cIa cI (bd 8) 2 ms.2.1, cZa cZ (bd 9) 2 ms.2.2.1, cIa cI (bd 10) 2 ms.2.2.2.1, cIa cI (bd 11) 2 ms.2.2.2.2.1, cZa cZ (bd 12) 2 ms.2.2.2.2.2.1, cJa cJ (bd 13) 6 ms.2.2.2.2.2.2, cJa cJ (bd 14) 16 mo.2.2.1] H → va_D A [cMd bd k mc mw me1 mo, cIa cI (bd 1) 128 mp, cZa cZ (bd 2) 30 me1.1, cJa cJ (bd 3) 30 me1.2.1, cIa cI (bd 4) 30 me1.2.2.1, cZa cZ (bd 5) 6 mo.1, cZa cZ (bd 6) 6 mo.2.1, cZa cZ (bd 7) 2 ms.1, cIa cI (bd 8) 2 ms.2.1, cZa cZ (bd 9) 2 ms.2.2.1, cIa cI (bd 10) 2 ms.2.2.2.1, cIa cI (bd 11) 2 ms.2.2.2.2.1, cZa cZ (bd 12) 2 ms.2.2.2.2.2.1, cJa cJ (bd 13) 6 ms.2.2.2.2.2.2, cJa cJ (bd 14) 16 mo.2.2.1] → va_S A s.heap H locs → W p l e { frames := 3, cells := 0, slots := 0, locals := 78 } s m args below meth c H locs 0 0 (MQ below (QX A D (fun _ : Unit => none) (fun _ : Unit => [cMd bd k mc mw (fM_planAll k mc mw mp me mo ms) mo, cIa cI (bd 1) 128 mp, cZa cZ (bd 2) 30 ((fM_planAll k mc mw mp me mo ms).1), cJa cJ (bd 3) 30 ((fM_planAll k mc mw mp me mo ms).2.1), cIa cI (bd 4) 30 ((fM_planAll k mc mw mp me mo ms).2.2.1), cZa cZ (bd 5) 6 mo.1, cZa cZ (bd 6) 6 mo.2.1, cZa cZ (bd 7) 2 ms.1, cIa cI (bd 8) 2 ms.2.1, cZa cZ (bd 9) 2 ms.2.2.1, cIa cI (bd 10) 2 ms.2.2.2.1, cIa cI (bd 11) 2 ms.2.2.2.2.1, cZa cZ (bd 12) 2 ms.2.2.2.2.2.1, cJa cJ (bd 13) 6 ms.2.2.2.2.2.2, cJa cJ (bd 14) 16 mo.2.2.1])) args s 0 0 A) (F0 m 62 ls []) := by
        intro fuel
        induction fuel with
        | zero =>
          intro i early full me1  ls H locs hm hres hl hP hD hS
          refine lv_iload hx hb dM_planAll_62 (lv_at hl 0 rfl) ?_
          refine lv_aload_n hx hb dM_planAll_64 rfl (lv_at hl 3 rfl) ?_
          refine gfM_68 hx hb hts hown hN hK hP 0 rfl (v := .int (nI k)) rfl dM_planAll_65 ?_
          refine lv_icmp_ge (tgt := 142) hx hb dM_planAll_68 (by decide) (fun _ => ?_) (fun h0 => absurd (nI_le (a := k) (b := i) (by omega) (by omega)) h0)
          exact k_vret hx hb hr hlk hP hD hS dM_planAll_142 () rfl (by simp only [hres, fM_planAll_l])
        | succ fuel ih =>
          intro i early full me1  ls H locs hm hres hl hP hD hS
          refine lv_iload hx hb dM_planAll_62 (lv_at hl 0 rfl) ?_
          refine lv_aload_n hx hb dM_planAll_64 rfl (lv_at hl 3 rfl) ?_
          refine gfM_68 hx hb hts hown hN hK hP 0 rfl (v := .int (nI k)) rfl dM_planAll_65 ?_
          refine lv_icmp_ge (tgt := 142) hx hb dM_planAll_68 (by decide) (fun h0 => absurd h0 (nI_ge (a := i) (b := k) (by omega) (by omega))) (fun _ => ?_)
          refine lv_iload hx hb dM_planAll_71 (lv_at hl 0 rfl) ?_
          refine lv_aload_n hx hb dM_planAll_73 rfl (lv_at hl 3 rfl) ?_
          refine gfM_65 hx hb hts hown hN hK hP 0 rfl (v := .int mc.2.2.2) rfl dM_planAll_74 ?_
          refine lv_imul hx hb dM_planAll_77 ?_
          refine lv_aload_n hx hb dM_planAll_78 rfl (lv_at hl 3 rfl) ?_
          refine gfM_68 hx hb hts hown hN hK hP 0 rfl (v := .int (nI k)) rfl dM_planAll_79 ?_
          refine lv_idiv hx hb dM_planAll_82 (nI_ne0 (by omega) (by omega)) ?_
          refine lv_istore (lv' := [(5, .int (((nI i) * mc.2.2.2) / (nI k))), (4, .int (nI i)), (1, .int early), (3, .int full), (0, .ref (bd 0))]) hx hb dM_planAll_83 hl (by decide) rfl (fun ls hl => ?_)
          refine lv_iload_n hx hb dM_planAll_85 rfl (lv_at hl 3 rfl) ?_
          refine lv_if_eq (tgt := 105) hx hb dM_planAll_86 (by decide) (fun h1001 => ?_) (fun h1001 => ?_)
          · -- taken at 86
            refine lv_aload_n hx hb dM_planAll_105 rfl (lv_at hl 4 rfl) ?_
            refine lv_iconst (v := (1 : Int32)) hx hb dM_planAll_106 (by decide) ?_
            refine lv_iload hx hb dM_planAll_107 (lv_at hl 1 rfl) ?_
            refine lv_iload hx hb dM_planAll_109 (lv_at hl 0 rfl) ?_
            refine lv_iload_n hx hb dM_planAll_111 rfl (lv_at hl 2 rfl) ?_
            refine lv_isub hx hb dM_planAll_112 ?_
            refine k_ca0 (wc := [cMd bd k mc mw me1 mo, cIa cI (bd 1) 128 mp, cZa cZ (bd 2) 30 me1.1, cJa cJ (bd 3) 30 me1.2.1, cIa cI (bd 4) 30 me1.2.2.1, cZa cZ (bd 5) 6 mo.1, cZa cZ (bd 6) 6 mo.2.1, cZa cZ (bd 7) 2 ms.1, cIa cI (bd 8) 2 ms.2.1, cZa cZ (bd 9) 2 ms.2.2.1, cIa cI (bd 10) 2 ms.2.2.2.1, cIa cI (bd 11) 2 ms.2.2.2.2.1, cZa cZ (bd 12) 2 ms.2.2.2.2.2.1, cJa cJ (bd 13) 6 ms.2.2.2.2.2.2, cJa cJ (bd 14) 16 mo.2.2.1]) (wr := []) (va_runV (As := [.int (nI 1), .int (nI i), .int ((((nI i) * mc.2.2.2) / (nI k)) - early)]) (rest := []) ⟨hx, hb, hml, hown, hts⟩ (ctM_planIfNear l D cZ cI cJ tL tH H.size bd k mc mw mp me1 mo ms 1 i ((((nI i) * mc.2.2.2) / (nI k)) - early) hk (by omega)) (cwM_202 hts hN rfl rfl ⟨Nat.le_of_ble_eq_true rfl, Nat.le_of_ble_eq_true rfl⟩) (k_preV hK hN hT hA hS hP hD [0, 1, 2, 3, 4, 5, 6, 7, 8, 9, 10, 11, 12, 13, 14] rfl (by decide) 0 rfl rfl) rfl rfl hl.1 rfl (lv_room (Nat.le_of_ble_eq_true rfl)) dM_planAll_113 ⟨Nat.zero_le _, Nat.zero_le _⟩) hP hD hS hA [0, 1, 2, 3, 4, 5, 6, 7, 8, 9, 10, 11, 12, 13, 14] [] rfl rfl (by decide) (by decide) (fun _ H locs hP hD hS => ?_)
            refine W.eq (g2 := F0 m 116 ls []) rfl ?_
            have hP : va_P D vwCl [cMd bd k mc mw (fM_planIfNear k mc mw mp me1 mo ms 1 i ((((nI i) * mc.2.2.2) / (nI k)) - early)) mo, cIa cI (bd 1) 128 mp, cZa cZ (bd 2) 30 ((fM_planIfNear k mc mw mp me1 mo ms 1 i ((((nI i) * mc.2.2.2) / (nI k)) - early)).1), cJa cJ (bd 3) 30 ((fM_planIfNear k mc mw mp me1 mo ms 1 i ((((nI i) * mc.2.2.2) / (nI k)) - early)).2.1), cIa cI (bd 4) 30 ((fM_planIfNear k mc mw mp me1 mo ms 1 i ((((nI i) * mc.2.2.2) / (nI k)) - early)).2.2.1), cZa cZ (bd 5) 6 mo.1, cZa cZ (bd 6) 6 mo.2.1, cZa cZ (bd 7) 2 ms.1, cIa cI (bd 8) 2 ms.2.1, cZa cZ (bd 9) 2 ms.2.2.1, cIa cI (bd 10) 2 ms.2.2.2.1, cIa cI (bd 11) 2 ms.2.2.2.2.1, cZa cZ (bd 12) 2 ms.2.2.2.2.2.1, cJa cJ (bd 13) 6 ms.2.2.2.2.2.2, cJa cJ (bd 14) 16 mo.2.2.1] H := hP
            have hD : va_D A [cMd bd k mc mw (fM_planIfNear k mc mw mp me1 mo ms 1 i ((((nI i) * mc.2.2.2) / (nI k)) - early)) mo, cIa cI (bd 1) 128 mp, cZa cZ (bd 2) 30 ((fM_planIfNear k mc mw mp me1 mo ms 1 i ((((nI i) * mc.2.2.2) / (nI k)) - early)).1), cJa cJ (bd 3) 30 ((fM_planIfNear k mc mw mp me1 mo ms 1 i ((((nI i) * mc.2.2.2) / (nI k)) - early)).2.1), cIa cI (bd 4) 30 ((fM_planIfNear k mc mw mp me1 mo ms 1 i ((((nI i) * mc.2.2.2) / (nI k)) - early)).2.2.1), cZa cZ (bd 5) 6 mo.1, cZa cZ (bd 6) 6 mo.2.1, cZa cZ (bd 7) 2 ms.1, cIa cI (bd 8) 2 ms.2.1, cZa cZ (bd 9) 2 ms.2.2.1, cIa cI (bd 10) 2 ms.2.2.2.1, cIa cI (bd 11) 2 ms.2.2.2.2.1, cZa cZ (bd 12) 2 ms.2.2.2.2.2.1, cJa cJ (bd 13) 6 ms.2.2.2.2.2.2, cJa cJ (bd 14) 16 mo.2.2.1] := hD
            generalize hq1002 : fM_planIfNear k mc mw mp me1 mo ms 1 i ((((nI i) * mc.2.2.2) / (nI k)) - early) = q1002 at hP hD 
            have hP : va_P D vwCl [cMd bd k mc mw q1002 mo, cIa cI (bd 1) 128 mp, cZa cZ (bd 2) 30 q1002.1, cJa cJ (bd 3) 30 q1002.2.1, cIa cI (bd 4) 30 q1002.2.2.1, cZa cZ (bd 5) 6 mo.1, cZa cZ (bd 6) 6 mo.2.1, cZa cZ (bd 7) 2 ms.1, cIa cI (bd 8) 2 ms.2.1, cZa cZ (bd 9) 2 ms.2.2.1, cIa cI (bd 10) 2 ms.2.2.2.1, cIa cI (bd 11) 2 ms.2.2.2.2.1, cZa cZ (bd 12) 2 ms.2.2.2.2.2.1, cJa cJ (bd 13) 6 ms.2.2.2.2.2.2, cJa cJ (bd 14) 16 mo.2.2.1] H := hP
            have hD : va_D A [cMd bd k mc mw q1002 mo, cIa cI (bd 1) 128 mp, cZa cZ (bd 2) 30 q1002.1, cJa cJ (bd 3) 30 q1002.2.1, cIa cI (bd 4) 30 q1002.2.2.1, cZa cZ (bd 5) 6 mo.1, cZa cZ (bd 6) 6 mo.2.1, cZa cZ (bd 7) 2 ms.1, cIa cI (bd 8) 2 ms.2.1, cZa cZ (bd 9) 2 ms.2.2.1, cIa cI (bd 10) 2 ms.2.2.2.1, cIa cI (bd 11) 2 ms.2.2.2.2.1, cZa cZ (bd 12) 2 ms.2.2.2.2.2.1, cJa cJ (bd 13) 6 ms.2.2.2.2.2.2, cJa cJ (bd 14) 16 mo.2.2.1] := hD
            refine lv_iload_n hx hb dM_planAll_116 rfl (lv_at hl 3 rfl) ?_
            refine lv_if_eq (tgt := 136) hx hb dM_planAll_117 (by decide) (fun _ => ?_) (fun h0 => absurd h1001 h0)
            refine lv_iinc (k := 1) (v := nI (i + 1)) (lv' := [(4, .int (nI (i + 1))), (5, .int (((nI i) * mc.2.2.2) / (nI k))), (1, .int early), (3, .int full), (0, .ref (bd 0))]) hx hb dM_planAll_136 hl rfl (nI_1 i) (by decide) rfl (fun ls hl => ?_)
            refine lv_goto (tgt := 62) hx hb dM_planAll_139 (by decide) ?_
            have hl := lv_sub (l' := [(4, .int (nI (i + 1))), (1, .int early), (3, .int full), (0, .ref (bd 0))]) hl [0, 2, 3, 4] rfl
            exact ih (i + 1) early full q1002  ls H _ (by omega) (by simp only [hres, fM_planAll_l, if_pos h1001, hq1002]) hl hP hD hS
          · -- not taken at 86
            refine lv_aload_n hx hb dM_planAll_89 rfl (lv_at hl 4 rfl) ?_
            refine lv_iconst (v := (0 : Int32)) hx hb dM_planAll_90 (by decide) ?_
            refine lv_iload hx hb dM_planAll_91 (lv_at hl 1 rfl) ?_
            refine lv_iload hx hb dM_planAll_93 (lv_at hl 0 rfl) ?_
            refine lv_iload_n hx hb dM_planAll_95 rfl (lv_at hl 2 rfl) ?_
            refine lv_isub hx hb dM_planAll_96 ?_
            refine lv_aload_n hx hb dM_planAll_97 rfl (lv_at hl 4 rfl) ?_
            refine gfM_71 hx hb hts hown hN hK hP 0 rfl (v := .int mc.2.1) rfl dM_planAll_98 ?_
            refine lv_isub hx hb dM_planAll_101 ?_
            refine k_ca0 (wc := [cMd bd k mc mw me1 mo, cIa cI (bd 1) 128 mp, cZa cZ (bd 2) 30 me1.1, cJa cJ (bd 3) 30 me1.2.1, cIa cI (bd 4) 30 me1.2.2.1, cZa cZ (bd 5) 6 mo.1, cZa cZ (bd 6) 6 mo.2.1, cZa cZ (bd 7) 2 ms.1, cIa cI (bd 8) 2 ms.2.1, cZa cZ (bd 9) 2 ms.2.2.1, cIa cI (bd 10) 2 ms.2.2.2.1, cIa cI (bd 11) 2 ms.2.2.2.2.1, cZa cZ (bd 12) 2 ms.2.2.2.2.2.1, cJa cJ (bd 13) 6 ms.2.2.2.2.2.2, cJa cJ (bd 14) 16 mo.2.2.1]) (wr := []) (va_runV (As := [.int (nI 0), .int (nI i), .int (((((nI i) * mc.2.2.2) / (nI k)) - early) - mc.2.1)]) (rest := []) ⟨hx, hb, hml, hown, hts⟩ (ctM_planIfNear l D cZ cI cJ tL tH H.size bd k mc mw mp me1 mo ms 0 i (((((nI i) * mc.2.2.2) / (nI k)) - early) - mc.2.1) hk (by omega)) (cwM_202 hts hN rfl rfl ⟨Nat.le_of_ble_eq_true rfl, Nat.le_of_ble_eq_true rfl⟩) (k_preV hK hN hT hA hS hP hD [0, 1, 2, 3, 4, 5, 6, 7, 8, 9, 10, 11, 12, 13, 14] rfl (by decide) 0 rfl rfl) rfl rfl hl.1 rfl (lv_room (Nat.le_of_ble_eq_true rfl)) dM_planAll_102 ⟨Nat.zero_le _, Nat.zero_le _⟩) hP hD hS hA [0, 1, 2, 3, 4, 5, 6, 7, 8, 9, 10, 11, 12, 13, 14] [] rfl rfl (by decide) (by decide) (fun _ H locs hP hD hS => ?_)
            refine W.eq (g2 := F0 m 105 ls []) rfl ?_
            have hP : va_P D vwCl [cMd bd k mc mw (fM_planIfNear k mc mw mp me1 mo ms 0 i (((((nI i) * mc.2.2.2) / (nI k)) - early) - mc.2.1)) mo, cIa cI (bd 1) 128 mp, cZa cZ (bd 2) 30 ((fM_planIfNear k mc mw mp me1 mo ms 0 i (((((nI i) * mc.2.2.2) / (nI k)) - early) - mc.2.1)).1), cJa cJ (bd 3) 30 ((fM_planIfNear k mc mw mp me1 mo ms 0 i (((((nI i) * mc.2.2.2) / (nI k)) - early) - mc.2.1)).2.1), cIa cI (bd 4) 30 ((fM_planIfNear k mc mw mp me1 mo ms 0 i (((((nI i) * mc.2.2.2) / (nI k)) - early) - mc.2.1)).2.2.1), cZa cZ (bd 5) 6 mo.1, cZa cZ (bd 6) 6 mo.2.1, cZa cZ (bd 7) 2 ms.1, cIa cI (bd 8) 2 ms.2.1, cZa cZ (bd 9) 2 ms.2.2.1, cIa cI (bd 10) 2 ms.2.2.2.1, cIa cI (bd 11) 2 ms.2.2.2.2.1, cZa cZ (bd 12) 2 ms.2.2.2.2.2.1, cJa cJ (bd 13) 6 ms.2.2.2.2.2.2, cJa cJ (bd 14) 16 mo.2.2.1] H := hP
            have hD : va_D A [cMd bd k mc mw (fM_planIfNear k mc mw mp me1 mo ms 0 i (((((nI i) * mc.2.2.2) / (nI k)) - early) - mc.2.1)) mo, cIa cI (bd 1) 128 mp, cZa cZ (bd 2) 30 ((fM_planIfNear k mc mw mp me1 mo ms 0 i (((((nI i) * mc.2.2.2) / (nI k)) - early) - mc.2.1)).1), cJa cJ (bd 3) 30 ((fM_planIfNear k mc mw mp me1 mo ms 0 i (((((nI i) * mc.2.2.2) / (nI k)) - early) - mc.2.1)).2.1), cIa cI (bd 4) 30 ((fM_planIfNear k mc mw mp me1 mo ms 0 i (((((nI i) * mc.2.2.2) / (nI k)) - early) - mc.2.1)).2.2.1), cZa cZ (bd 5) 6 mo.1, cZa cZ (bd 6) 6 mo.2.1, cZa cZ (bd 7) 2 ms.1, cIa cI (bd 8) 2 ms.2.1, cZa cZ (bd 9) 2 ms.2.2.1, cIa cI (bd 10) 2 ms.2.2.2.1, cIa cI (bd 11) 2 ms.2.2.2.2.1, cZa cZ (bd 12) 2 ms.2.2.2.2.2.1, cJa cJ (bd 13) 6 ms.2.2.2.2.2.2, cJa cJ (bd 14) 16 mo.2.2.1] := hD
            generalize hq1003 : fM_planIfNear k mc mw mp me1 mo ms 0 i (((((nI i) * mc.2.2.2) / (nI k)) - early) - mc.2.1) = q1003 at hP hD 
            have hP : va_P D vwCl [cMd bd k mc mw q1003 mo, cIa cI (bd 1) 128 mp, cZa cZ (bd 2) 30 q1003.1, cJa cJ (bd 3) 30 q1003.2.1, cIa cI (bd 4) 30 q1003.2.2.1, cZa cZ (bd 5) 6 mo.1, cZa cZ (bd 6) 6 mo.2.1, cZa cZ (bd 7) 2 ms.1, cIa cI (bd 8) 2 ms.2.1, cZa cZ (bd 9) 2 ms.2.2.1, cIa cI (bd 10) 2 ms.2.2.2.1, cIa cI (bd 11) 2 ms.2.2.2.2.1, cZa cZ (bd 12) 2 ms.2.2.2.2.2.1, cJa cJ (bd 13) 6 ms.2.2.2.2.2.2, cJa cJ (bd 14) 16 mo.2.2.1] H := hP
            have hD : va_D A [cMd bd k mc mw q1003 mo, cIa cI (bd 1) 128 mp, cZa cZ (bd 2) 30 q1003.1, cJa cJ (bd 3) 30 q1003.2.1, cIa cI (bd 4) 30 q1003.2.2.1, cZa cZ (bd 5) 6 mo.1, cZa cZ (bd 6) 6 mo.2.1, cZa cZ (bd 7) 2 ms.1, cIa cI (bd 8) 2 ms.2.1, cZa cZ (bd 9) 2 ms.2.2.1, cIa cI (bd 10) 2 ms.2.2.2.1, cIa cI (bd 11) 2 ms.2.2.2.2.1, cZa cZ (bd 12) 2 ms.2.2.2.2.2.1, cJa cJ (bd 13) 6 ms.2.2.2.2.2.2, cJa cJ (bd 14) 16 mo.2.2.1] := hD
            refine lv_aload_n hx hb dM_planAll_105 rfl (lv_at hl 4 rfl) ?_
            refine lv_iconst (v := (1 : Int32)) hx hb dM_planAll_106 (by decide) ?_
            refine lv_iload hx hb dM_planAll_107 (lv_at hl 1 rfl) ?_
            refine lv_iload hx hb dM_planAll_109 (lv_at hl 0 rfl) ?_
            refine lv_iload_n hx hb dM_planAll_111 rfl (lv_at hl 2 rfl) ?_
            refine lv_isub hx hb dM_planAll_112 ?_
            refine k_ca0 (wc := [cMd bd k mc mw q1003 mo, cIa cI (bd 1) 128 mp, cZa cZ (bd 2) 30 q1003.1, cJa cJ (bd 3) 30 q1003.2.1, cIa cI (bd 4) 30 q1003.2.2.1, cZa cZ (bd 5) 6 mo.1, cZa cZ (bd 6) 6 mo.2.1, cZa cZ (bd 7) 2 ms.1, cIa cI (bd 8) 2 ms.2.1, cZa cZ (bd 9) 2 ms.2.2.1, cIa cI (bd 10) 2 ms.2.2.2.1, cIa cI (bd 11) 2 ms.2.2.2.2.1, cZa cZ (bd 12) 2 ms.2.2.2.2.2.1, cJa cJ (bd 13) 6 ms.2.2.2.2.2.2, cJa cJ (bd 14) 16 mo.2.2.1]) (wr := []) (va_runV (As := [.int (nI 1), .int (nI i), .int ((((nI i) * mc.2.2.2) / (nI k)) - early)]) (rest := []) ⟨hx, hb, hml, hown, hts⟩ (ctM_planIfNear l D cZ cI cJ tL tH H.size bd k mc mw mp q1003 mo ms 1 i ((((nI i) * mc.2.2.2) / (nI k)) - early) hk (by omega)) (cwM_202 hts hN rfl rfl ⟨Nat.le_of_ble_eq_true rfl, Nat.le_of_ble_eq_true rfl⟩) (k_preV hK hN hT hA hS hP hD [0, 1, 2, 3, 4, 5, 6, 7, 8, 9, 10, 11, 12, 13, 14] rfl (by decide) 0 rfl rfl) rfl rfl hl.1 rfl (lv_room (Nat.le_of_ble_eq_true rfl)) dM_planAll_113 ⟨Nat.zero_le _, Nat.zero_le _⟩) hP hD hS hA [0, 1, 2, 3, 4, 5, 6, 7, 8, 9, 10, 11, 12, 13, 14] [] rfl rfl (by decide) (by decide) (fun _ H locs hP hD hS => ?_)
            refine W.eq (g2 := F0 m 116 ls []) rfl ?_
            have hP : va_P D vwCl [cMd bd k mc mw (fM_planIfNear k mc mw mp q1003 mo ms 1 i ((((nI i) * mc.2.2.2) / (nI k)) - early)) mo, cIa cI (bd 1) 128 mp, cZa cZ (bd 2) 30 ((fM_planIfNear k mc mw mp q1003 mo ms 1 i ((((nI i) * mc.2.2.2) / (nI k)) - early)).1), cJa cJ (bd 3) 30 ((fM_planIfNear k mc mw mp q1003 mo ms 1 i ((((nI i) * mc.2.2.2) / (nI k)) - early)).2.1), cIa cI (bd 4) 30 ((fM_planIfNear k mc mw mp q1003 mo ms 1 i ((((nI i) * mc.2.2.2) / (nI k)) - early)).2.2.1), cZa cZ (bd 5) 6 mo.1, cZa cZ (bd 6) 6 mo.2.1, cZa cZ (bd 7) 2 ms.1, cIa cI (bd 8) 2 ms.2.1, cZa cZ (bd 9) 2 ms.2.2.1, cIa cI (bd 10) 2 ms.2.2.2.1, cIa cI (bd 11) 2 ms.2.2.2.2.1, cZa cZ (bd 12) 2 ms.2.2.2.2.2.1, cJa cJ (bd 13) 6 ms.2.2.2.2.2.2, cJa cJ (bd 14) 16 mo.2.2.1] H := hP
            have hD : va_D A [cMd bd k mc mw (fM_planIfNear k mc mw mp q1003 mo ms 1 i ((((nI i) * mc.2.2.2) / (nI k)) - early)) mo, cIa cI (bd 1) 128 mp, cZa cZ (bd 2) 30 ((fM_planIfNear k mc mw mp q1003 mo ms 1 i ((((nI i) * mc.2.2.2) / (nI k)) - early)).1), cJa cJ (bd 3) 30 ((fM_planIfNear k mc mw mp q1003 mo ms 1 i ((((nI i) * mc.2.2.2) / (nI k)) - early)).2.1), cIa cI (bd 4) 30 ((fM_planIfNear k mc mw mp q1003 mo ms 1 i ((((nI i) * mc.2.2.2) / (nI k)) - early)).2.2.1), cZa cZ (bd 5) 6 mo.1, cZa cZ (bd 6) 6 mo.2.1, cZa cZ (bd 7) 2 ms.1, cIa cI (bd 8) 2 ms.2.1, cZa cZ (bd 9) 2 ms.2.2.1, cIa cI (bd 10) 2 ms.2.2.2.1, cIa cI (bd 11) 2 ms.2.2.2.2.1, cZa cZ (bd 12) 2 ms.2.2.2.2.2.1, cJa cJ (bd 13) 6 ms.2.2.2.2.2.2, cJa cJ (bd 14) 16 mo.2.2.1] := hD
            generalize hq1004 : fM_planIfNear k mc mw mp q1003 mo ms 1 i ((((nI i) * mc.2.2.2) / (nI k)) - early) = q1004 at hP hD 
            have hP : va_P D vwCl [cMd bd k mc mw q1004 mo, cIa cI (bd 1) 128 mp, cZa cZ (bd 2) 30 q1004.1, cJa cJ (bd 3) 30 q1004.2.1, cIa cI (bd 4) 30 q1004.2.2.1, cZa cZ (bd 5) 6 mo.1, cZa cZ (bd 6) 6 mo.2.1, cZa cZ (bd 7) 2 ms.1, cIa cI (bd 8) 2 ms.2.1, cZa cZ (bd 9) 2 ms.2.2.1, cIa cI (bd 10) 2 ms.2.2.2.1, cIa cI (bd 11) 2 ms.2.2.2.2.1, cZa cZ (bd 12) 2 ms.2.2.2.2.2.1, cJa cJ (bd 13) 6 ms.2.2.2.2.2.2, cJa cJ (bd 14) 16 mo.2.2.1] H := hP
            have hD : va_D A [cMd bd k mc mw q1004 mo, cIa cI (bd 1) 128 mp, cZa cZ (bd 2) 30 q1004.1, cJa cJ (bd 3) 30 q1004.2.1, cIa cI (bd 4) 30 q1004.2.2.1, cZa cZ (bd 5) 6 mo.1, cZa cZ (bd 6) 6 mo.2.1, cZa cZ (bd 7) 2 ms.1, cIa cI (bd 8) 2 ms.2.1, cZa cZ (bd 9) 2 ms.2.2.1, cIa cI (bd 10) 2 ms.2.2.2.1, cIa cI (bd 11) 2 ms.2.2.2.2.1, cZa cZ (bd 12) 2 ms.2.2.2.2.2.1, cJa cJ (bd 13) 6 ms.2.2.2.2.2.2, cJa cJ (bd 14) 16 mo.2.2.1] := hD
            refine lv_iload_n hx hb dM_planAll_116 rfl (lv_at hl 3 rfl) ?_
            refine lv_if_eq (tgt := 136) hx hb dM_planAll_117 (by decide) (fun h0 => absurd h0 h1001) (fun _ => ?_)
            refine lv_aload_n hx hb dM_planAll_120 rfl (lv_at hl 4 rfl) ?_
            refine lv_iconst (v := (3 : Int32)) hx hb dM_planAll_121 (by decide) ?_
            refine lv_iload hx hb dM_planAll_122 (lv_at hl 1 rfl) ?_
            refine lv_iload hx hb dM_planAll_124 (lv_at hl 0 rfl) ?_
            refine lv_aload_n hx hb dM_planAll_126 rfl (lv_at hl 4 rfl) ?_
            refine gfM_65 hx hb hts hown hN hK hP 0 rfl (v := .int mc.2.2.2) rfl dM_planAll_127 ?_
            refine lv_iconst (v := (2 : Int32)) hx hb dM_planAll_130 (by decide) ?_
            refine lv_idiv hx hb dM_planAll_131 (by decide) ?_
            refine lv_iadd hx hb dM_planAll_132 ?_
            refine k_ca0 (wc := [cMd bd k mc mw q1004 mo, cIa cI (bd 1) 128 mp, cZa cZ (bd 2) 30 q1004.1, cJa cJ (bd 3) 30 q1004.2.1, cIa cI (bd 4) 30 q1004.2.2.1, cZa cZ (bd 5) 6 mo.1, cZa cZ (bd 6) 6 mo.2.1, cZa cZ (bd 7) 2 ms.1, cIa cI (bd 8) 2 ms.2.1, cZa cZ (bd 9) 2 ms.2.2.1, cIa cI (bd 10) 2 ms.2.2.2.1, cIa cI (bd 11) 2 ms.2.2.2.2.1, cZa cZ (bd 12) 2 ms.2.2.2.2.2.1, cJa cJ (bd 13) 6 ms.2.2.2.2.2.2, cJa cJ (bd 14) 16 mo.2.2.1]) (wr := []) (va_runV (As := [.int (nI 3), .int (nI i), .int ((((nI i) * mc.2.2.2) / (nI k)) + (mc.2.2.2 / (2 : Int32)))]) (rest := []) ⟨hx, hb, hml, hown, hts⟩ (ctM_planIfNear l D cZ cI cJ tL tH H.size bd k mc mw mp q1004 mo ms 3 i ((((nI i) * mc.2.2.2) / (nI k)) + (mc.2.2.2 / (2 : Int32))) hk (by omega)) (cwM_202 hts hN rfl rfl ⟨Nat.le_of_ble_eq_true rfl, Nat.le_of_ble_eq_true rfl⟩) (k_preV hK hN hT hA hS hP hD [0, 1, 2, 3, 4, 5, 6, 7, 8, 9, 10, 11, 12, 13, 14] rfl (by decide) 0 rfl rfl) rfl rfl hl.1 rfl (lv_room (Nat.le_of_ble_eq_true rfl)) dM_planAll_133 ⟨Nat.zero_le _, Nat.zero_le _⟩) hP hD hS hA [0, 1, 2, 3, 4, 5, 6, 7, 8, 9, 10, 11, 12, 13, 14] [] rfl rfl (by decide) (by decide) (fun _ H locs hP hD hS => ?_)
            refine W.eq (g2 := F0 m 136 ls []) rfl ?_
            have hP : va_P D vwCl [cMd bd k mc mw (fM_planIfNear k mc mw mp q1004 mo ms 3 i ((((nI i) * mc.2.2.2) / (nI k)) + (mc.2.2.2 / (2 : Int32)))) mo, cIa cI (bd 1) 128 mp, cZa cZ (bd 2) 30 ((fM_planIfNear k mc mw mp q1004 mo ms 3 i ((((nI i) * mc.2.2.2) / (nI k)) + (mc.2.2.2 / (2 : Int32)))).1), cJa cJ (bd 3) 30 ((fM_planIfNear k mc mw mp q1004 mo ms 3 i ((((nI i) * mc.2.2.2) / (nI k)) + (mc.2.2.2 / (2 : Int32)))).2.1), cIa cI (bd 4) 30 ((fM_planIfNear k mc mw mp q1004 mo ms 3 i ((((nI i) * mc.2.2.2) / (nI k)) + (mc.2.2.2 / (2 : Int32)))).2.2.1), cZa cZ (bd 5) 6 mo.1, cZa cZ (bd 6) 6 mo.2.1, cZa cZ (bd 7) 2 ms.1, cIa cI (bd 8) 2 ms.2.1, cZa cZ (bd 9) 2 ms.2.2.1, cIa cI (bd 10) 2 ms.2.2.2.1, cIa cI (bd 11) 2 ms.2.2.2.2.1, cZa cZ (bd 12) 2 ms.2.2.2.2.2.1, cJa cJ (bd 13) 6 ms.2.2.2.2.2.2, cJa cJ (bd 14) 16 mo.2.2.1] H := hP
            have hD : va_D A [cMd bd k mc mw (fM_planIfNear k mc mw mp q1004 mo ms 3 i ((((nI i) * mc.2.2.2) / (nI k)) + (mc.2.2.2 / (2 : Int32)))) mo, cIa cI (bd 1) 128 mp, cZa cZ (bd 2) 30 ((fM_planIfNear k mc mw mp q1004 mo ms 3 i ((((nI i) * mc.2.2.2) / (nI k)) + (mc.2.2.2 / (2 : Int32)))).1), cJa cJ (bd 3) 30 ((fM_planIfNear k mc mw mp q1004 mo ms 3 i ((((nI i) * mc.2.2.2) / (nI k)) + (mc.2.2.2 / (2 : Int32)))).2.1), cIa cI (bd 4) 30 ((fM_planIfNear k mc mw mp q1004 mo ms 3 i ((((nI i) * mc.2.2.2) / (nI k)) + (mc.2.2.2 / (2 : Int32)))).2.2.1), cZa cZ (bd 5) 6 mo.1, cZa cZ (bd 6) 6 mo.2.1, cZa cZ (bd 7) 2 ms.1, cIa cI (bd 8) 2 ms.2.1, cZa cZ (bd 9) 2 ms.2.2.1, cIa cI (bd 10) 2 ms.2.2.2.1, cIa cI (bd 11) 2 ms.2.2.2.2.1, cZa cZ (bd 12) 2 ms.2.2.2.2.2.1, cJa cJ (bd 13) 6 ms.2.2.2.2.2.2, cJa cJ (bd 14) 16 mo.2.2.1] := hD
            generalize hq1005 : fM_planIfNear k mc mw mp q1004 mo ms 3 i ((((nI i) * mc.2.2.2) / (nI k)) + (mc.2.2.2 / (2 : Int32))) = q1005 at hP hD 
            have hP : va_P D vwCl [cMd bd k mc mw q1005 mo, cIa cI (bd 1) 128 mp, cZa cZ (bd 2) 30 q1005.1, cJa cJ (bd 3) 30 q1005.2.1, cIa cI (bd 4) 30 q1005.2.2.1, cZa cZ (bd 5) 6 mo.1, cZa cZ (bd 6) 6 mo.2.1, cZa cZ (bd 7) 2 ms.1, cIa cI (bd 8) 2 ms.2.1, cZa cZ (bd 9) 2 ms.2.2.1, cIa cI (bd 10) 2 ms.2.2.2.1, cIa cI (bd 11) 2 ms.2.2.2.2.1, cZa cZ (bd 12) 2 ms.2.2.2.2.2.1, cJa cJ (bd 13) 6 ms.2.2.2.2.2.2, cJa cJ (bd 14) 16 mo.2.2.1] H := hP
            have hD : va_D A [cMd bd k mc mw q1005 mo, cIa cI (bd 1) 128 mp, cZa cZ (bd 2) 30 q1005.1, cJa cJ (bd 3) 30 q1005.2.1, cIa cI (bd 4) 30 q1005.2.2.1, cZa cZ (bd 5) 6 mo.1, cZa cZ (bd 6) 6 mo.2.1, cZa cZ (bd 7) 2 ms.1, cIa cI (bd 8) 2 ms.2.1, cZa cZ (bd 9) 2 ms.2.2.1, cIa cI (bd 10) 2 ms.2.2.2.1, cIa cI (bd 11) 2 ms.2.2.2.2.1, cZa cZ (bd 12) 2 ms.2.2.2.2.2.1, cJa cJ (bd 13) 6 ms.2.2.2.2.2.2, cJa cJ (bd 14) 16 mo.2.2.1] := hD
            refine lv_iinc (k := 1) (v := nI (i + 1)) (lv' := [(4, .int (nI (i + 1))), (5, .int (((nI i) * mc.2.2.2) / (nI k))), (1, .int early), (3, .int full), (0, .ref (bd 0))]) hx hb dM_planAll_136 hl rfl (nI_1 i) (by decide) rfl (fun ls hl => ?_)
            refine lv_goto (tgt := 62) hx hb dM_planAll_139 (by decide) ?_
            have hl := lv_sub (l' := [(4, .int (nI (i + 1))), (1, .int early), (3, .int full), (0, .ref (bd 0))]) hl [0, 2, 3, 4] rfl
            exact ih (i + 1) early full q1005  ls H _ (by omega) (by simp only [hres, fM_planAll_l, if_neg h1001, hq1003, hq1004, hq1005]) hl hP hD hS
      exact LOOP62 k 0 early (1 : Int32) me  ls H _ (by omega) (by simp only [hres, fM_planAll_j, if_neg h2001]) hl hP hD hS
  refine lv_aload_n hx hb dM_planAll_6 rfl (lv_at hl 1 rfl) ?_
  refine gfM_49 hx hb hts hown hN hK hP 0 rfl (v := .ref (bd 12)) rfl dM_planAll_7 ?_
  refine lv_iconst (v := (0 : Int32)) hx hb dM_planAll_10 (by decide) ?_
  refine va_zald hx hb hK hP 12 0 rfl rfl (vp_in_nI (n := 0) (N := 2) (by omega) (by omega)) dM_planAll_11 ?_
  refine W.eq (g2 := F0 m 12 ls [.int (ms.2.2.2.2.2.1 0)]) (congrArg (fun z => F0 m 12 ls (.int (ms.2.2.2.2.2.1 z) :: [])) (nI_clamp (n := 0) (by omega))) ?_
  refine lv_if_ne (tgt := 34) hx hb dM_planAll_12 (by decide) (fun h2 => ?_) (fun h2 => ?_)
  · -- taken at 12
    refine lv_sipush (v := (200 : Int32)) hx hb dM_planAll_34 (by decide) ?_
    refine lv_goto (tgt := 42) hx hb dM_planAll_37 (by decide) ?_
    refine lv_istore_n (lv' := [(2, .int (200 : Int32)), (1, .int q1), (0, .ref (bd 0))]) hx hb dM_planAll_42 rfl hl (by decide) rfl (fun ls hl => ?_)
    have hl := lv_sub (l' := [(2, .int (200 : Int32)), (1, .int q1), (0, .ref (bd 0))]) hl [0, 1, 2] rfl
    exact JOIN43 (200 : Int32) q1 ls H _ (by simp only [fM_planAll, hq1, if_neg h2]) hl hP hD hS
  · -- not taken at 12
    refine lv_aload_n hx hb dM_planAll_15 rfl (lv_at hl 1 rfl) ?_
    refine gfM_49 hx hb hts hown hN hK hP 0 rfl (v := .ref (bd 12)) rfl dM_planAll_16 ?_
    refine lv_iconst (v := (1 : Int32)) hx hb dM_planAll_19 (by decide) ?_
    refine va_zald hx hb hK hP 12 0 rfl rfl (vp_in_nI (n := 1) (N := 2) (by omega) (by omega)) dM_planAll_20 ?_
    refine W.eq (g2 := F0 m 21 ls [.int (ms.2.2.2.2.2.1 1)]) (congrArg (fun z => F0 m 21 ls (.int (ms.2.2.2.2.2.1 z) :: [])) (nI_clamp (n := 1) (by omega))) ?_
    refine lv_if_ne (tgt := 34) hx hb dM_planAll_21 (by decide) (fun h3 => ?_) (fun h3 => ?_)
    · -- taken at 21
      refine lv_sipush (v := (200 : Int32)) hx hb dM_planAll_34 (by decide) ?_
      refine lv_goto (tgt := 42) hx hb dM_planAll_37 (by decide) ?_
      refine lv_istore_n (lv' := [(2, .int (200 : Int32)), (1, .int q1), (0, .ref (bd 0))]) hx hb dM_planAll_42 rfl hl (by decide) rfl (fun ls hl => ?_)
      have hl := lv_sub (l' := [(2, .int (200 : Int32)), (1, .int q1), (0, .ref (bd 0))]) hl [0, 1, 2] rfl
      exact JOIN43 (200 : Int32) q1 ls H _ (by simp only [fM_planAll, hq1, if_pos h2, if_neg h3]) hl hP hD hS
    · -- not taken at 21
      refine lv_aload_n hx hb dM_planAll_24 rfl (lv_at hl 1 rfl) ?_
      refine lv_iconst (v := (1 : Int32)) hx hb dM_planAll_25 (by decide) ?_
      refine k_ca0 (wc := [cMd bd k mc mw me mo, cIa cI (bd 1) 128 mp, cZa cZ (bd 2) 30 me.1, cJa cJ (bd 3) 30 me.2.1, cIa cI (bd 4) 30 me.2.2.1, cZa cZ (bd 5) 6 mo.1, cZa cZ (bd 6) 6 mo.2.1, cZa cZ (bd 7) 2 ms.1, cIa cI (bd 8) 2 ms.2.1, cZa cZ (bd 9) 2 ms.2.2.1, cIa cI (bd 10) 2 ms.2.2.2.1, cIa cI (bd 11) 2 ms.2.2.2.2.1, cZa cZ (bd 12) 2 ms.2.2.2.2.2.1, cJa cJ (bd 13) 6 ms.2.2.2.2.2.2, cJa cJ (bd 14) 16 mo.2.2.1]) (wr := []) (va_runV (As := [.int (nI 1)]) (rest := []) ⟨hx, hb, hml, hown, hts⟩ (ctM_valueOf l D cZ cI cJ tL tH H.size bd k mc mw mp me mo ms 1 hk (by decide)) (cwM_92 hts hN rfl rfl ⟨Nat.le_of_ble_eq_true rfl, Nat.le_of_ble_eq_true rfl⟩) (k_preV hK hN hT hA hS hP hD [0, 1, 2, 3, 4, 5, 6, 7, 8, 9, 10, 11, 12, 13, 14] rfl (by decide) 0 rfl rfl) rfl rfl hl.1 rfl (lv_room (Nat.le_of_ble_eq_true rfl)) dM_planAll_26 ⟨Nat.zero_le _, Nat.zero_le _⟩) hP hD hS hA [0, 1, 2, 3, 4, 5, 6, 7, 8, 9, 10, 11, 12, 13, 14] [] rfl rfl (by decide) (by decide) (fun _ H locs hP hD hS => ?_)
      refine W.eq (g2 := F0 m 29 ls [.int (fM_valueOf k mc mw mp me mo ms 1)]) rfl ?_
      have hP : va_P D vwCl [cMd bd k mc mw me mo, cIa cI (bd 1) 128 mp, cZa cZ (bd 2) 30 me.1, cJa cJ (bd 3) 30 me.2.1, cIa cI (bd 4) 30 me.2.2.1, cZa cZ (bd 5) 6 mo.1, cZa cZ (bd 6) 6 mo.2.1, cZa cZ (bd 7) 2 ms.1, cIa cI (bd 8) 2 ms.2.1, cZa cZ (bd 9) 2 ms.2.2.1, cIa cI (bd 10) 2 ms.2.2.2.1, cIa cI (bd 11) 2 ms.2.2.2.2.1, cZa cZ (bd 12) 2 ms.2.2.2.2.2.1, cJa cJ (bd 13) 6 ms.2.2.2.2.2.2, cJa cJ (bd 14) 16 mo.2.2.1] H := hP
      have hD : va_D A [cMd bd k mc mw me mo, cIa cI (bd 1) 128 mp, cZa cZ (bd 2) 30 me.1, cJa cJ (bd 3) 30 me.2.1, cIa cI (bd 4) 30 me.2.2.1, cZa cZ (bd 5) 6 mo.1, cZa cZ (bd 6) 6 mo.2.1, cZa cZ (bd 7) 2 ms.1, cIa cI (bd 8) 2 ms.2.1, cZa cZ (bd 9) 2 ms.2.2.1, cIa cI (bd 10) 2 ms.2.2.2.1, cIa cI (bd 11) 2 ms.2.2.2.2.1, cZa cZ (bd 12) 2 ms.2.2.2.2.2.1, cJa cJ (bd 13) 6 ms.2.2.2.2.2.2, cJa cJ (bd 14) 16 mo.2.2.1] := hD
      generalize hq4 : fM_valueOf k mc mw mp me mo ms 1 = q4 at ⊢
      refine lv_bipush (v := (110 : Int32)) hx hb dM_planAll_29 (by decide) ?_
      refine lv_icmp_le (tgt := 40) hx hb dM_planAll_31 (by decide) (fun h5 => ?_) (fun h5 => ?_)
      · -- taken at 31
        refine lv_bipush (v := (100 : Int32)) hx hb dM_planAll_40 (by decide) ?_
        refine lv_istore_n (lv' := [(2, .int (100 : Int32)), (1, .int q1), (0, .ref (bd 0))]) hx hb dM_planAll_42 rfl hl (by decide) rfl (fun ls hl => ?_)
        have hl := lv_sub (l' := [(2, .int (100 : Int32)), (1, .int q1), (0, .ref (bd 0))]) hl [0, 1, 2] rfl
        exact JOIN43 (100 : Int32) q1 ls H _ (by simp only [fM_planAll, hq1, if_pos h2, if_pos h3, hq4, if_pos h5]) hl hP hD hS
      · -- not taken at 31
        refine lv_sipush (v := (200 : Int32)) hx hb dM_planAll_34 (by decide) ?_
        refine lv_goto (tgt := 42) hx hb dM_planAll_37 (by decide) ?_
        refine lv_istore_n (lv' := [(2, .int (200 : Int32)), (1, .int q1), (0, .ref (bd 0))]) hx hb dM_planAll_42 rfl hl (by decide) rfl (fun ls hl => ?_)
        have hl := lv_sub (l' := [(2, .int (200 : Int32)), (1, .int q1), (0, .ref (bd 0))]) hl [0, 1, 2] rfl
        exact JOIN43 (200 : Int32) q1 ls H _ (by simp only [fM_planAll, hq1, if_pos h2, if_pos h3, hq4, if_neg h5]) hl hP hD hS

def fM_oneEdge (k : Nat) (mc : McT) (mw : MwT) (mp : MpT) (me : MeT) (mo : MoT) (ms : MsT) (af : Int32) : MwT × MeT × MoT :=
  let q1 := fM_advance k mc mw mp me mo ms (mw.1 + af.toInt64)
  if q1.1.2.1 = 0 then
    ((q1.1.1, (1 : Int32), q1.1.1, q1.1.2.2.2.1, q1.1.2.2.2.2.1, q1.1.2.2.2.2.2.1, q1.1.2.2.2.2.2.2.1, q1.1.2.2.2.2.2.2.2), q1.2.1, q1.2.2)
  else
    if q1.1.2.2.2.2.1 = 0 then
      ((q1.1.1, q1.1.2.1, q1.1.1, q1.1.1 - q1.1.2.2.1, (1 : Int32), q1.1.2.2.2.2.2.1, q1.1.2.2.2.2.2.2.1, q1.1.2.2.2.2.2.2.2), q1.2.1, q1.2.2)
    else
      if (q1.1.1 - q1.1.2.2.1) < ((2 : Int64) * q1.1.2.2.2.1) then
        if ((2 : Int64) * (q1.1.1 - q1.1.2.2.1)) ≤ q1.1.2.2.2.1 then
          let q6 := fM_lose k mc (q1.1.1, q1.1.2.1, q1.1.1, q1.1.2.2.2.1, q1.1.2.2.2.2.1, q1.1.2.2.2.2.2.1, q1.1.2.2.2.2.2.2.1, q1.1.2.2.2.2.2.2.2) mp q1.2.1 q1.2.2 ms (1 : Int32)
          if q6.1.2.2.2.2.1 = (3 : Int32) then
            if q6.1.2.2.2.2.2.2.1 < 0 then
              let q10 := fM_advance k mc q6.1 mp q6.2.1 q6.2.2 ms q6.1.1
              (q10.1, q10.2.1, q10.2.2)
            else
              let q11 := fM_planAll k mc q6.1 mp q6.2.1 q6.2.2 ms
              let q12 := fM_advance k mc q6.1 mp q11 q6.2.2 ms q6.1.1
              (q12.1, q12.2.1, q12.2.2)
          else
            let q8 := fM_advance k mc q6.1 mp q6.2.1 q6.2.2 ms q6.1.1
            (q8.1, q8.2.1, q8.2.2)
        else
          let q13 := fM_plainInterval k mc (q1.1.1, q1.1.2.1, q1.1.1, q1.1.2.2.2.1, q1.1.2.2.2.2.1, q1.1.2.2.2.2.2.1, q1.1.2.2.2.2.2.2.1, q1.1.2.2.2.2.2.2.2) mp q1.2.1 q1.2.2 ms (q1.1.1 - q1.1.2.2.1)
          if q13.1.2.2.2.2.1 = (3 : Int32) then
            if q13.1.2.2.2.2.2.2.1 < 0 then
              let q17 := fM_advance k mc q13.1 mp q13.2.1 q13.2.2 ms q13.1.1
              (q17.1, q17.2.1, q17.2.2)
            else
              let q18 := fM_planAll k mc q13.1 mp q13.2.1 q13.2.2 ms
              let q19 := fM_advance k mc q13.1 mp q18 q13.2.2 ms q13.1.1
              (q19.1, q19.2.1, q19.2.2)
          else
            let q15 := fM_advance k mc q13.1 mp q13.2.1 q13.2.2 ms q13.1.1
            (q15.1, q15.2.1, q15.2.2)
      else
        let q20 := fM_longInterval k mc (q1.1.1, q1.1.2.1, q1.1.1, q1.1.2.2.2.1, q1.1.2.2.2.2.1, q1.1.2.2.2.2.2.1, q1.1.2.2.2.2.2.2.1, q1.1.2.2.2.2.2.2.2) mp q1.2.1 q1.2.2 ms (q1.1.1 - q1.1.2.2.1)
        if q20.1.2.2.2.2.1 = (3 : Int32) then
          if q20.1.2.2.2.2.2.2.1 < 0 then
            let q24 := fM_advance k mc q20.1 mp q20.2.1 q20.2.2 ms q20.1.1
            (q24.1, q24.2.1, q24.2.2)
          else
            let q25 := fM_planAll k mc q20.1 mp q20.2.1 q20.2.2 ms
            let q26 := fM_advance k mc q20.1 mp q25 q20.2.2 ms q20.1.1
            (q26.1, q26.2.1, q26.2.2)
        else
          let q22 := fM_advance k mc q20.1 mp q20.2.1 q20.2.2 ms q20.1.1
          (q22.1, q22.2.1, q22.2.2)
set_option maxRecDepth 100000 in
set_option maxHeartbeats 4000000 in
theorem ctM_oneEdge (l : Launch) (D : va_G) (cZ cI cJ : ClassId) (tL tH : Nat) (sz : Nat) (bd : Nat → Nat) (k : Nat) (mc : McT) (mw : MwT) (mp : MpT) (me : MeT) (mo : MoT) (ms : MsT) (af : Int32)  (hk : 0 < k ∧ k ≤ 6) : Ct l yM_oneEdge wM_oneEdge ({ frames := 6, cells := 0, slots := 0, locals := 153 }) D (tyG cZ cI cJ) tL tH [.ref (bd 0), .int af] sz [cMd bd k mc mw me mo, cIa cI (bd 1) 128 mp, cZa cZ (bd 2) 30 me.1, cJa cJ (bd 3) 30 me.2.1, cIa cI (bd 4) 30 me.2.2.1, cZa cZ (bd 5) 6 mo.1, cZa cZ (bd 6) 6 mo.2.1, cZa cZ (bd 7) 2 ms.1, cIa cI (bd 8) 2 ms.2.1, cZa cZ (bd 9) 2 ms.2.2.1, cIa cI (bd 10) 2 ms.2.2.2.1, cIa cI (bd 11) 2 ms.2.2.2.2.1, cZa cZ (bd 12) 2 ms.2.2.2.2.2.1, cJa cJ (bd 13) 6 ms.2.2.2.2.2.2, cJa cJ (bd 14) 16 mo.2.2.1] (fun _ : Unit => none) (fun _ : Unit => [cMd bd k mc ((fM_oneEdge k mc mw mp me mo ms af).1) ((fM_oneEdge k mc mw mp me mo ms af).2.1) ((fM_oneEdge k mc mw mp me mo ms af).2.2), cIa cI (bd 1) 128 mp, cZa cZ (bd 2) 30 (((fM_oneEdge k mc mw mp me mo ms af).2.1).1), cJa cJ (bd 3) 30 (((fM_oneEdge k mc mw mp me mo ms af).2.1).2.1), cIa cI (bd 4) 30 (((fM_oneEdge k mc mw mp me mo ms af).2.1).2.2.1), cZa cZ (bd 5) 6 (((fM_oneEdge k mc mw mp me mo ms af).2.2).1), cZa cZ (bd 6) 6 (((fM_oneEdge k mc mw mp me mo ms af).2.2).2.1), cZa cZ (bd 7) 2 ms.1, cIa cI (bd 8) 2 ms.2.1, cZa cZ (bd 9) 2 ms.2.2.1, cIa cI (bd 10) 2 ms.2.2.2.1, cIa cI (bd 11) 2 ms.2.2.2.2.1, cZa cZ (bd 12) 2 ms.2.2.2.2.2.1, cJa cJ (bd 13) 6 ms.2.2.2.2.2.2, cJa cJ (bd 14) 16 (((fM_oneEdge k mc mw mp me mo ms af).2.2).2.2.1)]) 0 0 := by
  refine k_go (by decide +kernel) (Nat.le_of_ble_eq_true rfl) ?_
  intro p e s m args below meth c A ls H hx hb hr hml hts hown hlk hnm hK hN hT hA hS hP hD hl
  have hown : s.vm.findClass "ToothWheelTimerModel" = some m.cls := hown
  have hlk : meth.locks = false := hlk
  have hl : lv_has ls 4 [(0, .ref (bd 0)), (1, .int af)] := hl
  refine lv_aload_n hx hb dM_oneEdge_0 rfl (lv_at hl 0 rfl) ?_
  refine lv_aload_n hx hb dM_oneEdge_1 rfl (lv_at hl 0 rfl) ?_
  refine gfM_111 hx hb hts hown hN hK hP 0 rfl (v := .long mw.1) rfl dM_oneEdge_2 ?_
  refine lv_iload_n hx hb dM_oneEdge_5 rfl (lv_at hl 1 rfl) ?_
  refine lv_i2l hx hb dM_oneEdge_6 rfl ?_
  refine lv_ladd hx hb dM_oneEdge_7 ?_
  refine k_ca0 (wc := [cMd bd k mc mw me mo, cIa cI (bd 1) 128 mp, cZa cZ (bd 2) 30 me.1, cJa cJ (bd 3) 30 me.2.1, cIa cI (bd 4) 30 me.2.2.1, cZa cZ (bd 5) 6 mo.1, cZa cZ (bd 6) 6 mo.2.1, cZa cZ (bd 7) 2 ms.1, cIa cI (bd 8) 2 ms.2.1, cZa cZ (bd 9) 2 ms.2.2.1, cIa cI (bd 10) 2 ms.2.2.2.1, cIa cI (bd 11) 2 ms.2.2.2.2.1, cZa cZ (bd 12) 2 ms.2.2.2.2.2.1, cJa cJ (bd 13) 6 ms.2.2.2.2.2.2, cJa cJ (bd 14) 16 mo.2.2.1]) (wr := []) (va_runV (As := [.long (mw.1 + af.toInt64)]) (rest := []) ⟨hx, hb, hml, hown, hts⟩ (ctM_advance l D cZ cI cJ tL tH H.size bd k mc mw mp me mo ms (mw.1 + af.toInt64) hk) (cwM_179 hts hN rfl rfl ⟨Nat.le_of_ble_eq_true rfl, Nat.le_of_ble_eq_true rfl⟩) (k_preV hK hN hT hA hS hP hD [0, 1, 2, 3, 4, 5, 6, 7, 8, 9, 10, 11, 12, 13, 14] rfl (by decide) 0 rfl rfl) rfl rfl hl.1 rfl (lv_room (Nat.le_of_ble_eq_true rfl)) dM_oneEdge_8 ⟨Nat.zero_le _, Nat.zero_le _⟩) hP hD hS hA [0, 1, 2, 3, 4, 5, 6, 7, 8, 9, 10, 11, 12, 13, 14] [] rfl rfl (by decide) (by decide) (fun _ H locs hP hD hS => ?_)
  refine W.eq (g2 := F0 m 11 ls []) rfl ?_
  have hP : va_P D vwCl [cMd bd k mc ((fM_advance k mc mw mp me mo ms (mw.1 + af.toInt64)).1) ((fM_advance k mc mw mp me mo ms (mw.1 + af.toInt64)).2.1) ((fM_advance k mc mw mp me mo ms (mw.1 + af.toInt64)).2.2), cIa cI (bd 1) 128 mp, cZa cZ (bd 2) 30 (((fM_advance k mc mw mp me mo ms (mw.1 + af.toInt64)).2.1).1), cJa cJ (bd 3) 30 (((fM_advance k mc mw mp me mo ms (mw.1 + af.toInt64)).2.1).2.1), cIa cI (bd 4) 30 (((fM_advance k mc mw mp me mo ms (mw.1 + af.toInt64)).2.1).2.2.1), cZa cZ (bd 5) 6 (((fM_advance k mc mw mp me mo ms (mw.1 + af.toInt64)).2.2).1), cZa cZ (bd 6) 6 (((fM_advance k mc mw mp me mo ms (mw.1 + af.toInt64)).2.2).2.1), cZa cZ (bd 7) 2 ms.1, cIa cI (bd 8) 2 ms.2.1, cZa cZ (bd 9) 2 ms.2.2.1, cIa cI (bd 10) 2 ms.2.2.2.1, cIa cI (bd 11) 2 ms.2.2.2.2.1, cZa cZ (bd 12) 2 ms.2.2.2.2.2.1, cJa cJ (bd 13) 6 ms.2.2.2.2.2.2, cJa cJ (bd 14) 16 (((fM_advance k mc mw mp me mo ms (mw.1 + af.toInt64)).2.2).2.2.1)] H := hP
  have hD : va_D A [cMd bd k mc ((fM_advance k mc mw mp me mo ms (mw.1 + af.toInt64)).1) ((fM_advance k mc mw mp me mo ms (mw.1 + af.toInt64)).2.1) ((fM_advance k mc mw mp me mo ms (mw.1 + af.toInt64)).2.2), cIa cI (bd 1) 128 mp, cZa cZ (bd 2) 30 (((fM_advance k mc mw mp me mo ms (mw.1 + af.toInt64)).2.1).1), cJa cJ (bd 3) 30 (((fM_advance k mc mw mp me mo ms (mw.1 + af.toInt64)).2.1).2.1), cIa cI (bd 4) 30 (((fM_advance k mc mw mp me mo ms (mw.1 + af.toInt64)).2.1).2.2.1), cZa cZ (bd 5) 6 (((fM_advance k mc mw mp me mo ms (mw.1 + af.toInt64)).2.2).1), cZa cZ (bd 6) 6 (((fM_advance k mc mw mp me mo ms (mw.1 + af.toInt64)).2.2).2.1), cZa cZ (bd 7) 2 ms.1, cIa cI (bd 8) 2 ms.2.1, cZa cZ (bd 9) 2 ms.2.2.1, cIa cI (bd 10) 2 ms.2.2.2.1, cIa cI (bd 11) 2 ms.2.2.2.2.1, cZa cZ (bd 12) 2 ms.2.2.2.2.2.1, cJa cJ (bd 13) 6 ms.2.2.2.2.2.2, cJa cJ (bd 14) 16 (((fM_advance k mc mw mp me mo ms (mw.1 + af.toInt64)).2.2).2.2.1)] := hD
  generalize hq1 : fM_advance k mc mw mp me mo ms (mw.1 + af.toInt64) = q1 at hP hD 
  have hP : va_P D vwCl [cMd bd k mc q1.1 q1.2.1 q1.2.2, cIa cI (bd 1) 128 mp, cZa cZ (bd 2) 30 q1.2.1.1, cJa cJ (bd 3) 30 q1.2.1.2.1, cIa cI (bd 4) 30 q1.2.1.2.2.1, cZa cZ (bd 5) 6 q1.2.2.1, cZa cZ (bd 6) 6 q1.2.2.2.1, cZa cZ (bd 7) 2 ms.1, cIa cI (bd 8) 2 ms.2.1, cZa cZ (bd 9) 2 ms.2.2.1, cIa cI (bd 10) 2 ms.2.2.2.1, cIa cI (bd 11) 2 ms.2.2.2.2.1, cZa cZ (bd 12) 2 ms.2.2.2.2.2.1, cJa cJ (bd 13) 6 ms.2.2.2.2.2.2, cJa cJ (bd 14) 16 q1.2.2.2.2.1] H := hP
  have hD : va_D A [cMd bd k mc q1.1 q1.2.1 q1.2.2, cIa cI (bd 1) 128 mp, cZa cZ (bd 2) 30 q1.2.1.1, cJa cJ (bd 3) 30 q1.2.1.2.1, cIa cI (bd 4) 30 q1.2.1.2.2.1, cZa cZ (bd 5) 6 q1.2.2.1, cZa cZ (bd 6) 6 q1.2.2.2.1, cZa cZ (bd 7) 2 ms.1, cIa cI (bd 8) 2 ms.2.1, cZa cZ (bd 9) 2 ms.2.2.1, cIa cI (bd 10) 2 ms.2.2.2.1, cIa cI (bd 11) 2 ms.2.2.2.2.1, cZa cZ (bd 12) 2 ms.2.2.2.2.2.1, cJa cJ (bd 13) 6 ms.2.2.2.2.2.2, cJa cJ (bd 14) 16 q1.2.2.2.2.1] := hD
  refine lv_aload_n hx hb dM_oneEdge_11 rfl (lv_at hl 0 rfl) ?_
  refine gfM_111 hx hb hts hown hN hK hP 0 rfl (v := .long q1.1.1) rfl dM_oneEdge_12 ?_
  refine lv_aload_n hx hb dM_oneEdge_15 rfl (lv_at hl 0 rfl) ?_
  refine gfM_145 hx hb hts hown hN hK hP 0 rfl (v := .long q1.1.2.2.1) rfl dM_oneEdge_16 ?_
  refine lv_lsub hx hb dM_oneEdge_19 ?_
  refine lv_lstore_n (lv' := [(2, .long (q1.1.1 - q1.1.2.2.1)), (0, .ref (bd 0)), (1, .int af)]) hx hb dM_oneEdge_20 rfl hl (by decide) rfl (fun ls hl => ?_)
  refine lv_aload_n hx hb dM_oneEdge_21 rfl (lv_at hl 1 rfl) ?_
  refine lv_aload_n hx hb dM_oneEdge_22 rfl (lv_at hl 1 rfl) ?_
  refine gfM_111 hx hb hts hown hN hK hP 0 rfl (v := .long q1.1.1) rfl dM_oneEdge_23 ?_
  refine pfM_145 hx hb hts hown hN hK hP hD hS 0 rfl (v := .long q1.1.1) rfl rfl (Nat.le_of_ble_eq_true rfl) dM_oneEdge_26 (fun H locs hP hD hS => ?_)
  have hP : va_P D vwCl [cMd bd k mc (q1.1.1, q1.1.2.1, q1.1.1, q1.1.2.2.2.1, q1.1.2.2.2.2.1, q1.1.2.2.2.2.2.1, q1.1.2.2.2.2.2.2.1, q1.1.2.2.2.2.2.2.2) q1.2.1 q1.2.2, cIa cI (bd 1) 128 mp, cZa cZ (bd 2) 30 q1.2.1.1, cJa cJ (bd 3) 30 q1.2.1.2.1, cIa cI (bd 4) 30 q1.2.1.2.2.1, cZa cZ (bd 5) 6 q1.2.2.1, cZa cZ (bd 6) 6 q1.2.2.2.1, cZa cZ (bd 7) 2 ms.1, cIa cI (bd 8) 2 ms.2.1, cZa cZ (bd 9) 2 ms.2.2.1, cIa cI (bd 10) 2 ms.2.2.2.1, cIa cI (bd 11) 2 ms.2.2.2.2.1, cZa cZ (bd 12) 2 ms.2.2.2.2.2.1, cJa cJ (bd 13) 6 ms.2.2.2.2.2.2, cJa cJ (bd 14) 16 q1.2.2.2.2.1] H := hP
  have hD : va_D A [cMd bd k mc (q1.1.1, q1.1.2.1, q1.1.1, q1.1.2.2.2.1, q1.1.2.2.2.2.1, q1.1.2.2.2.2.2.1, q1.1.2.2.2.2.2.2.1, q1.1.2.2.2.2.2.2.2) q1.2.1 q1.2.2, cIa cI (bd 1) 128 mp, cZa cZ (bd 2) 30 q1.2.1.1, cJa cJ (bd 3) 30 q1.2.1.2.1, cIa cI (bd 4) 30 q1.2.1.2.2.1, cZa cZ (bd 5) 6 q1.2.2.1, cZa cZ (bd 6) 6 q1.2.2.2.1, cZa cZ (bd 7) 2 ms.1, cIa cI (bd 8) 2 ms.2.1, cZa cZ (bd 9) 2 ms.2.2.1, cIa cI (bd 10) 2 ms.2.2.2.1, cIa cI (bd 11) 2 ms.2.2.2.2.1, cZa cZ (bd 12) 2 ms.2.2.2.2.2.1, cJa cJ (bd 13) 6 ms.2.2.2.2.2.2, cJa cJ (bd 14) 16 q1.2.2.2.2.1] := hD
  refine lv_aload_n hx hb dM_oneEdge_29 rfl (lv_at hl 1 rfl) ?_
  refine gfM_161 hx hb hts hown hN hK hP 0 rfl (v := .int q1.1.2.1) rfl dM_oneEdge_30 ?_
  refine lv_if_ne (tgt := 42) hx hb dM_oneEdge_33 (by decide) (fun h2 => ?_) (fun h2 => ?_)
  · -- taken at 33
    refine lv_aload_n hx hb dM_oneEdge_42 rfl (lv_at hl 1 rfl) ?_
    refine gfM_158 hx hb hts hown hN hK hP 0 rfl (v := .int q1.1.2.2.2.2.1) rfl dM_oneEdge_43 ?_
    refine lv_if_ne (tgt := 60) hx hb dM_oneEdge_46 (by decide) (fun h3 => ?_) (fun h3 => ?_)
    · -- taken at 46
      refine lv_lload_n hx hb dM_oneEdge_60 rfl (lv_at hl 0 rfl) ?_
      refine lv_ldc2 (v := (2 : Int64)) hx hb hown (hts _ (wg wd_730 rfl)) dM_oneEdge_61 ?_
      refine lv_aload_n hx hb dM_oneEdge_64 rfl (lv_at hl 1 rfl) ?_
      refine gfM_86 hx hb hts hown hN hK hP 0 rfl (v := .long q1.1.2.2.2.1) rfl dM_oneEdge_65 ?_
      refine lv_lmul hx hb dM_oneEdge_68 ?_
      refine k_lc_lt (tgt := 81) hx hb dM_oneEdge_69 dM_oneEdge_70 (by decide) (fun h4 => ?_) (fun h4 => ?_)
      · -- taken at 69
        refine lv_ldc2 (v := (2 : Int64)) hx hb hown (hts _ (wg wd_730 rfl)) dM_oneEdge_81 ?_
        refine lv_lload_n hx hb dM_oneEdge_84 rfl (lv_at hl 0 rfl) ?_
        refine lv_lmul hx hb dM_oneEdge_85 ?_
        refine lv_aload_n hx hb dM_oneEdge_86 rfl (lv_at hl 1 rfl) ?_
        refine gfM_86 hx hb hts hown hN hK hP 0 rfl (v := .long q1.1.2.2.2.1) rfl dM_oneEdge_87 ?_
        refine k_lc_le (tgt := 102) hx hb dM_oneEdge_90 dM_oneEdge_91 (by decide) (fun h5 => ?_) (fun h5 => ?_)
        · -- taken at 90
          refine lv_aload_n hx hb dM_oneEdge_102 rfl (lv_at hl 1 rfl) ?_
          refine lv_iconst (v := (1 : Int32)) hx hb dM_oneEdge_103 (by decide) ?_
          refine k_ca0 (wc := [cMd bd k mc (q1.1.1, q1.1.2.1, q1.1.1, q1.1.2.2.2.1, q1.1.2.2.2.2.1, q1.1.2.2.2.2.2.1, q1.1.2.2.2.2.2.2.1, q1.1.2.2.2.2.2.2.2) q1.2.1 q1.2.2, cIa cI (bd 1) 128 mp, cZa cZ (bd 2) 30 q1.2.1.1, cJa cJ (bd 3) 30 q1.2.1.2.1, cIa cI (bd 4) 30 q1.2.1.2.2.1, cZa cZ (bd 5) 6 q1.2.2.1, cZa cZ (bd 6) 6 q1.2.2.2.1, cZa cZ (bd 7) 2 ms.1, cIa cI (bd 8) 2 ms.2.1, cZa cZ (bd 9) 2 ms.2.2.1, cIa cI (bd 10) 2 ms.2.2.2.1, cIa cI (bd 11) 2 ms.2.2.2.2.1, cZa cZ (bd 12) 2 ms.2.2.2.2.2.1, cJa cJ (bd 13) 6 ms.2.2.2.2.2.2, cJa cJ (bd 14) 16 q1.2.2.2.2.1]) (wr := []) (va_runV (As := [.int (1 : Int32)]) (rest := []) ⟨hx, hb, hml, hown, hts⟩ (ctM_lose l D cZ cI cJ tL tH H.size bd k mc (q1.1.1, q1.1.2.1, q1.1.1, q1.1.2.2.2.1, q1.1.2.2.2.2.1, q1.1.2.2.2.2.2.1, q1.1.2.2.2.2.2.2.1, q1.1.2.2.2.2.2.2.2) mp q1.2.1 q1.2.2 ms (1 : Int32) hk (Or.inr rfl)) (cwM_154 hts hN rfl rfl ⟨Nat.le_of_ble_eq_true rfl, Nat.le_of_ble_eq_true rfl⟩) (k_preV hK hN hT hA hS hP hD [0, 1, 2, 3, 4, 5, 6, 7, 8, 9, 10, 11, 12, 13, 14] rfl (by decide) 0 rfl rfl) rfl rfl hl.1 rfl (lv_room (Nat.le_of_ble_eq_true rfl)) dM_oneEdge_104 ⟨Nat.zero_le _, Nat.zero_le _⟩) hP hD hS hA [0, 1, 2, 3, 4, 5, 6, 7, 8, 9, 10, 11, 12, 13, 14] [] rfl rfl (by decide) (by decide) (fun _ H locs hP hD hS => ?_)
          refine W.eq (g2 := F0 m 107 ls []) rfl ?_
          have hP : va_P D vwCl [cMd bd k mc ((fM_lose k mc (q1.1.1, q1.1.2.1, q1.1.1, q1.1.2.2.2.1, q1.1.2.2.2.2.1, q1.1.2.2.2.2.2.1, q1.1.2.2.2.2.2.2.1, q1.1.2.2.2.2.2.2.2) mp q1.2.1 q1.2.2 ms (1 : Int32)).1) ((fM_lose k mc (q1.1.1, q1.1.2.1, q1.1.1, q1.1.2.2.2.1, q1.1.2.2.2.2.1, q1.1.2.2.2.2.2.1, q1.1.2.2.2.2.2.2.1, q1.1.2.2.2.2.2.2.2) mp q1.2.1 q1.2.2 ms (1 : Int32)).2.1) ((fM_lose k mc (q1.1.1, q1.1.2.1, q1.1.1, q1.1.2.2.2.1, q1.1.2.2.2.2.1, q1.1.2.2.2.2.2.1, q1.1.2.2.2.2.2.2.1, q1.1.2.2.2.2.2.2.2) mp q1.2.1 q1.2.2 ms (1 : Int32)).2.2), cIa cI (bd 1) 128 mp, cZa cZ (bd 2) 30 (((fM_lose k mc (q1.1.1, q1.1.2.1, q1.1.1, q1.1.2.2.2.1, q1.1.2.2.2.2.1, q1.1.2.2.2.2.2.1, q1.1.2.2.2.2.2.2.1, q1.1.2.2.2.2.2.2.2) mp q1.2.1 q1.2.2 ms (1 : Int32)).2.1).1), cJa cJ (bd 3) 30 (((fM_lose k mc (q1.1.1, q1.1.2.1, q1.1.1, q1.1.2.2.2.1, q1.1.2.2.2.2.1, q1.1.2.2.2.2.2.1, q1.1.2.2.2.2.2.2.1, q1.1.2.2.2.2.2.2.2) mp q1.2.1 q1.2.2 ms (1 : Int32)).2.1).2.1), cIa cI (bd 4) 30 (((fM_lose k mc (q1.1.1, q1.1.2.1, q1.1.1, q1.1.2.2.2.1, q1.1.2.2.2.2.1, q1.1.2.2.2.2.2.1, q1.1.2.2.2.2.2.2.1, q1.1.2.2.2.2.2.2.2) mp q1.2.1 q1.2.2 ms (1 : Int32)).2.1).2.2.1), cZa cZ (bd 5) 6 (((fM_lose k mc (q1.1.1, q1.1.2.1, q1.1.1, q1.1.2.2.2.1, q1.1.2.2.2.2.1, q1.1.2.2.2.2.2.1, q1.1.2.2.2.2.2.2.1, q1.1.2.2.2.2.2.2.2) mp q1.2.1 q1.2.2 ms (1 : Int32)).2.2).1), cZa cZ (bd 6) 6 (((fM_lose k mc (q1.1.1, q1.1.2.1, q1.1.1, q1.1.2.2.2.1, q1.1.2.2.2.2.1, q1.1.2.2.2.2.2.1, q1.1.2.2.2.2.2.2.1, q1.1.2.2.2.2.2.2.2) mp q1.2.1 q1.2.2 ms (1 : Int32)).2.2).2.1), cZa cZ (bd 7) 2 ms.1, cIa cI (bd 8) 2 ms.2.1, cZa cZ (bd 9) 2 ms.2.2.1, cIa cI (bd 10) 2 ms.2.2.2.1, cIa cI (bd 11) 2 ms.2.2.2.2.1, cZa cZ (bd 12) 2 ms.2.2.2.2.2.1, cJa cJ (bd 13) 6 ms.2.2.2.2.2.2, cJa cJ (bd 14) 16 (((fM_lose k mc (q1.1.1, q1.1.2.1, q1.1.1, q1.1.2.2.2.1, q1.1.2.2.2.2.1, q1.1.2.2.2.2.2.1, q1.1.2.2.2.2.2.2.1, q1.1.2.2.2.2.2.2.2) mp q1.2.1 q1.2.2 ms (1 : Int32)).2.2).2.2.1)] H := hP
          have hD : va_D A [cMd bd k mc ((fM_lose k mc (q1.1.1, q1.1.2.1, q1.1.1, q1.1.2.2.2.1, q1.1.2.2.2.2.1, q1.1.2.2.2.2.2.1, q1.1.2.2.2.2.2.2.1, q1.1.2.2.2.2.2.2.2) mp q1.2.1 q1.2.2 ms (1 : Int32)).1) ((fM_lose k mc (q1.1.1, q1.1.2.1, q1.1.1, q1.1.2.2.2.1, q1.1.2.2.2.2.1, q1.1.2.2.2.2.2.1, q1.1.2.2.2.2.2.2.1, q1.1.2.2.2.2.2.2.2) mp q1.2.1 q1.2.2 ms (1 : Int32)).2.1) ((fM_lose k mc (q1.1.1, q1.1.2.1, q1.1.1, q1.1.2.2.2.1, q1.1.2.2.2.2.1, q1.1.2.2.2.2.2.1, q1.1.2.2.2.2.2.2.1, q1.1.2.2.2.2.2.2.2) mp q1.2.1 q1.2.2 ms (1 : Int32)).2.2), cIa cI (bd 1) 128 mp, cZa cZ (bd 2) 30 (((fM_lose k mc (q1.1.1, q1.1.2.1, q1.1.1, q1.1.2.2.2.1, q1.1.2.2.2.2.1, q1.1.2.2.2.2.2.1, q1.1.2.2.2.2.2.2.1, q1.1.2.2.2.2.2.2.2) mp q1.2.1 q1.2.2 ms (1 : Int32)).2.1).1), cJa cJ (bd 3) 30 (((fM_lose k mc (q1.1.1, q1.1.2.1, q1.1.1, q1.1.2.2.2.1, q1.1.2.2.2.2.1, q1.1.2.2.2.2.2.1, q1.1.2.2.2.2.2.2.1, q1.1.2.2.2.2.2.2.2) mp q1.2.1 q1.2.2 ms (1 : Int32)).2.1).2.1), cIa cI (bd 4) 30 (((fM_lose k mc (q1.1.1, q1.1.2.1, q1.1.1, q1.1.2.2.2.1, q1.1.2.2.2.2.1, q1.1.2.2.2.2.2.1, q1.1.2.2.2.2.2.2.1, q1.1.2.2.2.2.2.2.2) mp q1.2.1 q1.2.2 ms (1 : Int32)).2.1).2.2.1), cZa cZ (bd 5) 6 (((fM_lose k mc (q1.1.1, q1.1.2.1, q1.1.1, q1.1.2.2.2.1, q1.1.2.2.2.2.1, q1.1.2.2.2.2.2.1, q1.1.2.2.2.2.2.2.1, q1.1.2.2.2.2.2.2.2) mp q1.2.1 q1.2.2 ms (1 : Int32)).2.2).1), cZa cZ (bd 6) 6 (((fM_lose k mc (q1.1.1, q1.1.2.1, q1.1.1, q1.1.2.2.2.1, q1.1.2.2.2.2.1, q1.1.2.2.2.2.2.1, q1.1.2.2.2.2.2.2.1, q1.1.2.2.2.2.2.2.2) mp q1.2.1 q1.2.2 ms (1 : Int32)).2.2).2.1), cZa cZ (bd 7) 2 ms.1, cIa cI (bd 8) 2 ms.2.1, cZa cZ (bd 9) 2 ms.2.2.1, cIa cI (bd 10) 2 ms.2.2.2.1, cIa cI (bd 11) 2 ms.2.2.2.2.1, cZa cZ (bd 12) 2 ms.2.2.2.2.2.1, cJa cJ (bd 13) 6 ms.2.2.2.2.2.2, cJa cJ (bd 14) 16 (((fM_lose k mc (q1.1.1, q1.1.2.1, q1.1.1, q1.1.2.2.2.1, q1.1.2.2.2.2.1, q1.1.2.2.2.2.2.1, q1.1.2.2.2.2.2.2.1, q1.1.2.2.2.2.2.2.2) mp q1.2.1 q1.2.2 ms (1 : Int32)).2.2).2.2.1)] := hD
          generalize hq6 : fM_lose k mc (q1.1.1, q1.1.2.1, q1.1.1, q1.1.2.2.2.1, q1.1.2.2.2.2.1, q1.1.2.2.2.2.2.1, q1.1.2.2.2.2.2.2.1, q1.1.2.2.2.2.2.2.2) mp q1.2.1 q1.2.2 ms (1 : Int32) = q6 at hP hD 
          have hP : va_P D vwCl [cMd bd k mc q6.1 q6.2.1 q6.2.2, cIa cI (bd 1) 128 mp, cZa cZ (bd 2) 30 q6.2.1.1, cJa cJ (bd 3) 30 q6.2.1.2.1, cIa cI (bd 4) 30 q6.2.1.2.2.1, cZa cZ (bd 5) 6 q6.2.2.1, cZa cZ (bd 6) 6 q6.2.2.2.1, cZa cZ (bd 7) 2 ms.1, cIa cI (bd 8) 2 ms.2.1, cZa cZ (bd 9) 2 ms.2.2.1, cIa cI (bd 10) 2 ms.2.2.2.1, cIa cI (bd 11) 2 ms.2.2.2.2.1, cZa cZ (bd 12) 2 ms.2.2.2.2.2.1, cJa cJ (bd 13) 6 ms.2.2.2.2.2.2, cJa cJ (bd 14) 16 q6.2.2.2.2.1] H := hP
          have hD : va_D A [cMd bd k mc q6.1 q6.2.1 q6.2.2, cIa cI (bd 1) 128 mp, cZa cZ (bd 2) 30 q6.2.1.1, cJa cJ (bd 3) 30 q6.2.1.2.1, cIa cI (bd 4) 30 q6.2.1.2.2.1, cZa cZ (bd 5) 6 q6.2.2.1, cZa cZ (bd 6) 6 q6.2.2.2.1, cZa cZ (bd 7) 2 ms.1, cIa cI (bd 8) 2 ms.2.1, cZa cZ (bd 9) 2 ms.2.2.1, cIa cI (bd 10) 2 ms.2.2.2.1, cIa cI (bd 11) 2 ms.2.2.2.2.1, cZa cZ (bd 12) 2 ms.2.2.2.2.2.1, cJa cJ (bd 13) 6 ms.2.2.2.2.2.2, cJa cJ (bd 14) 16 q6.2.2.2.2.1] := hD
          refine lv_aload_n hx hb dM_oneEdge_107 rfl (lv_at hl 1 rfl) ?_
          refine gfM_158 hx hb hts hown hN hK hP 0 rfl (v := .int q6.1.2.2.2.2.1) rfl dM_oneEdge_108 ?_
          refine lv_iconst (v := (3 : Int32)) hx hb dM_oneEdge_111 (by decide) ?_
          refine lv_icmp_ne (tgt := 126) hx hb dM_oneEdge_112 (by decide) (fun h7 => ?_) (fun h7 => ?_)
          · -- taken at 112
            refine lv_aload_n hx hb dM_oneEdge_126 rfl (lv_at hl 1 rfl) ?_
            refine lv_aload_n hx hb dM_oneEdge_127 rfl (lv_at hl 1 rfl) ?_
            refine gfM_111 hx hb hts hown hN hK hP 0 rfl (v := .long q6.1.1) rfl dM_oneEdge_128 ?_
            refine k_ca0 (wc := [cMd bd k mc q6.1 q6.2.1 q6.2.2, cIa cI (bd 1) 128 mp, cZa cZ (bd 2) 30 q6.2.1.1, cJa cJ (bd 3) 30 q6.2.1.2.1, cIa cI (bd 4) 30 q6.2.1.2.2.1, cZa cZ (bd 5) 6 q6.2.2.1, cZa cZ (bd 6) 6 q6.2.2.2.1, cZa cZ (bd 7) 2 ms.1, cIa cI (bd 8) 2 ms.2.1, cZa cZ (bd 9) 2 ms.2.2.1, cIa cI (bd 10) 2 ms.2.2.2.1, cIa cI (bd 11) 2 ms.2.2.2.2.1, cZa cZ (bd 12) 2 ms.2.2.2.2.2.1, cJa cJ (bd 13) 6 ms.2.2.2.2.2.2, cJa cJ (bd 14) 16 q6.2.2.2.2.1]) (wr := []) (va_runV (As := [.long q6.1.1]) (rest := []) ⟨hx, hb, hml, hown, hts⟩ (ctM_advance l D cZ cI cJ tL tH H.size bd k mc q6.1 mp q6.2.1 q6.2.2 ms q6.1.1 hk) (cwM_179 hts hN rfl rfl ⟨Nat.le_of_ble_eq_true rfl, Nat.le_of_ble_eq_true rfl⟩) (k_preV hK hN hT hA hS hP hD [0, 1, 2, 3, 4, 5, 6, 7, 8, 9, 10, 11, 12, 13, 14] rfl (by decide) 0 rfl rfl) rfl rfl hl.1 rfl (lv_room (Nat.le_of_ble_eq_true rfl)) dM_oneEdge_131 ⟨Nat.zero_le _, Nat.zero_le _⟩) hP hD hS hA [0, 1, 2, 3, 4, 5, 6, 7, 8, 9, 10, 11, 12, 13, 14] [] rfl rfl (by decide) (by decide) (fun _ H locs hP hD hS => ?_)
            refine W.eq (g2 := F0 m 134 ls []) rfl ?_
            have hP : va_P D vwCl [cMd bd k mc ((fM_advance k mc q6.1 mp q6.2.1 q6.2.2 ms q6.1.1).1) ((fM_advance k mc q6.1 mp q6.2.1 q6.2.2 ms q6.1.1).2.1) ((fM_advance k mc q6.1 mp q6.2.1 q6.2.2 ms q6.1.1).2.2), cIa cI (bd 1) 128 mp, cZa cZ (bd 2) 30 (((fM_advance k mc q6.1 mp q6.2.1 q6.2.2 ms q6.1.1).2.1).1), cJa cJ (bd 3) 30 (((fM_advance k mc q6.1 mp q6.2.1 q6.2.2 ms q6.1.1).2.1).2.1), cIa cI (bd 4) 30 (((fM_advance k mc q6.1 mp q6.2.1 q6.2.2 ms q6.1.1).2.1).2.2.1), cZa cZ (bd 5) 6 (((fM_advance k mc q6.1 mp q6.2.1 q6.2.2 ms q6.1.1).2.2).1), cZa cZ (bd 6) 6 (((fM_advance k mc q6.1 mp q6.2.1 q6.2.2 ms q6.1.1).2.2).2.1), cZa cZ (bd 7) 2 ms.1, cIa cI (bd 8) 2 ms.2.1, cZa cZ (bd 9) 2 ms.2.2.1, cIa cI (bd 10) 2 ms.2.2.2.1, cIa cI (bd 11) 2 ms.2.2.2.2.1, cZa cZ (bd 12) 2 ms.2.2.2.2.2.1, cJa cJ (bd 13) 6 ms.2.2.2.2.2.2, cJa cJ (bd 14) 16 (((fM_advance k mc q6.1 mp q6.2.1 q6.2.2 ms q6.1.1).2.2).2.2.1)] H := hP
            have hD : va_D A [cMd bd k mc ((fM_advance k mc q6.1 mp q6.2.1 q6.2.2 ms q6.1.1).1) ((fM_advance k mc q6.1 mp q6.2.1 q6.2.2 ms q6.1.1).2.1) ((fM_advance k mc q6.1 mp q6.2.1 q6.2.2 ms q6.1.1).2.2), cIa cI (bd 1) 128 mp, cZa cZ (bd 2) 30 (((fM_advance k mc q6.1 mp q6.2.1 q6.2.2 ms q6.1.1).2.1).1), cJa cJ (bd 3) 30 (((fM_advance k mc q6.1 mp q6.2.1 q6.2.2 ms q6.1.1).2.1).2.1), cIa cI (bd 4) 30 (((fM_advance k mc q6.1 mp q6.2.1 q6.2.2 ms q6.1.1).2.1).2.2.1), cZa cZ (bd 5) 6 (((fM_advance k mc q6.1 mp q6.2.1 q6.2.2 ms q6.1.1).2.2).1), cZa cZ (bd 6) 6 (((fM_advance k mc q6.1 mp q6.2.1 q6.2.2 ms q6.1.1).2.2).2.1), cZa cZ (bd 7) 2 ms.1, cIa cI (bd 8) 2 ms.2.1, cZa cZ (bd 9) 2 ms.2.2.1, cIa cI (bd 10) 2 ms.2.2.2.1, cIa cI (bd 11) 2 ms.2.2.2.2.1, cZa cZ (bd 12) 2 ms.2.2.2.2.2.1, cJa cJ (bd 13) 6 ms.2.2.2.2.2.2, cJa cJ (bd 14) 16 (((fM_advance k mc q6.1 mp q6.2.1 q6.2.2 ms q6.1.1).2.2).2.2.1)] := hD
            generalize hq8 : fM_advance k mc q6.1 mp q6.2.1 q6.2.2 ms q6.1.1 = q8 at hP hD 
            have hP : va_P D vwCl [cMd bd k mc q8.1 q8.2.1 q8.2.2, cIa cI (bd 1) 128 mp, cZa cZ (bd 2) 30 q8.2.1.1, cJa cJ (bd 3) 30 q8.2.1.2.1, cIa cI (bd 4) 30 q8.2.1.2.2.1, cZa cZ (bd 5) 6 q8.2.2.1, cZa cZ (bd 6) 6 q8.2.2.2.1, cZa cZ (bd 7) 2 ms.1, cIa cI (bd 8) 2 ms.2.1, cZa cZ (bd 9) 2 ms.2.2.1, cIa cI (bd 10) 2 ms.2.2.2.1, cIa cI (bd 11) 2 ms.2.2.2.2.1, cZa cZ (bd 12) 2 ms.2.2.2.2.2.1, cJa cJ (bd 13) 6 ms.2.2.2.2.2.2, cJa cJ (bd 14) 16 q8.2.2.2.2.1] H := hP
            have hD : va_D A [cMd bd k mc q8.1 q8.2.1 q8.2.2, cIa cI (bd 1) 128 mp, cZa cZ (bd 2) 30 q8.2.1.1, cJa cJ (bd 3) 30 q8.2.1.2.1, cIa cI (bd 4) 30 q8.2.1.2.2.1, cZa cZ (bd 5) 6 q8.2.2.1, cZa cZ (bd 6) 6 q8.2.2.2.1, cZa cZ (bd 7) 2 ms.1, cIa cI (bd 8) 2 ms.2.1, cZa cZ (bd 9) 2 ms.2.2.1, cIa cI (bd 10) 2 ms.2.2.2.1, cIa cI (bd 11) 2 ms.2.2.2.2.1, cZa cZ (bd 12) 2 ms.2.2.2.2.2.1, cJa cJ (bd 13) 6 ms.2.2.2.2.2.2, cJa cJ (bd 14) 16 q8.2.2.2.2.1] := hD
            exact k_vret hx hb hr hlk hP hD hS dM_oneEdge_134 () rfl (by simp only [fM_oneEdge, hq1, if_neg h2, if_neg h3, if_pos h4, if_pos h5, hq6, if_neg h7, hq8])
          · -- not taken at 112
            refine lv_aload_n hx hb dM_oneEdge_115 rfl (lv_at hl 1 rfl) ?_
            refine gfM_7 hx hb hts hown hN hK hP 0 rfl (v := .int q6.1.2.2.2.2.2.2.1) rfl dM_oneEdge_116 ?_
            refine lv_if_lt (tgt := 126) hx hb dM_oneEdge_119 (by decide) (fun h9 => ?_) (fun h9 => ?_)
            · -- taken at 119
              refine lv_aload_n hx hb dM_oneEdge_126 rfl (lv_at hl 1 rfl) ?_
              refine lv_aload_n hx hb dM_oneEdge_127 rfl (lv_at hl 1 rfl) ?_
              refine gfM_111 hx hb hts hown hN hK hP 0 rfl (v := .long q6.1.1) rfl dM_oneEdge_128 ?_
              refine k_ca0 (wc := [cMd bd k mc q6.1 q6.2.1 q6.2.2, cIa cI (bd 1) 128 mp, cZa cZ (bd 2) 30 q6.2.1.1, cJa cJ (bd 3) 30 q6.2.1.2.1, cIa cI (bd 4) 30 q6.2.1.2.2.1, cZa cZ (bd 5) 6 q6.2.2.1, cZa cZ (bd 6) 6 q6.2.2.2.1, cZa cZ (bd 7) 2 ms.1, cIa cI (bd 8) 2 ms.2.1, cZa cZ (bd 9) 2 ms.2.2.1, cIa cI (bd 10) 2 ms.2.2.2.1, cIa cI (bd 11) 2 ms.2.2.2.2.1, cZa cZ (bd 12) 2 ms.2.2.2.2.2.1, cJa cJ (bd 13) 6 ms.2.2.2.2.2.2, cJa cJ (bd 14) 16 q6.2.2.2.2.1]) (wr := []) (va_runV (As := [.long q6.1.1]) (rest := []) ⟨hx, hb, hml, hown, hts⟩ (ctM_advance l D cZ cI cJ tL tH H.size bd k mc q6.1 mp q6.2.1 q6.2.2 ms q6.1.1 hk) (cwM_179 hts hN rfl rfl ⟨Nat.le_of_ble_eq_true rfl, Nat.le_of_ble_eq_true rfl⟩) (k_preV hK hN hT hA hS hP hD [0, 1, 2, 3, 4, 5, 6, 7, 8, 9, 10, 11, 12, 13, 14] rfl (by decide) 0 rfl rfl) rfl rfl hl.1 rfl (lv_room (Nat.le_of_ble_eq_true rfl)) dM_oneEdge_131 ⟨Nat.zero_le _, Nat.zero_le _⟩) hP hD hS hA [0, 1, 2, 3, 4, 5, 6, 7, 8, 9, 10, 11, 12, 13, 14] [] rfl rfl (by decide) (by decide) (fun _ H locs hP hD hS => ?_)
              refine W.eq (g2 := F0 m 134 ls []) rfl ?_
              have hP : va_P D vwCl [cMd bd k mc ((fM_advance k mc q6.1 mp q6.2.1 q6.2.2 ms q6.1.1).1) ((fM_advance k mc q6.1 mp q6.2.1 q6.2.2 ms q6.1.1).2.1) ((fM_advance k mc q6.1 mp q6.2.1 q6.2.2 ms q6.1.1).2.2), cIa cI (bd 1) 128 mp, cZa cZ (bd 2) 30 (((fM_advance k mc q6.1 mp q6.2.1 q6.2.2 ms q6.1.1).2.1).1), cJa cJ (bd 3) 30 (((fM_advance k mc q6.1 mp q6.2.1 q6.2.2 ms q6.1.1).2.1).2.1), cIa cI (bd 4) 30 (((fM_advance k mc q6.1 mp q6.2.1 q6.2.2 ms q6.1.1).2.1).2.2.1), cZa cZ (bd 5) 6 (((fM_advance k mc q6.1 mp q6.2.1 q6.2.2 ms q6.1.1).2.2).1), cZa cZ (bd 6) 6 (((fM_advance k mc q6.1 mp q6.2.1 q6.2.2 ms q6.1.1).2.2).2.1), cZa cZ (bd 7) 2 ms.1, cIa cI (bd 8) 2 ms.2.1, cZa cZ (bd 9) 2 ms.2.2.1, cIa cI (bd 10) 2 ms.2.2.2.1, cIa cI (bd 11) 2 ms.2.2.2.2.1, cZa cZ (bd 12) 2 ms.2.2.2.2.2.1, cJa cJ (bd 13) 6 ms.2.2.2.2.2.2, cJa cJ (bd 14) 16 (((fM_advance k mc q6.1 mp q6.2.1 q6.2.2 ms q6.1.1).2.2).2.2.1)] H := hP
              have hD : va_D A [cMd bd k mc ((fM_advance k mc q6.1 mp q6.2.1 q6.2.2 ms q6.1.1).1) ((fM_advance k mc q6.1 mp q6.2.1 q6.2.2 ms q6.1.1).2.1) ((fM_advance k mc q6.1 mp q6.2.1 q6.2.2 ms q6.1.1).2.2), cIa cI (bd 1) 128 mp, cZa cZ (bd 2) 30 (((fM_advance k mc q6.1 mp q6.2.1 q6.2.2 ms q6.1.1).2.1).1), cJa cJ (bd 3) 30 (((fM_advance k mc q6.1 mp q6.2.1 q6.2.2 ms q6.1.1).2.1).2.1), cIa cI (bd 4) 30 (((fM_advance k mc q6.1 mp q6.2.1 q6.2.2 ms q6.1.1).2.1).2.2.1), cZa cZ (bd 5) 6 (((fM_advance k mc q6.1 mp q6.2.1 q6.2.2 ms q6.1.1).2.2).1), cZa cZ (bd 6) 6 (((fM_advance k mc q6.1 mp q6.2.1 q6.2.2 ms q6.1.1).2.2).2.1), cZa cZ (bd 7) 2 ms.1, cIa cI (bd 8) 2 ms.2.1, cZa cZ (bd 9) 2 ms.2.2.1, cIa cI (bd 10) 2 ms.2.2.2.1, cIa cI (bd 11) 2 ms.2.2.2.2.1, cZa cZ (bd 12) 2 ms.2.2.2.2.2.1, cJa cJ (bd 13) 6 ms.2.2.2.2.2.2, cJa cJ (bd 14) 16 (((fM_advance k mc q6.1 mp q6.2.1 q6.2.2 ms q6.1.1).2.2).2.2.1)] := hD
              generalize hq10 : fM_advance k mc q6.1 mp q6.2.1 q6.2.2 ms q6.1.1 = q10 at hP hD 
              have hP : va_P D vwCl [cMd bd k mc q10.1 q10.2.1 q10.2.2, cIa cI (bd 1) 128 mp, cZa cZ (bd 2) 30 q10.2.1.1, cJa cJ (bd 3) 30 q10.2.1.2.1, cIa cI (bd 4) 30 q10.2.1.2.2.1, cZa cZ (bd 5) 6 q10.2.2.1, cZa cZ (bd 6) 6 q10.2.2.2.1, cZa cZ (bd 7) 2 ms.1, cIa cI (bd 8) 2 ms.2.1, cZa cZ (bd 9) 2 ms.2.2.1, cIa cI (bd 10) 2 ms.2.2.2.1, cIa cI (bd 11) 2 ms.2.2.2.2.1, cZa cZ (bd 12) 2 ms.2.2.2.2.2.1, cJa cJ (bd 13) 6 ms.2.2.2.2.2.2, cJa cJ (bd 14) 16 q10.2.2.2.2.1] H := hP
              have hD : va_D A [cMd bd k mc q10.1 q10.2.1 q10.2.2, cIa cI (bd 1) 128 mp, cZa cZ (bd 2) 30 q10.2.1.1, cJa cJ (bd 3) 30 q10.2.1.2.1, cIa cI (bd 4) 30 q10.2.1.2.2.1, cZa cZ (bd 5) 6 q10.2.2.1, cZa cZ (bd 6) 6 q10.2.2.2.1, cZa cZ (bd 7) 2 ms.1, cIa cI (bd 8) 2 ms.2.1, cZa cZ (bd 9) 2 ms.2.2.1, cIa cI (bd 10) 2 ms.2.2.2.1, cIa cI (bd 11) 2 ms.2.2.2.2.1, cZa cZ (bd 12) 2 ms.2.2.2.2.2.1, cJa cJ (bd 13) 6 ms.2.2.2.2.2.2, cJa cJ (bd 14) 16 q10.2.2.2.2.1] := hD
              exact k_vret hx hb hr hlk hP hD hS dM_oneEdge_134 () rfl (by simp only [fM_oneEdge, hq1, if_neg h2, if_neg h3, if_pos h4, if_pos h5, hq6, if_pos h7, if_pos h9, hq10])
            · -- not taken at 119
              refine lv_aload_n hx hb dM_oneEdge_122 rfl (lv_at hl 1 rfl) ?_
              refine k_ca0 (wc := [cMd bd k mc q6.1 q6.2.1 q6.2.2, cIa cI (bd 1) 128 mp, cZa cZ (bd 2) 30 q6.2.1.1, cJa cJ (bd 3) 30 q6.2.1.2.1, cIa cI (bd 4) 30 q6.2.1.2.2.1, cZa cZ (bd 5) 6 q6.2.2.1, cZa cZ (bd 6) 6 q6.2.2.2.1, cZa cZ (bd 7) 2 ms.1, cIa cI (bd 8) 2 ms.2.1, cZa cZ (bd 9) 2 ms.2.2.1, cIa cI (bd 10) 2 ms.2.2.2.1, cIa cI (bd 11) 2 ms.2.2.2.2.1, cZa cZ (bd 12) 2 ms.2.2.2.2.2.1, cJa cJ (bd 13) 6 ms.2.2.2.2.2.2, cJa cJ (bd 14) 16 q6.2.2.2.2.1]) (wr := []) (va_runV (As := []) (rest := []) ⟨hx, hb, hml, hown, hts⟩ (ctM_planAll l D cZ cI cJ tL tH H.size bd k mc q6.1 mp q6.2.1 q6.2.2 ms hk) (cwM_191 hts hN rfl rfl ⟨Nat.le_of_ble_eq_true rfl, Nat.le_of_ble_eq_true rfl⟩) (k_preV hK hN hT hA hS hP hD [0, 1, 2, 3, 4, 5, 6, 7, 8, 9, 10, 11, 12, 13, 14] rfl (by decide) 0 rfl rfl) rfl rfl hl.1 rfl (lv_room (Nat.le_of_ble_eq_true rfl)) dM_oneEdge_123 ⟨Nat.zero_le _, Nat.zero_le _⟩) hP hD hS hA [0, 1, 2, 3, 4, 5, 6, 7, 8, 9, 10, 11, 12, 13, 14] [] rfl rfl (by decide) (by decide) (fun _ H locs hP hD hS => ?_)
              refine W.eq (g2 := F0 m 126 ls []) rfl ?_
              have hP : va_P D vwCl [cMd bd k mc q6.1 (fM_planAll k mc q6.1 mp q6.2.1 q6.2.2 ms) q6.2.2, cIa cI (bd 1) 128 mp, cZa cZ (bd 2) 30 ((fM_planAll k mc q6.1 mp q6.2.1 q6.2.2 ms).1), cJa cJ (bd 3) 30 ((fM_planAll k mc q6.1 mp q6.2.1 q6.2.2 ms).2.1), cIa cI (bd 4) 30 ((fM_planAll k mc q6.1 mp q6.2.1 q6.2.2 ms).2.2.1), cZa cZ (bd 5) 6 q6.2.2.1, cZa cZ (bd 6) 6 q6.2.2.2.1, cZa cZ (bd 7) 2 ms.1, cIa cI (bd 8) 2 ms.2.1, cZa cZ (bd 9) 2 ms.2.2.1, cIa cI (bd 10) 2 ms.2.2.2.1, cIa cI (bd 11) 2 ms.2.2.2.2.1, cZa cZ (bd 12) 2 ms.2.2.2.2.2.1, cJa cJ (bd 13) 6 ms.2.2.2.2.2.2, cJa cJ (bd 14) 16 q6.2.2.2.2.1] H := hP
              have hD : va_D A [cMd bd k mc q6.1 (fM_planAll k mc q6.1 mp q6.2.1 q6.2.2 ms) q6.2.2, cIa cI (bd 1) 128 mp, cZa cZ (bd 2) 30 ((fM_planAll k mc q6.1 mp q6.2.1 q6.2.2 ms).1), cJa cJ (bd 3) 30 ((fM_planAll k mc q6.1 mp q6.2.1 q6.2.2 ms).2.1), cIa cI (bd 4) 30 ((fM_planAll k mc q6.1 mp q6.2.1 q6.2.2 ms).2.2.1), cZa cZ (bd 5) 6 q6.2.2.1, cZa cZ (bd 6) 6 q6.2.2.2.1, cZa cZ (bd 7) 2 ms.1, cIa cI (bd 8) 2 ms.2.1, cZa cZ (bd 9) 2 ms.2.2.1, cIa cI (bd 10) 2 ms.2.2.2.1, cIa cI (bd 11) 2 ms.2.2.2.2.1, cZa cZ (bd 12) 2 ms.2.2.2.2.2.1, cJa cJ (bd 13) 6 ms.2.2.2.2.2.2, cJa cJ (bd 14) 16 q6.2.2.2.2.1] := hD
              generalize hq11 : fM_planAll k mc q6.1 mp q6.2.1 q6.2.2 ms = q11 at hP hD 
              have hP : va_P D vwCl [cMd bd k mc q6.1 q11 q6.2.2, cIa cI (bd 1) 128 mp, cZa cZ (bd 2) 30 q11.1, cJa cJ (bd 3) 30 q11.2.1, cIa cI (bd 4) 30 q11.2.2.1, cZa cZ (bd 5) 6 q6.2.2.1, cZa cZ (bd 6) 6 q6.2.2.2.1, cZa cZ (bd 7) 2 ms.1, cIa cI (bd 8) 2 ms.2.1, cZa cZ (bd 9) 2 ms.2.2.1, cIa cI (bd 10) 2 ms.2.2.2.1, cIa cI (bd 11) 2 ms.2.2.2.2.1, cZa cZ (bd 12) 2 ms.2.2.2.2.2.1, cJa cJ (bd 13) 6 ms.2.2.2.2.2.2, cJa cJ (bd 14) 16 q6.2.2.2.2.1] H := hP
              have hD : va_D A [cMd bd k mc q6.1 q11 q6.2.2, cIa cI (bd 1) 128 mp, cZa cZ (bd 2) 30 q11.1, cJa cJ (bd 3) 30 q11.2.1, cIa cI (bd 4) 30 q11.2.2.1, cZa cZ (bd 5) 6 q6.2.2.1, cZa cZ (bd 6) 6 q6.2.2.2.1, cZa cZ (bd 7) 2 ms.1, cIa cI (bd 8) 2 ms.2.1, cZa cZ (bd 9) 2 ms.2.2.1, cIa cI (bd 10) 2 ms.2.2.2.1, cIa cI (bd 11) 2 ms.2.2.2.2.1, cZa cZ (bd 12) 2 ms.2.2.2.2.2.1, cJa cJ (bd 13) 6 ms.2.2.2.2.2.2, cJa cJ (bd 14) 16 q6.2.2.2.2.1] := hD
              refine lv_aload_n hx hb dM_oneEdge_126 rfl (lv_at hl 1 rfl) ?_
              refine lv_aload_n hx hb dM_oneEdge_127 rfl (lv_at hl 1 rfl) ?_
              refine gfM_111 hx hb hts hown hN hK hP 0 rfl (v := .long q6.1.1) rfl dM_oneEdge_128 ?_
              refine k_ca0 (wc := [cMd bd k mc q6.1 q11 q6.2.2, cIa cI (bd 1) 128 mp, cZa cZ (bd 2) 30 q11.1, cJa cJ (bd 3) 30 q11.2.1, cIa cI (bd 4) 30 q11.2.2.1, cZa cZ (bd 5) 6 q6.2.2.1, cZa cZ (bd 6) 6 q6.2.2.2.1, cZa cZ (bd 7) 2 ms.1, cIa cI (bd 8) 2 ms.2.1, cZa cZ (bd 9) 2 ms.2.2.1, cIa cI (bd 10) 2 ms.2.2.2.1, cIa cI (bd 11) 2 ms.2.2.2.2.1, cZa cZ (bd 12) 2 ms.2.2.2.2.2.1, cJa cJ (bd 13) 6 ms.2.2.2.2.2.2, cJa cJ (bd 14) 16 q6.2.2.2.2.1]) (wr := []) (va_runV (As := [.long q6.1.1]) (rest := []) ⟨hx, hb, hml, hown, hts⟩ (ctM_advance l D cZ cI cJ tL tH H.size bd k mc q6.1 mp q11 q6.2.2 ms q6.1.1 hk) (cwM_179 hts hN rfl rfl ⟨Nat.le_of_ble_eq_true rfl, Nat.le_of_ble_eq_true rfl⟩) (k_preV hK hN hT hA hS hP hD [0, 1, 2, 3, 4, 5, 6, 7, 8, 9, 10, 11, 12, 13, 14] rfl (by decide) 0 rfl rfl) rfl rfl hl.1 rfl (lv_room (Nat.le_of_ble_eq_true rfl)) dM_oneEdge_131 ⟨Nat.zero_le _, Nat.zero_le _⟩) hP hD hS hA [0, 1, 2, 3, 4, 5, 6, 7, 8, 9, 10, 11, 12, 13, 14] [] rfl rfl (by decide) (by decide) (fun _ H locs hP hD hS => ?_)
              refine W.eq (g2 := F0 m 134 ls []) rfl ?_
              have hP : va_P D vwCl [cMd bd k mc ((fM_advance k mc q6.1 mp q11 q6.2.2 ms q6.1.1).1) ((fM_advance k mc q6.1 mp q11 q6.2.2 ms q6.1.1).2.1) ((fM_advance k mc q6.1 mp q11 q6.2.2 ms q6.1.1).2.2), cIa cI (bd 1) 128 mp, cZa cZ (bd 2) 30 (((fM_advance k mc q6.1 mp q11 q6.2.2 ms q6.1.1).2.1).1), cJa cJ (bd 3) 30 (((fM_advance k mc q6.1 mp q11 q6.2.2 ms q6.1.1).2.1).2.1), cIa cI (bd 4) 30 (((fM_advance k mc q6.1 mp q11 q6.2.2 ms q6.1.1).2.1).2.2.1), cZa cZ (bd 5) 6 (((fM_advance k mc q6.1 mp q11 q6.2.2 ms q6.1.1).2.2).1), cZa cZ (bd 6) 6 (((fM_advance k mc q6.1 mp q11 q6.2.2 ms q6.1.1).2.2).2.1), cZa cZ (bd 7) 2 ms.1, cIa cI (bd 8) 2 ms.2.1, cZa cZ (bd 9) 2 ms.2.2.1, cIa cI (bd 10) 2 ms.2.2.2.1, cIa cI (bd 11) 2 ms.2.2.2.2.1, cZa cZ (bd 12) 2 ms.2.2.2.2.2.1, cJa cJ (bd 13) 6 ms.2.2.2.2.2.2, cJa cJ (bd 14) 16 (((fM_advance k mc q6.1 mp q11 q6.2.2 ms q6.1.1).2.2).2.2.1)] H := hP
              have hD : va_D A [cMd bd k mc ((fM_advance k mc q6.1 mp q11 q6.2.2 ms q6.1.1).1) ((fM_advance k mc q6.1 mp q11 q6.2.2 ms q6.1.1).2.1) ((fM_advance k mc q6.1 mp q11 q6.2.2 ms q6.1.1).2.2), cIa cI (bd 1) 128 mp, cZa cZ (bd 2) 30 (((fM_advance k mc q6.1 mp q11 q6.2.2 ms q6.1.1).2.1).1), cJa cJ (bd 3) 30 (((fM_advance k mc q6.1 mp q11 q6.2.2 ms q6.1.1).2.1).2.1), cIa cI (bd 4) 30 (((fM_advance k mc q6.1 mp q11 q6.2.2 ms q6.1.1).2.1).2.2.1), cZa cZ (bd 5) 6 (((fM_advance k mc q6.1 mp q11 q6.2.2 ms q6.1.1).2.2).1), cZa cZ (bd 6) 6 (((fM_advance k mc q6.1 mp q11 q6.2.2 ms q6.1.1).2.2).2.1), cZa cZ (bd 7) 2 ms.1, cIa cI (bd 8) 2 ms.2.1, cZa cZ (bd 9) 2 ms.2.2.1, cIa cI (bd 10) 2 ms.2.2.2.1, cIa cI (bd 11) 2 ms.2.2.2.2.1, cZa cZ (bd 12) 2 ms.2.2.2.2.2.1, cJa cJ (bd 13) 6 ms.2.2.2.2.2.2, cJa cJ (bd 14) 16 (((fM_advance k mc q6.1 mp q11 q6.2.2 ms q6.1.1).2.2).2.2.1)] := hD
              generalize hq12 : fM_advance k mc q6.1 mp q11 q6.2.2 ms q6.1.1 = q12 at hP hD 
              have hP : va_P D vwCl [cMd bd k mc q12.1 q12.2.1 q12.2.2, cIa cI (bd 1) 128 mp, cZa cZ (bd 2) 30 q12.2.1.1, cJa cJ (bd 3) 30 q12.2.1.2.1, cIa cI (bd 4) 30 q12.2.1.2.2.1, cZa cZ (bd 5) 6 q12.2.2.1, cZa cZ (bd 6) 6 q12.2.2.2.1, cZa cZ (bd 7) 2 ms.1, cIa cI (bd 8) 2 ms.2.1, cZa cZ (bd 9) 2 ms.2.2.1, cIa cI (bd 10) 2 ms.2.2.2.1, cIa cI (bd 11) 2 ms.2.2.2.2.1, cZa cZ (bd 12) 2 ms.2.2.2.2.2.1, cJa cJ (bd 13) 6 ms.2.2.2.2.2.2, cJa cJ (bd 14) 16 q12.2.2.2.2.1] H := hP
              have hD : va_D A [cMd bd k mc q12.1 q12.2.1 q12.2.2, cIa cI (bd 1) 128 mp, cZa cZ (bd 2) 30 q12.2.1.1, cJa cJ (bd 3) 30 q12.2.1.2.1, cIa cI (bd 4) 30 q12.2.1.2.2.1, cZa cZ (bd 5) 6 q12.2.2.1, cZa cZ (bd 6) 6 q12.2.2.2.1, cZa cZ (bd 7) 2 ms.1, cIa cI (bd 8) 2 ms.2.1, cZa cZ (bd 9) 2 ms.2.2.1, cIa cI (bd 10) 2 ms.2.2.2.1, cIa cI (bd 11) 2 ms.2.2.2.2.1, cZa cZ (bd 12) 2 ms.2.2.2.2.2.1, cJa cJ (bd 13) 6 ms.2.2.2.2.2.2, cJa cJ (bd 14) 16 q12.2.2.2.2.1] := hD
              exact k_vret hx hb hr hlk hP hD hS dM_oneEdge_134 () rfl (by simp only [fM_oneEdge, hq1, if_neg h2, if_neg h3, if_pos h4, if_pos h5, hq6, if_pos h7, if_neg h9, hq11, hq12])
        · -- not taken at 90
          refine lv_aload_n hx hb dM_oneEdge_94 rfl (lv_at hl 1 rfl) ?_
          refine lv_lload_n hx hb dM_oneEdge_95 rfl (lv_at hl 0 rfl) ?_
          refine k_ca0 (wc := [cMd bd k mc (q1.1.1, q1.1.2.1, q1.1.1, q1.1.2.2.2.1, q1.1.2.2.2.2.1, q1.1.2.2.2.2.2.1, q1.1.2.2.2.2.2.2.1, q1.1.2.2.2.2.2.2.2) q1.2.1 q1.2.2, cIa cI (bd 1) 128 mp, cZa cZ (bd 2) 30 q1.2.1.1, cJa cJ (bd 3) 30 q1.2.1.2.1, cIa cI (bd 4) 30 q1.2.1.2.2.1, cZa cZ (bd 5) 6 q1.2.2.1, cZa cZ (bd 6) 6 q1.2.2.2.1, cZa cZ (bd 7) 2 ms.1, cIa cI (bd 8) 2 ms.2.1, cZa cZ (bd 9) 2 ms.2.2.1, cIa cI (bd 10) 2 ms.2.2.2.1, cIa cI (bd 11) 2 ms.2.2.2.2.1, cZa cZ (bd 12) 2 ms.2.2.2.2.2.1, cJa cJ (bd 13) 6 ms.2.2.2.2.2.2, cJa cJ (bd 14) 16 q1.2.2.2.2.1]) (wr := []) (va_runV (As := [.long (q1.1.1 - q1.1.2.2.1)]) (rest := []) ⟨hx, hb, hml, hown, hts⟩ (ctM_plainInterval l D cZ cI cJ tL tH H.size bd k mc (q1.1.1, q1.1.2.1, q1.1.1, q1.1.2.2.2.1, q1.1.2.2.2.2.1, q1.1.2.2.2.2.2.1, q1.1.2.2.2.2.2.2.1, q1.1.2.2.2.2.2.2.2) mp q1.2.1 q1.2.2 ms (q1.1.1 - q1.1.2.2.1) hk) (cwM_188 hts hN rfl rfl ⟨Nat.le_of_ble_eq_true rfl, Nat.le_of_ble_eq_true rfl⟩) (k_preV hK hN hT hA hS hP hD [0, 1, 2, 3, 4, 5, 6, 7, 8, 9, 10, 11, 12, 13, 14] rfl (by decide) 0 rfl rfl) rfl rfl hl.1 rfl (lv_room (Nat.le_of_ble_eq_true rfl)) dM_oneEdge_96 ⟨Nat.zero_le _, Nat.zero_le _⟩) hP hD hS hA [0, 1, 2, 3, 4, 5, 6, 7, 8, 9, 10, 11, 12, 13, 14] [] rfl rfl (by decide) (by decide) (fun _ H locs hP hD hS => ?_)
          refine W.eq (g2 := F0 m 99 ls []) rfl ?_
          have hP : va_P D vwCl [cMd bd k mc ((fM_plainInterval k mc (q1.1.1, q1.1.2.1, q1.1.1, q1.1.2.2.2.1, q1.1.2.2.2.2.1, q1.1.2.2.2.2.2.1, q1.1.2.2.2.2.2.2.1, q1.1.2.2.2.2.2.2.2) mp q1.2.1 q1.2.2 ms (q1.1.1 - q1.1.2.2.1)).1) ((fM_plainInterval k mc (q1.1.1, q1.1.2.1, q1.1.1, q1.1.2.2.2.1, q1.1.2.2.2.2.1, q1.1.2.2.2.2.2.1, q1.1.2.2.2.2.2.2.1, q1.1.2.2.2.2.2.2.2) mp q1.2.1 q1.2.2 ms (q1.1.1 - q1.1.2.2.1)).2.1) ((fM_plainInterval k mc (q1.1.1, q1.1.2.1, q1.1.1, q1.1.2.2.2.1, q1.1.2.2.2.2.1, q1.1.2.2.2.2.2.1, q1.1.2.2.2.2.2.2.1, q1.1.2.2.2.2.2.2.2) mp q1.2.1 q1.2.2 ms (q1.1.1 - q1.1.2.2.1)).2.2), cIa cI (bd 1) 128 mp, cZa cZ (bd 2) 30 (((fM_plainInterval k mc (q1.1.1, q1.1.2.1, q1.1.1, q1.1.2.2.2.1, q1.1.2.2.2.2.1, q1.1.2.2.2.2.2.1, q1.1.2.2.2.2.2.2.1, q1.1.2.2.2.2.2.2.2) mp q1.2.1 q1.2.2 ms (q1.1.1 - q1.1.2.2.1)).2.1).1), cJa cJ (bd 3) 30 (((fM_plainInterval k mc (q1.1.1, q1.1.2.1, q1.1.1, q1.1.2.2.2.1, q1.1.2.2.2.2.1, q1.1.2.2.2.2.2.1, q1.1.2.2.2.2.2.2.1, q1.1.2.2.2.2.2.2.2) mp q1.2.1 q1.2.2 ms (q1.1.1 - q1.1.2.2.1)).2.1).2.1), cIa cI (bd 4) 30 (((fM_plainInterval k mc (q1.1.1, q1.1.2.1, q1.1.1, q1.1.2.2.2.1, q1.1.2.2.2.2.1, q1.1.2.2.2.2.2.1, q1.1.2.2.2.2.2.2.1, q1.1.2.2.2.2.2.2.2) mp q1.2.1 q1.2.2 ms (q1.1.1 - q1.1.2.2.1)).2.1).2.2.1), cZa cZ (bd 5) 6 (((fM_plainInterval k mc (q1.1.1, q1.1.2.1, q1.1.1, q1.1.2.2.2.1, q1.1.2.2.2.2.1, q1.1.2.2.2.2.2.1, q1.1.2.2.2.2.2.2.1, q1.1.2.2.2.2.2.2.2) mp q1.2.1 q1.2.2 ms (q1.1.1 - q1.1.2.2.1)).2.2).1), cZa cZ (bd 6) 6 (((fM_plainInterval k mc (q1.1.1, q1.1.2.1, q1.1.1, q1.1.2.2.2.1, q1.1.2.2.2.2.1, q1.1.2.2.2.2.2.1, q1.1.2.2.2.2.2.2.1, q1.1.2.2.2.2.2.2.2) mp q1.2.1 q1.2.2 ms (q1.1.1 - q1.1.2.2.1)).2.2).2.1), cZa cZ (bd 7) 2 ms.1, cIa cI (bd 8) 2 ms.2.1, cZa cZ (bd 9) 2 ms.2.2.1, cIa cI (bd 10) 2 ms.2.2.2.1, cIa cI (bd 11) 2 ms.2.2.2.2.1, cZa cZ (bd 12) 2 ms.2.2.2.2.2.1, cJa cJ (bd 13) 6 ms.2.2.2.2.2.2, cJa cJ (bd 14) 16 (((fM_plainInterval k mc (q1.1.1, q1.1.2.1, q1.1.1, q1.1.2.2.2.1, q1.1.2.2.2.2.1, q1.1.2.2.2.2.2.1, q1.1.2.2.2.2.2.2.1, q1.1.2.2.2.2.2.2.2) mp q1.2.1 q1.2.2 ms (q1.1.1 - q1.1.2.2.1)).2.2).2.2.1)] H := hP
          have hD : va_D A [cMd bd k mc ((fM_plainInterval k mc (q1.1.1, q1.1.2.1, q1.1.1, q1.1.2.2.2.1, q1.1.2.2.2.2.1, q1.1.2.2.2.2.2.1, q1.1.2.2.2.2.2.2.1, q1.1.2.2.2.2.2.2.2) mp q1.2.1 q1.2.2 ms (q1.1.1 - q1.1.2.2.1)).1) ((fM_plainInterval k mc (q1.1.1, q1.1.2.1, q1.1.1, q1.1.2.2.2.1, q1.1.2.2.2.2.1, q1.1.2.2.2.2.2.1, q1.1.2.2.2.2.2.2.1, q1.1.2.2.2.2.2.2.2) mp q1.2.1 q1.2.2 ms (q1.1.1 - q1.1.2.2.1)).2.1) ((fM_plainInterval k mc (q1.1.1, q1.1.2.1, q1.1.1, q1.1.2.2.2.1, q1.1.2.2.2.2.1, q1.1.2.2.2.2.2.1, q1.1.2.2.2.2.2.2.1, q1.1.2.2.2.2.2.2.2) mp q1.2.1 q1.2.2 ms (q1.1.1 - q1.1.2.2.1)).2.2), cIa cI (bd 1) 128 mp, cZa cZ (bd 2) 30 (((fM_plainInterval k mc (q1.1.1, q1.1.2.1, q1.1.1, q1.1.2.2.2.1, q1.1.2.2.2.2.1, q1.1.2.2.2.2.2.1, q1.1.2.2.2.2.2.2.1, q1.1.2.2.2.2.2.2.2) mp q1.2.1 q1.2.2 ms (q1.1.1 - q1.1.2.2.1)).2.1).1), cJa cJ (bd 3) 30 (((fM_plainInterval k mc (q1.1.1, q1.1.2.1, q1.1.1, q1.1.2.2.2.1, q1.1.2.2.2.2.1, q1.1.2.2.2.2.2.1, q1.1.2.2.2.2.2.2.1, q1.1.2.2.2.2.2.2.2) mp q1.2.1 q1.2.2 ms (q1.1.1 - q1.1.2.2.1)).2.1).2.1), cIa cI (bd 4) 30 (((fM_plainInterval k mc (q1.1.1, q1.1.2.1, q1.1.1, q1.1.2.2.2.1, q1.1.2.2.2.2.1, q1.1.2.2.2.2.2.1, q1.1.2.2.2.2.2.2.1, q1.1.2.2.2.2.2.2.2) mp q1.2.1 q1.2.2 ms (q1.1.1 - q1.1.2.2.1)).2.1).2.2.1), cZa cZ (bd 5) 6 (((fM_plainInterval k mc (q1.1.1, q1.1.2.1, q1.1.1, q1.1.2.2.2.1, q1.1.2.2.2.2.1, q1.1.2.2.2.2.2.1, q1.1.2.2.2.2.2.2.1, q1.1.2.2.2.2.2.2.2) mp q1.2.1 q1.2.2 ms (q1.1.1 - q1.1.2.2.1)).2.2).1), cZa cZ (bd 6) 6 (((fM_plainInterval k mc (q1.1.1, q1.1.2.1, q1.1.1, q1.1.2.2.2.1, q1.1.2.2.2.2.1, q1.1.2.2.2.2.2.1, q1.1.2.2.2.2.2.2.1, q1.1.2.2.2.2.2.2.2) mp q1.2.1 q1.2.2 ms (q1.1.1 - q1.1.2.2.1)).2.2).2.1), cZa cZ (bd 7) 2 ms.1, cIa cI (bd 8) 2 ms.2.1, cZa cZ (bd 9) 2 ms.2.2.1, cIa cI (bd 10) 2 ms.2.2.2.1, cIa cI (bd 11) 2 ms.2.2.2.2.1, cZa cZ (bd 12) 2 ms.2.2.2.2.2.1, cJa cJ (bd 13) 6 ms.2.2.2.2.2.2, cJa cJ (bd 14) 16 (((fM_plainInterval k mc (q1.1.1, q1.1.2.1, q1.1.1, q1.1.2.2.2.1, q1.1.2.2.2.2.1, q1.1.2.2.2.2.2.1, q1.1.2.2.2.2.2.2.1, q1.1.2.2.2.2.2.2.2) mp q1.2.1 q1.2.2 ms (q1.1.1 - q1.1.2.2.1)).2.2).2.2.1)] := hD
          generalize hq13 : fM_plainInterval k mc (q1.1.1, q1.1.2.1, q1.1.1, q1.1.2.2.2.1, q1.1.2.2.2.2.1, q1.1.2.2.2.2.2.1, q1.1.2.2.2.2.2.2.1, q1.1.2.2.2.2.2.2.2) mp q1.2.1 q1.2.2 ms (q1.1.1 - q1.1.2.2.1) = q13 at hP hD 
          have hP : va_P D vwCl [cMd bd k mc q13.1 q13.2.1 q13.2.2, cIa cI (bd 1) 128 mp, cZa cZ (bd 2) 30 q13.2.1.1, cJa cJ (bd 3) 30 q13.2.1.2.1, cIa cI (bd 4) 30 q13.2.1.2.2.1, cZa cZ (bd 5) 6 q13.2.2.1, cZa cZ (bd 6) 6 q13.2.2.2.1, cZa cZ (bd 7) 2 ms.1, cIa cI (bd 8) 2 ms.2.1, cZa cZ (bd 9) 2 ms.2.2.1, cIa cI (bd 10) 2 ms.2.2.2.1, cIa cI (bd 11) 2 ms.2.2.2.2.1, cZa cZ (bd 12) 2 ms.2.2.2.2.2.1, cJa cJ (bd 13) 6 ms.2.2.2.2.2.2, cJa cJ (bd 14) 16 q13.2.2.2.2.1] H := hP
          have hD : va_D A [cMd bd k mc q13.1 q13.2.1 q13.2.2, cIa cI (bd 1) 128 mp, cZa cZ (bd 2) 30 q13.2.1.1, cJa cJ (bd 3) 30 q13.2.1.2.1, cIa cI (bd 4) 30 q13.2.1.2.2.1, cZa cZ (bd 5) 6 q13.2.2.1, cZa cZ (bd 6) 6 q13.2.2.2.1, cZa cZ (bd 7) 2 ms.1, cIa cI (bd 8) 2 ms.2.1, cZa cZ (bd 9) 2 ms.2.2.1, cIa cI (bd 10) 2 ms.2.2.2.1, cIa cI (bd 11) 2 ms.2.2.2.2.1, cZa cZ (bd 12) 2 ms.2.2.2.2.2.1, cJa cJ (bd 13) 6 ms.2.2.2.2.2.2, cJa cJ (bd 14) 16 q13.2.2.2.2.1] := hD
          refine lv_goto (tgt := 107) hx hb dM_oneEdge_99 (by decide) ?_
          refine lv_aload_n hx hb dM_oneEdge_107 rfl (lv_at hl 1 rfl) ?_
          refine gfM_158 hx hb hts hown hN hK hP 0 rfl (v := .int q13.1.2.2.2.2.1) rfl dM_oneEdge_108 ?_
          refine lv_iconst (v := (3 : Int32)) hx hb dM_oneEdge_111 (by decide) ?_
          refine lv_icmp_ne (tgt := 126) hx hb dM_oneEdge_112 (by decide) (fun h14 => ?_) (fun h14 => ?_)
          · -- taken at 112
            refine lv_aload_n hx hb dM_oneEdge_126 rfl (lv_at hl 1 rfl) ?_
            refine lv_aload_n hx hb dM_oneEdge_127 rfl (lv_at hl 1 rfl) ?_
            refine gfM_111 hx hb hts hown hN hK hP 0 rfl (v := .long q13.1.1) rfl dM_oneEdge_128 ?_
            refine k_ca0 (wc := [cMd bd k mc q13.1 q13.2.1 q13.2.2, cIa cI (bd 1) 128 mp, cZa cZ (bd 2) 30 q13.2.1.1, cJa cJ (bd 3) 30 q13.2.1.2.1, cIa cI (bd 4) 30 q13.2.1.2.2.1, cZa cZ (bd 5) 6 q13.2.2.1, cZa cZ (bd 6) 6 q13.2.2.2.1, cZa cZ (bd 7) 2 ms.1, cIa cI (bd 8) 2 ms.2.1, cZa cZ (bd 9) 2 ms.2.2.1, cIa cI (bd 10) 2 ms.2.2.2.1, cIa cI (bd 11) 2 ms.2.2.2.2.1, cZa cZ (bd 12) 2 ms.2.2.2.2.2.1, cJa cJ (bd 13) 6 ms.2.2.2.2.2.2, cJa cJ (bd 14) 16 q13.2.2.2.2.1]) (wr := []) (va_runV (As := [.long q13.1.1]) (rest := []) ⟨hx, hb, hml, hown, hts⟩ (ctM_advance l D cZ cI cJ tL tH H.size bd k mc q13.1 mp q13.2.1 q13.2.2 ms q13.1.1 hk) (cwM_179 hts hN rfl rfl ⟨Nat.le_of_ble_eq_true rfl, Nat.le_of_ble_eq_true rfl⟩) (k_preV hK hN hT hA hS hP hD [0, 1, 2, 3, 4, 5, 6, 7, 8, 9, 10, 11, 12, 13, 14] rfl (by decide) 0 rfl rfl) rfl rfl hl.1 rfl (lv_room (Nat.le_of_ble_eq_true rfl)) dM_oneEdge_131 ⟨Nat.zero_le _, Nat.zero_le _⟩) hP hD hS hA [0, 1, 2, 3, 4, 5, 6, 7, 8, 9, 10, 11, 12, 13, 14] [] rfl rfl (by decide) (by decide) (fun _ H locs hP hD hS => ?_)
            refine W.eq (g2 := F0 m 134 ls []) rfl ?_
            have hP : va_P D vwCl [cMd bd k mc ((fM_advance k mc q13.1 mp q13.2.1 q13.2.2 ms q13.1.1).1) ((fM_advance k mc q13.1 mp q13.2.1 q13.2.2 ms q13.1.1).2.1) ((fM_advance k mc q13.1 mp q13.2.1 q13.2.2 ms q13.1.1).2.2), cIa cI (bd 1) 128 mp, cZa cZ (bd 2) 30 (((fM_advance k mc q13.1 mp q13.2.1 q13.2.2 ms q13.1.1).2.1).1), cJa cJ (bd 3) 30 (((fM_advance k mc q13.1 mp q13.2.1 q13.2.2 ms q13.1.1).2.1).2.1), cIa cI (bd 4) 30 (((fM_advance k mc q13.1 mp q13.2.1 q13.2.2 ms q13.1.1).2.1).2.2.1), cZa cZ (bd 5) 6 (((fM_advance k mc q13.1 mp q13.2.1 q13.2.2 ms q13.1.1).2.2).1), cZa cZ (bd 6) 6 (((fM_advance k mc q13.1 mp q13.2.1 q13.2.2 ms q13.1.1).2.2).2.1), cZa cZ (bd 7) 2 ms.1, cIa cI (bd 8) 2 ms.2.1, cZa cZ (bd 9) 2 ms.2.2.1, cIa cI (bd 10) 2 ms.2.2.2.1, cIa cI (bd 11) 2 ms.2.2.2.2.1, cZa cZ (bd 12) 2 ms.2.2.2.2.2.1, cJa cJ (bd 13) 6 ms.2.2.2.2.2.2, cJa cJ (bd 14) 16 (((fM_advance k mc q13.1 mp q13.2.1 q13.2.2 ms q13.1.1).2.2).2.2.1)] H := hP
            have hD : va_D A [cMd bd k mc ((fM_advance k mc q13.1 mp q13.2.1 q13.2.2 ms q13.1.1).1) ((fM_advance k mc q13.1 mp q13.2.1 q13.2.2 ms q13.1.1).2.1) ((fM_advance k mc q13.1 mp q13.2.1 q13.2.2 ms q13.1.1).2.2), cIa cI (bd 1) 128 mp, cZa cZ (bd 2) 30 (((fM_advance k mc q13.1 mp q13.2.1 q13.2.2 ms q13.1.1).2.1).1), cJa cJ (bd 3) 30 (((fM_advance k mc q13.1 mp q13.2.1 q13.2.2 ms q13.1.1).2.1).2.1), cIa cI (bd 4) 30 (((fM_advance k mc q13.1 mp q13.2.1 q13.2.2 ms q13.1.1).2.1).2.2.1), cZa cZ (bd 5) 6 (((fM_advance k mc q13.1 mp q13.2.1 q13.2.2 ms q13.1.1).2.2).1), cZa cZ (bd 6) 6 (((fM_advance k mc q13.1 mp q13.2.1 q13.2.2 ms q13.1.1).2.2).2.1), cZa cZ (bd 7) 2 ms.1, cIa cI (bd 8) 2 ms.2.1, cZa cZ (bd 9) 2 ms.2.2.1, cIa cI (bd 10) 2 ms.2.2.2.1, cIa cI (bd 11) 2 ms.2.2.2.2.1, cZa cZ (bd 12) 2 ms.2.2.2.2.2.1, cJa cJ (bd 13) 6 ms.2.2.2.2.2.2, cJa cJ (bd 14) 16 (((fM_advance k mc q13.1 mp q13.2.1 q13.2.2 ms q13.1.1).2.2).2.2.1)] := hD
            generalize hq15 : fM_advance k mc q13.1 mp q13.2.1 q13.2.2 ms q13.1.1 = q15 at hP hD 
            have hP : va_P D vwCl [cMd bd k mc q15.1 q15.2.1 q15.2.2, cIa cI (bd 1) 128 mp, cZa cZ (bd 2) 30 q15.2.1.1, cJa cJ (bd 3) 30 q15.2.1.2.1, cIa cI (bd 4) 30 q15.2.1.2.2.1, cZa cZ (bd 5) 6 q15.2.2.1, cZa cZ (bd 6) 6 q15.2.2.2.1, cZa cZ (bd 7) 2 ms.1, cIa cI (bd 8) 2 ms.2.1, cZa cZ (bd 9) 2 ms.2.2.1, cIa cI (bd 10) 2 ms.2.2.2.1, cIa cI (bd 11) 2 ms.2.2.2.2.1, cZa cZ (bd 12) 2 ms.2.2.2.2.2.1, cJa cJ (bd 13) 6 ms.2.2.2.2.2.2, cJa cJ (bd 14) 16 q15.2.2.2.2.1] H := hP
            have hD : va_D A [cMd bd k mc q15.1 q15.2.1 q15.2.2, cIa cI (bd 1) 128 mp, cZa cZ (bd 2) 30 q15.2.1.1, cJa cJ (bd 3) 30 q15.2.1.2.1, cIa cI (bd 4) 30 q15.2.1.2.2.1, cZa cZ (bd 5) 6 q15.2.2.1, cZa cZ (bd 6) 6 q15.2.2.2.1, cZa cZ (bd 7) 2 ms.1, cIa cI (bd 8) 2 ms.2.1, cZa cZ (bd 9) 2 ms.2.2.1, cIa cI (bd 10) 2 ms.2.2.2.1, cIa cI (bd 11) 2 ms.2.2.2.2.1, cZa cZ (bd 12) 2 ms.2.2.2.2.2.1, cJa cJ (bd 13) 6 ms.2.2.2.2.2.2, cJa cJ (bd 14) 16 q15.2.2.2.2.1] := hD
            exact k_vret hx hb hr hlk hP hD hS dM_oneEdge_134 () rfl (by simp only [fM_oneEdge, hq1, if_neg h2, if_neg h3, if_pos h4, if_neg h5, hq13, if_neg h14, hq15])
          · -- not taken at 112
            refine lv_aload_n hx hb dM_oneEdge_115 rfl (lv_at hl 1 rfl) ?_
            refine gfM_7 hx hb hts hown hN hK hP 0 rfl (v := .int q13.1.2.2.2.2.2.2.1) rfl dM_oneEdge_116 ?_
            refine lv_if_lt (tgt := 126) hx hb dM_oneEdge_119 (by decide) (fun h16 => ?_) (fun h16 => ?_)
            · -- taken at 119
              refine lv_aload_n hx hb dM_oneEdge_126 rfl (lv_at hl 1 rfl) ?_
              refine lv_aload_n hx hb dM_oneEdge_127 rfl (lv_at hl 1 rfl) ?_
              refine gfM_111 hx hb hts hown hN hK hP 0 rfl (v := .long q13.1.1) rfl dM_oneEdge_128 ?_
              refine k_ca0 (wc := [cMd bd k mc q13.1 q13.2.1 q13.2.2, cIa cI (bd 1) 128 mp, cZa cZ (bd 2) 30 q13.2.1.1, cJa cJ (bd 3) 30 q13.2.1.2.1, cIa cI (bd 4) 30 q13.2.1.2.2.1, cZa cZ (bd 5) 6 q13.2.2.1, cZa cZ (bd 6) 6 q13.2.2.2.1, cZa cZ (bd 7) 2 ms.1, cIa cI (bd 8) 2 ms.2.1, cZa cZ (bd 9) 2 ms.2.2.1, cIa cI (bd 10) 2 ms.2.2.2.1, cIa cI (bd 11) 2 ms.2.2.2.2.1, cZa cZ (bd 12) 2 ms.2.2.2.2.2.1, cJa cJ (bd 13) 6 ms.2.2.2.2.2.2, cJa cJ (bd 14) 16 q13.2.2.2.2.1]) (wr := []) (va_runV (As := [.long q13.1.1]) (rest := []) ⟨hx, hb, hml, hown, hts⟩ (ctM_advance l D cZ cI cJ tL tH H.size bd k mc q13.1 mp q13.2.1 q13.2.2 ms q13.1.1 hk) (cwM_179 hts hN rfl rfl ⟨Nat.le_of_ble_eq_true rfl, Nat.le_of_ble_eq_true rfl⟩) (k_preV hK hN hT hA hS hP hD [0, 1, 2, 3, 4, 5, 6, 7, 8, 9, 10, 11, 12, 13, 14] rfl (by decide) 0 rfl rfl) rfl rfl hl.1 rfl (lv_room (Nat.le_of_ble_eq_true rfl)) dM_oneEdge_131 ⟨Nat.zero_le _, Nat.zero_le _⟩) hP hD hS hA [0, 1, 2, 3, 4, 5, 6, 7, 8, 9, 10, 11, 12, 13, 14] [] rfl rfl (by decide) (by decide) (fun _ H locs hP hD hS => ?_)
              refine W.eq (g2 := F0 m 134 ls []) rfl ?_
              have hP : va_P D vwCl [cMd bd k mc ((fM_advance k mc q13.1 mp q13.2.1 q13.2.2 ms q13.1.1).1) ((fM_advance k mc q13.1 mp q13.2.1 q13.2.2 ms q13.1.1).2.1) ((fM_advance k mc q13.1 mp q13.2.1 q13.2.2 ms q13.1.1).2.2), cIa cI (bd 1) 128 mp, cZa cZ (bd 2) 30 (((fM_advance k mc q13.1 mp q13.2.1 q13.2.2 ms q13.1.1).2.1).1), cJa cJ (bd 3) 30 (((fM_advance k mc q13.1 mp q13.2.1 q13.2.2 ms q13.1.1).2.1).2.1), cIa cI (bd 4) 30 (((fM_advance k mc q13.1 mp q13.2.1 q13.2.2 ms q13.1.1).2.1).2.2.1), cZa cZ (bd 5) 6 (((fM_advance k mc q13.1 mp q13.2.1 q13.2.2 ms q13.1.1).2.2).1), cZa cZ (bd 6) 6 (((fM_advance k mc q13.1 mp q13.2.1 q13.2.2 ms q13.1.1).2.2).2.1), cZa cZ (bd 7) 2 ms.1, cIa cI (bd 8) 2 ms.2.1, cZa cZ (bd 9) 2 ms.2.2.1, cIa cI (bd 10) 2 ms.2.2.2.1, cIa cI (bd 11) 2 ms.2.2.2.2.1, cZa cZ (bd 12) 2 ms.2.2.2.2.2.1, cJa cJ (bd 13) 6 ms.2.2.2.2.2.2, cJa cJ (bd 14) 16 (((fM_advance k mc q13.1 mp q13.2.1 q13.2.2 ms q13.1.1).2.2).2.2.1)] H := hP
              have hD : va_D A [cMd bd k mc ((fM_advance k mc q13.1 mp q13.2.1 q13.2.2 ms q13.1.1).1) ((fM_advance k mc q13.1 mp q13.2.1 q13.2.2 ms q13.1.1).2.1) ((fM_advance k mc q13.1 mp q13.2.1 q13.2.2 ms q13.1.1).2.2), cIa cI (bd 1) 128 mp, cZa cZ (bd 2) 30 (((fM_advance k mc q13.1 mp q13.2.1 q13.2.2 ms q13.1.1).2.1).1), cJa cJ (bd 3) 30 (((fM_advance k mc q13.1 mp q13.2.1 q13.2.2 ms q13.1.1).2.1).2.1), cIa cI (bd 4) 30 (((fM_advance k mc q13.1 mp q13.2.1 q13.2.2 ms q13.1.1).2.1).2.2.1), cZa cZ (bd 5) 6 (((fM_advance k mc q13.1 mp q13.2.1 q13.2.2 ms q13.1.1).2.2).1), cZa cZ (bd 6) 6 (((fM_advance k mc q13.1 mp q13.2.1 q13.2.2 ms q13.1.1).2.2).2.1), cZa cZ (bd 7) 2 ms.1, cIa cI (bd 8) 2 ms.2.1, cZa cZ (bd 9) 2 ms.2.2.1, cIa cI (bd 10) 2 ms.2.2.2.1, cIa cI (bd 11) 2 ms.2.2.2.2.1, cZa cZ (bd 12) 2 ms.2.2.2.2.2.1, cJa cJ (bd 13) 6 ms.2.2.2.2.2.2, cJa cJ (bd 14) 16 (((fM_advance k mc q13.1 mp q13.2.1 q13.2.2 ms q13.1.1).2.2).2.2.1)] := hD
              generalize hq17 : fM_advance k mc q13.1 mp q13.2.1 q13.2.2 ms q13.1.1 = q17 at hP hD 
              have hP : va_P D vwCl [cMd bd k mc q17.1 q17.2.1 q17.2.2, cIa cI (bd 1) 128 mp, cZa cZ (bd 2) 30 q17.2.1.1, cJa cJ (bd 3) 30 q17.2.1.2.1, cIa cI (bd 4) 30 q17.2.1.2.2.1, cZa cZ (bd 5) 6 q17.2.2.1, cZa cZ (bd 6) 6 q17.2.2.2.1, cZa cZ (bd 7) 2 ms.1, cIa cI (bd 8) 2 ms.2.1, cZa cZ (bd 9) 2 ms.2.2.1, cIa cI (bd 10) 2 ms.2.2.2.1, cIa cI (bd 11) 2 ms.2.2.2.2.1, cZa cZ (bd 12) 2 ms.2.2.2.2.2.1, cJa cJ (bd 13) 6 ms.2.2.2.2.2.2, cJa cJ (bd 14) 16 q17.2.2.2.2.1] H := hP
              have hD : va_D A [cMd bd k mc q17.1 q17.2.1 q17.2.2, cIa cI (bd 1) 128 mp, cZa cZ (bd 2) 30 q17.2.1.1, cJa cJ (bd 3) 30 q17.2.1.2.1, cIa cI (bd 4) 30 q17.2.1.2.2.1, cZa cZ (bd 5) 6 q17.2.2.1, cZa cZ (bd 6) 6 q17.2.2.2.1, cZa cZ (bd 7) 2 ms.1, cIa cI (bd 8) 2 ms.2.1, cZa cZ (bd 9) 2 ms.2.2.1, cIa cI (bd 10) 2 ms.2.2.2.1, cIa cI (bd 11) 2 ms.2.2.2.2.1, cZa cZ (bd 12) 2 ms.2.2.2.2.2.1, cJa cJ (bd 13) 6 ms.2.2.2.2.2.2, cJa cJ (bd 14) 16 q17.2.2.2.2.1] := hD
              exact k_vret hx hb hr hlk hP hD hS dM_oneEdge_134 () rfl (by simp only [fM_oneEdge, hq1, if_neg h2, if_neg h3, if_pos h4, if_neg h5, hq13, if_pos h14, if_pos h16, hq17])
            · -- not taken at 119
              refine lv_aload_n hx hb dM_oneEdge_122 rfl (lv_at hl 1 rfl) ?_
              refine k_ca0 (wc := [cMd bd k mc q13.1 q13.2.1 q13.2.2, cIa cI (bd 1) 128 mp, cZa cZ (bd 2) 30 q13.2.1.1, cJa cJ (bd 3) 30 q13.2.1.2.1, cIa cI (bd 4) 30 q13.2.1.2.2.1, cZa cZ (bd 5) 6 q13.2.2.1, cZa cZ (bd 6) 6 q13.2.2.2.1, cZa cZ (bd 7) 2 ms.1, cIa cI (bd 8) 2 ms.2.1, cZa cZ (bd 9) 2 ms.2.2.1, cIa cI (bd 10) 2 ms.2.2.2.1, cIa cI (bd 11) 2 ms.2.2.2.2.1, cZa cZ (bd 12) 2 ms.2.2.2.2.2.1, cJa cJ (bd 13) 6 ms.2.2.2.2.2.2, cJa cJ (bd 14) 16 q13.2.2.2.2.1]) (wr := []) (va_runV (As := []) (rest := []) ⟨hx, hb, hml, hown, hts⟩ (ctM_planAll l D cZ cI cJ tL tH H.size bd k mc q13.1 mp q13.2.1 q13.2.2 ms hk) (cwM_191 hts hN rfl rfl ⟨Nat.le_of_ble_eq_true rfl, Nat.le_of_ble_eq_true rfl⟩) (k_preV hK hN hT hA hS hP hD [0, 1, 2, 3, 4, 5, 6, 7, 8, 9, 10, 11, 12, 13, 14] rfl (by decide) 0 rfl rfl) rfl rfl hl.1 rfl (lv_room (Nat.le_of_ble_eq_true rfl)) dM_oneEdge_123 ⟨Nat.zero_le _, Nat.zero_le _⟩) hP hD hS hA [0, 1, 2, 3, 4, 5, 6, 7, 8, 9, 10, 11, 12, 13, 14] [] rfl rfl (by decide) (by decide) (fun _ H locs hP hD hS => ?_)
              refine W.eq (g2 := F0 m 126 ls []) rfl ?_
              have hP : va_P D vwCl [cMd bd k mc q13.1 (fM_planAll k mc q13.1 mp q13.2.1 q13.2.2 ms) q13.2.2, cIa cI (bd 1) 128 mp, cZa cZ (bd 2) 30 ((fM_planAll k mc q13.1 mp q13.2.1 q13.2.2 ms).1), cJa cJ (bd 3) 30 ((fM_planAll k mc q13.1 mp q13.2.1 q13.2.2 ms).2.1), cIa cI (bd 4) 30 ((fM_planAll k mc q13.1 mp q13.2.1 q13.2.2 ms).2.2.1), cZa cZ (bd 5) 6 q13.2.2.1, cZa cZ (bd 6) 6 q13.2.2.2.1, cZa cZ (bd 7) 2 ms.1, cIa cI (bd 8) 2 ms.2.1, cZa cZ (bd 9) 2 ms.2.2.1, cIa cI (bd 10) 2 ms.2.2.2.1, cIa cI (bd 11) 2 ms.2.2.2.2.1, cZa cZ (bd 12) 2 ms.2.2.2.2.2.1, cJa cJ (bd 13) 6 ms.2.2.2.2.2.2, cJa cJ (bd 14) 16 q13.2.2.2.2.1] H := hP
              have hD : va_D A [cMd bd k mc q13.1 (fM_planAll k mc q13.1 mp q13.2.1 q13.2.2 ms) q13.2.2, cIa cI (bd 1) 128 mp, cZa cZ (bd 2) 30 ((fM_planAll k mc q13.1 mp q13.2.1 q13.2.2 ms).1), cJa cJ (bd 3) 30 ((fM_planAll k mc q13.1 mp q13.2.1 q13.2.2 ms).2.1), cIa cI (bd 4) 30 ((fM_planAll k mc q13.1 mp q13.2.1 q13.2.2 ms).2.2.1), cZa cZ (bd 5) 6 q13.2.2.1, cZa cZ (bd 6) 6 q13.2.2.2.1, cZa cZ (bd 7) 2 ms.1, cIa cI (bd 8) 2 ms.2.1, cZa cZ (bd 9) 2 ms.2.2.1, cIa cI (bd 10) 2 ms.2.2.2.1, cIa cI (bd 11) 2 ms.2.2.2.2.1, cZa cZ (bd 12) 2 ms.2.2.2.2.2.1, cJa cJ (bd 13) 6 ms.2.2.2.2.2.2, cJa cJ (bd 14) 16 q13.2.2.2.2.1] := hD
              generalize hq18 : fM_planAll k mc q13.1 mp q13.2.1 q13.2.2 ms = q18 at hP hD 
              have hP : va_P D vwCl [cMd bd k mc q13.1 q18 q13.2.2, cIa cI (bd 1) 128 mp, cZa cZ (bd 2) 30 q18.1, cJa cJ (bd 3) 30 q18.2.1, cIa cI (bd 4) 30 q18.2.2.1, cZa cZ (bd 5) 6 q13.2.2.1, cZa cZ (bd 6) 6 q13.2.2.2.1, cZa cZ (bd 7) 2 ms.1, cIa cI (bd 8) 2 ms.2.1, cZa cZ (bd 9) 2 ms.2.2.1, cIa cI (bd 10) 2 ms.2.2.2.1, cIa cI (bd 11) 2 ms.2.2.2.2.1, cZa cZ (bd 12) 2 ms.2.2.2.2.2.1, cJa cJ (bd 13) 6 ms.2.2.2.2.2.2, cJa cJ (bd 14) 16 q13.2.2.2.2.1] H := hP
              have hD : va_D A [cMd bd k mc q13.1 q18 q13.2.2, cIa cI (bd 1) 128 mp, cZa cZ (bd 2) 30 q18.1, cJa cJ (bd 3) 30 q18.2.1, cIa cI (bd 4) 30 q18.2.2.1, cZa cZ (bd 5) 6 q13.2.2.1, cZa cZ (bd 6) 6 q13.2.2.2.1, cZa cZ (bd 7) 2 ms.1, cIa cI (bd 8) 2 ms.2.1, cZa cZ (bd 9) 2 ms.2.2.1, cIa cI (bd 10) 2 ms.2.2.2.1, cIa cI (bd 11) 2 ms.2.2.2.2.1, cZa cZ (bd 12) 2 ms.2.2.2.2.2.1, cJa cJ (bd 13) 6 ms.2.2.2.2.2.2, cJa cJ (bd 14) 16 q13.2.2.2.2.1] := hD
              refine lv_aload_n hx hb dM_oneEdge_126 rfl (lv_at hl 1 rfl) ?_
              refine lv_aload_n hx hb dM_oneEdge_127 rfl (lv_at hl 1 rfl) ?_
              refine gfM_111 hx hb hts hown hN hK hP 0 rfl (v := .long q13.1.1) rfl dM_oneEdge_128 ?_
              refine k_ca0 (wc := [cMd bd k mc q13.1 q18 q13.2.2, cIa cI (bd 1) 128 mp, cZa cZ (bd 2) 30 q18.1, cJa cJ (bd 3) 30 q18.2.1, cIa cI (bd 4) 30 q18.2.2.1, cZa cZ (bd 5) 6 q13.2.2.1, cZa cZ (bd 6) 6 q13.2.2.2.1, cZa cZ (bd 7) 2 ms.1, cIa cI (bd 8) 2 ms.2.1, cZa cZ (bd 9) 2 ms.2.2.1, cIa cI (bd 10) 2 ms.2.2.2.1, cIa cI (bd 11) 2 ms.2.2.2.2.1, cZa cZ (bd 12) 2 ms.2.2.2.2.2.1, cJa cJ (bd 13) 6 ms.2.2.2.2.2.2, cJa cJ (bd 14) 16 q13.2.2.2.2.1]) (wr := []) (va_runV (As := [.long q13.1.1]) (rest := []) ⟨hx, hb, hml, hown, hts⟩ (ctM_advance l D cZ cI cJ tL tH H.size bd k mc q13.1 mp q18 q13.2.2 ms q13.1.1 hk) (cwM_179 hts hN rfl rfl ⟨Nat.le_of_ble_eq_true rfl, Nat.le_of_ble_eq_true rfl⟩) (k_preV hK hN hT hA hS hP hD [0, 1, 2, 3, 4, 5, 6, 7, 8, 9, 10, 11, 12, 13, 14] rfl (by decide) 0 rfl rfl) rfl rfl hl.1 rfl (lv_room (Nat.le_of_ble_eq_true rfl)) dM_oneEdge_131 ⟨Nat.zero_le _, Nat.zero_le _⟩) hP hD hS hA [0, 1, 2, 3, 4, 5, 6, 7, 8, 9, 10, 11, 12, 13, 14] [] rfl rfl (by decide) (by decide) (fun _ H locs hP hD hS => ?_)
              refine W.eq (g2 := F0 m 134 ls []) rfl ?_
              have hP : va_P D vwCl [cMd bd k mc ((fM_advance k mc q13.1 mp q18 q13.2.2 ms q13.1.1).1) ((fM_advance k mc q13.1 mp q18 q13.2.2 ms q13.1.1).2.1) ((fM_advance k mc q13.1 mp q18 q13.2.2 ms q13.1.1).2.2), cIa cI (bd 1) 128 mp, cZa cZ (bd 2) 30 (((fM_advance k mc q13.1 mp q18 q13.2.2 ms q13.1.1).2.1).1), cJa cJ (bd 3) 30 (((fM_advance k mc q13.1 mp q18 q13.2.2 ms q13.1.1).2.1).2.1), cIa cI (bd 4) 30 (((fM_advance k mc q13.1 mp q18 q13.2.2 ms q13.1.1).2.1).2.2.1), cZa cZ (bd 5) 6 (((fM_advance k mc q13.1 mp q18 q13.2.2 ms q13.1.1).2.2).1), cZa cZ (bd 6) 6 (((fM_advance k mc q13.1 mp q18 q13.2.2 ms q13.1.1).2.2).2.1), cZa cZ (bd 7) 2 ms.1, cIa cI (bd 8) 2 ms.2.1, cZa cZ (bd 9) 2 ms.2.2.1, cIa cI (bd 10) 2 ms.2.2.2.1, cIa cI (bd 11) 2 ms.2.2.2.2.1, cZa cZ (bd 12) 2 ms.2.2.2.2.2.1, cJa cJ (bd 13) 6 ms.2.2.2.2.2.2, cJa cJ (bd 14) 16 (((fM_advance k mc q13.1 mp q18 q13.2.2 ms q13.1.1).2.2).2.2.1)] H := hP
              have hD : va_D A [cMd bd k mc ((fM_advance k mc q13.1 mp q18 q13.2.2 ms q13.1.1).1) ((fM_advance k mc q13.1 mp q18 q13.2.2 ms q13.1.1).2.1) ((fM_advance k mc q13.1 mp q18 q13.2.2 ms q13.1.1).2.2), cIa cI (bd 1) 128 mp, cZa cZ (bd 2) 30 (((fM_advance k mc q13.1 mp q18 q13.2.2 ms q13.1.1).2.1).1), cJa cJ (bd 3) 30 (((fM_advance k mc q13.1 mp q18 q13.2.2 ms q13.1.1).2.1).2.1), cIa cI (bd 4) 30 (((fM_advance k mc q13.1 mp q18 q13.2.2 ms q13.1.1).2.1).2.2.1), cZa cZ (bd 5) 6 (((fM_advance k mc q13.1 mp q18 q13.2.2 ms q13.1.1).2.2).1), cZa cZ (bd 6) 6 (((fM_advance k mc q13.1 mp q18 q13.2.2 ms q13.1.1).2.2).2.1), cZa cZ (bd 7) 2 ms.1, cIa cI (bd 8) 2 ms.2.1, cZa cZ (bd 9) 2 ms.2.2.1, cIa cI (bd 10) 2 ms.2.2.2.1, cIa cI (bd 11) 2 ms.2.2.2.2.1, cZa cZ (bd 12) 2 ms.2.2.2.2.2.1, cJa cJ (bd 13) 6 ms.2.2.2.2.2.2, cJa cJ (bd 14) 16 (((fM_advance k mc q13.1 mp q18 q13.2.2 ms q13.1.1).2.2).2.2.1)] := hD
              generalize hq19 : fM_advance k mc q13.1 mp q18 q13.2.2 ms q13.1.1 = q19 at hP hD 
              have hP : va_P D vwCl [cMd bd k mc q19.1 q19.2.1 q19.2.2, cIa cI (bd 1) 128 mp, cZa cZ (bd 2) 30 q19.2.1.1, cJa cJ (bd 3) 30 q19.2.1.2.1, cIa cI (bd 4) 30 q19.2.1.2.2.1, cZa cZ (bd 5) 6 q19.2.2.1, cZa cZ (bd 6) 6 q19.2.2.2.1, cZa cZ (bd 7) 2 ms.1, cIa cI (bd 8) 2 ms.2.1, cZa cZ (bd 9) 2 ms.2.2.1, cIa cI (bd 10) 2 ms.2.2.2.1, cIa cI (bd 11) 2 ms.2.2.2.2.1, cZa cZ (bd 12) 2 ms.2.2.2.2.2.1, cJa cJ (bd 13) 6 ms.2.2.2.2.2.2, cJa cJ (bd 14) 16 q19.2.2.2.2.1] H := hP
              have hD : va_D A [cMd bd k mc q19.1 q19.2.1 q19.2.2, cIa cI (bd 1) 128 mp, cZa cZ (bd 2) 30 q19.2.1.1, cJa cJ (bd 3) 30 q19.2.1.2.1, cIa cI (bd 4) 30 q19.2.1.2.2.1, cZa cZ (bd 5) 6 q19.2.2.1, cZa cZ (bd 6) 6 q19.2.2.2.1, cZa cZ (bd 7) 2 ms.1, cIa cI (bd 8) 2 ms.2.1, cZa cZ (bd 9) 2 ms.2.2.1, cIa cI (bd 10) 2 ms.2.2.2.1, cIa cI (bd 11) 2 ms.2.2.2.2.1, cZa cZ (bd 12) 2 ms.2.2.2.2.2.1, cJa cJ (bd 13) 6 ms.2.2.2.2.2.2, cJa cJ (bd 14) 16 q19.2.2.2.2.1] := hD
              exact k_vret hx hb hr hlk hP hD hS dM_oneEdge_134 () rfl (by simp only [fM_oneEdge, hq1, if_neg h2, if_neg h3, if_pos h4, if_neg h5, hq13, if_pos h14, if_neg h16, hq18, hq19])
      · -- not taken at 69
        refine lv_aload_n hx hb dM_oneEdge_73 rfl (lv_at hl 1 rfl) ?_
        refine lv_lload_n hx hb dM_oneEdge_74 rfl (lv_at hl 0 rfl) ?_
        refine k_ca0 (wc := [cMd bd k mc (q1.1.1, q1.1.2.1, q1.1.1, q1.1.2.2.2.1, q1.1.2.2.2.2.1, q1.1.2.2.2.2.2.1, q1.1.2.2.2.2.2.2.1, q1.1.2.2.2.2.2.2.2) q1.2.1 q1.2.2, cIa cI (bd 1) 128 mp, cZa cZ (bd 2) 30 q1.2.1.1, cJa cJ (bd 3) 30 q1.2.1.2.1, cIa cI (bd 4) 30 q1.2.1.2.2.1, cZa cZ (bd 5) 6 q1.2.2.1, cZa cZ (bd 6) 6 q1.2.2.2.1, cZa cZ (bd 7) 2 ms.1, cIa cI (bd 8) 2 ms.2.1, cZa cZ (bd 9) 2 ms.2.2.1, cIa cI (bd 10) 2 ms.2.2.2.1, cIa cI (bd 11) 2 ms.2.2.2.2.1, cZa cZ (bd 12) 2 ms.2.2.2.2.2.1, cJa cJ (bd 13) 6 ms.2.2.2.2.2.2, cJa cJ (bd 14) 16 q1.2.2.2.2.1]) (wr := []) (va_runV (As := [.long (q1.1.1 - q1.1.2.2.1)]) (rest := []) ⟨hx, hb, hml, hown, hts⟩ (ctM_longInterval l D cZ cI cJ tL tH H.size bd k mc (q1.1.1, q1.1.2.1, q1.1.1, q1.1.2.2.2.1, q1.1.2.2.2.2.1, q1.1.2.2.2.2.2.1, q1.1.2.2.2.2.2.2.1, q1.1.2.2.2.2.2.2.2) mp q1.2.1 q1.2.2 ms (q1.1.1 - q1.1.2.2.1) hk) (cwM_185 hts hN rfl rfl ⟨Nat.le_of_ble_eq_true rfl, Nat.le_of_ble_eq_true rfl⟩) (k_preV hK hN hT hA hS hP hD [0, 1, 2, 3, 4, 5, 6, 7, 8, 9, 10, 11, 12, 13, 14] rfl (by decide) 0 rfl rfl) rfl rfl hl.1 rfl (lv_room (Nat.le_of_ble_eq_true rfl)) dM_oneEdge_75 ⟨Nat.zero_le _, Nat.zero_le _⟩) hP hD hS hA [0, 1, 2, 3, 4, 5, 6, 7, 8, 9, 10, 11, 12, 13, 14] [] rfl rfl (by decide) (by decide) (fun _ H locs hP hD hS => ?_)
        refine W.eq (g2 := F0 m 78 ls []) rfl ?_
        have hP : va_P D vwCl [cMd bd k mc ((fM_longInterval k mc (q1.1.1, q1.1.2.1, q1.1.1, q1.1.2.2.2.1, q1.1.2.2.2.2.1, q1.1.2.2.2.2.2.1, q1.1.2.2.2.2.2.2.1, q1.1.2.2.2.2.2.2.2) mp q1.2.1 q1.2.2 ms (q1.1.1 - q1.1.2.2.1)).1) ((fM_longInterval k mc (q1.1.1, q1.1.2.1, q1.1.1, q1.1.2.2.2.1, q1.1.2.2.2.2.1, q1.1.2.2.2.2.2.1, q1.1.2.2.2.2.2.2.1, q1.1.2.2.2.2.2.2.2) mp q1.2.1 q1.2.2 ms (q1.1.1 - q1.1.2.2.1)).2.1) ((fM_longInterval k mc (q1.1.1, q1.1.2.1, q1.1.1, q1.1.2.2.2.1, q1.1.2.2.2.2.1, q1.1.2.2.2.2.2.1, q1.1.2.2.2.2.2.2.1, q1.1.2.2.2.2.2.2.2) mp q1.2.1 q1.2.2 ms (q1.1.1 - q1.1.2.2.1)).2.2), cIa cI (bd 1) 128 mp, cZa cZ (bd 2) 30 (((fM_longInterval k mc (q1.1.1, q1.1.2.1, q1.1.1, q1.1.2.2.2.1, q1.1.2.2.2.2.1, q1.1.2.2.2.2.2.1, q1.1.2.2.2.2.2.2.1, q1.1.2.2.2.2.2.2.2) mp q1.2.1 q1.2.2 ms (q1.1.1 - q1.1.2.2.1)).2.1).1), cJa cJ (bd 3) 30 (((fM_longInterval k mc (q1.1.1, q1.1.2.1, q1.1.1, q1.1.2.2.2.1, q1.1.2.2.2.2.1, q1.1.2.2.2.2.2.1, q1.1.2.2.2.2.2.2.1, q1.1.2.2.2.2.2.2.2) mp q1.2.1 q1.2.2 ms (q1.1.1 - q1.1.2.2.1)).2.1).2.1), cIa cI (bd 4) 30 (((fM_longInterval k mc (q1.1.1, q1.1.2.1, q1.1.1, q1.1.2.2.2.1, q1.1.2.2.2.2.1, q1.1.2.2.2.2.2.1, q1.1.2.2.2.2.2.2.1, q1.1.2.2.2.2.2.2.2) mp q1.2.1 q1.2.2 ms (q1.1.1 - q1.1.2.2.1)).2.1).2.2.1), cZa cZ (bd 5) 6 (((fM_longInterval k mc (q1.1.1, q1.1.2.1, q1.1.1, q1.1.2.2.2.1, q1.1.2.2.2.2.1, q1.1.2.2.2.2.2.1, q1.1.2.2.2.2.2.2.1, q1.1.2.2.2.2.2.2.2) mp q1.2.1 q1.2.2 ms (q1.1.1 - q1.1.2.2.1)).2.2).1), cZa cZ (bd 6) 6 (((fM_longInterval k mc (q1.1.1, q1.1.2.1, q1.1.1, q1.1.2.2.2.1, q1.1.2.2.2.2.1, q1.1.2.2.2.2.2.1, q1.1.2.2.2.2.2.2.1, q1.1.2.2.2.2.2.2.2) mp q1.2.1 q1.2.2 ms (q1.1.1 - q1.1.2.2.1)).2.2).2.1), cZa cZ (bd 7) 2 ms.1, cIa cI (bd 8) 2 ms.2.1, cZa cZ (bd 9) 2 ms.2.2.1, cIa cI (bd 10) 2 ms.2.2.2.1, cIa cI (bd 11) 2 ms.2.2.2.2.1, cZa cZ (bd 12) 2 ms.2.2.2.2.2.1, cJa cJ (bd 13) 6 ms.2.2.2.2.2.2, cJa cJ (bd 14) 16 (((fM_longInterval k mc (q1.1.1, q1.1.2.1, q1.1.1, q1.1.2.2.2.1, q1.1.2.2.2.2.1, q1.1.2.2.2.2.2.1, q1.1.2.2.2.2.2.2.1, q1.1.2.2.2.2.2.2.2) mp q1.2.1 q1.2.2 ms (q1.1.1 - q1.1.2.2.1)).2.2).2.2.1)] H := hP
        have hD : va_D A [cMd bd k mc ((fM_longInterval k mc (q1.1.1, q1.1.2.1, q1.1.1, q1.1.2.2.2.1, q1.1.2.2.2.2.1, q1.1.2.2.2.2.2.1, q1.1.2.2.2.2.2.2.1, q1.1.2.2.2.2.2.2.2) mp q1.2.1 q1.2.2 ms (q1.1.1 - q1.1.2.2.1)).1) ((fM_longInterval k mc (q1.1.1, q1.1.2.1, q1.1.1, q1.1.2.2.2.1, q1.1.2.2.2.2.1, q1.1.2.2.2.2.2.1, q1.1.2.2.2.2.2.2.1, q1.1.2.2.2.2.2.2.2) mp q1.2.1 q1.2.2 ms (q1.1.1 - q1.1.2.2.1)).2.1) ((fM_longInterval k mc (q1.1.1, q1.1.2.1, q1.1.1, q1.1.2.2.2.1, q1.1.2.2.2.2.1, q1.1.2.2.2.2.2.1, q1.1.2.2.2.2.2.2.1, q1.1.2.2.2.2.2.2.2) mp q1.2.1 q1.2.2 ms (q1.1.1 - q1.1.2.2.1)).2.2), cIa cI (bd 1) 128 mp, cZa cZ (bd 2) 30 (((fM_longInterval k mc (q1.1.1, q1.1.2.1, q1.1.1, q1.1.2.2.2.1, q1.1.2.2.2.2.1, q1.1.2.2.2.2.2.1, q1.1.2.2.2.2.2.2.1, q1.1.2.2.2.2.2.2.2) mp q1.2.1 q1.2.2 ms (q1.1.1 - q1.1.2.2.1)).2.1).1), cJa cJ (bd 3) 30 (((fM_longInterval k mc (q1.1.1, q1.1.2.1, q1.1.1, q1.1.2.2.2.1, q1.1.2.2.2.2.1, q1.1.2.2.2.2.2.1, q1.1.2.2.2.2.2.2.1, q1.1.2.2.2.2.2.2.2) mp q1.2.1 q1.2.2 ms (q1.1.1 - q1.1.2.2.1)).2.1).2.1), cIa cI (bd 4) 30 (((fM_longInterval k mc (q1.1.1, q1.1.2.1, q1.1.1, q1.1.2.2.2.1, q1.1.2.2.2.2.1, q1.1.2.2.2.2.2.1, q1.1.2.2.2.2.2.2.1, q1.1.2.2.2.2.2.2.2) mp q1.2.1 q1.2.2 ms (q1.1.1 - q1.1.2.2.1)).2.1).2.2.1), cZa cZ (bd 5) 6 (((fM_longInterval k mc (q1.1.1, q1.1.2.1, q1.1.1, q1.1.2.2.2.1, q1.1.2.2.2.2.1, q1.1.2.2.2.2.2.1, q1.1.2.2.2.2.2.2.1, q1.1.2.2.2.2.2.2.2) mp q1.2.1 q1.2.2 ms (q1.1.1 - q1.1.2.2.1)).2.2).1), cZa cZ (bd 6) 6 (((fM_longInterval k mc (q1.1.1, q1.1.2.1, q1.1.1, q1.1.2.2.2.1, q1.1.2.2.2.2.1, q1.1.2.2.2.2.2.1, q1.1.2.2.2.2.2.2.1, q1.1.2.2.2.2.2.2.2) mp q1.2.1 q1.2.2 ms (q1.1.1 - q1.1.2.2.1)).2.2).2.1), cZa cZ (bd 7) 2 ms.1, cIa cI (bd 8) 2 ms.2.1, cZa cZ (bd 9) 2 ms.2.2.1, cIa cI (bd 10) 2 ms.2.2.2.1, cIa cI (bd 11) 2 ms.2.2.2.2.1, cZa cZ (bd 12) 2 ms.2.2.2.2.2.1, cJa cJ (bd 13) 6 ms.2.2.2.2.2.2, cJa cJ (bd 14) 16 (((fM_longInterval k mc (q1.1.1, q1.1.2.1, q1.1.1, q1.1.2.2.2.1, q1.1.2.2.2.2.1, q1.1.2.2.2.2.2.1, q1.1.2.2.2.2.2.2.1, q1.1.2.2.2.2.2.2.2) mp q1.2.1 q1.2.2 ms (q1.1.1 - q1.1.2.2.1)).2.2).2.2.1)] := hD
        generalize hq20 : fM_longInterval k mc (q1.1.1, q1.1.2.1, q1.1.1, q1.1.2.2.2.1, q1.1.2.2.2.2.1, q1.1.2.2.2.2.2.1, q1.1.2.2.2.2.2.2.1, q1.1.2.2.2.2.2.2.2) mp q1.2.1 q1.2.2 ms (q1.1.1 - q1.1.2.2.1) = q20 at hP hD 
        have hP : va_P D vwCl [cMd bd k mc q20.1 q20.2.1 q20.2.2, cIa cI (bd 1) 128 mp, cZa cZ (bd 2) 30 q20.2.1.1, cJa cJ (bd 3) 30 q20.2.1.2.1, cIa cI (bd 4) 30 q20.2.1.2.2.1, cZa cZ (bd 5) 6 q20.2.2.1, cZa cZ (bd 6) 6 q20.2.2.2.1, cZa cZ (bd 7) 2 ms.1, cIa cI (bd 8) 2 ms.2.1, cZa cZ (bd 9) 2 ms.2.2.1, cIa cI (bd 10) 2 ms.2.2.2.1, cIa cI (bd 11) 2 ms.2.2.2.2.1, cZa cZ (bd 12) 2 ms.2.2.2.2.2.1, cJa cJ (bd 13) 6 ms.2.2.2.2.2.2, cJa cJ (bd 14) 16 q20.2.2.2.2.1] H := hP
        have hD : va_D A [cMd bd k mc q20.1 q20.2.1 q20.2.2, cIa cI (bd 1) 128 mp, cZa cZ (bd 2) 30 q20.2.1.1, cJa cJ (bd 3) 30 q20.2.1.2.1, cIa cI (bd 4) 30 q20.2.1.2.2.1, cZa cZ (bd 5) 6 q20.2.2.1, cZa cZ (bd 6) 6 q20.2.2.2.1, cZa cZ (bd 7) 2 ms.1, cIa cI (bd 8) 2 ms.2.1, cZa cZ (bd 9) 2 ms.2.2.1, cIa cI (bd 10) 2 ms.2.2.2.1, cIa cI (bd 11) 2 ms.2.2.2.2.1, cZa cZ (bd 12) 2 ms.2.2.2.2.2.1, cJa cJ (bd 13) 6 ms.2.2.2.2.2.2, cJa cJ (bd 14) 16 q20.2.2.2.2.1] := hD
        refine lv_goto (tgt := 107) hx hb dM_oneEdge_78 (by decide) ?_
        refine lv_aload_n hx hb dM_oneEdge_107 rfl (lv_at hl 1 rfl) ?_
        refine gfM_158 hx hb hts hown hN hK hP 0 rfl (v := .int q20.1.2.2.2.2.1) rfl dM_oneEdge_108 ?_
        refine lv_iconst (v := (3 : Int32)) hx hb dM_oneEdge_111 (by decide) ?_
        refine lv_icmp_ne (tgt := 126) hx hb dM_oneEdge_112 (by decide) (fun h21 => ?_) (fun h21 => ?_)
        · -- taken at 112
          refine lv_aload_n hx hb dM_oneEdge_126 rfl (lv_at hl 1 rfl) ?_
          refine lv_aload_n hx hb dM_oneEdge_127 rfl (lv_at hl 1 rfl) ?_
          refine gfM_111 hx hb hts hown hN hK hP 0 rfl (v := .long q20.1.1) rfl dM_oneEdge_128 ?_
          refine k_ca0 (wc := [cMd bd k mc q20.1 q20.2.1 q20.2.2, cIa cI (bd 1) 128 mp, cZa cZ (bd 2) 30 q20.2.1.1, cJa cJ (bd 3) 30 q20.2.1.2.1, cIa cI (bd 4) 30 q20.2.1.2.2.1, cZa cZ (bd 5) 6 q20.2.2.1, cZa cZ (bd 6) 6 q20.2.2.2.1, cZa cZ (bd 7) 2 ms.1, cIa cI (bd 8) 2 ms.2.1, cZa cZ (bd 9) 2 ms.2.2.1, cIa cI (bd 10) 2 ms.2.2.2.1, cIa cI (bd 11) 2 ms.2.2.2.2.1, cZa cZ (bd 12) 2 ms.2.2.2.2.2.1, cJa cJ (bd 13) 6 ms.2.2.2.2.2.2, cJa cJ (bd 14) 16 q20.2.2.2.2.1]) (wr := []) (va_runV (As := [.long q20.1.1]) (rest := []) ⟨hx, hb, hml, hown, hts⟩ (ctM_advance l D cZ cI cJ tL tH H.size bd k mc q20.1 mp q20.2.1 q20.2.2 ms q20.1.1 hk) (cwM_179 hts hN rfl rfl ⟨Nat.le_of_ble_eq_true rfl, Nat.le_of_ble_eq_true rfl⟩) (k_preV hK hN hT hA hS hP hD [0, 1, 2, 3, 4, 5, 6, 7, 8, 9, 10, 11, 12, 13, 14] rfl (by decide) 0 rfl rfl) rfl rfl hl.1 rfl (lv_room (Nat.le_of_ble_eq_true rfl)) dM_oneEdge_131 ⟨Nat.zero_le _, Nat.zero_le _⟩) hP hD hS hA [0, 1, 2, 3, 4, 5, 6, 7, 8, 9, 10, 11, 12, 13, 14] [] rfl rfl (by decide) (by decide) (fun _ H locs hP hD hS => ?_)
          refine W.eq (g2 := F0 m 134 ls []) rfl ?_
          have hP : va_P D vwCl [cMd bd k mc ((fM_advance k mc q20.1 mp q20.2.1 q20.2.2 ms q20.1.1).1) ((fM_advance k mc q20.1 mp q20.2.1 q20.2.2 ms q20.1.1).2.1) ((fM_advance k mc q20.1 mp q20.2.1 q20.2.2 ms q20.1.1).2.2), cIa cI (bd 1) 128 mp, cZa cZ (bd 2) 30 (((fM_advance k mc q20.1 mp q20.2.1 q20.2.2 ms q20.1.1).2.1).1), cJa cJ (bd 3) 30 (((fM_advance k mc q20.1 mp q20.2.1 q20.2.2 ms q20.1.1).2.1).2.1), cIa cI (bd 4) 30 (((fM_advance k mc q20.1 mp q20.2.1 q20.2.2 ms q20.1.1).2.1).2.2.1), cZa cZ (bd 5) 6 (((fM_advance k mc q20.1 mp q20.2.1 q20.2.2 ms q20.1.1).2.2).1), cZa cZ (bd 6) 6 (((fM_advance k mc q20.1 mp q20.2.1 q20.2.2 ms q20.1.1).2.2).2.1), cZa cZ (bd 7) 2 ms.1, cIa cI (bd 8) 2 ms.2.1, cZa cZ (bd 9) 2 ms.2.2.1, cIa cI (bd 10) 2 ms.2.2.2.1, cIa cI (bd 11) 2 ms.2.2.2.2.1, cZa cZ (bd 12) 2 ms.2.2.2.2.2.1, cJa cJ (bd 13) 6 ms.2.2.2.2.2.2, cJa cJ (bd 14) 16 (((fM_advance k mc q20.1 mp q20.2.1 q20.2.2 ms q20.1.1).2.2).2.2.1)] H := hP
          have hD : va_D A [cMd bd k mc ((fM_advance k mc q20.1 mp q20.2.1 q20.2.2 ms q20.1.1).1) ((fM_advance k mc q20.1 mp q20.2.1 q20.2.2 ms q20.1.1).2.1) ((fM_advance k mc q20.1 mp q20.2.1 q20.2.2 ms q20.1.1).2.2), cIa cI (bd 1) 128 mp, cZa cZ (bd 2) 30 (((fM_advance k mc q20.1 mp q20.2.1 q20.2.2 ms q20.1.1).2.1).1), cJa cJ (bd 3) 30 (((fM_advance k mc q20.1 mp q20.2.1 q20.2.2 ms q20.1.1).2.1).2.1), cIa cI (bd 4) 30 (((fM_advance k mc q20.1 mp q20.2.1 q20.2.2 ms q20.1.1).2.1).2.2.1), cZa cZ (bd 5) 6 (((fM_advance k mc q20.1 mp q20.2.1 q20.2.2 ms q20.1.1).2.2).1), cZa cZ (bd 6) 6 (((fM_advance k mc q20.1 mp q20.2.1 q20.2.2 ms q20.1.1).2.2).2.1), cZa cZ (bd 7) 2 ms.1, cIa cI (bd 8) 2 ms.2.1, cZa cZ (bd 9) 2 ms.2.2.1, cIa cI (bd 10) 2 ms.2.2.2.1, cIa cI (bd 11) 2 ms.2.2.2.2.1, cZa cZ (bd 12) 2 ms.2.2.2.2.2.1, cJa cJ (bd 13) 6 ms.2.2.2.2.2.2, cJa cJ (bd 14) 16 (((fM_advance k mc q20.1 mp q20.2.1 q20.2.2 ms q20.1.1).2.2).2.2.1)] := hD
          generalize hq22 : fM_advance k mc q20.1 mp q20.2.1 q20.2.2 ms q20.1.1 = q22 at hP hD 
          have hP : va_P D vwCl [cMd bd k mc q22.1 q22.2.1 q22.2.2, cIa cI (bd 1) 128 mp, cZa cZ (bd 2) 30 q22.2.1.1, cJa cJ (bd 3) 30 q22.2.1.2.1, cIa cI (bd 4) 30 q22.2.1.2.2.1, cZa cZ (bd 5) 6 q22.2.2.1, cZa cZ (bd 6) 6 q22.2.2.2.1, cZa cZ (bd 7) 2 ms.1, cIa cI (bd 8) 2 ms.2.1, cZa cZ (bd 9) 2 ms.2.2.1, cIa cI (bd 10) 2 ms.2.2.2.1, cIa cI (bd 11) 2 ms.2.2.2.2.1, cZa cZ (bd 12) 2 ms.2.2.2.2.2.1, cJa cJ (bd 13) 6 ms.2.2.2.2.2.2, cJa cJ (bd 14) 16 q22.2.2.2.2.1] H := hP
          have hD : va_D A [cMd bd k mc q22.1 q22.2.1 q22.2.2, cIa cI (bd 1) 128 mp, cZa cZ (bd 2) 30 q22.2.1.1, cJa cJ (bd 3) 30 q22.2.1.2.1, cIa cI (bd 4) 30 q22.2.1.2.2.1, cZa cZ (bd 5) 6 q22.2.2.1, cZa cZ (bd 6) 6 q22.2.2.2.1, cZa cZ (bd 7) 2 ms.1, cIa cI (bd 8) 2 ms.2.1, cZa cZ (bd 9) 2 ms.2.2.1, cIa cI (bd 10) 2 ms.2.2.2.1, cIa cI (bd 11) 2 ms.2.2.2.2.1, cZa cZ (bd 12) 2 ms.2.2.2.2.2.1, cJa cJ (bd 13) 6 ms.2.2.2.2.2.2, cJa cJ (bd 14) 16 q22.2.2.2.2.1] := hD
          exact k_vret hx hb hr hlk hP hD hS dM_oneEdge_134 () rfl (by simp only [fM_oneEdge, hq1, if_neg h2, if_neg h3, if_neg h4, hq20, if_neg h21, hq22])
        · -- not taken at 112
          refine lv_aload_n hx hb dM_oneEdge_115 rfl (lv_at hl 1 rfl) ?_
          refine gfM_7 hx hb hts hown hN hK hP 0 rfl (v := .int q20.1.2.2.2.2.2.2.1) rfl dM_oneEdge_116 ?_
          refine lv_if_lt (tgt := 126) hx hb dM_oneEdge_119 (by decide) (fun h23 => ?_) (fun h23 => ?_)
          · -- taken at 119
            refine lv_aload_n hx hb dM_oneEdge_126 rfl (lv_at hl 1 rfl) ?_
            refine lv_aload_n hx hb dM_oneEdge_127 rfl (lv_at hl 1 rfl) ?_
            refine gfM_111 hx hb hts hown hN hK hP 0 rfl (v := .long q20.1.1) rfl dM_oneEdge_128 ?_
            refine k_ca0 (wc := [cMd bd k mc q20.1 q20.2.1 q20.2.2, cIa cI (bd 1) 128 mp, cZa cZ (bd 2) 30 q20.2.1.1, cJa cJ (bd 3) 30 q20.2.1.2.1, cIa cI (bd 4) 30 q20.2.1.2.2.1, cZa cZ (bd 5) 6 q20.2.2.1, cZa cZ (bd 6) 6 q20.2.2.2.1, cZa cZ (bd 7) 2 ms.1, cIa cI (bd 8) 2 ms.2.1, cZa cZ (bd 9) 2 ms.2.2.1, cIa cI (bd 10) 2 ms.2.2.2.1, cIa cI (bd 11) 2 ms.2.2.2.2.1, cZa cZ (bd 12) 2 ms.2.2.2.2.2.1, cJa cJ (bd 13) 6 ms.2.2.2.2.2.2, cJa cJ (bd 14) 16 q20.2.2.2.2.1]) (wr := []) (va_runV (As := [.long q20.1.1]) (rest := []) ⟨hx, hb, hml, hown, hts⟩ (ctM_advance l D cZ cI cJ tL tH H.size bd k mc q20.1 mp q20.2.1 q20.2.2 ms q20.1.1 hk) (cwM_179 hts hN rfl rfl ⟨Nat.le_of_ble_eq_true rfl, Nat.le_of_ble_eq_true rfl⟩) (k_preV hK hN hT hA hS hP hD [0, 1, 2, 3, 4, 5, 6, 7, 8, 9, 10, 11, 12, 13, 14] rfl (by decide) 0 rfl rfl) rfl rfl hl.1 rfl (lv_room (Nat.le_of_ble_eq_true rfl)) dM_oneEdge_131 ⟨Nat.zero_le _, Nat.zero_le _⟩) hP hD hS hA [0, 1, 2, 3, 4, 5, 6, 7, 8, 9, 10, 11, 12, 13, 14] [] rfl rfl (by decide) (by decide) (fun _ H locs hP hD hS => ?_)
            refine W.eq (g2 := F0 m 134 ls []) rfl ?_
            have hP : va_P D vwCl [cMd bd k mc ((fM_advance k mc q20.1 mp q20.2.1 q20.2.2 ms q20.1.1).1) ((fM_advance k mc q20.1 mp q20.2.1 q20.2.2 ms q20.1.1).2.1) ((fM_advance k mc q20.1 mp q20.2.1 q20.2.2 ms q20.1.1).2.2), cIa cI (bd 1) 128 mp, cZa cZ (bd 2) 30 (((fM_advance k mc q20.1 mp q20.2.1 q20.2.2 ms q20.1.1).2.1).1), cJa cJ (bd 3) 30 (((fM_advance k mc q20.1 mp q20.2.1 q20.2.2 ms q20.1.1).2.1).2.1), cIa cI (bd 4) 30 (((fM_advance k mc q20.1 mp q20.2.1 q20.2.2 ms q20.1.1).2.1).2.2.1), cZa cZ (bd 5) 6 (((fM_advance k mc q20.1 mp q20.2.1 q20.2.2 ms q20.1.1).2.2).1), cZa cZ (bd 6) 6 (((fM_advance k mc q20.1 mp q20.2.1 q20.2.2 ms q20.1.1).2.2).2.1), cZa cZ (bd 7) 2 ms.1, cIa cI (bd 8) 2 ms.2.1, cZa cZ (bd 9) 2 ms.2.2.1, cIa cI (bd 10) 2 ms.2.2.2.1, cIa cI (bd 11) 2 ms.2.2.2.2.1, cZa cZ (bd 12) 2 ms.2.2.2.2.2.1, cJa cJ (bd 13) 6 ms.2.2.2.2.2.2, cJa cJ (bd 14) 16 (((fM_advance k mc q20.1 mp q20.2.1 q20.2.2 ms q20.1.1).2.2).2.2.1)] H := hP
            have hD : va_D A [cMd bd k mc ((fM_advance k mc q20.1 mp q20.2.1 q20.2.2 ms q20.1.1).1) ((fM_advance k mc q20.1 mp q20.2.1 q20.2.2 ms q20.1.1).2.1) ((fM_advance k mc q20.1 mp q20.2.1 q20.2.2 ms q20.1.1).2.2), cIa cI (bd 1) 128 mp, cZa cZ (bd 2) 30 (((fM_advance k mc q20.1 mp q20.2.1 q20.2.2 ms q20.1.1).2.1).1), cJa cJ (bd 3) 30 (((fM_advance k mc q20.1 mp q20.2.1 q20.2.2 ms q20.1.1).2.1).2.1), cIa cI (bd 4) 30 (((fM_advance k mc q20.1 mp q20.2.1 q20.2.2 ms q20.1.1).2.1).2.2.1), cZa cZ (bd 5) 6 (((fM_advance k mc q20.1 mp q20.2.1 q20.2.2 ms q20.1.1).2.2).1), cZa cZ (bd 6) 6 (((fM_advance k mc q20.1 mp q20.2.1 q20.2.2 ms q20.1.1).2.2).2.1), cZa cZ (bd 7) 2 ms.1, cIa cI (bd 8) 2 ms.2.1, cZa cZ (bd 9) 2 ms.2.2.1, cIa cI (bd 10) 2 ms.2.2.2.1, cIa cI (bd 11) 2 ms.2.2.2.2.1, cZa cZ (bd 12) 2 ms.2.2.2.2.2.1, cJa cJ (bd 13) 6 ms.2.2.2.2.2.2, cJa cJ (bd 14) 16 (((fM_advance k mc q20.1 mp q20.2.1 q20.2.2 ms q20.1.1).2.2).2.2.1)] := hD
            generalize hq24 : fM_advance k mc q20.1 mp q20.2.1 q20.2.2 ms q20.1.1 = q24 at hP hD 
            have hP : va_P D vwCl [cMd bd k mc q24.1 q24.2.1 q24.2.2, cIa cI (bd 1) 128 mp, cZa cZ (bd 2) 30 q24.2.1.1, cJa cJ (bd 3) 30 q24.2.1.2.1, cIa cI (bd 4) 30 q24.2.1.2.2.1, cZa cZ (bd 5) 6 q24.2.2.1, cZa cZ (bd 6) 6 q24.2.2.2.1, cZa cZ (bd 7) 2 ms.1, cIa cI (bd 8) 2 ms.2.1, cZa cZ (bd 9) 2 ms.2.2.1, cIa cI (bd 10) 2 ms.2.2.2.1, cIa cI (bd 11) 2 ms.2.2.2.2.1, cZa cZ (bd 12) 2 ms.2.2.2.2.2.1, cJa cJ (bd 13) 6 ms.2.2.2.2.2.2, cJa cJ (bd 14) 16 q24.2.2.2.2.1] H := hP
            have hD : va_D A [cMd bd k mc q24.1 q24.2.1 q24.2.2, cIa cI (bd 1) 128 mp, cZa cZ (bd 2) 30 q24.2.1.1, cJa cJ (bd 3) 30 q24.2.1.2.1, cIa cI (bd 4) 30 q24.2.1.2.2.1, cZa cZ (bd 5) 6 q24.2.2.1, cZa cZ (bd 6) 6 q24.2.2.2.1, cZa cZ (bd 7) 2 ms.1, cIa cI (bd 8) 2 ms.2.1, cZa cZ (bd 9) 2 ms.2.2.1, cIa cI (bd 10) 2 ms.2.2.2.1, cIa cI (bd 11) 2 ms.2.2.2.2.1, cZa cZ (bd 12) 2 ms.2.2.2.2.2.1, cJa cJ (bd 13) 6 ms.2.2.2.2.2.2, cJa cJ (bd 14) 16 q24.2.2.2.2.1] := hD
            exact k_vret hx hb hr hlk hP hD hS dM_oneEdge_134 () rfl (by simp only [fM_oneEdge, hq1, if_neg h2, if_neg h3, if_neg h4, hq20, if_pos h21, if_pos h23, hq24])
          · -- not taken at 119
            refine lv_aload_n hx hb dM_oneEdge_122 rfl (lv_at hl 1 rfl) ?_
            refine k_ca0 (wc := [cMd bd k mc q20.1 q20.2.1 q20.2.2, cIa cI (bd 1) 128 mp, cZa cZ (bd 2) 30 q20.2.1.1, cJa cJ (bd 3) 30 q20.2.1.2.1, cIa cI (bd 4) 30 q20.2.1.2.2.1, cZa cZ (bd 5) 6 q20.2.2.1, cZa cZ (bd 6) 6 q20.2.2.2.1, cZa cZ (bd 7) 2 ms.1, cIa cI (bd 8) 2 ms.2.1, cZa cZ (bd 9) 2 ms.2.2.1, cIa cI (bd 10) 2 ms.2.2.2.1, cIa cI (bd 11) 2 ms.2.2.2.2.1, cZa cZ (bd 12) 2 ms.2.2.2.2.2.1, cJa cJ (bd 13) 6 ms.2.2.2.2.2.2, cJa cJ (bd 14) 16 q20.2.2.2.2.1]) (wr := []) (va_runV (As := []) (rest := []) ⟨hx, hb, hml, hown, hts⟩ (ctM_planAll l D cZ cI cJ tL tH H.size bd k mc q20.1 mp q20.2.1 q20.2.2 ms hk) (cwM_191 hts hN rfl rfl ⟨Nat.le_of_ble_eq_true rfl, Nat.le_of_ble_eq_true rfl⟩) (k_preV hK hN hT hA hS hP hD [0, 1, 2, 3, 4, 5, 6, 7, 8, 9, 10, 11, 12, 13, 14] rfl (by decide) 0 rfl rfl) rfl rfl hl.1 rfl (lv_room (Nat.le_of_ble_eq_true rfl)) dM_oneEdge_123 ⟨Nat.zero_le _, Nat.zero_le _⟩) hP hD hS hA [0, 1, 2, 3, 4, 5, 6, 7, 8, 9, 10, 11, 12, 13, 14] [] rfl rfl (by decide) (by decide) (fun _ H locs hP hD hS => ?_)
            refine W.eq (g2 := F0 m 126 ls []) rfl ?_
            have hP : va_P D vwCl [cMd bd k mc q20.1 (fM_planAll k mc q20.1 mp q20.2.1 q20.2.2 ms) q20.2.2, cIa cI (bd 1) 128 mp, cZa cZ (bd 2) 30 ((fM_planAll k mc q20.1 mp q20.2.1 q20.2.2 ms).1), cJa cJ (bd 3) 30 ((fM_planAll k mc q20.1 mp q20.2.1 q20.2.2 ms).2.1), cIa cI (bd 4) 30 ((fM_planAll k mc q20.1 mp q20.2.1 q20.2.2 ms).2.2.1), cZa cZ (bd 5) 6 q20.2.2.1, cZa cZ (bd 6) 6 q20.2.2.2.1, cZa cZ (bd 7) 2 ms.1, cIa cI (bd 8) 2 ms.2.1, cZa cZ (bd 9) 2 ms.2.2.1, cIa cI (bd 10) 2 ms.2.2.2.1, cIa cI (bd 11) 2 ms.2.2.2.2.1, cZa cZ (bd 12) 2 ms.2.2.2.2.2.1, cJa cJ (bd 13) 6 ms.2.2.2.2.2.2, cJa cJ (bd 14) 16 q20.2.2.2.2.1] H := hP
            have hD : va_D A [cMd bd k mc q20.1 (fM_planAll k mc q20.1 mp q20.2.1 q20.2.2 ms) q20.2.2, cIa cI (bd 1) 128 mp, cZa cZ (bd 2) 30 ((fM_planAll k mc q20.1 mp q20.2.1 q20.2.2 ms).1), cJa cJ (bd 3) 30 ((fM_planAll k mc q20.1 mp q20.2.1 q20.2.2 ms).2.1), cIa cI (bd 4) 30 ((fM_planAll k mc q20.1 mp q20.2.1 q20.2.2 ms).2.2.1), cZa cZ (bd 5) 6 q20.2.2.1, cZa cZ (bd 6) 6 q20.2.2.2.1, cZa cZ (bd 7) 2 ms.1, cIa cI (bd 8) 2 ms.2.1, cZa cZ (bd 9) 2 ms.2.2.1, cIa cI (bd 10) 2 ms.2.2.2.1, cIa cI (bd 11) 2 ms.2.2.2.2.1, cZa cZ (bd 12) 2 ms.2.2.2.2.2.1, cJa cJ (bd 13) 6 ms.2.2.2.2.2.2, cJa cJ (bd 14) 16 q20.2.2.2.2.1] := hD
            generalize hq25 : fM_planAll k mc q20.1 mp q20.2.1 q20.2.2 ms = q25 at hP hD 
            have hP : va_P D vwCl [cMd bd k mc q20.1 q25 q20.2.2, cIa cI (bd 1) 128 mp, cZa cZ (bd 2) 30 q25.1, cJa cJ (bd 3) 30 q25.2.1, cIa cI (bd 4) 30 q25.2.2.1, cZa cZ (bd 5) 6 q20.2.2.1, cZa cZ (bd 6) 6 q20.2.2.2.1, cZa cZ (bd 7) 2 ms.1, cIa cI (bd 8) 2 ms.2.1, cZa cZ (bd 9) 2 ms.2.2.1, cIa cI (bd 10) 2 ms.2.2.2.1, cIa cI (bd 11) 2 ms.2.2.2.2.1, cZa cZ (bd 12) 2 ms.2.2.2.2.2.1, cJa cJ (bd 13) 6 ms.2.2.2.2.2.2, cJa cJ (bd 14) 16 q20.2.2.2.2.1] H := hP
            have hD : va_D A [cMd bd k mc q20.1 q25 q20.2.2, cIa cI (bd 1) 128 mp, cZa cZ (bd 2) 30 q25.1, cJa cJ (bd 3) 30 q25.2.1, cIa cI (bd 4) 30 q25.2.2.1, cZa cZ (bd 5) 6 q20.2.2.1, cZa cZ (bd 6) 6 q20.2.2.2.1, cZa cZ (bd 7) 2 ms.1, cIa cI (bd 8) 2 ms.2.1, cZa cZ (bd 9) 2 ms.2.2.1, cIa cI (bd 10) 2 ms.2.2.2.1, cIa cI (bd 11) 2 ms.2.2.2.2.1, cZa cZ (bd 12) 2 ms.2.2.2.2.2.1, cJa cJ (bd 13) 6 ms.2.2.2.2.2.2, cJa cJ (bd 14) 16 q20.2.2.2.2.1] := hD
            refine lv_aload_n hx hb dM_oneEdge_126 rfl (lv_at hl 1 rfl) ?_
            refine lv_aload_n hx hb dM_oneEdge_127 rfl (lv_at hl 1 rfl) ?_
            refine gfM_111 hx hb hts hown hN hK hP 0 rfl (v := .long q20.1.1) rfl dM_oneEdge_128 ?_
            refine k_ca0 (wc := [cMd bd k mc q20.1 q25 q20.2.2, cIa cI (bd 1) 128 mp, cZa cZ (bd 2) 30 q25.1, cJa cJ (bd 3) 30 q25.2.1, cIa cI (bd 4) 30 q25.2.2.1, cZa cZ (bd 5) 6 q20.2.2.1, cZa cZ (bd 6) 6 q20.2.2.2.1, cZa cZ (bd 7) 2 ms.1, cIa cI (bd 8) 2 ms.2.1, cZa cZ (bd 9) 2 ms.2.2.1, cIa cI (bd 10) 2 ms.2.2.2.1, cIa cI (bd 11) 2 ms.2.2.2.2.1, cZa cZ (bd 12) 2 ms.2.2.2.2.2.1, cJa cJ (bd 13) 6 ms.2.2.2.2.2.2, cJa cJ (bd 14) 16 q20.2.2.2.2.1]) (wr := []) (va_runV (As := [.long q20.1.1]) (rest := []) ⟨hx, hb, hml, hown, hts⟩ (ctM_advance l D cZ cI cJ tL tH H.size bd k mc q20.1 mp q25 q20.2.2 ms q20.1.1 hk) (cwM_179 hts hN rfl rfl ⟨Nat.le_of_ble_eq_true rfl, Nat.le_of_ble_eq_true rfl⟩) (k_preV hK hN hT hA hS hP hD [0, 1, 2, 3, 4, 5, 6, 7, 8, 9, 10, 11, 12, 13, 14] rfl (by decide) 0 rfl rfl) rfl rfl hl.1 rfl (lv_room (Nat.le_of_ble_eq_true rfl)) dM_oneEdge_131 ⟨Nat.zero_le _, Nat.zero_le _⟩) hP hD hS hA [0, 1, 2, 3, 4, 5, 6, 7, 8, 9, 10, 11, 12, 13, 14] [] rfl rfl (by decide) (by decide) (fun _ H locs hP hD hS => ?_)
            refine W.eq (g2 := F0 m 134 ls []) rfl ?_
            have hP : va_P D vwCl [cMd bd k mc ((fM_advance k mc q20.1 mp q25 q20.2.2 ms q20.1.1).1) ((fM_advance k mc q20.1 mp q25 q20.2.2 ms q20.1.1).2.1) ((fM_advance k mc q20.1 mp q25 q20.2.2 ms q20.1.1).2.2), cIa cI (bd 1) 128 mp, cZa cZ (bd 2) 30 (((fM_advance k mc q20.1 mp q25 q20.2.2 ms q20.1.1).2.1).1), cJa cJ (bd 3) 30 (((fM_advance k mc q20.1 mp q25 q20.2.2 ms q20.1.1).2.1).2.1), cIa cI (bd 4) 30 (((fM_advance k mc q20.1 mp q25 q20.2.2 ms q20.1.1).2.1).2.2.1), cZa cZ (bd 5) 6 (((fM_advance k mc q20.1 mp q25 q20.2.2 ms q20.1.1).2.2).1), cZa cZ (bd 6) 6 (((fM_advance k mc q20.1 mp q25 q20.2.2 ms q20.1.1).2.2).2.1), cZa cZ (bd 7) 2 ms.1, cIa cI (bd 8) 2 ms.2.1, cZa cZ (bd 9) 2 ms.2.2.1, cIa cI (bd 10) 2 ms.2.2.2.1, cIa cI (bd 11) 2 ms.2.2.2.2.1, cZa cZ (bd 12) 2 ms.2.2.2.2.2.1, cJa cJ (bd 13) 6 ms.2.2.2.2.2.2, cJa cJ (bd 14) 16 (((fM_advance k mc q20.1 mp q25 q20.2.2 ms q20.1.1).2.2).2.2.1)] H := hP
            have hD : va_D A [cMd bd k mc ((fM_advance k mc q20.1 mp q25 q20.2.2 ms q20.1.1).1) ((fM_advance k mc q20.1 mp q25 q20.2.2 ms q20.1.1).2.1) ((fM_advance k mc q20.1 mp q25 q20.2.2 ms q20.1.1).2.2), cIa cI (bd 1) 128 mp, cZa cZ (bd 2) 30 (((fM_advance k mc q20.1 mp q25 q20.2.2 ms q20.1.1).2.1).1), cJa cJ (bd 3) 30 (((fM_advance k mc q20.1 mp q25 q20.2.2 ms q20.1.1).2.1).2.1), cIa cI (bd 4) 30 (((fM_advance k mc q20.1 mp q25 q20.2.2 ms q20.1.1).2.1).2.2.1), cZa cZ (bd 5) 6 (((fM_advance k mc q20.1 mp q25 q20.2.2 ms q20.1.1).2.2).1), cZa cZ (bd 6) 6 (((fM_advance k mc q20.1 mp q25 q20.2.2 ms q20.1.1).2.2).2.1), cZa cZ (bd 7) 2 ms.1, cIa cI (bd 8) 2 ms.2.1, cZa cZ (bd 9) 2 ms.2.2.1, cIa cI (bd 10) 2 ms.2.2.2.1, cIa cI (bd 11) 2 ms.2.2.2.2.1, cZa cZ (bd 12) 2 ms.2.2.2.2.2.1, cJa cJ (bd 13) 6 ms.2.2.2.2.2.2, cJa cJ (bd 14) 16 (((fM_advance k mc q20.1 mp q25 q20.2.2 ms q20.1.1).2.2).2.2.1)] := hD
            generalize hq26 : fM_advance k mc q20.1 mp q25 q20.2.2 ms q20.1.1 = q26 at hP hD 
            have hP : va_P D vwCl [cMd bd k mc q26.1 q26.2.1 q26.2.2, cIa cI (bd 1) 128 mp, cZa cZ (bd 2) 30 q26.2.1.1, cJa cJ (bd 3) 30 q26.2.1.2.1, cIa cI (bd 4) 30 q26.2.1.2.2.1, cZa cZ (bd 5) 6 q26.2.2.1, cZa cZ (bd 6) 6 q26.2.2.2.1, cZa cZ (bd 7) 2 ms.1, cIa cI (bd 8) 2 ms.2.1, cZa cZ (bd 9) 2 ms.2.2.1, cIa cI (bd 10) 2 ms.2.2.2.1, cIa cI (bd 11) 2 ms.2.2.2.2.1, cZa cZ (bd 12) 2 ms.2.2.2.2.2.1, cJa cJ (bd 13) 6 ms.2.2.2.2.2.2, cJa cJ (bd 14) 16 q26.2.2.2.2.1] H := hP
            have hD : va_D A [cMd bd k mc q26.1 q26.2.1 q26.2.2, cIa cI (bd 1) 128 mp, cZa cZ (bd 2) 30 q26.2.1.1, cJa cJ (bd 3) 30 q26.2.1.2.1, cIa cI (bd 4) 30 q26.2.1.2.2.1, cZa cZ (bd 5) 6 q26.2.2.1, cZa cZ (bd 6) 6 q26.2.2.2.1, cZa cZ (bd 7) 2 ms.1, cIa cI (bd 8) 2 ms.2.1, cZa cZ (bd 9) 2 ms.2.2.1, cIa cI (bd 10) 2 ms.2.2.2.1, cIa cI (bd 11) 2 ms.2.2.2.2.1, cZa cZ (bd 12) 2 ms.2.2.2.2.2.1, cJa cJ (bd 13) 6 ms.2.2.2.2.2.2, cJa cJ (bd 14) 16 q26.2.2.2.2.1] := hD
            exact k_vret hx hb hr hlk hP hD hS dM_oneEdge_134 () rfl (by simp only [fM_oneEdge, hq1, if_neg h2, if_neg h3, if_neg h4, hq20, if_pos h21, if_neg h23, hq25, hq26])
    · -- not taken at 46
      refine lv_aload_n hx hb dM_oneEdge_49 rfl (lv_at hl 1 rfl) ?_
      refine lv_lload_n hx hb dM_oneEdge_50 rfl (lv_at hl 0 rfl) ?_
      refine pfM_86 hx hb hts hown hN hK hP hD hS 0 rfl (v := .long (q1.1.1 - q1.1.2.2.1)) rfl rfl (Nat.le_of_ble_eq_true rfl) dM_oneEdge_51 (fun H locs hP hD hS => ?_)
      have hP : va_P D vwCl [cMd bd k mc (q1.1.1, q1.1.2.1, q1.1.1, q1.1.1 - q1.1.2.2.1, q1.1.2.2.2.2.1, q1.1.2.2.2.2.2.1, q1.1.2.2.2.2.2.2.1, q1.1.2.2.2.2.2.2.2) q1.2.1 q1.2.2, cIa cI (bd 1) 128 mp, cZa cZ (bd 2) 30 q1.2.1.1, cJa cJ (bd 3) 30 q1.2.1.2.1, cIa cI (bd 4) 30 q1.2.1.2.2.1, cZa cZ (bd 5) 6 q1.2.2.1, cZa cZ (bd 6) 6 q1.2.2.2.1, cZa cZ (bd 7) 2 ms.1, cIa cI (bd 8) 2 ms.2.1, cZa cZ (bd 9) 2 ms.2.2.1, cIa cI (bd 10) 2 ms.2.2.2.1, cIa cI (bd 11) 2 ms.2.2.2.2.1, cZa cZ (bd 12) 2 ms.2.2.2.2.2.1, cJa cJ (bd 13) 6 ms.2.2.2.2.2.2, cJa cJ (bd 14) 16 q1.2.2.2.2.1] H := hP
      have hD : va_D A [cMd bd k mc (q1.1.1, q1.1.2.1, q1.1.1, q1.1.1 - q1.1.2.2.1, q1.1.2.2.2.2.1, q1.1.2.2.2.2.2.1, q1.1.2.2.2.2.2.2.1, q1.1.2.2.2.2.2.2.2) q1.2.1 q1.2.2, cIa cI (bd 1) 128 mp, cZa cZ (bd 2) 30 q1.2.1.1, cJa cJ (bd 3) 30 q1.2.1.2.1, cIa cI (bd 4) 30 q1.2.1.2.2.1, cZa cZ (bd 5) 6 q1.2.2.1, cZa cZ (bd 6) 6 q1.2.2.2.1, cZa cZ (bd 7) 2 ms.1, cIa cI (bd 8) 2 ms.2.1, cZa cZ (bd 9) 2 ms.2.2.1, cIa cI (bd 10) 2 ms.2.2.2.1, cIa cI (bd 11) 2 ms.2.2.2.2.1, cZa cZ (bd 12) 2 ms.2.2.2.2.2.1, cJa cJ (bd 13) 6 ms.2.2.2.2.2.2, cJa cJ (bd 14) 16 q1.2.2.2.2.1] := hD
      refine lv_aload_n hx hb dM_oneEdge_54 rfl (lv_at hl 1 rfl) ?_
      refine lv_iconst (v := (1 : Int32)) hx hb dM_oneEdge_55 (by decide) ?_
      refine pfM_158 hx hb hts hown hN hK hP hD hS 0 rfl (v := .int (1 : Int32)) rfl rfl (Nat.le_of_ble_eq_true rfl) dM_oneEdge_56 (fun H locs hP hD hS => ?_)
      have hP : va_P D vwCl [cMd bd k mc (q1.1.1, q1.1.2.1, q1.1.1, q1.1.1 - q1.1.2.2.1, (1 : Int32), q1.1.2.2.2.2.2.1, q1.1.2.2.2.2.2.2.1, q1.1.2.2.2.2.2.2.2) q1.2.1 q1.2.2, cIa cI (bd 1) 128 mp, cZa cZ (bd 2) 30 q1.2.1.1, cJa cJ (bd 3) 30 q1.2.1.2.1, cIa cI (bd 4) 30 q1.2.1.2.2.1, cZa cZ (bd 5) 6 q1.2.2.1, cZa cZ (bd 6) 6 q1.2.2.2.1, cZa cZ (bd 7) 2 ms.1, cIa cI (bd 8) 2 ms.2.1, cZa cZ (bd 9) 2 ms.2.2.1, cIa cI (bd 10) 2 ms.2.2.2.1, cIa cI (bd 11) 2 ms.2.2.2.2.1, cZa cZ (bd 12) 2 ms.2.2.2.2.2.1, cJa cJ (bd 13) 6 ms.2.2.2.2.2.2, cJa cJ (bd 14) 16 q1.2.2.2.2.1] H := hP
      have hD : va_D A [cMd bd k mc (q1.1.1, q1.1.2.1, q1.1.1, q1.1.1 - q1.1.2.2.1, (1 : Int32), q1.1.2.2.2.2.2.1, q1.1.2.2.2.2.2.2.1, q1.1.2.2.2.2.2.2.2) q1.2.1 q1.2.2, cIa cI (bd 1) 128 mp, cZa cZ (bd 2) 30 q1.2.1.1, cJa cJ (bd 3) 30 q1.2.1.2.1, cIa cI (bd 4) 30 q1.2.1.2.2.1, cZa cZ (bd 5) 6 q1.2.2.1, cZa cZ (bd 6) 6 q1.2.2.2.1, cZa cZ (bd 7) 2 ms.1, cIa cI (bd 8) 2 ms.2.1, cZa cZ (bd 9) 2 ms.2.2.1, cIa cI (bd 10) 2 ms.2.2.2.1, cIa cI (bd 11) 2 ms.2.2.2.2.1, cZa cZ (bd 12) 2 ms.2.2.2.2.2.1, cJa cJ (bd 13) 6 ms.2.2.2.2.2.2, cJa cJ (bd 14) 16 q1.2.2.2.2.1] := hD
      exact k_vret hx hb hr hlk hP hD hS dM_oneEdge_59 () rfl (by simp only [fM_oneEdge, hq1, if_neg h2, if_pos h3])
  · -- not taken at 33
    refine lv_aload_n hx hb dM_oneEdge_36 rfl (lv_at hl 1 rfl) ?_
    refine lv_iconst (v := (1 : Int32)) hx hb dM_oneEdge_37 (by decide) ?_
    refine pfM_161 hx hb hts hown hN hK hP hD hS 0 rfl (v := .int (1 : Int32)) (zn_b (Or.inr rfl)) (zf_b (Or.inr rfl)) (Nat.le_of_ble_eq_true rfl) dM_oneEdge_38 (fun H locs hP hD hS => ?_)
    have hP : va_P D vwCl [cMd bd k mc (q1.1.1, (1 : Int32), q1.1.1, q1.1.2.2.2.1, q1.1.2.2.2.2.1, q1.1.2.2.2.2.2.1, q1.1.2.2.2.2.2.2.1, q1.1.2.2.2.2.2.2.2) q1.2.1 q1.2.2, cIa cI (bd 1) 128 mp, cZa cZ (bd 2) 30 q1.2.1.1, cJa cJ (bd 3) 30 q1.2.1.2.1, cIa cI (bd 4) 30 q1.2.1.2.2.1, cZa cZ (bd 5) 6 q1.2.2.1, cZa cZ (bd 6) 6 q1.2.2.2.1, cZa cZ (bd 7) 2 ms.1, cIa cI (bd 8) 2 ms.2.1, cZa cZ (bd 9) 2 ms.2.2.1, cIa cI (bd 10) 2 ms.2.2.2.1, cIa cI (bd 11) 2 ms.2.2.2.2.1, cZa cZ (bd 12) 2 ms.2.2.2.2.2.1, cJa cJ (bd 13) 6 ms.2.2.2.2.2.2, cJa cJ (bd 14) 16 q1.2.2.2.2.1] H := hP
    have hD : va_D A [cMd bd k mc (q1.1.1, (1 : Int32), q1.1.1, q1.1.2.2.2.1, q1.1.2.2.2.2.1, q1.1.2.2.2.2.2.1, q1.1.2.2.2.2.2.2.1, q1.1.2.2.2.2.2.2.2) q1.2.1 q1.2.2, cIa cI (bd 1) 128 mp, cZa cZ (bd 2) 30 q1.2.1.1, cJa cJ (bd 3) 30 q1.2.1.2.1, cIa cI (bd 4) 30 q1.2.1.2.2.1, cZa cZ (bd 5) 6 q1.2.2.1, cZa cZ (bd 6) 6 q1.2.2.2.1, cZa cZ (bd 7) 2 ms.1, cIa cI (bd 8) 2 ms.2.1, cZa cZ (bd 9) 2 ms.2.2.1, cIa cI (bd 10) 2 ms.2.2.2.1, cIa cI (bd 11) 2 ms.2.2.2.2.1, cZa cZ (bd 12) 2 ms.2.2.2.2.2.1, cJa cJ (bd 13) 6 ms.2.2.2.2.2.2, cJa cJ (bd 14) 16 q1.2.2.2.2.1] := hD
    exact k_vret hx hb hr hlk hP hD hS dM_oneEdge_41 () rfl (by simp only [fM_oneEdge, hq1, if_pos h2])

def fM_edge (k : Nat) (mc : McT) (mw : MwT) (mp : MpT) (me : MeT) (mo : MoT) (ms : MsT) (af : Int32) : Int32 × MwT × MeT × MoT :=
  let q1 := fM_in af (1 : Int32) (1000000 : Int32)
  if q1 = 0 then
    ((-1 : Int32), mw, me, mo)
  else
    let q3 := fM_oneEdge k mc mw mp me mo ms af
    (q3.1.2.2.2.2.1, q3.1, q3.2.1, q3.2.2)
set_option maxRecDepth 100000 in
set_option maxHeartbeats 4000000 in
theorem ctM_edge (l : Launch) (D : va_G) (cZ cI cJ : ClassId) (tL tH : Nat) (sz : Nat) (bd : Nat → Nat) (k : Nat) (mc : McT) (mw : MwT) (mp : MpT) (me : MeT) (mo : MoT) (ms : MsT) (af : Int32)  (hk : 0 < k ∧ k ≤ 6) : Ct l yM_edge wM_edge ({ frames := 7, cells := 0, slots := 0, locals := 176 }) D (tyG cZ cI cJ) tL tH [.ref (bd 0), .int af] sz [cMd bd k mc mw me mo, cIa cI (bd 1) 128 mp, cZa cZ (bd 2) 30 me.1, cJa cJ (bd 3) 30 me.2.1, cIa cI (bd 4) 30 me.2.2.1, cZa cZ (bd 5) 6 mo.1, cZa cZ (bd 6) 6 mo.2.1, cZa cZ (bd 7) 2 ms.1, cIa cI (bd 8) 2 ms.2.1, cZa cZ (bd 9) 2 ms.2.2.1, cIa cI (bd 10) 2 ms.2.2.2.1, cIa cI (bd 11) 2 ms.2.2.2.2.1, cZa cZ (bd 12) 2 ms.2.2.2.2.2.1, cJa cJ (bd 13) 6 ms.2.2.2.2.2.2, cJa cJ (bd 14) 16 mo.2.2.1] (fun _ : Unit => some (.int ((fM_edge k mc mw mp me mo ms af).1))) (fun _ : Unit => [cMd bd k mc ((fM_edge k mc mw mp me mo ms af).2.1) ((fM_edge k mc mw mp me mo ms af).2.2.1) ((fM_edge k mc mw mp me mo ms af).2.2.2), cIa cI (bd 1) 128 mp, cZa cZ (bd 2) 30 (((fM_edge k mc mw mp me mo ms af).2.2.1).1), cJa cJ (bd 3) 30 (((fM_edge k mc mw mp me mo ms af).2.2.1).2.1), cIa cI (bd 4) 30 (((fM_edge k mc mw mp me mo ms af).2.2.1).2.2.1), cZa cZ (bd 5) 6 (((fM_edge k mc mw mp me mo ms af).2.2.2).1), cZa cZ (bd 6) 6 (((fM_edge k mc mw mp me mo ms af).2.2.2).2.1), cZa cZ (bd 7) 2 ms.1, cIa cI (bd 8) 2 ms.2.1, cZa cZ (bd 9) 2 ms.2.2.1, cIa cI (bd 10) 2 ms.2.2.2.1, cIa cI (bd 11) 2 ms.2.2.2.2.1, cZa cZ (bd 12) 2 ms.2.2.2.2.2.1, cJa cJ (bd 13) 6 ms.2.2.2.2.2.2, cJa cJ (bd 14) 16 (((fM_edge k mc mw mp me mo ms af).2.2.2).2.2.1)]) 0 0 := by
  refine k_go (by decide +kernel) (Nat.le_of_ble_eq_true rfl) ?_
  intro p e s m args below meth c A ls H hx hb hr hml hts hown hlk hnm hK hN hT hA hS hP hD hl
  have hown : s.vm.findClass "ToothWheelTimerModel" = some m.cls := hown
  have hlk : meth.locks = false := hlk
  have hl : lv_has ls 2 [(0, .ref (bd 0)), (1, .int af)] := hl
  refine lv_iload_n hx hb dM_edge_0 rfl (lv_at hl 1 rfl) ?_
  refine lv_iconst (v := (1 : Int32)) hx hb dM_edge_1 (by decide) ?_
  refine lv_ldc (v := (1000000 : Int32)) hx hb hown (hts _ (wg wd_684 rfl)) dM_edge_2 ?_
  refine k_ca0 (wc := []) (wr := [cMd bd k mc mw me mo, cIa cI (bd 1) 128 mp, cZa cZ (bd 2) 30 me.1, cJa cJ (bd 3) 30 me.2.1, cIa cI (bd 4) 30 me.2.2.1, cZa cZ (bd 5) 6 mo.1, cZa cZ (bd 6) 6 mo.2.1, cZa cZ (bd 7) 2 ms.1, cIa cI (bd 8) 2 ms.2.1, cZa cZ (bd 9) 2 ms.2.2.1, cIa cI (bd 10) 2 ms.2.2.2.1, cIa cI (bd 11) 2 ms.2.2.2.2.1, cZa cZ (bd 12) 2 ms.2.2.2.2.2.1, cJa cJ (bd 13) 6 ms.2.2.2.2.2.2, cJa cJ (bd 14) 16 mo.2.2.1]) (va_runS (As := [.int af, .int (1 : Int32), .int (1000000 : Int32)]) (rest := []) ⟨hx, hb, hml, hown, hts⟩ (ctM_in l D cZ cI cJ tL tH H.size af (1 : Int32) (1000000 : Int32)) (cwM_78 hts hN rfl rfl ⟨Nat.le_of_ble_eq_true rfl, Nat.le_of_ble_eq_true rfl⟩) (k_pre hK hN hT hA hS hP hD [] rfl (by decide)) rfl rfl hl.1 rfl (lv_room (Nat.le_of_ble_eq_true rfl)) dM_edge_4 ⟨Nat.zero_le _, Nat.zero_le _⟩) hP hD hS hA [] [0, 1, 2, 3, 4, 5, 6, 7, 8, 9, 10, 11, 12, 13, 14] rfl rfl (by decide) (by decide) (fun _ H locs hP hD hS => ?_)
  refine W.eq (g2 := F0 m 7 ls [.int (fM_in af (1 : Int32) (1000000 : Int32))]) rfl ?_
  have hP : va_P D vwCl [cMd bd k mc mw me mo, cIa cI (bd 1) 128 mp, cZa cZ (bd 2) 30 me.1, cJa cJ (bd 3) 30 me.2.1, cIa cI (bd 4) 30 me.2.2.1, cZa cZ (bd 5) 6 mo.1, cZa cZ (bd 6) 6 mo.2.1, cZa cZ (bd 7) 2 ms.1, cIa cI (bd 8) 2 ms.2.1, cZa cZ (bd 9) 2 ms.2.2.1, cIa cI (bd 10) 2 ms.2.2.2.1, cIa cI (bd 11) 2 ms.2.2.2.2.1, cZa cZ (bd 12) 2 ms.2.2.2.2.2.1, cJa cJ (bd 13) 6 ms.2.2.2.2.2.2, cJa cJ (bd 14) 16 mo.2.2.1] H := hP
  have hD : va_D A [cMd bd k mc mw me mo, cIa cI (bd 1) 128 mp, cZa cZ (bd 2) 30 me.1, cJa cJ (bd 3) 30 me.2.1, cIa cI (bd 4) 30 me.2.2.1, cZa cZ (bd 5) 6 mo.1, cZa cZ (bd 6) 6 mo.2.1, cZa cZ (bd 7) 2 ms.1, cIa cI (bd 8) 2 ms.2.1, cZa cZ (bd 9) 2 ms.2.2.1, cIa cI (bd 10) 2 ms.2.2.2.1, cIa cI (bd 11) 2 ms.2.2.2.2.1, cZa cZ (bd 12) 2 ms.2.2.2.2.2.1, cJa cJ (bd 13) 6 ms.2.2.2.2.2.2, cJa cJ (bd 14) 16 mo.2.2.1] := hD
  generalize hq1 : fM_in af (1 : Int32) (1000000 : Int32) = q1 at ⊢
  refine lv_if_ne (tgt := 12) hx hb dM_edge_7 (by decide) (fun h2 => ?_) (fun h2 => ?_)
  · -- taken at 7
    refine lv_aload_n hx hb dM_edge_12 rfl (lv_at hl 0 rfl) ?_
    refine lv_iload_n hx hb dM_edge_13 rfl (lv_at hl 1 rfl) ?_
    refine k_ca0 (wc := [cMd bd k mc mw me mo, cIa cI (bd 1) 128 mp, cZa cZ (bd 2) 30 me.1, cJa cJ (bd 3) 30 me.2.1, cIa cI (bd 4) 30 me.2.2.1, cZa cZ (bd 5) 6 mo.1, cZa cZ (bd 6) 6 mo.2.1, cZa cZ (bd 7) 2 ms.1, cIa cI (bd 8) 2 ms.2.1, cZa cZ (bd 9) 2 ms.2.2.1, cIa cI (bd 10) 2 ms.2.2.2.1, cIa cI (bd 11) 2 ms.2.2.2.2.1, cZa cZ (bd 12) 2 ms.2.2.2.2.2.1, cJa cJ (bd 13) 6 ms.2.2.2.2.2.2, cJa cJ (bd 14) 16 mo.2.2.1]) (wr := []) (va_runV (As := [.int af]) (rest := []) ⟨hx, hb, hml, hown, hts⟩ (ctM_oneEdge l D cZ cI cJ tL tH H.size bd k mc mw mp me mo ms af hk) (cwM_207 hts hN rfl rfl ⟨Nat.le_of_ble_eq_true rfl, Nat.le_of_ble_eq_true rfl⟩) (k_preV hK hN hT hA hS hP hD [0, 1, 2, 3, 4, 5, 6, 7, 8, 9, 10, 11, 12, 13, 14] rfl (by decide) 0 rfl rfl) rfl rfl hl.1 rfl (lv_room (Nat.le_of_ble_eq_true rfl)) dM_edge_14 ⟨Nat.zero_le _, Nat.zero_le _⟩) hP hD hS hA [0, 1, 2, 3, 4, 5, 6, 7, 8, 9, 10, 11, 12, 13, 14] [] rfl rfl (by decide) (by decide) (fun _ H locs hP hD hS => ?_)
    refine W.eq (g2 := F0 m 17 ls []) rfl ?_
    have hP : va_P D vwCl [cMd bd k mc ((fM_oneEdge k mc mw mp me mo ms af).1) ((fM_oneEdge k mc mw mp me mo ms af).2.1) ((fM_oneEdge k mc mw mp me mo ms af).2.2), cIa cI (bd 1) 128 mp, cZa cZ (bd 2) 30 (((fM_oneEdge k mc mw mp me mo ms af).2.1).1), cJa cJ (bd 3) 30 (((fM_oneEdge k mc mw mp me mo ms af).2.1).2.1), cIa cI (bd 4) 30 (((fM_oneEdge k mc mw mp me mo ms af).2.1).2.2.1), cZa cZ (bd 5) 6 (((fM_oneEdge k mc mw mp me mo ms af).2.2).1), cZa cZ (bd 6) 6 (((fM_oneEdge k mc mw mp me mo ms af).2.2).2.1), cZa cZ (bd 7) 2 ms.1, cIa cI (bd 8) 2 ms.2.1, cZa cZ (bd 9) 2 ms.2.2.1, cIa cI (bd 10) 2 ms.2.2.2.1, cIa cI (bd 11) 2 ms.2.2.2.2.1, cZa cZ (bd 12) 2 ms.2.2.2.2.2.1, cJa cJ (bd 13) 6 ms.2.2.2.2.2.2, cJa cJ (bd 14) 16 (((fM_oneEdge k mc mw mp me mo ms af).2.2).2.2.1)] H := hP
    have hD : va_D A [cMd bd k mc ((fM_oneEdge k mc mw mp me mo ms af).1) ((fM_oneEdge k mc mw mp me mo ms af).2.1) ((fM_oneEdge k mc mw mp me mo ms af).2.2), cIa cI (bd 1) 128 mp, cZa cZ (bd 2) 30 (((fM_oneEdge k mc mw mp me mo ms af).2.1).1), cJa cJ (bd 3) 30 (((fM_oneEdge k mc mw mp me mo ms af).2.1).2.1), cIa cI (bd 4) 30 (((fM_oneEdge k mc mw mp me mo ms af).2.1).2.2.1), cZa cZ (bd 5) 6 (((fM_oneEdge k mc mw mp me mo ms af).2.2).1), cZa cZ (bd 6) 6 (((fM_oneEdge k mc mw mp me mo ms af).2.2).2.1), cZa cZ (bd 7) 2 ms.1, cIa cI (bd 8) 2 ms.2.1, cZa cZ (bd 9) 2 ms.2.2.1, cIa cI (bd 10) 2 ms.2.2.2.1, cIa cI (bd 11) 2 ms.2.2.2.2.1, cZa cZ (bd 12) 2 ms.2.2.2.2.2.1, cJa cJ (bd 13) 6 ms.2.2.2.2.2.2, cJa cJ (bd 14) 16 (((fM_oneEdge k mc mw mp me mo ms af).2.2).2.2.1)] := hD
    generalize hq3 : fM_oneEdge k mc mw mp me mo ms af = q3 at hP hD 
    have hP : va_P D vwCl [cMd bd k mc q3.1 q3.2.1 q3.2.2, cIa cI (bd 1) 128 mp, cZa cZ (bd 2) 30 q3.2.1.1, cJa cJ (bd 3) 30 q3.2.1.2.1, cIa cI (bd 4) 30 q3.2.1.2.2.1, cZa cZ (bd 5) 6 q3.2.2.1, cZa cZ (bd 6) 6 q3.2.2.2.1, cZa cZ (bd 7) 2 ms.1, cIa cI (bd 8) 2 ms.2.1, cZa cZ (bd 9) 2 ms.2.2.1, cIa cI (bd 10) 2 ms.2.2.2.1, cIa cI (bd 11) 2 ms.2.2.2.2.1, cZa cZ (bd 12) 2 ms.2.2.2.2.2.1, cJa cJ (bd 13) 6 ms.2.2.2.2.2.2, cJa cJ (bd 14) 16 q3.2.2.2.2.1] H := hP
    have hD : va_D A [cMd bd k mc q3.1 q3.2.1 q3.2.2, cIa cI (bd 1) 128 mp, cZa cZ (bd 2) 30 q3.2.1.1, cJa cJ (bd 3) 30 q3.2.1.2.1, cIa cI (bd 4) 30 q3.2.1.2.2.1, cZa cZ (bd 5) 6 q3.2.2.1, cZa cZ (bd 6) 6 q3.2.2.2.1, cZa cZ (bd 7) 2 ms.1, cIa cI (bd 8) 2 ms.2.1, cZa cZ (bd 9) 2 ms.2.2.1, cIa cI (bd 10) 2 ms.2.2.2.1, cIa cI (bd 11) 2 ms.2.2.2.2.1, cZa cZ (bd 12) 2 ms.2.2.2.2.2.1, cJa cJ (bd 13) 6 ms.2.2.2.2.2.2, cJa cJ (bd 14) 16 q3.2.2.2.2.1] := hD
    refine lv_aload_n hx hb dM_edge_17 rfl (lv_at hl 0 rfl) ?_
    refine gfM_158 hx hb hts hown hN hK hP 0 rfl (v := .int q3.1.2.2.2.2.1) rfl dM_edge_18 ?_
    exact k_iret hx hb hr hlk hP hD hS dM_edge_21 () (by simp only [fM_edge, hq1, if_neg h2, hq3]) (by simp only [fM_edge, hq1, if_neg h2, hq3])
  · -- not taken at 7
    refine lv_iconst (v := (-1 : Int32)) hx hb dM_edge_10 (by decide) ?_
    exact k_iret hx hb hr hlk hP hD hS dM_edge_11 () (by simp only [fM_edge, hq1, if_pos h2]) (by simp only [fM_edge, hq1, if_pos h2])

def fM_teeth_l (k : Nat) (mc : McT) (mp : MpT) (ms : MsT) (n af : Int32) : Nat → Nat → MwT → MeT → MoT → Int32 × MwT × MeT × MoT
  | 0, i, mw1, me1, mo1 =>
    (mw1.2.2.2.2.1, mw1, me1, mo1)
  | fuel + 1, i, mw1, me1, mo1 =>
    let q1001 := fM_oneEdge k mc mw1 mp me1 mo1 ms af
    fM_teeth_l k mc mp ms n af fuel (i + 1) q1001.1 q1001.2.1 q1001.2.2
def fM_teeth (k : Nat) (mc : McT) (mw : MwT) (mp : MpT) (me : MeT) (mo : MoT) (ms : MsT) (n : Int32) (af : Int32) : Int32 × MwT × MeT × MoT :=
  let q1 := fM_in n (1 : Int32) (64 : Int32)
  if q1 = 0 then
    ((-1 : Int32), mw, me, mo)
  else
    let q3 := fM_in af (1 : Int32) (1000000 : Int32)
    if q3 = 0 then
      ((-1 : Int32), mw, me, mo)
    else
      fM_teeth_l k mc mp ms n af n.toNatClampNeg 0 mw me mo
set_option maxRecDepth 100000 in
set_option maxHeartbeats 4000000 in
theorem ctM_teeth (l : Launch) (D : va_G) (cZ cI cJ : ClassId) (tL tH : Nat) (sz : Nat) (bd : Nat → Nat) (k : Nat) (mc : McT) (mw : MwT) (mp : MpT) (me : MeT) (mo : MoT) (ms : MsT) (n : Int32) (af : Int32)  (hk : 0 < k ∧ k ≤ 6) : Ct l yM_teeth wM_teeth ({ frames := 7, cells := 0, slots := 0, locals := 176 }) D (tyG cZ cI cJ) tL tH [.ref (bd 0), .int n, .int af] sz [cMd bd k mc mw me mo, cIa cI (bd 1) 128 mp, cZa cZ (bd 2) 30 me.1, cJa cJ (bd 3) 30 me.2.1, cIa cI (bd 4) 30 me.2.2.1, cZa cZ (bd 5) 6 mo.1, cZa cZ (bd 6) 6 mo.2.1, cZa cZ (bd 7) 2 ms.1, cIa cI (bd 8) 2 ms.2.1, cZa cZ (bd 9) 2 ms.2.2.1, cIa cI (bd 10) 2 ms.2.2.2.1, cIa cI (bd 11) 2 ms.2.2.2.2.1, cZa cZ (bd 12) 2 ms.2.2.2.2.2.1, cJa cJ (bd 13) 6 ms.2.2.2.2.2.2, cJa cJ (bd 14) 16 mo.2.2.1] (fun _ : Unit => some (.int ((fM_teeth k mc mw mp me mo ms n af).1))) (fun _ : Unit => [cMd bd k mc ((fM_teeth k mc mw mp me mo ms n af).2.1) ((fM_teeth k mc mw mp me mo ms n af).2.2.1) ((fM_teeth k mc mw mp me mo ms n af).2.2.2), cIa cI (bd 1) 128 mp, cZa cZ (bd 2) 30 (((fM_teeth k mc mw mp me mo ms n af).2.2.1).1), cJa cJ (bd 3) 30 (((fM_teeth k mc mw mp me mo ms n af).2.2.1).2.1), cIa cI (bd 4) 30 (((fM_teeth k mc mw mp me mo ms n af).2.2.1).2.2.1), cZa cZ (bd 5) 6 (((fM_teeth k mc mw mp me mo ms n af).2.2.2).1), cZa cZ (bd 6) 6 (((fM_teeth k mc mw mp me mo ms n af).2.2.2).2.1), cZa cZ (bd 7) 2 ms.1, cIa cI (bd 8) 2 ms.2.1, cZa cZ (bd 9) 2 ms.2.2.1, cIa cI (bd 10) 2 ms.2.2.2.1, cIa cI (bd 11) 2 ms.2.2.2.2.1, cZa cZ (bd 12) 2 ms.2.2.2.2.2.1, cJa cJ (bd 13) 6 ms.2.2.2.2.2.2, cJa cJ (bd 14) 16 (((fM_teeth k mc mw mp me mo ms n af).2.2.2).2.2.1)]) 0 0 := by
  refine k_go (by decide +kernel) (Nat.le_of_ble_eq_true rfl) ?_
  intro p e s m args below meth c A ls H hx hb hr hml hts hown hlk hnm hK hN hT hA hS hP hD hl
  have hown : s.vm.findClass "ToothWheelTimerModel" = some m.cls := hown
  have hlk : meth.locks = false := hlk
  have hl : lv_has ls 4 [(0, .ref (bd 0)), (1, .int n), (2, .int af)] := hl
  refine lv_iload_n hx hb dM_teeth_0 rfl (lv_at hl 1 rfl) ?_
  refine lv_iconst (v := (1 : Int32)) hx hb dM_teeth_1 (by decide) ?_
  refine lv_bipush (v := (64 : Int32)) hx hb dM_teeth_2 (by decide) ?_
  refine k_ca0 (wc := []) (wr := [cMd bd k mc mw me mo, cIa cI (bd 1) 128 mp, cZa cZ (bd 2) 30 me.1, cJa cJ (bd 3) 30 me.2.1, cIa cI (bd 4) 30 me.2.2.1, cZa cZ (bd 5) 6 mo.1, cZa cZ (bd 6) 6 mo.2.1, cZa cZ (bd 7) 2 ms.1, cIa cI (bd 8) 2 ms.2.1, cZa cZ (bd 9) 2 ms.2.2.1, cIa cI (bd 10) 2 ms.2.2.2.1, cIa cI (bd 11) 2 ms.2.2.2.2.1, cZa cZ (bd 12) 2 ms.2.2.2.2.2.1, cJa cJ (bd 13) 6 ms.2.2.2.2.2.2, cJa cJ (bd 14) 16 mo.2.2.1]) (va_runS (As := [.int n, .int (1 : Int32), .int (64 : Int32)]) (rest := []) ⟨hx, hb, hml, hown, hts⟩ (ctM_in l D cZ cI cJ tL tH H.size n (1 : Int32) (64 : Int32)) (cwM_78 hts hN rfl rfl ⟨Nat.le_of_ble_eq_true rfl, Nat.le_of_ble_eq_true rfl⟩) (k_pre hK hN hT hA hS hP hD [] rfl (by decide)) rfl rfl hl.1 rfl (lv_room (Nat.le_of_ble_eq_true rfl)) dM_teeth_4 ⟨Nat.zero_le _, Nat.zero_le _⟩) hP hD hS hA [] [0, 1, 2, 3, 4, 5, 6, 7, 8, 9, 10, 11, 12, 13, 14] rfl rfl (by decide) (by decide) (fun _ H locs hP hD hS => ?_)
  refine W.eq (g2 := F0 m 7 ls [.int (fM_in n (1 : Int32) (64 : Int32))]) rfl ?_
  have hP : va_P D vwCl [cMd bd k mc mw me mo, cIa cI (bd 1) 128 mp, cZa cZ (bd 2) 30 me.1, cJa cJ (bd 3) 30 me.2.1, cIa cI (bd 4) 30 me.2.2.1, cZa cZ (bd 5) 6 mo.1, cZa cZ (bd 6) 6 mo.2.1, cZa cZ (bd 7) 2 ms.1, cIa cI (bd 8) 2 ms.2.1, cZa cZ (bd 9) 2 ms.2.2.1, cIa cI (bd 10) 2 ms.2.2.2.1, cIa cI (bd 11) 2 ms.2.2.2.2.1, cZa cZ (bd 12) 2 ms.2.2.2.2.2.1, cJa cJ (bd 13) 6 ms.2.2.2.2.2.2, cJa cJ (bd 14) 16 mo.2.2.1] H := hP
  have hD : va_D A [cMd bd k mc mw me mo, cIa cI (bd 1) 128 mp, cZa cZ (bd 2) 30 me.1, cJa cJ (bd 3) 30 me.2.1, cIa cI (bd 4) 30 me.2.2.1, cZa cZ (bd 5) 6 mo.1, cZa cZ (bd 6) 6 mo.2.1, cZa cZ (bd 7) 2 ms.1, cIa cI (bd 8) 2 ms.2.1, cZa cZ (bd 9) 2 ms.2.2.1, cIa cI (bd 10) 2 ms.2.2.2.1, cIa cI (bd 11) 2 ms.2.2.2.2.1, cZa cZ (bd 12) 2 ms.2.2.2.2.2.1, cJa cJ (bd 13) 6 ms.2.2.2.2.2.2, cJa cJ (bd 14) 16 mo.2.2.1] := hD
  generalize hq1 : fM_in n (1 : Int32) (64 : Int32) = q1 at ⊢
  refine lv_if_eq (tgt := 20) hx hb dM_teeth_7 (by decide) (fun h2 => ?_) (fun h2 => ?_)
  · -- taken at 7
    refine lv_iconst (v := (-1 : Int32)) hx hb dM_teeth_20 (by decide) ?_
    exact k_iret hx hb hr hlk hP hD hS dM_teeth_21 () (by simp only [fM_teeth, hq1, if_pos h2]) (by simp only [fM_teeth, hq1, if_pos h2])
  · -- not taken at 7
    refine lv_iload_n hx hb dM_teeth_10 rfl (lv_at hl 2 rfl) ?_
    refine lv_iconst (v := (1 : Int32)) hx hb dM_teeth_11 (by decide) ?_
    refine lv_ldc (v := (1000000 : Int32)) hx hb hown (hts _ (wg wd_684 rfl)) dM_teeth_12 ?_
    refine k_ca0 (wc := []) (wr := [cMd bd k mc mw me mo, cIa cI (bd 1) 128 mp, cZa cZ (bd 2) 30 me.1, cJa cJ (bd 3) 30 me.2.1, cIa cI (bd 4) 30 me.2.2.1, cZa cZ (bd 5) 6 mo.1, cZa cZ (bd 6) 6 mo.2.1, cZa cZ (bd 7) 2 ms.1, cIa cI (bd 8) 2 ms.2.1, cZa cZ (bd 9) 2 ms.2.2.1, cIa cI (bd 10) 2 ms.2.2.2.1, cIa cI (bd 11) 2 ms.2.2.2.2.1, cZa cZ (bd 12) 2 ms.2.2.2.2.2.1, cJa cJ (bd 13) 6 ms.2.2.2.2.2.2, cJa cJ (bd 14) 16 mo.2.2.1]) (va_runS (As := [.int af, .int (1 : Int32), .int (1000000 : Int32)]) (rest := []) ⟨hx, hb, hml, hown, hts⟩ (ctM_in l D cZ cI cJ tL tH H.size af (1 : Int32) (1000000 : Int32)) (cwM_78 hts hN rfl rfl ⟨Nat.le_of_ble_eq_true rfl, Nat.le_of_ble_eq_true rfl⟩) (k_pre hK hN hT hA hS hP hD [] rfl (by decide)) rfl rfl hl.1 rfl (lv_room (Nat.le_of_ble_eq_true rfl)) dM_teeth_14 ⟨Nat.zero_le _, Nat.zero_le _⟩) hP hD hS hA [] [0, 1, 2, 3, 4, 5, 6, 7, 8, 9, 10, 11, 12, 13, 14] rfl rfl (by decide) (by decide) (fun _ H locs hP hD hS => ?_)
    refine W.eq (g2 := F0 m 17 ls [.int (fM_in af (1 : Int32) (1000000 : Int32))]) rfl ?_
    have hP : va_P D vwCl [cMd bd k mc mw me mo, cIa cI (bd 1) 128 mp, cZa cZ (bd 2) 30 me.1, cJa cJ (bd 3) 30 me.2.1, cIa cI (bd 4) 30 me.2.2.1, cZa cZ (bd 5) 6 mo.1, cZa cZ (bd 6) 6 mo.2.1, cZa cZ (bd 7) 2 ms.1, cIa cI (bd 8) 2 ms.2.1, cZa cZ (bd 9) 2 ms.2.2.1, cIa cI (bd 10) 2 ms.2.2.2.1, cIa cI (bd 11) 2 ms.2.2.2.2.1, cZa cZ (bd 12) 2 ms.2.2.2.2.2.1, cJa cJ (bd 13) 6 ms.2.2.2.2.2.2, cJa cJ (bd 14) 16 mo.2.2.1] H := hP
    have hD : va_D A [cMd bd k mc mw me mo, cIa cI (bd 1) 128 mp, cZa cZ (bd 2) 30 me.1, cJa cJ (bd 3) 30 me.2.1, cIa cI (bd 4) 30 me.2.2.1, cZa cZ (bd 5) 6 mo.1, cZa cZ (bd 6) 6 mo.2.1, cZa cZ (bd 7) 2 ms.1, cIa cI (bd 8) 2 ms.2.1, cZa cZ (bd 9) 2 ms.2.2.1, cIa cI (bd 10) 2 ms.2.2.2.1, cIa cI (bd 11) 2 ms.2.2.2.2.1, cZa cZ (bd 12) 2 ms.2.2.2.2.2.1, cJa cJ (bd 13) 6 ms.2.2.2.2.2.2, cJa cJ (bd 14) 16 mo.2.2.1] := hD
    generalize hq3 : fM_in af (1 : Int32) (1000000 : Int32) = q3 at ⊢
    refine lv_if_ne (tgt := 22) hx hb dM_teeth_17 (by decide) (fun h4 => ?_) (fun h4 => ?_)
    · -- taken at 17
      refine lv_iconst (v := (0 : Int32)) hx hb dM_teeth_22 (by decide) ?_
      refine lv_istore_n (lv' := [(3, .int (0 : Int32)), (0, .ref (bd 0)), (1, .int n), (2, .int af)]) hx hb dM_teeth_23 rfl hl (by decide) rfl (fun ls hl => ?_)
      have hl := lv_sub (l' := [(3, .int (0 : Int32)), (0, .ref (bd 0)), (1, .int n), (2, .int af)]) hl [0, 1, 2, 3] rfl
      have hn8 := k_in64 hq1 h2
      have hn9 : n = nI n.toNatClampNeg := k_nIc (n := 65) hn8
      have hn7 : n.toNatClampNeg < 65 := k_lt hn8
      have LOOP24 : ∀ (fuel : Nat) (i : Nat) (mw1 : MwT) (me1 : MeT) (mo1 : MoT), ∀ (ls : Array Slot) (H : Heap) (locs : List Loc), fuel + i = n.toNatClampNeg → fM_teeth k mc mw mp me mo ms n af = fM_teeth_l k mc mp ms n af fuel i mw1 me1 mo1 → lv_has ls 4 [(3, .int (nI i)), (0, .ref (bd 0)), (1, .int n), (2, .int af)] → va_P D vwCl [cMd bd k mc mw1 me1 mo1, cIa cI (bd 1) 128 mp, cZa cZ (bd 2) 30 me1.1, cJa cJ (bd 3) 30 me1.2.1, cIa cI (bd 4) 30 me1.2.2.1, cZa cZ (bd 5) 6 mo1.1, cZa cZ (bd 6) 6 mo1.2.1, cZa cZ (bd 7) 2 ms.1, cIa cI (bd 8) 2 ms.2.1, cZa cZ (bd 9) 2 ms.2.2.1, cIa cI (bd 10) 2 ms.2.2.2.1, cIa cI (bd 11) 2 ms.2.2.2.2.1, cZa cZ (bd 12) 2 ms.2.2.2.2.2.1, cJa cJ (bd 13) 6 ms.2.2.2.2.2.2, cJa cJ (bd 14) 16 mo1.2.2.1] H → va_D A [cMd bd k mc mw1 me1 mo1, cIa cI (bd 1) 128 mp, cZa cZ (bd 2) 30 me1.1, cJa cJ (bd 3) 30 me1.2.1, cIa cI (bd 4) 30 me1.2.2.1, cZa cZ (bd 5) 6 mo1.1, cZa cZ (bd 6) 6 mo1.2.1, cZa cZ (bd 7) 2 ms.1, cIa cI (bd 8) 2 ms.2.1, cZa cZ (bd 9) 2 ms.2.2.1, cIa cI (bd 10) 2 ms.2.2.2.1, cIa cI (bd 11) 2 ms.2.2.2.2.1, cZa cZ (bd 12) 2 ms.2.2.2.2.2.1, cJa cJ (bd 13) 6 ms.2.2.2.2.2.2, cJa cJ (bd 14) 16 mo1.2.2.1] → va_S A s.heap H locs → W p l e { frames := 7, cells := 0, slots := 0, locals := 176 } s m args below meth c H locs 0 0 (MQ below (QX A D (fun _ : Unit => some (.int ((fM_teeth k mc mw mp me mo ms n af).1))) (fun _ : Unit => [cMd bd k mc ((fM_teeth k mc mw mp me mo ms n af).2.1) ((fM_teeth k mc mw mp me mo ms n af).2.2.1) ((fM_teeth k mc mw mp me mo ms n af).2.2.2), cIa cI (bd 1) 128 mp, cZa cZ (bd 2) 30 (((fM_teeth k mc mw mp me mo ms n af).2.2.1).1), cJa cJ (bd 3) 30 (((fM_teeth k mc mw mp me mo ms n af).2.2.1).2.1), cIa cI (bd 4) 30 (((fM_teeth k mc mw mp me mo ms n af).2.2.1).2.2.1), cZa cZ (bd 5) 6 (((fM_teeth k mc mw mp me mo ms n af).2.2.2).1), cZa cZ (bd 6) 6 (((fM_teeth k mc mw mp me mo ms n af).2.2.2).2.1), cZa cZ (bd 7) 2 ms.1, cIa cI (bd 8) 2 ms.2.1, cZa cZ (bd 9) 2 ms.2.2.1, cIa cI (bd 10) 2 ms.2.2.2.1, cIa cI (bd 11) 2 ms.2.2.2.2.1, cZa cZ (bd 12) 2 ms.2.2.2.2.2.1, cJa cJ (bd 13) 6 ms.2.2.2.2.2.2, cJa cJ (bd 14) 16 (((fM_teeth k mc mw mp me mo ms n af).2.2.2).2.2.1)])) args s 0 0 A) (F0 m 24 ls []) := by
        intro fuel
        induction fuel with
        | zero =>
          intro i mw1 me1 mo1  ls H locs hm hres hl hP hD hS
          refine lv_iload_n hx hb dM_teeth_24 rfl (lv_at hl 0 rfl) ?_
          refine lv_iload_n hx hb dM_teeth_25 rfl (lv_at hl 2 rfl) ?_
          refine lv_icmp_ge (tgt := 40) hx hb dM_teeth_26 (by decide) (fun _ => ?_) (fun h0 => absurd (by rw [hn9]; exact (nI_le (a := n.toNatClampNeg) (b := i) (by omega) (by omega))) h0)
          refine lv_aload_n hx hb dM_teeth_40 rfl (lv_at hl 1 rfl) ?_
          refine gfM_158 hx hb hts hown hN hK hP 0 rfl (v := .int mw1.2.2.2.2.1) rfl dM_teeth_41 ?_
          exact k_iret hx hb hr hlk hP hD hS dM_teeth_44 () (by simp only [hres, fM_teeth_l]) (by simp only [hres, fM_teeth_l])
        | succ fuel ih =>
          intro i mw1 me1 mo1  ls H locs hm hres hl hP hD hS
          refine lv_iload_n hx hb dM_teeth_24 rfl (lv_at hl 0 rfl) ?_
          refine lv_iload_n hx hb dM_teeth_25 rfl (lv_at hl 2 rfl) ?_
          refine lv_icmp_ge (tgt := 40) hx hb dM_teeth_26 (by decide) (fun h0 => absurd h0 (by rw [hn9]; exact (nI_ge (a := i) (b := n.toNatClampNeg) (by omega) (by omega)))) (fun _ => ?_)
          refine lv_aload_n hx hb dM_teeth_29 rfl (lv_at hl 1 rfl) ?_
          refine lv_iload_n hx hb dM_teeth_30 rfl (lv_at hl 3 rfl) ?_
          refine k_ca0 (wc := [cMd bd k mc mw1 me1 mo1, cIa cI (bd 1) 128 mp, cZa cZ (bd 2) 30 me1.1, cJa cJ (bd 3) 30 me1.2.1, cIa cI (bd 4) 30 me1.2.2.1, cZa cZ (bd 5) 6 mo1.1, cZa cZ (bd 6) 6 mo1.2.1, cZa cZ (bd 7) 2 ms.1, cIa cI (bd 8) 2 ms.2.1, cZa cZ (bd 9) 2 ms.2.2.1, cIa cI (bd 10) 2 ms.2.2.2.1, cIa cI (bd 11) 2 ms.2.2.2.2.1, cZa cZ (bd 12) 2 ms.2.2.2.2.2.1, cJa cJ (bd 13) 6 ms.2.2.2.2.2.2, cJa cJ (bd 14) 16 mo1.2.2.1]) (wr := []) (va_runV (As := [.int af]) (rest := []) ⟨hx, hb, hml, hown, hts⟩ (ctM_oneEdge l D cZ cI cJ tL tH H.size bd k mc mw1 mp me1 mo1 ms af hk) (cwM_207 hts hN rfl rfl ⟨Nat.le_of_ble_eq_true rfl, Nat.le_of_ble_eq_true rfl⟩) (k_preV hK hN hT hA hS hP hD [0, 1, 2, 3, 4, 5, 6, 7, 8, 9, 10, 11, 12, 13, 14] rfl (by decide) 0 rfl rfl) rfl rfl hl.1 rfl (lv_room (Nat.le_of_ble_eq_true rfl)) dM_teeth_31 ⟨Nat.zero_le _, Nat.zero_le _⟩) hP hD hS hA [0, 1, 2, 3, 4, 5, 6, 7, 8, 9, 10, 11, 12, 13, 14] [] rfl rfl (by decide) (by decide) (fun _ H locs hP hD hS => ?_)
          refine W.eq (g2 := F0 m 34 ls []) rfl ?_
          have hP : va_P D vwCl [cMd bd k mc ((fM_oneEdge k mc mw1 mp me1 mo1 ms af).1) ((fM_oneEdge k mc mw1 mp me1 mo1 ms af).2.1) ((fM_oneEdge k mc mw1 mp me1 mo1 ms af).2.2), cIa cI (bd 1) 128 mp, cZa cZ (bd 2) 30 (((fM_oneEdge k mc mw1 mp me1 mo1 ms af).2.1).1), cJa cJ (bd 3) 30 (((fM_oneEdge k mc mw1 mp me1 mo1 ms af).2.1).2.1), cIa cI (bd 4) 30 (((fM_oneEdge k mc mw1 mp me1 mo1 ms af).2.1).2.2.1), cZa cZ (bd 5) 6 (((fM_oneEdge k mc mw1 mp me1 mo1 ms af).2.2).1), cZa cZ (bd 6) 6 (((fM_oneEdge k mc mw1 mp me1 mo1 ms af).2.2).2.1), cZa cZ (bd 7) 2 ms.1, cIa cI (bd 8) 2 ms.2.1, cZa cZ (bd 9) 2 ms.2.2.1, cIa cI (bd 10) 2 ms.2.2.2.1, cIa cI (bd 11) 2 ms.2.2.2.2.1, cZa cZ (bd 12) 2 ms.2.2.2.2.2.1, cJa cJ (bd 13) 6 ms.2.2.2.2.2.2, cJa cJ (bd 14) 16 (((fM_oneEdge k mc mw1 mp me1 mo1 ms af).2.2).2.2.1)] H := hP
          have hD : va_D A [cMd bd k mc ((fM_oneEdge k mc mw1 mp me1 mo1 ms af).1) ((fM_oneEdge k mc mw1 mp me1 mo1 ms af).2.1) ((fM_oneEdge k mc mw1 mp me1 mo1 ms af).2.2), cIa cI (bd 1) 128 mp, cZa cZ (bd 2) 30 (((fM_oneEdge k mc mw1 mp me1 mo1 ms af).2.1).1), cJa cJ (bd 3) 30 (((fM_oneEdge k mc mw1 mp me1 mo1 ms af).2.1).2.1), cIa cI (bd 4) 30 (((fM_oneEdge k mc mw1 mp me1 mo1 ms af).2.1).2.2.1), cZa cZ (bd 5) 6 (((fM_oneEdge k mc mw1 mp me1 mo1 ms af).2.2).1), cZa cZ (bd 6) 6 (((fM_oneEdge k mc mw1 mp me1 mo1 ms af).2.2).2.1), cZa cZ (bd 7) 2 ms.1, cIa cI (bd 8) 2 ms.2.1, cZa cZ (bd 9) 2 ms.2.2.1, cIa cI (bd 10) 2 ms.2.2.2.1, cIa cI (bd 11) 2 ms.2.2.2.2.1, cZa cZ (bd 12) 2 ms.2.2.2.2.2.1, cJa cJ (bd 13) 6 ms.2.2.2.2.2.2, cJa cJ (bd 14) 16 (((fM_oneEdge k mc mw1 mp me1 mo1 ms af).2.2).2.2.1)] := hD
          generalize hq1001 : fM_oneEdge k mc mw1 mp me1 mo1 ms af = q1001 at hP hD 
          have hP : va_P D vwCl [cMd bd k mc q1001.1 q1001.2.1 q1001.2.2, cIa cI (bd 1) 128 mp, cZa cZ (bd 2) 30 q1001.2.1.1, cJa cJ (bd 3) 30 q1001.2.1.2.1, cIa cI (bd 4) 30 q1001.2.1.2.2.1, cZa cZ (bd 5) 6 q1001.2.2.1, cZa cZ (bd 6) 6 q1001.2.2.2.1, cZa cZ (bd 7) 2 ms.1, cIa cI (bd 8) 2 ms.2.1, cZa cZ (bd 9) 2 ms.2.2.1, cIa cI (bd 10) 2 ms.2.2.2.1, cIa cI (bd 11) 2 ms.2.2.2.2.1, cZa cZ (bd 12) 2 ms.2.2.2.2.2.1, cJa cJ (bd 13) 6 ms.2.2.2.2.2.2, cJa cJ (bd 14) 16 q1001.2.2.2.2.1] H := hP
          have hD : va_D A [cMd bd k mc q1001.1 q1001.2.1 q1001.2.2, cIa cI (bd 1) 128 mp, cZa cZ (bd 2) 30 q1001.2.1.1, cJa cJ (bd 3) 30 q1001.2.1.2.1, cIa cI (bd 4) 30 q1001.2.1.2.2.1, cZa cZ (bd 5) 6 q1001.2.2.1, cZa cZ (bd 6) 6 q1001.2.2.2.1, cZa cZ (bd 7) 2 ms.1, cIa cI (bd 8) 2 ms.2.1, cZa cZ (bd 9) 2 ms.2.2.1, cIa cI (bd 10) 2 ms.2.2.2.1, cIa cI (bd 11) 2 ms.2.2.2.2.1, cZa cZ (bd 12) 2 ms.2.2.2.2.2.1, cJa cJ (bd 13) 6 ms.2.2.2.2.2.2, cJa cJ (bd 14) 16 q1001.2.2.2.2.1] := hD
          refine lv_iinc (k := 0) (v := nI (i + 1)) (lv' := [(3, .int (nI (i + 1))), (0, .ref (bd 0)), (1, .int n), (2, .int af)]) hx hb dM_teeth_34 hl rfl (nI_1 i) (by decide) rfl (fun ls hl => ?_)
          refine lv_goto (tgt := 24) hx hb dM_teeth_37 (by decide) ?_
          have hl := lv_sub (l' := [(3, .int (nI (i + 1))), (0, .ref (bd 0)), (1, .int n), (2, .int af)]) hl [0, 1, 2, 3] rfl
          exact ih (i + 1) q1001.1 q1001.2.1 q1001.2.2  ls H _ (by omega) (by simp only [hres, fM_teeth_l, hq1001]) hl hP hD hS
      exact LOOP24 n.toNatClampNeg 0 mw me mo  ls H _ (by omega) (by simp only [fM_teeth, hq1, if_neg h2, hq3, if_neg h4]) hl hP hD hS
    · -- not taken at 17
      refine lv_iconst (v := (-1 : Int32)) hx hb dM_teeth_20 (by decide) ?_
      exact k_iret hx hb hr hlk hP hD hS dM_teeth_21 () (by simp only [fM_teeth, hq1, if_neg h2, hq3, if_pos h4]) (by simp only [fM_teeth, hq1, if_neg h2, hq3, if_pos h4])

def fM_cam (k : Nat) (mc : McT) (mw : MwT) (mp : MpT) (me : MeT) (mo : MoT) (ms : MsT) : Int32 × MwT :=
  if mw.2.2.2.2.1 = (3 : Int32) then
    if mw.2.2.2.2.2.2.1 = (1 : Int32) then
      ((1 : Int32), (mw.1, mw.2.1, mw.2.2.1, mw.2.2.2.1, mw.2.2.2.2.1, mw.2.2.2.2.2.1, (-1 : Int32), mw.2.2.2.2.2.2.2))
    else
      ((1 : Int32), (mw.1, mw.2.1, mw.2.2.1, mw.2.2.2.1, mw.2.2.2.2.1, mw.2.2.2.2.2.1, (0 : Int32), (1 : Int32)))
  else
    ((0 : Int32), mw)
set_option maxRecDepth 100000 in
set_option maxHeartbeats 4000000 in
theorem ctM_cam (l : Launch) (D : va_G) (cZ cI cJ : ClassId) (tL tH : Nat) (sz : Nat) (bd : Nat → Nat) (k : Nat) (mc : McT) (mw : MwT) (mp : MpT) (me : MeT) (mo : MoT) (ms : MsT)  (hk : 0 < k ∧ k ≤ 6) : Ct l yM_cam wM_cam ({ frames := 0, cells := 0, slots := 0, locals := 0 }) D (tyG cZ cI cJ) tL tH [.ref (bd 0)] sz [cMd bd k mc mw me mo, cIa cI (bd 1) 128 mp, cZa cZ (bd 2) 30 me.1, cJa cJ (bd 3) 30 me.2.1, cIa cI (bd 4) 30 me.2.2.1, cZa cZ (bd 5) 6 mo.1, cZa cZ (bd 6) 6 mo.2.1, cZa cZ (bd 7) 2 ms.1, cIa cI (bd 8) 2 ms.2.1, cZa cZ (bd 9) 2 ms.2.2.1, cIa cI (bd 10) 2 ms.2.2.2.1, cIa cI (bd 11) 2 ms.2.2.2.2.1, cZa cZ (bd 12) 2 ms.2.2.2.2.2.1, cJa cJ (bd 13) 6 ms.2.2.2.2.2.2, cJa cJ (bd 14) 16 mo.2.2.1] (fun _ : Unit => some (.int ((fM_cam k mc mw mp me mo ms).1))) (fun _ : Unit => [cMd bd k mc ((fM_cam k mc mw mp me mo ms).2) me mo, cIa cI (bd 1) 128 mp, cZa cZ (bd 2) 30 me.1, cJa cJ (bd 3) 30 me.2.1, cIa cI (bd 4) 30 me.2.2.1, cZa cZ (bd 5) 6 mo.1, cZa cZ (bd 6) 6 mo.2.1, cZa cZ (bd 7) 2 ms.1, cIa cI (bd 8) 2 ms.2.1, cZa cZ (bd 9) 2 ms.2.2.1, cIa cI (bd 10) 2 ms.2.2.2.1, cIa cI (bd 11) 2 ms.2.2.2.2.1, cZa cZ (bd 12) 2 ms.2.2.2.2.2.1, cJa cJ (bd 13) 6 ms.2.2.2.2.2.2, cJa cJ (bd 14) 16 mo.2.2.1]) 0 0 := by
  refine k_go (by decide +kernel) (Nat.le_of_ble_eq_true rfl) ?_
  intro p e s m args below meth c A ls H hx hb hr hml hts hown hlk hnm hK hN hT hA hS hP hD hl
  have hown : s.vm.findClass "ToothWheelTimerModel" = some m.cls := hown
  have hlk : meth.locks = false := hlk
  have hl : lv_has ls 1 [(0, .ref (bd 0))] := hl
  refine lv_aload_n hx hb dM_cam_0 rfl (lv_at hl 0 rfl) ?_
  refine gfM_158 hx hb hts hown hN hK hP 0 rfl (v := .int mw.2.2.2.2.1) rfl dM_cam_1 ?_
  refine lv_iconst (v := (3 : Int32)) hx hb dM_cam_4 (by decide) ?_
  refine lv_icmp_eq (tgt := 10) hx hb dM_cam_5 (by decide) (fun h1 => ?_) (fun h1 => ?_)
  · -- taken at 5
    refine lv_aload_n hx hb dM_cam_10 rfl (lv_at hl 0 rfl) ?_
    refine gfM_7 hx hb hts hown hN hK hP 0 rfl (v := .int mw.2.2.2.2.2.2.1) rfl dM_cam_11 ?_
    refine lv_iconst (v := (1 : Int32)) hx hb dM_cam_14 (by decide) ?_
    refine lv_icmp_ne (tgt := 26) hx hb dM_cam_15 (by decide) (fun h2 => ?_) (fun h2 => ?_)
    · -- taken at 15
      refine lv_aload_n hx hb dM_cam_26 rfl (lv_at hl 0 rfl) ?_
      refine lv_iconst (v := (0 : Int32)) hx hb dM_cam_27 (by decide) ?_
      refine pfM_7 hx hb hts hown hN hK hP hD hS 0 rfl (v := .int (0 : Int32)) rfl rfl (Nat.le_of_ble_eq_true rfl) dM_cam_28 (fun H locs hP hD hS => ?_)
      have hP : va_P D vwCl [cMd bd k mc (mw.1, mw.2.1, mw.2.2.1, mw.2.2.2.1, mw.2.2.2.2.1, mw.2.2.2.2.2.1, (0 : Int32), mw.2.2.2.2.2.2.2) me mo, cIa cI (bd 1) 128 mp, cZa cZ (bd 2) 30 me.1, cJa cJ (bd 3) 30 me.2.1, cIa cI (bd 4) 30 me.2.2.1, cZa cZ (bd 5) 6 mo.1, cZa cZ (bd 6) 6 mo.2.1, cZa cZ (bd 7) 2 ms.1, cIa cI (bd 8) 2 ms.2.1, cZa cZ (bd 9) 2 ms.2.2.1, cIa cI (bd 10) 2 ms.2.2.2.1, cIa cI (bd 11) 2 ms.2.2.2.2.1, cZa cZ (bd 12) 2 ms.2.2.2.2.2.1, cJa cJ (bd 13) 6 ms.2.2.2.2.2.2, cJa cJ (bd 14) 16 mo.2.2.1] H := hP
      have hD : va_D A [cMd bd k mc (mw.1, mw.2.1, mw.2.2.1, mw.2.2.2.1, mw.2.2.2.2.1, mw.2.2.2.2.2.1, (0 : Int32), mw.2.2.2.2.2.2.2) me mo, cIa cI (bd 1) 128 mp, cZa cZ (bd 2) 30 me.1, cJa cJ (bd 3) 30 me.2.1, cIa cI (bd 4) 30 me.2.2.1, cZa cZ (bd 5) 6 mo.1, cZa cZ (bd 6) 6 mo.2.1, cZa cZ (bd 7) 2 ms.1, cIa cI (bd 8) 2 ms.2.1, cZa cZ (bd 9) 2 ms.2.2.1, cIa cI (bd 10) 2 ms.2.2.2.1, cIa cI (bd 11) 2 ms.2.2.2.2.1, cZa cZ (bd 12) 2 ms.2.2.2.2.2.1, cJa cJ (bd 13) 6 ms.2.2.2.2.2.2, cJa cJ (bd 14) 16 mo.2.2.1] := hD
      refine lv_aload_n hx hb dM_cam_31 rfl (lv_at hl 0 rfl) ?_
      refine lv_iconst (v := (1 : Int32)) hx hb dM_cam_32 (by decide) ?_
      refine pfM_176 hx hb hts hown hN hK hP hD hS 0 rfl (v := .int (1 : Int32)) (zn_b (Or.inr rfl)) (zf_b (Or.inr rfl)) (Nat.le_of_ble_eq_true rfl) dM_cam_33 (fun H locs hP hD hS => ?_)
      have hP : va_P D vwCl [cMd bd k mc (mw.1, mw.2.1, mw.2.2.1, mw.2.2.2.1, mw.2.2.2.2.1, mw.2.2.2.2.2.1, (0 : Int32), (1 : Int32)) me mo, cIa cI (bd 1) 128 mp, cZa cZ (bd 2) 30 me.1, cJa cJ (bd 3) 30 me.2.1, cIa cI (bd 4) 30 me.2.2.1, cZa cZ (bd 5) 6 mo.1, cZa cZ (bd 6) 6 mo.2.1, cZa cZ (bd 7) 2 ms.1, cIa cI (bd 8) 2 ms.2.1, cZa cZ (bd 9) 2 ms.2.2.1, cIa cI (bd 10) 2 ms.2.2.2.1, cIa cI (bd 11) 2 ms.2.2.2.2.1, cZa cZ (bd 12) 2 ms.2.2.2.2.2.1, cJa cJ (bd 13) 6 ms.2.2.2.2.2.2, cJa cJ (bd 14) 16 mo.2.2.1] H := hP
      have hD : va_D A [cMd bd k mc (mw.1, mw.2.1, mw.2.2.1, mw.2.2.2.1, mw.2.2.2.2.1, mw.2.2.2.2.2.1, (0 : Int32), (1 : Int32)) me mo, cIa cI (bd 1) 128 mp, cZa cZ (bd 2) 30 me.1, cJa cJ (bd 3) 30 me.2.1, cIa cI (bd 4) 30 me.2.2.1, cZa cZ (bd 5) 6 mo.1, cZa cZ (bd 6) 6 mo.2.1, cZa cZ (bd 7) 2 ms.1, cIa cI (bd 8) 2 ms.2.1, cZa cZ (bd 9) 2 ms.2.2.1, cIa cI (bd 10) 2 ms.2.2.2.1, cIa cI (bd 11) 2 ms.2.2.2.2.1, cZa cZ (bd 12) 2 ms.2.2.2.2.2.1, cJa cJ (bd 13) 6 ms.2.2.2.2.2.2, cJa cJ (bd 14) 16 mo.2.2.1] := hD
      refine lv_iconst (v := (1 : Int32)) hx hb dM_cam_36 (by decide) ?_
      exact k_zret hx hb hr hlk (zn_b (Or.inr rfl)) hP hD hS dM_cam_37 () (by simp only [fM_cam, if_pos h1, if_neg h2]) (by simp only [fM_cam, if_pos h1, if_neg h2])
    · -- not taken at 15
      refine lv_aload_n hx hb dM_cam_18 rfl (lv_at hl 0 rfl) ?_
      refine lv_iconst (v := (-1 : Int32)) hx hb dM_cam_19 (by decide) ?_
      refine pfM_7 hx hb hts hown hN hK hP hD hS 0 rfl (v := .int (-1 : Int32)) rfl rfl (Nat.le_of_ble_eq_true rfl) dM_cam_20 (fun H locs hP hD hS => ?_)
      have hP : va_P D vwCl [cMd bd k mc (mw.1, mw.2.1, mw.2.2.1, mw.2.2.2.1, mw.2.2.2.2.1, mw.2.2.2.2.2.1, (-1 : Int32), mw.2.2.2.2.2.2.2) me mo, cIa cI (bd 1) 128 mp, cZa cZ (bd 2) 30 me.1, cJa cJ (bd 3) 30 me.2.1, cIa cI (bd 4) 30 me.2.2.1, cZa cZ (bd 5) 6 mo.1, cZa cZ (bd 6) 6 mo.2.1, cZa cZ (bd 7) 2 ms.1, cIa cI (bd 8) 2 ms.2.1, cZa cZ (bd 9) 2 ms.2.2.1, cIa cI (bd 10) 2 ms.2.2.2.1, cIa cI (bd 11) 2 ms.2.2.2.2.1, cZa cZ (bd 12) 2 ms.2.2.2.2.2.1, cJa cJ (bd 13) 6 ms.2.2.2.2.2.2, cJa cJ (bd 14) 16 mo.2.2.1] H := hP
      have hD : va_D A [cMd bd k mc (mw.1, mw.2.1, mw.2.2.1, mw.2.2.2.1, mw.2.2.2.2.1, mw.2.2.2.2.2.1, (-1 : Int32), mw.2.2.2.2.2.2.2) me mo, cIa cI (bd 1) 128 mp, cZa cZ (bd 2) 30 me.1, cJa cJ (bd 3) 30 me.2.1, cIa cI (bd 4) 30 me.2.2.1, cZa cZ (bd 5) 6 mo.1, cZa cZ (bd 6) 6 mo.2.1, cZa cZ (bd 7) 2 ms.1, cIa cI (bd 8) 2 ms.2.1, cZa cZ (bd 9) 2 ms.2.2.1, cIa cI (bd 10) 2 ms.2.2.2.1, cIa cI (bd 11) 2 ms.2.2.2.2.1, cZa cZ (bd 12) 2 ms.2.2.2.2.2.1, cJa cJ (bd 13) 6 ms.2.2.2.2.2.2, cJa cJ (bd 14) 16 mo.2.2.1] := hD
      refine lv_goto (tgt := 36) hx hb dM_cam_23 (by decide) ?_
      refine lv_iconst (v := (1 : Int32)) hx hb dM_cam_36 (by decide) ?_
      exact k_zret hx hb hr hlk (zn_b (Or.inr rfl)) hP hD hS dM_cam_37 () (by simp only [fM_cam, if_pos h1, if_pos h2]) (by simp only [fM_cam, if_pos h1, if_pos h2])
  · -- not taken at 5
    refine lv_iconst (v := (0 : Int32)) hx hb dM_cam_8 (by decide) ?_
    exact k_zret hx hb hr hlk (zn_b (Or.inl rfl)) hP hD hS dM_cam_9 () (by simp only [fM_cam, if_neg h1]) (by simp only [fM_cam, if_neg h1])

def fM_rest (k : Nat) (mc : McT) (mw : MwT) (mp : MpT) (me : MeT) (mo : MoT) (ms : MsT) (n : Int32) : Int32 × MwT × MeT × MoT :=
  let q1 := fM_in n (0 : Int32) (10000000 : Int32)
  if q1 = 0 then
    ((-1 : Int32), mw, me, mo)
  else
    let q3 := fM_advance k mc mw mp me mo ms (mw.1 + n.toInt64)
    (q3.2.2.2.2.2.1 - mo.2.2.2.1, q3.1, q3.2.1, q3.2.2)
set_option maxRecDepth 100000 in
set_option maxHeartbeats 4000000 in
theorem ctM_rest (l : Launch) (D : va_G) (cZ cI cJ : ClassId) (tL tH : Nat) (sz : Nat) (bd : Nat → Nat) (k : Nat) (mc : McT) (mw : MwT) (mp : MpT) (me : MeT) (mo : MoT) (ms : MsT) (n : Int32)  (hk : 0 < k ∧ k ≤ 6) : Ct l yM_rest wM_rest ({ frames := 6, cells := 0, slots := 0, locals := 153 }) D (tyG cZ cI cJ) tL tH [.ref (bd 0), .int n] sz [cMd bd k mc mw me mo, cIa cI (bd 1) 128 mp, cZa cZ (bd 2) 30 me.1, cJa cJ (bd 3) 30 me.2.1, cIa cI (bd 4) 30 me.2.2.1, cZa cZ (bd 5) 6 mo.1, cZa cZ (bd 6) 6 mo.2.1, cZa cZ (bd 7) 2 ms.1, cIa cI (bd 8) 2 ms.2.1, cZa cZ (bd 9) 2 ms.2.2.1, cIa cI (bd 10) 2 ms.2.2.2.1, cIa cI (bd 11) 2 ms.2.2.2.2.1, cZa cZ (bd 12) 2 ms.2.2.2.2.2.1, cJa cJ (bd 13) 6 ms.2.2.2.2.2.2, cJa cJ (bd 14) 16 mo.2.2.1] (fun _ : Unit => some (.int ((fM_rest k mc mw mp me mo ms n).1))) (fun _ : Unit => [cMd bd k mc ((fM_rest k mc mw mp me mo ms n).2.1) ((fM_rest k mc mw mp me mo ms n).2.2.1) ((fM_rest k mc mw mp me mo ms n).2.2.2), cIa cI (bd 1) 128 mp, cZa cZ (bd 2) 30 (((fM_rest k mc mw mp me mo ms n).2.2.1).1), cJa cJ (bd 3) 30 (((fM_rest k mc mw mp me mo ms n).2.2.1).2.1), cIa cI (bd 4) 30 (((fM_rest k mc mw mp me mo ms n).2.2.1).2.2.1), cZa cZ (bd 5) 6 (((fM_rest k mc mw mp me mo ms n).2.2.2).1), cZa cZ (bd 6) 6 (((fM_rest k mc mw mp me mo ms n).2.2.2).2.1), cZa cZ (bd 7) 2 ms.1, cIa cI (bd 8) 2 ms.2.1, cZa cZ (bd 9) 2 ms.2.2.1, cIa cI (bd 10) 2 ms.2.2.2.1, cIa cI (bd 11) 2 ms.2.2.2.2.1, cZa cZ (bd 12) 2 ms.2.2.2.2.2.1, cJa cJ (bd 13) 6 ms.2.2.2.2.2.2, cJa cJ (bd 14) 16 (((fM_rest k mc mw mp me mo ms n).2.2.2).2.2.1)]) 0 0 := by
  refine k_go (by decide +kernel) (Nat.le_of_ble_eq_true rfl) ?_
  intro p e s m args below meth c A ls H hx hb hr hml hts hown hlk hnm hK hN hT hA hS hP hD hl
  have hown : s.vm.findClass "ToothWheelTimerModel" = some m.cls := hown
  have hlk : meth.locks = false := hlk
  have hl : lv_has ls 3 [(0, .ref (bd 0)), (1, .int n)] := hl
  refine lv_iload_n hx hb dM_rest_0 rfl (lv_at hl 1 rfl) ?_
  refine lv_iconst (v := (0 : Int32)) hx hb dM_rest_1 (by decide) ?_
  refine lv_ldc (v := (10000000 : Int32)) hx hb hown (hts _ (wg wd_769 rfl)) dM_rest_2 ?_
  refine k_ca0 (wc := []) (wr := [cMd bd k mc mw me mo, cIa cI (bd 1) 128 mp, cZa cZ (bd 2) 30 me.1, cJa cJ (bd 3) 30 me.2.1, cIa cI (bd 4) 30 me.2.2.1, cZa cZ (bd 5) 6 mo.1, cZa cZ (bd 6) 6 mo.2.1, cZa cZ (bd 7) 2 ms.1, cIa cI (bd 8) 2 ms.2.1, cZa cZ (bd 9) 2 ms.2.2.1, cIa cI (bd 10) 2 ms.2.2.2.1, cIa cI (bd 11) 2 ms.2.2.2.2.1, cZa cZ (bd 12) 2 ms.2.2.2.2.2.1, cJa cJ (bd 13) 6 ms.2.2.2.2.2.2, cJa cJ (bd 14) 16 mo.2.2.1]) (va_runS (As := [.int n, .int (0 : Int32), .int (10000000 : Int32)]) (rest := []) ⟨hx, hb, hml, hown, hts⟩ (ctM_in l D cZ cI cJ tL tH H.size n (0 : Int32) (10000000 : Int32)) (cwM_78 hts hN rfl rfl ⟨Nat.le_of_ble_eq_true rfl, Nat.le_of_ble_eq_true rfl⟩) (k_pre hK hN hT hA hS hP hD [] rfl (by decide)) rfl rfl hl.1 rfl (lv_room (Nat.le_of_ble_eq_true rfl)) dM_rest_4 ⟨Nat.zero_le _, Nat.zero_le _⟩) hP hD hS hA [] [0, 1, 2, 3, 4, 5, 6, 7, 8, 9, 10, 11, 12, 13, 14] rfl rfl (by decide) (by decide) (fun _ H locs hP hD hS => ?_)
  refine W.eq (g2 := F0 m 7 ls [.int (fM_in n (0 : Int32) (10000000 : Int32))]) rfl ?_
  have hP : va_P D vwCl [cMd bd k mc mw me mo, cIa cI (bd 1) 128 mp, cZa cZ (bd 2) 30 me.1, cJa cJ (bd 3) 30 me.2.1, cIa cI (bd 4) 30 me.2.2.1, cZa cZ (bd 5) 6 mo.1, cZa cZ (bd 6) 6 mo.2.1, cZa cZ (bd 7) 2 ms.1, cIa cI (bd 8) 2 ms.2.1, cZa cZ (bd 9) 2 ms.2.2.1, cIa cI (bd 10) 2 ms.2.2.2.1, cIa cI (bd 11) 2 ms.2.2.2.2.1, cZa cZ (bd 12) 2 ms.2.2.2.2.2.1, cJa cJ (bd 13) 6 ms.2.2.2.2.2.2, cJa cJ (bd 14) 16 mo.2.2.1] H := hP
  have hD : va_D A [cMd bd k mc mw me mo, cIa cI (bd 1) 128 mp, cZa cZ (bd 2) 30 me.1, cJa cJ (bd 3) 30 me.2.1, cIa cI (bd 4) 30 me.2.2.1, cZa cZ (bd 5) 6 mo.1, cZa cZ (bd 6) 6 mo.2.1, cZa cZ (bd 7) 2 ms.1, cIa cI (bd 8) 2 ms.2.1, cZa cZ (bd 9) 2 ms.2.2.1, cIa cI (bd 10) 2 ms.2.2.2.1, cIa cI (bd 11) 2 ms.2.2.2.2.1, cZa cZ (bd 12) 2 ms.2.2.2.2.2.1, cJa cJ (bd 13) 6 ms.2.2.2.2.2.2, cJa cJ (bd 14) 16 mo.2.2.1] := hD
  generalize hq1 : fM_in n (0 : Int32) (10000000 : Int32) = q1 at ⊢
  refine lv_if_ne (tgt := 12) hx hb dM_rest_7 (by decide) (fun h2 => ?_) (fun h2 => ?_)
  · -- taken at 7
    refine lv_aload_n hx hb dM_rest_12 rfl (lv_at hl 0 rfl) ?_
    refine gfM_121 hx hb hts hown hN hK hP 0 rfl (v := .int mo.2.2.2.1) rfl dM_rest_13 ?_
    refine lv_istore_n (lv' := [(2, .int mo.2.2.2.1), (0, .ref (bd 0)), (1, .int n)]) hx hb dM_rest_16 rfl hl (by decide) rfl (fun ls hl => ?_)
    refine lv_aload_n hx hb dM_rest_17 rfl (lv_at hl 1 rfl) ?_
    refine lv_aload_n hx hb dM_rest_18 rfl (lv_at hl 1 rfl) ?_
    refine gfM_111 hx hb hts hown hN hK hP 0 rfl (v := .long mw.1) rfl dM_rest_19 ?_
    refine lv_iload_n hx hb dM_rest_22 rfl (lv_at hl 2 rfl) ?_
    refine lv_i2l hx hb dM_rest_23 rfl ?_
    refine lv_ladd hx hb dM_rest_24 ?_
    refine k_ca0 (wc := [cMd bd k mc mw me mo, cIa cI (bd 1) 128 mp, cZa cZ (bd 2) 30 me.1, cJa cJ (bd 3) 30 me.2.1, cIa cI (bd 4) 30 me.2.2.1, cZa cZ (bd 5) 6 mo.1, cZa cZ (bd 6) 6 mo.2.1, cZa cZ (bd 7) 2 ms.1, cIa cI (bd 8) 2 ms.2.1, cZa cZ (bd 9) 2 ms.2.2.1, cIa cI (bd 10) 2 ms.2.2.2.1, cIa cI (bd 11) 2 ms.2.2.2.2.1, cZa cZ (bd 12) 2 ms.2.2.2.2.2.1, cJa cJ (bd 13) 6 ms.2.2.2.2.2.2, cJa cJ (bd 14) 16 mo.2.2.1]) (wr := []) (va_runV (As := [.long (mw.1 + n.toInt64)]) (rest := []) ⟨hx, hb, hml, hown, hts⟩ (ctM_advance l D cZ cI cJ tL tH H.size bd k mc mw mp me mo ms (mw.1 + n.toInt64) hk) (cwM_179 hts hN rfl rfl ⟨Nat.le_of_ble_eq_true rfl, Nat.le_of_ble_eq_true rfl⟩) (k_preV hK hN hT hA hS hP hD [0, 1, 2, 3, 4, 5, 6, 7, 8, 9, 10, 11, 12, 13, 14] rfl (by decide) 0 rfl rfl) rfl rfl hl.1 rfl (lv_room (Nat.le_of_ble_eq_true rfl)) dM_rest_25 ⟨Nat.zero_le _, Nat.zero_le _⟩) hP hD hS hA [0, 1, 2, 3, 4, 5, 6, 7, 8, 9, 10, 11, 12, 13, 14] [] rfl rfl (by decide) (by decide) (fun _ H locs hP hD hS => ?_)
    refine W.eq (g2 := F0 m 28 ls []) rfl ?_
    have hP : va_P D vwCl [cMd bd k mc ((fM_advance k mc mw mp me mo ms (mw.1 + n.toInt64)).1) ((fM_advance k mc mw mp me mo ms (mw.1 + n.toInt64)).2.1) ((fM_advance k mc mw mp me mo ms (mw.1 + n.toInt64)).2.2), cIa cI (bd 1) 128 mp, cZa cZ (bd 2) 30 (((fM_advance k mc mw mp me mo ms (mw.1 + n.toInt64)).2.1).1), cJa cJ (bd 3) 30 (((fM_advance k mc mw mp me mo ms (mw.1 + n.toInt64)).2.1).2.1), cIa cI (bd 4) 30 (((fM_advance k mc mw mp me mo ms (mw.1 + n.toInt64)).2.1).2.2.1), cZa cZ (bd 5) 6 (((fM_advance k mc mw mp me mo ms (mw.1 + n.toInt64)).2.2).1), cZa cZ (bd 6) 6 (((fM_advance k mc mw mp me mo ms (mw.1 + n.toInt64)).2.2).2.1), cZa cZ (bd 7) 2 ms.1, cIa cI (bd 8) 2 ms.2.1, cZa cZ (bd 9) 2 ms.2.2.1, cIa cI (bd 10) 2 ms.2.2.2.1, cIa cI (bd 11) 2 ms.2.2.2.2.1, cZa cZ (bd 12) 2 ms.2.2.2.2.2.1, cJa cJ (bd 13) 6 ms.2.2.2.2.2.2, cJa cJ (bd 14) 16 (((fM_advance k mc mw mp me mo ms (mw.1 + n.toInt64)).2.2).2.2.1)] H := hP
    have hD : va_D A [cMd bd k mc ((fM_advance k mc mw mp me mo ms (mw.1 + n.toInt64)).1) ((fM_advance k mc mw mp me mo ms (mw.1 + n.toInt64)).2.1) ((fM_advance k mc mw mp me mo ms (mw.1 + n.toInt64)).2.2), cIa cI (bd 1) 128 mp, cZa cZ (bd 2) 30 (((fM_advance k mc mw mp me mo ms (mw.1 + n.toInt64)).2.1).1), cJa cJ (bd 3) 30 (((fM_advance k mc mw mp me mo ms (mw.1 + n.toInt64)).2.1).2.1), cIa cI (bd 4) 30 (((fM_advance k mc mw mp me mo ms (mw.1 + n.toInt64)).2.1).2.2.1), cZa cZ (bd 5) 6 (((fM_advance k mc mw mp me mo ms (mw.1 + n.toInt64)).2.2).1), cZa cZ (bd 6) 6 (((fM_advance k mc mw mp me mo ms (mw.1 + n.toInt64)).2.2).2.1), cZa cZ (bd 7) 2 ms.1, cIa cI (bd 8) 2 ms.2.1, cZa cZ (bd 9) 2 ms.2.2.1, cIa cI (bd 10) 2 ms.2.2.2.1, cIa cI (bd 11) 2 ms.2.2.2.2.1, cZa cZ (bd 12) 2 ms.2.2.2.2.2.1, cJa cJ (bd 13) 6 ms.2.2.2.2.2.2, cJa cJ (bd 14) 16 (((fM_advance k mc mw mp me mo ms (mw.1 + n.toInt64)).2.2).2.2.1)] := hD
    generalize hq3 : fM_advance k mc mw mp me mo ms (mw.1 + n.toInt64) = q3 at hP hD 
    have hP : va_P D vwCl [cMd bd k mc q3.1 q3.2.1 q3.2.2, cIa cI (bd 1) 128 mp, cZa cZ (bd 2) 30 q3.2.1.1, cJa cJ (bd 3) 30 q3.2.1.2.1, cIa cI (bd 4) 30 q3.2.1.2.2.1, cZa cZ (bd 5) 6 q3.2.2.1, cZa cZ (bd 6) 6 q3.2.2.2.1, cZa cZ (bd 7) 2 ms.1, cIa cI (bd 8) 2 ms.2.1, cZa cZ (bd 9) 2 ms.2.2.1, cIa cI (bd 10) 2 ms.2.2.2.1, cIa cI (bd 11) 2 ms.2.2.2.2.1, cZa cZ (bd 12) 2 ms.2.2.2.2.2.1, cJa cJ (bd 13) 6 ms.2.2.2.2.2.2, cJa cJ (bd 14) 16 q3.2.2.2.2.1] H := hP
    have hD : va_D A [cMd bd k mc q3.1 q3.2.1 q3.2.2, cIa cI (bd 1) 128 mp, cZa cZ (bd 2) 30 q3.2.1.1, cJa cJ (bd 3) 30 q3.2.1.2.1, cIa cI (bd 4) 30 q3.2.1.2.2.1, cZa cZ (bd 5) 6 q3.2.2.1, cZa cZ (bd 6) 6 q3.2.2.2.1, cZa cZ (bd 7) 2 ms.1, cIa cI (bd 8) 2 ms.2.1, cZa cZ (bd 9) 2 ms.2.2.1, cIa cI (bd 10) 2 ms.2.2.2.1, cIa cI (bd 11) 2 ms.2.2.2.2.1, cZa cZ (bd 12) 2 ms.2.2.2.2.2.1, cJa cJ (bd 13) 6 ms.2.2.2.2.2.2, cJa cJ (bd 14) 16 q3.2.2.2.2.1] := hD
    refine lv_aload_n hx hb dM_rest_28 rfl (lv_at hl 1 rfl) ?_
    refine gfM_121 hx hb hts hown hN hK hP 0 rfl (v := .int q3.2.2.2.2.2.1) rfl dM_rest_29 ?_
    refine lv_iload_n hx hb dM_rest_32 rfl (lv_at hl 0 rfl) ?_
    refine lv_isub hx hb dM_rest_33 ?_
    exact k_iret hx hb hr hlk hP hD hS dM_rest_34 () (by simp only [fM_rest, hq1, if_neg h2, hq3]) (by simp only [fM_rest, hq1, if_neg h2, hq3])
  · -- not taken at 7
    refine lv_iconst (v := (-1 : Int32)) hx hb dM_rest_10 (by decide) ?_
    exact k_iret hx hb hr hlk hP hD hS dM_rest_11 () (by simp only [fM_rest, hq1, if_pos h2]) (by simp only [fM_rest, hq1, if_pos h2])

def fM_state (k : Nat) (mc : McT) (mw : MwT) (mp : MpT) (me : MeT) (mo : MoT) (ms : MsT) : Int32 :=
  mw.2.2.2.2.1
set_option maxRecDepth 100000 in
set_option maxHeartbeats 4000000 in
theorem ctM_state (l : Launch) (D : va_G) (cZ cI cJ : ClassId) (tL tH : Nat) (sz : Nat) (bd : Nat → Nat) (k : Nat) (mc : McT) (mw : MwT) (mp : MpT) (me : MeT) (mo : MoT) (ms : MsT)  (hk : 0 < k ∧ k ≤ 6) : Ct l yM_state wM_state ({ frames := 0, cells := 0, slots := 0, locals := 0 }) D (tyG cZ cI cJ) tL tH [.ref (bd 0)] sz [cMd bd k mc mw me mo, cIa cI (bd 1) 128 mp, cZa cZ (bd 2) 30 me.1, cJa cJ (bd 3) 30 me.2.1, cIa cI (bd 4) 30 me.2.2.1, cZa cZ (bd 5) 6 mo.1, cZa cZ (bd 6) 6 mo.2.1, cZa cZ (bd 7) 2 ms.1, cIa cI (bd 8) 2 ms.2.1, cZa cZ (bd 9) 2 ms.2.2.1, cIa cI (bd 10) 2 ms.2.2.2.1, cIa cI (bd 11) 2 ms.2.2.2.2.1, cZa cZ (bd 12) 2 ms.2.2.2.2.2.1, cJa cJ (bd 13) 6 ms.2.2.2.2.2.2, cJa cJ (bd 14) 16 mo.2.2.1] (fun _ : Unit => some (.int (fM_state k mc mw mp me mo ms))) (fun _ : Unit => [cMd bd k mc mw me mo, cIa cI (bd 1) 128 mp, cZa cZ (bd 2) 30 me.1, cJa cJ (bd 3) 30 me.2.1, cIa cI (bd 4) 30 me.2.2.1, cZa cZ (bd 5) 6 mo.1, cZa cZ (bd 6) 6 mo.2.1, cZa cZ (bd 7) 2 ms.1, cIa cI (bd 8) 2 ms.2.1, cZa cZ (bd 9) 2 ms.2.2.1, cIa cI (bd 10) 2 ms.2.2.2.1, cIa cI (bd 11) 2 ms.2.2.2.2.1, cZa cZ (bd 12) 2 ms.2.2.2.2.2.1, cJa cJ (bd 13) 6 ms.2.2.2.2.2.2, cJa cJ (bd 14) 16 mo.2.2.1]) 0 0 := by
  refine k_go (by decide +kernel) (Nat.le_of_ble_eq_true rfl) ?_
  intro p e s m args below meth c A ls H hx hb hr hml hts hown hlk hnm hK hN hT hA hS hP hD hl
  have hown : s.vm.findClass "ToothWheelTimerModel" = some m.cls := hown
  have hlk : meth.locks = false := hlk
  have hl : lv_has ls 1 [(0, .ref (bd 0))] := hl
  refine lv_aload_n hx hb dM_state_0 rfl (lv_at hl 0 rfl) ?_
  refine gfM_158 hx hb hts hown hN hK hP 0 rfl (v := .int mw.2.2.2.2.1) rfl dM_state_1 ?_
  exact k_iret hx hb hr hlk hP hD hS dM_state_4 () rfl rfl

def fM_tooth (k : Nat) (mc : McT) (mw : MwT) (mp : MpT) (me : MeT) (mo : MoT) (ms : MsT) : Int32 :=
  if mw.2.2.2.2.1 < (2 : Int32) then
    (-1 : Int32)
  else
    mw.2.2.2.2.2.1
set_option maxRecDepth 100000 in
set_option maxHeartbeats 4000000 in
theorem ctM_tooth (l : Launch) (D : va_G) (cZ cI cJ : ClassId) (tL tH : Nat) (sz : Nat) (bd : Nat → Nat) (k : Nat) (mc : McT) (mw : MwT) (mp : MpT) (me : MeT) (mo : MoT) (ms : MsT)  (hk : 0 < k ∧ k ≤ 6) : Ct l yM_tooth wM_tooth ({ frames := 0, cells := 0, slots := 0, locals := 0 }) D (tyG cZ cI cJ) tL tH [.ref (bd 0)] sz [cMd bd k mc mw me mo, cIa cI (bd 1) 128 mp, cZa cZ (bd 2) 30 me.1, cJa cJ (bd 3) 30 me.2.1, cIa cI (bd 4) 30 me.2.2.1, cZa cZ (bd 5) 6 mo.1, cZa cZ (bd 6) 6 mo.2.1, cZa cZ (bd 7) 2 ms.1, cIa cI (bd 8) 2 ms.2.1, cZa cZ (bd 9) 2 ms.2.2.1, cIa cI (bd 10) 2 ms.2.2.2.1, cIa cI (bd 11) 2 ms.2.2.2.2.1, cZa cZ (bd 12) 2 ms.2.2.2.2.2.1, cJa cJ (bd 13) 6 ms.2.2.2.2.2.2, cJa cJ (bd 14) 16 mo.2.2.1] (fun _ : Unit => some (.int (fM_tooth k mc mw mp me mo ms))) (fun _ : Unit => [cMd bd k mc mw me mo, cIa cI (bd 1) 128 mp, cZa cZ (bd 2) 30 me.1, cJa cJ (bd 3) 30 me.2.1, cIa cI (bd 4) 30 me.2.2.1, cZa cZ (bd 5) 6 mo.1, cZa cZ (bd 6) 6 mo.2.1, cZa cZ (bd 7) 2 ms.1, cIa cI (bd 8) 2 ms.2.1, cZa cZ (bd 9) 2 ms.2.2.1, cIa cI (bd 10) 2 ms.2.2.2.1, cIa cI (bd 11) 2 ms.2.2.2.2.1, cZa cZ (bd 12) 2 ms.2.2.2.2.2.1, cJa cJ (bd 13) 6 ms.2.2.2.2.2.2, cJa cJ (bd 14) 16 mo.2.2.1]) 0 0 := by
  refine k_go (by decide +kernel) (Nat.le_of_ble_eq_true rfl) ?_
  intro p e s m args below meth c A ls H hx hb hr hml hts hown hlk hnm hK hN hT hA hS hP hD hl
  have hown : s.vm.findClass "ToothWheelTimerModel" = some m.cls := hown
  have hlk : meth.locks = false := hlk
  have hl : lv_has ls 1 [(0, .ref (bd 0))] := hl
  refine lv_aload_n hx hb dM_tooth_0 rfl (lv_at hl 0 rfl) ?_
  refine gfM_158 hx hb hts hown hN hK hP 0 rfl (v := .int mw.2.2.2.2.1) rfl dM_tooth_1 ?_
  refine lv_iconst (v := (2 : Int32)) hx hb dM_tooth_4 (by decide) ?_
  refine lv_icmp_lt (tgt := 15) hx hb dM_tooth_5 (by decide) (fun h1 => ?_) (fun h1 => ?_)
  · -- taken at 5
    refine lv_iconst (v := (-1 : Int32)) hx hb dM_tooth_15 (by decide) ?_
    exact k_iret hx hb hr hlk hP hD hS dM_tooth_16 () (by simp only [fM_tooth, if_pos h1]) rfl
  · -- not taken at 5
    refine lv_aload_n hx hb dM_tooth_8 rfl (lv_at hl 0 rfl) ?_
    refine gfM_171 hx hb hts hown hN hK hP 0 rfl (v := .int mw.2.2.2.2.2.1) rfl dM_tooth_9 ?_
    refine lv_goto (tgt := 16) hx hb dM_tooth_12 (by decide) ?_
    exact k_iret hx hb hr hlk hP hD hS dM_tooth_16 () (by simp only [fM_tooth, if_neg h1]) rfl

def fM_turn (k : Nat) (mc : McT) (mw : MwT) (mp : MpT) (me : MeT) (mo : MoT) (ms : MsT) : Int32 :=
  if mw.2.2.2.2.1 = (3 : Int32) then
    mw.2.2.2.2.2.2.1
  else
    (-1 : Int32)
set_option maxRecDepth 100000 in
set_option maxHeartbeats 4000000 in
theorem ctM_turn (l : Launch) (D : va_G) (cZ cI cJ : ClassId) (tL tH : Nat) (sz : Nat) (bd : Nat → Nat) (k : Nat) (mc : McT) (mw : MwT) (mp : MpT) (me : MeT) (mo : MoT) (ms : MsT)  (hk : 0 < k ∧ k ≤ 6) : Ct l yM_turn wM_turn ({ frames := 0, cells := 0, slots := 0, locals := 0 }) D (tyG cZ cI cJ) tL tH [.ref (bd 0)] sz [cMd bd k mc mw me mo, cIa cI (bd 1) 128 mp, cZa cZ (bd 2) 30 me.1, cJa cJ (bd 3) 30 me.2.1, cIa cI (bd 4) 30 me.2.2.1, cZa cZ (bd 5) 6 mo.1, cZa cZ (bd 6) 6 mo.2.1, cZa cZ (bd 7) 2 ms.1, cIa cI (bd 8) 2 ms.2.1, cZa cZ (bd 9) 2 ms.2.2.1, cIa cI (bd 10) 2 ms.2.2.2.1, cIa cI (bd 11) 2 ms.2.2.2.2.1, cZa cZ (bd 12) 2 ms.2.2.2.2.2.1, cJa cJ (bd 13) 6 ms.2.2.2.2.2.2, cJa cJ (bd 14) 16 mo.2.2.1] (fun _ : Unit => some (.int (fM_turn k mc mw mp me mo ms))) (fun _ : Unit => [cMd bd k mc mw me mo, cIa cI (bd 1) 128 mp, cZa cZ (bd 2) 30 me.1, cJa cJ (bd 3) 30 me.2.1, cIa cI (bd 4) 30 me.2.2.1, cZa cZ (bd 5) 6 mo.1, cZa cZ (bd 6) 6 mo.2.1, cZa cZ (bd 7) 2 ms.1, cIa cI (bd 8) 2 ms.2.1, cZa cZ (bd 9) 2 ms.2.2.1, cIa cI (bd 10) 2 ms.2.2.2.1, cIa cI (bd 11) 2 ms.2.2.2.2.1, cZa cZ (bd 12) 2 ms.2.2.2.2.2.1, cJa cJ (bd 13) 6 ms.2.2.2.2.2.2, cJa cJ (bd 14) 16 mo.2.2.1]) 0 0 := by
  refine k_go (by decide +kernel) (Nat.le_of_ble_eq_true rfl) ?_
  intro p e s m args below meth c A ls H hx hb hr hml hts hown hlk hnm hK hN hT hA hS hP hD hl
  have hown : s.vm.findClass "ToothWheelTimerModel" = some m.cls := hown
  have hlk : meth.locks = false := hlk
  have hl : lv_has ls 1 [(0, .ref (bd 0))] := hl
  refine lv_aload_n hx hb dM_turn_0 rfl (lv_at hl 0 rfl) ?_
  refine gfM_158 hx hb hts hown hN hK hP 0 rfl (v := .int mw.2.2.2.2.1) rfl dM_turn_1 ?_
  refine lv_iconst (v := (3 : Int32)) hx hb dM_turn_4 (by decide) ?_
  refine lv_icmp_ne (tgt := 15) hx hb dM_turn_5 (by decide) (fun h1 => ?_) (fun h1 => ?_)
  · -- taken at 5
    refine lv_iconst (v := (-1 : Int32)) hx hb dM_turn_15 (by decide) ?_
    exact k_iret hx hb hr hlk hP hD hS dM_turn_16 () (by simp only [fM_turn, if_neg h1]) rfl
  · -- not taken at 5
    refine lv_aload_n hx hb dM_turn_8 rfl (lv_at hl 0 rfl) ?_
    refine gfM_7 hx hb hts hown hN hK hP 0 rfl (v := .int mw.2.2.2.2.2.2.1) rfl dM_turn_9 ?_
    refine lv_goto (tgt := 16) hx hb dM_turn_12 (by decide) ?_
    exact k_iret hx hb hr hlk hP hD hS dM_turn_16 () (by simp only [fM_turn, if_pos h1]) rfl

def fM_unit (k : Nat) (mc : McT) (mw : MwT) (mp : MpT) (me : MeT) (mo : MoT) (ms : MsT) : Int64 :=
  mw.2.2.2.1
set_option maxRecDepth 100000 in
set_option maxHeartbeats 4000000 in
theorem ctM_unit (l : Launch) (D : va_G) (cZ cI cJ : ClassId) (tL tH : Nat) (sz : Nat) (bd : Nat → Nat) (k : Nat) (mc : McT) (mw : MwT) (mp : MpT) (me : MeT) (mo : MoT) (ms : MsT)  (hk : 0 < k ∧ k ≤ 6) : Ct l yM_unit wM_unit ({ frames := 0, cells := 0, slots := 0, locals := 0 }) D (tyG cZ cI cJ) tL tH [.ref (bd 0)] sz [cMd bd k mc mw me mo, cIa cI (bd 1) 128 mp, cZa cZ (bd 2) 30 me.1, cJa cJ (bd 3) 30 me.2.1, cIa cI (bd 4) 30 me.2.2.1, cZa cZ (bd 5) 6 mo.1, cZa cZ (bd 6) 6 mo.2.1, cZa cZ (bd 7) 2 ms.1, cIa cI (bd 8) 2 ms.2.1, cZa cZ (bd 9) 2 ms.2.2.1, cIa cI (bd 10) 2 ms.2.2.2.1, cIa cI (bd 11) 2 ms.2.2.2.2.1, cZa cZ (bd 12) 2 ms.2.2.2.2.2.1, cJa cJ (bd 13) 6 ms.2.2.2.2.2.2, cJa cJ (bd 14) 16 mo.2.2.1] (fun _ : Unit => some (.long (fM_unit k mc mw mp me mo ms))) (fun _ : Unit => [cMd bd k mc mw me mo, cIa cI (bd 1) 128 mp, cZa cZ (bd 2) 30 me.1, cJa cJ (bd 3) 30 me.2.1, cIa cI (bd 4) 30 me.2.2.1, cZa cZ (bd 5) 6 mo.1, cZa cZ (bd 6) 6 mo.2.1, cZa cZ (bd 7) 2 ms.1, cIa cI (bd 8) 2 ms.2.1, cZa cZ (bd 9) 2 ms.2.2.1, cIa cI (bd 10) 2 ms.2.2.2.1, cIa cI (bd 11) 2 ms.2.2.2.2.1, cZa cZ (bd 12) 2 ms.2.2.2.2.2.1, cJa cJ (bd 13) 6 ms.2.2.2.2.2.2, cJa cJ (bd 14) 16 mo.2.2.1]) 0 0 := by
  refine k_go (by decide +kernel) (Nat.le_of_ble_eq_true rfl) ?_
  intro p e s m args below meth c A ls H hx hb hr hml hts hown hlk hnm hK hN hT hA hS hP hD hl
  have hown : s.vm.findClass "ToothWheelTimerModel" = some m.cls := hown
  have hlk : meth.locks = false := hlk
  have hl : lv_has ls 1 [(0, .ref (bd 0))] := hl
  refine lv_aload_n hx hb dM_unit_0 rfl (lv_at hl 0 rfl) ?_
  refine gfM_86 hx hb hts hown hN hK hP 0 rfl (v := .long mw.2.2.2.1) rfl dM_unit_1 ?_
  exact k_lret hx hb hr hlk hP hD hS dM_unit_4 () rfl rfl

def fM_foretell (k : Nat) (mc : McT) (mw : MwT) (mp : MpT) (me : MeT) (mo : MoT) (ms : MsT) (an : Int32) : Int64 :=
  if mw.2.2.2.2.1 = (3 : Int32) then
    if mw.2.2.2.2.2.2.1 < 0 then
      (-1 : Int64)
    else
      let q3 := fM_in an (0 : Int32) (mc.2.2.2 - (1 : Int32))
      if q3 = 0 then
        (-1 : Int64)
      else
        let q5 := fM_far k mc mw mp me mo ms an
        mw.2.2.1 + ((q5.toInt64 * mw.2.2.2.1) / (64 : Int64))
  else
    (-1 : Int64)
set_option maxRecDepth 100000 in
set_option maxHeartbeats 4000000 in
theorem ctM_foretell (l : Launch) (D : va_G) (cZ cI cJ : ClassId) (tL tH : Nat) (sz : Nat) (bd : Nat → Nat) (k : Nat) (mc : McT) (mw : MwT) (mp : MpT) (me : MeT) (mo : MoT) (ms : MsT) (an : Int32)  (hk : 0 < k ∧ k ≤ 6) : Ct l yM_foretell wM_foretell ({ frames := 2, cells := 0, slots := 0, locals := 43 }) D (tyG cZ cI cJ) tL tH [.ref (bd 0), .int an] sz [cMd bd k mc mw me mo, cIa cI (bd 1) 128 mp, cZa cZ (bd 2) 30 me.1, cJa cJ (bd 3) 30 me.2.1, cIa cI (bd 4) 30 me.2.2.1, cZa cZ (bd 5) 6 mo.1, cZa cZ (bd 6) 6 mo.2.1, cZa cZ (bd 7) 2 ms.1, cIa cI (bd 8) 2 ms.2.1, cZa cZ (bd 9) 2 ms.2.2.1, cIa cI (bd 10) 2 ms.2.2.2.1, cIa cI (bd 11) 2 ms.2.2.2.2.1, cZa cZ (bd 12) 2 ms.2.2.2.2.2.1, cJa cJ (bd 13) 6 ms.2.2.2.2.2.2, cJa cJ (bd 14) 16 mo.2.2.1] (fun _ : Unit => some (.long (fM_foretell k mc mw mp me mo ms an))) (fun _ : Unit => [cMd bd k mc mw me mo, cIa cI (bd 1) 128 mp, cZa cZ (bd 2) 30 me.1, cJa cJ (bd 3) 30 me.2.1, cIa cI (bd 4) 30 me.2.2.1, cZa cZ (bd 5) 6 mo.1, cZa cZ (bd 6) 6 mo.2.1, cZa cZ (bd 7) 2 ms.1, cIa cI (bd 8) 2 ms.2.1, cZa cZ (bd 9) 2 ms.2.2.1, cIa cI (bd 10) 2 ms.2.2.2.1, cIa cI (bd 11) 2 ms.2.2.2.2.1, cZa cZ (bd 12) 2 ms.2.2.2.2.2.1, cJa cJ (bd 13) 6 ms.2.2.2.2.2.2, cJa cJ (bd 14) 16 mo.2.2.1]) 0 0 := by
  refine k_go (by decide +kernel) (Nat.le_of_ble_eq_true rfl) ?_
  intro p e s m args below meth c A ls H hx hb hr hml hts hown hlk hnm hK hN hT hA hS hP hD hl
  have hown : s.vm.findClass "ToothWheelTimerModel" = some m.cls := hown
  have hlk : meth.locks = false := hlk
  have hl : lv_has ls 3 [(0, .ref (bd 0)), (1, .int an)] := hl
  refine lv_aload_n hx hb dM_foretell_0 rfl (lv_at hl 0 rfl) ?_
  refine gfM_158 hx hb hts hown hN hK hP 0 rfl (v := .int mw.2.2.2.2.1) rfl dM_foretell_1 ?_
  refine lv_iconst (v := (3 : Int32)) hx hb dM_foretell_4 (by decide) ?_
  refine lv_icmp_ne (tgt := 29) hx hb dM_foretell_5 (by decide) (fun h1 => ?_) (fun h1 => ?_)
  · -- taken at 5
    refine lv_ldc2 (v := (-1 : Int64)) hx hb hown (hts _ (wg wd_675 rfl)) dM_foretell_29 ?_
    exact k_lret hx hb hr hlk hP hD hS dM_foretell_32 () (by simp only [fM_foretell, if_neg h1]) rfl
  · -- not taken at 5
    refine lv_aload_n hx hb dM_foretell_8 rfl (lv_at hl 0 rfl) ?_
    refine gfM_7 hx hb hts hown hN hK hP 0 rfl (v := .int mw.2.2.2.2.2.2.1) rfl dM_foretell_9 ?_
    refine lv_if_lt (tgt := 29) hx hb dM_foretell_12 (by decide) (fun h2 => ?_) (fun h2 => ?_)
    · -- taken at 12
      refine lv_ldc2 (v := (-1 : Int64)) hx hb hown (hts _ (wg wd_675 rfl)) dM_foretell_29 ?_
      exact k_lret hx hb hr hlk hP hD hS dM_foretell_32 () (by simp only [fM_foretell, if_pos h1, if_pos h2]) rfl
    · -- not taken at 12
      refine lv_iload_n hx hb dM_foretell_15 rfl (lv_at hl 1 rfl) ?_
      refine lv_iconst (v := (0 : Int32)) hx hb dM_foretell_16 (by decide) ?_
      refine lv_aload_n hx hb dM_foretell_17 rfl (lv_at hl 0 rfl) ?_
      refine gfM_65 hx hb hts hown hN hK hP 0 rfl (v := .int mc.2.2.2) rfl dM_foretell_18 ?_
      refine lv_iconst (v := (1 : Int32)) hx hb dM_foretell_21 (by decide) ?_
      refine lv_isub hx hb dM_foretell_22 ?_
      refine k_ca0 (wc := []) (wr := [cMd bd k mc mw me mo, cIa cI (bd 1) 128 mp, cZa cZ (bd 2) 30 me.1, cJa cJ (bd 3) 30 me.2.1, cIa cI (bd 4) 30 me.2.2.1, cZa cZ (bd 5) 6 mo.1, cZa cZ (bd 6) 6 mo.2.1, cZa cZ (bd 7) 2 ms.1, cIa cI (bd 8) 2 ms.2.1, cZa cZ (bd 9) 2 ms.2.2.1, cIa cI (bd 10) 2 ms.2.2.2.1, cIa cI (bd 11) 2 ms.2.2.2.2.1, cZa cZ (bd 12) 2 ms.2.2.2.2.2.1, cJa cJ (bd 13) 6 ms.2.2.2.2.2.2, cJa cJ (bd 14) 16 mo.2.2.1]) (va_runS (As := [.int an, .int (0 : Int32), .int (mc.2.2.2 - (1 : Int32))]) (rest := []) ⟨hx, hb, hml, hown, hts⟩ (ctM_in l D cZ cI cJ tL tH H.size an (0 : Int32) (mc.2.2.2 - (1 : Int32))) (cwM_78 hts hN rfl rfl ⟨Nat.le_of_ble_eq_true rfl, Nat.le_of_ble_eq_true rfl⟩) (k_pre hK hN hT hA hS hP hD [] rfl (by decide)) rfl rfl hl.1 rfl (lv_room (Nat.le_of_ble_eq_true rfl)) dM_foretell_23 ⟨Nat.zero_le _, Nat.zero_le _⟩) hP hD hS hA [] [0, 1, 2, 3, 4, 5, 6, 7, 8, 9, 10, 11, 12, 13, 14] rfl rfl (by decide) (by decide) (fun _ H locs hP hD hS => ?_)
      refine W.eq (g2 := F0 m 26 ls [.int (fM_in an (0 : Int32) (mc.2.2.2 - (1 : Int32)))]) rfl ?_
      have hP : va_P D vwCl [cMd bd k mc mw me mo, cIa cI (bd 1) 128 mp, cZa cZ (bd 2) 30 me.1, cJa cJ (bd 3) 30 me.2.1, cIa cI (bd 4) 30 me.2.2.1, cZa cZ (bd 5) 6 mo.1, cZa cZ (bd 6) 6 mo.2.1, cZa cZ (bd 7) 2 ms.1, cIa cI (bd 8) 2 ms.2.1, cZa cZ (bd 9) 2 ms.2.2.1, cIa cI (bd 10) 2 ms.2.2.2.1, cIa cI (bd 11) 2 ms.2.2.2.2.1, cZa cZ (bd 12) 2 ms.2.2.2.2.2.1, cJa cJ (bd 13) 6 ms.2.2.2.2.2.2, cJa cJ (bd 14) 16 mo.2.2.1] H := hP
      have hD : va_D A [cMd bd k mc mw me mo, cIa cI (bd 1) 128 mp, cZa cZ (bd 2) 30 me.1, cJa cJ (bd 3) 30 me.2.1, cIa cI (bd 4) 30 me.2.2.1, cZa cZ (bd 5) 6 mo.1, cZa cZ (bd 6) 6 mo.2.1, cZa cZ (bd 7) 2 ms.1, cIa cI (bd 8) 2 ms.2.1, cZa cZ (bd 9) 2 ms.2.2.1, cIa cI (bd 10) 2 ms.2.2.2.1, cIa cI (bd 11) 2 ms.2.2.2.2.1, cZa cZ (bd 12) 2 ms.2.2.2.2.2.1, cJa cJ (bd 13) 6 ms.2.2.2.2.2.2, cJa cJ (bd 14) 16 mo.2.2.1] := hD
      generalize hq3 : fM_in an (0 : Int32) (mc.2.2.2 - (1 : Int32)) = q3 at ⊢
      refine lv_if_ne (tgt := 33) hx hb dM_foretell_26 (by decide) (fun h4 => ?_) (fun h4 => ?_)
      · -- taken at 26
        refine lv_aload_n hx hb dM_foretell_33 rfl (lv_at hl 0 rfl) ?_
        refine lv_iload_n hx hb dM_foretell_34 rfl (lv_at hl 1 rfl) ?_
        refine k_ca0 (wc := [cMd bd k mc mw me mo, cIa cI (bd 1) 128 mp, cZa cZ (bd 2) 30 me.1, cJa cJ (bd 3) 30 me.2.1, cIa cI (bd 4) 30 me.2.2.1, cZa cZ (bd 5) 6 mo.1, cZa cZ (bd 6) 6 mo.2.1, cZa cZ (bd 7) 2 ms.1, cIa cI (bd 8) 2 ms.2.1, cZa cZ (bd 9) 2 ms.2.2.1, cIa cI (bd 10) 2 ms.2.2.2.1, cIa cI (bd 11) 2 ms.2.2.2.2.1, cZa cZ (bd 12) 2 ms.2.2.2.2.2.1, cJa cJ (bd 13) 6 ms.2.2.2.2.2.2, cJa cJ (bd 14) 16 mo.2.2.1]) (wr := []) (va_runV (As := [.int an]) (rest := []) ⟨hx, hb, hml, hown, hts⟩ (ctM_far l D cZ cI cJ tL tH H.size bd k mc mw mp me mo ms an hk) (cwM_197 hts hN rfl rfl ⟨Nat.le_of_ble_eq_true rfl, Nat.le_of_ble_eq_true rfl⟩) (k_preV hK hN hT hA hS hP hD [0, 1, 2, 3, 4, 5, 6, 7, 8, 9, 10, 11, 12, 13, 14] rfl (by decide) 0 rfl rfl) rfl rfl hl.1 rfl (lv_room (Nat.le_of_ble_eq_true rfl)) dM_foretell_35 ⟨Nat.zero_le _, Nat.zero_le _⟩) hP hD hS hA [0, 1, 2, 3, 4, 5, 6, 7, 8, 9, 10, 11, 12, 13, 14] [] rfl rfl (by decide) (by decide) (fun _ H locs hP hD hS => ?_)
        refine W.eq (g2 := F0 m 38 ls [.int (fM_far k mc mw mp me mo ms an)]) rfl ?_
        have hP : va_P D vwCl [cMd bd k mc mw me mo, cIa cI (bd 1) 128 mp, cZa cZ (bd 2) 30 me.1, cJa cJ (bd 3) 30 me.2.1, cIa cI (bd 4) 30 me.2.2.1, cZa cZ (bd 5) 6 mo.1, cZa cZ (bd 6) 6 mo.2.1, cZa cZ (bd 7) 2 ms.1, cIa cI (bd 8) 2 ms.2.1, cZa cZ (bd 9) 2 ms.2.2.1, cIa cI (bd 10) 2 ms.2.2.2.1, cIa cI (bd 11) 2 ms.2.2.2.2.1, cZa cZ (bd 12) 2 ms.2.2.2.2.2.1, cJa cJ (bd 13) 6 ms.2.2.2.2.2.2, cJa cJ (bd 14) 16 mo.2.2.1] H := hP
        have hD : va_D A [cMd bd k mc mw me mo, cIa cI (bd 1) 128 mp, cZa cZ (bd 2) 30 me.1, cJa cJ (bd 3) 30 me.2.1, cIa cI (bd 4) 30 me.2.2.1, cZa cZ (bd 5) 6 mo.1, cZa cZ (bd 6) 6 mo.2.1, cZa cZ (bd 7) 2 ms.1, cIa cI (bd 8) 2 ms.2.1, cZa cZ (bd 9) 2 ms.2.2.1, cIa cI (bd 10) 2 ms.2.2.2.1, cIa cI (bd 11) 2 ms.2.2.2.2.1, cZa cZ (bd 12) 2 ms.2.2.2.2.2.1, cJa cJ (bd 13) 6 ms.2.2.2.2.2.2, cJa cJ (bd 14) 16 mo.2.2.1] := hD
        generalize hq5 : fM_far k mc mw mp me mo ms an = q5 at ⊢
        refine lv_istore_n (lv' := [(2, .int q5), (0, .ref (bd 0)), (1, .int an)]) hx hb dM_foretell_38 rfl hl (by decide) rfl (fun ls hl => ?_)
        refine lv_aload_n hx hb dM_foretell_39 rfl (lv_at hl 1 rfl) ?_
        refine gfM_145 hx hb hts hown hN hK hP 0 rfl (v := .long mw.2.2.1) rfl dM_foretell_40 ?_
        refine lv_iload_n hx hb dM_foretell_43 rfl (lv_at hl 0 rfl) ?_
        refine lv_i2l hx hb dM_foretell_44 rfl ?_
        refine lv_aload_n hx hb dM_foretell_45 rfl (lv_at hl 1 rfl) ?_
        refine gfM_86 hx hb hts hown hN hK hP 0 rfl (v := .long mw.2.2.2.1) rfl dM_foretell_46 ?_
        refine lv_lmul hx hb dM_foretell_49 ?_
        refine lv_ldc2 (v := (64 : Int64)) hx hb hown (hts _ (wg wd_756 rfl)) dM_foretell_50 ?_
        refine lv_ldiv hx hb dM_foretell_53 (by decide) ?_
        refine lv_ladd hx hb dM_foretell_54 ?_
        exact k_lret hx hb hr hlk hP hD hS dM_foretell_55 () (by simp only [fM_foretell, if_pos h1, if_neg h2, hq3, if_neg h4, hq5]) rfl
      · -- not taken at 26
        refine lv_ldc2 (v := (-1 : Int64)) hx hb hown (hts _ (wg wd_675 rfl)) dM_foretell_29 ?_
        exact k_lret hx hb hr hlk hP hD hS dM_foretell_32 () (by simp only [fM_foretell, if_pos h1, if_neg h2, hq3, if_pos h4]) rfl

def fM_output (k : Nat) (mc : McT) (mw : MwT) (mp : MpT) (me : MeT) (mo : MoT) (ms : MsT) (i : Int32) : Int64 :=
  let q1 := fM_in i (0 : Int32) (15 : Int32)
  if q1 = 0 then
    (-1 : Int64)
  else
    if mo.2.2.2.1 ≤ i then
      (-1 : Int64)
    else
      mo.2.2.1 i.toNatClampNeg
set_option maxRecDepth 100000 in
set_option maxHeartbeats 4000000 in
theorem ctM_output (l : Launch) (D : va_G) (cZ cI cJ : ClassId) (tL tH : Nat) (sz : Nat) (bd : Nat → Nat) (k : Nat) (mc : McT) (mw : MwT) (mp : MpT) (me : MeT) (mo : MoT) (ms : MsT) (i : Int32)  (hk : 0 < k ∧ k ≤ 6) : Ct l yM_output wM_output ({ frames := 1, cells := 0, slots := 0, locals := 22 }) D (tyG cZ cI cJ) tL tH [.ref (bd 0), .int i] sz [cMd bd k mc mw me mo, cIa cI (bd 1) 128 mp, cZa cZ (bd 2) 30 me.1, cJa cJ (bd 3) 30 me.2.1, cIa cI (bd 4) 30 me.2.2.1, cZa cZ (bd 5) 6 mo.1, cZa cZ (bd 6) 6 mo.2.1, cZa cZ (bd 7) 2 ms.1, cIa cI (bd 8) 2 ms.2.1, cZa cZ (bd 9) 2 ms.2.2.1, cIa cI (bd 10) 2 ms.2.2.2.1, cIa cI (bd 11) 2 ms.2.2.2.2.1, cZa cZ (bd 12) 2 ms.2.2.2.2.2.1, cJa cJ (bd 13) 6 ms.2.2.2.2.2.2, cJa cJ (bd 14) 16 mo.2.2.1] (fun _ : Unit => some (.long (fM_output k mc mw mp me mo ms i))) (fun _ : Unit => [cMd bd k mc mw me mo, cIa cI (bd 1) 128 mp, cZa cZ (bd 2) 30 me.1, cJa cJ (bd 3) 30 me.2.1, cIa cI (bd 4) 30 me.2.2.1, cZa cZ (bd 5) 6 mo.1, cZa cZ (bd 6) 6 mo.2.1, cZa cZ (bd 7) 2 ms.1, cIa cI (bd 8) 2 ms.2.1, cZa cZ (bd 9) 2 ms.2.2.1, cIa cI (bd 10) 2 ms.2.2.2.1, cIa cI (bd 11) 2 ms.2.2.2.2.1, cZa cZ (bd 12) 2 ms.2.2.2.2.2.1, cJa cJ (bd 13) 6 ms.2.2.2.2.2.2, cJa cJ (bd 14) 16 mo.2.2.1]) 0 0 := by
  refine k_go (by decide +kernel) (Nat.le_of_ble_eq_true rfl) ?_
  intro p e s m args below meth c A ls H hx hb hr hml hts hown hlk hnm hK hN hT hA hS hP hD hl
  have hown : s.vm.findClass "ToothWheelTimerModel" = some m.cls := hown
  have hlk : meth.locks = false := hlk
  have hl : lv_has ls 2 [(0, .ref (bd 0)), (1, .int i)] := hl
  refine lv_iload_n hx hb dM_output_0 rfl (lv_at hl 1 rfl) ?_
  refine lv_iconst (v := (0 : Int32)) hx hb dM_output_1 (by decide) ?_
  refine lv_bipush (v := (15 : Int32)) hx hb dM_output_2 (by decide) ?_
  refine k_ca0 (wc := []) (wr := [cMd bd k mc mw me mo, cIa cI (bd 1) 128 mp, cZa cZ (bd 2) 30 me.1, cJa cJ (bd 3) 30 me.2.1, cIa cI (bd 4) 30 me.2.2.1, cZa cZ (bd 5) 6 mo.1, cZa cZ (bd 6) 6 mo.2.1, cZa cZ (bd 7) 2 ms.1, cIa cI (bd 8) 2 ms.2.1, cZa cZ (bd 9) 2 ms.2.2.1, cIa cI (bd 10) 2 ms.2.2.2.1, cIa cI (bd 11) 2 ms.2.2.2.2.1, cZa cZ (bd 12) 2 ms.2.2.2.2.2.1, cJa cJ (bd 13) 6 ms.2.2.2.2.2.2, cJa cJ (bd 14) 16 mo.2.2.1]) (va_runS (As := [.int i, .int (0 : Int32), .int (15 : Int32)]) (rest := []) ⟨hx, hb, hml, hown, hts⟩ (ctM_in l D cZ cI cJ tL tH H.size i (0 : Int32) (15 : Int32)) (cwM_78 hts hN rfl rfl ⟨Nat.le_of_ble_eq_true rfl, Nat.le_of_ble_eq_true rfl⟩) (k_pre hK hN hT hA hS hP hD [] rfl (by decide)) rfl rfl hl.1 rfl (lv_room (Nat.le_of_ble_eq_true rfl)) dM_output_4 ⟨Nat.zero_le _, Nat.zero_le _⟩) hP hD hS hA [] [0, 1, 2, 3, 4, 5, 6, 7, 8, 9, 10, 11, 12, 13, 14] rfl rfl (by decide) (by decide) (fun _ H locs hP hD hS => ?_)
  refine W.eq (g2 := F0 m 7 ls [.int (fM_in i (0 : Int32) (15 : Int32))]) rfl ?_
  have hP : va_P D vwCl [cMd bd k mc mw me mo, cIa cI (bd 1) 128 mp, cZa cZ (bd 2) 30 me.1, cJa cJ (bd 3) 30 me.2.1, cIa cI (bd 4) 30 me.2.2.1, cZa cZ (bd 5) 6 mo.1, cZa cZ (bd 6) 6 mo.2.1, cZa cZ (bd 7) 2 ms.1, cIa cI (bd 8) 2 ms.2.1, cZa cZ (bd 9) 2 ms.2.2.1, cIa cI (bd 10) 2 ms.2.2.2.1, cIa cI (bd 11) 2 ms.2.2.2.2.1, cZa cZ (bd 12) 2 ms.2.2.2.2.2.1, cJa cJ (bd 13) 6 ms.2.2.2.2.2.2, cJa cJ (bd 14) 16 mo.2.2.1] H := hP
  have hD : va_D A [cMd bd k mc mw me mo, cIa cI (bd 1) 128 mp, cZa cZ (bd 2) 30 me.1, cJa cJ (bd 3) 30 me.2.1, cIa cI (bd 4) 30 me.2.2.1, cZa cZ (bd 5) 6 mo.1, cZa cZ (bd 6) 6 mo.2.1, cZa cZ (bd 7) 2 ms.1, cIa cI (bd 8) 2 ms.2.1, cZa cZ (bd 9) 2 ms.2.2.1, cIa cI (bd 10) 2 ms.2.2.2.1, cIa cI (bd 11) 2 ms.2.2.2.2.1, cZa cZ (bd 12) 2 ms.2.2.2.2.2.1, cJa cJ (bd 13) 6 ms.2.2.2.2.2.2, cJa cJ (bd 14) 16 mo.2.2.1] := hD
  generalize hq1 : fM_in i (0 : Int32) (15 : Int32) = q1 at ⊢
  refine lv_if_eq (tgt := 27) hx hb dM_output_7 (by decide) (fun h2 => ?_) (fun h2 => ?_)
  · -- taken at 7
    refine lv_ldc2 (v := (-1 : Int64)) hx hb hown (hts _ (wg wd_675 rfl)) dM_output_27 ?_
    exact k_lret hx hb hr hlk hP hD hS dM_output_30 () (by simp only [fM_output, hq1, if_pos h2]) rfl
  · -- not taken at 7
    refine lv_iload_n hx hb dM_output_10 rfl (lv_at hl 1 rfl) ?_
    refine lv_aload_n hx hb dM_output_11 rfl (lv_at hl 0 rfl) ?_
    refine gfM_121 hx hb hts hown hN hK hP 0 rfl (v := .int mo.2.2.2.1) rfl dM_output_12 ?_
    refine lv_icmp_ge (tgt := 27) hx hb dM_output_15 (by decide) (fun h3 => ?_) (fun h3 => ?_)
    · -- taken at 15
      refine lv_ldc2 (v := (-1 : Int64)) hx hb hown (hts _ (wg wd_675 rfl)) dM_output_27 ?_
      exact k_lret hx hb hr hlk hP hD hS dM_output_30 () (by simp only [fM_output, hq1, if_neg h2, if_pos h3]) rfl
    · -- not taken at 15
      refine lv_aload_n hx hb dM_output_18 rfl (lv_at hl 0 rfl) ?_
      refine gfM_55 hx hb hts hown hN hK hP 0 rfl (v := .ref (bd 14)) rfl dM_output_19 ?_
      refine lv_iload_n hx hb dM_output_22 rfl (lv_at hl 1 rfl) ?_
      refine va_lald hx hb hK hP 14 2 rfl rfl (k_in16 hq1 h2) dM_output_23 ?_
      refine lv_goto (tgt := 30) hx hb dM_output_24 (by decide) ?_
      exact k_lret hx hb hr hlk hP hD hS dM_output_30 () (by simp only [fM_output, hq1, if_neg h2, if_neg h3]) rfl

def fM_tally (k : Nat) (mc : McT) (mw : MwT) (mp : MpT) (me : MeT) (mo : MoT) (ms : MsT) (i : Int32) : Int32 :=
  if i = 0 then
    mo.2.2.2.2.1
  else
    if i = (1 : Int32) then
      mo.2.2.2.2.2.1
    else
      if i = (2 : Int32) then
        mo.2.2.2.1
      else
        if i = (3 : Int32) then
          mo.2.2.2.2.2.2
        else
          (-1 : Int32)
set_option maxRecDepth 100000 in
set_option maxHeartbeats 4000000 in
theorem ctM_tally (l : Launch) (D : va_G) (cZ cI cJ : ClassId) (tL tH : Nat) (sz : Nat) (bd : Nat → Nat) (k : Nat) (mc : McT) (mw : MwT) (mp : MpT) (me : MeT) (mo : MoT) (ms : MsT) (i : Int32)  (hk : 0 < k ∧ k ≤ 6) : Ct l yM_tally wM_tally ({ frames := 0, cells := 0, slots := 0, locals := 0 }) D (tyG cZ cI cJ) tL tH [.ref (bd 0), .int i] sz [cMd bd k mc mw me mo, cIa cI (bd 1) 128 mp, cZa cZ (bd 2) 30 me.1, cJa cJ (bd 3) 30 me.2.1, cIa cI (bd 4) 30 me.2.2.1, cZa cZ (bd 5) 6 mo.1, cZa cZ (bd 6) 6 mo.2.1, cZa cZ (bd 7) 2 ms.1, cIa cI (bd 8) 2 ms.2.1, cZa cZ (bd 9) 2 ms.2.2.1, cIa cI (bd 10) 2 ms.2.2.2.1, cIa cI (bd 11) 2 ms.2.2.2.2.1, cZa cZ (bd 12) 2 ms.2.2.2.2.2.1, cJa cJ (bd 13) 6 ms.2.2.2.2.2.2, cJa cJ (bd 14) 16 mo.2.2.1] (fun _ : Unit => some (.int (fM_tally k mc mw mp me mo ms i))) (fun _ : Unit => [cMd bd k mc mw me mo, cIa cI (bd 1) 128 mp, cZa cZ (bd 2) 30 me.1, cJa cJ (bd 3) 30 me.2.1, cIa cI (bd 4) 30 me.2.2.1, cZa cZ (bd 5) 6 mo.1, cZa cZ (bd 6) 6 mo.2.1, cZa cZ (bd 7) 2 ms.1, cIa cI (bd 8) 2 ms.2.1, cZa cZ (bd 9) 2 ms.2.2.1, cIa cI (bd 10) 2 ms.2.2.2.1, cIa cI (bd 11) 2 ms.2.2.2.2.1, cZa cZ (bd 12) 2 ms.2.2.2.2.2.1, cJa cJ (bd 13) 6 ms.2.2.2.2.2.2, cJa cJ (bd 14) 16 mo.2.2.1]) 0 0 := by
  refine k_go (by decide +kernel) (Nat.le_of_ble_eq_true rfl) ?_
  intro p e s m args below meth c A ls H hx hb hr hml hts hown hlk hnm hK hN hT hA hS hP hD hl
  have hown : s.vm.findClass "ToothWheelTimerModel" = some m.cls := hown
  have hlk : meth.locks = false := hlk
  have hl : lv_has ls 2 [(0, .ref (bd 0)), (1, .int i)] := hl
  refine lv_iload_n hx hb dM_tally_0 rfl (lv_at hl 1 rfl) ?_
  refine lv_if_ne (tgt := 11) hx hb dM_tally_1 (by decide) (fun h1 => ?_) (fun h1 => ?_)
  · -- taken at 1
    refine lv_iload_n hx hb dM_tally_11 rfl (lv_at hl 1 rfl) ?_
    refine lv_iconst (v := (1 : Int32)) hx hb dM_tally_12 (by decide) ?_
    refine lv_icmp_ne (tgt := 23) hx hb dM_tally_13 (by decide) (fun h2 => ?_) (fun h2 => ?_)
    · -- taken at 13
      refine lv_iload_n hx hb dM_tally_23 rfl (lv_at hl 1 rfl) ?_
      refine lv_iconst (v := (2 : Int32)) hx hb dM_tally_24 (by decide) ?_
      refine lv_icmp_ne (tgt := 35) hx hb dM_tally_25 (by decide) (fun h3 => ?_) (fun h3 => ?_)
      · -- taken at 25
        refine lv_iload_n hx hb dM_tally_35 rfl (lv_at hl 1 rfl) ?_
        refine lv_iconst (v := (3 : Int32)) hx hb dM_tally_36 (by decide) ?_
        refine lv_icmp_ne (tgt := 47) hx hb dM_tally_37 (by decide) (fun h4 => ?_) (fun h4 => ?_)
        · -- taken at 37
          refine lv_iconst (v := (-1 : Int32)) hx hb dM_tally_47 (by decide) ?_
          exact k_iret hx hb hr hlk hP hD hS dM_tally_48 () (by simp only [fM_tally, if_neg h1, if_neg h2, if_neg h3, if_neg h4]) rfl
        · -- not taken at 37
          refine lv_aload_n hx hb dM_tally_40 rfl (lv_at hl 0 rfl) ?_
          refine gfM_168 hx hb hts hown hN hK hP 0 rfl (v := .int mo.2.2.2.2.2.2) rfl dM_tally_41 ?_
          refine lv_goto (tgt := 48) hx hb dM_tally_44 (by decide) ?_
          exact k_iret hx hb hr hlk hP hD hS dM_tally_48 () (by simp only [fM_tally, if_neg h1, if_neg h2, if_neg h3, if_pos h4]) rfl
      · -- not taken at 25
        refine lv_aload_n hx hb dM_tally_28 rfl (lv_at hl 0 rfl) ?_
        refine gfM_121 hx hb hts hown hN hK hP 0 rfl (v := .int mo.2.2.2.1) rfl dM_tally_29 ?_
        refine lv_goto (tgt := 48) hx hb dM_tally_32 (by decide) ?_
        exact k_iret hx hb hr hlk hP hD hS dM_tally_48 () (by simp only [fM_tally, if_neg h1, if_neg h2, if_pos h3]) rfl
    · -- not taken at 13
      refine lv_aload_n hx hb dM_tally_16 rfl (lv_at hl 0 rfl) ?_
      refine gfM_135 hx hb hts hown hN hK hP 0 rfl (v := .int mo.2.2.2.2.2.1) rfl dM_tally_17 ?_
      refine lv_goto (tgt := 48) hx hb dM_tally_20 (by decide) ?_
      exact k_iret hx hb hr hlk hP hD hS dM_tally_48 () (by simp only [fM_tally, if_neg h1, if_pos h2]) rfl
  · -- not taken at 1
    refine lv_aload_n hx hb dM_tally_4 rfl (lv_at hl 0 rfl) ?_
    refine gfM_132 hx hb hts hown hN hK hP 0 rfl (v := .int mo.2.2.2.2.1) rfl dM_tally_5 ?_
    refine lv_goto (tgt := 48) hx hb dM_tally_8 (by decide) ?_
    exact k_iret hx hb hr hlk hP hD hS dM_tally_48 () (by simp only [fM_tally, if_pos h1]) rfl

def fM_waiting_l (k : Nat) (mc : McT) (mw : MwT) (mp : MpT) (me : MeT) (mo : MoT) (ms : MsT)  : Nat → Nat → Int32 → Int32
  | 0, i, n =>
    n
  | fuel + 1, i, n =>
    if (me.1 i) = 0 then
      fM_waiting_l k mc mw mp me mo ms  fuel (i + 1) n
    else
      fM_waiting_l k mc mw mp me mo ms  fuel (i + 1) (n + (1 : Int32))
def fM_waiting (k : Nat) (mc : McT) (mw : MwT) (mp : MpT) (me : MeT) (mo : MoT) (ms : MsT) : Int32 :=
  fM_waiting_l k mc mw mp me mo ms  30 0 (0 : Int32)
set_option maxRecDepth 100000 in
set_option maxHeartbeats 4000000 in
theorem ctM_waiting (l : Launch) (D : va_G) (cZ cI cJ : ClassId) (tL tH : Nat) (sz : Nat) (bd : Nat → Nat) (k : Nat) (mc : McT) (mw : MwT) (mp : MpT) (me : MeT) (mo : MoT) (ms : MsT)  (hk : 0 < k ∧ k ≤ 6) : Ct l yM_waiting wM_waiting ({ frames := 0, cells := 0, slots := 0, locals := 0 }) D (tyG cZ cI cJ) tL tH [.ref (bd 0)] sz [cMd bd k mc mw me mo, cIa cI (bd 1) 128 mp, cZa cZ (bd 2) 30 me.1, cJa cJ (bd 3) 30 me.2.1, cIa cI (bd 4) 30 me.2.2.1, cZa cZ (bd 5) 6 mo.1, cZa cZ (bd 6) 6 mo.2.1, cZa cZ (bd 7) 2 ms.1, cIa cI (bd 8) 2 ms.2.1, cZa cZ (bd 9) 2 ms.2.2.1, cIa cI (bd 10) 2 ms.2.2.2.1, cIa cI (bd 11) 2 ms.2.2.2.2.1, cZa cZ (bd 12) 2 ms.2.2.2.2.2.1, cJa cJ (bd 13) 6 ms.2.2.2.2.2.2, cJa cJ (bd 14) 16 mo.2.2.1] (fun _ : Unit => some (.int (fM_waiting k mc mw mp me mo ms))) (fun _ : Unit => [cMd bd k mc mw me mo, cIa cI (bd 1) 128 mp, cZa cZ (bd 2) 30 me.1, cJa cJ (bd 3) 30 me.2.1, cIa cI (bd 4) 30 me.2.2.1, cZa cZ (bd 5) 6 mo.1, cZa cZ (bd 6) 6 mo.2.1, cZa cZ (bd 7) 2 ms.1, cIa cI (bd 8) 2 ms.2.1, cZa cZ (bd 9) 2 ms.2.2.1, cIa cI (bd 10) 2 ms.2.2.2.1, cIa cI (bd 11) 2 ms.2.2.2.2.1, cZa cZ (bd 12) 2 ms.2.2.2.2.2.1, cJa cJ (bd 13) 6 ms.2.2.2.2.2.2, cJa cJ (bd 14) 16 mo.2.2.1]) 0 0 := by
  refine k_go (by decide +kernel) (Nat.le_of_ble_eq_true rfl) ?_
  intro p e s m args below meth c A ls H hx hb hr hml hts hown hlk hnm hK hN hT hA hS hP hD hl
  have hown : s.vm.findClass "ToothWheelTimerModel" = some m.cls := hown
  have hlk : meth.locks = false := hlk
  have hl : lv_has ls 3 [(0, .ref (bd 0))] := hl
  refine lv_iconst (v := (0 : Int32)) hx hb dM_waiting_0 (by decide) ?_
  refine lv_istore_n (lv' := [(1, .int (0 : Int32)), (0, .ref (bd 0))]) hx hb dM_waiting_1 rfl hl (by decide) rfl (fun ls hl => ?_)
  refine lv_iconst (v := (0 : Int32)) hx hb dM_waiting_2 (by decide) ?_
  refine lv_istore_n (lv' := [(2, .int (0 : Int32)), (1, .int (0 : Int32)), (0, .ref (bd 0))]) hx hb dM_waiting_3 rfl hl (by decide) rfl (fun ls hl => ?_)
  have hl := lv_sub (l' := [(2, .int (0 : Int32)), (1, .int (0 : Int32)), (0, .ref (bd 0))]) hl [0, 1, 2] rfl
  have LOOP4 : ∀ (fuel : Nat) (i : Nat) (n : Int32) , ∀ (ls : Array Slot) (H : Heap) (locs : List Loc), fuel + i = 30 → fM_waiting k mc mw mp me mo ms = fM_waiting_l k mc mw mp me mo ms  fuel i n  → lv_has ls 3 [(2, .int (nI i)), (1, .int n), (0, .ref (bd 0))] → va_P D vwCl [cMd bd k mc mw me mo, cIa cI (bd 1) 128 mp, cZa cZ (bd 2) 30 me.1, cJa cJ (bd 3) 30 me.2.1, cIa cI (bd 4) 30 me.2.2.1, cZa cZ (bd 5) 6 mo.1, cZa cZ (bd 6) 6 mo.2.1, cZa cZ (bd 7) 2 ms.1, cIa cI (bd 8) 2 ms.2.1, cZa cZ (bd 9) 2 ms.2.2.1, cIa cI (bd 10) 2 ms.2.2.2.1, cIa cI (bd 11) 2 ms.2.2.2.2.1, cZa cZ (bd 12) 2 ms.2.2.2.2.2.1, cJa cJ (bd 13) 6 ms.2.2.2.2.2.2, cJa cJ (bd 14) 16 mo.2.2.1] H → va_D A [cMd bd k mc mw me mo, cIa cI (bd 1) 128 mp, cZa cZ (bd 2) 30 me.1, cJa cJ (bd 3) 30 me.2.1, cIa cI (bd 4) 30 me.2.2.1, cZa cZ (bd 5) 6 mo.1, cZa cZ (bd 6) 6 mo.2.1, cZa cZ (bd 7) 2 ms.1, cIa cI (bd 8) 2 ms.2.1, cZa cZ (bd 9) 2 ms.2.2.1, cIa cI (bd 10) 2 ms.2.2.2.1, cIa cI (bd 11) 2 ms.2.2.2.2.1, cZa cZ (bd 12) 2 ms.2.2.2.2.2.1, cJa cJ (bd 13) 6 ms.2.2.2.2.2.2, cJa cJ (bd 14) 16 mo.2.2.1] → va_S A s.heap H locs → W p l e { frames := 0, cells := 0, slots := 0, locals := 0 } s m args below meth c H locs 0 0 (MQ below (QX A D (fun _ : Unit => some (.int (fM_waiting k mc mw mp me mo ms))) (fun _ : Unit => [cMd bd k mc mw me mo, cIa cI (bd 1) 128 mp, cZa cZ (bd 2) 30 me.1, cJa cJ (bd 3) 30 me.2.1, cIa cI (bd 4) 30 me.2.2.1, cZa cZ (bd 5) 6 mo.1, cZa cZ (bd 6) 6 mo.2.1, cZa cZ (bd 7) 2 ms.1, cIa cI (bd 8) 2 ms.2.1, cZa cZ (bd 9) 2 ms.2.2.1, cIa cI (bd 10) 2 ms.2.2.2.1, cIa cI (bd 11) 2 ms.2.2.2.2.1, cZa cZ (bd 12) 2 ms.2.2.2.2.2.1, cJa cJ (bd 13) 6 ms.2.2.2.2.2.2, cJa cJ (bd 14) 16 mo.2.2.1])) args s 0 0 A) (F0 m 4 ls []) := by
    intro fuel
    induction fuel with
    | zero =>
      intro i n   ls H locs hm hres hl hP hD hS
      refine lv_iload_n hx hb dM_waiting_4 rfl (lv_at hl 0 rfl) ?_
      refine lv_bipush (v := (30 : Int32)) hx hb dM_waiting_5 (by decide) ?_
      refine lv_icmp_ge (tgt := 33) hx hb dM_waiting_7 (by decide) (fun _ => ?_) (fun h0 => absurd (nI_le (a := 30) (b := i) (by omega) (by omega)) h0)
      refine lv_iload_n hx hb dM_waiting_33 rfl (lv_at hl 1 rfl) ?_
      exact k_iret hx hb hr hlk hP hD hS dM_waiting_34 () (by simp only [hres, fM_waiting_l]) rfl
    | succ fuel ih =>
      intro i n   ls H locs hm hres hl hP hD hS
      refine lv_iload_n hx hb dM_waiting_4 rfl (lv_at hl 0 rfl) ?_
      refine lv_bipush (v := (30 : Int32)) hx hb dM_waiting_5 (by decide) ?_
      refine lv_icmp_ge (tgt := 33) hx hb dM_waiting_7 (by decide) (fun h0 => absurd h0 (nI_ge (a := i) (b := 30) (by omega) (by omega))) (fun _ => ?_)
      refine lv_aload_n hx hb dM_waiting_10 rfl (lv_at hl 2 rfl) ?_
      refine gfM_17 hx hb hts hown hN hK hP 0 rfl (v := .ref (bd 2)) rfl dM_waiting_11 ?_
      refine lv_iload_n hx hb dM_waiting_14 rfl (lv_at hl 0 rfl) ?_
      refine va_zald hx hb hK hP 2 0 rfl rfl (vp_in_nI (n := i) (N := 30) (by omega) (by omega)) dM_waiting_15 ?_
      refine W.eq (g2 := F0 m 16 ls [.int (me.1 i)]) (congrArg (fun z => F0 m 16 ls (.int (me.1 z) :: [])) (nI_clamp (n := i) (by omega))) ?_
      refine lv_if_eq (tgt := 25) hx hb dM_waiting_16 (by decide) (fun h1001 => ?_) (fun h1001 => ?_)
      · -- taken at 16
        refine lv_iload_n hx hb dM_waiting_25 rfl (lv_at hl 1 rfl) ?_
        refine lv_istore_n (lv' := [(1, .int n), (2, .int (nI i)), (0, .ref (bd 0))]) hx hb dM_waiting_26 rfl hl (by decide) rfl (fun ls hl => ?_)
        refine lv_iinc (k := 1) (v := nI (i + 1)) (lv' := [(2, .int (nI (i + 1))), (1, .int n), (0, .ref (bd 0))]) hx hb dM_waiting_27 hl rfl (nI_1 i) (by decide) rfl (fun ls hl => ?_)
        refine lv_goto (tgt := 4) hx hb dM_waiting_30 (by decide) ?_
        have hl := lv_sub (l' := [(2, .int (nI (i + 1))), (1, .int n), (0, .ref (bd 0))]) hl [0, 1, 2] rfl
        exact ih (i + 1) n  ls H _ (by omega) (by simp only [hres, fM_waiting_l, if_pos h1001]) hl hP hD hS
      · -- not taken at 16
        refine lv_iload_n hx hb dM_waiting_19 rfl (lv_at hl 1 rfl) ?_
        refine lv_iconst (v := (1 : Int32)) hx hb dM_waiting_20 (by decide) ?_
        refine lv_iadd hx hb dM_waiting_21 ?_
        refine lv_goto (tgt := 26) hx hb dM_waiting_22 (by decide) ?_
        refine lv_istore_n (lv' := [(1, .int (n + (1 : Int32))), (2, .int (nI i)), (0, .ref (bd 0))]) hx hb dM_waiting_26 rfl hl (by decide) rfl (fun ls hl => ?_)
        refine lv_iinc (k := 1) (v := nI (i + 1)) (lv' := [(2, .int (nI (i + 1))), (1, .int (n + (1 : Int32))), (0, .ref (bd 0))]) hx hb dM_waiting_27 hl rfl (nI_1 i) (by decide) rfl (fun ls hl => ?_)
        refine lv_goto (tgt := 4) hx hb dM_waiting_30 (by decide) ?_
        have hl := lv_sub (l' := [(2, .int (nI (i + 1))), (1, .int (n + (1 : Int32))), (0, .ref (bd 0))]) hl [0, 1, 2] rfl
        exact ih (i + 1) (n + (1 : Int32))  ls H _ (by omega) (by simp only [hres, fM_waiting_l, if_neg h1001]) hl hP hD hS
  exact LOOP4 30 0 (0 : Int32)  ls H _ (by omega) rfl hl hP hD hS

def fM_running_l (k : Nat) (mc : McT) (mw : MwT) (mp : MpT) (me : MeT) (mo : MoT) (ms : MsT)  : Nat → Nat → Int32 → Int32
  | 0, i, sum =>
    sum
  | fuel + 1, i, sum =>
    if (mo.1 i) = 0 then
      if (mo.2.1 i) = 0 then
        fM_running_l k mc mw mp me mo ms  fuel (i + 1) ((sum + (0 : Int32)) + (0 : Int32))
      else
        fM_running_l k mc mw mp me mo ms  fuel (i + 1) ((sum + (0 : Int32)) + ((256 : Int32) <<< ((nI i) &&& 31)))
    else
      if (mo.2.1 i) = 0 then
        fM_running_l k mc mw mp me mo ms  fuel (i + 1) ((sum + ((1 : Int32) <<< ((nI i) &&& 31))) + (0 : Int32))
      else
        fM_running_l k mc mw mp me mo ms  fuel (i + 1) ((sum + ((1 : Int32) <<< ((nI i) &&& 31))) + ((256 : Int32) <<< ((nI i) &&& 31)))
def fM_running (k : Nat) (mc : McT) (mw : MwT) (mp : MpT) (me : MeT) (mo : MoT) (ms : MsT) : Int32 :=
  fM_running_l k mc mw mp me mo ms  6 0 (0 : Int32)
set_option maxRecDepth 100000 in
set_option maxHeartbeats 4000000 in
theorem ctM_running (l : Launch) (D : va_G) (cZ cI cJ : ClassId) (tL tH : Nat) (sz : Nat) (bd : Nat → Nat) (k : Nat) (mc : McT) (mw : MwT) (mp : MpT) (me : MeT) (mo : MoT) (ms : MsT)  (hk : 0 < k ∧ k ≤ 6) : Ct l yM_running wM_running ({ frames := 0, cells := 0, slots := 0, locals := 0 }) D (tyG cZ cI cJ) tL tH [.ref (bd 0)] sz [cMd bd k mc mw me mo, cIa cI (bd 1) 128 mp, cZa cZ (bd 2) 30 me.1, cJa cJ (bd 3) 30 me.2.1, cIa cI (bd 4) 30 me.2.2.1, cZa cZ (bd 5) 6 mo.1, cZa cZ (bd 6) 6 mo.2.1, cZa cZ (bd 7) 2 ms.1, cIa cI (bd 8) 2 ms.2.1, cZa cZ (bd 9) 2 ms.2.2.1, cIa cI (bd 10) 2 ms.2.2.2.1, cIa cI (bd 11) 2 ms.2.2.2.2.1, cZa cZ (bd 12) 2 ms.2.2.2.2.2.1, cJa cJ (bd 13) 6 ms.2.2.2.2.2.2, cJa cJ (bd 14) 16 mo.2.2.1] (fun _ : Unit => some (.int (fM_running k mc mw mp me mo ms))) (fun _ : Unit => [cMd bd k mc mw me mo, cIa cI (bd 1) 128 mp, cZa cZ (bd 2) 30 me.1, cJa cJ (bd 3) 30 me.2.1, cIa cI (bd 4) 30 me.2.2.1, cZa cZ (bd 5) 6 mo.1, cZa cZ (bd 6) 6 mo.2.1, cZa cZ (bd 7) 2 ms.1, cIa cI (bd 8) 2 ms.2.1, cZa cZ (bd 9) 2 ms.2.2.1, cIa cI (bd 10) 2 ms.2.2.2.1, cIa cI (bd 11) 2 ms.2.2.2.2.1, cZa cZ (bd 12) 2 ms.2.2.2.2.2.1, cJa cJ (bd 13) 6 ms.2.2.2.2.2.2, cJa cJ (bd 14) 16 mo.2.2.1]) 0 0 := by
  refine k_go (by decide +kernel) (Nat.le_of_ble_eq_true rfl) ?_
  intro p e s m args below meth c A ls H hx hb hr hml hts hown hlk hnm hK hN hT hA hS hP hD hl
  have hown : s.vm.findClass "ToothWheelTimerModel" = some m.cls := hown
  have hlk : meth.locks = false := hlk
  have hl : lv_has ls 3 [(0, .ref (bd 0))] := hl
  refine lv_iconst (v := (0 : Int32)) hx hb dM_running_0 (by decide) ?_
  refine lv_istore_n (lv' := [(1, .int (0 : Int32)), (0, .ref (bd 0))]) hx hb dM_running_1 rfl hl (by decide) rfl (fun ls hl => ?_)
  refine lv_iconst (v := (0 : Int32)) hx hb dM_running_2 (by decide) ?_
  refine lv_istore_n (lv' := [(2, .int (0 : Int32)), (1, .int (0 : Int32)), (0, .ref (bd 0))]) hx hb dM_running_3 rfl hl (by decide) rfl (fun ls hl => ?_)
  have hl := lv_sub (l' := [(2, .int (0 : Int32)), (1, .int (0 : Int32)), (0, .ref (bd 0))]) hl [0, 1, 2] rfl
  have LOOP4 : ∀ (fuel : Nat) (i : Nat) (sum : Int32) , ∀ (ls : Array Slot) (H : Heap) (locs : List Loc), fuel + i = 6 → fM_running k mc mw mp me mo ms = fM_running_l k mc mw mp me mo ms  fuel i sum  → lv_has ls 3 [(2, .int (nI i)), (1, .int sum), (0, .ref (bd 0))] → va_P D vwCl [cMd bd k mc mw me mo, cIa cI (bd 1) 128 mp, cZa cZ (bd 2) 30 me.1, cJa cJ (bd 3) 30 me.2.1, cIa cI (bd 4) 30 me.2.2.1, cZa cZ (bd 5) 6 mo.1, cZa cZ (bd 6) 6 mo.2.1, cZa cZ (bd 7) 2 ms.1, cIa cI (bd 8) 2 ms.2.1, cZa cZ (bd 9) 2 ms.2.2.1, cIa cI (bd 10) 2 ms.2.2.2.1, cIa cI (bd 11) 2 ms.2.2.2.2.1, cZa cZ (bd 12) 2 ms.2.2.2.2.2.1, cJa cJ (bd 13) 6 ms.2.2.2.2.2.2, cJa cJ (bd 14) 16 mo.2.2.1] H → va_D A [cMd bd k mc mw me mo, cIa cI (bd 1) 128 mp, cZa cZ (bd 2) 30 me.1, cJa cJ (bd 3) 30 me.2.1, cIa cI (bd 4) 30 me.2.2.1, cZa cZ (bd 5) 6 mo.1, cZa cZ (bd 6) 6 mo.2.1, cZa cZ (bd 7) 2 ms.1, cIa cI (bd 8) 2 ms.2.1, cZa cZ (bd 9) 2 ms.2.2.1, cIa cI (bd 10) 2 ms.2.2.2.1, cIa cI (bd 11) 2 ms.2.2.2.2.1, cZa cZ (bd 12) 2 ms.2.2.2.2.2.1, cJa cJ (bd 13) 6 ms.2.2.2.2.2.2, cJa cJ (bd 14) 16 mo.2.2.1] → va_S A s.heap H locs → W p l e { frames := 0, cells := 0, slots := 0, locals := 0 } s m args below meth c H locs 0 0 (MQ below (QX A D (fun _ : Unit => some (.int (fM_running k mc mw mp me mo ms))) (fun _ : Unit => [cMd bd k mc mw me mo, cIa cI (bd 1) 128 mp, cZa cZ (bd 2) 30 me.1, cJa cJ (bd 3) 30 me.2.1, cIa cI (bd 4) 30 me.2.2.1, cZa cZ (bd 5) 6 mo.1, cZa cZ (bd 6) 6 mo.2.1, cZa cZ (bd 7) 2 ms.1, cIa cI (bd 8) 2 ms.2.1, cZa cZ (bd 9) 2 ms.2.2.1, cIa cI (bd 10) 2 ms.2.2.2.1, cIa cI (bd 11) 2 ms.2.2.2.2.1, cZa cZ (bd 12) 2 ms.2.2.2.2.2.1, cJa cJ (bd 13) 6 ms.2.2.2.2.2.2, cJa cJ (bd 14) 16 mo.2.2.1])) args s 0 0 A) (F0 m 4 ls []) := by
    intro fuel
    induction fuel with
    | zero =>
      intro i sum   ls H locs hm hres hl hP hD hS
      refine lv_iload_n hx hb dM_running_4 rfl (lv_at hl 0 rfl) ?_
      refine lv_bipush (v := (6 : Int32)) hx hb dM_running_5 (by decide) ?_
      refine lv_icmp_ge (tgt := 54) hx hb dM_running_7 (by decide) (fun _ => ?_) (fun h0 => absurd (nI_le (a := 6) (b := i) (by omega) (by omega)) h0)
      refine lv_iload_n hx hb dM_running_54 rfl (lv_at hl 1 rfl) ?_
      exact k_iret hx hb hr hlk hP hD hS dM_running_55 () (by simp only [hres, fM_running_l]) rfl
    | succ fuel ih =>
      intro i sum   ls H locs hm hres hl hP hD hS
      refine lv_iload_n hx hb dM_running_4 rfl (lv_at hl 0 rfl) ?_
      refine lv_bipush (v := (6 : Int32)) hx hb dM_running_5 (by decide) ?_
      refine lv_icmp_ge (tgt := 54) hx hb dM_running_7 (by decide) (fun h0 => absurd h0 (nI_ge (a := i) (b := 6) (by omega) (by omega))) (fun _ => ?_)
      refine lv_iload_n hx hb dM_running_10 rfl (lv_at hl 1 rfl) ?_
      refine lv_aload_n hx hb dM_running_11 rfl (lv_at hl 2 rfl) ?_
      refine gfM_28 hx hb hts hown hN hK hP 0 rfl (v := .ref (bd 5)) rfl dM_running_12 ?_
      refine lv_iload_n hx hb dM_running_15 rfl (lv_at hl 0 rfl) ?_
      refine va_zald hx hb hK hP 5 0 rfl rfl (vp_in_nI (n := i) (N := 6) (by omega) (by omega)) dM_running_16 ?_
      refine W.eq (g2 := F0 m 17 ls [.int (mo.1 i), .int sum]) (congrArg (fun z => F0 m 17 ls (.int (mo.1 z) :: [.int sum])) (nI_clamp (n := i) (by omega))) ?_
      refine lv_if_eq (tgt := 26) hx hb dM_running_17 (by decide) (fun h1001 => ?_) (fun h1001 => ?_)
      · -- taken at 17
        refine lv_iconst (v := (0 : Int32)) hx hb dM_running_26 (by decide) ?_
        refine lv_iadd hx hb dM_running_27 ?_
        refine lv_aload_n hx hb dM_running_28 rfl (lv_at hl 2 rfl) ?_
        refine gfM_31 hx hb hts hown hN hK hP 0 rfl (v := .ref (bd 6)) rfl dM_running_29 ?_
        refine lv_iload_n hx hb dM_running_32 rfl (lv_at hl 0 rfl) ?_
        refine va_zald hx hb hK hP 6 0 rfl rfl (vp_in_nI (n := i) (N := 6) (by omega) (by omega)) dM_running_33 ?_
        refine W.eq (g2 := F0 m 34 ls [.int (mo.2.1 i), .int (sum + (0 : Int32))]) (congrArg (fun z => F0 m 34 ls (.int (mo.2.1 z) :: [.int (sum + (0 : Int32))])) (nI_clamp (n := i) (by omega))) ?_
        refine lv_if_eq (tgt := 45) hx hb dM_running_34 (by decide) (fun h1002 => ?_) (fun h1002 => ?_)
        · -- taken at 34
          refine lv_iconst (v := (0 : Int32)) hx hb dM_running_45 (by decide) ?_
          refine lv_iadd hx hb dM_running_46 ?_
          refine lv_istore_n (lv' := [(1, .int ((sum + (0 : Int32)) + (0 : Int32))), (2, .int (nI i)), (0, .ref (bd 0))]) hx hb dM_running_47 rfl hl (by decide) rfl (fun ls hl => ?_)
          refine lv_iinc (k := 1) (v := nI (i + 1)) (lv' := [(2, .int (nI (i + 1))), (1, .int ((sum + (0 : Int32)) + (0 : Int32))), (0, .ref (bd 0))]) hx hb dM_running_48 hl rfl (nI_1 i) (by decide) rfl (fun ls hl => ?_)
          refine lv_goto (tgt := 4) hx hb dM_running_51 (by decide) ?_
          have hl := lv_sub (l' := [(2, .int (nI (i + 1))), (1, .int ((sum + (0 : Int32)) + (0 : Int32))), (0, .ref (bd 0))]) hl [0, 1, 2] rfl
          exact ih (i + 1) ((sum + (0 : Int32)) + (0 : Int32))  ls H _ (by omega) (by simp only [hres, fM_running_l, if_pos h1001, if_pos h1002]) hl hP hD hS
        · -- not taken at 34
          refine lv_sipush (v := (256 : Int32)) hx hb dM_running_37 (by decide) ?_
          refine lv_iload_n hx hb dM_running_40 rfl (lv_at hl 0 rfl) ?_
          refine lv_ishl hx hb dM_running_41 ?_
          refine lv_goto (tgt := 46) hx hb dM_running_42 (by decide) ?_
          refine lv_iadd hx hb dM_running_46 ?_
          refine lv_istore_n (lv' := [(1, .int ((sum + (0 : Int32)) + ((256 : Int32) <<< ((nI i) &&& 31)))), (2, .int (nI i)), (0, .ref (bd 0))]) hx hb dM_running_47 rfl hl (by decide) rfl (fun ls hl => ?_)
          refine lv_iinc (k := 1) (v := nI (i + 1)) (lv' := [(2, .int (nI (i + 1))), (1, .int ((sum + (0 : Int32)) + ((256 : Int32) <<< ((nI i) &&& 31)))), (0, .ref (bd 0))]) hx hb dM_running_48 hl rfl (nI_1 i) (by decide) rfl (fun ls hl => ?_)
          refine lv_goto (tgt := 4) hx hb dM_running_51 (by decide) ?_
          have hl := lv_sub (l' := [(2, .int (nI (i + 1))), (1, .int ((sum + (0 : Int32)) + ((256 : Int32) <<< ((nI i) &&& 31)))), (0, .ref (bd 0))]) hl [0, 1, 2] rfl
          exact ih (i + 1) ((sum + (0 : Int32)) + ((256 : Int32) <<< ((nI i) &&& 31)))  ls H _ (by omega) (by simp only [hres, fM_running_l, if_pos h1001, if_neg h1002]) hl hP hD hS
      · -- not taken at 17
        refine lv_iconst (v := (1 : Int32)) hx hb dM_running_20 (by decide) ?_
        refine lv_iload_n hx hb dM_running_21 rfl (lv_at hl 0 rfl) ?_
        refine lv_ishl hx hb dM_running_22 ?_
        refine lv_goto (tgt := 27) hx hb dM_running_23 (by decide) ?_
        refine lv_iadd hx hb dM_running_27 ?_
        refine lv_aload_n hx hb dM_running_28 rfl (lv_at hl 2 rfl) ?_
        refine gfM_31 hx hb hts hown hN hK hP 0 rfl (v := .ref (bd 6)) rfl dM_running_29 ?_
        refine lv_iload_n hx hb dM_running_32 rfl (lv_at hl 0 rfl) ?_
        refine va_zald hx hb hK hP 6 0 rfl rfl (vp_in_nI (n := i) (N := 6) (by omega) (by omega)) dM_running_33 ?_
        refine W.eq (g2 := F0 m 34 ls [.int (mo.2.1 i), .int (sum + ((1 : Int32) <<< ((nI i) &&& 31)))]) (congrArg (fun z => F0 m 34 ls (.int (mo.2.1 z) :: [.int (sum + ((1 : Int32) <<< ((nI i) &&& 31)))])) (nI_clamp (n := i) (by omega))) ?_
        refine lv_if_eq (tgt := 45) hx hb dM_running_34 (by decide) (fun h1003 => ?_) (fun h1003 => ?_)
        · -- taken at 34
          refine lv_iconst (v := (0 : Int32)) hx hb dM_running_45 (by decide) ?_
          refine lv_iadd hx hb dM_running_46 ?_
          refine lv_istore_n (lv' := [(1, .int ((sum + ((1 : Int32) <<< ((nI i) &&& 31))) + (0 : Int32))), (2, .int (nI i)), (0, .ref (bd 0))]) hx hb dM_running_47 rfl hl (by decide) rfl (fun ls hl => ?_)
          refine lv_iinc (k := 1) (v := nI (i + 1)) (lv' := [(2, .int (nI (i + 1))), (1, .int ((sum + ((1 : Int32) <<< ((nI i) &&& 31))) + (0 : Int32))), (0, .ref (bd 0))]) hx hb dM_running_48 hl rfl (nI_1 i) (by decide) rfl (fun ls hl => ?_)
          refine lv_goto (tgt := 4) hx hb dM_running_51 (by decide) ?_
          have hl := lv_sub (l' := [(2, .int (nI (i + 1))), (1, .int ((sum + ((1 : Int32) <<< ((nI i) &&& 31))) + (0 : Int32))), (0, .ref (bd 0))]) hl [0, 1, 2] rfl
          exact ih (i + 1) ((sum + ((1 : Int32) <<< ((nI i) &&& 31))) + (0 : Int32))  ls H _ (by omega) (by simp only [hres, fM_running_l, if_neg h1001, if_pos h1003]) hl hP hD hS
        · -- not taken at 34
          refine lv_sipush (v := (256 : Int32)) hx hb dM_running_37 (by decide) ?_
          refine lv_iload_n hx hb dM_running_40 rfl (lv_at hl 0 rfl) ?_
          refine lv_ishl hx hb dM_running_41 ?_
          refine lv_goto (tgt := 46) hx hb dM_running_42 (by decide) ?_
          refine lv_iadd hx hb dM_running_46 ?_
          refine lv_istore_n (lv' := [(1, .int ((sum + ((1 : Int32) <<< ((nI i) &&& 31))) + ((256 : Int32) <<< ((nI i) &&& 31)))), (2, .int (nI i)), (0, .ref (bd 0))]) hx hb dM_running_47 rfl hl (by decide) rfl (fun ls hl => ?_)
          refine lv_iinc (k := 1) (v := nI (i + 1)) (lv' := [(2, .int (nI (i + 1))), (1, .int ((sum + ((1 : Int32) <<< ((nI i) &&& 31))) + ((256 : Int32) <<< ((nI i) &&& 31)))), (0, .ref (bd 0))]) hx hb dM_running_48 hl rfl (nI_1 i) (by decide) rfl (fun ls hl => ?_)
          refine lv_goto (tgt := 4) hx hb dM_running_51 (by decide) ?_
          have hl := lv_sub (l' := [(2, .int (nI (i + 1))), (1, .int ((sum + ((1 : Int32) <<< ((nI i) &&& 31))) + ((256 : Int32) <<< ((nI i) &&& 31)))), (0, .ref (bd 0))]) hl [0, 1, 2] rfl
          exact ih (i + 1) ((sum + ((1 : Int32) <<< ((nI i) &&& 31))) + ((256 : Int32) <<< ((nI i) &&& 31)))  ls H _ (by omega) (by simp only [hres, fM_running_l, if_neg h1001, if_neg h1003]) hl hP hD hS
  exact LOOP4 6 0 (0 : Int32)  ls H _ (by omega) rfl hl hP hD hS

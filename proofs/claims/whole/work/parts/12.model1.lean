def fM_nextEvent_l (k : Nat) (mc : McT) (mw : MwT) (mp : MpT) (me : MeT) (mo : MoT) (ms : MsT)  : Nat → Nat → Int32 → Int32
  | 0, i, best =>
    best
  | fuel + 1, i, best =>
    if (me.1 i) = 0 then
      fM_nextEvent_l k mc mw mp me mo ms  fuel (i + 1) best
    else
      if best < 0 then
        fM_nextEvent_l k mc mw mp me mo ms  fuel (i + 1) (nI i)
      else
        if (me.2.1 i) < (me.2.1 best.toNatClampNeg) then
          fM_nextEvent_l k mc mw mp me mo ms  fuel (i + 1) (nI i)
        else
          if (me.2.1 i) = (me.2.1 best.toNatClampNeg) then
            if (me.2.2.1 best.toNatClampNeg) ≤ (me.2.2.1 i) then
              fM_nextEvent_l k mc mw mp me mo ms  fuel (i + 1) best
            else
              fM_nextEvent_l k mc mw mp me mo ms  fuel (i + 1) (nI i)
          else
            fM_nextEvent_l k mc mw mp me mo ms  fuel (i + 1) best
def fM_nextEvent (k : Nat) (mc : McT) (mw : MwT) (mp : MpT) (me : MeT) (mo : MoT) (ms : MsT) : Int32 :=
  fM_nextEvent_l k mc mw mp me mo ms  30 0 (-1 : Int32)
set_option maxRecDepth 100000 in
set_option maxHeartbeats 4000000 in
theorem ctM_nextEvent (l : Launch) (D : va_G) (cZ cI cJ : ClassId) (tL tH : Nat) (sz : Nat) (bd : Nat → Nat) (k : Nat) (mc : McT) (mw : MwT) (mp : MpT) (me : MeT) (mo : MoT) (ms : MsT)  (hk : 0 < k ∧ k ≤ 6) : Ct l yM_nextEvent wM_nextEvent ({ frames := 0, cells := 0, slots := 0, locals := 0 }) D (tyG cZ cI cJ) tL tH [.ref (bd 0)] sz [cMd bd k mc mw me mo, cIa cI (bd 1) 128 mp, cZa cZ (bd 2) 30 me.1, cJa cJ (bd 3) 30 me.2.1, cIa cI (bd 4) 30 me.2.2.1, cZa cZ (bd 5) 6 mo.1, cZa cZ (bd 6) 6 mo.2.1, cZa cZ (bd 7) 2 ms.1, cIa cI (bd 8) 2 ms.2.1, cZa cZ (bd 9) 2 ms.2.2.1, cIa cI (bd 10) 2 ms.2.2.2.1, cIa cI (bd 11) 2 ms.2.2.2.2.1, cZa cZ (bd 12) 2 ms.2.2.2.2.2.1, cJa cJ (bd 13) 6 ms.2.2.2.2.2.2, cJa cJ (bd 14) 16 mo.2.2.1] (fun _ : Unit => some (.int (fM_nextEvent k mc mw mp me mo ms))) (fun _ : Unit => [cMd bd k mc mw me mo, cIa cI (bd 1) 128 mp, cZa cZ (bd 2) 30 me.1, cJa cJ (bd 3) 30 me.2.1, cIa cI (bd 4) 30 me.2.2.1, cZa cZ (bd 5) 6 mo.1, cZa cZ (bd 6) 6 mo.2.1, cZa cZ (bd 7) 2 ms.1, cIa cI (bd 8) 2 ms.2.1, cZa cZ (bd 9) 2 ms.2.2.1, cIa cI (bd 10) 2 ms.2.2.2.1, cIa cI (bd 11) 2 ms.2.2.2.2.1, cZa cZ (bd 12) 2 ms.2.2.2.2.2.1, cJa cJ (bd 13) 6 ms.2.2.2.2.2.2, cJa cJ (bd 14) 16 mo.2.2.1]) 0 0 := by
  refine k_go (by decide +kernel) (Nat.le_of_ble_eq_true rfl) ?_
  intro p e s m args below meth c A ls H hx hb hr hml hts hown hlk hnm hK hN hT hA hS hP hD hl
  have hown : s.vm.findClass "ToothWheelTimerModel" = some m.cls := hown
  have hlk : meth.locks = false := hlk
  have hl : lv_has ls 3 [(0, .ref (bd 0))] := hl
  refine lv_iconst (v := (-1 : Int32)) hx hb dM_nextEvent_0 (by decide) ?_
  refine lv_istore_n (lv' := [(1, .int (-1 : Int32)), (0, .ref (bd 0))]) hx hb dM_nextEvent_1 rfl hl (by decide) rfl (fun ls hl => ?_)
  refine lv_iconst (v := (0 : Int32)) hx hb dM_nextEvent_2 (by decide) ?_
  refine lv_istore_n (lv' := [(2, .int (0 : Int32)), (1, .int (-1 : Int32)), (0, .ref (bd 0))]) hx hb dM_nextEvent_3 rfl hl (by decide) rfl (fun ls hl => ?_)
  have hl := lv_sub (l' := [(2, .int (0 : Int32)), (1, .int (-1 : Int32)), (0, .ref (bd 0))]) hl [0, 1, 2] rfl
  have LOOP4 : ∀ (fuel : Nat) (i : Nat) (best : Int32) , ∀ (hbi : best = (-1 : Int32) ∨ vp_in best 30), ∀ (ls : Array Slot) (H : Heap) (locs : List Loc), fuel + i = 30 → fM_nextEvent k mc mw mp me mo ms = fM_nextEvent_l k mc mw mp me mo ms  fuel i best  → lv_has ls 3 [(2, .int (nI i)), (1, .int best), (0, .ref (bd 0))] → va_P D vwCl [cMd bd k mc mw me mo, cIa cI (bd 1) 128 mp, cZa cZ (bd 2) 30 me.1, cJa cJ (bd 3) 30 me.2.1, cIa cI (bd 4) 30 me.2.2.1, cZa cZ (bd 5) 6 mo.1, cZa cZ (bd 6) 6 mo.2.1, cZa cZ (bd 7) 2 ms.1, cIa cI (bd 8) 2 ms.2.1, cZa cZ (bd 9) 2 ms.2.2.1, cIa cI (bd 10) 2 ms.2.2.2.1, cIa cI (bd 11) 2 ms.2.2.2.2.1, cZa cZ (bd 12) 2 ms.2.2.2.2.2.1, cJa cJ (bd 13) 6 ms.2.2.2.2.2.2, cJa cJ (bd 14) 16 mo.2.2.1] H → va_D A [cMd bd k mc mw me mo, cIa cI (bd 1) 128 mp, cZa cZ (bd 2) 30 me.1, cJa cJ (bd 3) 30 me.2.1, cIa cI (bd 4) 30 me.2.2.1, cZa cZ (bd 5) 6 mo.1, cZa cZ (bd 6) 6 mo.2.1, cZa cZ (bd 7) 2 ms.1, cIa cI (bd 8) 2 ms.2.1, cZa cZ (bd 9) 2 ms.2.2.1, cIa cI (bd 10) 2 ms.2.2.2.1, cIa cI (bd 11) 2 ms.2.2.2.2.1, cZa cZ (bd 12) 2 ms.2.2.2.2.2.1, cJa cJ (bd 13) 6 ms.2.2.2.2.2.2, cJa cJ (bd 14) 16 mo.2.2.1] → va_S A s.heap H locs → W p l e { frames := 0, cells := 0, slots := 0, locals := 0 } s m args below meth c H locs 0 0 (MQ below (QX A D (fun _ : Unit => some (.int (fM_nextEvent k mc mw mp me mo ms))) (fun _ : Unit => [cMd bd k mc mw me mo, cIa cI (bd 1) 128 mp, cZa cZ (bd 2) 30 me.1, cJa cJ (bd 3) 30 me.2.1, cIa cI (bd 4) 30 me.2.2.1, cZa cZ (bd 5) 6 mo.1, cZa cZ (bd 6) 6 mo.2.1, cZa cZ (bd 7) 2 ms.1, cIa cI (bd 8) 2 ms.2.1, cZa cZ (bd 9) 2 ms.2.2.1, cIa cI (bd 10) 2 ms.2.2.2.1, cIa cI (bd 11) 2 ms.2.2.2.2.1, cZa cZ (bd 12) 2 ms.2.2.2.2.2.1, cJa cJ (bd 13) 6 ms.2.2.2.2.2.2, cJa cJ (bd 14) 16 mo.2.2.1])) args s 0 0 A) (F0 m 4 ls []) := by
    intro fuel
    induction fuel with
    | zero =>
      intro i best  hbi ls H locs hm hres hl hP hD hS
      refine lv_iload_n hx hb dM_nextEvent_4 rfl (lv_at hl 0 rfl) ?_
      refine lv_bipush (v := (30 : Int32)) hx hb dM_nextEvent_5 (by decide) ?_
      refine lv_icmp_ge (tgt := 78) hx hb dM_nextEvent_7 (by decide) (fun _ => ?_) (fun h0 => absurd (nI_le (a := 30) (b := i) (by omega) (by omega)) h0)
      refine lv_iload_n hx hb dM_nextEvent_78 rfl (lv_at hl 1 rfl) ?_
      exact k_iret hx hb hr hlk hP hD hS dM_nextEvent_79 () (by simp only [hres, fM_nextEvent_l]) rfl
    | succ fuel ih =>
      intro i best  hbi ls H locs hm hres hl hP hD hS
      refine lv_iload_n hx hb dM_nextEvent_4 rfl (lv_at hl 0 rfl) ?_
      refine lv_bipush (v := (30 : Int32)) hx hb dM_nextEvent_5 (by decide) ?_
      refine lv_icmp_ge (tgt := 78) hx hb dM_nextEvent_7 (by decide) (fun h0 => absurd h0 (nI_ge (a := i) (b := 30) (by omega) (by omega))) (fun _ => ?_)
      refine lv_aload_n hx hb dM_nextEvent_10 rfl (lv_at hl 2 rfl) ?_
      refine gfM_17 hx hb hts hown hN hK hP 0 rfl (v := .ref (bd 2)) rfl dM_nextEvent_11 ?_
      refine lv_iload_n hx hb dM_nextEvent_14 rfl (lv_at hl 0 rfl) ?_
      refine va_zald hx hb hK hP 2 0 rfl rfl (vp_in_nI (n := i) (N := 30) (by omega) (by omega)) dM_nextEvent_15 ?_
      refine W.eq (g2 := F0 m 16 ls [.int (me.1 i)]) (congrArg (fun z => F0 m 16 ls (.int (me.1 z) :: [])) (nI_clamp (n := i) (by omega))) ?_
      refine lv_if_eq (tgt := 72) hx hb dM_nextEvent_16 (by decide) (fun h1001 => ?_) (fun h1001 => ?_)
      · -- taken at 16
        refine lv_iinc (k := 0) (v := nI (i + 1)) (lv' := [(2, .int (nI (i + 1))), (1, .int best), (0, .ref (bd 0))]) hx hb dM_nextEvent_72 hl rfl (nI_1 i) (by decide) rfl (fun ls hl => ?_)
        refine lv_goto (tgt := 4) hx hb dM_nextEvent_75 (by decide) ?_
        have hl := lv_sub (l' := [(2, .int (nI (i + 1))), (1, .int best), (0, .ref (bd 0))]) hl [0, 1, 2] rfl
        exact ih (i + 1) best hbi ls H _ (by omega) (by simp only [hres, fM_nextEvent_l, if_pos h1001]) hl hP hD hS
      · -- not taken at 16
        refine lv_iload_n hx hb dM_nextEvent_19 rfl (lv_at hl 1 rfl) ?_
        refine lv_if_lt (tgt := 70) hx hb dM_nextEvent_20 (by decide) (fun h1002 => ?_) (fun h1002 => ?_)
        · -- taken at 20
          refine lv_iload_n hx hb dM_nextEvent_70 rfl (lv_at hl 0 rfl) ?_
          refine lv_istore_n (lv' := [(1, .int (nI i)), (2, .int (nI i)), (0, .ref (bd 0))]) hx hb dM_nextEvent_71 rfl hl (by decide) rfl (fun ls hl => ?_)
          refine lv_iinc (k := 1) (v := nI (i + 1)) (lv' := [(2, .int (nI (i + 1))), (1, .int (nI i)), (0, .ref (bd 0))]) hx hb dM_nextEvent_72 hl rfl (nI_1 i) (by decide) rfl (fun ls hl => ?_)
          refine lv_goto (tgt := 4) hx hb dM_nextEvent_75 (by decide) ?_
          have hl := lv_sub (l' := [(2, .int (nI (i + 1))), (1, .int (nI i)), (0, .ref (bd 0))]) hl [0, 1, 2] rfl
          exact ih (i + 1) (nI i) (Or.inr (vp_in_nI (n := i) (N := 30) (by omega) (by omega))) ls H _ (by omega) (by simp only [hres, fM_nextEvent_l, if_neg h1001, if_pos h1002]) hl hP hD hS
        · -- not taken at 20
          refine lv_aload_n hx hb dM_nextEvent_23 rfl (lv_at hl 2 rfl) ?_
          refine gfM_21 hx hb hts hown hN hK hP 0 rfl (v := .ref (bd 3)) rfl dM_nextEvent_24 ?_
          refine lv_iload_n hx hb dM_nextEvent_27 rfl (lv_at hl 0 rfl) ?_
          refine va_lald hx hb hK hP 3 2 rfl rfl (vp_in_nI (n := i) (N := 30) (by omega) (by omega)) dM_nextEvent_28 ?_
          refine W.eq (g2 := F0 m 29 ls [.long (me.2.1 i)]) (congrArg (fun z => F0 m 29 ls (.long (me.2.1 z) :: [])) (nI_clamp (n := i) (by omega))) ?_
          refine lv_aload_n hx hb dM_nextEvent_29 rfl (lv_at hl 2 rfl) ?_
          refine gfM_21 hx hb hts hown hN hK hP 0 rfl (v := .ref (bd 3)) rfl dM_nextEvent_30 ?_
          refine lv_iload_n hx hb dM_nextEvent_33 rfl (lv_at hl 1 rfl) ?_
          refine va_lald hx hb hK hP 3 2 rfl rfl (hbi.resolve_left (k_neg1 h1002)) dM_nextEvent_34 ?_
          refine k_lc_lt (tgt := 70) hx hb dM_nextEvent_35 dM_nextEvent_36 (by decide) (fun h1003 => ?_) (fun h1003 => ?_)
          · -- taken at 35
            refine lv_iload_n hx hb dM_nextEvent_70 rfl (lv_at hl 0 rfl) ?_
            refine lv_istore_n (lv' := [(1, .int (nI i)), (2, .int (nI i)), (0, .ref (bd 0))]) hx hb dM_nextEvent_71 rfl hl (by decide) rfl (fun ls hl => ?_)
            refine lv_iinc (k := 1) (v := nI (i + 1)) (lv' := [(2, .int (nI (i + 1))), (1, .int (nI i)), (0, .ref (bd 0))]) hx hb dM_nextEvent_72 hl rfl (nI_1 i) (by decide) rfl (fun ls hl => ?_)
            refine lv_goto (tgt := 4) hx hb dM_nextEvent_75 (by decide) ?_
            have hl := lv_sub (l' := [(2, .int (nI (i + 1))), (1, .int (nI i)), (0, .ref (bd 0))]) hl [0, 1, 2] rfl
            exact ih (i + 1) (nI i) (Or.inr (vp_in_nI (n := i) (N := 30) (by omega) (by omega))) ls H _ (by omega) (by simp only [hres, fM_nextEvent_l, if_neg h1001, if_neg h1002, if_pos h1003]) hl hP hD hS
          · -- not taken at 35
            refine lv_aload_n hx hb dM_nextEvent_39 rfl (lv_at hl 2 rfl) ?_
            refine gfM_21 hx hb hts hown hN hK hP 0 rfl (v := .ref (bd 3)) rfl dM_nextEvent_40 ?_
            refine lv_iload_n hx hb dM_nextEvent_43 rfl (lv_at hl 0 rfl) ?_
            refine va_lald hx hb hK hP 3 2 rfl rfl (vp_in_nI (n := i) (N := 30) (by omega) (by omega)) dM_nextEvent_44 ?_
            refine W.eq (g2 := F0 m 45 ls [.long (me.2.1 i)]) (congrArg (fun z => F0 m 45 ls (.long (me.2.1 z) :: [])) (nI_clamp (n := i) (by omega))) ?_
            refine lv_aload_n hx hb dM_nextEvent_45 rfl (lv_at hl 2 rfl) ?_
            refine gfM_21 hx hb hts hown hN hK hP 0 rfl (v := .ref (bd 3)) rfl dM_nextEvent_46 ?_
            refine lv_iload_n hx hb dM_nextEvent_49 rfl (lv_at hl 1 rfl) ?_
            refine va_lald hx hb hK hP 3 2 rfl rfl (hbi.resolve_left (k_neg1 h1002)) dM_nextEvent_50 ?_
            refine k_lc_ne (tgt := 72) hx hb dM_nextEvent_51 dM_nextEvent_52 (by decide) (fun h1004 => ?_) (fun h1004 => ?_)
            · -- taken at 51
              refine lv_iinc (k := 0) (v := nI (i + 1)) (lv' := [(2, .int (nI (i + 1))), (1, .int best), (0, .ref (bd 0))]) hx hb dM_nextEvent_72 hl rfl (nI_1 i) (by decide) rfl (fun ls hl => ?_)
              refine lv_goto (tgt := 4) hx hb dM_nextEvent_75 (by decide) ?_
              have hl := lv_sub (l' := [(2, .int (nI (i + 1))), (1, .int best), (0, .ref (bd 0))]) hl [0, 1, 2] rfl
              exact ih (i + 1) best hbi ls H _ (by omega) (by simp only [hres, fM_nextEvent_l, if_neg h1001, if_neg h1002, if_neg h1003, if_neg h1004]) hl hP hD hS
            · -- not taken at 51
              refine lv_aload_n hx hb dM_nextEvent_55 rfl (lv_at hl 2 rfl) ?_
              refine gfM_25 hx hb hts hown hN hK hP 0 rfl (v := .ref (bd 4)) rfl dM_nextEvent_56 ?_
              refine lv_iload_n hx hb dM_nextEvent_59 rfl (lv_at hl 0 rfl) ?_
              refine va_iald hx hb hK hP 4 1 rfl rfl (vp_in_nI (n := i) (N := 30) (by omega) (by omega)) dM_nextEvent_60 ?_
              refine W.eq (g2 := F0 m 61 ls [.int (me.2.2.1 i)]) (congrArg (fun z => F0 m 61 ls (.int (me.2.2.1 z) :: [])) (nI_clamp (n := i) (by omega))) ?_
              refine lv_aload_n hx hb dM_nextEvent_61 rfl (lv_at hl 2 rfl) ?_
              refine gfM_25 hx hb hts hown hN hK hP 0 rfl (v := .ref (bd 4)) rfl dM_nextEvent_62 ?_
              refine lv_iload_n hx hb dM_nextEvent_65 rfl (lv_at hl 1 rfl) ?_
              refine va_iald hx hb hK hP 4 1 rfl rfl (hbi.resolve_left (k_neg1 h1002)) dM_nextEvent_66 ?_
              refine lv_icmp_ge (tgt := 72) hx hb dM_nextEvent_67 (by decide) (fun h1005 => ?_) (fun h1005 => ?_)
              · -- taken at 67
                refine lv_iinc (k := 0) (v := nI (i + 1)) (lv' := [(2, .int (nI (i + 1))), (1, .int best), (0, .ref (bd 0))]) hx hb dM_nextEvent_72 hl rfl (nI_1 i) (by decide) rfl (fun ls hl => ?_)
                refine lv_goto (tgt := 4) hx hb dM_nextEvent_75 (by decide) ?_
                have hl := lv_sub (l' := [(2, .int (nI (i + 1))), (1, .int best), (0, .ref (bd 0))]) hl [0, 1, 2] rfl
                exact ih (i + 1) best hbi ls H _ (by omega) (by simp only [hres, fM_nextEvent_l, if_neg h1001, if_neg h1002, if_neg h1003, if_pos h1004, if_pos h1005]) hl hP hD hS
              · -- not taken at 67
                refine lv_iload_n hx hb dM_nextEvent_70 rfl (lv_at hl 0 rfl) ?_
                refine lv_istore_n (lv' := [(1, .int (nI i)), (2, .int (nI i)), (0, .ref (bd 0))]) hx hb dM_nextEvent_71 rfl hl (by decide) rfl (fun ls hl => ?_)
                refine lv_iinc (k := 1) (v := nI (i + 1)) (lv' := [(2, .int (nI (i + 1))), (1, .int (nI i)), (0, .ref (bd 0))]) hx hb dM_nextEvent_72 hl rfl (nI_1 i) (by decide) rfl (fun ls hl => ?_)
                refine lv_goto (tgt := 4) hx hb dM_nextEvent_75 (by decide) ?_
                have hl := lv_sub (l' := [(2, .int (nI (i + 1))), (1, .int (nI i)), (0, .ref (bd 0))]) hl [0, 1, 2] rfl
                exact ih (i + 1) (nI i) (Or.inr (vp_in_nI (n := i) (N := 30) (by omega) (by omega))) ls H _ (by omega) (by simp only [hres, fM_nextEvent_l, if_neg h1001, if_neg h1002, if_neg h1003, if_pos h1004, if_neg h1005]) hl hP hD hS
  exact LOOP4 30 0 (-1 : Int32) (Or.inl rfl) ls H _ (by omega) rfl hl hP hD hS

theorem k_nein_l {k : Nat} (mc : McT) (mw : MwT) (mp : MpT) (me : MeT) (mo : MoT) (ms : MsT) : ∀ (fuel i : Nat) (best : Int32), fuel + i = 30 → (best = (-1 : Int32) ∨ vp_in best 30) → (fM_nextEvent_l k mc mw mp me mo ms fuel i best = (-1 : Int32) ∨ vp_in (fM_nextEvent_l k mc mw mp me mo ms fuel i best) 30) := by
  intro fuel
  induction fuel with
  | zero =>
    intro i best _ h
    unfold fM_nextEvent_l
    exact h
  | succ n ih =>
    intro i best hm h
    have hi : vp_in (nI i) 30 := vp_in_nI (by omega) (by omega)
    unfold fM_nextEvent_l
    try dsimp only
    repeat' split
    all_goals first | exact ih _ _ (by omega) h | exact ih _ _ (by omega) (Or.inr hi)
theorem k_nein {k : Nat} {mc : McT} {mw : MwT} {mp : MpT} {me : MeT} {mo : MoT} {ms : MsT} {q : Int32} (hq : fM_nextEvent k mc mw mp me mo ms = q) : q = (-1 : Int32) ∨ vp_in q 30 := by
  subst hq
  unfold fM_nextEvent
  exact k_nein_l mc mw mp me mo ms _ _ _ (by omega) (Or.inl rfl)
def fM_switched_l (k : Nat) (mc : McT) (mw : MwT) (mp : MpT) (me : MeT) (ms : MsT) (isI : Int32) (cy : Nat) (on : Int32) : Nat → Nat → MoT → MoT
  | 0, j, mo1 =>
    if isI = 0 then
      if on = 0 then
        (upd mo1.1 cy on, mo1.2.1, vp_updL mo1.2.2.1 0 ((((mw.1 * (32 : Int64)) + (0 : Int64)) + ((nI (2 * cy)).toInt64)) + (0 : Int64)), mo1.2.2.2.1 + (1 : Int32), mo1.2.2.2.2.1, mo1.2.2.2.2.2.1, mo1.2.2.2.2.2.2)
      else
        (upd mo1.1 cy on, mo1.2.1, vp_updL mo1.2.2.1 0 ((((mw.1 * (32 : Int64)) + (0 : Int64)) + ((nI (2 * cy)).toInt64)) + (1 : Int64)), mo1.2.2.2.1 + (1 : Int32), mo1.2.2.2.2.1, mo1.2.2.2.2.2.1, mo1.2.2.2.2.2.2)
    else
      if on = 0 then
        (mo1.1, upd mo1.2.1 cy on, vp_updL mo1.2.2.1 0 ((((mw.1 * (32 : Int64)) + (16 : Int64)) + ((nI (2 * cy)).toInt64)) + (0 : Int64)), mo1.2.2.2.1 + (1 : Int32), mo1.2.2.2.2.1, mo1.2.2.2.2.2.1, mo1.2.2.2.2.2.2)
      else
        (mo1.1, upd mo1.2.1 cy on, vp_updL mo1.2.2.1 0 ((((mw.1 * (32 : Int64)) + (16 : Int64)) + ((nI (2 * cy)).toInt64)) + (1 : Int64)), mo1.2.2.2.1 + (1 : Int32), mo1.2.2.2.2.1, mo1.2.2.2.2.2.1, mo1.2.2.2.2.2.2)
  | fuel + 1, j, mo1 =>
    fM_switched_l k mc mw mp me ms isI cy on fuel fuel (mo1.1, mo1.2.1, vp_updL mo1.2.2.1 (fuel + 1) (mo1.2.2.1 fuel), mo1.2.2.2.1, mo1.2.2.2.2.1, mo1.2.2.2.2.2.1, mo1.2.2.2.2.2.2)
def fM_switched (k : Nat) (mc : McT) (mw : MwT) (mp : MpT) (me : MeT) (mo : MoT) (ms : MsT) (isI : Int32) (cy : Nat) (on : Int32) : MoT :=
  fM_switched_l k mc mw mp me ms isI cy on 15 15 mo
set_option maxRecDepth 100000 in
set_option maxHeartbeats 4000000 in
theorem ctM_switched (l : Launch) (D : va_G) (cZ cI cJ : ClassId) (tL tH : Nat) (sz : Nat) (bd : Nat → Nat) (k : Nat) (mc : McT) (mw : MwT) (mp : MpT) (me : MeT) (mo : MoT) (ms : MsT) (isI : Int32) (cy : Nat) (on : Int32)  (hk : 0 < k ∧ k ≤ 6) (hc : cy < 6) (hz : on = 0 ∨ on = 1) : Ct l yM_switched wM_switched ({ frames := 0, cells := 0, slots := 0, locals := 0 }) D (tyG cZ cI cJ) tL tH [.ref (bd 0), .int isI, .int (nI cy), .int on] sz [cMd bd k mc mw me mo, cIa cI (bd 1) 128 mp, cZa cZ (bd 2) 30 me.1, cJa cJ (bd 3) 30 me.2.1, cIa cI (bd 4) 30 me.2.2.1, cZa cZ (bd 5) 6 mo.1, cZa cZ (bd 6) 6 mo.2.1, cZa cZ (bd 7) 2 ms.1, cIa cI (bd 8) 2 ms.2.1, cZa cZ (bd 9) 2 ms.2.2.1, cIa cI (bd 10) 2 ms.2.2.2.1, cIa cI (bd 11) 2 ms.2.2.2.2.1, cZa cZ (bd 12) 2 ms.2.2.2.2.2.1, cJa cJ (bd 13) 6 ms.2.2.2.2.2.2, cJa cJ (bd 14) 16 mo.2.2.1] (fun _ : Unit => none) (fun _ : Unit => [cMd bd k mc mw me (fM_switched k mc mw mp me mo ms isI cy on), cIa cI (bd 1) 128 mp, cZa cZ (bd 2) 30 me.1, cJa cJ (bd 3) 30 me.2.1, cIa cI (bd 4) 30 me.2.2.1, cZa cZ (bd 5) 6 ((fM_switched k mc mw mp me mo ms isI cy on).1), cZa cZ (bd 6) 6 ((fM_switched k mc mw mp me mo ms isI cy on).2.1), cZa cZ (bd 7) 2 ms.1, cIa cI (bd 8) 2 ms.2.1, cZa cZ (bd 9) 2 ms.2.2.1, cIa cI (bd 10) 2 ms.2.2.2.1, cIa cI (bd 11) 2 ms.2.2.2.2.1, cZa cZ (bd 12) 2 ms.2.2.2.2.2.1, cJa cJ (bd 13) 6 ms.2.2.2.2.2.2, cJa cJ (bd 14) 16 ((fM_switched k mc mw mp me mo ms isI cy on).2.2.1)]) 0 0 := by
  refine k_go (by decide +kernel) (Nat.le_of_ble_eq_true rfl) ?_
  intro p e s m args below meth c A ls H hx hb hr hml hts hown hlk hnm hK hN hT hA hS hP hD hl
  have hown : s.vm.findClass "ToothWheelTimerModel" = some m.cls := hown
  have hlk : meth.locks = false := hlk
  have hl : lv_has ls 5 [(0, .ref (bd 0)), (1, .int isI), (2, .int (nI cy)), (3, .int on)] := hl
  refine lv_bipush (v := (15 : Int32)) hx hb dM_switched_0 (by decide) ?_
  refine lv_istore (lv' := [(4, .int (15 : Int32)), (0, .ref (bd 0)), (1, .int isI), (2, .int (nI cy)), (3, .int on)]) hx hb dM_switched_2 hl (by decide) rfl (fun ls hl => ?_)
  have hl := lv_sub (l' := [(4, .int (15 : Int32)), (0, .ref (bd 0)), (1, .int isI), (2, .int (nI cy)), (3, .int on)]) hl [0, 1, 2, 3, 4] rfl
  have LOOP4 : ∀ (fuel : Nat) (j : Nat) (mo1 : MoT), ∀ (hj : j < 16), ∀ (ls : Array Slot) (H : Heap) (locs : List Loc), fuel = j → fM_switched k mc mw mp me mo ms isI cy on = fM_switched_l k mc mw mp me ms isI cy on fuel j mo1 → lv_has ls 5 [(4, .int (nI j)), (0, .ref (bd 0)), (1, .int isI), (2, .int (nI cy)), (3, .int on)] → va_P D vwCl [cMd bd k mc mw me mo1, cIa cI (bd 1) 128 mp, cZa cZ (bd 2) 30 me.1, cJa cJ (bd 3) 30 me.2.1, cIa cI (bd 4) 30 me.2.2.1, cZa cZ (bd 5) 6 mo1.1, cZa cZ (bd 6) 6 mo1.2.1, cZa cZ (bd 7) 2 ms.1, cIa cI (bd 8) 2 ms.2.1, cZa cZ (bd 9) 2 ms.2.2.1, cIa cI (bd 10) 2 ms.2.2.2.1, cIa cI (bd 11) 2 ms.2.2.2.2.1, cZa cZ (bd 12) 2 ms.2.2.2.2.2.1, cJa cJ (bd 13) 6 ms.2.2.2.2.2.2, cJa cJ (bd 14) 16 mo1.2.2.1] H → va_D A [cMd bd k mc mw me mo1, cIa cI (bd 1) 128 mp, cZa cZ (bd 2) 30 me.1, cJa cJ (bd 3) 30 me.2.1, cIa cI (bd 4) 30 me.2.2.1, cZa cZ (bd 5) 6 mo1.1, cZa cZ (bd 6) 6 mo1.2.1, cZa cZ (bd 7) 2 ms.1, cIa cI (bd 8) 2 ms.2.1, cZa cZ (bd 9) 2 ms.2.2.1, cIa cI (bd 10) 2 ms.2.2.2.1, cIa cI (bd 11) 2 ms.2.2.2.2.1, cZa cZ (bd 12) 2 ms.2.2.2.2.2.1, cJa cJ (bd 13) 6 ms.2.2.2.2.2.2, cJa cJ (bd 14) 16 mo1.2.2.1] → va_S A s.heap H locs → W p l e { frames := 0, cells := 0, slots := 0, locals := 0 } s m args below meth c H locs 0 0 (MQ below (QX A D (fun _ : Unit => none) (fun _ : Unit => [cMd bd k mc mw me (fM_switched k mc mw mp me mo ms isI cy on), cIa cI (bd 1) 128 mp, cZa cZ (bd 2) 30 me.1, cJa cJ (bd 3) 30 me.2.1, cIa cI (bd 4) 30 me.2.2.1, cZa cZ (bd 5) 6 ((fM_switched k mc mw mp me mo ms isI cy on).1), cZa cZ (bd 6) 6 ((fM_switched k mc mw mp me mo ms isI cy on).2.1), cZa cZ (bd 7) 2 ms.1, cIa cI (bd 8) 2 ms.2.1, cZa cZ (bd 9) 2 ms.2.2.1, cIa cI (bd 10) 2 ms.2.2.2.1, cIa cI (bd 11) 2 ms.2.2.2.2.1, cZa cZ (bd 12) 2 ms.2.2.2.2.2.1, cJa cJ (bd 13) 6 ms.2.2.2.2.2.2, cJa cJ (bd 14) 16 ((fM_switched k mc mw mp me mo ms isI cy on).2.2.1)])) args s 0 0 A) (F0 m 4 ls []) := by
    intro fuel
    induction fuel with
    | zero =>
      intro j mo1 hj ls H locs hm hres hl hP hD hS
      subst hm
      refine lv_iload hx hb dM_switched_4 (lv_at hl 0 rfl) ?_
      refine lv_if_le (tgt := 31) hx hb dM_switched_6 (by decide) (fun _ => ?_) (fun h0 => absurd (by decide) h0)
      refine lv_aload_n hx hb dM_switched_31 rfl (lv_at hl 1 rfl) ?_
      refine gfM_55 hx hb hts hown hN hK hP 0 rfl (v := .ref (bd 14)) rfl dM_switched_32 ?_
      refine lv_iconst (v := (0 : Int32)) hx hb dM_switched_35 (by decide) ?_
      refine lv_aload_n hx hb dM_switched_36 rfl (lv_at hl 1 rfl) ?_
      refine gfM_111 hx hb hts hown hN hK hP 0 rfl (v := .long mw.1) rfl dM_switched_37 ?_
      refine lv_ldc2 (v := (32 : Int64)) hx hb hown (hts _ (wg wd_706 rfl)) dM_switched_40 ?_
      refine lv_lmul hx hb dM_switched_43 ?_
      refine lv_iload_n hx hb dM_switched_44 rfl (lv_at hl 2 rfl) ?_
      refine lv_if_eq (tgt := 53) hx hb dM_switched_45 (by decide) (fun h1001 => ?_) (fun h1001 => ?_)
      · -- taken at 45
        refine lv_iconst (v := (0 : Int32)) hx hb dM_switched_53 (by decide) ?_
        refine lv_i2l (v := (0 : Int64)) hx hb dM_switched_54 (by decide) ?_
        refine lv_ladd hx hb dM_switched_55 ?_
        refine lv_iconst (v := (2 : Int32)) hx hb dM_switched_56 (by decide) ?_
        refine lv_iload_n hx hb dM_switched_57 rfl (lv_at hl 3 rfl) ?_
        refine lv_imul hx hb dM_switched_58 ?_
        refine W.eq (g2 := F0 m 59 ls [.int (nI (2 * cy)), .long ((mw.1 * (32 : Int64)) + (0 : Int64)), .int (0 : Int32), .ref (bd 14)]) (congrArg (fun z => F0 m 59 ls (.int z :: [.long ((mw.1 * (32 : Int64)) + (0 : Int64)), .int (0 : Int32), .ref (bd 14)])) (pk_mul 2 cy)) ?_
        refine lv_i2l hx hb dM_switched_59 rfl ?_
        refine lv_ladd hx hb dM_switched_60 ?_
        refine lv_iload_n hx hb dM_switched_61 rfl (lv_at hl 4 rfl) ?_
        refine lv_if_eq (tgt := 69) hx hb dM_switched_62 (by decide) (fun h1002 => ?_) (fun h1002 => ?_)
        · -- taken at 62
          refine lv_iconst (v := (0 : Int32)) hx hb dM_switched_69 (by decide) ?_
          refine lv_i2l (v := (0 : Int64)) hx hb dM_switched_70 (by decide) ?_
          refine lv_ladd hx hb dM_switched_71 ?_
          refine va_last hx hb hK hP hD hS 14 2 rfl rfl (vp_in_nI (n := 0) (N := 16) (by omega) (by omega)) dM_switched_72 (fun H locs hP hD hS => ?_)
          have e9 : (0 : Int32).toNatClampNeg = 0 := (nI_clamp (n := 0) (by omega))
          rw [e9] at hP hD
          have hP : va_P D vwCl [cMd bd k mc mw me (mo1.1, mo1.2.1, vp_updL mo1.2.2.1 0 ((((mw.1 * (32 : Int64)) + (0 : Int64)) + ((nI (2 * cy)).toInt64)) + (0 : Int64)), mo1.2.2.2.1, mo1.2.2.2.2.1, mo1.2.2.2.2.2.1, mo1.2.2.2.2.2.2), cIa cI (bd 1) 128 mp, cZa cZ (bd 2) 30 me.1, cJa cJ (bd 3) 30 me.2.1, cIa cI (bd 4) 30 me.2.2.1, cZa cZ (bd 5) 6 mo1.1, cZa cZ (bd 6) 6 mo1.2.1, cZa cZ (bd 7) 2 ms.1, cIa cI (bd 8) 2 ms.2.1, cZa cZ (bd 9) 2 ms.2.2.1, cIa cI (bd 10) 2 ms.2.2.2.1, cIa cI (bd 11) 2 ms.2.2.2.2.1, cZa cZ (bd 12) 2 ms.2.2.2.2.2.1, cJa cJ (bd 13) 6 ms.2.2.2.2.2.2, cJa cJ (bd 14) 16 (vp_updL mo1.2.2.1 0 ((((mw.1 * (32 : Int64)) + (0 : Int64)) + ((nI (2 * cy)).toInt64)) + (0 : Int64)))] H := hP
          have hD : va_D A [cMd bd k mc mw me (mo1.1, mo1.2.1, vp_updL mo1.2.2.1 0 ((((mw.1 * (32 : Int64)) + (0 : Int64)) + ((nI (2 * cy)).toInt64)) + (0 : Int64)), mo1.2.2.2.1, mo1.2.2.2.2.1, mo1.2.2.2.2.2.1, mo1.2.2.2.2.2.2), cIa cI (bd 1) 128 mp, cZa cZ (bd 2) 30 me.1, cJa cJ (bd 3) 30 me.2.1, cIa cI (bd 4) 30 me.2.2.1, cZa cZ (bd 5) 6 mo1.1, cZa cZ (bd 6) 6 mo1.2.1, cZa cZ (bd 7) 2 ms.1, cIa cI (bd 8) 2 ms.2.1, cZa cZ (bd 9) 2 ms.2.2.1, cIa cI (bd 10) 2 ms.2.2.2.1, cIa cI (bd 11) 2 ms.2.2.2.2.1, cZa cZ (bd 12) 2 ms.2.2.2.2.2.1, cJa cJ (bd 13) 6 ms.2.2.2.2.2.2, cJa cJ (bd 14) 16 (vp_updL mo1.2.2.1 0 ((((mw.1 * (32 : Int64)) + (0 : Int64)) + ((nI (2 * cy)).toInt64)) + (0 : Int64)))] := hD
          refine lv_aload_n hx hb dM_switched_73 rfl (lv_at hl 1 rfl) ?_
          refine lv_aload_n hx hb dM_switched_74 rfl (lv_at hl 1 rfl) ?_
          refine gfM_121 hx hb hts hown hN hK hP 0 rfl (v := .int mo1.2.2.2.1) rfl dM_switched_75 ?_
          refine lv_iconst (v := (1 : Int32)) hx hb dM_switched_78 (by decide) ?_
          refine lv_iadd hx hb dM_switched_79 ?_
          refine pfM_121 hx hb hts hown hN hK hP hD hS 0 rfl (v := .int (mo1.2.2.2.1 + (1 : Int32))) rfl rfl (Nat.le_of_ble_eq_true rfl) dM_switched_80 (fun H locs hP hD hS => ?_)
          have hP : va_P D vwCl [cMd bd k mc mw me (mo1.1, mo1.2.1, vp_updL mo1.2.2.1 0 ((((mw.1 * (32 : Int64)) + (0 : Int64)) + ((nI (2 * cy)).toInt64)) + (0 : Int64)), mo1.2.2.2.1 + (1 : Int32), mo1.2.2.2.2.1, mo1.2.2.2.2.2.1, mo1.2.2.2.2.2.2), cIa cI (bd 1) 128 mp, cZa cZ (bd 2) 30 me.1, cJa cJ (bd 3) 30 me.2.1, cIa cI (bd 4) 30 me.2.2.1, cZa cZ (bd 5) 6 mo1.1, cZa cZ (bd 6) 6 mo1.2.1, cZa cZ (bd 7) 2 ms.1, cIa cI (bd 8) 2 ms.2.1, cZa cZ (bd 9) 2 ms.2.2.1, cIa cI (bd 10) 2 ms.2.2.2.1, cIa cI (bd 11) 2 ms.2.2.2.2.1, cZa cZ (bd 12) 2 ms.2.2.2.2.2.1, cJa cJ (bd 13) 6 ms.2.2.2.2.2.2, cJa cJ (bd 14) 16 (vp_updL mo1.2.2.1 0 ((((mw.1 * (32 : Int64)) + (0 : Int64)) + ((nI (2 * cy)).toInt64)) + (0 : Int64)))] H := hP
          have hD : va_D A [cMd bd k mc mw me (mo1.1, mo1.2.1, vp_updL mo1.2.2.1 0 ((((mw.1 * (32 : Int64)) + (0 : Int64)) + ((nI (2 * cy)).toInt64)) + (0 : Int64)), mo1.2.2.2.1 + (1 : Int32), mo1.2.2.2.2.1, mo1.2.2.2.2.2.1, mo1.2.2.2.2.2.2), cIa cI (bd 1) 128 mp, cZa cZ (bd 2) 30 me.1, cJa cJ (bd 3) 30 me.2.1, cIa cI (bd 4) 30 me.2.2.1, cZa cZ (bd 5) 6 mo1.1, cZa cZ (bd 6) 6 mo1.2.1, cZa cZ (bd 7) 2 ms.1, cIa cI (bd 8) 2 ms.2.1, cZa cZ (bd 9) 2 ms.2.2.1, cIa cI (bd 10) 2 ms.2.2.2.1, cIa cI (bd 11) 2 ms.2.2.2.2.1, cZa cZ (bd 12) 2 ms.2.2.2.2.2.1, cJa cJ (bd 13) 6 ms.2.2.2.2.2.2, cJa cJ (bd 14) 16 (vp_updL mo1.2.2.1 0 ((((mw.1 * (32 : Int64)) + (0 : Int64)) + ((nI (2 * cy)).toInt64)) + (0 : Int64)))] := hD
          refine lv_iload_n hx hb dM_switched_83 rfl (lv_at hl 2 rfl) ?_
          refine lv_if_eq (tgt := 97) hx hb dM_switched_84 (by decide) (fun _ => ?_) (fun h0 => absurd h1001 h0)
          refine lv_aload_n hx hb dM_switched_97 rfl (lv_at hl 1 rfl) ?_
          refine gfM_28 hx hb hts hown hN hK hP 0 rfl (v := .ref (bd 5)) rfl dM_switched_98 ?_
          refine lv_iload_n hx hb dM_switched_101 rfl (lv_at hl 3 rfl) ?_
          refine lv_iload_n hx hb dM_switched_102 rfl (lv_at hl 4 rfl) ?_
          refine va_zast hx hb hK hP hD hS 5 0 rfl rfl (vp_in_nI (n := cy) (N := 6) (by omega) (by omega)) dM_switched_103 (fun H locs hP hD hS => ?_)
          rw [zn_nar hz] at hP hD
          have e9 : (nI cy).toNatClampNeg = cy := (nI_clamp (n := cy) (by omega))
          rw [e9] at hP hD
          have hP : va_P D vwCl [cMd bd k mc mw me (upd mo1.1 cy on, mo1.2.1, vp_updL mo1.2.2.1 0 ((((mw.1 * (32 : Int64)) + (0 : Int64)) + ((nI (2 * cy)).toInt64)) + (0 : Int64)), mo1.2.2.2.1 + (1 : Int32), mo1.2.2.2.2.1, mo1.2.2.2.2.2.1, mo1.2.2.2.2.2.2), cIa cI (bd 1) 128 mp, cZa cZ (bd 2) 30 me.1, cJa cJ (bd 3) 30 me.2.1, cIa cI (bd 4) 30 me.2.2.1, cZa cZ (bd 5) 6 (upd mo1.1 cy on), cZa cZ (bd 6) 6 mo1.2.1, cZa cZ (bd 7) 2 ms.1, cIa cI (bd 8) 2 ms.2.1, cZa cZ (bd 9) 2 ms.2.2.1, cIa cI (bd 10) 2 ms.2.2.2.1, cIa cI (bd 11) 2 ms.2.2.2.2.1, cZa cZ (bd 12) 2 ms.2.2.2.2.2.1, cJa cJ (bd 13) 6 ms.2.2.2.2.2.2, cJa cJ (bd 14) 16 (vp_updL mo1.2.2.1 0 ((((mw.1 * (32 : Int64)) + (0 : Int64)) + ((nI (2 * cy)).toInt64)) + (0 : Int64)))] H := hP
          have hD : va_D A [cMd bd k mc mw me (upd mo1.1 cy on, mo1.2.1, vp_updL mo1.2.2.1 0 ((((mw.1 * (32 : Int64)) + (0 : Int64)) + ((nI (2 * cy)).toInt64)) + (0 : Int64)), mo1.2.2.2.1 + (1 : Int32), mo1.2.2.2.2.1, mo1.2.2.2.2.2.1, mo1.2.2.2.2.2.2), cIa cI (bd 1) 128 mp, cZa cZ (bd 2) 30 me.1, cJa cJ (bd 3) 30 me.2.1, cIa cI (bd 4) 30 me.2.2.1, cZa cZ (bd 5) 6 (upd mo1.1 cy on), cZa cZ (bd 6) 6 mo1.2.1, cZa cZ (bd 7) 2 ms.1, cIa cI (bd 8) 2 ms.2.1, cZa cZ (bd 9) 2 ms.2.2.1, cIa cI (bd 10) 2 ms.2.2.2.1, cIa cI (bd 11) 2 ms.2.2.2.2.1, cZa cZ (bd 12) 2 ms.2.2.2.2.2.1, cJa cJ (bd 13) 6 ms.2.2.2.2.2.2, cJa cJ (bd 14) 16 (vp_updL mo1.2.2.1 0 ((((mw.1 * (32 : Int64)) + (0 : Int64)) + ((nI (2 * cy)).toInt64)) + (0 : Int64)))] := hD
          exact k_vret hx hb hr hlk hP hD hS dM_switched_104 () rfl (by simp only [hres, fM_switched_l, if_pos h1001, if_pos h1002])
        · -- not taken at 62
          refine lv_iconst (v := (1 : Int32)) hx hb dM_switched_65 (by decide) ?_
          refine lv_goto (tgt := 70) hx hb dM_switched_66 (by decide) ?_
          refine lv_i2l (v := (1 : Int64)) hx hb dM_switched_70 (by decide) ?_
          refine lv_ladd hx hb dM_switched_71 ?_
          refine va_last hx hb hK hP hD hS 14 2 rfl rfl (vp_in_nI (n := 0) (N := 16) (by omega) (by omega)) dM_switched_72 (fun H locs hP hD hS => ?_)
          have e9 : (0 : Int32).toNatClampNeg = 0 := (nI_clamp (n := 0) (by omega))
          rw [e9] at hP hD
          have hP : va_P D vwCl [cMd bd k mc mw me (mo1.1, mo1.2.1, vp_updL mo1.2.2.1 0 ((((mw.1 * (32 : Int64)) + (0 : Int64)) + ((nI (2 * cy)).toInt64)) + (1 : Int64)), mo1.2.2.2.1, mo1.2.2.2.2.1, mo1.2.2.2.2.2.1, mo1.2.2.2.2.2.2), cIa cI (bd 1) 128 mp, cZa cZ (bd 2) 30 me.1, cJa cJ (bd 3) 30 me.2.1, cIa cI (bd 4) 30 me.2.2.1, cZa cZ (bd 5) 6 mo1.1, cZa cZ (bd 6) 6 mo1.2.1, cZa cZ (bd 7) 2 ms.1, cIa cI (bd 8) 2 ms.2.1, cZa cZ (bd 9) 2 ms.2.2.1, cIa cI (bd 10) 2 ms.2.2.2.1, cIa cI (bd 11) 2 ms.2.2.2.2.1, cZa cZ (bd 12) 2 ms.2.2.2.2.2.1, cJa cJ (bd 13) 6 ms.2.2.2.2.2.2, cJa cJ (bd 14) 16 (vp_updL mo1.2.2.1 0 ((((mw.1 * (32 : Int64)) + (0 : Int64)) + ((nI (2 * cy)).toInt64)) + (1 : Int64)))] H := hP
          have hD : va_D A [cMd bd k mc mw me (mo1.1, mo1.2.1, vp_updL mo1.2.2.1 0 ((((mw.1 * (32 : Int64)) + (0 : Int64)) + ((nI (2 * cy)).toInt64)) + (1 : Int64)), mo1.2.2.2.1, mo1.2.2.2.2.1, mo1.2.2.2.2.2.1, mo1.2.2.2.2.2.2), cIa cI (bd 1) 128 mp, cZa cZ (bd 2) 30 me.1, cJa cJ (bd 3) 30 me.2.1, cIa cI (bd 4) 30 me.2.2.1, cZa cZ (bd 5) 6 mo1.1, cZa cZ (bd 6) 6 mo1.2.1, cZa cZ (bd 7) 2 ms.1, cIa cI (bd 8) 2 ms.2.1, cZa cZ (bd 9) 2 ms.2.2.1, cIa cI (bd 10) 2 ms.2.2.2.1, cIa cI (bd 11) 2 ms.2.2.2.2.1, cZa cZ (bd 12) 2 ms.2.2.2.2.2.1, cJa cJ (bd 13) 6 ms.2.2.2.2.2.2, cJa cJ (bd 14) 16 (vp_updL mo1.2.2.1 0 ((((mw.1 * (32 : Int64)) + (0 : Int64)) + ((nI (2 * cy)).toInt64)) + (1 : Int64)))] := hD
          refine lv_aload_n hx hb dM_switched_73 rfl (lv_at hl 1 rfl) ?_
          refine lv_aload_n hx hb dM_switched_74 rfl (lv_at hl 1 rfl) ?_
          refine gfM_121 hx hb hts hown hN hK hP 0 rfl (v := .int mo1.2.2.2.1) rfl dM_switched_75 ?_
          refine lv_iconst (v := (1 : Int32)) hx hb dM_switched_78 (by decide) ?_
          refine lv_iadd hx hb dM_switched_79 ?_
          refine pfM_121 hx hb hts hown hN hK hP hD hS 0 rfl (v := .int (mo1.2.2.2.1 + (1 : Int32))) rfl rfl (Nat.le_of_ble_eq_true rfl) dM_switched_80 (fun H locs hP hD hS => ?_)
          have hP : va_P D vwCl [cMd bd k mc mw me (mo1.1, mo1.2.1, vp_updL mo1.2.2.1 0 ((((mw.1 * (32 : Int64)) + (0 : Int64)) + ((nI (2 * cy)).toInt64)) + (1 : Int64)), mo1.2.2.2.1 + (1 : Int32), mo1.2.2.2.2.1, mo1.2.2.2.2.2.1, mo1.2.2.2.2.2.2), cIa cI (bd 1) 128 mp, cZa cZ (bd 2) 30 me.1, cJa cJ (bd 3) 30 me.2.1, cIa cI (bd 4) 30 me.2.2.1, cZa cZ (bd 5) 6 mo1.1, cZa cZ (bd 6) 6 mo1.2.1, cZa cZ (bd 7) 2 ms.1, cIa cI (bd 8) 2 ms.2.1, cZa cZ (bd 9) 2 ms.2.2.1, cIa cI (bd 10) 2 ms.2.2.2.1, cIa cI (bd 11) 2 ms.2.2.2.2.1, cZa cZ (bd 12) 2 ms.2.2.2.2.2.1, cJa cJ (bd 13) 6 ms.2.2.2.2.2.2, cJa cJ (bd 14) 16 (vp_updL mo1.2.2.1 0 ((((mw.1 * (32 : Int64)) + (0 : Int64)) + ((nI (2 * cy)).toInt64)) + (1 : Int64)))] H := hP
          have hD : va_D A [cMd bd k mc mw me (mo1.1, mo1.2.1, vp_updL mo1.2.2.1 0 ((((mw.1 * (32 : Int64)) + (0 : Int64)) + ((nI (2 * cy)).toInt64)) + (1 : Int64)), mo1.2.2.2.1 + (1 : Int32), mo1.2.2.2.2.1, mo1.2.2.2.2.2.1, mo1.2.2.2.2.2.2), cIa cI (bd 1) 128 mp, cZa cZ (bd 2) 30 me.1, cJa cJ (bd 3) 30 me.2.1, cIa cI (bd 4) 30 me.2.2.1, cZa cZ (bd 5) 6 mo1.1, cZa cZ (bd 6) 6 mo1.2.1, cZa cZ (bd 7) 2 ms.1, cIa cI (bd 8) 2 ms.2.1, cZa cZ (bd 9) 2 ms.2.2.1, cIa cI (bd 10) 2 ms.2.2.2.1, cIa cI (bd 11) 2 ms.2.2.2.2.1, cZa cZ (bd 12) 2 ms.2.2.2.2.2.1, cJa cJ (bd 13) 6 ms.2.2.2.2.2.2, cJa cJ (bd 14) 16 (vp_updL mo1.2.2.1 0 ((((mw.1 * (32 : Int64)) + (0 : Int64)) + ((nI (2 * cy)).toInt64)) + (1 : Int64)))] := hD
          refine lv_iload_n hx hb dM_switched_83 rfl (lv_at hl 2 rfl) ?_
          refine lv_if_eq (tgt := 97) hx hb dM_switched_84 (by decide) (fun _ => ?_) (fun h0 => absurd h1001 h0)
          refine lv_aload_n hx hb dM_switched_97 rfl (lv_at hl 1 rfl) ?_
          refine gfM_28 hx hb hts hown hN hK hP 0 rfl (v := .ref (bd 5)) rfl dM_switched_98 ?_
          refine lv_iload_n hx hb dM_switched_101 rfl (lv_at hl 3 rfl) ?_
          refine lv_iload_n hx hb dM_switched_102 rfl (lv_at hl 4 rfl) ?_
          refine va_zast hx hb hK hP hD hS 5 0 rfl rfl (vp_in_nI (n := cy) (N := 6) (by omega) (by omega)) dM_switched_103 (fun H locs hP hD hS => ?_)
          rw [zn_nar hz] at hP hD
          have e9 : (nI cy).toNatClampNeg = cy := (nI_clamp (n := cy) (by omega))
          rw [e9] at hP hD
          have hP : va_P D vwCl [cMd bd k mc mw me (upd mo1.1 cy on, mo1.2.1, vp_updL mo1.2.2.1 0 ((((mw.1 * (32 : Int64)) + (0 : Int64)) + ((nI (2 * cy)).toInt64)) + (1 : Int64)), mo1.2.2.2.1 + (1 : Int32), mo1.2.2.2.2.1, mo1.2.2.2.2.2.1, mo1.2.2.2.2.2.2), cIa cI (bd 1) 128 mp, cZa cZ (bd 2) 30 me.1, cJa cJ (bd 3) 30 me.2.1, cIa cI (bd 4) 30 me.2.2.1, cZa cZ (bd 5) 6 (upd mo1.1 cy on), cZa cZ (bd 6) 6 mo1.2.1, cZa cZ (bd 7) 2 ms.1, cIa cI (bd 8) 2 ms.2.1, cZa cZ (bd 9) 2 ms.2.2.1, cIa cI (bd 10) 2 ms.2.2.2.1, cIa cI (bd 11) 2 ms.2.2.2.2.1, cZa cZ (bd 12) 2 ms.2.2.2.2.2.1, cJa cJ (bd 13) 6 ms.2.2.2.2.2.2, cJa cJ (bd 14) 16 (vp_updL mo1.2.2.1 0 ((((mw.1 * (32 : Int64)) + (0 : Int64)) + ((nI (2 * cy)).toInt64)) + (1 : Int64)))] H := hP
          have hD : va_D A [cMd bd k mc mw me (upd mo1.1 cy on, mo1.2.1, vp_updL mo1.2.2.1 0 ((((mw.1 * (32 : Int64)) + (0 : Int64)) + ((nI (2 * cy)).toInt64)) + (1 : Int64)), mo1.2.2.2.1 + (1 : Int32), mo1.2.2.2.2.1, mo1.2.2.2.2.2.1, mo1.2.2.2.2.2.2), cIa cI (bd 1) 128 mp, cZa cZ (bd 2) 30 me.1, cJa cJ (bd 3) 30 me.2.1, cIa cI (bd 4) 30 me.2.2.1, cZa cZ (bd 5) 6 (upd mo1.1 cy on), cZa cZ (bd 6) 6 mo1.2.1, cZa cZ (bd 7) 2 ms.1, cIa cI (bd 8) 2 ms.2.1, cZa cZ (bd 9) 2 ms.2.2.1, cIa cI (bd 10) 2 ms.2.2.2.1, cIa cI (bd 11) 2 ms.2.2.2.2.1, cZa cZ (bd 12) 2 ms.2.2.2.2.2.1, cJa cJ (bd 13) 6 ms.2.2.2.2.2.2, cJa cJ (bd 14) 16 (vp_updL mo1.2.2.1 0 ((((mw.1 * (32 : Int64)) + (0 : Int64)) + ((nI (2 * cy)).toInt64)) + (1 : Int64)))] := hD
          exact k_vret hx hb hr hlk hP hD hS dM_switched_104 () rfl (by simp only [hres, fM_switched_l, if_pos h1001, if_neg h1002])
      · -- not taken at 45
        refine lv_bipush (v := (16 : Int32)) hx hb dM_switched_48 (by decide) ?_
        refine lv_goto (tgt := 54) hx hb dM_switched_50 (by decide) ?_
        refine lv_i2l (v := (16 : Int64)) hx hb dM_switched_54 (by decide) ?_
        refine lv_ladd hx hb dM_switched_55 ?_
        refine lv_iconst (v := (2 : Int32)) hx hb dM_switched_56 (by decide) ?_
        refine lv_iload_n hx hb dM_switched_57 rfl (lv_at hl 3 rfl) ?_
        refine lv_imul hx hb dM_switched_58 ?_
        refine W.eq (g2 := F0 m 59 ls [.int (nI (2 * cy)), .long ((mw.1 * (32 : Int64)) + (16 : Int64)), .int (0 : Int32), .ref (bd 14)]) (congrArg (fun z => F0 m 59 ls (.int z :: [.long ((mw.1 * (32 : Int64)) + (16 : Int64)), .int (0 : Int32), .ref (bd 14)])) (pk_mul 2 cy)) ?_
        refine lv_i2l hx hb dM_switched_59 rfl ?_
        refine lv_ladd hx hb dM_switched_60 ?_
        refine lv_iload_n hx hb dM_switched_61 rfl (lv_at hl 4 rfl) ?_
        refine lv_if_eq (tgt := 69) hx hb dM_switched_62 (by decide) (fun h1003 => ?_) (fun h1003 => ?_)
        · -- taken at 62
          refine lv_iconst (v := (0 : Int32)) hx hb dM_switched_69 (by decide) ?_
          refine lv_i2l (v := (0 : Int64)) hx hb dM_switched_70 (by decide) ?_
          refine lv_ladd hx hb dM_switched_71 ?_
          refine va_last hx hb hK hP hD hS 14 2 rfl rfl (vp_in_nI (n := 0) (N := 16) (by omega) (by omega)) dM_switched_72 (fun H locs hP hD hS => ?_)
          have e9 : (0 : Int32).toNatClampNeg = 0 := (nI_clamp (n := 0) (by omega))
          rw [e9] at hP hD
          have hP : va_P D vwCl [cMd bd k mc mw me (mo1.1, mo1.2.1, vp_updL mo1.2.2.1 0 ((((mw.1 * (32 : Int64)) + (16 : Int64)) + ((nI (2 * cy)).toInt64)) + (0 : Int64)), mo1.2.2.2.1, mo1.2.2.2.2.1, mo1.2.2.2.2.2.1, mo1.2.2.2.2.2.2), cIa cI (bd 1) 128 mp, cZa cZ (bd 2) 30 me.1, cJa cJ (bd 3) 30 me.2.1, cIa cI (bd 4) 30 me.2.2.1, cZa cZ (bd 5) 6 mo1.1, cZa cZ (bd 6) 6 mo1.2.1, cZa cZ (bd 7) 2 ms.1, cIa cI (bd 8) 2 ms.2.1, cZa cZ (bd 9) 2 ms.2.2.1, cIa cI (bd 10) 2 ms.2.2.2.1, cIa cI (bd 11) 2 ms.2.2.2.2.1, cZa cZ (bd 12) 2 ms.2.2.2.2.2.1, cJa cJ (bd 13) 6 ms.2.2.2.2.2.2, cJa cJ (bd 14) 16 (vp_updL mo1.2.2.1 0 ((((mw.1 * (32 : Int64)) + (16 : Int64)) + ((nI (2 * cy)).toInt64)) + (0 : Int64)))] H := hP
          have hD : va_D A [cMd bd k mc mw me (mo1.1, mo1.2.1, vp_updL mo1.2.2.1 0 ((((mw.1 * (32 : Int64)) + (16 : Int64)) + ((nI (2 * cy)).toInt64)) + (0 : Int64)), mo1.2.2.2.1, mo1.2.2.2.2.1, mo1.2.2.2.2.2.1, mo1.2.2.2.2.2.2), cIa cI (bd 1) 128 mp, cZa cZ (bd 2) 30 me.1, cJa cJ (bd 3) 30 me.2.1, cIa cI (bd 4) 30 me.2.2.1, cZa cZ (bd 5) 6 mo1.1, cZa cZ (bd 6) 6 mo1.2.1, cZa cZ (bd 7) 2 ms.1, cIa cI (bd 8) 2 ms.2.1, cZa cZ (bd 9) 2 ms.2.2.1, cIa cI (bd 10) 2 ms.2.2.2.1, cIa cI (bd 11) 2 ms.2.2.2.2.1, cZa cZ (bd 12) 2 ms.2.2.2.2.2.1, cJa cJ (bd 13) 6 ms.2.2.2.2.2.2, cJa cJ (bd 14) 16 (vp_updL mo1.2.2.1 0 ((((mw.1 * (32 : Int64)) + (16 : Int64)) + ((nI (2 * cy)).toInt64)) + (0 : Int64)))] := hD
          refine lv_aload_n hx hb dM_switched_73 rfl (lv_at hl 1 rfl) ?_
          refine lv_aload_n hx hb dM_switched_74 rfl (lv_at hl 1 rfl) ?_
          refine gfM_121 hx hb hts hown hN hK hP 0 rfl (v := .int mo1.2.2.2.1) rfl dM_switched_75 ?_
          refine lv_iconst (v := (1 : Int32)) hx hb dM_switched_78 (by decide) ?_
          refine lv_iadd hx hb dM_switched_79 ?_
          refine pfM_121 hx hb hts hown hN hK hP hD hS 0 rfl (v := .int (mo1.2.2.2.1 + (1 : Int32))) rfl rfl (Nat.le_of_ble_eq_true rfl) dM_switched_80 (fun H locs hP hD hS => ?_)
          have hP : va_P D vwCl [cMd bd k mc mw me (mo1.1, mo1.2.1, vp_updL mo1.2.2.1 0 ((((mw.1 * (32 : Int64)) + (16 : Int64)) + ((nI (2 * cy)).toInt64)) + (0 : Int64)), mo1.2.2.2.1 + (1 : Int32), mo1.2.2.2.2.1, mo1.2.2.2.2.2.1, mo1.2.2.2.2.2.2), cIa cI (bd 1) 128 mp, cZa cZ (bd 2) 30 me.1, cJa cJ (bd 3) 30 me.2.1, cIa cI (bd 4) 30 me.2.2.1, cZa cZ (bd 5) 6 mo1.1, cZa cZ (bd 6) 6 mo1.2.1, cZa cZ (bd 7) 2 ms.1, cIa cI (bd 8) 2 ms.2.1, cZa cZ (bd 9) 2 ms.2.2.1, cIa cI (bd 10) 2 ms.2.2.2.1, cIa cI (bd 11) 2 ms.2.2.2.2.1, cZa cZ (bd 12) 2 ms.2.2.2.2.2.1, cJa cJ (bd 13) 6 ms.2.2.2.2.2.2, cJa cJ (bd 14) 16 (vp_updL mo1.2.2.1 0 ((((mw.1 * (32 : Int64)) + (16 : Int64)) + ((nI (2 * cy)).toInt64)) + (0 : Int64)))] H := hP
          have hD : va_D A [cMd bd k mc mw me (mo1.1, mo1.2.1, vp_updL mo1.2.2.1 0 ((((mw.1 * (32 : Int64)) + (16 : Int64)) + ((nI (2 * cy)).toInt64)) + (0 : Int64)), mo1.2.2.2.1 + (1 : Int32), mo1.2.2.2.2.1, mo1.2.2.2.2.2.1, mo1.2.2.2.2.2.2), cIa cI (bd 1) 128 mp, cZa cZ (bd 2) 30 me.1, cJa cJ (bd 3) 30 me.2.1, cIa cI (bd 4) 30 me.2.2.1, cZa cZ (bd 5) 6 mo1.1, cZa cZ (bd 6) 6 mo1.2.1, cZa cZ (bd 7) 2 ms.1, cIa cI (bd 8) 2 ms.2.1, cZa cZ (bd 9) 2 ms.2.2.1, cIa cI (bd 10) 2 ms.2.2.2.1, cIa cI (bd 11) 2 ms.2.2.2.2.1, cZa cZ (bd 12) 2 ms.2.2.2.2.2.1, cJa cJ (bd 13) 6 ms.2.2.2.2.2.2, cJa cJ (bd 14) 16 (vp_updL mo1.2.2.1 0 ((((mw.1 * (32 : Int64)) + (16 : Int64)) + ((nI (2 * cy)).toInt64)) + (0 : Int64)))] := hD
          refine lv_iload_n hx hb dM_switched_83 rfl (lv_at hl 2 rfl) ?_
          refine lv_if_eq (tgt := 97) hx hb dM_switched_84 (by decide) (fun h0 => absurd h0 h1001) (fun _ => ?_)
          refine lv_aload_n hx hb dM_switched_87 rfl (lv_at hl 1 rfl) ?_
          refine gfM_31 hx hb hts hown hN hK hP 0 rfl (v := .ref (bd 6)) rfl dM_switched_88 ?_
          refine lv_iload_n hx hb dM_switched_91 rfl (lv_at hl 3 rfl) ?_
          refine lv_iload_n hx hb dM_switched_92 rfl (lv_at hl 4 rfl) ?_
          refine va_zast hx hb hK hP hD hS 6 0 rfl rfl (vp_in_nI (n := cy) (N := 6) (by omega) (by omega)) dM_switched_93 (fun H locs hP hD hS => ?_)
          rw [zn_nar hz] at hP hD
          have e9 : (nI cy).toNatClampNeg = cy := (nI_clamp (n := cy) (by omega))
          rw [e9] at hP hD
          have hP : va_P D vwCl [cMd bd k mc mw me (mo1.1, upd mo1.2.1 cy on, vp_updL mo1.2.2.1 0 ((((mw.1 * (32 : Int64)) + (16 : Int64)) + ((nI (2 * cy)).toInt64)) + (0 : Int64)), mo1.2.2.2.1 + (1 : Int32), mo1.2.2.2.2.1, mo1.2.2.2.2.2.1, mo1.2.2.2.2.2.2), cIa cI (bd 1) 128 mp, cZa cZ (bd 2) 30 me.1, cJa cJ (bd 3) 30 me.2.1, cIa cI (bd 4) 30 me.2.2.1, cZa cZ (bd 5) 6 mo1.1, cZa cZ (bd 6) 6 (upd mo1.2.1 cy on), cZa cZ (bd 7) 2 ms.1, cIa cI (bd 8) 2 ms.2.1, cZa cZ (bd 9) 2 ms.2.2.1, cIa cI (bd 10) 2 ms.2.2.2.1, cIa cI (bd 11) 2 ms.2.2.2.2.1, cZa cZ (bd 12) 2 ms.2.2.2.2.2.1, cJa cJ (bd 13) 6 ms.2.2.2.2.2.2, cJa cJ (bd 14) 16 (vp_updL mo1.2.2.1 0 ((((mw.1 * (32 : Int64)) + (16 : Int64)) + ((nI (2 * cy)).toInt64)) + (0 : Int64)))] H := hP
          have hD : va_D A [cMd bd k mc mw me (mo1.1, upd mo1.2.1 cy on, vp_updL mo1.2.2.1 0 ((((mw.1 * (32 : Int64)) + (16 : Int64)) + ((nI (2 * cy)).toInt64)) + (0 : Int64)), mo1.2.2.2.1 + (1 : Int32), mo1.2.2.2.2.1, mo1.2.2.2.2.2.1, mo1.2.2.2.2.2.2), cIa cI (bd 1) 128 mp, cZa cZ (bd 2) 30 me.1, cJa cJ (bd 3) 30 me.2.1, cIa cI (bd 4) 30 me.2.2.1, cZa cZ (bd 5) 6 mo1.1, cZa cZ (bd 6) 6 (upd mo1.2.1 cy on), cZa cZ (bd 7) 2 ms.1, cIa cI (bd 8) 2 ms.2.1, cZa cZ (bd 9) 2 ms.2.2.1, cIa cI (bd 10) 2 ms.2.2.2.1, cIa cI (bd 11) 2 ms.2.2.2.2.1, cZa cZ (bd 12) 2 ms.2.2.2.2.2.1, cJa cJ (bd 13) 6 ms.2.2.2.2.2.2, cJa cJ (bd 14) 16 (vp_updL mo1.2.2.1 0 ((((mw.1 * (32 : Int64)) + (16 : Int64)) + ((nI (2 * cy)).toInt64)) + (0 : Int64)))] := hD
          refine lv_goto (tgt := 104) hx hb dM_switched_94 (by decide) ?_
          exact k_vret hx hb hr hlk hP hD hS dM_switched_104 () rfl (by simp only [hres, fM_switched_l, if_neg h1001, if_pos h1003])
        · -- not taken at 62
          refine lv_iconst (v := (1 : Int32)) hx hb dM_switched_65 (by decide) ?_
          refine lv_goto (tgt := 70) hx hb dM_switched_66 (by decide) ?_
          refine lv_i2l (v := (1 : Int64)) hx hb dM_switched_70 (by decide) ?_
          refine lv_ladd hx hb dM_switched_71 ?_
          refine va_last hx hb hK hP hD hS 14 2 rfl rfl (vp_in_nI (n := 0) (N := 16) (by omega) (by omega)) dM_switched_72 (fun H locs hP hD hS => ?_)
          have e9 : (0 : Int32).toNatClampNeg = 0 := (nI_clamp (n := 0) (by omega))
          rw [e9] at hP hD
          have hP : va_P D vwCl [cMd bd k mc mw me (mo1.1, mo1.2.1, vp_updL mo1.2.2.1 0 ((((mw.1 * (32 : Int64)) + (16 : Int64)) + ((nI (2 * cy)).toInt64)) + (1 : Int64)), mo1.2.2.2.1, mo1.2.2.2.2.1, mo1.2.2.2.2.2.1, mo1.2.2.2.2.2.2), cIa cI (bd 1) 128 mp, cZa cZ (bd 2) 30 me.1, cJa cJ (bd 3) 30 me.2.1, cIa cI (bd 4) 30 me.2.2.1, cZa cZ (bd 5) 6 mo1.1, cZa cZ (bd 6) 6 mo1.2.1, cZa cZ (bd 7) 2 ms.1, cIa cI (bd 8) 2 ms.2.1, cZa cZ (bd 9) 2 ms.2.2.1, cIa cI (bd 10) 2 ms.2.2.2.1, cIa cI (bd 11) 2 ms.2.2.2.2.1, cZa cZ (bd 12) 2 ms.2.2.2.2.2.1, cJa cJ (bd 13) 6 ms.2.2.2.2.2.2, cJa cJ (bd 14) 16 (vp_updL mo1.2.2.1 0 ((((mw.1 * (32 : Int64)) + (16 : Int64)) + ((nI (2 * cy)).toInt64)) + (1 : Int64)))] H := hP
          have hD : va_D A [cMd bd k mc mw me (mo1.1, mo1.2.1, vp_updL mo1.2.2.1 0 ((((mw.1 * (32 : Int64)) + (16 : Int64)) + ((nI (2 * cy)).toInt64)) + (1 : Int64)), mo1.2.2.2.1, mo1.2.2.2.2.1, mo1.2.2.2.2.2.1, mo1.2.2.2.2.2.2), cIa cI (bd 1) 128 mp, cZa cZ (bd 2) 30 me.1, cJa cJ (bd 3) 30 me.2.1, cIa cI (bd 4) 30 me.2.2.1, cZa cZ (bd 5) 6 mo1.1, cZa cZ (bd 6) 6 mo1.2.1, cZa cZ (bd 7) 2 ms.1, cIa cI (bd 8) 2 ms.2.1, cZa cZ (bd 9) 2 ms.2.2.1, cIa cI (bd 10) 2 ms.2.2.2.1, cIa cI (bd 11) 2 ms.2.2.2.2.1, cZa cZ (bd 12) 2 ms.2.2.2.2.2.1, cJa cJ (bd 13) 6 ms.2.2.2.2.2.2, cJa cJ (bd 14) 16 (vp_updL mo1.2.2.1 0 ((((mw.1 * (32 : Int64)) + (16 : Int64)) + ((nI (2 * cy)).toInt64)) + (1 : Int64)))] := hD
          refine lv_aload_n hx hb dM_switched_73 rfl (lv_at hl 1 rfl) ?_
          refine lv_aload_n hx hb dM_switched_74 rfl (lv_at hl 1 rfl) ?_
          refine gfM_121 hx hb hts hown hN hK hP 0 rfl (v := .int mo1.2.2.2.1) rfl dM_switched_75 ?_
          refine lv_iconst (v := (1 : Int32)) hx hb dM_switched_78 (by decide) ?_
          refine lv_iadd hx hb dM_switched_79 ?_
          refine pfM_121 hx hb hts hown hN hK hP hD hS 0 rfl (v := .int (mo1.2.2.2.1 + (1 : Int32))) rfl rfl (Nat.le_of_ble_eq_true rfl) dM_switched_80 (fun H locs hP hD hS => ?_)
          have hP : va_P D vwCl [cMd bd k mc mw me (mo1.1, mo1.2.1, vp_updL mo1.2.2.1 0 ((((mw.1 * (32 : Int64)) + (16 : Int64)) + ((nI (2 * cy)).toInt64)) + (1 : Int64)), mo1.2.2.2.1 + (1 : Int32), mo1.2.2.2.2.1, mo1.2.2.2.2.2.1, mo1.2.2.2.2.2.2), cIa cI (bd 1) 128 mp, cZa cZ (bd 2) 30 me.1, cJa cJ (bd 3) 30 me.2.1, cIa cI (bd 4) 30 me.2.2.1, cZa cZ (bd 5) 6 mo1.1, cZa cZ (bd 6) 6 mo1.2.1, cZa cZ (bd 7) 2 ms.1, cIa cI (bd 8) 2 ms.2.1, cZa cZ (bd 9) 2 ms.2.2.1, cIa cI (bd 10) 2 ms.2.2.2.1, cIa cI (bd 11) 2 ms.2.2.2.2.1, cZa cZ (bd 12) 2 ms.2.2.2.2.2.1, cJa cJ (bd 13) 6 ms.2.2.2.2.2.2, cJa cJ (bd 14) 16 (vp_updL mo1.2.2.1 0 ((((mw.1 * (32 : Int64)) + (16 : Int64)) + ((nI (2 * cy)).toInt64)) + (1 : Int64)))] H := hP
          have hD : va_D A [cMd bd k mc mw me (mo1.1, mo1.2.1, vp_updL mo1.2.2.1 0 ((((mw.1 * (32 : Int64)) + (16 : Int64)) + ((nI (2 * cy)).toInt64)) + (1 : Int64)), mo1.2.2.2.1 + (1 : Int32), mo1.2.2.2.2.1, mo1.2.2.2.2.2.1, mo1.2.2.2.2.2.2), cIa cI (bd 1) 128 mp, cZa cZ (bd 2) 30 me.1, cJa cJ (bd 3) 30 me.2.1, cIa cI (bd 4) 30 me.2.2.1, cZa cZ (bd 5) 6 mo1.1, cZa cZ (bd 6) 6 mo1.2.1, cZa cZ (bd 7) 2 ms.1, cIa cI (bd 8) 2 ms.2.1, cZa cZ (bd 9) 2 ms.2.2.1, cIa cI (bd 10) 2 ms.2.2.2.1, cIa cI (bd 11) 2 ms.2.2.2.2.1, cZa cZ (bd 12) 2 ms.2.2.2.2.2.1, cJa cJ (bd 13) 6 ms.2.2.2.2.2.2, cJa cJ (bd 14) 16 (vp_updL mo1.2.2.1 0 ((((mw.1 * (32 : Int64)) + (16 : Int64)) + ((nI (2 * cy)).toInt64)) + (1 : Int64)))] := hD
          refine lv_iload_n hx hb dM_switched_83 rfl (lv_at hl 2 rfl) ?_
          refine lv_if_eq (tgt := 97) hx hb dM_switched_84 (by decide) (fun h0 => absurd h0 h1001) (fun _ => ?_)
          refine lv_aload_n hx hb dM_switched_87 rfl (lv_at hl 1 rfl) ?_
          refine gfM_31 hx hb hts hown hN hK hP 0 rfl (v := .ref (bd 6)) rfl dM_switched_88 ?_
          refine lv_iload_n hx hb dM_switched_91 rfl (lv_at hl 3 rfl) ?_
          refine lv_iload_n hx hb dM_switched_92 rfl (lv_at hl 4 rfl) ?_
          refine va_zast hx hb hK hP hD hS 6 0 rfl rfl (vp_in_nI (n := cy) (N := 6) (by omega) (by omega)) dM_switched_93 (fun H locs hP hD hS => ?_)
          rw [zn_nar hz] at hP hD
          have e9 : (nI cy).toNatClampNeg = cy := (nI_clamp (n := cy) (by omega))
          rw [e9] at hP hD
          have hP : va_P D vwCl [cMd bd k mc mw me (mo1.1, upd mo1.2.1 cy on, vp_updL mo1.2.2.1 0 ((((mw.1 * (32 : Int64)) + (16 : Int64)) + ((nI (2 * cy)).toInt64)) + (1 : Int64)), mo1.2.2.2.1 + (1 : Int32), mo1.2.2.2.2.1, mo1.2.2.2.2.2.1, mo1.2.2.2.2.2.2), cIa cI (bd 1) 128 mp, cZa cZ (bd 2) 30 me.1, cJa cJ (bd 3) 30 me.2.1, cIa cI (bd 4) 30 me.2.2.1, cZa cZ (bd 5) 6 mo1.1, cZa cZ (bd 6) 6 (upd mo1.2.1 cy on), cZa cZ (bd 7) 2 ms.1, cIa cI (bd 8) 2 ms.2.1, cZa cZ (bd 9) 2 ms.2.2.1, cIa cI (bd 10) 2 ms.2.2.2.1, cIa cI (bd 11) 2 ms.2.2.2.2.1, cZa cZ (bd 12) 2 ms.2.2.2.2.2.1, cJa cJ (bd 13) 6 ms.2.2.2.2.2.2, cJa cJ (bd 14) 16 (vp_updL mo1.2.2.1 0 ((((mw.1 * (32 : Int64)) + (16 : Int64)) + ((nI (2 * cy)).toInt64)) + (1 : Int64)))] H := hP
          have hD : va_D A [cMd bd k mc mw me (mo1.1, upd mo1.2.1 cy on, vp_updL mo1.2.2.1 0 ((((mw.1 * (32 : Int64)) + (16 : Int64)) + ((nI (2 * cy)).toInt64)) + (1 : Int64)), mo1.2.2.2.1 + (1 : Int32), mo1.2.2.2.2.1, mo1.2.2.2.2.2.1, mo1.2.2.2.2.2.2), cIa cI (bd 1) 128 mp, cZa cZ (bd 2) 30 me.1, cJa cJ (bd 3) 30 me.2.1, cIa cI (bd 4) 30 me.2.2.1, cZa cZ (bd 5) 6 mo1.1, cZa cZ (bd 6) 6 (upd mo1.2.1 cy on), cZa cZ (bd 7) 2 ms.1, cIa cI (bd 8) 2 ms.2.1, cZa cZ (bd 9) 2 ms.2.2.1, cIa cI (bd 10) 2 ms.2.2.2.1, cIa cI (bd 11) 2 ms.2.2.2.2.1, cZa cZ (bd 12) 2 ms.2.2.2.2.2.1, cJa cJ (bd 13) 6 ms.2.2.2.2.2.2, cJa cJ (bd 14) 16 (vp_updL mo1.2.2.1 0 ((((mw.1 * (32 : Int64)) + (16 : Int64)) + ((nI (2 * cy)).toInt64)) + (1 : Int64)))] := hD
          refine lv_goto (tgt := 104) hx hb dM_switched_94 (by decide) ?_
          exact k_vret hx hb hr hlk hP hD hS dM_switched_104 () rfl (by simp only [hres, fM_switched_l, if_neg h1001, if_neg h1003])
    | succ fuel ih =>
      intro j mo1 hj ls H locs hm hres hl hP hD hS
      subst hm
      refine lv_iload hx hb dM_switched_4 (lv_at hl 0 rfl) ?_
      refine lv_if_le (tgt := 31) hx hb dM_switched_6 (by decide) (fun h0 => absurd h0 (nI_nle (by omega) (by omega))) (fun _ => ?_)
      refine lv_aload_n hx hb dM_switched_9 rfl (lv_at hl 1 rfl) ?_
      refine gfM_55 hx hb hts hown hN hK hP 0 rfl (v := .ref (bd 14)) rfl dM_switched_10 ?_
      refine lv_iload hx hb dM_switched_13 (lv_at hl 0 rfl) ?_
      refine lv_aload_n hx hb dM_switched_15 rfl (lv_at hl 1 rfl) ?_
      refine gfM_55 hx hb hts hown hN hK hP 0 rfl (v := .ref (bd 14)) rfl dM_switched_16 ?_
      refine lv_iload hx hb dM_switched_19 (lv_at hl 0 rfl) ?_
      refine lv_iconst (v := (1 : Int32)) hx hb dM_switched_21 (by decide) ?_
      refine lv_isub hx hb dM_switched_22 ?_
      refine W.eq (g2 := F0 m 23 ls [.int (nI fuel), .ref (bd 14), .int (nI (fuel + 1)), .ref (bd 14)]) (congrArg (fun z => F0 m 23 ls (.int z :: [.ref (bd 14), .int (nI (fuel + 1)), .ref (bd 14)])) (nI_pred fuel)) ?_
      refine va_lald hx hb hK hP 14 2 rfl rfl (vp_in_nI (n := fuel) (N := 16) (by omega) (by omega)) dM_switched_23 ?_
      refine W.eq (g2 := F0 m 24 ls [.long (mo1.2.2.1 fuel), .int (nI (fuel + 1)), .ref (bd 14)]) (congrArg (fun z => F0 m 24 ls (.long (mo1.2.2.1 z) :: [.int (nI (fuel + 1)), .ref (bd 14)])) (nI_clamp (n := fuel) (by omega))) ?_
      refine va_last hx hb hK hP hD hS 14 2 rfl rfl (vp_in_nI (n := fuel + 1) (N := 16) (by omega) (by omega)) dM_switched_24 (fun H locs hP hD hS => ?_)
      have e9 : (nI (fuel + 1)).toNatClampNeg = fuel + 1 := (nI_clamp (n := fuel + 1) (by omega))
      rw [e9] at hP hD
      have hP : va_P D vwCl [cMd bd k mc mw me (mo1.1, mo1.2.1, vp_updL mo1.2.2.1 (fuel + 1) (mo1.2.2.1 fuel), mo1.2.2.2.1, mo1.2.2.2.2.1, mo1.2.2.2.2.2.1, mo1.2.2.2.2.2.2), cIa cI (bd 1) 128 mp, cZa cZ (bd 2) 30 me.1, cJa cJ (bd 3) 30 me.2.1, cIa cI (bd 4) 30 me.2.2.1, cZa cZ (bd 5) 6 mo1.1, cZa cZ (bd 6) 6 mo1.2.1, cZa cZ (bd 7) 2 ms.1, cIa cI (bd 8) 2 ms.2.1, cZa cZ (bd 9) 2 ms.2.2.1, cIa cI (bd 10) 2 ms.2.2.2.1, cIa cI (bd 11) 2 ms.2.2.2.2.1, cZa cZ (bd 12) 2 ms.2.2.2.2.2.1, cJa cJ (bd 13) 6 ms.2.2.2.2.2.2, cJa cJ (bd 14) 16 (vp_updL mo1.2.2.1 (fuel + 1) (mo1.2.2.1 fuel))] H := hP
      have hD : va_D A [cMd bd k mc mw me (mo1.1, mo1.2.1, vp_updL mo1.2.2.1 (fuel + 1) (mo1.2.2.1 fuel), mo1.2.2.2.1, mo1.2.2.2.2.1, mo1.2.2.2.2.2.1, mo1.2.2.2.2.2.2), cIa cI (bd 1) 128 mp, cZa cZ (bd 2) 30 me.1, cJa cJ (bd 3) 30 me.2.1, cIa cI (bd 4) 30 me.2.2.1, cZa cZ (bd 5) 6 mo1.1, cZa cZ (bd 6) 6 mo1.2.1, cZa cZ (bd 7) 2 ms.1, cIa cI (bd 8) 2 ms.2.1, cZa cZ (bd 9) 2 ms.2.2.1, cIa cI (bd 10) 2 ms.2.2.2.1, cIa cI (bd 11) 2 ms.2.2.2.2.1, cZa cZ (bd 12) 2 ms.2.2.2.2.2.1, cJa cJ (bd 13) 6 ms.2.2.2.2.2.2, cJa cJ (bd 14) 16 (vp_updL mo1.2.2.1 (fuel + 1) (mo1.2.2.1 fuel))] := hD
      refine lv_iinc (k := 0) (v := nI fuel) (lv' := [(4, .int (nI fuel)), (0, .ref (bd 0)), (1, .int isI), (2, .int (nI cy)), (3, .int on)]) hx hb dM_switched_25 hl rfl (pk_m1 fuel) (by decide) rfl (fun ls hl => ?_)
      refine lv_goto (tgt := 4) hx hb dM_switched_28 (by decide) ?_
      have hl := lv_sub (l' := [(4, .int (nI fuel)), (0, .ref (bd 0)), (1, .int isI), (2, .int (nI cy)), (3, .int on)]) hl [0, 1, 2, 3, 4] rfl
      exact ih fuel (mo1.1, mo1.2.1, vp_updL mo1.2.2.1 (fuel + 1) (mo1.2.2.1 fuel), mo1.2.2.2.1, mo1.2.2.2.2.1, mo1.2.2.2.2.2.1, mo1.2.2.2.2.2.2) (by omega) ls H _ rfl (by simp only [hres, fM_switched_l]) hl hP hD hS
  exact LOOP4 15 15 mo (by decide) ls H _ rfl rfl hl hP hD hS

def fM_fire (k : Nat) (mc : McT) (mw : MwT) (mp : MpT) (me : MeT) (mo : MoT) (ms : MsT) (pl : Nat) : MeT × MoT :=
  if (nI (pl / 6)) = 0 then
    if (mo.1 (pl % 6)) = 0 then
      let q16 := fM_switched k mc mw mp (upd me.1 pl (0 : Int32), me.2.1, me.2.2.1, me.2.2.2) mo ms (0 : Int32) (pl % 6) (1 : Int32)
      let q17 := fM_plan k mc mw mp (upd me.1 pl (0 : Int32), me.2.1, me.2.2.1, me.2.2.2) q16 ms 2 (pl % 6) (mw.1 + mc.2.2.1.toInt64)
      (q17, q16)
    else
      ((upd me.1 pl (0 : Int32), me.2.1, me.2.2.1, me.2.2.2), mo)
  else
    if (nI (pl / 6)) = (1 : Int32) then
      if (mo.1 (pl % 6)) = 0 then
        ((upd me.1 pl (0 : Int32), me.2.1, me.2.2.1, me.2.2.2), mo)
      else
        let q14 := fM_switched k mc mw mp (upd me.1 pl (0 : Int32), me.2.1, me.2.2.1, me.2.2.2) mo ms (0 : Int32) (pl % 6) (0 : Int32)
        ((upd (upd me.1 pl (0 : Int32)) (12 + (pl % 6)) (0 : Int32), me.2.1, me.2.2.1, me.2.2.2), (q14.1, q14.2.1, q14.2.2.1, q14.2.2.2.1, q14.2.2.2.2.1 + (1 : Int32), q14.2.2.2.2.2.1, q14.2.2.2.2.2.2))
    else
      if (nI (pl / 6)) = (2 : Int32) then
        let q12 := fM_switched k mc mw mp (upd me.1 pl (0 : Int32), me.2.1, me.2.2.1, me.2.2.2) mo ms (0 : Int32) (pl % 6) (0 : Int32)
        ((upd me.1 pl (0 : Int32), me.2.1, me.2.2.1, me.2.2.2), (q12.1, q12.2.1, q12.2.2.1, q12.2.2.2.1, q12.2.2.2.2.1, q12.2.2.2.2.2.1 + (1 : Int32), q12.2.2.2.2.2.2))
      else
        if (nI (pl / 6)) = (3 : Int32) then
          if (mo.2.1 (pl % 6)) = 0 then
            let q8 := fM_amount k mc mw mp (upd me.1 pl (0 : Int32), me.2.1, me.2.2.1, me.2.2.2) mo ms
            if q8 = 0 then
              ((upd me.1 pl (0 : Int32), me.2.1, me.2.2.1, me.2.2.2), mo)
            else
              let q10 := fM_switched k mc mw mp (upd me.1 pl (0 : Int32), me.2.1, me.2.2.1, me.2.2.2) mo ms (1 : Int32) (pl % 6) (1 : Int32)
              let q11 := fM_plan k mc mw mp (upd me.1 pl (0 : Int32), me.2.1, me.2.2.1, me.2.2.2) q10 ms 4 (pl % 6) (mw.1 + q8.toInt64)
              (q11, q10)
          else
            ((upd me.1 pl (0 : Int32), me.2.1, me.2.2.1, me.2.2.2), mo)
        else
          if (nI (pl / 6)) = (4 : Int32) then
            let q6 := fM_switched k mc mw mp (upd me.1 pl (0 : Int32), me.2.1, me.2.2.1, me.2.2.2) mo ms (1 : Int32) (pl % 6) (0 : Int32)
            ((upd me.1 pl (0 : Int32), me.2.1, me.2.2.1, me.2.2.2), q6)
          else
            ((upd me.1 pl (0 : Int32), me.2.1, me.2.2.1, me.2.2.2), mo)
set_option maxRecDepth 100000 in
set_option maxHeartbeats 4000000 in
theorem ctM_fire (l : Launch) (D : va_G) (cZ cI cJ : ClassId) (tL tH : Nat) (sz : Nat) (bd : Nat → Nat) (k : Nat) (mc : McT) (mw : MwT) (mp : MpT) (me : MeT) (mo : MoT) (ms : MsT) (pl : Nat)  (hk : 0 < k ∧ k ≤ 6) (hpl : pl < 30) : Ct l yM_fire wM_fire ({ frames := 4, cells := 0, slots := 0, locals := 101 }) D (tyG cZ cI cJ) tL tH [.ref (bd 0), .int (nI pl)] sz [cMd bd k mc mw me mo, cIa cI (bd 1) 128 mp, cZa cZ (bd 2) 30 me.1, cJa cJ (bd 3) 30 me.2.1, cIa cI (bd 4) 30 me.2.2.1, cZa cZ (bd 5) 6 mo.1, cZa cZ (bd 6) 6 mo.2.1, cZa cZ (bd 7) 2 ms.1, cIa cI (bd 8) 2 ms.2.1, cZa cZ (bd 9) 2 ms.2.2.1, cIa cI (bd 10) 2 ms.2.2.2.1, cIa cI (bd 11) 2 ms.2.2.2.2.1, cZa cZ (bd 12) 2 ms.2.2.2.2.2.1, cJa cJ (bd 13) 6 ms.2.2.2.2.2.2, cJa cJ (bd 14) 16 mo.2.2.1] (fun _ : Unit => none) (fun _ : Unit => [cMd bd k mc mw ((fM_fire k mc mw mp me mo ms pl).1) ((fM_fire k mc mw mp me mo ms pl).2), cIa cI (bd 1) 128 mp, cZa cZ (bd 2) 30 (((fM_fire k mc mw mp me mo ms pl).1).1), cJa cJ (bd 3) 30 (((fM_fire k mc mw mp me mo ms pl).1).2.1), cIa cI (bd 4) 30 (((fM_fire k mc mw mp me mo ms pl).1).2.2.1), cZa cZ (bd 5) 6 (((fM_fire k mc mw mp me mo ms pl).2).1), cZa cZ (bd 6) 6 (((fM_fire k mc mw mp me mo ms pl).2).2.1), cZa cZ (bd 7) 2 ms.1, cIa cI (bd 8) 2 ms.2.1, cZa cZ (bd 9) 2 ms.2.2.1, cIa cI (bd 10) 2 ms.2.2.2.1, cIa cI (bd 11) 2 ms.2.2.2.2.1, cZa cZ (bd 12) 2 ms.2.2.2.2.2.1, cJa cJ (bd 13) 6 ms.2.2.2.2.2.2, cJa cJ (bd 14) 16 (((fM_fire k mc mw mp me mo ms pl).2).2.2.1)]) 0 0 := by
  refine k_go (by decide +kernel) (Nat.le_of_ble_eq_true rfl) ?_
  intro p e s m args below meth c A ls H hx hb hr hml hts hown hlk hnm hK hN hT hA hS hP hD hl
  have hown : s.vm.findClass "ToothWheelTimerModel" = some m.cls := hown
  have hlk : meth.locks = false := hlk
  have hl : lv_has ls 5 [(0, .ref (bd 0)), (1, .int (nI pl))] := hl
  refine lv_iload_n hx hb dM_fire_0 rfl (lv_at hl 1 rfl) ?_
  refine lv_bipush (v := (6 : Int32)) hx hb dM_fire_1 (by decide) ?_
  refine lv_idiv hx hb dM_fire_3 (by decide) ?_
  refine W.eq (g2 := F0 m 4 ls [.int (nI (pl / 6))]) (congrArg (fun z => F0 m 4 ls (.int z :: [])) (pk_div (a := pl) (d := 6) (by omega) (by omega) (by omega))) ?_
  refine lv_istore_n (lv' := [(2, .int (nI (pl / 6))), (0, .ref (bd 0)), (1, .int (nI pl))]) hx hb dM_fire_4 rfl hl (by decide) rfl (fun ls hl => ?_)
  refine lv_iload_n hx hb dM_fire_5 rfl (lv_at hl 2 rfl) ?_
  refine lv_bipush (v := (6 : Int32)) hx hb dM_fire_6 (by decide) ?_
  refine lv_irem hx hb dM_fire_8 (by decide) ?_
  refine W.eq (g2 := F0 m 9 ls [.int (nI (pl % 6))]) (congrArg (fun z => F0 m 9 ls (.int z :: [])) (pk_rem (a := pl) (d := 6) (by omega) (by omega) (by omega))) ?_
  refine lv_istore_n (lv' := [(3, .int (nI (pl % 6))), (2, .int (nI (pl / 6))), (0, .ref (bd 0)), (1, .int (nI pl))]) hx hb dM_fire_9 rfl hl (by decide) rfl (fun ls hl => ?_)
  refine lv_aload_n hx hb dM_fire_10 rfl (lv_at hl 2 rfl) ?_
  refine gfM_17 hx hb hts hown hN hK hP 0 rfl (v := .ref (bd 2)) rfl dM_fire_11 ?_
  refine lv_iload_n hx hb dM_fire_14 rfl (lv_at hl 3 rfl) ?_
  refine lv_iconst (v := (0 : Int32)) hx hb dM_fire_15 (by decide) ?_
  refine va_zast hx hb hK hP hD hS 2 0 rfl rfl (vp_in_nI (n := pl) (N := 30) (by omega) (by omega)) dM_fire_16 (fun H locs hP hD hS => ?_)
  rw [zn_nar (Or.inl rfl)] at hP hD
  have e9 : (nI pl).toNatClampNeg = pl := (nI_clamp (n := pl) (by omega))
  rw [e9] at hP hD
  have hP : va_P D vwCl [cMd bd k mc mw (upd me.1 pl (0 : Int32), me.2.1, me.2.2.1, me.2.2.2) mo, cIa cI (bd 1) 128 mp, cZa cZ (bd 2) 30 (upd me.1 pl (0 : Int32)), cJa cJ (bd 3) 30 me.2.1, cIa cI (bd 4) 30 me.2.2.1, cZa cZ (bd 5) 6 mo.1, cZa cZ (bd 6) 6 mo.2.1, cZa cZ (bd 7) 2 ms.1, cIa cI (bd 8) 2 ms.2.1, cZa cZ (bd 9) 2 ms.2.2.1, cIa cI (bd 10) 2 ms.2.2.2.1, cIa cI (bd 11) 2 ms.2.2.2.2.1, cZa cZ (bd 12) 2 ms.2.2.2.2.2.1, cJa cJ (bd 13) 6 ms.2.2.2.2.2.2, cJa cJ (bd 14) 16 mo.2.2.1] H := hP
  have hD : va_D A [cMd bd k mc mw (upd me.1 pl (0 : Int32), me.2.1, me.2.2.1, me.2.2.2) mo, cIa cI (bd 1) 128 mp, cZa cZ (bd 2) 30 (upd me.1 pl (0 : Int32)), cJa cJ (bd 3) 30 me.2.1, cIa cI (bd 4) 30 me.2.2.1, cZa cZ (bd 5) 6 mo.1, cZa cZ (bd 6) 6 mo.2.1, cZa cZ (bd 7) 2 ms.1, cIa cI (bd 8) 2 ms.2.1, cZa cZ (bd 9) 2 ms.2.2.1, cIa cI (bd 10) 2 ms.2.2.2.1, cIa cI (bd 11) 2 ms.2.2.2.2.1, cZa cZ (bd 12) 2 ms.2.2.2.2.2.1, cJa cJ (bd 13) 6 ms.2.2.2.2.2.2, cJa cJ (bd 14) 16 mo.2.2.1] := hD
  refine lv_iload_n hx hb dM_fire_17 rfl (lv_at hl 1 rfl) ?_
  refine lv_if_ne (tgt := 53) hx hb dM_fire_18 (by decide) (fun h1 => ?_) (fun h1 => ?_)
  · -- taken at 18
    refine lv_iload_n hx hb dM_fire_53 rfl (lv_at hl 1 rfl) ?_
    refine lv_iconst (v := (1 : Int32)) hx hb dM_fire_54 (by decide) ?_
    refine lv_icmp_ne (tgt := 94) hx hb dM_fire_55 (by decide) (fun h2 => ?_) (fun h2 => ?_)
    · -- taken at 55
      refine lv_iload_n hx hb dM_fire_94 rfl (lv_at hl 1 rfl) ?_
      refine lv_iconst (v := (2 : Int32)) hx hb dM_fire_95 (by decide) ?_
      refine lv_icmp_ne (tgt := 116) hx hb dM_fire_96 (by decide) (fun h3 => ?_) (fun h3 => ?_)
      · -- taken at 96
        refine lv_iload_n hx hb dM_fire_116 rfl (lv_at hl 1 rfl) ?_
        refine lv_iconst (v := (3 : Int32)) hx hb dM_fire_117 (by decide) ?_
        refine lv_icmp_ne (tgt := 162) hx hb dM_fire_118 (by decide) (fun h4 => ?_) (fun h4 => ?_)
        · -- taken at 118
          refine lv_iload_n hx hb dM_fire_162 rfl (lv_at hl 1 rfl) ?_
          refine lv_iconst (v := (4 : Int32)) hx hb dM_fire_163 (by decide) ?_
          refine lv_icmp_ne (tgt := 174) hx hb dM_fire_164 (by decide) (fun h5 => ?_) (fun h5 => ?_)
          · -- taken at 164
            exact k_vret hx hb hr hlk hP hD hS dM_fire_174 () rfl (by simp only [fM_fire, if_neg h1, if_neg h2, if_neg h3, if_neg h4, if_neg h5])
          · -- not taken at 164
            refine lv_aload_n hx hb dM_fire_167 rfl (lv_at hl 2 rfl) ?_
            refine lv_iconst (v := (1 : Int32)) hx hb dM_fire_168 (by decide) ?_
            refine lv_iload_n hx hb dM_fire_169 rfl (lv_at hl 0 rfl) ?_
            refine lv_iconst (v := (0 : Int32)) hx hb dM_fire_170 (by decide) ?_
            refine k_ca0 (wc := [cMd bd k mc mw (upd me.1 pl (0 : Int32), me.2.1, me.2.2.1, me.2.2.2) mo, cIa cI (bd 1) 128 mp, cZa cZ (bd 2) 30 (upd me.1 pl (0 : Int32)), cJa cJ (bd 3) 30 me.2.1, cIa cI (bd 4) 30 me.2.2.1, cZa cZ (bd 5) 6 mo.1, cZa cZ (bd 6) 6 mo.2.1, cZa cZ (bd 7) 2 ms.1, cIa cI (bd 8) 2 ms.2.1, cZa cZ (bd 9) 2 ms.2.2.1, cIa cI (bd 10) 2 ms.2.2.2.1, cIa cI (bd 11) 2 ms.2.2.2.2.1, cZa cZ (bd 12) 2 ms.2.2.2.2.2.1, cJa cJ (bd 13) 6 ms.2.2.2.2.2.2, cJa cJ (bd 14) 16 mo.2.2.1]) (wr := []) (va_runV (As := [.int (1 : Int32), .int (nI (pl % 6)), .int (0 : Int32)]) (rest := []) ⟨hx, hb, hml, hown, hts⟩ (ctM_switched l D cZ cI cJ tL tH H.size bd k mc mw mp (upd me.1 pl (0 : Int32), me.2.1, me.2.2.1, me.2.2.2) mo ms (1 : Int32) (pl % 6) (0 : Int32) hk (by omega) (Or.inl rfl)) (cwM_124 hts hN rfl rfl ⟨Nat.le_of_ble_eq_true rfl, Nat.le_of_ble_eq_true rfl⟩) (k_preV hK hN hT hA hS hP hD [0, 1, 2, 3, 4, 5, 6, 7, 8, 9, 10, 11, 12, 13, 14] rfl (by decide) 0 rfl rfl) rfl rfl hl.1 rfl (lv_room (Nat.le_of_ble_eq_true rfl)) dM_fire_171 ⟨Nat.zero_le _, Nat.zero_le _⟩) hP hD hS hA [0, 1, 2, 3, 4, 5, 6, 7, 8, 9, 10, 11, 12, 13, 14] [] rfl rfl (by decide) (by decide) (fun _ H locs hP hD hS => ?_)
            refine W.eq (g2 := F0 m 174 ls []) rfl ?_
            have hP : va_P D vwCl [cMd bd k mc mw (upd me.1 pl (0 : Int32), me.2.1, me.2.2.1, me.2.2.2) (fM_switched k mc mw mp (upd me.1 pl (0 : Int32), me.2.1, me.2.2.1, me.2.2.2) mo ms (1 : Int32) (pl % 6) (0 : Int32)), cIa cI (bd 1) 128 mp, cZa cZ (bd 2) 30 (upd me.1 pl (0 : Int32)), cJa cJ (bd 3) 30 me.2.1, cIa cI (bd 4) 30 me.2.2.1, cZa cZ (bd 5) 6 ((fM_switched k mc mw mp (upd me.1 pl (0 : Int32), me.2.1, me.2.2.1, me.2.2.2) mo ms (1 : Int32) (pl % 6) (0 : Int32)).1), cZa cZ (bd 6) 6 ((fM_switched k mc mw mp (upd me.1 pl (0 : Int32), me.2.1, me.2.2.1, me.2.2.2) mo ms (1 : Int32) (pl % 6) (0 : Int32)).2.1), cZa cZ (bd 7) 2 ms.1, cIa cI (bd 8) 2 ms.2.1, cZa cZ (bd 9) 2 ms.2.2.1, cIa cI (bd 10) 2 ms.2.2.2.1, cIa cI (bd 11) 2 ms.2.2.2.2.1, cZa cZ (bd 12) 2 ms.2.2.2.2.2.1, cJa cJ (bd 13) 6 ms.2.2.2.2.2.2, cJa cJ (bd 14) 16 ((fM_switched k mc mw mp (upd me.1 pl (0 : Int32), me.2.1, me.2.2.1, me.2.2.2) mo ms (1 : Int32) (pl % 6) (0 : Int32)).2.2.1)] H := hP
            have hD : va_D A [cMd bd k mc mw (upd me.1 pl (0 : Int32), me.2.1, me.2.2.1, me.2.2.2) (fM_switched k mc mw mp (upd me.1 pl (0 : Int32), me.2.1, me.2.2.1, me.2.2.2) mo ms (1 : Int32) (pl % 6) (0 : Int32)), cIa cI (bd 1) 128 mp, cZa cZ (bd 2) 30 (upd me.1 pl (0 : Int32)), cJa cJ (bd 3) 30 me.2.1, cIa cI (bd 4) 30 me.2.2.1, cZa cZ (bd 5) 6 ((fM_switched k mc mw mp (upd me.1 pl (0 : Int32), me.2.1, me.2.2.1, me.2.2.2) mo ms (1 : Int32) (pl % 6) (0 : Int32)).1), cZa cZ (bd 6) 6 ((fM_switched k mc mw mp (upd me.1 pl (0 : Int32), me.2.1, me.2.2.1, me.2.2.2) mo ms (1 : Int32) (pl % 6) (0 : Int32)).2.1), cZa cZ (bd 7) 2 ms.1, cIa cI (bd 8) 2 ms.2.1, cZa cZ (bd 9) 2 ms.2.2.1, cIa cI (bd 10) 2 ms.2.2.2.1, cIa cI (bd 11) 2 ms.2.2.2.2.1, cZa cZ (bd 12) 2 ms.2.2.2.2.2.1, cJa cJ (bd 13) 6 ms.2.2.2.2.2.2, cJa cJ (bd 14) 16 ((fM_switched k mc mw mp (upd me.1 pl (0 : Int32), me.2.1, me.2.2.1, me.2.2.2) mo ms (1 : Int32) (pl % 6) (0 : Int32)).2.2.1)] := hD
            generalize hq6 : fM_switched k mc mw mp (upd me.1 pl (0 : Int32), me.2.1, me.2.2.1, me.2.2.2) mo ms (1 : Int32) (pl % 6) (0 : Int32) = q6 at hP hD 
            have hP : va_P D vwCl [cMd bd k mc mw (upd me.1 pl (0 : Int32), me.2.1, me.2.2.1, me.2.2.2) q6, cIa cI (bd 1) 128 mp, cZa cZ (bd 2) 30 (upd me.1 pl (0 : Int32)), cJa cJ (bd 3) 30 me.2.1, cIa cI (bd 4) 30 me.2.2.1, cZa cZ (bd 5) 6 q6.1, cZa cZ (bd 6) 6 q6.2.1, cZa cZ (bd 7) 2 ms.1, cIa cI (bd 8) 2 ms.2.1, cZa cZ (bd 9) 2 ms.2.2.1, cIa cI (bd 10) 2 ms.2.2.2.1, cIa cI (bd 11) 2 ms.2.2.2.2.1, cZa cZ (bd 12) 2 ms.2.2.2.2.2.1, cJa cJ (bd 13) 6 ms.2.2.2.2.2.2, cJa cJ (bd 14) 16 q6.2.2.1] H := hP
            have hD : va_D A [cMd bd k mc mw (upd me.1 pl (0 : Int32), me.2.1, me.2.2.1, me.2.2.2) q6, cIa cI (bd 1) 128 mp, cZa cZ (bd 2) 30 (upd me.1 pl (0 : Int32)), cJa cJ (bd 3) 30 me.2.1, cIa cI (bd 4) 30 me.2.2.1, cZa cZ (bd 5) 6 q6.1, cZa cZ (bd 6) 6 q6.2.1, cZa cZ (bd 7) 2 ms.1, cIa cI (bd 8) 2 ms.2.1, cZa cZ (bd 9) 2 ms.2.2.1, cIa cI (bd 10) 2 ms.2.2.2.1, cIa cI (bd 11) 2 ms.2.2.2.2.1, cZa cZ (bd 12) 2 ms.2.2.2.2.2.1, cJa cJ (bd 13) 6 ms.2.2.2.2.2.2, cJa cJ (bd 14) 16 q6.2.2.1] := hD
            exact k_vret hx hb hr hlk hP hD hS dM_fire_174 () rfl (by simp only [fM_fire, if_neg h1, if_neg h2, if_neg h3, if_neg h4, if_pos h5, hq6])
        · -- not taken at 118
          refine lv_aload_n hx hb dM_fire_121 rfl (lv_at hl 2 rfl) ?_
          refine gfM_31 hx hb hts hown hN hK hP 0 rfl (v := .ref (bd 6)) rfl dM_fire_122 ?_
          refine lv_iload_n hx hb dM_fire_125 rfl (lv_at hl 0 rfl) ?_
          refine va_zald hx hb hK hP 6 0 rfl rfl (vp_in_nI (n := pl % 6) (N := 6) (by omega) (by omega)) dM_fire_126 ?_
          refine W.eq (g2 := F0 m 127 ls [.int (mo.2.1 (pl % 6))]) (congrArg (fun z => F0 m 127 ls (.int (mo.2.1 z) :: [])) (nI_clamp (n := pl % 6) (by omega))) ?_
          refine lv_if_ne (tgt := 162) hx hb dM_fire_127 (by decide) (fun h7 => ?_) (fun h7 => ?_)
          · -- taken at 127
            refine lv_iload_n hx hb dM_fire_162 rfl (lv_at hl 1 rfl) ?_
            refine lv_iconst (v := (4 : Int32)) hx hb dM_fire_163 (by decide) ?_
            refine lv_icmp_ne (tgt := 174) hx hb dM_fire_164 (by decide) (fun _ => ?_) (fun h0 => absurd h0 (by rw [h4]; decide))
            exact k_vret hx hb hr hlk hP hD hS dM_fire_174 () rfl (by simp only [fM_fire, if_neg h1, if_neg h2, if_neg h3, if_pos h4, if_neg h7])
          · -- not taken at 127
            refine lv_aload_n hx hb dM_fire_130 rfl (lv_at hl 2 rfl) ?_
            refine k_ca0 (wc := [cMd bd k mc mw (upd me.1 pl (0 : Int32), me.2.1, me.2.2.1, me.2.2.2) mo, cIa cI (bd 1) 128 mp, cZa cZ (bd 2) 30 (upd me.1 pl (0 : Int32)), cJa cJ (bd 3) 30 me.2.1, cIa cI (bd 4) 30 me.2.2.1, cZa cZ (bd 5) 6 mo.1, cZa cZ (bd 6) 6 mo.2.1, cZa cZ (bd 7) 2 ms.1, cIa cI (bd 8) 2 ms.2.1, cZa cZ (bd 9) 2 ms.2.2.1, cIa cI (bd 10) 2 ms.2.2.2.1, cIa cI (bd 11) 2 ms.2.2.2.2.1, cZa cZ (bd 12) 2 ms.2.2.2.2.2.1, cJa cJ (bd 13) 6 ms.2.2.2.2.2.2, cJa cJ (bd 14) 16 mo.2.2.1]) (wr := []) (va_runV (As := []) (rest := []) ⟨hx, hb, hml, hown, hts⟩ (ctM_amount l D cZ cI cJ tL tH H.size bd k mc mw mp (upd me.1 pl (0 : Int32), me.2.1, me.2.2.1, me.2.2.2) mo ms hk) (cwM_138 hts hN rfl rfl ⟨Nat.le_of_ble_eq_true rfl, Nat.le_of_ble_eq_true rfl⟩) (k_preV hK hN hT hA hS hP hD [0, 1, 2, 3, 4, 5, 6, 7, 8, 9, 10, 11, 12, 13, 14] rfl (by decide) 0 rfl rfl) rfl rfl hl.1 rfl (lv_room (Nat.le_of_ble_eq_true rfl)) dM_fire_131 ⟨Nat.zero_le _, Nat.zero_le _⟩) hP hD hS hA [0, 1, 2, 3, 4, 5, 6, 7, 8, 9, 10, 11, 12, 13, 14] [] rfl rfl (by decide) (by decide) (fun _ H locs hP hD hS => ?_)
            refine W.eq (g2 := F0 m 134 ls [.int (fM_amount k mc mw mp (upd me.1 pl (0 : Int32), me.2.1, me.2.2.1, me.2.2.2) mo ms)]) rfl ?_
            have hP : va_P D vwCl [cMd bd k mc mw (upd me.1 pl (0 : Int32), me.2.1, me.2.2.1, me.2.2.2) mo, cIa cI (bd 1) 128 mp, cZa cZ (bd 2) 30 (upd me.1 pl (0 : Int32)), cJa cJ (bd 3) 30 me.2.1, cIa cI (bd 4) 30 me.2.2.1, cZa cZ (bd 5) 6 mo.1, cZa cZ (bd 6) 6 mo.2.1, cZa cZ (bd 7) 2 ms.1, cIa cI (bd 8) 2 ms.2.1, cZa cZ (bd 9) 2 ms.2.2.1, cIa cI (bd 10) 2 ms.2.2.2.1, cIa cI (bd 11) 2 ms.2.2.2.2.1, cZa cZ (bd 12) 2 ms.2.2.2.2.2.1, cJa cJ (bd 13) 6 ms.2.2.2.2.2.2, cJa cJ (bd 14) 16 mo.2.2.1] H := hP
            have hD : va_D A [cMd bd k mc mw (upd me.1 pl (0 : Int32), me.2.1, me.2.2.1, me.2.2.2) mo, cIa cI (bd 1) 128 mp, cZa cZ (bd 2) 30 (upd me.1 pl (0 : Int32)), cJa cJ (bd 3) 30 me.2.1, cIa cI (bd 4) 30 me.2.2.1, cZa cZ (bd 5) 6 mo.1, cZa cZ (bd 6) 6 mo.2.1, cZa cZ (bd 7) 2 ms.1, cIa cI (bd 8) 2 ms.2.1, cZa cZ (bd 9) 2 ms.2.2.1, cIa cI (bd 10) 2 ms.2.2.2.1, cIa cI (bd 11) 2 ms.2.2.2.2.1, cZa cZ (bd 12) 2 ms.2.2.2.2.2.1, cJa cJ (bd 13) 6 ms.2.2.2.2.2.2, cJa cJ (bd 14) 16 mo.2.2.1] := hD
            generalize hq8 : fM_amount k mc mw mp (upd me.1 pl (0 : Int32), me.2.1, me.2.2.1, me.2.2.2) mo ms = q8 at ⊢
            refine lv_istore (lv' := [(4, .int q8), (3, .int (nI (pl % 6))), (2, .int (nI (pl / 6))), (0, .ref (bd 0)), (1, .int (nI pl))]) hx hb dM_fire_134 hl (by decide) rfl (fun ls hl => ?_)
            refine lv_iload hx hb dM_fire_136 (lv_at hl 0 rfl) ?_
            refine lv_if_eq (tgt := 162) hx hb dM_fire_138 (by decide) (fun h9 => ?_) (fun h9 => ?_)
            · -- taken at 138
              refine lv_iload_n hx hb dM_fire_162 rfl (lv_at hl 2 rfl) ?_
              refine lv_iconst (v := (4 : Int32)) hx hb dM_fire_163 (by decide) ?_
              refine lv_icmp_ne (tgt := 174) hx hb dM_fire_164 (by decide) (fun _ => ?_) (fun h0 => absurd h0 (by rw [h4]; decide))
              exact k_vret hx hb hr hlk hP hD hS dM_fire_174 () rfl (by simp only [fM_fire, if_neg h1, if_neg h2, if_neg h3, if_pos h4, if_pos h7, hq8, if_pos h9])
            · -- not taken at 138
              refine lv_aload_n hx hb dM_fire_141 rfl (lv_at hl 3 rfl) ?_
              refine lv_iconst (v := (1 : Int32)) hx hb dM_fire_142 (by decide) ?_
              refine lv_iload_n hx hb dM_fire_143 rfl (lv_at hl 1 rfl) ?_
              refine lv_iconst (v := (1 : Int32)) hx hb dM_fire_144 (by decide) ?_
              refine k_ca0 (wc := [cMd bd k mc mw (upd me.1 pl (0 : Int32), me.2.1, me.2.2.1, me.2.2.2) mo, cIa cI (bd 1) 128 mp, cZa cZ (bd 2) 30 (upd me.1 pl (0 : Int32)), cJa cJ (bd 3) 30 me.2.1, cIa cI (bd 4) 30 me.2.2.1, cZa cZ (bd 5) 6 mo.1, cZa cZ (bd 6) 6 mo.2.1, cZa cZ (bd 7) 2 ms.1, cIa cI (bd 8) 2 ms.2.1, cZa cZ (bd 9) 2 ms.2.2.1, cIa cI (bd 10) 2 ms.2.2.2.1, cIa cI (bd 11) 2 ms.2.2.2.2.1, cZa cZ (bd 12) 2 ms.2.2.2.2.2.1, cJa cJ (bd 13) 6 ms.2.2.2.2.2.2, cJa cJ (bd 14) 16 mo.2.2.1]) (wr := []) (va_runV (As := [.int (1 : Int32), .int (nI (pl % 6)), .int (1 : Int32)]) (rest := []) ⟨hx, hb, hml, hown, hts⟩ (ctM_switched l D cZ cI cJ tL tH H.size bd k mc mw mp (upd me.1 pl (0 : Int32), me.2.1, me.2.2.1, me.2.2.2) mo ms (1 : Int32) (pl % 6) (1 : Int32) hk (by omega) (Or.inr rfl)) (cwM_124 hts hN rfl rfl ⟨Nat.le_of_ble_eq_true rfl, Nat.le_of_ble_eq_true rfl⟩) (k_preV hK hN hT hA hS hP hD [0, 1, 2, 3, 4, 5, 6, 7, 8, 9, 10, 11, 12, 13, 14] rfl (by decide) 0 rfl rfl) rfl rfl hl.1 rfl (lv_room (Nat.le_of_ble_eq_true rfl)) dM_fire_145 ⟨Nat.zero_le _, Nat.zero_le _⟩) hP hD hS hA [0, 1, 2, 3, 4, 5, 6, 7, 8, 9, 10, 11, 12, 13, 14] [] rfl rfl (by decide) (by decide) (fun _ H locs hP hD hS => ?_)
              refine W.eq (g2 := F0 m 148 ls []) rfl ?_
              have hP : va_P D vwCl [cMd bd k mc mw (upd me.1 pl (0 : Int32), me.2.1, me.2.2.1, me.2.2.2) (fM_switched k mc mw mp (upd me.1 pl (0 : Int32), me.2.1, me.2.2.1, me.2.2.2) mo ms (1 : Int32) (pl % 6) (1 : Int32)), cIa cI (bd 1) 128 mp, cZa cZ (bd 2) 30 (upd me.1 pl (0 : Int32)), cJa cJ (bd 3) 30 me.2.1, cIa cI (bd 4) 30 me.2.2.1, cZa cZ (bd 5) 6 ((fM_switched k mc mw mp (upd me.1 pl (0 : Int32), me.2.1, me.2.2.1, me.2.2.2) mo ms (1 : Int32) (pl % 6) (1 : Int32)).1), cZa cZ (bd 6) 6 ((fM_switched k mc mw mp (upd me.1 pl (0 : Int32), me.2.1, me.2.2.1, me.2.2.2) mo ms (1 : Int32) (pl % 6) (1 : Int32)).2.1), cZa cZ (bd 7) 2 ms.1, cIa cI (bd 8) 2 ms.2.1, cZa cZ (bd 9) 2 ms.2.2.1, cIa cI (bd 10) 2 ms.2.2.2.1, cIa cI (bd 11) 2 ms.2.2.2.2.1, cZa cZ (bd 12) 2 ms.2.2.2.2.2.1, cJa cJ (bd 13) 6 ms.2.2.2.2.2.2, cJa cJ (bd 14) 16 ((fM_switched k mc mw mp (upd me.1 pl (0 : Int32), me.2.1, me.2.2.1, me.2.2.2) mo ms (1 : Int32) (pl % 6) (1 : Int32)).2.2.1)] H := hP
              have hD : va_D A [cMd bd k mc mw (upd me.1 pl (0 : Int32), me.2.1, me.2.2.1, me.2.2.2) (fM_switched k mc mw mp (upd me.1 pl (0 : Int32), me.2.1, me.2.2.1, me.2.2.2) mo ms (1 : Int32) (pl % 6) (1 : Int32)), cIa cI (bd 1) 128 mp, cZa cZ (bd 2) 30 (upd me.1 pl (0 : Int32)), cJa cJ (bd 3) 30 me.2.1, cIa cI (bd 4) 30 me.2.2.1, cZa cZ (bd 5) 6 ((fM_switched k mc mw mp (upd me.1 pl (0 : Int32), me.2.1, me.2.2.1, me.2.2.2) mo ms (1 : Int32) (pl % 6) (1 : Int32)).1), cZa cZ (bd 6) 6 ((fM_switched k mc mw mp (upd me.1 pl (0 : Int32), me.2.1, me.2.2.1, me.2.2.2) mo ms (1 : Int32) (pl % 6) (1 : Int32)).2.1), cZa cZ (bd 7) 2 ms.1, cIa cI (bd 8) 2 ms.2.1, cZa cZ (bd 9) 2 ms.2.2.1, cIa cI (bd 10) 2 ms.2.2.2.1, cIa cI (bd 11) 2 ms.2.2.2.2.1, cZa cZ (bd 12) 2 ms.2.2.2.2.2.1, cJa cJ (bd 13) 6 ms.2.2.2.2.2.2, cJa cJ (bd 14) 16 ((fM_switched k mc mw mp (upd me.1 pl (0 : Int32), me.2.1, me.2.2.1, me.2.2.2) mo ms (1 : Int32) (pl % 6) (1 : Int32)).2.2.1)] := hD
              generalize hq10 : fM_switched k mc mw mp (upd me.1 pl (0 : Int32), me.2.1, me.2.2.1, me.2.2.2) mo ms (1 : Int32) (pl % 6) (1 : Int32) = q10 at hP hD 
              have hP : va_P D vwCl [cMd bd k mc mw (upd me.1 pl (0 : Int32), me.2.1, me.2.2.1, me.2.2.2) q10, cIa cI (bd 1) 128 mp, cZa cZ (bd 2) 30 (upd me.1 pl (0 : Int32)), cJa cJ (bd 3) 30 me.2.1, cIa cI (bd 4) 30 me.2.2.1, cZa cZ (bd 5) 6 q10.1, cZa cZ (bd 6) 6 q10.2.1, cZa cZ (bd 7) 2 ms.1, cIa cI (bd 8) 2 ms.2.1, cZa cZ (bd 9) 2 ms.2.2.1, cIa cI (bd 10) 2 ms.2.2.2.1, cIa cI (bd 11) 2 ms.2.2.2.2.1, cZa cZ (bd 12) 2 ms.2.2.2.2.2.1, cJa cJ (bd 13) 6 ms.2.2.2.2.2.2, cJa cJ (bd 14) 16 q10.2.2.1] H := hP
              have hD : va_D A [cMd bd k mc mw (upd me.1 pl (0 : Int32), me.2.1, me.2.2.1, me.2.2.2) q10, cIa cI (bd 1) 128 mp, cZa cZ (bd 2) 30 (upd me.1 pl (0 : Int32)), cJa cJ (bd 3) 30 me.2.1, cIa cI (bd 4) 30 me.2.2.1, cZa cZ (bd 5) 6 q10.1, cZa cZ (bd 6) 6 q10.2.1, cZa cZ (bd 7) 2 ms.1, cIa cI (bd 8) 2 ms.2.1, cZa cZ (bd 9) 2 ms.2.2.1, cIa cI (bd 10) 2 ms.2.2.2.1, cIa cI (bd 11) 2 ms.2.2.2.2.1, cZa cZ (bd 12) 2 ms.2.2.2.2.2.1, cJa cJ (bd 13) 6 ms.2.2.2.2.2.2, cJa cJ (bd 14) 16 q10.2.2.1] := hD
              refine lv_aload_n hx hb dM_fire_148 rfl (lv_at hl 3 rfl) ?_
              refine lv_iconst (v := (4 : Int32)) hx hb dM_fire_149 (by decide) ?_
              refine lv_iload_n hx hb dM_fire_150 rfl (lv_at hl 1 rfl) ?_
              refine lv_aload_n hx hb dM_fire_151 rfl (lv_at hl 3 rfl) ?_
              refine gfM_111 hx hb hts hown hN hK hP 0 rfl (v := .long mw.1) rfl dM_fire_152 ?_
              refine lv_iload hx hb dM_fire_155 (lv_at hl 0 rfl) ?_
              refine lv_i2l hx hb dM_fire_157 rfl ?_
              refine lv_ladd hx hb dM_fire_158 ?_
              refine k_ca0 (wc := [cMd bd k mc mw (upd me.1 pl (0 : Int32), me.2.1, me.2.2.1, me.2.2.2) q10, cIa cI (bd 1) 128 mp, cZa cZ (bd 2) 30 (upd me.1 pl (0 : Int32)), cJa cJ (bd 3) 30 me.2.1, cIa cI (bd 4) 30 me.2.2.1, cZa cZ (bd 5) 6 q10.1, cZa cZ (bd 6) 6 q10.2.1, cZa cZ (bd 7) 2 ms.1, cIa cI (bd 8) 2 ms.2.1, cZa cZ (bd 9) 2 ms.2.2.1, cIa cI (bd 10) 2 ms.2.2.2.1, cIa cI (bd 11) 2 ms.2.2.2.2.1, cZa cZ (bd 12) 2 ms.2.2.2.2.2.1, cJa cJ (bd 13) 6 ms.2.2.2.2.2.2, cJa cJ (bd 14) 16 q10.2.2.1]) (wr := []) (va_runV (As := [.int (nI 4), .int (nI (pl % 6)), .long (mw.1 + q8.toInt64)]) (rest := []) ⟨hx, hb, hml, hown, hts⟩ (ctM_plan l D cZ cI cJ tL tH H.size bd k mc mw mp (upd me.1 pl (0 : Int32), me.2.1, me.2.2.1, me.2.2.2) q10 ms 4 (pl % 6) (mw.1 + q8.toInt64) hk (by omega)) (cwM_128 hts hN rfl rfl ⟨Nat.le_of_ble_eq_true rfl, Nat.le_of_ble_eq_true rfl⟩) (k_preV hK hN hT hA hS hP hD [0, 1, 2, 3, 4, 5, 6, 7, 8, 9, 10, 11, 12, 13, 14] rfl (by decide) 0 rfl rfl) rfl rfl hl.1 rfl (lv_room (Nat.le_of_ble_eq_true rfl)) dM_fire_159 ⟨Nat.zero_le _, Nat.zero_le _⟩) hP hD hS hA [0, 1, 2, 3, 4, 5, 6, 7, 8, 9, 10, 11, 12, 13, 14] [] rfl rfl (by decide) (by decide) (fun _ H locs hP hD hS => ?_)
              refine W.eq (g2 := F0 m 162 ls []) rfl ?_
              have hP : va_P D vwCl [cMd bd k mc mw (fM_plan k mc mw mp (upd me.1 pl (0 : Int32), me.2.1, me.2.2.1, me.2.2.2) q10 ms 4 (pl % 6) (mw.1 + q8.toInt64)) q10, cIa cI (bd 1) 128 mp, cZa cZ (bd 2) 30 ((fM_plan k mc mw mp (upd me.1 pl (0 : Int32), me.2.1, me.2.2.1, me.2.2.2) q10 ms 4 (pl % 6) (mw.1 + q8.toInt64)).1), cJa cJ (bd 3) 30 ((fM_plan k mc mw mp (upd me.1 pl (0 : Int32), me.2.1, me.2.2.1, me.2.2.2) q10 ms 4 (pl % 6) (mw.1 + q8.toInt64)).2.1), cIa cI (bd 4) 30 ((fM_plan k mc mw mp (upd me.1 pl (0 : Int32), me.2.1, me.2.2.1, me.2.2.2) q10 ms 4 (pl % 6) (mw.1 + q8.toInt64)).2.2.1), cZa cZ (bd 5) 6 q10.1, cZa cZ (bd 6) 6 q10.2.1, cZa cZ (bd 7) 2 ms.1, cIa cI (bd 8) 2 ms.2.1, cZa cZ (bd 9) 2 ms.2.2.1, cIa cI (bd 10) 2 ms.2.2.2.1, cIa cI (bd 11) 2 ms.2.2.2.2.1, cZa cZ (bd 12) 2 ms.2.2.2.2.2.1, cJa cJ (bd 13) 6 ms.2.2.2.2.2.2, cJa cJ (bd 14) 16 q10.2.2.1] H := hP
              have hD : va_D A [cMd bd k mc mw (fM_plan k mc mw mp (upd me.1 pl (0 : Int32), me.2.1, me.2.2.1, me.2.2.2) q10 ms 4 (pl % 6) (mw.1 + q8.toInt64)) q10, cIa cI (bd 1) 128 mp, cZa cZ (bd 2) 30 ((fM_plan k mc mw mp (upd me.1 pl (0 : Int32), me.2.1, me.2.2.1, me.2.2.2) q10 ms 4 (pl % 6) (mw.1 + q8.toInt64)).1), cJa cJ (bd 3) 30 ((fM_plan k mc mw mp (upd me.1 pl (0 : Int32), me.2.1, me.2.2.1, me.2.2.2) q10 ms 4 (pl % 6) (mw.1 + q8.toInt64)).2.1), cIa cI (bd 4) 30 ((fM_plan k mc mw mp (upd me.1 pl (0 : Int32), me.2.1, me.2.2.1, me.2.2.2) q10 ms 4 (pl % 6) (mw.1 + q8.toInt64)).2.2.1), cZa cZ (bd 5) 6 q10.1, cZa cZ (bd 6) 6 q10.2.1, cZa cZ (bd 7) 2 ms.1, cIa cI (bd 8) 2 ms.2.1, cZa cZ (bd 9) 2 ms.2.2.1, cIa cI (bd 10) 2 ms.2.2.2.1, cIa cI (bd 11) 2 ms.2.2.2.2.1, cZa cZ (bd 12) 2 ms.2.2.2.2.2.1, cJa cJ (bd 13) 6 ms.2.2.2.2.2.2, cJa cJ (bd 14) 16 q10.2.2.1] := hD
              generalize hq11 : fM_plan k mc mw mp (upd me.1 pl (0 : Int32), me.2.1, me.2.2.1, me.2.2.2) q10 ms 4 (pl % 6) (mw.1 + q8.toInt64) = q11 at hP hD 
              have hP : va_P D vwCl [cMd bd k mc mw q11 q10, cIa cI (bd 1) 128 mp, cZa cZ (bd 2) 30 q11.1, cJa cJ (bd 3) 30 q11.2.1, cIa cI (bd 4) 30 q11.2.2.1, cZa cZ (bd 5) 6 q10.1, cZa cZ (bd 6) 6 q10.2.1, cZa cZ (bd 7) 2 ms.1, cIa cI (bd 8) 2 ms.2.1, cZa cZ (bd 9) 2 ms.2.2.1, cIa cI (bd 10) 2 ms.2.2.2.1, cIa cI (bd 11) 2 ms.2.2.2.2.1, cZa cZ (bd 12) 2 ms.2.2.2.2.2.1, cJa cJ (bd 13) 6 ms.2.2.2.2.2.2, cJa cJ (bd 14) 16 q10.2.2.1] H := hP
              have hD : va_D A [cMd bd k mc mw q11 q10, cIa cI (bd 1) 128 mp, cZa cZ (bd 2) 30 q11.1, cJa cJ (bd 3) 30 q11.2.1, cIa cI (bd 4) 30 q11.2.2.1, cZa cZ (bd 5) 6 q10.1, cZa cZ (bd 6) 6 q10.2.1, cZa cZ (bd 7) 2 ms.1, cIa cI (bd 8) 2 ms.2.1, cZa cZ (bd 9) 2 ms.2.2.1, cIa cI (bd 10) 2 ms.2.2.2.1, cIa cI (bd 11) 2 ms.2.2.2.2.1, cZa cZ (bd 12) 2 ms.2.2.2.2.2.1, cJa cJ (bd 13) 6 ms.2.2.2.2.2.2, cJa cJ (bd 14) 16 q10.2.2.1] := hD
              refine lv_iload_n hx hb dM_fire_162 rfl (lv_at hl 2 rfl) ?_
              refine lv_iconst (v := (4 : Int32)) hx hb dM_fire_163 (by decide) ?_
              refine lv_icmp_ne (tgt := 174) hx hb dM_fire_164 (by decide) (fun _ => ?_) (fun h0 => absurd h0 (by rw [h4]; decide))
              exact k_vret hx hb hr hlk hP hD hS dM_fire_174 () rfl (by simp only [fM_fire, if_neg h1, if_neg h2, if_neg h3, if_pos h4, if_pos h7, hq8, if_neg h9, hq10, hq11])
      · -- not taken at 96
        refine lv_aload_n hx hb dM_fire_99 rfl (lv_at hl 2 rfl) ?_
        refine lv_iconst (v := (0 : Int32)) hx hb dM_fire_100 (by decide) ?_
        refine lv_iload_n hx hb dM_fire_101 rfl (lv_at hl 0 rfl) ?_
        refine lv_iconst (v := (0 : Int32)) hx hb dM_fire_102 (by decide) ?_
        refine k_ca0 (wc := [cMd bd k mc mw (upd me.1 pl (0 : Int32), me.2.1, me.2.2.1, me.2.2.2) mo, cIa cI (bd 1) 128 mp, cZa cZ (bd 2) 30 (upd me.1 pl (0 : Int32)), cJa cJ (bd 3) 30 me.2.1, cIa cI (bd 4) 30 me.2.2.1, cZa cZ (bd 5) 6 mo.1, cZa cZ (bd 6) 6 mo.2.1, cZa cZ (bd 7) 2 ms.1, cIa cI (bd 8) 2 ms.2.1, cZa cZ (bd 9) 2 ms.2.2.1, cIa cI (bd 10) 2 ms.2.2.2.1, cIa cI (bd 11) 2 ms.2.2.2.2.1, cZa cZ (bd 12) 2 ms.2.2.2.2.2.1, cJa cJ (bd 13) 6 ms.2.2.2.2.2.2, cJa cJ (bd 14) 16 mo.2.2.1]) (wr := []) (va_runV (As := [.int (0 : Int32), .int (nI (pl % 6)), .int (0 : Int32)]) (rest := []) ⟨hx, hb, hml, hown, hts⟩ (ctM_switched l D cZ cI cJ tL tH H.size bd k mc mw mp (upd me.1 pl (0 : Int32), me.2.1, me.2.2.1, me.2.2.2) mo ms (0 : Int32) (pl % 6) (0 : Int32) hk (by omega) (Or.inl rfl)) (cwM_124 hts hN rfl rfl ⟨Nat.le_of_ble_eq_true rfl, Nat.le_of_ble_eq_true rfl⟩) (k_preV hK hN hT hA hS hP hD [0, 1, 2, 3, 4, 5, 6, 7, 8, 9, 10, 11, 12, 13, 14] rfl (by decide) 0 rfl rfl) rfl rfl hl.1 rfl (lv_room (Nat.le_of_ble_eq_true rfl)) dM_fire_103 ⟨Nat.zero_le _, Nat.zero_le _⟩) hP hD hS hA [0, 1, 2, 3, 4, 5, 6, 7, 8, 9, 10, 11, 12, 13, 14] [] rfl rfl (by decide) (by decide) (fun _ H locs hP hD hS => ?_)
        refine W.eq (g2 := F0 m 106 ls []) rfl ?_
        have hP : va_P D vwCl [cMd bd k mc mw (upd me.1 pl (0 : Int32), me.2.1, me.2.2.1, me.2.2.2) (fM_switched k mc mw mp (upd me.1 pl (0 : Int32), me.2.1, me.2.2.1, me.2.2.2) mo ms (0 : Int32) (pl % 6) (0 : Int32)), cIa cI (bd 1) 128 mp, cZa cZ (bd 2) 30 (upd me.1 pl (0 : Int32)), cJa cJ (bd 3) 30 me.2.1, cIa cI (bd 4) 30 me.2.2.1, cZa cZ (bd 5) 6 ((fM_switched k mc mw mp (upd me.1 pl (0 : Int32), me.2.1, me.2.2.1, me.2.2.2) mo ms (0 : Int32) (pl % 6) (0 : Int32)).1), cZa cZ (bd 6) 6 ((fM_switched k mc mw mp (upd me.1 pl (0 : Int32), me.2.1, me.2.2.1, me.2.2.2) mo ms (0 : Int32) (pl % 6) (0 : Int32)).2.1), cZa cZ (bd 7) 2 ms.1, cIa cI (bd 8) 2 ms.2.1, cZa cZ (bd 9) 2 ms.2.2.1, cIa cI (bd 10) 2 ms.2.2.2.1, cIa cI (bd 11) 2 ms.2.2.2.2.1, cZa cZ (bd 12) 2 ms.2.2.2.2.2.1, cJa cJ (bd 13) 6 ms.2.2.2.2.2.2, cJa cJ (bd 14) 16 ((fM_switched k mc mw mp (upd me.1 pl (0 : Int32), me.2.1, me.2.2.1, me.2.2.2) mo ms (0 : Int32) (pl % 6) (0 : Int32)).2.2.1)] H := hP
        have hD : va_D A [cMd bd k mc mw (upd me.1 pl (0 : Int32), me.2.1, me.2.2.1, me.2.2.2) (fM_switched k mc mw mp (upd me.1 pl (0 : Int32), me.2.1, me.2.2.1, me.2.2.2) mo ms (0 : Int32) (pl % 6) (0 : Int32)), cIa cI (bd 1) 128 mp, cZa cZ (bd 2) 30 (upd me.1 pl (0 : Int32)), cJa cJ (bd 3) 30 me.2.1, cIa cI (bd 4) 30 me.2.2.1, cZa cZ (bd 5) 6 ((fM_switched k mc mw mp (upd me.1 pl (0 : Int32), me.2.1, me.2.2.1, me.2.2.2) mo ms (0 : Int32) (pl % 6) (0 : Int32)).1), cZa cZ (bd 6) 6 ((fM_switched k mc mw mp (upd me.1 pl (0 : Int32), me.2.1, me.2.2.1, me.2.2.2) mo ms (0 : Int32) (pl % 6) (0 : Int32)).2.1), cZa cZ (bd 7) 2 ms.1, cIa cI (bd 8) 2 ms.2.1, cZa cZ (bd 9) 2 ms.2.2.1, cIa cI (bd 10) 2 ms.2.2.2.1, cIa cI (bd 11) 2 ms.2.2.2.2.1, cZa cZ (bd 12) 2 ms.2.2.2.2.2.1, cJa cJ (bd 13) 6 ms.2.2.2.2.2.2, cJa cJ (bd 14) 16 ((fM_switched k mc mw mp (upd me.1 pl (0 : Int32), me.2.1, me.2.2.1, me.2.2.2) mo ms (0 : Int32) (pl % 6) (0 : Int32)).2.2.1)] := hD
        generalize hq12 : fM_switched k mc mw mp (upd me.1 pl (0 : Int32), me.2.1, me.2.2.1, me.2.2.2) mo ms (0 : Int32) (pl % 6) (0 : Int32) = q12 at hP hD 
        have hP : va_P D vwCl [cMd bd k mc mw (upd me.1 pl (0 : Int32), me.2.1, me.2.2.1, me.2.2.2) q12, cIa cI (bd 1) 128 mp, cZa cZ (bd 2) 30 (upd me.1 pl (0 : Int32)), cJa cJ (bd 3) 30 me.2.1, cIa cI (bd 4) 30 me.2.2.1, cZa cZ (bd 5) 6 q12.1, cZa cZ (bd 6) 6 q12.2.1, cZa cZ (bd 7) 2 ms.1, cIa cI (bd 8) 2 ms.2.1, cZa cZ (bd 9) 2 ms.2.2.1, cIa cI (bd 10) 2 ms.2.2.2.1, cIa cI (bd 11) 2 ms.2.2.2.2.1, cZa cZ (bd 12) 2 ms.2.2.2.2.2.1, cJa cJ (bd 13) 6 ms.2.2.2.2.2.2, cJa cJ (bd 14) 16 q12.2.2.1] H := hP
        have hD : va_D A [cMd bd k mc mw (upd me.1 pl (0 : Int32), me.2.1, me.2.2.1, me.2.2.2) q12, cIa cI (bd 1) 128 mp, cZa cZ (bd 2) 30 (upd me.1 pl (0 : Int32)), cJa cJ (bd 3) 30 me.2.1, cIa cI (bd 4) 30 me.2.2.1, cZa cZ (bd 5) 6 q12.1, cZa cZ (bd 6) 6 q12.2.1, cZa cZ (bd 7) 2 ms.1, cIa cI (bd 8) 2 ms.2.1, cZa cZ (bd 9) 2 ms.2.2.1, cIa cI (bd 10) 2 ms.2.2.2.1, cIa cI (bd 11) 2 ms.2.2.2.2.1, cZa cZ (bd 12) 2 ms.2.2.2.2.2.1, cJa cJ (bd 13) 6 ms.2.2.2.2.2.2, cJa cJ (bd 14) 16 q12.2.2.1] := hD
        refine lv_aload_n hx hb dM_fire_106 rfl (lv_at hl 2 rfl) ?_
        refine lv_aload_n hx hb dM_fire_107 rfl (lv_at hl 2 rfl) ?_
        refine gfM_135 hx hb hts hown hN hK hP 0 rfl (v := .int q12.2.2.2.2.2.1) rfl dM_fire_108 ?_
        refine lv_iconst (v := (1 : Int32)) hx hb dM_fire_111 (by decide) ?_
        refine lv_iadd hx hb dM_fire_112 ?_
        refine pfM_135 hx hb hts hown hN hK hP hD hS 0 rfl (v := .int (q12.2.2.2.2.2.1 + (1 : Int32))) rfl rfl (Nat.le_of_ble_eq_true rfl) dM_fire_113 (fun H locs hP hD hS => ?_)
        have hP : va_P D vwCl [cMd bd k mc mw (upd me.1 pl (0 : Int32), me.2.1, me.2.2.1, me.2.2.2) (q12.1, q12.2.1, q12.2.2.1, q12.2.2.2.1, q12.2.2.2.2.1, q12.2.2.2.2.2.1 + (1 : Int32), q12.2.2.2.2.2.2), cIa cI (bd 1) 128 mp, cZa cZ (bd 2) 30 (upd me.1 pl (0 : Int32)), cJa cJ (bd 3) 30 me.2.1, cIa cI (bd 4) 30 me.2.2.1, cZa cZ (bd 5) 6 q12.1, cZa cZ (bd 6) 6 q12.2.1, cZa cZ (bd 7) 2 ms.1, cIa cI (bd 8) 2 ms.2.1, cZa cZ (bd 9) 2 ms.2.2.1, cIa cI (bd 10) 2 ms.2.2.2.1, cIa cI (bd 11) 2 ms.2.2.2.2.1, cZa cZ (bd 12) 2 ms.2.2.2.2.2.1, cJa cJ (bd 13) 6 ms.2.2.2.2.2.2, cJa cJ (bd 14) 16 q12.2.2.1] H := hP
        have hD : va_D A [cMd bd k mc mw (upd me.1 pl (0 : Int32), me.2.1, me.2.2.1, me.2.2.2) (q12.1, q12.2.1, q12.2.2.1, q12.2.2.2.1, q12.2.2.2.2.1, q12.2.2.2.2.2.1 + (1 : Int32), q12.2.2.2.2.2.2), cIa cI (bd 1) 128 mp, cZa cZ (bd 2) 30 (upd me.1 pl (0 : Int32)), cJa cJ (bd 3) 30 me.2.1, cIa cI (bd 4) 30 me.2.2.1, cZa cZ (bd 5) 6 q12.1, cZa cZ (bd 6) 6 q12.2.1, cZa cZ (bd 7) 2 ms.1, cIa cI (bd 8) 2 ms.2.1, cZa cZ (bd 9) 2 ms.2.2.1, cIa cI (bd 10) 2 ms.2.2.2.1, cIa cI (bd 11) 2 ms.2.2.2.2.1, cZa cZ (bd 12) 2 ms.2.2.2.2.2.1, cJa cJ (bd 13) 6 ms.2.2.2.2.2.2, cJa cJ (bd 14) 16 q12.2.2.1] := hD
        refine lv_iload_n hx hb dM_fire_116 rfl (lv_at hl 1 rfl) ?_
        refine lv_iconst (v := (3 : Int32)) hx hb dM_fire_117 (by decide) ?_
        refine lv_icmp_ne (tgt := 162) hx hb dM_fire_118 (by decide) (fun _ => ?_) (fun h0 => absurd h0 (by rw [h3]; decide))
        refine lv_iload_n hx hb dM_fire_162 rfl (lv_at hl 1 rfl) ?_
        refine lv_iconst (v := (4 : Int32)) hx hb dM_fire_163 (by decide) ?_
        refine lv_icmp_ne (tgt := 174) hx hb dM_fire_164 (by decide) (fun _ => ?_) (fun h0 => absurd h0 (by rw [h3]; decide))
        exact k_vret hx hb hr hlk hP hD hS dM_fire_174 () rfl (by simp only [fM_fire, if_neg h1, if_neg h2, if_pos h3, hq12])
    · -- not taken at 55
      refine lv_aload_n hx hb dM_fire_58 rfl (lv_at hl 2 rfl) ?_
      refine gfM_28 hx hb hts hown hN hK hP 0 rfl (v := .ref (bd 5)) rfl dM_fire_59 ?_
      refine lv_iload_n hx hb dM_fire_62 rfl (lv_at hl 0 rfl) ?_
      refine va_zald hx hb hK hP 5 0 rfl rfl (vp_in_nI (n := pl % 6) (N := 6) (by omega) (by omega)) dM_fire_63 ?_
      refine W.eq (g2 := F0 m 64 ls [.int (mo.1 (pl % 6))]) (congrArg (fun z => F0 m 64 ls (.int (mo.1 z) :: [])) (nI_clamp (n := pl % 6) (by omega))) ?_
      refine lv_if_eq (tgt := 94) hx hb dM_fire_64 (by decide) (fun h13 => ?_) (fun h13 => ?_)
      · -- taken at 64
        refine lv_iload_n hx hb dM_fire_94 rfl (lv_at hl 1 rfl) ?_
        refine lv_iconst (v := (2 : Int32)) hx hb dM_fire_95 (by decide) ?_
        refine lv_icmp_ne (tgt := 116) hx hb dM_fire_96 (by decide) (fun _ => ?_) (fun h0 => absurd h0 (by rw [h2]; decide))
        refine lv_iload_n hx hb dM_fire_116 rfl (lv_at hl 1 rfl) ?_
        refine lv_iconst (v := (3 : Int32)) hx hb dM_fire_117 (by decide) ?_
        refine lv_icmp_ne (tgt := 162) hx hb dM_fire_118 (by decide) (fun _ => ?_) (fun h0 => absurd h0 (by rw [h2]; decide))
        refine lv_iload_n hx hb dM_fire_162 rfl (lv_at hl 1 rfl) ?_
        refine lv_iconst (v := (4 : Int32)) hx hb dM_fire_163 (by decide) ?_
        refine lv_icmp_ne (tgt := 174) hx hb dM_fire_164 (by decide) (fun _ => ?_) (fun h0 => absurd h0 (by rw [h2]; decide))
        exact k_vret hx hb hr hlk hP hD hS dM_fire_174 () rfl (by simp only [fM_fire, if_neg h1, if_pos h2, if_pos h13])
      · -- not taken at 64
        refine lv_aload_n hx hb dM_fire_67 rfl (lv_at hl 2 rfl) ?_
        refine lv_iconst (v := (0 : Int32)) hx hb dM_fire_68 (by decide) ?_
        refine lv_iload_n hx hb dM_fire_69 rfl (lv_at hl 0 rfl) ?_
        refine lv_iconst (v := (0 : Int32)) hx hb dM_fire_70 (by decide) ?_
        refine k_ca0 (wc := [cMd bd k mc mw (upd me.1 pl (0 : Int32), me.2.1, me.2.2.1, me.2.2.2) mo, cIa cI (bd 1) 128 mp, cZa cZ (bd 2) 30 (upd me.1 pl (0 : Int32)), cJa cJ (bd 3) 30 me.2.1, cIa cI (bd 4) 30 me.2.2.1, cZa cZ (bd 5) 6 mo.1, cZa cZ (bd 6) 6 mo.2.1, cZa cZ (bd 7) 2 ms.1, cIa cI (bd 8) 2 ms.2.1, cZa cZ (bd 9) 2 ms.2.2.1, cIa cI (bd 10) 2 ms.2.2.2.1, cIa cI (bd 11) 2 ms.2.2.2.2.1, cZa cZ (bd 12) 2 ms.2.2.2.2.2.1, cJa cJ (bd 13) 6 ms.2.2.2.2.2.2, cJa cJ (bd 14) 16 mo.2.2.1]) (wr := []) (va_runV (As := [.int (0 : Int32), .int (nI (pl % 6)), .int (0 : Int32)]) (rest := []) ⟨hx, hb, hml, hown, hts⟩ (ctM_switched l D cZ cI cJ tL tH H.size bd k mc mw mp (upd me.1 pl (0 : Int32), me.2.1, me.2.2.1, me.2.2.2) mo ms (0 : Int32) (pl % 6) (0 : Int32) hk (by omega) (Or.inl rfl)) (cwM_124 hts hN rfl rfl ⟨Nat.le_of_ble_eq_true rfl, Nat.le_of_ble_eq_true rfl⟩) (k_preV hK hN hT hA hS hP hD [0, 1, 2, 3, 4, 5, 6, 7, 8, 9, 10, 11, 12, 13, 14] rfl (by decide) 0 rfl rfl) rfl rfl hl.1 rfl (lv_room (Nat.le_of_ble_eq_true rfl)) dM_fire_71 ⟨Nat.zero_le _, Nat.zero_le _⟩) hP hD hS hA [0, 1, 2, 3, 4, 5, 6, 7, 8, 9, 10, 11, 12, 13, 14] [] rfl rfl (by decide) (by decide) (fun _ H locs hP hD hS => ?_)
        refine W.eq (g2 := F0 m 74 ls []) rfl ?_
        have hP : va_P D vwCl [cMd bd k mc mw (upd me.1 pl (0 : Int32), me.2.1, me.2.2.1, me.2.2.2) (fM_switched k mc mw mp (upd me.1 pl (0 : Int32), me.2.1, me.2.2.1, me.2.2.2) mo ms (0 : Int32) (pl % 6) (0 : Int32)), cIa cI (bd 1) 128 mp, cZa cZ (bd 2) 30 (upd me.1 pl (0 : Int32)), cJa cJ (bd 3) 30 me.2.1, cIa cI (bd 4) 30 me.2.2.1, cZa cZ (bd 5) 6 ((fM_switched k mc mw mp (upd me.1 pl (0 : Int32), me.2.1, me.2.2.1, me.2.2.2) mo ms (0 : Int32) (pl % 6) (0 : Int32)).1), cZa cZ (bd 6) 6 ((fM_switched k mc mw mp (upd me.1 pl (0 : Int32), me.2.1, me.2.2.1, me.2.2.2) mo ms (0 : Int32) (pl % 6) (0 : Int32)).2.1), cZa cZ (bd 7) 2 ms.1, cIa cI (bd 8) 2 ms.2.1, cZa cZ (bd 9) 2 ms.2.2.1, cIa cI (bd 10) 2 ms.2.2.2.1, cIa cI (bd 11) 2 ms.2.2.2.2.1, cZa cZ (bd 12) 2 ms.2.2.2.2.2.1, cJa cJ (bd 13) 6 ms.2.2.2.2.2.2, cJa cJ (bd 14) 16 ((fM_switched k mc mw mp (upd me.1 pl (0 : Int32), me.2.1, me.2.2.1, me.2.2.2) mo ms (0 : Int32) (pl % 6) (0 : Int32)).2.2.1)] H := hP
        have hD : va_D A [cMd bd k mc mw (upd me.1 pl (0 : Int32), me.2.1, me.2.2.1, me.2.2.2) (fM_switched k mc mw mp (upd me.1 pl (0 : Int32), me.2.1, me.2.2.1, me.2.2.2) mo ms (0 : Int32) (pl % 6) (0 : Int32)), cIa cI (bd 1) 128 mp, cZa cZ (bd 2) 30 (upd me.1 pl (0 : Int32)), cJa cJ (bd 3) 30 me.2.1, cIa cI (bd 4) 30 me.2.2.1, cZa cZ (bd 5) 6 ((fM_switched k mc mw mp (upd me.1 pl (0 : Int32), me.2.1, me.2.2.1, me.2.2.2) mo ms (0 : Int32) (pl % 6) (0 : Int32)).1), cZa cZ (bd 6) 6 ((fM_switched k mc mw mp (upd me.1 pl (0 : Int32), me.2.1, me.2.2.1, me.2.2.2) mo ms (0 : Int32) (pl % 6) (0 : Int32)).2.1), cZa cZ (bd 7) 2 ms.1, cIa cI (bd 8) 2 ms.2.1, cZa cZ (bd 9) 2 ms.2.2.1, cIa cI (bd 10) 2 ms.2.2.2.1, cIa cI (bd 11) 2 ms.2.2.2.2.1, cZa cZ (bd 12) 2 ms.2.2.2.2.2.1, cJa cJ (bd 13) 6 ms.2.2.2.2.2.2, cJa cJ (bd 14) 16 ((fM_switched k mc mw mp (upd me.1 pl (0 : Int32), me.2.1, me.2.2.1, me.2.2.2) mo ms (0 : Int32) (pl % 6) (0 : Int32)).2.2.1)] := hD
        generalize hq14 : fM_switched k mc mw mp (upd me.1 pl (0 : Int32), me.2.1, me.2.2.1, me.2.2.2) mo ms (0 : Int32) (pl % 6) (0 : Int32) = q14 at hP hD 
        have hP : va_P D vwCl [cMd bd k mc mw (upd me.1 pl (0 : Int32), me.2.1, me.2.2.1, me.2.2.2) q14, cIa cI (bd 1) 128 mp, cZa cZ (bd 2) 30 (upd me.1 pl (0 : Int32)), cJa cJ (bd 3) 30 me.2.1, cIa cI (bd 4) 30 me.2.2.1, cZa cZ (bd 5) 6 q14.1, cZa cZ (bd 6) 6 q14.2.1, cZa cZ (bd 7) 2 ms.1, cIa cI (bd 8) 2 ms.2.1, cZa cZ (bd 9) 2 ms.2.2.1, cIa cI (bd 10) 2 ms.2.2.2.1, cIa cI (bd 11) 2 ms.2.2.2.2.1, cZa cZ (bd 12) 2 ms.2.2.2.2.2.1, cJa cJ (bd 13) 6 ms.2.2.2.2.2.2, cJa cJ (bd 14) 16 q14.2.2.1] H := hP
        have hD : va_D A [cMd bd k mc mw (upd me.1 pl (0 : Int32), me.2.1, me.2.2.1, me.2.2.2) q14, cIa cI (bd 1) 128 mp, cZa cZ (bd 2) 30 (upd me.1 pl (0 : Int32)), cJa cJ (bd 3) 30 me.2.1, cIa cI (bd 4) 30 me.2.2.1, cZa cZ (bd 5) 6 q14.1, cZa cZ (bd 6) 6 q14.2.1, cZa cZ (bd 7) 2 ms.1, cIa cI (bd 8) 2 ms.2.1, cZa cZ (bd 9) 2 ms.2.2.1, cIa cI (bd 10) 2 ms.2.2.2.1, cIa cI (bd 11) 2 ms.2.2.2.2.1, cZa cZ (bd 12) 2 ms.2.2.2.2.2.1, cJa cJ (bd 13) 6 ms.2.2.2.2.2.2, cJa cJ (bd 14) 16 q14.2.2.1] := hD
        refine lv_aload_n hx hb dM_fire_74 rfl (lv_at hl 2 rfl) ?_
        refine lv_aload_n hx hb dM_fire_75 rfl (lv_at hl 2 rfl) ?_
        refine gfM_132 hx hb hts hown hN hK hP 0 rfl (v := .int q14.2.2.2.2.1) rfl dM_fire_76 ?_
        refine lv_iconst (v := (1 : Int32)) hx hb dM_fire_79 (by decide) ?_
        refine lv_iadd hx hb dM_fire_80 ?_
        refine pfM_132 hx hb hts hown hN hK hP hD hS 0 rfl (v := .int (q14.2.2.2.2.1 + (1 : Int32))) rfl rfl (Nat.le_of_ble_eq_true rfl) dM_fire_81 (fun H locs hP hD hS => ?_)
        have hP : va_P D vwCl [cMd bd k mc mw (upd me.1 pl (0 : Int32), me.2.1, me.2.2.1, me.2.2.2) (q14.1, q14.2.1, q14.2.2.1, q14.2.2.2.1, q14.2.2.2.2.1 + (1 : Int32), q14.2.2.2.2.2.1, q14.2.2.2.2.2.2), cIa cI (bd 1) 128 mp, cZa cZ (bd 2) 30 (upd me.1 pl (0 : Int32)), cJa cJ (bd 3) 30 me.2.1, cIa cI (bd 4) 30 me.2.2.1, cZa cZ (bd 5) 6 q14.1, cZa cZ (bd 6) 6 q14.2.1, cZa cZ (bd 7) 2 ms.1, cIa cI (bd 8) 2 ms.2.1, cZa cZ (bd 9) 2 ms.2.2.1, cIa cI (bd 10) 2 ms.2.2.2.1, cIa cI (bd 11) 2 ms.2.2.2.2.1, cZa cZ (bd 12) 2 ms.2.2.2.2.2.1, cJa cJ (bd 13) 6 ms.2.2.2.2.2.2, cJa cJ (bd 14) 16 q14.2.2.1] H := hP
        have hD : va_D A [cMd bd k mc mw (upd me.1 pl (0 : Int32), me.2.1, me.2.2.1, me.2.2.2) (q14.1, q14.2.1, q14.2.2.1, q14.2.2.2.1, q14.2.2.2.2.1 + (1 : Int32), q14.2.2.2.2.2.1, q14.2.2.2.2.2.2), cIa cI (bd 1) 128 mp, cZa cZ (bd 2) 30 (upd me.1 pl (0 : Int32)), cJa cJ (bd 3) 30 me.2.1, cIa cI (bd 4) 30 me.2.2.1, cZa cZ (bd 5) 6 q14.1, cZa cZ (bd 6) 6 q14.2.1, cZa cZ (bd 7) 2 ms.1, cIa cI (bd 8) 2 ms.2.1, cZa cZ (bd 9) 2 ms.2.2.1, cIa cI (bd 10) 2 ms.2.2.2.1, cIa cI (bd 11) 2 ms.2.2.2.2.1, cZa cZ (bd 12) 2 ms.2.2.2.2.2.1, cJa cJ (bd 13) 6 ms.2.2.2.2.2.2, cJa cJ (bd 14) 16 q14.2.2.1] := hD
        refine lv_aload_n hx hb dM_fire_84 rfl (lv_at hl 2 rfl) ?_
        refine gfM_17 hx hb hts hown hN hK hP 0 rfl (v := .ref (bd 2)) rfl dM_fire_85 ?_
        refine lv_bipush (v := (12 : Int32)) hx hb dM_fire_88 (by decide) ?_
        refine lv_iload_n hx hb dM_fire_90 rfl (lv_at hl 0 rfl) ?_
        refine lv_iadd hx hb dM_fire_91 ?_
        refine W.eq (g2 := F0 m 92 ls [.int (nI (12 + (pl % 6))), .ref (bd 2)]) (congrArg (fun z => F0 m 92 ls (.int z :: [.ref (bd 2)])) (nI_add 12 (pl % 6))) ?_
        refine lv_iconst (v := (0 : Int32)) hx hb dM_fire_92 (by decide) ?_
        refine va_zast hx hb hK hP hD hS 2 0 rfl rfl (vp_in_nI (n := 12 + (pl % 6)) (N := 30) (by omega) (by omega)) dM_fire_93 (fun H locs hP hD hS => ?_)
        rw [zn_nar (Or.inl rfl)] at hP hD
        have e9 : (nI (12 + (pl % 6))).toNatClampNeg = 12 + (pl % 6) := (nI_clamp (n := 12 + (pl % 6)) (by omega))
        rw [e9] at hP hD
        have hP : va_P D vwCl [cMd bd k mc mw (upd (upd me.1 pl (0 : Int32)) (12 + (pl % 6)) (0 : Int32), me.2.1, me.2.2.1, me.2.2.2) (q14.1, q14.2.1, q14.2.2.1, q14.2.2.2.1, q14.2.2.2.2.1 + (1 : Int32), q14.2.2.2.2.2.1, q14.2.2.2.2.2.2), cIa cI (bd 1) 128 mp, cZa cZ (bd 2) 30 (upd (upd me.1 pl (0 : Int32)) (12 + (pl % 6)) (0 : Int32)), cJa cJ (bd 3) 30 me.2.1, cIa cI (bd 4) 30 me.2.2.1, cZa cZ (bd 5) 6 q14.1, cZa cZ (bd 6) 6 q14.2.1, cZa cZ (bd 7) 2 ms.1, cIa cI (bd 8) 2 ms.2.1, cZa cZ (bd 9) 2 ms.2.2.1, cIa cI (bd 10) 2 ms.2.2.2.1, cIa cI (bd 11) 2 ms.2.2.2.2.1, cZa cZ (bd 12) 2 ms.2.2.2.2.2.1, cJa cJ (bd 13) 6 ms.2.2.2.2.2.2, cJa cJ (bd 14) 16 q14.2.2.1] H := hP
        have hD : va_D A [cMd bd k mc mw (upd (upd me.1 pl (0 : Int32)) (12 + (pl % 6)) (0 : Int32), me.2.1, me.2.2.1, me.2.2.2) (q14.1, q14.2.1, q14.2.2.1, q14.2.2.2.1, q14.2.2.2.2.1 + (1 : Int32), q14.2.2.2.2.2.1, q14.2.2.2.2.2.2), cIa cI (bd 1) 128 mp, cZa cZ (bd 2) 30 (upd (upd me.1 pl (0 : Int32)) (12 + (pl % 6)) (0 : Int32)), cJa cJ (bd 3) 30 me.2.1, cIa cI (bd 4) 30 me.2.2.1, cZa cZ (bd 5) 6 q14.1, cZa cZ (bd 6) 6 q14.2.1, cZa cZ (bd 7) 2 ms.1, cIa cI (bd 8) 2 ms.2.1, cZa cZ (bd 9) 2 ms.2.2.1, cIa cI (bd 10) 2 ms.2.2.2.1, cIa cI (bd 11) 2 ms.2.2.2.2.1, cZa cZ (bd 12) 2 ms.2.2.2.2.2.1, cJa cJ (bd 13) 6 ms.2.2.2.2.2.2, cJa cJ (bd 14) 16 q14.2.2.1] := hD
        refine lv_iload_n hx hb dM_fire_94 rfl (lv_at hl 1 rfl) ?_
        refine lv_iconst (v := (2 : Int32)) hx hb dM_fire_95 (by decide) ?_
        refine lv_icmp_ne (tgt := 116) hx hb dM_fire_96 (by decide) (fun _ => ?_) (fun h0 => absurd h0 (by rw [h2]; decide))
        refine lv_iload_n hx hb dM_fire_116 rfl (lv_at hl 1 rfl) ?_
        refine lv_iconst (v := (3 : Int32)) hx hb dM_fire_117 (by decide) ?_
        refine lv_icmp_ne (tgt := 162) hx hb dM_fire_118 (by decide) (fun _ => ?_) (fun h0 => absurd h0 (by rw [h2]; decide))
        refine lv_iload_n hx hb dM_fire_162 rfl (lv_at hl 1 rfl) ?_
        refine lv_iconst (v := (4 : Int32)) hx hb dM_fire_163 (by decide) ?_
        refine lv_icmp_ne (tgt := 174) hx hb dM_fire_164 (by decide) (fun _ => ?_) (fun h0 => absurd h0 (by rw [h2]; decide))
        exact k_vret hx hb hr hlk hP hD hS dM_fire_174 () rfl (by simp only [fM_fire, if_neg h1, if_pos h2, if_neg h13, hq14])
  · -- not taken at 18
    refine lv_aload_n hx hb dM_fire_21 rfl (lv_at hl 2 rfl) ?_
    refine gfM_28 hx hb hts hown hN hK hP 0 rfl (v := .ref (bd 5)) rfl dM_fire_22 ?_
    refine lv_iload_n hx hb dM_fire_25 rfl (lv_at hl 0 rfl) ?_
    refine va_zald hx hb hK hP 5 0 rfl rfl (vp_in_nI (n := pl % 6) (N := 6) (by omega) (by omega)) dM_fire_26 ?_
    refine W.eq (g2 := F0 m 27 ls [.int (mo.1 (pl % 6))]) (congrArg (fun z => F0 m 27 ls (.int (mo.1 z) :: [])) (nI_clamp (n := pl % 6) (by omega))) ?_
    refine lv_if_ne (tgt := 53) hx hb dM_fire_27 (by decide) (fun h15 => ?_) (fun h15 => ?_)
    · -- taken at 27
      refine lv_iload_n hx hb dM_fire_53 rfl (lv_at hl 1 rfl) ?_
      refine lv_iconst (v := (1 : Int32)) hx hb dM_fire_54 (by decide) ?_
      refine lv_icmp_ne (tgt := 94) hx hb dM_fire_55 (by decide) (fun _ => ?_) (fun h0 => absurd h0 (by rw [h1]; decide))
      refine lv_iload_n hx hb dM_fire_94 rfl (lv_at hl 1 rfl) ?_
      refine lv_iconst (v := (2 : Int32)) hx hb dM_fire_95 (by decide) ?_
      refine lv_icmp_ne (tgt := 116) hx hb dM_fire_96 (by decide) (fun _ => ?_) (fun h0 => absurd h0 (by rw [h1]; decide))
      refine lv_iload_n hx hb dM_fire_116 rfl (lv_at hl 1 rfl) ?_
      refine lv_iconst (v := (3 : Int32)) hx hb dM_fire_117 (by decide) ?_
      refine lv_icmp_ne (tgt := 162) hx hb dM_fire_118 (by decide) (fun _ => ?_) (fun h0 => absurd h0 (by rw [h1]; decide))
      refine lv_iload_n hx hb dM_fire_162 rfl (lv_at hl 1 rfl) ?_
      refine lv_iconst (v := (4 : Int32)) hx hb dM_fire_163 (by decide) ?_
      refine lv_icmp_ne (tgt := 174) hx hb dM_fire_164 (by decide) (fun _ => ?_) (fun h0 => absurd h0 (by rw [h1]; decide))
      exact k_vret hx hb hr hlk hP hD hS dM_fire_174 () rfl (by simp only [fM_fire, if_pos h1, if_neg h15])
    · -- not taken at 27
      refine lv_aload_n hx hb dM_fire_30 rfl (lv_at hl 2 rfl) ?_
      refine lv_iconst (v := (0 : Int32)) hx hb dM_fire_31 (by decide) ?_
      refine lv_iload_n hx hb dM_fire_32 rfl (lv_at hl 0 rfl) ?_
      refine lv_iconst (v := (1 : Int32)) hx hb dM_fire_33 (by decide) ?_
      refine k_ca0 (wc := [cMd bd k mc mw (upd me.1 pl (0 : Int32), me.2.1, me.2.2.1, me.2.2.2) mo, cIa cI (bd 1) 128 mp, cZa cZ (bd 2) 30 (upd me.1 pl (0 : Int32)), cJa cJ (bd 3) 30 me.2.1, cIa cI (bd 4) 30 me.2.2.1, cZa cZ (bd 5) 6 mo.1, cZa cZ (bd 6) 6 mo.2.1, cZa cZ (bd 7) 2 ms.1, cIa cI (bd 8) 2 ms.2.1, cZa cZ (bd 9) 2 ms.2.2.1, cIa cI (bd 10) 2 ms.2.2.2.1, cIa cI (bd 11) 2 ms.2.2.2.2.1, cZa cZ (bd 12) 2 ms.2.2.2.2.2.1, cJa cJ (bd 13) 6 ms.2.2.2.2.2.2, cJa cJ (bd 14) 16 mo.2.2.1]) (wr := []) (va_runV (As := [.int (0 : Int32), .int (nI (pl % 6)), .int (1 : Int32)]) (rest := []) ⟨hx, hb, hml, hown, hts⟩ (ctM_switched l D cZ cI cJ tL tH H.size bd k mc mw mp (upd me.1 pl (0 : Int32), me.2.1, me.2.2.1, me.2.2.2) mo ms (0 : Int32) (pl % 6) (1 : Int32) hk (by omega) (Or.inr rfl)) (cwM_124 hts hN rfl rfl ⟨Nat.le_of_ble_eq_true rfl, Nat.le_of_ble_eq_true rfl⟩) (k_preV hK hN hT hA hS hP hD [0, 1, 2, 3, 4, 5, 6, 7, 8, 9, 10, 11, 12, 13, 14] rfl (by decide) 0 rfl rfl) rfl rfl hl.1 rfl (lv_room (Nat.le_of_ble_eq_true rfl)) dM_fire_34 ⟨Nat.zero_le _, Nat.zero_le _⟩) hP hD hS hA [0, 1, 2, 3, 4, 5, 6, 7, 8, 9, 10, 11, 12, 13, 14] [] rfl rfl (by decide) (by decide) (fun _ H locs hP hD hS => ?_)
      refine W.eq (g2 := F0 m 37 ls []) rfl ?_
      have hP : va_P D vwCl [cMd bd k mc mw (upd me.1 pl (0 : Int32), me.2.1, me.2.2.1, me.2.2.2) (fM_switched k mc mw mp (upd me.1 pl (0 : Int32), me.2.1, me.2.2.1, me.2.2.2) mo ms (0 : Int32) (pl % 6) (1 : Int32)), cIa cI (bd 1) 128 mp, cZa cZ (bd 2) 30 (upd me.1 pl (0 : Int32)), cJa cJ (bd 3) 30 me.2.1, cIa cI (bd 4) 30 me.2.2.1, cZa cZ (bd 5) 6 ((fM_switched k mc mw mp (upd me.1 pl (0 : Int32), me.2.1, me.2.2.1, me.2.2.2) mo ms (0 : Int32) (pl % 6) (1 : Int32)).1), cZa cZ (bd 6) 6 ((fM_switched k mc mw mp (upd me.1 pl (0 : Int32), me.2.1, me.2.2.1, me.2.2.2) mo ms (0 : Int32) (pl % 6) (1 : Int32)).2.1), cZa cZ (bd 7) 2 ms.1, cIa cI (bd 8) 2 ms.2.1, cZa cZ (bd 9) 2 ms.2.2.1, cIa cI (bd 10) 2 ms.2.2.2.1, cIa cI (bd 11) 2 ms.2.2.2.2.1, cZa cZ (bd 12) 2 ms.2.2.2.2.2.1, cJa cJ (bd 13) 6 ms.2.2.2.2.2.2, cJa cJ (bd 14) 16 ((fM_switched k mc mw mp (upd me.1 pl (0 : Int32), me.2.1, me.2.2.1, me.2.2.2) mo ms (0 : Int32) (pl % 6) (1 : Int32)).2.2.1)] H := hP
      have hD : va_D A [cMd bd k mc mw (upd me.1 pl (0 : Int32), me.2.1, me.2.2.1, me.2.2.2) (fM_switched k mc mw mp (upd me.1 pl (0 : Int32), me.2.1, me.2.2.1, me.2.2.2) mo ms (0 : Int32) (pl % 6) (1 : Int32)), cIa cI (bd 1) 128 mp, cZa cZ (bd 2) 30 (upd me.1 pl (0 : Int32)), cJa cJ (bd 3) 30 me.2.1, cIa cI (bd 4) 30 me.2.2.1, cZa cZ (bd 5) 6 ((fM_switched k mc mw mp (upd me.1 pl (0 : Int32), me.2.1, me.2.2.1, me.2.2.2) mo ms (0 : Int32) (pl % 6) (1 : Int32)).1), cZa cZ (bd 6) 6 ((fM_switched k mc mw mp (upd me.1 pl (0 : Int32), me.2.1, me.2.2.1, me.2.2.2) mo ms (0 : Int32) (pl % 6) (1 : Int32)).2.1), cZa cZ (bd 7) 2 ms.1, cIa cI (bd 8) 2 ms.2.1, cZa cZ (bd 9) 2 ms.2.2.1, cIa cI (bd 10) 2 ms.2.2.2.1, cIa cI (bd 11) 2 ms.2.2.2.2.1, cZa cZ (bd 12) 2 ms.2.2.2.2.2.1, cJa cJ (bd 13) 6 ms.2.2.2.2.2.2, cJa cJ (bd 14) 16 ((fM_switched k mc mw mp (upd me.1 pl (0 : Int32), me.2.1, me.2.2.1, me.2.2.2) mo ms (0 : Int32) (pl % 6) (1 : Int32)).2.2.1)] := hD
      generalize hq16 : fM_switched k mc mw mp (upd me.1 pl (0 : Int32), me.2.1, me.2.2.1, me.2.2.2) mo ms (0 : Int32) (pl % 6) (1 : Int32) = q16 at hP hD 
      have hP : va_P D vwCl [cMd bd k mc mw (upd me.1 pl (0 : Int32), me.2.1, me.2.2.1, me.2.2.2) q16, cIa cI (bd 1) 128 mp, cZa cZ (bd 2) 30 (upd me.1 pl (0 : Int32)), cJa cJ (bd 3) 30 me.2.1, cIa cI (bd 4) 30 me.2.2.1, cZa cZ (bd 5) 6 q16.1, cZa cZ (bd 6) 6 q16.2.1, cZa cZ (bd 7) 2 ms.1, cIa cI (bd 8) 2 ms.2.1, cZa cZ (bd 9) 2 ms.2.2.1, cIa cI (bd 10) 2 ms.2.2.2.1, cIa cI (bd 11) 2 ms.2.2.2.2.1, cZa cZ (bd 12) 2 ms.2.2.2.2.2.1, cJa cJ (bd 13) 6 ms.2.2.2.2.2.2, cJa cJ (bd 14) 16 q16.2.2.1] H := hP
      have hD : va_D A [cMd bd k mc mw (upd me.1 pl (0 : Int32), me.2.1, me.2.2.1, me.2.2.2) q16, cIa cI (bd 1) 128 mp, cZa cZ (bd 2) 30 (upd me.1 pl (0 : Int32)), cJa cJ (bd 3) 30 me.2.1, cIa cI (bd 4) 30 me.2.2.1, cZa cZ (bd 5) 6 q16.1, cZa cZ (bd 6) 6 q16.2.1, cZa cZ (bd 7) 2 ms.1, cIa cI (bd 8) 2 ms.2.1, cZa cZ (bd 9) 2 ms.2.2.1, cIa cI (bd 10) 2 ms.2.2.2.1, cIa cI (bd 11) 2 ms.2.2.2.2.1, cZa cZ (bd 12) 2 ms.2.2.2.2.2.1, cJa cJ (bd 13) 6 ms.2.2.2.2.2.2, cJa cJ (bd 14) 16 q16.2.2.1] := hD
      refine lv_aload_n hx hb dM_fire_37 rfl (lv_at hl 2 rfl) ?_
      refine lv_iconst (v := (2 : Int32)) hx hb dM_fire_38 (by decide) ?_
      refine lv_iload_n hx hb dM_fire_39 rfl (lv_at hl 0 rfl) ?_
      refine lv_aload_n hx hb dM_fire_40 rfl (lv_at hl 2 rfl) ?_
      refine gfM_111 hx hb hts hown hN hK hP 0 rfl (v := .long mw.1) rfl dM_fire_41 ?_
      refine lv_aload_n hx hb dM_fire_44 rfl (lv_at hl 2 rfl) ?_
      refine gfM_75 hx hb hts hown hN hK hP 0 rfl (v := .int mc.2.2.1) rfl dM_fire_45 ?_
      refine lv_i2l hx hb dM_fire_48 rfl ?_
      refine lv_ladd hx hb dM_fire_49 ?_
      refine k_ca0 (wc := [cMd bd k mc mw (upd me.1 pl (0 : Int32), me.2.1, me.2.2.1, me.2.2.2) q16, cIa cI (bd 1) 128 mp, cZa cZ (bd 2) 30 (upd me.1 pl (0 : Int32)), cJa cJ (bd 3) 30 me.2.1, cIa cI (bd 4) 30 me.2.2.1, cZa cZ (bd 5) 6 q16.1, cZa cZ (bd 6) 6 q16.2.1, cZa cZ (bd 7) 2 ms.1, cIa cI (bd 8) 2 ms.2.1, cZa cZ (bd 9) 2 ms.2.2.1, cIa cI (bd 10) 2 ms.2.2.2.1, cIa cI (bd 11) 2 ms.2.2.2.2.1, cZa cZ (bd 12) 2 ms.2.2.2.2.2.1, cJa cJ (bd 13) 6 ms.2.2.2.2.2.2, cJa cJ (bd 14) 16 q16.2.2.1]) (wr := []) (va_runV (As := [.int (nI 2), .int (nI (pl % 6)), .long (mw.1 + mc.2.2.1.toInt64)]) (rest := []) ⟨hx, hb, hml, hown, hts⟩ (ctM_plan l D cZ cI cJ tL tH H.size bd k mc mw mp (upd me.1 pl (0 : Int32), me.2.1, me.2.2.1, me.2.2.2) q16 ms 2 (pl % 6) (mw.1 + mc.2.2.1.toInt64) hk (by omega)) (cwM_128 hts hN rfl rfl ⟨Nat.le_of_ble_eq_true rfl, Nat.le_of_ble_eq_true rfl⟩) (k_preV hK hN hT hA hS hP hD [0, 1, 2, 3, 4, 5, 6, 7, 8, 9, 10, 11, 12, 13, 14] rfl (by decide) 0 rfl rfl) rfl rfl hl.1 rfl (lv_room (Nat.le_of_ble_eq_true rfl)) dM_fire_50 ⟨Nat.zero_le _, Nat.zero_le _⟩) hP hD hS hA [0, 1, 2, 3, 4, 5, 6, 7, 8, 9, 10, 11, 12, 13, 14] [] rfl rfl (by decide) (by decide) (fun _ H locs hP hD hS => ?_)
      refine W.eq (g2 := F0 m 53 ls []) rfl ?_
      have hP : va_P D vwCl [cMd bd k mc mw (fM_plan k mc mw mp (upd me.1 pl (0 : Int32), me.2.1, me.2.2.1, me.2.2.2) q16 ms 2 (pl % 6) (mw.1 + mc.2.2.1.toInt64)) q16, cIa cI (bd 1) 128 mp, cZa cZ (bd 2) 30 ((fM_plan k mc mw mp (upd me.1 pl (0 : Int32), me.2.1, me.2.2.1, me.2.2.2) q16 ms 2 (pl % 6) (mw.1 + mc.2.2.1.toInt64)).1), cJa cJ (bd 3) 30 ((fM_plan k mc mw mp (upd me.1 pl (0 : Int32), me.2.1, me.2.2.1, me.2.2.2) q16 ms 2 (pl % 6) (mw.1 + mc.2.2.1.toInt64)).2.1), cIa cI (bd 4) 30 ((fM_plan k mc mw mp (upd me.1 pl (0 : Int32), me.2.1, me.2.2.1, me.2.2.2) q16 ms 2 (pl % 6) (mw.1 + mc.2.2.1.toInt64)).2.2.1), cZa cZ (bd 5) 6 q16.1, cZa cZ (bd 6) 6 q16.2.1, cZa cZ (bd 7) 2 ms.1, cIa cI (bd 8) 2 ms.2.1, cZa cZ (bd 9) 2 ms.2.2.1, cIa cI (bd 10) 2 ms.2.2.2.1, cIa cI (bd 11) 2 ms.2.2.2.2.1, cZa cZ (bd 12) 2 ms.2.2.2.2.2.1, cJa cJ (bd 13) 6 ms.2.2.2.2.2.2, cJa cJ (bd 14) 16 q16.2.2.1] H := hP
      have hD : va_D A [cMd bd k mc mw (fM_plan k mc mw mp (upd me.1 pl (0 : Int32), me.2.1, me.2.2.1, me.2.2.2) q16 ms 2 (pl % 6) (mw.1 + mc.2.2.1.toInt64)) q16, cIa cI (bd 1) 128 mp, cZa cZ (bd 2) 30 ((fM_plan k mc mw mp (upd me.1 pl (0 : Int32), me.2.1, me.2.2.1, me.2.2.2) q16 ms 2 (pl % 6) (mw.1 + mc.2.2.1.toInt64)).1), cJa cJ (bd 3) 30 ((fM_plan k mc mw mp (upd me.1 pl (0 : Int32), me.2.1, me.2.2.1, me.2.2.2) q16 ms 2 (pl % 6) (mw.1 + mc.2.2.1.toInt64)).2.1), cIa cI (bd 4) 30 ((fM_plan k mc mw mp (upd me.1 pl (0 : Int32), me.2.1, me.2.2.1, me.2.2.2) q16 ms 2 (pl % 6) (mw.1 + mc.2.2.1.toInt64)).2.2.1), cZa cZ (bd 5) 6 q16.1, cZa cZ (bd 6) 6 q16.2.1, cZa cZ (bd 7) 2 ms.1, cIa cI (bd 8) 2 ms.2.1, cZa cZ (bd 9) 2 ms.2.2.1, cIa cI (bd 10) 2 ms.2.2.2.1, cIa cI (bd 11) 2 ms.2.2.2.2.1, cZa cZ (bd 12) 2 ms.2.2.2.2.2.1, cJa cJ (bd 13) 6 ms.2.2.2.2.2.2, cJa cJ (bd 14) 16 q16.2.2.1] := hD
      generalize hq17 : fM_plan k mc mw mp (upd me.1 pl (0 : Int32), me.2.1, me.2.2.1, me.2.2.2) q16 ms 2 (pl % 6) (mw.1 + mc.2.2.1.toInt64) = q17 at hP hD 
      have hP : va_P D vwCl [cMd bd k mc mw q17 q16, cIa cI (bd 1) 128 mp, cZa cZ (bd 2) 30 q17.1, cJa cJ (bd 3) 30 q17.2.1, cIa cI (bd 4) 30 q17.2.2.1, cZa cZ (bd 5) 6 q16.1, cZa cZ (bd 6) 6 q16.2.1, cZa cZ (bd 7) 2 ms.1, cIa cI (bd 8) 2 ms.2.1, cZa cZ (bd 9) 2 ms.2.2.1, cIa cI (bd 10) 2 ms.2.2.2.1, cIa cI (bd 11) 2 ms.2.2.2.2.1, cZa cZ (bd 12) 2 ms.2.2.2.2.2.1, cJa cJ (bd 13) 6 ms.2.2.2.2.2.2, cJa cJ (bd 14) 16 q16.2.2.1] H := hP
      have hD : va_D A [cMd bd k mc mw q17 q16, cIa cI (bd 1) 128 mp, cZa cZ (bd 2) 30 q17.1, cJa cJ (bd 3) 30 q17.2.1, cIa cI (bd 4) 30 q17.2.2.1, cZa cZ (bd 5) 6 q16.1, cZa cZ (bd 6) 6 q16.2.1, cZa cZ (bd 7) 2 ms.1, cIa cI (bd 8) 2 ms.2.1, cZa cZ (bd 9) 2 ms.2.2.1, cIa cI (bd 10) 2 ms.2.2.2.1, cIa cI (bd 11) 2 ms.2.2.2.2.1, cZa cZ (bd 12) 2 ms.2.2.2.2.2.1, cJa cJ (bd 13) 6 ms.2.2.2.2.2.2, cJa cJ (bd 14) 16 q16.2.2.1] := hD
      refine lv_iload_n hx hb dM_fire_53 rfl (lv_at hl 1 rfl) ?_
      refine lv_iconst (v := (1 : Int32)) hx hb dM_fire_54 (by decide) ?_
      refine lv_icmp_ne (tgt := 94) hx hb dM_fire_55 (by decide) (fun _ => ?_) (fun h0 => absurd h0 (by rw [h1]; decide))
      refine lv_iload_n hx hb dM_fire_94 rfl (lv_at hl 1 rfl) ?_
      refine lv_iconst (v := (2 : Int32)) hx hb dM_fire_95 (by decide) ?_
      refine lv_icmp_ne (tgt := 116) hx hb dM_fire_96 (by decide) (fun _ => ?_) (fun h0 => absurd h0 (by rw [h1]; decide))
      refine lv_iload_n hx hb dM_fire_116 rfl (lv_at hl 1 rfl) ?_
      refine lv_iconst (v := (3 : Int32)) hx hb dM_fire_117 (by decide) ?_
      refine lv_icmp_ne (tgt := 162) hx hb dM_fire_118 (by decide) (fun _ => ?_) (fun h0 => absurd h0 (by rw [h1]; decide))
      refine lv_iload_n hx hb dM_fire_162 rfl (lv_at hl 1 rfl) ?_
      refine lv_iconst (v := (4 : Int32)) hx hb dM_fire_163 (by decide) ?_
      refine lv_icmp_ne (tgt := 174) hx hb dM_fire_164 (by decide) (fun _ => ?_) (fun h0 => absurd h0 (by rw [h1]; decide))
      exact k_vret hx hb hr hlk hP hD hS dM_fire_174 () rfl (by simp only [fM_fire, if_pos h1, if_pos h15, hq16, hq17])


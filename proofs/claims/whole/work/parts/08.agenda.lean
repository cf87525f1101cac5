/-! Agenda and Sensor: written by program (wip/whole/gen/specs3.py) -/
def fA_placeOf (k : Nat) (ag : AgT) (ki : Nat) (cy : Nat) : Int32 :=
  nI ((ki * k) + cy)
set_option maxRecDepth 100000 in
set_option maxHeartbeats 4000000 in
theorem ctA_placeOf (l : Launch) (D : va_G) (cZ cI cJ : ClassId) (tL tH : Nat) (sz : Nat) (h : Nat) (aT : Nat) (aM : Nat) (aR : Nat) (k : Nat) (ag : AgT) (ki : Nat) (cy : Nat)  (hk : 0 < k ∧ k ≤ 6) : Ct l yA_placeOf wA_placeOf ({ frames := 0, cells := 0, slots := 0, locals := 0 }) D (tyG cZ cI cJ) tL tH [.ref h, .int (nI ki), .int (nI cy)] sz [cAg h aT aM aR k ag, cZa cZ aT (5 * k) ag.1, cJa cJ aM (5 * k) ag.2.1, cIa cI aR (5 * k) ag.2.2.1] (fun _ : Unit => some (.int (fA_placeOf k ag ki cy))) (fun _ : Unit => [cAg h aT aM aR k ag, cZa cZ aT (5 * k) ag.1, cJa cJ aM (5 * k) ag.2.1, cIa cI aR (5 * k) ag.2.2.1]) 0 0 := by
  refine k_go (by decide +kernel) (Nat.le_of_ble_eq_true rfl) ?_
  intro p e s m args below meth c A ls H hx hb hr hml hts hown hlk hnm hK hN hT hA hS hP hD hl
  have hown : s.vm.findClass "ToothWheelTimer$Agenda" = some m.cls := hown
  have hlk : meth.locks = false := hlk
  have hl : lv_has ls 3 [(0, .ref h), (1, .int (nI ki)), (2, .int (nI cy))] := hl
  refine lv_iload_n hx hb dA_placeOf_0 rfl (lv_at hl 1 rfl) ?_
  refine lv_aload_n hx hb dA_placeOf_1 rfl (lv_at hl 0 rfl) ?_
  refine gfA_18 hx hb hts hown hN hK hP 0 rfl (v := .int (nI k)) rfl dA_placeOf_2 ?_
  refine lv_imul hx hb dA_placeOf_5 ?_
  refine W.eq (g2 := F0 m 6 ls [.int (nI (ki * k))]) (congrArg (fun z => F0 m 6 ls (.int z :: [])) (pk_mul ki k)) ?_
  refine lv_iload_n hx hb dA_placeOf_6 rfl (lv_at hl 2 rfl) ?_
  refine lv_iadd hx hb dA_placeOf_7 ?_
  refine W.eq (g2 := F0 m 8 ls [.int (nI ((ki * k) + cy))]) (congrArg (fun z => F0 m 8 ls (.int z :: [])) (nI_add (ki * k) cy)) ?_
  exact k_iret hx hb hr hlk hP hD hS dA_placeOf_8 () rfl rfl

def fA_kindOf (k : Nat) (ag : AgT) (pl : Nat) : Int32 :=
  nI (pl / k)
set_option maxRecDepth 100000 in
set_option maxHeartbeats 4000000 in
theorem ctA_kindOf (l : Launch) (D : va_G) (cZ cI cJ : ClassId) (tL tH : Nat) (sz : Nat) (h : Nat) (aT : Nat) (aM : Nat) (aR : Nat) (k : Nat) (ag : AgT) (pl : Nat)  (hk : 0 < k ∧ k ≤ 6) (hpl : pl < 5 * k) : Ct l yA_kindOf wA_kindOf ({ frames := 0, cells := 0, slots := 0, locals := 0 }) D (tyG cZ cI cJ) tL tH [.ref h, .int (nI pl)] sz [cAg h aT aM aR k ag, cZa cZ aT (5 * k) ag.1, cJa cJ aM (5 * k) ag.2.1, cIa cI aR (5 * k) ag.2.2.1] (fun _ : Unit => some (.int (fA_kindOf k ag pl))) (fun _ : Unit => [cAg h aT aM aR k ag, cZa cZ aT (5 * k) ag.1, cJa cJ aM (5 * k) ag.2.1, cIa cI aR (5 * k) ag.2.2.1]) 0 0 := by
  refine k_go (by decide +kernel) (Nat.le_of_ble_eq_true rfl) ?_
  intro p e s m args below meth c A ls H hx hb hr hml hts hown hlk hnm hK hN hT hA hS hP hD hl
  have hown : s.vm.findClass "ToothWheelTimer$Agenda" = some m.cls := hown
  have hlk : meth.locks = false := hlk
  have hl : lv_has ls 2 [(0, .ref h), (1, .int (nI pl))] := hl
  refine lv_iload_n hx hb dA_kindOf_0 rfl (lv_at hl 1 rfl) ?_
  refine lv_aload_n hx hb dA_kindOf_1 rfl (lv_at hl 0 rfl) ?_
  refine gfA_18 hx hb hts hown hN hK hP 0 rfl (v := .int (nI k)) rfl dA_kindOf_2 ?_
  refine lv_idiv hx hb dA_kindOf_5 (nI_ne0 (by omega) (by omega)) ?_
  refine W.eq (g2 := F0 m 6 ls [.int (nI (pl / k))]) (congrArg (fun z => F0 m 6 ls (.int z :: [])) (pk_div (a := pl) (d := k) (by omega) (by omega) (by omega))) ?_
  exact k_iret hx hb hr hlk hP hD hS dA_kindOf_6 () rfl rfl

def fA_cylinderOf (k : Nat) (ag : AgT) (pl : Nat) : Int32 :=
  nI (pl % k)
set_option maxRecDepth 100000 in
set_option maxHeartbeats 4000000 in
theorem ctA_cylinderOf (l : Launch) (D : va_G) (cZ cI cJ : ClassId) (tL tH : Nat) (sz : Nat) (h : Nat) (aT : Nat) (aM : Nat) (aR : Nat) (k : Nat) (ag : AgT) (pl : Nat)  (hk : 0 < k ∧ k ≤ 6) (hpl : pl < 5 * k) : Ct l yA_cylinderOf wA_cylinderOf ({ frames := 0, cells := 0, slots := 0, locals := 0 }) D (tyG cZ cI cJ) tL tH [.ref h, .int (nI pl)] sz [cAg h aT aM aR k ag, cZa cZ aT (5 * k) ag.1, cJa cJ aM (5 * k) ag.2.1, cIa cI aR (5 * k) ag.2.2.1] (fun _ : Unit => some (.int (fA_cylinderOf k ag pl))) (fun _ : Unit => [cAg h aT aM aR k ag, cZa cZ aT (5 * k) ag.1, cJa cJ aM (5 * k) ag.2.1, cIa cI aR (5 * k) ag.2.2.1]) 0 0 := by
  refine k_go (by decide +kernel) (Nat.le_of_ble_eq_true rfl) ?_
  intro p e s m args below meth c A ls H hx hb hr hml hts hown hlk hnm hK hN hT hA hS hP hD hl
  have hown : s.vm.findClass "ToothWheelTimer$Agenda" = some m.cls := hown
  have hlk : meth.locks = false := hlk
  have hl : lv_has ls 2 [(0, .ref h), (1, .int (nI pl))] := hl
  refine lv_iload_n hx hb dA_cylinderOf_0 rfl (lv_at hl 1 rfl) ?_
  refine lv_aload_n hx hb dA_cylinderOf_1 rfl (lv_at hl 0 rfl) ?_
  refine gfA_18 hx hb hts hown hN hK hP 0 rfl (v := .int (nI k)) rfl dA_cylinderOf_2 ?_
  refine lv_irem hx hb dA_cylinderOf_5 (nI_ne0 (by omega) (by omega)) ?_
  refine W.eq (g2 := F0 m 6 ls [.int (nI (pl % k))]) (congrArg (fun z => F0 m 6 ls (.int z :: [])) (pk_rem (a := pl) (d := k) (by omega) (by omega) (by omega))) ?_
  exact k_iret hx hb hr hlk hP hD hS dA_cylinderOf_6 () rfl rfl

def fA_plan (k : Nat) (ag : AgT) (ki : Nat) (cy : Nat) (time : Int64) : AgT :=
  if (ag.1 (ki * k + cy)) = 0 then
    (upd ag.1 (ki * k + cy) (1 : Int32), vp_updL ag.2.1 (ki * k + cy) time, upd ag.2.2.1 (ki * k + cy) ag.2.2.2.1, ag.2.2.2.1 + (1 : Int32), ag.2.2.2.2 + (1 : Int32))
  else
    (ag.1, vp_updL ag.2.1 (ki * k + cy) time, upd ag.2.2.1 (ki * k + cy) ag.2.2.2.1, ag.2.2.2.1 + (1 : Int32), ag.2.2.2.2)
set_option maxRecDepth 100000 in
set_option maxHeartbeats 4000000 in
theorem ctA_plan (l : Launch) (D : va_G) (cZ cI cJ : ClassId) (tL tH : Nat) (sz : Nat) (h : Nat) (aT : Nat) (aM : Nat) (aR : Nat) (k : Nat) (ag : AgT) (ki : Nat) (cy : Nat) (time : Int64)  (hk : 0 < k ∧ k ≤ 6) (hi : ki * k + cy < 5 * k) : Ct l yA_plan wA_plan ({ frames := 1, cells := 0, slots := 0, locals := 22 }) D (tyG cZ cI cJ) tL tH [.ref h, .int (nI ki), .int (nI cy), .long time] sz [cAg h aT aM aR k ag, cZa cZ aT (5 * k) ag.1, cJa cJ aM (5 * k) ag.2.1, cIa cI aR (5 * k) ag.2.2.1] (fun _ : Unit => none) (fun _ : Unit => [cAg h aT aM aR k (fA_plan k ag ki cy time), cZa cZ aT (5 * k) ((fA_plan k ag ki cy time).1), cJa cJ aM (5 * k) ((fA_plan k ag ki cy time).2.1), cIa cI aR (5 * k) ((fA_plan k ag ki cy time).2.2.1)]) 0 0 := by
  refine k_go (by decide +kernel) (Nat.le_of_ble_eq_true rfl) ?_
  intro p e s m args below meth c A ls H hx hb hr hml hts hown hlk hnm hK hN hT hA hS hP hD hl
  have hown : s.vm.findClass "ToothWheelTimer$Agenda" = some m.cls := hown
  have hlk : meth.locks = false := hlk
  have hl : lv_has ls 6 [(0, .ref h), (1, .int (nI ki)), (2, .int (nI cy)), (3, .long time)] := hl
  refine lv_aload_n hx hb dA_plan_0 rfl (lv_at hl 0 rfl) ?_
  refine lv_iload_n hx hb dA_plan_1 rfl (lv_at hl 1 rfl) ?_
  refine lv_iload_n hx hb dA_plan_2 rfl (lv_at hl 2 rfl) ?_
  refine k_ca0 (wc := [cAg h aT aM aR k ag, cZa cZ aT (5 * k) ag.1, cJa cJ aM (5 * k) ag.2.1, cIa cI aR (5 * k) ag.2.2.1]) (wr := []) (va_runV (As := [.int (nI ki), .int (nI cy)]) (rest := []) ⟨hx, hb, hml, hown, hts⟩ (ctA_placeOf l D cZ cI cJ tL tH H.size h aT aM aR k ag ki cy hk) (cwA_33 hts hN rfl rfl ⟨Nat.le_of_ble_eq_true rfl, Nat.le_of_ble_eq_true rfl⟩) (k_preV hK hN hT hA hS hP hD [0, 1, 2, 3] rfl (by decide) 0 rfl rfl) rfl rfl hl.1 rfl (lv_room (Nat.le_of_ble_eq_true rfl)) dA_plan_3 ⟨Nat.zero_le _, Nat.zero_le _⟩) hP hD hS hA [0, 1, 2, 3] [] rfl rfl (by decide) (by decide) (fun _ H locs hP hD hS => ?_)
  refine W.eq (g2 := F0 m 6 ls [.int (nI (ki * k + cy))]) rfl ?_
  have hP : va_P D vwCl [cAg h aT aM aR k ag, cZa cZ aT (5 * k) ag.1, cJa cJ aM (5 * k) ag.2.1, cIa cI aR (5 * k) ag.2.2.1] H := hP
  have hD : va_D A [cAg h aT aM aR k ag, cZa cZ aT (5 * k) ag.1, cJa cJ aM (5 * k) ag.2.1, cIa cI aR (5 * k) ag.2.2.1] := hD
  refine lv_istore (lv' := [(5, .int (nI (ki * k + cy))), (0, .ref h), (1, .int (nI ki)), (2, .int (nI cy)), (3, .long time)]) hx hb dA_plan_6 hl (by decide) rfl (fun ls hl => ?_)
  refine lv_aload_n hx hb dA_plan_8 rfl (lv_at hl 1 rfl) ?_
  refine gfA_21 hx hb hts hown hN hK hP 0 rfl (v := .ref aT) rfl dA_plan_9 ?_
  refine lv_iload hx hb dA_plan_12 (lv_at hl 0 rfl) ?_
  refine va_zald hx hb hK hP 1 0 rfl rfl (vp_in_nI (n := ki * k + cy) (N := 5 * k) (by omega) (by omega)) dA_plan_14 ?_
  refine W.eq (g2 := F0 m 15 ls [.int (ag.1 (ki * k + cy))]) (congrArg (fun z => F0 m 15 ls (.int (ag.1 z) :: [])) (nI_clamp (n := ki * k + cy) (by omega))) ?_
  refine lv_if_ne (tgt := 36) hx hb dA_plan_15 (by decide) (fun h1 => ?_) (fun h1 => ?_)
  · -- taken at 15
    refine lv_aload_n hx hb dA_plan_36 rfl (lv_at hl 1 rfl) ?_
    refine gfA_25 hx hb hts hown hN hK hP 0 rfl (v := .ref aM) rfl dA_plan_37 ?_
    refine lv_iload hx hb dA_plan_40 (lv_at hl 0 rfl) ?_
    refine lv_lload_n hx hb dA_plan_42 rfl (lv_at hl 4 rfl) ?_
    refine va_last hx hb hK hP hD hS 2 2 rfl rfl (vp_in_nI (n := ki * k + cy) (N := 5 * k) (by omega) (by omega)) dA_plan_43 (fun H locs hP hD hS => ?_)
    have e9 : (nI (ki * k + cy)).toNatClampNeg = ki * k + cy := (nI_clamp (n := ki * k + cy) (by omega))
    rw [e9] at hP hD
    have hP : va_P D vwCl [cAg h aT aM aR k (ag.1, vp_updL ag.2.1 (ki * k + cy) time, ag.2.2.1, ag.2.2.2.1, ag.2.2.2.2), cZa cZ aT (5 * k) ag.1, cJa cJ aM (5 * k) (vp_updL ag.2.1 (ki * k + cy) time), cIa cI aR (5 * k) ag.2.2.1] H := hP
    have hD : va_D A [cAg h aT aM aR k (ag.1, vp_updL ag.2.1 (ki * k + cy) time, ag.2.2.1, ag.2.2.2.1, ag.2.2.2.2), cZa cZ aT (5 * k) ag.1, cJa cJ aM (5 * k) (vp_updL ag.2.1 (ki * k + cy) time), cIa cI aR (5 * k) ag.2.2.1] := hD
    refine lv_aload_n hx hb dA_plan_44 rfl (lv_at hl 1 rfl) ?_
    refine gfA_29 hx hb hts hown hN hK hP 0 rfl (v := .ref aR) rfl dA_plan_45 ?_
    refine lv_iload hx hb dA_plan_48 (lv_at hl 0 rfl) ?_
    refine lv_aload_n hx hb dA_plan_50 rfl (lv_at hl 1 rfl) ?_
    refine gfA_9 hx hb hts hown hN hK hP 0 rfl (v := .int ag.2.2.2.1) rfl dA_plan_51 ?_
    refine va_iast hx hb hK hP hD hS 3 1 rfl rfl (vp_in_nI (n := ki * k + cy) (N := 5 * k) (by omega) (by omega)) dA_plan_54 (fun H locs hP hD hS => ?_)
    have e9 : (nI (ki * k + cy)).toNatClampNeg = ki * k + cy := (nI_clamp (n := ki * k + cy) (by omega))
    rw [e9] at hP hD
    have hP : va_P D vwCl [cAg h aT aM aR k (ag.1, vp_updL ag.2.1 (ki * k + cy) time, upd ag.2.2.1 (ki * k + cy) ag.2.2.2.1, ag.2.2.2.1, ag.2.2.2.2), cZa cZ aT (5 * k) ag.1, cJa cJ aM (5 * k) (vp_updL ag.2.1 (ki * k + cy) time), cIa cI aR (5 * k) (upd ag.2.2.1 (ki * k + cy) ag.2.2.2.1)] H := hP
    have hD : va_D A [cAg h aT aM aR k (ag.1, vp_updL ag.2.1 (ki * k + cy) time, upd ag.2.2.1 (ki * k + cy) ag.2.2.2.1, ag.2.2.2.1, ag.2.2.2.2), cZa cZ aT (5 * k) ag.1, cJa cJ aM (5 * k) (vp_updL ag.2.1 (ki * k + cy) time), cIa cI aR (5 * k) (upd ag.2.2.1 (ki * k + cy) ag.2.2.2.1)] := hD
    refine lv_aload_n hx hb dA_plan_55 rfl (lv_at hl 1 rfl) ?_
    refine lv_dup hx hb dA_plan_56 rfl ?_
    refine gfA_9 hx hb hts hown hN hK hP 0 rfl (v := .int ag.2.2.2.1) rfl dA_plan_57 ?_
    refine lv_iconst (v := (1 : Int32)) hx hb dA_plan_60 (by decide) ?_
    refine lv_iadd hx hb dA_plan_61 ?_
    refine pfA_9 hx hb hts hown hN hK hP hD hS 0 rfl (v := .int (ag.2.2.2.1 + (1 : Int32))) rfl rfl (Nat.le_of_ble_eq_true rfl) dA_plan_62 (fun H locs hP hD hS => ?_)
    have hP : va_P D vwCl [cAg h aT aM aR k (ag.1, vp_updL ag.2.1 (ki * k + cy) time, upd ag.2.2.1 (ki * k + cy) ag.2.2.2.1, ag.2.2.2.1 + (1 : Int32), ag.2.2.2.2), cZa cZ aT (5 * k) ag.1, cJa cJ aM (5 * k) (vp_updL ag.2.1 (ki * k + cy) time), cIa cI aR (5 * k) (upd ag.2.2.1 (ki * k + cy) ag.2.2.2.1)] H := hP
    have hD : va_D A [cAg h aT aM aR k (ag.1, vp_updL ag.2.1 (ki * k + cy) time, upd ag.2.2.1 (ki * k + cy) ag.2.2.2.1, ag.2.2.2.1 + (1 : Int32), ag.2.2.2.2), cZa cZ aT (5 * k) ag.1, cJa cJ aM (5 * k) (vp_updL ag.2.1 (ki * k + cy) time), cIa cI aR (5 * k) (upd ag.2.2.1 (ki * k + cy) ag.2.2.2.1)] := hD
    exact k_vret hx hb hr hlk hP hD hS dA_plan_65 () rfl (by simp only [fA_plan, if_neg h1])
  · -- not taken at 15
    refine lv_aload_n hx hb dA_plan_18 rfl (lv_at hl 1 rfl) ?_
    refine gfA_21 hx hb hts hown hN hK hP 0 rfl (v := .ref aT) rfl dA_plan_19 ?_
    refine lv_iload hx hb dA_plan_22 (lv_at hl 0 rfl) ?_
    refine lv_iconst (v := (1 : Int32)) hx hb dA_plan_24 (by decide) ?_
    refine va_zast hx hb hK hP hD hS 1 0 rfl rfl (vp_in_nI (n := ki * k + cy) (N := 5 * k) (by omega) (by omega)) dA_plan_25 (fun H locs hP hD hS => ?_)
    rw [zn_nar (Or.inr rfl)] at hP hD
    have e9 : (nI (ki * k + cy)).toNatClampNeg = ki * k + cy := (nI_clamp (n := ki * k + cy) (by omega))
    rw [e9] at hP hD
    have hP : va_P D vwCl [cAg h aT aM aR k (upd ag.1 (ki * k + cy) (1 : Int32), ag.2.1, ag.2.2.1, ag.2.2.2.1, ag.2.2.2.2), cZa cZ aT (5 * k) (upd ag.1 (ki * k + cy) (1 : Int32)), cJa cJ aM (5 * k) ag.2.1, cIa cI aR (5 * k) ag.2.2.1] H := hP
    have hD : va_D A [cAg h aT aM aR k (upd ag.1 (ki * k + cy) (1 : Int32), ag.2.1, ag.2.2.1, ag.2.2.2.1, ag.2.2.2.2), cZa cZ aT (5 * k) (upd ag.1 (ki * k + cy) (1 : Int32)), cJa cJ aM (5 * k) ag.2.1, cIa cI aR (5 * k) ag.2.2.1] := hD
    refine lv_aload_n hx hb dA_plan_26 rfl (lv_at hl 1 rfl) ?_
    refine lv_dup hx hb dA_plan_27 rfl ?_
    refine gfA_15 hx hb hts hown hN hK hP 0 rfl (v := .int ag.2.2.2.2) rfl dA_plan_28 ?_
    refine lv_iconst (v := (1 : Int32)) hx hb dA_plan_31 (by decide) ?_
    refine lv_iadd hx hb dA_plan_32 ?_
    refine pfA_15 hx hb hts hown hN hK hP hD hS 0 rfl (v := .int (ag.2.2.2.2 + (1 : Int32))) rfl rfl (Nat.le_of_ble_eq_true rfl) dA_plan_33 (fun H locs hP hD hS => ?_)
    have hP : va_P D vwCl [cAg h aT aM aR k (upd ag.1 (ki * k + cy) (1 : Int32), ag.2.1, ag.2.2.1, ag.2.2.2.1, ag.2.2.2.2 + (1 : Int32)), cZa cZ aT (5 * k) (upd ag.1 (ki * k + cy) (1 : Int32)), cJa cJ aM (5 * k) ag.2.1, cIa cI aR (5 * k) ag.2.2.1] H := hP
    have hD : va_D A [cAg h aT aM aR k (upd ag.1 (ki * k + cy) (1 : Int32), ag.2.1, ag.2.2.1, ag.2.2.2.1, ag.2.2.2.2 + (1 : Int32)), cZa cZ aT (5 * k) (upd ag.1 (ki * k + cy) (1 : Int32)), cJa cJ aM (5 * k) ag.2.1, cIa cI aR (5 * k) ag.2.2.1] := hD
    refine lv_aload_n hx hb dA_plan_36 rfl (lv_at hl 1 rfl) ?_
    refine gfA_25 hx hb hts hown hN hK hP 0 rfl (v := .ref aM) rfl dA_plan_37 ?_
    refine lv_iload hx hb dA_plan_40 (lv_at hl 0 rfl) ?_
    refine lv_lload_n hx hb dA_plan_42 rfl (lv_at hl 4 rfl) ?_
    refine va_last hx hb hK hP hD hS 2 2 rfl rfl (vp_in_nI (n := ki * k + cy) (N := 5 * k) (by omega) (by omega)) dA_plan_43 (fun H locs hP hD hS => ?_)
    have e9 : (nI (ki * k + cy)).toNatClampNeg = ki * k + cy := (nI_clamp (n := ki * k + cy) (by omega))
    rw [e9] at hP hD
    have hP : va_P D vwCl [cAg h aT aM aR k (upd ag.1 (ki * k + cy) (1 : Int32), vp_updL ag.2.1 (ki * k + cy) time, ag.2.2.1, ag.2.2.2.1, ag.2.2.2.2 + (1 : Int32)), cZa cZ aT (5 * k) (upd ag.1 (ki * k + cy) (1 : Int32)), cJa cJ aM (5 * k) (vp_updL ag.2.1 (ki * k + cy) time), cIa cI aR (5 * k) ag.2.2.1] H := hP
    have hD : va_D A [cAg h aT aM aR k (upd ag.1 (ki * k + cy) (1 : Int32), vp_updL ag.2.1 (ki * k + cy) time, ag.2.2.1, ag.2.2.2.1, ag.2.2.2.2 + (1 : Int32)), cZa cZ aT (5 * k) (upd ag.1 (ki * k + cy) (1 : Int32)), cJa cJ aM (5 * k) (vp_updL ag.2.1 (ki * k + cy) time), cIa cI aR (5 * k) ag.2.2.1] := hD
    refine lv_aload_n hx hb dA_plan_44 rfl (lv_at hl 1 rfl) ?_
    refine gfA_29 hx hb hts hown hN hK hP 0 rfl (v := .ref aR) rfl dA_plan_45 ?_
    refine lv_iload hx hb dA_plan_48 (lv_at hl 0 rfl) ?_
    refine lv_aload_n hx hb dA_plan_50 rfl (lv_at hl 1 rfl) ?_
    refine gfA_9 hx hb hts hown hN hK hP 0 rfl (v := .int ag.2.2.2.1) rfl dA_plan_51 ?_
    refine va_iast hx hb hK hP hD hS 3 1 rfl rfl (vp_in_nI (n := ki * k + cy) (N := 5 * k) (by omega) (by omega)) dA_plan_54 (fun H locs hP hD hS => ?_)
    have e9 : (nI (ki * k + cy)).toNatClampNeg = ki * k + cy := (nI_clamp (n := ki * k + cy) (by omega))
    rw [e9] at hP hD
    have hP : va_P D vwCl [cAg h aT aM aR k (upd ag.1 (ki * k + cy) (1 : Int32), vp_updL ag.2.1 (ki * k + cy) time, upd ag.2.2.1 (ki * k + cy) ag.2.2.2.1, ag.2.2.2.1, ag.2.2.2.2 + (1 : Int32)), cZa cZ aT (5 * k) (upd ag.1 (ki * k + cy) (1 : Int32)), cJa cJ aM (5 * k) (vp_updL ag.2.1 (ki * k + cy) time), cIa cI aR (5 * k) (upd ag.2.2.1 (ki * k + cy) ag.2.2.2.1)] H := hP
    have hD : va_D A [cAg h aT aM aR k (upd ag.1 (ki * k + cy) (1 : Int32), vp_updL ag.2.1 (ki * k + cy) time, upd ag.2.2.1 (ki * k + cy) ag.2.2.2.1, ag.2.2.2.1, ag.2.2.2.2 + (1 : Int32)), cZa cZ aT (5 * k) (upd ag.1 (ki * k + cy) (1 : Int32)), cJa cJ aM (5 * k) (vp_updL ag.2.1 (ki * k + cy) time), cIa cI aR (5 * k) (upd ag.2.2.1 (ki * k + cy) ag.2.2.2.1)] := hD
    refine lv_aload_n hx hb dA_plan_55 rfl (lv_at hl 1 rfl) ?_
    refine lv_dup hx hb dA_plan_56 rfl ?_
    refine gfA_9 hx hb hts hown hN hK hP 0 rfl (v := .int ag.2.2.2.1) rfl dA_plan_57 ?_
    refine lv_iconst (v := (1 : Int32)) hx hb dA_plan_60 (by decide) ?_
    refine lv_iadd hx hb dA_plan_61 ?_
    refine pfA_9 hx hb hts hown hN hK hP hD hS 0 rfl (v := .int (ag.2.2.2.1 + (1 : Int32))) rfl rfl (Nat.le_of_ble_eq_true rfl) dA_plan_62 (fun H locs hP hD hS => ?_)
    have hP : va_P D vwCl [cAg h aT aM aR k (upd ag.1 (ki * k + cy) (1 : Int32), vp_updL ag.2.1 (ki * k + cy) time, upd ag.2.2.1 (ki * k + cy) ag.2.2.2.1, ag.2.2.2.1 + (1 : Int32), ag.2.2.2.2 + (1 : Int32)), cZa cZ aT (5 * k) (upd ag.1 (ki * k + cy) (1 : Int32)), cJa cJ aM (5 * k) (vp_updL ag.2.1 (ki * k + cy) time), cIa cI aR (5 * k) (upd ag.2.2.1 (ki * k + cy) ag.2.2.2.1)] H := hP
    have hD : va_D A [cAg h aT aM aR k (upd ag.1 (ki * k + cy) (1 : Int32), vp_updL ag.2.1 (ki * k + cy) time, upd ag.2.2.1 (ki * k + cy) ag.2.2.2.1, ag.2.2.2.1 + (1 : Int32), ag.2.2.2.2 + (1 : Int32)), cZa cZ aT (5 * k) (upd ag.1 (ki * k + cy) (1 : Int32)), cJa cJ aM (5 * k) (vp_updL ag.2.1 (ki * k + cy) time), cIa cI aR (5 * k) (upd ag.2.2.1 (ki * k + cy) ag.2.2.2.1)] := hD
    exact k_vret hx hb hr hlk hP hD hS dA_plan_65 () rfl (by simp only [fA_plan, if_pos h1])

def fA_remove (k : Nat) (ag : AgT) (ki : Nat) (cy : Nat) : AgT :=
  if (ag.1 (ki * k + cy)) = 0 then
    ag
  else
    (upd ag.1 (ki * k + cy) (0 : Int32), ag.2.1, ag.2.2.1, ag.2.2.2.1, ag.2.2.2.2 - (1 : Int32))
set_option maxRecDepth 100000 in
set_option maxHeartbeats 4000000 in
theorem ctA_remove (l : Launch) (D : va_G) (cZ cI cJ : ClassId) (tL tH : Nat) (sz : Nat) (h : Nat) (aT : Nat) (aM : Nat) (aR : Nat) (k : Nat) (ag : AgT) (ki : Nat) (cy : Nat)  (hk : 0 < k ∧ k ≤ 6) (hi : ki * k + cy < 5 * k) : Ct l yA_remove wA_remove ({ frames := 1, cells := 0, slots := 0, locals := 22 }) D (tyG cZ cI cJ) tL tH [.ref h, .int (nI ki), .int (nI cy)] sz [cAg h aT aM aR k ag, cZa cZ aT (5 * k) ag.1, cJa cJ aM (5 * k) ag.2.1, cIa cI aR (5 * k) ag.2.2.1] (fun _ : Unit => none) (fun _ : Unit => [cAg h aT aM aR k (fA_remove k ag ki cy), cZa cZ aT (5 * k) ((fA_remove k ag ki cy).1), cJa cJ aM (5 * k) ((fA_remove k ag ki cy).2.1), cIa cI aR (5 * k) ((fA_remove k ag ki cy).2.2.1)]) 0 0 := by
  refine k_go (by decide +kernel) (Nat.le_of_ble_eq_true rfl) ?_
  intro p e s m args below meth c A ls H hx hb hr hml hts hown hlk hnm hK hN hT hA hS hP hD hl
  have hown : s.vm.findClass "ToothWheelTimer$Agenda" = some m.cls := hown
  have hlk : meth.locks = false := hlk
  have hl : lv_has ls 4 [(0, .ref h), (1, .int (nI ki)), (2, .int (nI cy))] := hl
  refine lv_aload_n hx hb dA_remove_0 rfl (lv_at hl 0 rfl) ?_
  refine lv_iload_n hx hb dA_remove_1 rfl (lv_at hl 1 rfl) ?_
  refine lv_iload_n hx hb dA_remove_2 rfl (lv_at hl 2 rfl) ?_
  refine k_ca0 (wc := [cAg h aT aM aR k ag, cZa cZ aT (5 * k) ag.1, cJa cJ aM (5 * k) ag.2.1, cIa cI aR (5 * k) ag.2.2.1]) (wr := []) (va_runV (As := [.int (nI ki), .int (nI cy)]) (rest := []) ⟨hx, hb, hml, hown, hts⟩ (ctA_placeOf l D cZ cI cJ tL tH H.size h aT aM aR k ag ki cy hk) (cwA_33 hts hN rfl rfl ⟨Nat.le_of_ble_eq_true rfl, Nat.le_of_ble_eq_true rfl⟩) (k_preV hK hN hT hA hS hP hD [0, 1, 2, 3] rfl (by decide) 0 rfl rfl) rfl rfl hl.1 rfl (lv_room (Nat.le_of_ble_eq_true rfl)) dA_remove_3 ⟨Nat.zero_le _, Nat.zero_le _⟩) hP hD hS hA [0, 1, 2, 3] [] rfl rfl (by decide) (by decide) (fun _ H locs hP hD hS => ?_)
  refine W.eq (g2 := F0 m 6 ls [.int (nI (ki * k + cy))]) rfl ?_
  have hP : va_P D vwCl [cAg h aT aM aR k ag, cZa cZ aT (5 * k) ag.1, cJa cJ aM (5 * k) ag.2.1, cIa cI aR (5 * k) ag.2.2.1] H := hP
  have hD : va_D A [cAg h aT aM aR k ag, cZa cZ aT (5 * k) ag.1, cJa cJ aM (5 * k) ag.2.1, cIa cI aR (5 * k) ag.2.2.1] := hD
  refine lv_istore_n (lv' := [(3, .int (nI (ki * k + cy))), (0, .ref h), (1, .int (nI ki)), (2, .int (nI cy))]) hx hb dA_remove_6 rfl hl (by decide) rfl (fun ls hl => ?_)
  refine lv_aload_n hx hb dA_remove_7 rfl (lv_at hl 1 rfl) ?_
  refine gfA_21 hx hb hts hown hN hK hP 0 rfl (v := .ref aT) rfl dA_remove_8 ?_
  refine lv_iload_n hx hb dA_remove_11 rfl (lv_at hl 0 rfl) ?_
  refine va_zald hx hb hK hP 1 0 rfl rfl (vp_in_nI (n := ki * k + cy) (N := 5 * k) (by omega) (by omega)) dA_remove_12 ?_
  refine W.eq (g2 := F0 m 13 ls [.int (ag.1 (ki * k + cy))]) (congrArg (fun z => F0 m 13 ls (.int (ag.1 z) :: [])) (nI_clamp (n := ki * k + cy) (by omega))) ?_
  refine lv_if_eq (tgt := 33) hx hb dA_remove_13 (by decide) (fun h1 => ?_) (fun h1 => ?_)
  · -- taken at 13
    exact k_vret hx hb hr hlk hP hD hS dA_remove_33 () rfl (by simp only [fA_remove, if_pos h1])
  · -- not taken at 13
    refine lv_aload_n hx hb dA_remove_16 rfl (lv_at hl 1 rfl) ?_
    refine gfA_21 hx hb hts hown hN hK hP 0 rfl (v := .ref aT) rfl dA_remove_17 ?_
    refine lv_iload_n hx hb dA_remove_20 rfl (lv_at hl 0 rfl) ?_
    refine lv_iconst (v := (0 : Int32)) hx hb dA_remove_21 (by decide) ?_
    refine va_zast hx hb hK hP hD hS 1 0 rfl rfl (vp_in_nI (n := ki * k + cy) (N := 5 * k) (by omega) (by omega)) dA_remove_22 (fun H locs hP hD hS => ?_)
    rw [zn_nar (Or.inl rfl)] at hP hD
    have e9 : (nI (ki * k + cy)).toNatClampNeg = ki * k + cy := (nI_clamp (n := ki * k + cy) (by omega))
    rw [e9] at hP hD
    have hP : va_P D vwCl [cAg h aT aM aR k (upd ag.1 (ki * k + cy) (0 : Int32), ag.2.1, ag.2.2.1, ag.2.2.2.1, ag.2.2.2.2), cZa cZ aT (5 * k) (upd ag.1 (ki * k + cy) (0 : Int32)), cJa cJ aM (5 * k) ag.2.1, cIa cI aR (5 * k) ag.2.2.1] H := hP
    have hD : va_D A [cAg h aT aM aR k (upd ag.1 (ki * k + cy) (0 : Int32), ag.2.1, ag.2.2.1, ag.2.2.2.1, ag.2.2.2.2), cZa cZ aT (5 * k) (upd ag.1 (ki * k + cy) (0 : Int32)), cJa cJ aM (5 * k) ag.2.1, cIa cI aR (5 * k) ag.2.2.1] := hD
    refine lv_aload_n hx hb dA_remove_23 rfl (lv_at hl 1 rfl) ?_
    refine lv_dup hx hb dA_remove_24 rfl ?_
    refine gfA_15 hx hb hts hown hN hK hP 0 rfl (v := .int ag.2.2.2.2) rfl dA_remove_25 ?_
    refine lv_iconst (v := (1 : Int32)) hx hb dA_remove_28 (by decide) ?_
    refine lv_isub hx hb dA_remove_29 ?_
    refine pfA_15 hx hb hts hown hN hK hP hD hS 0 rfl (v := .int (ag.2.2.2.2 - (1 : Int32))) rfl rfl (Nat.le_of_ble_eq_true rfl) dA_remove_30 (fun H locs hP hD hS => ?_)
    have hP : va_P D vwCl [cAg h aT aM aR k (upd ag.1 (ki * k + cy) (0 : Int32), ag.2.1, ag.2.2.1, ag.2.2.2.1, ag.2.2.2.2 - (1 : Int32)), cZa cZ aT (5 * k) (upd ag.1 (ki * k + cy) (0 : Int32)), cJa cJ aM (5 * k) ag.2.1, cIa cI aR (5 * k) ag.2.2.1] H := hP
    have hD : va_D A [cAg h aT aM aR k (upd ag.1 (ki * k + cy) (0 : Int32), ag.2.1, ag.2.2.1, ag.2.2.2.1, ag.2.2.2.2 - (1 : Int32)), cZa cZ aT (5 * k) (upd ag.1 (ki * k + cy) (0 : Int32)), cJa cJ aM (5 * k) ag.2.1, cIa cI aR (5 * k) ag.2.2.1] := hD
    exact k_vret hx hb hr hlk hP hD hS dA_remove_33 () rfl (by simp only [fA_remove, if_neg h1])

def fA_removeAll_l (k : Nat) : Nat → Nat → AgT → AgT
  | 0, i, ag1 =>
    (ag1.1, ag1.2.1, ag1.2.2.1, ag1.2.2.2.1, (0 : Int32))
  | fuel + 1, i, ag1 =>
    fA_removeAll_l k fuel (i + 1) (upd ag1.1 i (0 : Int32), ag1.2.1, ag1.2.2.1, ag1.2.2.2.1, ag1.2.2.2.2)
def fA_removeAll (k : Nat) (ag : AgT) : AgT :=
  fA_removeAll_l k (5 * k) 0 ag
set_option maxRecDepth 100000 in
set_option maxHeartbeats 4000000 in
theorem ctA_removeAll (l : Launch) (D : va_G) (cZ cI cJ : ClassId) (tL tH : Nat) (sz : Nat) (h : Nat) (aT : Nat) (aM : Nat) (aR : Nat) (k : Nat) (ag : AgT)  (hk : 0 < k ∧ k ≤ 6) : Ct l yA_removeAll wA_removeAll ({ frames := 0, cells := 0, slots := 0, locals := 0 }) D (tyG cZ cI cJ) tL tH [.ref h] sz [cAg h aT aM aR k ag, cZa cZ aT (5 * k) ag.1, cJa cJ aM (5 * k) ag.2.1, cIa cI aR (5 * k) ag.2.2.1] (fun _ : Unit => none) (fun _ : Unit => [cAg h aT aM aR k (fA_removeAll k ag), cZa cZ aT (5 * k) ((fA_removeAll k ag).1), cJa cJ aM (5 * k) ((fA_removeAll k ag).2.1), cIa cI aR (5 * k) ((fA_removeAll k ag).2.2.1)]) 0 0 := by
  refine k_go (by decide +kernel) (Nat.le_of_ble_eq_true rfl) ?_
  intro p e s m args below meth c A ls H hx hb hr hml hts hown hlk hnm hK hN hT hA hS hP hD hl
  have hown : s.vm.findClass "ToothWheelTimer$Agenda" = some m.cls := hown
  have hlk : meth.locks = false := hlk
  have hl : lv_has ls 2 [(0, .ref h)] := hl
  refine lv_iconst (v := (0 : Int32)) hx hb dA_removeAll_0 (by decide) ?_
  refine lv_istore_n (lv' := [(1, .int (0 : Int32)), (0, .ref h)]) hx hb dA_removeAll_1 rfl hl (by decide) rfl (fun ls hl => ?_)
  have hl := lv_sub (l' := [(1, .int (0 : Int32)), (0, .ref h)]) hl [0, 1] rfl
  have LOOP2 : ∀ (fuel : Nat) (i : Nat) (ag1 : AgT), ∀ (ls : Array Slot) (H : Heap) (locs : List Loc), fuel + i = 5 * k → fA_removeAll k ag = fA_removeAll_l k fuel i ag1 → lv_has ls 2 [(1, .int (nI i)), (0, .ref h)] → va_P D vwCl [cAg h aT aM aR k ag1, cZa cZ aT (5 * k) ag1.1, cJa cJ aM (5 * k) ag1.2.1, cIa cI aR (5 * k) ag1.2.2.1] H → va_D A [cAg h aT aM aR k ag1, cZa cZ aT (5 * k) ag1.1, cJa cJ aM (5 * k) ag1.2.1, cIa cI aR (5 * k) ag1.2.2.1] → va_S A s.heap H locs → W p l e { frames := 0, cells := 0, slots := 0, locals := 0 } s m args below meth c H locs 0 0 (MQ below (QX A D (fun _ : Unit => none) (fun _ : Unit => [cAg h aT aM aR k (fA_removeAll k ag), cZa cZ aT (5 * k) ((fA_removeAll k ag).1), cJa cJ aM (5 * k) ((fA_removeAll k ag).2.1), cIa cI aR (5 * k) ((fA_removeAll k ag).2.2.1)])) args s 0 0 A) (F0 m 2 ls []) := by
    intro fuel
    induction fuel with
    | zero =>
      intro i ag1  ls H locs hm hres hl hP hD hS
      refine lv_iload_n hx hb dA_removeAll_2 rfl (lv_at hl 0 rfl) ?_
      refine lv_aload_n hx hb dA_removeAll_3 rfl (lv_at hl 1 rfl) ?_
      refine gfA_21 hx hb hts hown hN hK hP 0 rfl (v := .ref aT) rfl dA_removeAll_4 ?_
      refine va_alen hx hb hK hP 1 0 rfl rfl (v := nI (5 * k)) rfl dA_removeAll_7 ?_
      refine lv_icmp_ge (tgt := 24) hx hb dA_removeAll_8 (by decide) (fun _ => ?_) (fun h0 => absurd (nI_le (a := 5 * k) (b := i) (by omega) (by omega)) h0)
      refine lv_aload_n hx hb dA_removeAll_24 rfl (lv_at hl 1 rfl) ?_
      refine lv_iconst (v := (0 : Int32)) hx hb dA_removeAll_25 (by decide) ?_
      refine pfA_15 hx hb hts hown hN hK hP hD hS 0 rfl (v := .int (0 : Int32)) rfl rfl (Nat.le_of_ble_eq_true rfl) dA_removeAll_26 (fun H locs hP hD hS => ?_)
      have hP : va_P D vwCl [cAg h aT aM aR k (ag1.1, ag1.2.1, ag1.2.2.1, ag1.2.2.2.1, (0 : Int32)), cZa cZ aT (5 * k) ag1.1, cJa cJ aM (5 * k) ag1.2.1, cIa cI aR (5 * k) ag1.2.2.1] H := hP
      have hD : va_D A [cAg h aT aM aR k (ag1.1, ag1.2.1, ag1.2.2.1, ag1.2.2.2.1, (0 : Int32)), cZa cZ aT (5 * k) ag1.1, cJa cJ aM (5 * k) ag1.2.1, cIa cI aR (5 * k) ag1.2.2.1] := hD
      exact k_vret hx hb hr hlk hP hD hS dA_removeAll_29 () rfl (by simp only [hres, fA_removeAll_l])
    | succ fuel ih =>
      intro i ag1  ls H locs hm hres hl hP hD hS
      refine lv_iload_n hx hb dA_removeAll_2 rfl (lv_at hl 0 rfl) ?_
      refine lv_aload_n hx hb dA_removeAll_3 rfl (lv_at hl 1 rfl) ?_
      refine gfA_21 hx hb hts hown hN hK hP 0 rfl (v := .ref aT) rfl dA_removeAll_4 ?_
      refine va_alen hx hb hK hP 1 0 rfl rfl (v := nI (5 * k)) rfl dA_removeAll_7 ?_
      refine lv_icmp_ge (tgt := 24) hx hb dA_removeAll_8 (by decide) (fun h0 => absurd h0 (nI_ge (a := i) (b := 5 * k) (by omega) (by omega))) (fun _ => ?_)
      refine lv_aload_n hx hb dA_removeAll_11 rfl (lv_at hl 1 rfl) ?_
      refine gfA_21 hx hb hts hown hN hK hP 0 rfl (v := .ref aT) rfl dA_removeAll_12 ?_
      refine lv_iload_n hx hb dA_removeAll_15 rfl (lv_at hl 0 rfl) ?_
      refine lv_iconst (v := (0 : Int32)) hx hb dA_removeAll_16 (by decide) ?_
      refine va_zast hx hb hK hP hD hS 1 0 rfl rfl (vp_in_nI (n := i) (N := 5 * k) (by omega) (by omega)) dA_removeAll_17 (fun H locs hP hD hS => ?_)
      rw [zn_nar (Or.inl rfl)] at hP hD
      have e9 : (nI i).toNatClampNeg = i := (nI_clamp (n := i) (by omega))
      rw [e9] at hP hD
      have hP : va_P D vwCl [cAg h aT aM aR k (upd ag1.1 i (0 : Int32), ag1.2.1, ag1.2.2.1, ag1.2.2.2.1, ag1.2.2.2.2), cZa cZ aT (5 * k) (upd ag1.1 i (0 : Int32)), cJa cJ aM (5 * k) ag1.2.1, cIa cI aR (5 * k) ag1.2.2.1] H := hP
      have hD : va_D A [cAg h aT aM aR k (upd ag1.1 i (0 : Int32), ag1.2.1, ag1.2.2.1, ag1.2.2.2.1, ag1.2.2.2.2), cZa cZ aT (5 * k) (upd ag1.1 i (0 : Int32)), cJa cJ aM (5 * k) ag1.2.1, cIa cI aR (5 * k) ag1.2.2.1] := hD
      refine lv_iinc (k := 0) (v := nI (i + 1)) (lv' := [(1, .int (nI (i + 1))), (0, .ref h)]) hx hb dA_removeAll_18 hl rfl (nI_1 i) (by decide) rfl (fun ls hl => ?_)
      refine lv_goto (tgt := 2) hx hb dA_removeAll_21 (by decide) ?_
      have hl := lv_sub (l' := [(1, .int (nI (i + 1))), (0, .ref h)]) hl [0, 1] rfl
      exact ih (i + 1) (upd ag1.1 i (0 : Int32), ag1.2.1, ag1.2.2.1, ag1.2.2.2.1, ag1.2.2.2.2)  ls H _ (by omega) (by simp only [hres, fA_removeAll_l]) hl hP hD hS
  exact LOOP2 (5 * k) 0 ag  ls H _ (by omega) rfl hl hP hD hS

def fA_isBefore (k : Nat) (ag : AgT) (pa : Int32) (pb : Int32) : Int32 :=
  if (ag.2.1 pa.toNatClampNeg) < (ag.2.1 pb.toNatClampNeg) then
    (1 : Int32)
  else
    if (ag.2.1 pa.toNatClampNeg) = (ag.2.1 pb.toNatClampNeg) then
      if (ag.2.2.1 pb.toNatClampNeg) ≤ (ag.2.2.1 pa.toNatClampNeg) then
        (0 : Int32)
      else
        (1 : Int32)
    else
      (0 : Int32)
set_option maxRecDepth 100000 in
set_option maxHeartbeats 4000000 in
theorem ctA_isBefore (l : Launch) (D : va_G) (cZ cI cJ : ClassId) (tL tH : Nat) (sz : Nat) (h : Nat) (aT : Nat) (aM : Nat) (aR : Nat) (k : Nat) (ag : AgT) (pa : Int32) (pb : Int32)  (hk : 0 < k ∧ k ≤ 6) (ha : vp_in pa (5 * k)) (hb2 : vp_in pb (5 * k)) : Ct l yA_isBefore wA_isBefore ({ frames := 0, cells := 0, slots := 0, locals := 0 }) D (tyG cZ cI cJ) tL tH [.ref h, .int pa, .int pb] sz [cAg h aT aM aR k ag, cZa cZ aT (5 * k) ag.1, cJa cJ aM (5 * k) ag.2.1, cIa cI aR (5 * k) ag.2.2.1] (fun _ : Unit => some (.int (fA_isBefore k ag pa pb))) (fun _ : Unit => [cAg h aT aM aR k ag, cZa cZ aT (5 * k) ag.1, cJa cJ aM (5 * k) ag.2.1, cIa cI aR (5 * k) ag.2.2.1]) 0 0 := by
  refine k_go (by decide +kernel) (Nat.le_of_ble_eq_true rfl) ?_
  intro p e s m args below meth c A ls H hx hb hr hml hts hown hlk hnm hK hN hT hA hS hP hD hl
  have hown : s.vm.findClass "ToothWheelTimer$Agenda" = some m.cls := hown
  have hlk : meth.locks = false := hlk
  have hl : lv_has ls 3 [(0, .ref h), (1, .int pa), (2, .int pb)] := hl
  refine lv_aload_n hx hb dA_isBefore_0 rfl (lv_at hl 0 rfl) ?_
  refine gfA_25 hx hb hts hown hN hK hP 0 rfl (v := .ref aM) rfl dA_isBefore_1 ?_
  refine lv_iload_n hx hb dA_isBefore_4 rfl (lv_at hl 1 rfl) ?_
  refine va_lald hx hb hK hP 2 2 rfl rfl ha dA_isBefore_5 ?_
  refine lv_aload_n hx hb dA_isBefore_6 rfl (lv_at hl 0 rfl) ?_
  refine gfA_25 hx hb hts hown hN hK hP 0 rfl (v := .ref aM) rfl dA_isBefore_7 ?_
  refine lv_iload_n hx hb dA_isBefore_10 rfl (lv_at hl 2 rfl) ?_
  refine va_lald hx hb hK hP 2 2 rfl rfl hb2 dA_isBefore_11 ?_
  refine k_lc_lt (tgt := 47) hx hb dA_isBefore_12 dA_isBefore_13 (by decide) (fun h1 => ?_) (fun h1 => ?_)
  · -- taken at 12
    refine lv_iconst (v := (1 : Int32)) hx hb dA_isBefore_47 (by decide) ?_
    refine lv_goto (tgt := 52) hx hb dA_isBefore_48 (by decide) ?_
    exact k_zret hx hb hr hlk (zn_b (Or.inr rfl)) hP hD hS dA_isBefore_52 () (by simp only [fA_isBefore, if_pos h1]) rfl
  · -- not taken at 12
    refine lv_aload_n hx hb dA_isBefore_16 rfl (lv_at hl 0 rfl) ?_
    refine gfA_25 hx hb hts hown hN hK hP 0 rfl (v := .ref aM) rfl dA_isBefore_17 ?_
    refine lv_iload_n hx hb dA_isBefore_20 rfl (lv_at hl 1 rfl) ?_
    refine va_lald hx hb hK hP 2 2 rfl rfl ha dA_isBefore_21 ?_
    refine lv_aload_n hx hb dA_isBefore_22 rfl (lv_at hl 0 rfl) ?_
    refine gfA_25 hx hb hts hown hN hK hP 0 rfl (v := .ref aM) rfl dA_isBefore_23 ?_
    refine lv_iload_n hx hb dA_isBefore_26 rfl (lv_at hl 2 rfl) ?_
    refine va_lald hx hb hK hP 2 2 rfl rfl hb2 dA_isBefore_27 ?_
    refine k_lc_ne (tgt := 51) hx hb dA_isBefore_28 dA_isBefore_29 (by decide) (fun h2 => ?_) (fun h2 => ?_)
    · -- taken at 28
      refine lv_iconst (v := (0 : Int32)) hx hb dA_isBefore_51 (by decide) ?_
      exact k_zret hx hb hr hlk (zn_b (Or.inl rfl)) hP hD hS dA_isBefore_52 () (by simp only [fA_isBefore, if_neg h1, if_neg h2]) rfl
    · -- not taken at 28
      refine lv_aload_n hx hb dA_isBefore_32 rfl (lv_at hl 0 rfl) ?_
      refine gfA_29 hx hb hts hown hN hK hP 0 rfl (v := .ref aR) rfl dA_isBefore_33 ?_
      refine lv_iload_n hx hb dA_isBefore_36 rfl (lv_at hl 1 rfl) ?_
      refine va_iald hx hb hK hP 3 1 rfl rfl ha dA_isBefore_37 ?_
      refine lv_aload_n hx hb dA_isBefore_38 rfl (lv_at hl 0 rfl) ?_
      refine gfA_29 hx hb hts hown hN hK hP 0 rfl (v := .ref aR) rfl dA_isBefore_39 ?_
      refine lv_iload_n hx hb dA_isBefore_42 rfl (lv_at hl 2 rfl) ?_
      refine va_iald hx hb hK hP 3 1 rfl rfl hb2 dA_isBefore_43 ?_
      refine lv_icmp_ge (tgt := 51) hx hb dA_isBefore_44 (by decide) (fun h3 => ?_) (fun h3 => ?_)
      · -- taken at 44
        refine lv_iconst (v := (0 : Int32)) hx hb dA_isBefore_51 (by decide) ?_
        exact k_zret hx hb hr hlk (zn_b (Or.inl rfl)) hP hD hS dA_isBefore_52 () (by simp only [fA_isBefore, if_neg h1, if_pos h2, if_pos h3]) rfl
      · -- not taken at 44
        refine lv_iconst (v := (1 : Int32)) hx hb dA_isBefore_47 (by decide) ?_
        refine lv_goto (tgt := 52) hx hb dA_isBefore_48 (by decide) ?_
        exact k_zret hx hb hr hlk (zn_b (Or.inr rfl)) hP hD hS dA_isBefore_52 () (by simp only [fA_isBefore, if_neg h1, if_pos h2, if_neg h3]) rfl

def fA_firstUntil_l (k : Nat) (ag : AgT) (end_ : Int64) : Nat → Nat → Int32 → Int32
  | 0, i, first =>
    if ag.2.2.2.2 ≤ 0 then
      first
    else
      first
  | fuel + 1, i, first =>
    if ag.2.2.2.2 ≤ 0 then
      first
    else
      if (ag.1 i) = 0 then
        fA_firstUntil_l k ag end_ fuel (i + 1) first
      else
        if end_ < (ag.2.1 i) then
          fA_firstUntil_l k ag end_ fuel (i + 1) first
        else
          if first = (-1 : Int32) then
            fA_firstUntil_l k ag end_ fuel (i + 1) (nI i)
          else
            let q1005 := fA_isBefore k ag (nI i) first
            if q1005 = 0 then
              fA_firstUntil_l k ag end_ fuel (i + 1) first
            else
              fA_firstUntil_l k ag end_ fuel (i + 1) (nI i)
def fA_firstUntil (k : Nat) (ag : AgT) (end_ : Int64) : Int32 :=
  fA_firstUntil_l k ag end_ (5 * k) 0 (-1 : Int32)
set_option maxRecDepth 100000 in
set_option maxHeartbeats 4000000 in
theorem ctA_firstUntil (l : Launch) (D : va_G) (cZ cI cJ : ClassId) (tL tH : Nat) (sz : Nat) (h : Nat) (aT : Nat) (aM : Nat) (aR : Nat) (k : Nat) (ag : AgT) (end_ : Int64)  (hk : 0 < k ∧ k ≤ 6) : Ct l yA_firstUntil wA_firstUntil ({ frames := 1, cells := 0, slots := 0, locals := 22 }) D (tyG cZ cI cJ) tL tH [.ref h, .long end_] sz [cAg h aT aM aR k ag, cZa cZ aT (5 * k) ag.1, cJa cJ aM (5 * k) ag.2.1, cIa cI aR (5 * k) ag.2.2.1] (fun _ : Unit => some (.int (fA_firstUntil k ag end_))) (fun _ : Unit => [cAg h aT aM aR k ag, cZa cZ aT (5 * k) ag.1, cJa cJ aM (5 * k) ag.2.1, cIa cI aR (5 * k) ag.2.2.1]) 0 0 := by
  refine k_go (by decide +kernel) (Nat.le_of_ble_eq_true rfl) ?_
  intro p e s m args below meth c A ls H hx hb hr hml hts hown hlk hnm hK hN hT hA hS hP hD hl
  have hown : s.vm.findClass "ToothWheelTimer$Agenda" = some m.cls := hown
  have hlk : meth.locks = false := hlk
  have hl : lv_has ls 5 [(0, .ref h), (1, .long end_)] := hl
  refine lv_iconst (v := (-1 : Int32)) hx hb dA_firstUntil_0 (by decide) ?_
  refine lv_istore_n (lv' := [(3, .int (-1 : Int32)), (0, .ref h), (1, .long end_)]) hx hb dA_firstUntil_1 rfl hl (by decide) rfl (fun ls hl => ?_)
  refine lv_iconst (v := (0 : Int32)) hx hb dA_firstUntil_2 (by decide) ?_
  refine lv_istore (lv' := [(4, .int (0 : Int32)), (3, .int (-1 : Int32)), (0, .ref h), (1, .long end_)]) hx hb dA_firstUntil_3 hl (by decide) rfl (fun ls hl => ?_)
  have hl := lv_sub (l' := [(4, .int (0 : Int32)), (3, .int (-1 : Int32)), (0, .ref h), (1, .long end_)]) hl [0, 1, 2, 3] rfl
  have LOOP5 : ∀ (fuel : Nat) (i : Nat) (first : Int32) , ∀ (hfi : first = (-1 : Int32) ∨ vp_in first (5 * k)), ∀ (ls : Array Slot) (H : Heap) (locs : List Loc), fuel + i = 5 * k → fA_firstUntil k ag end_ = fA_firstUntil_l k ag end_ fuel i first  → lv_has ls 5 [(4, .int (nI i)), (3, .int first), (0, .ref h), (1, .long end_)] → va_P D vwCl [cAg h aT aM aR k ag, cZa cZ aT (5 * k) ag.1, cJa cJ aM (5 * k) ag.2.1, cIa cI aR (5 * k) ag.2.2.1] H → va_D A [cAg h aT aM aR k ag, cZa cZ aT (5 * k) ag.1, cJa cJ aM (5 * k) ag.2.1, cIa cI aR (5 * k) ag.2.2.1] → va_S A s.heap H locs → W p l e { frames := 1, cells := 0, slots := 0, locals := 22 } s m args below meth c H locs 0 0 (MQ below (QX A D (fun _ : Unit => some (.int (fA_firstUntil k ag end_))) (fun _ : Unit => [cAg h aT aM aR k ag, cZa cZ aT (5 * k) ag.1, cJa cJ aM (5 * k) ag.2.1, cIa cI aR (5 * k) ag.2.2.1])) args s 0 0 A) (F0 m 5 ls []) := by
    intro fuel
    induction fuel with
    | zero =>
      intro i first  hfi ls H locs hm hres hl hP hD hS
      refine lv_aload_n hx hb dA_firstUntil_5 rfl (lv_at hl 2 rfl) ?_
      refine gfA_15 hx hb hts hown hN hK hP 0 rfl (v := .int ag.2.2.2.2) rfl dA_firstUntil_6 ?_
      refine lv_if_le (tgt := 68) hx hb dA_firstUntil_9 (by decide) (fun h1001 => ?_) (fun h1001 => ?_)
      · -- taken at 9
        refine lv_iload_n hx hb dA_firstUntil_68 rfl (lv_at hl 1 rfl) ?_
        exact k_iret hx hb hr hlk hP hD hS dA_firstUntil_69 () (by simp only [hres, fA_firstUntil_l, if_pos h1001]) rfl
      · -- not taken at 9
        refine lv_iload hx hb dA_firstUntil_12 (lv_at hl 0 rfl) ?_
        refine lv_aload_n hx hb dA_firstUntil_14 rfl (lv_at hl 2 rfl) ?_
        refine gfA_21 hx hb hts hown hN hK hP 0 rfl (v := .ref aT) rfl dA_firstUntil_15 ?_
        refine va_alen hx hb hK hP 1 0 rfl rfl (v := nI (5 * k)) rfl dA_firstUntil_18 ?_
        refine lv_icmp_ge (tgt := 68) hx hb dA_firstUntil_19 (by decide) (fun _ => ?_) (fun h0 => absurd (nI_le (a := 5 * k) (b := i) (by omega) (by omega)) h0)
        refine lv_iload_n hx hb dA_firstUntil_68 rfl (lv_at hl 1 rfl) ?_
        exact k_iret hx hb hr hlk hP hD hS dA_firstUntil_69 () (by simp only [hres, fA_firstUntil_l, if_neg h1001]) rfl
    | succ fuel ih =>
      intro i first  hfi ls H locs hm hres hl hP hD hS
      refine lv_aload_n hx hb dA_firstUntil_5 rfl (lv_at hl 2 rfl) ?_
      refine gfA_15 hx hb hts hown hN hK hP 0 rfl (v := .int ag.2.2.2.2) rfl dA_firstUntil_6 ?_
      refine lv_if_le (tgt := 68) hx hb dA_firstUntil_9 (by decide) (fun h1001 => ?_) (fun h1001 => ?_)
      · -- taken at 9
        refine lv_iload_n hx hb dA_firstUntil_68 rfl (lv_at hl 1 rfl) ?_
        exact k_iret hx hb hr hlk hP hD hS dA_firstUntil_69 () (by simp only [hres, fA_firstUntil_l, if_pos h1001]) rfl
      · -- not taken at 9
        refine lv_iload hx hb dA_firstUntil_12 (lv_at hl 0 rfl) ?_
        refine lv_aload_n hx hb dA_firstUntil_14 rfl (lv_at hl 2 rfl) ?_
        refine gfA_21 hx hb hts hown hN hK hP 0 rfl (v := .ref aT) rfl dA_firstUntil_15 ?_
        refine va_alen hx hb hK hP 1 0 rfl rfl (v := nI (5 * k)) rfl dA_firstUntil_18 ?_
        refine lv_icmp_ge (tgt := 68) hx hb dA_firstUntil_19 (by decide) (fun h0 => absurd h0 (nI_ge (a := i) (b := 5 * k) (by omega) (by omega))) (fun _ => ?_)
        refine lv_aload_n hx hb dA_firstUntil_22 rfl (lv_at hl 2 rfl) ?_
        refine gfA_21 hx hb hts hown hN hK hP 0 rfl (v := .ref aT) rfl dA_firstUntil_23 ?_
        refine lv_iload hx hb dA_firstUntil_26 (lv_at hl 0 rfl) ?_
        refine va_zald hx hb hK hP 1 0 rfl rfl (vp_in_nI (n := i) (N := 5 * k) (by omega) (by omega)) dA_firstUntil_28 ?_
        refine W.eq (g2 := F0 m 29 ls [.int (ag.1 i)]) (congrArg (fun z => F0 m 29 ls (.int (ag.1 z) :: [])) (nI_clamp (n := i) (by omega))) ?_
        refine lv_if_eq (tgt := 62) hx hb dA_firstUntil_29 (by decide) (fun h1002 => ?_) (fun h1002 => ?_)
        · -- taken at 29
          refine lv_iinc (k := 0) (v := nI (i + 1)) (lv' := [(4, .int (nI (i + 1))), (3, .int first), (0, .ref h), (1, .long end_)]) hx hb dA_firstUntil_62 hl rfl (nI_1 i) (by decide) rfl (fun ls hl => ?_)
          refine lv_goto (tgt := 5) hx hb dA_firstUntil_65 (by decide) ?_
          have hl := lv_sub (l' := [(4, .int (nI (i + 1))), (3, .int first), (0, .ref h), (1, .long end_)]) hl [0, 1, 2, 3] rfl
          exact ih (i + 1) first hfi ls H _ (by omega) (by simp only [hres, fA_firstUntil_l, if_neg h1001, if_pos h1002]) hl hP hD hS
        · -- not taken at 29
          refine lv_aload_n hx hb dA_firstUntil_32 rfl (lv_at hl 2 rfl) ?_
          refine gfA_25 hx hb hts hown hN hK hP 0 rfl (v := .ref aM) rfl dA_firstUntil_33 ?_
          refine lv_iload hx hb dA_firstUntil_36 (lv_at hl 0 rfl) ?_
          refine va_lald hx hb hK hP 2 2 rfl rfl (vp_in_nI (n := i) (N := 5 * k) (by omega) (by omega)) dA_firstUntil_38 ?_
          refine W.eq (g2 := F0 m 39 ls [.long (ag.2.1 i)]) (congrArg (fun z => F0 m 39 ls (.long (ag.2.1 z) :: [])) (nI_clamp (n := i) (by omega))) ?_
          refine lv_lload_n hx hb dA_firstUntil_39 rfl (lv_at hl 3 rfl) ?_
          refine k_lc_gt (tgt := 62) hx hb dA_firstUntil_40 dA_firstUntil_41 (by decide) (fun h1003 => ?_) (fun h1003 => ?_)
          · -- taken at 40
            refine lv_iinc (k := 0) (v := nI (i + 1)) (lv' := [(4, .int (nI (i + 1))), (3, .int first), (0, .ref h), (1, .long end_)]) hx hb dA_firstUntil_62 hl rfl (nI_1 i) (by decide) rfl (fun ls hl => ?_)
            refine lv_goto (tgt := 5) hx hb dA_firstUntil_65 (by decide) ?_
            have hl := lv_sub (l' := [(4, .int (nI (i + 1))), (3, .int first), (0, .ref h), (1, .long end_)]) hl [0, 1, 2, 3] rfl
            exact ih (i + 1) first hfi ls H _ (by omega) (by simp only [hres, fA_firstUntil_l, if_neg h1001, if_neg h1002, if_pos h1003]) hl hP hD hS
          · -- not taken at 40
            refine lv_iload_n hx hb dA_firstUntil_44 rfl (lv_at hl 1 rfl) ?_
            refine lv_iconst (v := (-1 : Int32)) hx hb dA_firstUntil_45 (by decide) ?_
            refine lv_icmp_eq (tgt := 59) hx hb dA_firstUntil_46 (by decide) (fun h1004 => ?_) (fun h1004 => ?_)
            · -- taken at 46
              refine lv_iload hx hb dA_firstUntil_59 (lv_at hl 0 rfl) ?_
              refine lv_istore_n (lv' := [(3, .int (nI i)), (4, .int (nI i)), (0, .ref h), (1, .long end_)]) hx hb dA_firstUntil_61 rfl hl (by decide) rfl (fun ls hl => ?_)
              refine lv_iinc (k := 1) (v := nI (i + 1)) (lv' := [(4, .int (nI (i + 1))), (3, .int (nI i)), (0, .ref h), (1, .long end_)]) hx hb dA_firstUntil_62 hl rfl (nI_1 i) (by decide) rfl (fun ls hl => ?_)
              refine lv_goto (tgt := 5) hx hb dA_firstUntil_65 (by decide) ?_
              have hl := lv_sub (l' := [(4, .int (nI (i + 1))), (3, .int (nI i)), (0, .ref h), (1, .long end_)]) hl [0, 1, 2, 3] rfl
              exact ih (i + 1) (nI i) (Or.inr (vp_in_nI (n := i) (N := 5 * k) (by omega) (by omega))) ls H _ (by omega) (by simp only [hres, fA_firstUntil_l, if_neg h1001, if_neg h1002, if_neg h1003, if_pos h1004]) hl hP hD hS
            · -- not taken at 46
              refine lv_aload_n hx hb dA_firstUntil_49 rfl (lv_at hl 2 rfl) ?_
              refine lv_iload hx hb dA_firstUntil_50 (lv_at hl 0 rfl) ?_
              refine lv_iload_n hx hb dA_firstUntil_52 rfl (lv_at hl 1 rfl) ?_
              refine k_ca0 (wc := [cAg h aT aM aR k ag, cZa cZ aT (5 * k) ag.1, cJa cJ aM (5 * k) ag.2.1, cIa cI aR (5 * k) ag.2.2.1]) (wr := []) (va_runV (As := [.int (nI i), .int first]) (rest := []) ⟨hx, hb, hml, hown, hts⟩ (ctA_isBefore l D cZ cI cJ tL tH H.size h aT aM aR k ag (nI i) first hk (vp_in_nI (n := i) (N := 5 * k) (by omega) (by omega)) (hfi.resolve_left h1004)) (cwA_37 hts hN rfl rfl ⟨Nat.le_of_ble_eq_true rfl, Nat.le_of_ble_eq_true rfl⟩) (k_preV hK hN hT hA hS hP hD [0, 1, 2, 3] rfl (by decide) 0 rfl rfl) rfl rfl hl.1 rfl (lv_room (Nat.le_of_ble_eq_true rfl)) dA_firstUntil_53 ⟨Nat.zero_le _, Nat.zero_le _⟩) hP hD hS hA [0, 1, 2, 3] [] rfl rfl (by decide) (by decide) (fun _ H locs hP hD hS => ?_)
              refine W.eq (g2 := F0 m 56 ls [.int (fA_isBefore k ag (nI i) first)]) rfl ?_
              have hP : va_P D vwCl [cAg h aT aM aR k ag, cZa cZ aT (5 * k) ag.1, cJa cJ aM (5 * k) ag.2.1, cIa cI aR (5 * k) ag.2.2.1] H := hP
              have hD : va_D A [cAg h aT aM aR k ag, cZa cZ aT (5 * k) ag.1, cJa cJ aM (5 * k) ag.2.1, cIa cI aR (5 * k) ag.2.2.1] := hD
              generalize hq1005 : fA_isBefore k ag (nI i) first = q1005 at ⊢
              refine lv_if_eq (tgt := 62) hx hb dA_firstUntil_56 (by decide) (fun h1006 => ?_) (fun h1006 => ?_)
              · -- taken at 56
                refine lv_iinc (k := 0) (v := nI (i + 1)) (lv' := [(4, .int (nI (i + 1))), (3, .int first), (0, .ref h), (1, .long end_)]) hx hb dA_firstUntil_62 hl rfl (nI_1 i) (by decide) rfl (fun ls hl => ?_)
                refine lv_goto (tgt := 5) hx hb dA_firstUntil_65 (by decide) ?_
                have hl := lv_sub (l' := [(4, .int (nI (i + 1))), (3, .int first), (0, .ref h), (1, .long end_)]) hl [0, 1, 2, 3] rfl
                exact ih (i + 1) first hfi ls H _ (by omega) (by simp only [hres, fA_firstUntil_l, if_neg h1001, if_neg h1002, if_neg h1003, if_neg h1004, hq1005, if_pos h1006]) hl hP hD hS
              · -- not taken at 56
                refine lv_iload hx hb dA_firstUntil_59 (lv_at hl 0 rfl) ?_
                refine lv_istore_n (lv' := [(3, .int (nI i)), (4, .int (nI i)), (0, .ref h), (1, .long end_)]) hx hb dA_firstUntil_61 rfl hl (by decide) rfl (fun ls hl => ?_)
                refine lv_iinc (k := 1) (v := nI (i + 1)) (lv' := [(4, .int (nI (i + 1))), (3, .int (nI i)), (0, .ref h), (1, .long end_)]) hx hb dA_firstUntil_62 hl rfl (nI_1 i) (by decide) rfl (fun ls hl => ?_)
                refine lv_goto (tgt := 5) hx hb dA_firstUntil_65 (by decide) ?_
                have hl := lv_sub (l' := [(4, .int (nI (i + 1))), (3, .int (nI i)), (0, .ref h), (1, .long end_)]) hl [0, 1, 2, 3] rfl
                exact ih (i + 1) (nI i) (Or.inr (vp_in_nI (n := i) (N := 5 * k) (by omega) (by omega))) ls H _ (by omega) (by simp only [hres, fA_firstUntil_l, if_neg h1001, if_neg h1002, if_neg h1003, if_neg h1004, hq1005, if_neg h1006]) hl hP hD hS
  exact LOOP5 (5 * k) 0 (-1 : Int32) (Or.inl rfl) ls H _ (by omega) rfl hl hP hD hS

def fS_inRange (sv : Int32) : Int32 :=
  if sv < (16 : Int32) then
    (0 : Int32)
  else
    if (1007 : Int32) < sv then
      (0 : Int32)
    else
      (1 : Int32)
set_option maxRecDepth 100000 in
set_option maxHeartbeats 4000000 in
theorem ctS_inRange (l : Launch) (D : va_G) (cZ cI cJ : ClassId) (tL tH : Nat) (sz : Nat)  (sv : Int32)   : Ct l yS_inRange wS_inRange ({ frames := 0, cells := 0, slots := 0, locals := 0 }) D (tyG cZ cI cJ) tL tH [.int sv] sz [] (fun _ : Unit => some (.int (fS_inRange sv))) (fun _ : Unit => []) 0 0 := by
  refine k_go (by decide +kernel) (Nat.le_of_ble_eq_true rfl) ?_
  intro p e s m args below meth c A ls H hx hb hr hml hts hown hlk hnm hK hN hT hA hS hP hD hl
  have hown : s.vm.findClass "ToothWheelTimer$Sensor" = some m.cls := hown
  have hlk : meth.locks = false := hlk
  have hl : lv_has ls 1 [(0, .int sv)] := hl
  refine lv_iload_n hx hb dS_inRange_0 rfl (lv_at hl 0 rfl) ?_
  refine lv_bipush (v := (16 : Int32)) hx hb dS_inRange_1 (by decide) ?_
  refine lv_icmp_lt (tgt := 17) hx hb dS_inRange_3 (by decide) (fun h1 => ?_) (fun h1 => ?_)
  · -- taken at 3
    refine lv_iconst (v := (0 : Int32)) hx hb dS_inRange_17 (by decide) ?_
    exact k_zret hx hb hr hlk (zn_b (Or.inl rfl)) hP hD hS dS_inRange_18 () (by simp only [fS_inRange, if_pos h1]) rfl
  · -- not taken at 3
    refine lv_iload_n hx hb dS_inRange_6 rfl (lv_at hl 0 rfl) ?_
    refine lv_sipush (v := (1007 : Int32)) hx hb dS_inRange_7 (by decide) ?_
    refine lv_icmp_gt (tgt := 17) hx hb dS_inRange_10 (by decide) (fun h2 => ?_) (fun h2 => ?_)
    · -- taken at 10
      refine lv_iconst (v := (0 : Int32)) hx hb dS_inRange_17 (by decide) ?_
      exact k_zret hx hb hr hlk (zn_b (Or.inl rfl)) hP hD hS dS_inRange_18 () (by simp only [fS_inRange, if_neg h1, if_pos h2]) rfl
    · -- not taken at 10
      refine lv_iconst (v := (1 : Int32)) hx hb dS_inRange_13 (by decide) ?_
      refine lv_goto (tgt := 18) hx hb dS_inRange_14 (by decide) ?_
      exact k_zret hx hb hr hlk (zn_b (Or.inr rfl)) hP hD hS dS_inRange_18 () (by simp only [fS_inRange, if_neg h1, if_neg h2]) rfl

theorem k_ix3 {x : Int32} (h1 : ¬ x < 0) (h2 : ¬ (3 : Int32) ≤ x) : vp_in x 3 := by
  obtain ⟨a, ha, rfl⟩ := k_nat (N := 3) h1 h2 (by decide)
  exact vp_in_nI ha (by decide)
theorem k_inrN {sv q : Int32} (hq : fS_inRange sv = q) (h : ¬ q = 0) : ∃ a : Nat, 16 ≤ a ∧ a ≤ 1007 ∧ sv = nI a := by
  subst hq
  unfold fS_inRange at h
  by_cases h1 : sv < (16 : Int32)
  · rw [if_pos h1] at h; exact absurd rfl h
  · rw [if_neg h1] at h
    by_cases h2 : (1007 : Int32) < sv
    · rw [if_pos h2] at h; exact absurd rfl h
    · have h3 : ¬ sv < 0 := fun z => h1 (Int32.lt_trans z (by decide))
      obtain ⟨a, ha, rfl⟩ := k_nat2 (N := 1007) h3 h2 (by decide)
      refine ⟨a, ?_, ha, rfl⟩
      rcases Nat.lt_or_ge a 16 with h4 | h4
      · exact absurd (nI_lt (a := a) (b := 16) h4 (by decide)) h1
      · exact h4
theorem k_inr {sv q : Int32} (hq : fS_inRange sv = q) (h : ¬ q = 0) : vp_in (sv / (256 : Int32)) 5 ∧ vp_in (sv / (256 : Int32) + (1 : Int32)) 5 := by
  obtain ⟨a, h1, h2, rfl⟩ := k_inrN hq h
  have e1 : nI a / (256 : Int32) = nI (a / 256) := pk_div (a := a) (d := 256) (by omega) (by decide) (by decide)
  rw [e1, nI_1]
  exact ⟨vp_in_nI (by omega) (by decide), vp_in_nI (by omega) (by decide)⟩
def fS_onCurve (fc : Nat → Int32) (sb : Int32) (sn : SnT) (sv : Int32) : Int32 :=
  let q1 := fJ_floorDiv (((fc ((sv / (256 : Int32)) + (1 : Int32)).toNatClampNeg) - (fc (sv / (256 : Int32)).toNatClampNeg)) * (sv - sv / (256 : Int32) * (256 : Int32))) (256 : Int32)
  (fc (sv / (256 : Int32)).toNatClampNeg) + q1
set_option maxRecDepth 100000 in
set_option maxHeartbeats 4000000 in
theorem ctS_onCurve (l : Launch) (D : va_G) (cZ cI cJ : ClassId) (tL tH : Nat) (sz : Nat) (h : Nat) (aC : Nat) (tc : Nat) (fc : Nat → Int32) (sb : Int32) (sn : SnT) (sv : Int32)  (hcv : ∀ A U H, STT tL tH A U H → va_T .int tc 5 (fun j => .int (fc j)) A U H) (h1 : vp_in (sv / (256 : Int32)) 5) (h2 : vp_in (sv / (256 : Int32) + (1 : Int32)) 5) : Ct l yS_onCurve wS_onCurve ({ frames := 1, cells := 0, slots := 0, locals := 22 }) D (tyG cZ cI cJ) tL tH [.ref h, .int sv] sz [cSn h tc aC sb sn, cJa cJ aC 3 sn.2.2.2.2] (fun _ : Unit => some (.int (fS_onCurve fc sb sn sv))) (fun _ : Unit => [cSn h tc aC sb sn, cJa cJ aC 3 sn.2.2.2.2]) 0 0 := by
  refine k_go (by decide +kernel) (Nat.le_of_ble_eq_true rfl) ?_
  intro p e s m args below meth c A ls H hx hb hr hml hts hown hlk hnm hK hN hT hA hS hP hD hl
  have hown : s.vm.findClass "ToothWheelTimer$Sensor" = some m.cls := hown
  have hlk : meth.locks = false := hlk
  have hl : lv_has ls 3 [(0, .ref h), (1, .int sv)] := hl
  refine lv_iload_n hx hb dS_onCurve_0 rfl (lv_at hl 1 rfl) ?_
  refine lv_sipush (v := (256 : Int32)) hx hb dS_onCurve_1 (by decide) ?_
  refine lv_idiv hx hb dS_onCurve_4 (by decide) ?_
  refine lv_istore_n (lv' := [(2, .int (sv / (256 : Int32))), (0, .ref h), (1, .int sv)]) hx hb dS_onCurve_5 rfl hl (by decide) rfl (fun ls hl => ?_)
  refine lv_aload_n hx hb dS_onCurve_6 rfl (lv_at hl 1 rfl) ?_
  refine gfS_26 hx hb hts hown hN hK hP 0 rfl (v := .ref tc) rfl dS_onCurve_7 ?_
  refine lv_iload_n hx hb dS_onCurve_10 rfl (lv_at hl 0 rfl) ?_
  refine va_ti hx hb (hcv _ _ _ hT) hS h1 (v := .int (fc (sv / (256 : Int32)).toNatClampNeg)) rfl dS_onCurve_11 ?_
  refine lv_aload_n hx hb dS_onCurve_12 rfl (lv_at hl 1 rfl) ?_
  refine gfS_26 hx hb hts hown hN hK hP 0 rfl (v := .ref tc) rfl dS_onCurve_13 ?_
  refine lv_iload_n hx hb dS_onCurve_16 rfl (lv_at hl 0 rfl) ?_
  refine lv_iconst (v := (1 : Int32)) hx hb dS_onCurve_17 (by decide) ?_
  refine lv_iadd hx hb dS_onCurve_18 ?_
  refine va_ti hx hb (hcv _ _ _ hT) hS h2 (v := .int (fc ((sv / (256 : Int32)) + (1 : Int32)).toNatClampNeg)) rfl dS_onCurve_19 ?_
  refine lv_aload_n hx hb dS_onCurve_20 rfl (lv_at hl 1 rfl) ?_
  refine gfS_26 hx hb hts hown hN hK hP 0 rfl (v := .ref tc) rfl dS_onCurve_21 ?_
  refine lv_iload_n hx hb dS_onCurve_24 rfl (lv_at hl 0 rfl) ?_
  refine va_ti hx hb (hcv _ _ _ hT) hS h1 (v := .int (fc (sv / (256 : Int32)).toNatClampNeg)) rfl dS_onCurve_25 ?_
  refine lv_isub hx hb dS_onCurve_26 ?_
  refine lv_iload_n hx hb dS_onCurve_27 rfl (lv_at hl 2 rfl) ?_
  refine lv_sipush (v := (256 : Int32)) hx hb dS_onCurve_28 (by decide) ?_
  refine lv_irem hx hb dS_onCurve_31 (by decide) ?_
  refine lv_imul hx hb dS_onCurve_32 ?_
  refine lv_sipush (v := (256 : Int32)) hx hb dS_onCurve_33 (by decide) ?_
  refine k_ca0 (wc := []) (wr := [cSn h tc aC sb sn, cJa cJ aC 3 sn.2.2.2.2]) (va_runS (As := [.int (((fc ((sv / (256 : Int32)) + (1 : Int32)).toNatClampNeg) - (fc (sv / (256 : Int32)).toNatClampNeg)) * (sv - sv / (256 : Int32) * (256 : Int32))), .int (256 : Int32)]) (rest := [.int (fc (sv / (256 : Int32)).toNatClampNeg)]) ⟨hx, hb, hml, hown, hts⟩ (ctJ_floorDiv l D cZ cI cJ tL tH H.size (((fc ((sv / (256 : Int32)) + (1 : Int32)).toNatClampNeg) - (fc (sv / (256 : Int32)).toNatClampNeg)) * (sv - sv / (256 : Int32) * (256 : Int32))) (256 : Int32) (by decide)) (cwS_56 hts hN rfl rfl ⟨Nat.le_of_ble_eq_true rfl, Nat.le_of_ble_eq_true rfl⟩) (k_pre hK hN hT hA hS hP hD [] rfl (by decide)) rfl rfl hl.1 rfl (lv_room (Nat.le_of_ble_eq_true rfl)) dS_onCurve_36 ⟨Nat.zero_le _, Nat.zero_le _⟩) hP hD hS hA [] [0, 1] rfl rfl (by decide) (by decide) (fun _ H locs hP hD hS => ?_)
  refine W.eq (g2 := F0 m 39 ls [.int (fJ_floorDiv (((fc ((sv / (256 : Int32)) + (1 : Int32)).toNatClampNeg) - (fc (sv / (256 : Int32)).toNatClampNeg)) * (sv - sv / (256 : Int32) * (256 : Int32))) (256 : Int32)), .int (fc (sv / (256 : Int32)).toNatClampNeg)]) rfl ?_
  have hP : va_P D vwCl [cSn h tc aC sb sn, cJa cJ aC 3 sn.2.2.2.2] H := hP
  have hD : va_D A [cSn h tc aC sb sn, cJa cJ aC 3 sn.2.2.2.2] := hD
  generalize hq1 : fJ_floorDiv (((fc ((sv / (256 : Int32)) + (1 : Int32)).toNatClampNeg) - (fc (sv / (256 : Int32)).toNatClampNeg)) * (sv - sv / (256 : Int32) * (256 : Int32))) (256 : Int32) = q1 at ⊢
  refine lv_iadd hx hb dS_onCurve_39 ?_
  exact k_iret hx hb hr hlk hP hD hS dS_onCurve_40 () (by simp only [fS_onCurve, hq1]) rfl

def fS_take (fc : Nat → Int32) (sb : Int32) (sn : SnT) (sv : Int32) : Int32 × SnT :=
  let q1 := fS_inRange sv
  if q1 = 0 then
    let q3 := fJ_min (6 : Int32) (sn.2.2.1 + (1 : Int32))
    ((0 : Int32), (sn.1, sv, q3, sn.2.2.2.1, sn.2.2.2.2))
  else
    let q4 := fS_inRange sn.2.1
    if q4 = 0 then
      let q6 := fJ_maxI (0 : Int32) (sn.2.2.1 - (1 : Int32))
      let q7 := fS_onCurve fc sb (sn.1, sn.2.1, q6, sn.2.2.2.1, sn.2.2.2.2) sv
      ((1 : Int32), (q7, sv, q6, sn.2.2.2.1, sn.2.2.2.2))
    else
      let q8 := fJ_abs (sv - sn.2.1)
      if (256 : Int32) < q8 then
        let q10 := fJ_min (6 : Int32) (sn.2.2.1 + (1 : Int32))
        ((0 : Int32), (sn.1, sv, q10, sn.2.2.2.1, sn.2.2.2.2))
      else
        let q11 := fJ_maxI (0 : Int32) (sn.2.2.1 - (1 : Int32))
        let q12 := fS_onCurve fc sb (sn.1, sn.2.1, q11, sn.2.2.2.1, sn.2.2.2.2) sv
        ((1 : Int32), (q12, sv, q11, sn.2.2.2.1, sn.2.2.2.2))
set_option maxRecDepth 100000 in
set_option maxHeartbeats 4000000 in
theorem ctS_take (l : Launch) (D : va_G) (cZ cI cJ : ClassId) (tL tH : Nat) (sz : Nat) (h : Nat) (aC : Nat) (tc : Nat) (fc : Nat → Int32) (sb : Int32) (sn : SnT) (sv : Int32)  (hcv : ∀ A U H, STT tL tH A U H → va_T .int tc 5 (fun j => .int (fc j)) A U H) : Ct l yS_take wS_take ({ frames := 2, cells := 0, slots := 0, locals := 44 }) D (tyG cZ cI cJ) tL tH [.ref h, .int sv] sz [cSn h tc aC sb sn, cJa cJ aC 3 sn.2.2.2.2] (fun _ : Unit => some (.int ((fS_take fc sb sn sv).1))) (fun _ : Unit => [cSn h tc aC sb ((fS_take fc sb sn sv).2), cJa cJ aC 3 (((fS_take fc sb sn sv).2).2.2.2.2)]) 0 0 := by
  refine k_go (by decide +kernel) (Nat.le_of_ble_eq_true rfl) ?_
  intro p e s m args below meth c A ls H hx hb hr hml hts hown hlk hnm hK hN hT hA hS hP hD hl
  have hown : s.vm.findClass "ToothWheelTimer$Sensor" = some m.cls := hown
  have hlk : meth.locks = false := hlk
  have hl : lv_has ls 3 [(0, .ref h), (1, .int sv)] := hl
  refine lv_iload_n hx hb dS_take_0 rfl (lv_at hl 1 rfl) ?_
  refine k_ca0 (wc := []) (wr := [cSn h tc aC sb sn, cJa cJ aC 3 sn.2.2.2.2]) (va_runS (As := [.int sv]) (rest := []) ⟨hx, hb, hml, hown, hts⟩ (ctS_inRange l D cZ cI cJ tL tH H.size sv) (cwS_36 hts hN rfl rfl ⟨Nat.le_of_ble_eq_true rfl, Nat.le_of_ble_eq_true rfl⟩) (k_pre hK hN hT hA hS hP hD [] rfl (by decide)) rfl rfl hl.1 rfl (lv_room (Nat.le_of_ble_eq_true rfl)) dS_take_1 ⟨Nat.zero_le _, Nat.zero_le _⟩) hP hD hS hA [] [0, 1] rfl rfl (by decide) (by decide) (fun _ H locs hP hD hS => ?_)
  refine W.eq (g2 := F0 m 4 ls [.int (fS_inRange sv)]) rfl ?_
  have hP : va_P D vwCl [cSn h tc aC sb sn, cJa cJ aC 3 sn.2.2.2.2] H := hP
  have hD : va_D A [cSn h tc aC sb sn, cJa cJ aC 3 sn.2.2.2.2] := hD
  generalize hq1 : fS_inRange sv = q1 at ⊢
  refine lv_if_eq (tgt := 36) hx hb dS_take_4 (by decide) (fun h2 => ?_) (fun h2 => ?_)
  · -- taken at 4
    refine lv_iconst (v := (0 : Int32)) hx hb dS_take_36 (by decide) ?_
    refine lv_istore_n (lv' := [(2, .int (0 : Int32)), (0, .ref h), (1, .int sv)]) hx hb dS_take_37 rfl hl (by decide) rfl (fun ls hl => ?_)
    refine lv_iload_n hx hb dS_take_38 rfl (lv_at hl 0 rfl) ?_
    refine lv_if_eq (tgt := 68) hx hb dS_take_39 (by decide) (fun _ => ?_) (fun h0 => absurd (by decide) h0)
    refine lv_aload_n hx hb dS_take_68 rfl (lv_at hl 1 rfl) ?_
    refine lv_bipush (v := (6 : Int32)) hx hb dS_take_69 (by decide) ?_
    refine lv_aload_n hx hb dS_take_71 rfl (lv_at hl 1 rfl) ?_
    refine gfS_19 hx hb hts hown hN hK hP 0 rfl (v := .int sn.2.2.1) rfl dS_take_72 ?_
    refine lv_iconst (v := (1 : Int32)) hx hb dS_take_75 (by decide) ?_
    refine lv_iadd hx hb dS_take_76 ?_
    refine k_ca0 (wc := []) (wr := [cSn h tc aC sb sn, cJa cJ aC 3 sn.2.2.2.2]) (va_runS (As := [.int (6 : Int32), .int (sn.2.2.1 + (1 : Int32))]) (rest := [.ref h]) ⟨hx, hb, hml, hown, hts⟩ (ctJ_min l D cZ cI cJ tL tH H.size (6 : Int32) (sn.2.2.1 + (1 : Int32))) (cwS_53 hts hN rfl rfl ⟨Nat.le_of_ble_eq_true rfl, Nat.le_of_ble_eq_true rfl⟩) (k_pre hK hN hT hA hS hP hD [] rfl (by decide)) rfl rfl hl.1 rfl (lv_room (Nat.le_of_ble_eq_true rfl)) dS_take_77 ⟨Nat.zero_le _, Nat.zero_le _⟩) hP hD hS hA [] [0, 1] rfl rfl (by decide) (by decide) (fun _ H locs hP hD hS => ?_)
    refine W.eq (g2 := F0 m 80 ls [.int (fJ_min (6 : Int32) (sn.2.2.1 + (1 : Int32))), .ref h]) rfl ?_
    have hP : va_P D vwCl [cSn h tc aC sb sn, cJa cJ aC 3 sn.2.2.2.2] H := hP
    have hD : va_D A [cSn h tc aC sb sn, cJa cJ aC 3 sn.2.2.2.2] := hD
    generalize hq3 : fJ_min (6 : Int32) (sn.2.2.1 + (1 : Int32)) = q3 at ⊢
    refine pfS_19 hx hb hts hown hN hK hP hD hS 0 rfl (v := .int q3) rfl rfl (Nat.le_of_ble_eq_true rfl) dS_take_80 (fun H locs hP hD hS => ?_)
    have hP : va_P D vwCl [cSn h tc aC sb (sn.1, sn.2.1, q3, sn.2.2.2.1, sn.2.2.2.2), cJa cJ aC 3 sn.2.2.2.2] H := hP
    have hD : va_D A [cSn h tc aC sb (sn.1, sn.2.1, q3, sn.2.2.2.1, sn.2.2.2.2), cJa cJ aC 3 sn.2.2.2.2] := hD
    refine lv_aload_n hx hb dS_take_83 rfl (lv_at hl 1 rfl) ?_
    refine lv_iload_n hx hb dS_take_84 rfl (lv_at hl 2 rfl) ?_
    refine pfS_15 hx hb hts hown hN hK hP hD hS 0 rfl (v := .int sv) rfl rfl (Nat.le_of_ble_eq_true rfl) dS_take_85 (fun H locs hP hD hS => ?_)
    have hP : va_P D vwCl [cSn h tc aC sb (sn.1, sv, q3, sn.2.2.2.1, sn.2.2.2.2), cJa cJ aC 3 sn.2.2.2.2] H := hP
    have hD : va_D A [cSn h tc aC sb (sn.1, sv, q3, sn.2.2.2.1, sn.2.2.2.2), cJa cJ aC 3 sn.2.2.2.2] := hD
    refine lv_iload_n hx hb dS_take_88 rfl (lv_at hl 0 rfl) ?_
    exact k_zret hx hb hr hlk (zn_b (Or.inl rfl)) hP hD hS dS_take_89 () (by simp only [fS_take, hq1, if_pos h2, hq3]) (by simp only [fS_take, hq1, if_pos h2, hq3])
  · -- not taken at 4
    refine lv_aload_n hx hb dS_take_7 rfl (lv_at hl 0 rfl) ?_
    refine gfS_15 hx hb hts hown hN hK hP 0 rfl (v := .int sn.2.1) rfl dS_take_8 ?_
    refine k_ca0 (wc := []) (wr := [cSn h tc aC sb sn, cJa cJ aC 3 sn.2.2.2.2]) (va_runS (As := [.int sn.2.1]) (rest := []) ⟨hx, hb, hml, hown, hts⟩ (ctS_inRange l D cZ cI cJ tL tH H.size sn.2.1) (cwS_36 hts hN rfl rfl ⟨Nat.le_of_ble_eq_true rfl, Nat.le_of_ble_eq_true rfl⟩) (k_pre hK hN hT hA hS hP hD [] rfl (by decide)) rfl rfl hl.1 rfl (lv_room (Nat.le_of_ble_eq_true rfl)) dS_take_11 ⟨Nat.zero_le _, Nat.zero_le _⟩) hP hD hS hA [] [0, 1] rfl rfl (by decide) (by decide) (fun _ H locs hP hD hS => ?_)
    refine W.eq (g2 := F0 m 14 ls [.int (fS_inRange sn.2.1)]) rfl ?_
    have hP : va_P D vwCl [cSn h tc aC sb sn, cJa cJ aC 3 sn.2.2.2.2] H := hP
    have hD : va_D A [cSn h tc aC sb sn, cJa cJ aC 3 sn.2.2.2.2] := hD
    generalize hq4 : fS_inRange sn.2.1 = q4 at ⊢
    refine lv_if_eq (tgt := 32) hx hb dS_take_14 (by decide) (fun h5 => ?_) (fun h5 => ?_)
    · -- taken at 14
      refine lv_iconst (v := (1 : Int32)) hx hb dS_take_32 (by decide) ?_
      refine lv_goto (tgt := 37) hx hb dS_take_33 (by decide) ?_
      refine lv_istore_n (lv' := [(2, .int (1 : Int32)), (0, .ref h), (1, .int sv)]) hx hb dS_take_37 rfl hl (by decide) rfl (fun ls hl => ?_)
      refine lv_iload_n hx hb dS_take_38 rfl (lv_at hl 0 rfl) ?_
      refine lv_if_eq (tgt := 68) hx hb dS_take_39 (by decide) (fun h0 => absurd h0 (by decide)) (fun _ => ?_)
      refine lv_aload_n hx hb dS_take_42 rfl (lv_at hl 1 rfl) ?_
      refine lv_iconst (v := (0 : Int32)) hx hb dS_take_43 (by decide) ?_
      refine lv_aload_n hx hb dS_take_44 rfl (lv_at hl 1 rfl) ?_
      refine gfS_19 hx hb hts hown hN hK hP 0 rfl (v := .int sn.2.2.1) rfl dS_take_45 ?_
      refine lv_iconst (v := (1 : Int32)) hx hb dS_take_48 (by decide) ?_
      refine lv_isub hx hb dS_take_49 ?_
      refine k_ca0 (wc := []) (wr := [cSn h tc aC sb sn, cJa cJ aC 3 sn.2.2.2.2]) (va_runS (As := [.int (0 : Int32), .int (sn.2.2.1 - (1 : Int32))]) (rest := [.ref h]) ⟨hx, hb, hml, hown, hts⟩ (ctJ_maxI l D cZ cI cJ tL tH H.size (0 : Int32) (sn.2.2.1 - (1 : Int32))) (cwS_46 hts hN rfl rfl ⟨Nat.le_of_ble_eq_true rfl, Nat.le_of_ble_eq_true rfl⟩) (k_pre hK hN hT hA hS hP hD [] rfl (by decide)) rfl rfl hl.1 rfl (lv_room (Nat.le_of_ble_eq_true rfl)) dS_take_50 ⟨Nat.zero_le _, Nat.zero_le _⟩) hP hD hS hA [] [0, 1] rfl rfl (by decide) (by decide) (fun _ H locs hP hD hS => ?_)
      refine W.eq (g2 := F0 m 53 ls [.int (fJ_maxI (0 : Int32) (sn.2.2.1 - (1 : Int32))), .ref h]) rfl ?_
      have hP : va_P D vwCl [cSn h tc aC sb sn, cJa cJ aC 3 sn.2.2.2.2] H := hP
      have hD : va_D A [cSn h tc aC sb sn, cJa cJ aC 3 sn.2.2.2.2] := hD
      generalize hq6 : fJ_maxI (0 : Int32) (sn.2.2.1 - (1 : Int32)) = q6 at ⊢
      refine pfS_19 hx hb hts hown hN hK hP hD hS 0 rfl (v := .int q6) rfl rfl (Nat.le_of_ble_eq_true rfl) dS_take_53 (fun H locs hP hD hS => ?_)
      have hP : va_P D vwCl [cSn h tc aC sb (sn.1, sn.2.1, q6, sn.2.2.2.1, sn.2.2.2.2), cJa cJ aC 3 sn.2.2.2.2] H := hP
      have hD : va_D A [cSn h tc aC sb (sn.1, sn.2.1, q6, sn.2.2.2.1, sn.2.2.2.2), cJa cJ aC 3 sn.2.2.2.2] := hD
      refine lv_aload_n hx hb dS_take_56 rfl (lv_at hl 1 rfl) ?_
      refine lv_aload_n hx hb dS_take_57 rfl (lv_at hl 1 rfl) ?_
      refine lv_iload_n hx hb dS_take_58 rfl (lv_at hl 2 rfl) ?_
      refine k_ca0 (wc := [cSn h tc aC sb (sn.1, sn.2.1, q6, sn.2.2.2.1, sn.2.2.2.2), cJa cJ aC 3 sn.2.2.2.2]) (wr := []) (va_runV (As := [.int sv]) (rest := [.ref h]) ⟨hx, hb, hml, hown, hts⟩ (ctS_onCurve l D cZ cI cJ tL tH H.size h aC tc fc sb (sn.1, sn.2.1, q6, sn.2.2.2.1, sn.2.2.2.2) sv hcv (k_inr hq1 h2).1 (k_inr hq1 h2).2) (cwS_50 hts hN rfl rfl ⟨Nat.le_of_ble_eq_true rfl, Nat.le_of_ble_eq_true rfl⟩) (k_preV hK hN hT hA hS hP hD [0, 1] rfl (by decide) 0 rfl rfl) rfl rfl hl.1 rfl (lv_room (Nat.le_of_ble_eq_true rfl)) dS_take_59 ⟨Nat.zero_le _, Nat.zero_le _⟩) hP hD hS hA [0, 1] [] rfl rfl (by decide) (by decide) (fun _ H locs hP hD hS => ?_)
      refine W.eq (g2 := F0 m 62 ls [.int (fS_onCurve fc sb (sn.1, sn.2.1, q6, sn.2.2.2.1, sn.2.2.2.2) sv), .ref h]) rfl ?_
      have hP : va_P D vwCl [cSn h tc aC sb (sn.1, sn.2.1, q6, sn.2.2.2.1, sn.2.2.2.2), cJa cJ aC 3 sn.2.2.2.2] H := hP
      have hD : va_D A [cSn h tc aC sb (sn.1, sn.2.1, q6, sn.2.2.2.1, sn.2.2.2.2), cJa cJ aC 3 sn.2.2.2.2] := hD
      generalize hq7 : fS_onCurve fc sb (sn.1, sn.2.1, q6, sn.2.2.2.1, sn.2.2.2.2) sv = q7 at ⊢
      refine pfS_33 hx hb hts hown hN hK hP hD hS 0 rfl (v := .int q7) rfl rfl (Nat.le_of_ble_eq_true rfl) dS_take_62 (fun H locs hP hD hS => ?_)
      have hP : va_P D vwCl [cSn h tc aC sb (q7, sn.2.1, q6, sn.2.2.2.1, sn.2.2.2.2), cJa cJ aC 3 sn.2.2.2.2] H := hP
      have hD : va_D A [cSn h tc aC sb (q7, sn.2.1, q6, sn.2.2.2.1, sn.2.2.2.2), cJa cJ aC 3 sn.2.2.2.2] := hD
      refine lv_goto (tgt := 83) hx hb dS_take_65 (by decide) ?_
      refine lv_aload_n hx hb dS_take_83 rfl (lv_at hl 1 rfl) ?_
      refine lv_iload_n hx hb dS_take_84 rfl (lv_at hl 2 rfl) ?_
      refine pfS_15 hx hb hts hown hN hK hP hD hS 0 rfl (v := .int sv) rfl rfl (Nat.le_of_ble_eq_true rfl) dS_take_85 (fun H locs hP hD hS => ?_)
      have hP : va_P D vwCl [cSn h tc aC sb (q7, sv, q6, sn.2.2.2.1, sn.2.2.2.2), cJa cJ aC 3 sn.2.2.2.2] H := hP
      have hD : va_D A [cSn h tc aC sb (q7, sv, q6, sn.2.2.2.1, sn.2.2.2.2), cJa cJ aC 3 sn.2.2.2.2] := hD
      refine lv_iload_n hx hb dS_take_88 rfl (lv_at hl 0 rfl) ?_
      exact k_zret hx hb hr hlk (zn_b (Or.inr rfl)) hP hD hS dS_take_89 () (by simp only [fS_take, hq1, if_neg h2, hq4, if_pos h5, hq6, hq7]) (by simp only [fS_take, hq1, if_neg h2, hq4, if_pos h5, hq6, hq7])
    · -- not taken at 14
      refine lv_iload_n hx hb dS_take_17 rfl (lv_at hl 1 rfl) ?_
      refine lv_aload_n hx hb dS_take_18 rfl (lv_at hl 0 rfl) ?_
      refine gfS_15 hx hb hts hown hN hK hP 0 rfl (v := .int sn.2.1) rfl dS_take_19 ?_
      refine lv_isub hx hb dS_take_22 ?_
      refine k_ca0 (wc := []) (wr := [cSn h tc aC sb sn, cJa cJ aC 3 sn.2.2.2.2]) (va_runS (As := [.int (sv - sn.2.1)]) (rest := []) ⟨hx, hb, hml, hown, hts⟩ (ctJ_abs l D cZ cI cJ tL tH H.size (sv - sn.2.1)) (cwS_40 hts hN rfl rfl ⟨Nat.le_of_ble_eq_true rfl, Nat.le_of_ble_eq_true rfl⟩) (k_pre hK hN hT hA hS hP hD [] rfl (by decide)) rfl rfl hl.1 rfl (lv_room (Nat.le_of_ble_eq_true rfl)) dS_take_23 ⟨Nat.zero_le _, Nat.zero_le _⟩) hP hD hS hA [] [0, 1] rfl rfl (by decide) (by decide) (fun _ H locs hP hD hS => ?_)
      refine W.eq (g2 := F0 m 26 ls [.int (fJ_abs (sv - sn.2.1))]) rfl ?_
      have hP : va_P D vwCl [cSn h tc aC sb sn, cJa cJ aC 3 sn.2.2.2.2] H := hP
      have hD : va_D A [cSn h tc aC sb sn, cJa cJ aC 3 sn.2.2.2.2] := hD
      generalize hq8 : fJ_abs (sv - sn.2.1) = q8 at ⊢
      refine lv_sipush (v := (256 : Int32)) hx hb dS_take_26 (by decide) ?_
      refine lv_icmp_gt (tgt := 36) hx hb dS_take_29 (by decide) (fun h9 => ?_) (fun h9 => ?_)
      · -- taken at 29
        refine lv_iconst (v := (0 : Int32)) hx hb dS_take_36 (by decide) ?_
        refine lv_istore_n (lv' := [(2, .int (0 : Int32)), (0, .ref h), (1, .int sv)]) hx hb dS_take_37 rfl hl (by decide) rfl (fun ls hl => ?_)
        refine lv_iload_n hx hb dS_take_38 rfl (lv_at hl 0 rfl) ?_
        refine lv_if_eq (tgt := 68) hx hb dS_take_39 (by decide) (fun _ => ?_) (fun h0 => absurd (by decide) h0)
        refine lv_aload_n hx hb dS_take_68 rfl (lv_at hl 1 rfl) ?_
        refine lv_bipush (v := (6 : Int32)) hx hb dS_take_69 (by decide) ?_
        refine lv_aload_n hx hb dS_take_71 rfl (lv_at hl 1 rfl) ?_
        refine gfS_19 hx hb hts hown hN hK hP 0 rfl (v := .int sn.2.2.1) rfl dS_take_72 ?_
        refine lv_iconst (v := (1 : Int32)) hx hb dS_take_75 (by decide) ?_
        refine lv_iadd hx hb dS_take_76 ?_
        refine k_ca0 (wc := []) (wr := [cSn h tc aC sb sn, cJa cJ aC 3 sn.2.2.2.2]) (va_runS (As := [.int (6 : Int32), .int (sn.2.2.1 + (1 : Int32))]) (rest := [.ref h]) ⟨hx, hb, hml, hown, hts⟩ (ctJ_min l D cZ cI cJ tL tH H.size (6 : Int32) (sn.2.2.1 + (1 : Int32))) (cwS_53 hts hN rfl rfl ⟨Nat.le_of_ble_eq_true rfl, Nat.le_of_ble_eq_true rfl⟩) (k_pre hK hN hT hA hS hP hD [] rfl (by decide)) rfl rfl hl.1 rfl (lv_room (Nat.le_of_ble_eq_true rfl)) dS_take_77 ⟨Nat.zero_le _, Nat.zero_le _⟩) hP hD hS hA [] [0, 1] rfl rfl (by decide) (by decide) (fun _ H locs hP hD hS => ?_)
        refine W.eq (g2 := F0 m 80 ls [.int (fJ_min (6 : Int32) (sn.2.2.1 + (1 : Int32))), .ref h]) rfl ?_
        have hP : va_P D vwCl [cSn h tc aC sb sn, cJa cJ aC 3 sn.2.2.2.2] H := hP
        have hD : va_D A [cSn h tc aC sb sn, cJa cJ aC 3 sn.2.2.2.2] := hD
        generalize hq10 : fJ_min (6 : Int32) (sn.2.2.1 + (1 : Int32)) = q10 at ⊢
        refine pfS_19 hx hb hts hown hN hK hP hD hS 0 rfl (v := .int q10) rfl rfl (Nat.le_of_ble_eq_true rfl) dS_take_80 (fun H locs hP hD hS => ?_)
        have hP : va_P D vwCl [cSn h tc aC sb (sn.1, sn.2.1, q10, sn.2.2.2.1, sn.2.2.2.2), cJa cJ aC 3 sn.2.2.2.2] H := hP
        have hD : va_D A [cSn h tc aC sb (sn.1, sn.2.1, q10, sn.2.2.2.1, sn.2.2.2.2), cJa cJ aC 3 sn.2.2.2.2] := hD
        refine lv_aload_n hx hb dS_take_83 rfl (lv_at hl 1 rfl) ?_
        refine lv_iload_n hx hb dS_take_84 rfl (lv_at hl 2 rfl) ?_
        refine pfS_15 hx hb hts hown hN hK hP hD hS 0 rfl (v := .int sv) rfl rfl (Nat.le_of_ble_eq_true rfl) dS_take_85 (fun H locs hP hD hS => ?_)
        have hP : va_P D vwCl [cSn h tc aC sb (sn.1, sv, q10, sn.2.2.2.1, sn.2.2.2.2), cJa cJ aC 3 sn.2.2.2.2] H := hP
        have hD : va_D A [cSn h tc aC sb (sn.1, sv, q10, sn.2.2.2.1, sn.2.2.2.2), cJa cJ aC 3 sn.2.2.2.2] := hD
        refine lv_iload_n hx hb dS_take_88 rfl (lv_at hl 0 rfl) ?_
        exact k_zret hx hb hr hlk (zn_b (Or.inl rfl)) hP hD hS dS_take_89 () (by simp only [fS_take, hq1, if_neg h2, hq4, if_neg h5, hq8, if_pos h9, hq10]) (by simp only [fS_take, hq1, if_neg h2, hq4, if_neg h5, hq8, if_pos h9, hq10])
      · -- not taken at 29
        refine lv_iconst (v := (1 : Int32)) hx hb dS_take_32 (by decide) ?_
        refine lv_goto (tgt := 37) hx hb dS_take_33 (by decide) ?_
        refine lv_istore_n (lv' := [(2, .int (1 : Int32)), (0, .ref h), (1, .int sv)]) hx hb dS_take_37 rfl hl (by decide) rfl (fun ls hl => ?_)
        refine lv_iload_n hx hb dS_take_38 rfl (lv_at hl 0 rfl) ?_
        refine lv_if_eq (tgt := 68) hx hb dS_take_39 (by decide) (fun h0 => absurd h0 (by decide)) (fun _ => ?_)
        refine lv_aload_n hx hb dS_take_42 rfl (lv_at hl 1 rfl) ?_
        refine lv_iconst (v := (0 : Int32)) hx hb dS_take_43 (by decide) ?_
        refine lv_aload_n hx hb dS_take_44 rfl (lv_at hl 1 rfl) ?_
        refine gfS_19 hx hb hts hown hN hK hP 0 rfl (v := .int sn.2.2.1) rfl dS_take_45 ?_
        refine lv_iconst (v := (1 : Int32)) hx hb dS_take_48 (by decide) ?_
        refine lv_isub hx hb dS_take_49 ?_
        refine k_ca0 (wc := []) (wr := [cSn h tc aC sb sn, cJa cJ aC 3 sn.2.2.2.2]) (va_runS (As := [.int (0 : Int32), .int (sn.2.2.1 - (1 : Int32))]) (rest := [.ref h]) ⟨hx, hb, hml, hown, hts⟩ (ctJ_maxI l D cZ cI cJ tL tH H.size (0 : Int32) (sn.2.2.1 - (1 : Int32))) (cwS_46 hts hN rfl rfl ⟨Nat.le_of_ble_eq_true rfl, Nat.le_of_ble_eq_true rfl⟩) (k_pre hK hN hT hA hS hP hD [] rfl (by decide)) rfl rfl hl.1 rfl (lv_room (Nat.le_of_ble_eq_true rfl)) dS_take_50 ⟨Nat.zero_le _, Nat.zero_le _⟩) hP hD hS hA [] [0, 1] rfl rfl (by decide) (by decide) (fun _ H locs hP hD hS => ?_)
        refine W.eq (g2 := F0 m 53 ls [.int (fJ_maxI (0 : Int32) (sn.2.2.1 - (1 : Int32))), .ref h]) rfl ?_
        have hP : va_P D vwCl [cSn h tc aC sb sn, cJa cJ aC 3 sn.2.2.2.2] H := hP
        have hD : va_D A [cSn h tc aC sb sn, cJa cJ aC 3 sn.2.2.2.2] := hD
        generalize hq11 : fJ_maxI (0 : Int32) (sn.2.2.1 - (1 : Int32)) = q11 at ⊢
        refine pfS_19 hx hb hts hown hN hK hP hD hS 0 rfl (v := .int q11) rfl rfl (Nat.le_of_ble_eq_true rfl) dS_take_53 (fun H locs hP hD hS => ?_)
        have hP : va_P D vwCl [cSn h tc aC sb (sn.1, sn.2.1, q11, sn.2.2.2.1, sn.2.2.2.2), cJa cJ aC 3 sn.2.2.2.2] H := hP
        have hD : va_D A [cSn h tc aC sb (sn.1, sn.2.1, q11, sn.2.2.2.1, sn.2.2.2.2), cJa cJ aC 3 sn.2.2.2.2] := hD
        refine lv_aload_n hx hb dS_take_56 rfl (lv_at hl 1 rfl) ?_
        refine lv_aload_n hx hb dS_take_57 rfl (lv_at hl 1 rfl) ?_
        refine lv_iload_n hx hb dS_take_58 rfl (lv_at hl 2 rfl) ?_
        refine k_ca0 (wc := [cSn h tc aC sb (sn.1, sn.2.1, q11, sn.2.2.2.1, sn.2.2.2.2), cJa cJ aC 3 sn.2.2.2.2]) (wr := []) (va_runV (As := [.int sv]) (rest := [.ref h]) ⟨hx, hb, hml, hown, hts⟩ (ctS_onCurve l D cZ cI cJ tL tH H.size h aC tc fc sb (sn.1, sn.2.1, q11, sn.2.2.2.1, sn.2.2.2.2) sv hcv (k_inr hq1 h2).1 (k_inr hq1 h2).2) (cwS_50 hts hN rfl rfl ⟨Nat.le_of_ble_eq_true rfl, Nat.le_of_ble_eq_true rfl⟩) (k_preV hK hN hT hA hS hP hD [0, 1] rfl (by decide) 0 rfl rfl) rfl rfl hl.1 rfl (lv_room (Nat.le_of_ble_eq_true rfl)) dS_take_59 ⟨Nat.zero_le _, Nat.zero_le _⟩) hP hD hS hA [0, 1] [] rfl rfl (by decide) (by decide) (fun _ H locs hP hD hS => ?_)
        refine W.eq (g2 := F0 m 62 ls [.int (fS_onCurve fc sb (sn.1, sn.2.1, q11, sn.2.2.2.1, sn.2.2.2.2) sv), .ref h]) rfl ?_
        have hP : va_P D vwCl [cSn h tc aC sb (sn.1, sn.2.1, q11, sn.2.2.2.1, sn.2.2.2.2), cJa cJ aC 3 sn.2.2.2.2] H := hP
        have hD : va_D A [cSn h tc aC sb (sn.1, sn.2.1, q11, sn.2.2.2.1, sn.2.2.2.2), cJa cJ aC 3 sn.2.2.2.2] := hD
        generalize hq12 : fS_onCurve fc sb (sn.1, sn.2.1, q11, sn.2.2.2.1, sn.2.2.2.2) sv = q12 at ⊢
        refine pfS_33 hx hb hts hown hN hK hP hD hS 0 rfl (v := .int q12) rfl rfl (Nat.le_of_ble_eq_true rfl) dS_take_62 (fun H locs hP hD hS => ?_)
        have hP : va_P D vwCl [cSn h tc aC sb (q12, sn.2.1, q11, sn.2.2.2.1, sn.2.2.2.2), cJa cJ aC 3 sn.2.2.2.2] H := hP
        have hD : va_D A [cSn h tc aC sb (q12, sn.2.1, q11, sn.2.2.2.1, sn.2.2.2.2), cJa cJ aC 3 sn.2.2.2.2] := hD
        refine lv_goto (tgt := 83) hx hb dS_take_65 (by decide) ?_
        refine lv_aload_n hx hb dS_take_83 rfl (lv_at hl 1 rfl) ?_
        refine lv_iload_n hx hb dS_take_84 rfl (lv_at hl 2 rfl) ?_
        refine pfS_15 hx hb hts hown hN hK hP hD hS 0 rfl (v := .int sv) rfl rfl (Nat.le_of_ble_eq_true rfl) dS_take_85 (fun H locs hP hD hS => ?_)
        have hP : va_P D vwCl [cSn h tc aC sb (q12, sv, q11, sn.2.2.2.1, sn.2.2.2.2), cJa cJ aC 3 sn.2.2.2.2] H := hP
        have hD : va_D A [cSn h tc aC sb (q12, sv, q11, sn.2.2.2.1, sn.2.2.2.2), cJa cJ aC 3 sn.2.2.2.2] := hD
        refine lv_iload_n hx hb dS_take_88 rfl (lv_at hl 0 rfl) ?_
        exact k_zret hx hb hr hlk (zn_b (Or.inr rfl)) hP hD hS dS_take_89 () (by simp only [fS_take, hq1, if_neg h2, hq4, if_neg h5, hq8, if_neg h9, hq11, hq12]) (by simp only [fS_take, hq1, if_neg h2, hq4, if_neg h5, hq8, if_neg h9, hq11, hq12])

theorem zbS_take (fc : Nat → Int32) (sb : Int32) (sn : SnT) (sv : Int32) : (fS_take fc sb sn sv).1 = 0 ∨ (fS_take fc sb sn sv).1 = 1 := by
  unfold fS_take
  dsimp only
  repeat' split
  all_goals first | exact Or.inl rfl | exact Or.inr rfl
def fS_reading (fc : Nat → Int32) (sb : Int32) (sn : SnT) : Int32 :=
  if sn.2.2.1 < (3 : Int32) then
    sn.1
  else
    sb
set_option maxRecDepth 100000 in
set_option maxHeartbeats 4000000 in
theorem ctS_reading (l : Launch) (D : va_G) (cZ cI cJ : ClassId) (tL tH : Nat) (sz : Nat) (h : Nat) (aC : Nat) (tc : Nat) (fc : Nat → Int32) (sb : Int32) (sn : SnT)  (hcv : ∀ A U H, STT tL tH A U H → va_T .int tc 5 (fun j => .int (fc j)) A U H) : Ct l yS_reading wS_reading ({ frames := 0, cells := 0, slots := 0, locals := 0 }) D (tyG cZ cI cJ) tL tH [.ref h] sz [cSn h tc aC sb sn, cJa cJ aC 3 sn.2.2.2.2] (fun _ : Unit => some (.int (fS_reading fc sb sn))) (fun _ : Unit => [cSn h tc aC sb sn, cJa cJ aC 3 sn.2.2.2.2]) 0 0 := by
  refine k_go (by decide +kernel) (Nat.le_of_ble_eq_true rfl) ?_
  intro p e s m args below meth c A ls H hx hb hr hml hts hown hlk hnm hK hN hT hA hS hP hD hl
  have hown : s.vm.findClass "ToothWheelTimer$Sensor" = some m.cls := hown
  have hlk : meth.locks = false := hlk
  have hl : lv_has ls 1 [(0, .ref h)] := hl
  refine lv_aload_n hx hb dS_reading_0 rfl (lv_at hl 0 rfl) ?_
  refine gfS_19 hx hb hts hown hN hK hP 0 rfl (v := .int sn.2.2.1) rfl dS_reading_1 ?_
  refine lv_iconst (v := (3 : Int32)) hx hb dS_reading_4 (by decide) ?_
  refine lv_icmp_lt (tgt := 15) hx hb dS_reading_5 (by decide) (fun h1 => ?_) (fun h1 => ?_)
  · -- taken at 5
    refine lv_aload_n hx hb dS_reading_15 rfl (lv_at hl 0 rfl) ?_
    refine gfS_33 hx hb hts hown hN hK hP 0 rfl (v := .int sn.1) rfl dS_reading_16 ?_
    exact k_iret hx hb hr hlk hP hD hS dS_reading_19 () (by simp only [fS_reading, if_pos h1]) rfl
  · -- not taken at 5
    refine lv_aload_n hx hb dS_reading_8 rfl (lv_at hl 0 rfl) ?_
    refine gfS_30 hx hb hts hown hN hK hP 0 rfl (v := .int sb) rfl dS_reading_9 ?_
    refine lv_goto (tgt := 19) hx hb dS_reading_12 (by decide) ?_
    exact k_iret hx hb hr hlk hP hD hS dS_reading_19 () (by simp only [fS_reading, if_neg h1]) rfl

def fS_wantsCode (fc : Nat → Int32) (sb : Int32) (sn : SnT) : Int32 :=
  if sn.2.2.1 = (3 : Int32) then
    if sn.2.2.2.1 = 0 then
      (1 : Int32)
    else
      (0 : Int32)
  else
    (0 : Int32)
set_option maxRecDepth 100000 in
set_option maxHeartbeats 4000000 in
theorem ctS_wantsCode (l : Launch) (D : va_G) (cZ cI cJ : ClassId) (tL tH : Nat) (sz : Nat) (h : Nat) (aC : Nat) (tc : Nat) (fc : Nat → Int32) (sb : Int32) (sn : SnT)  (hcv : ∀ A U H, STT tL tH A U H → va_T .int tc 5 (fun j => .int (fc j)) A U H) : Ct l yS_wantsCode wS_wantsCode ({ frames := 0, cells := 0, slots := 0, locals := 0 }) D (tyG cZ cI cJ) tL tH [.ref h] sz [cSn h tc aC sb sn, cJa cJ aC 3 sn.2.2.2.2] (fun _ : Unit => some (.int (fS_wantsCode fc sb sn))) (fun _ : Unit => [cSn h tc aC sb sn, cJa cJ aC 3 sn.2.2.2.2]) 0 0 := by
  refine k_go (by decide +kernel) (Nat.le_of_ble_eq_true rfl) ?_
  intro p e s m args below meth c A ls H hx hb hr hml hts hown hlk hnm hK hN hT hA hS hP hD hl
  have hown : s.vm.findClass "ToothWheelTimer$Sensor" = some m.cls := hown
  have hlk : meth.locks = false := hlk
  have hl : lv_has ls 1 [(0, .ref h)] := hl
  refine lv_aload_n hx hb dS_wantsCode_0 rfl (lv_at hl 0 rfl) ?_
  refine gfS_19 hx hb hts hown hN hK hP 0 rfl (v := .int sn.2.2.1) rfl dS_wantsCode_1 ?_
  refine lv_iconst (v := (3 : Int32)) hx hb dS_wantsCode_4 (by decide) ?_
  refine lv_icmp_ne (tgt := 19) hx hb dS_wantsCode_5 (by decide) (fun h1 => ?_) (fun h1 => ?_)
  · -- taken at 5
    refine lv_iconst (v := (0 : Int32)) hx hb dS_wantsCode_19 (by decide) ?_
    exact k_zret hx hb hr hlk (zn_b (Or.inl rfl)) hP hD hS dS_wantsCode_20 () (by simp only [fS_wantsCode, if_neg h1]) rfl
  · -- not taken at 5
    refine lv_aload_n hx hb dS_wantsCode_8 rfl (lv_at hl 0 rfl) ?_
    refine gfS_22 hx hb hts hown hN hK hP 0 rfl (v := .int sn.2.2.2.1) rfl dS_wantsCode_9 ?_
    refine lv_if_ne (tgt := 19) hx hb dS_wantsCode_12 (by decide) (fun h2 => ?_) (fun h2 => ?_)
    · -- taken at 12
      refine lv_iconst (v := (0 : Int32)) hx hb dS_wantsCode_19 (by decide) ?_
      exact k_zret hx hb hr hlk (zn_b (Or.inl rfl)) hP hD hS dS_wantsCode_20 () (by simp only [fS_wantsCode, if_pos h1, if_neg h2]) rfl
    · -- not taken at 12
      refine lv_iconst (v := (1 : Int32)) hx hb dS_wantsCode_15 (by decide) ?_
      refine lv_goto (tgt := 20) hx hb dS_wantsCode_16 (by decide) ?_
      exact k_zret hx hb hr hlk (zn_b (Or.inr rfl)) hP hD hS dS_wantsCode_20 () (by simp only [fS_wantsCode, if_pos h1, if_pos h2]) rfl

def fS_storeCode (fc : Nat → Int32) (sb : Int32) (sn : SnT) (time : Int64) (pace : Int64) (rd : Int32) : SnT :=
  (sn.1, sn.2.1, sn.2.2.1, (1 : Int32), vp_updL (vp_updL (vp_updL sn.2.2.2.2 0 time) 1 pace) 2 rd.toInt64)
set_option maxRecDepth 100000 in
set_option maxHeartbeats 4000000 in
theorem ctS_storeCode (l : Launch) (D : va_G) (cZ cI cJ : ClassId) (tL tH : Nat) (sz : Nat) (h : Nat) (aC : Nat) (tc : Nat) (fc : Nat → Int32) (sb : Int32) (sn : SnT) (time : Int64) (pace : Int64) (rd : Int32)  (hcv : ∀ A U H, STT tL tH A U H → va_T .int tc 5 (fun j => .int (fc j)) A U H) : Ct l yS_storeCode wS_storeCode ({ frames := 0, cells := 0, slots := 0, locals := 0 }) D (tyG cZ cI cJ) tL tH [.ref h, .long time, .long pace, .int rd] sz [cSn h tc aC sb sn, cJa cJ aC 3 sn.2.2.2.2] (fun _ : Unit => none) (fun _ : Unit => [cSn h tc aC sb (fS_storeCode fc sb sn time pace rd), cJa cJ aC 3 ((fS_storeCode fc sb sn time pace rd).2.2.2.2)]) 0 0 := by
  refine k_go (by decide +kernel) (Nat.le_of_ble_eq_true rfl) ?_
  intro p e s m args below meth c A ls H hx hb hr hml hts hown hlk hnm hK hN hT hA hS hP hD hl
  have hown : s.vm.findClass "ToothWheelTimer$Sensor" = some m.cls := hown
  have hlk : meth.locks = false := hlk
  have hl : lv_has ls 6 [(0, .ref h), (1, .long time), (3, .long pace), (5, .int rd)] := hl
  refine lv_aload_n hx hb dS_storeCode_0 rfl (lv_at hl 0 rfl) ?_
  refine lv_iconst (v := (1 : Int32)) hx hb dS_storeCode_1 (by decide) ?_
  refine pfS_22 hx hb hts hown hN hK hP hD hS 0 rfl (v := .int (1 : Int32)) (zn_b (Or.inr rfl)) (zf_b (Or.inr rfl)) (Nat.le_of_ble_eq_true rfl) dS_storeCode_2 (fun H locs hP hD hS => ?_)
  have hP : va_P D vwCl [cSn h tc aC sb (sn.1, sn.2.1, sn.2.2.1, (1 : Int32), sn.2.2.2.2), cJa cJ aC 3 sn.2.2.2.2] H := hP
  have hD : va_D A [cSn h tc aC sb (sn.1, sn.2.1, sn.2.2.1, (1 : Int32), sn.2.2.2.2), cJa cJ aC 3 sn.2.2.2.2] := hD
  refine lv_aload_n hx hb dS_storeCode_5 rfl (lv_at hl 0 rfl) ?_
  refine gfS_11 hx hb hts hown hN hK hP 0 rfl (v := .ref aC) rfl dS_storeCode_6 ?_
  refine lv_iconst (v := (0 : Int32)) hx hb dS_storeCode_9 (by decide) ?_
  refine lv_lload_n hx hb dS_storeCode_10 rfl (lv_at hl 1 rfl) ?_
  refine va_last hx hb hK hP hD hS 1 2 rfl rfl (vp_in_nI (n := 0) (N := 3) (by omega) (by omega)) dS_storeCode_11 (fun H locs hP hD hS => ?_)
  have e9 : (0 : Int32).toNatClampNeg = 0 := (nI_clamp (n := 0) (by omega))
  rw [e9] at hP hD
  have hP : va_P D vwCl [cSn h tc aC sb (sn.1, sn.2.1, sn.2.2.1, (1 : Int32), vp_updL sn.2.2.2.2 0 time), cJa cJ aC 3 (vp_updL sn.2.2.2.2 0 time)] H := hP
  have hD : va_D A [cSn h tc aC sb (sn.1, sn.2.1, sn.2.2.1, (1 : Int32), vp_updL sn.2.2.2.2 0 time), cJa cJ aC 3 (vp_updL sn.2.2.2.2 0 time)] := hD
  refine lv_aload_n hx hb dS_storeCode_12 rfl (lv_at hl 0 rfl) ?_
  refine gfS_11 hx hb hts hown hN hK hP 0 rfl (v := .ref aC) rfl dS_storeCode_13 ?_
  refine lv_iconst (v := (1 : Int32)) hx hb dS_storeCode_16 (by decide) ?_
  refine lv_lload_n hx hb dS_storeCode_17 rfl (lv_at hl 2 rfl) ?_
  refine va_last hx hb hK hP hD hS 1 2 rfl rfl (vp_in_nI (n := 1) (N := 3) (by omega) (by omega)) dS_storeCode_18 (fun H locs hP hD hS => ?_)
  have e9 : (1 : Int32).toNatClampNeg = 1 := (nI_clamp (n := 1) (by omega))
  rw [e9] at hP hD
  have hP : va_P D vwCl [cSn h tc aC sb (sn.1, sn.2.1, sn.2.2.1, (1 : Int32), vp_updL (vp_updL sn.2.2.2.2 0 time) 1 pace), cJa cJ aC 3 (vp_updL (vp_updL sn.2.2.2.2 0 time) 1 pace)] H := hP
  have hD : va_D A [cSn h tc aC sb (sn.1, sn.2.1, sn.2.2.1, (1 : Int32), vp_updL (vp_updL sn.2.2.2.2 0 time) 1 pace), cJa cJ aC 3 (vp_updL (vp_updL sn.2.2.2.2 0 time) 1 pace)] := hD
  refine lv_aload_n hx hb dS_storeCode_19 rfl (lv_at hl 0 rfl) ?_
  refine gfS_11 hx hb hts hown hN hK hP 0 rfl (v := .ref aC) rfl dS_storeCode_20 ?_
  refine lv_iconst (v := (2 : Int32)) hx hb dS_storeCode_23 (by decide) ?_
  refine lv_iload hx hb dS_storeCode_24 (lv_at hl 3 rfl) ?_
  refine lv_i2l hx hb dS_storeCode_26 rfl ?_
  refine va_last hx hb hK hP hD hS 1 2 rfl rfl (vp_in_nI (n := 2) (N := 3) (by omega) (by omega)) dS_storeCode_27 (fun H locs hP hD hS => ?_)
  have e9 : (2 : Int32).toNatClampNeg = 2 := (nI_clamp (n := 2) (by omega))
  rw [e9] at hP hD
  have hP : va_P D vwCl [cSn h tc aC sb (sn.1, sn.2.1, sn.2.2.1, (1 : Int32), vp_updL (vp_updL (vp_updL sn.2.2.2.2 0 time) 1 pace) 2 rd.toInt64), cJa cJ aC 3 (vp_updL (vp_updL (vp_updL sn.2.2.2.2 0 time) 1 pace) 2 rd.toInt64)] H := hP
  have hD : va_D A [cSn h tc aC sb (sn.1, sn.2.1, sn.2.2.1, (1 : Int32), vp_updL (vp_updL (vp_updL sn.2.2.2.2 0 time) 1 pace) 2 rd.toInt64), cJa cJ aC 3 (vp_updL (vp_updL (vp_updL sn.2.2.2.2 0 time) 1 pace) 2 rd.toInt64)] := hD
  exact k_vret hx hb hr hlk hP hD hS dS_storeCode_28 () rfl rfl

def fS_codePart (fc : Nat → Int32) (sb : Int32) (sn : SnT) (part : Int32) : Int64 :=
  if sn.2.2.2.1 = 0 then
    (-1 : Int64)
  else
    if part < 0 then
      (-1 : Int64)
    else
      if (3 : Int32) ≤ part then
        (-1 : Int64)
      else
        sn.2.2.2.2 part.toNatClampNeg
set_option maxRecDepth 100000 in
set_option maxHeartbeats 4000000 in
theorem ctS_codePart (l : Launch) (D : va_G) (cZ cI cJ : ClassId) (tL tH : Nat) (sz : Nat) (h : Nat) (aC : Nat) (tc : Nat) (fc : Nat → Int32) (sb : Int32) (sn : SnT) (part : Int32)  (hcv : ∀ A U H, STT tL tH A U H → va_T .int tc 5 (fun j => .int (fc j)) A U H) : Ct l yS_codePart wS_codePart ({ frames := 0, cells := 0, slots := 0, locals := 0 }) D (tyG cZ cI cJ) tL tH [.ref h, .int part] sz [cSn h tc aC sb sn, cJa cJ aC 3 sn.2.2.2.2] (fun _ : Unit => some (.long (fS_codePart fc sb sn part))) (fun _ : Unit => [cSn h tc aC sb sn, cJa cJ aC 3 sn.2.2.2.2]) 0 0 := by
  refine k_go (by decide +kernel) (Nat.le_of_ble_eq_true rfl) ?_
  intro p e s m args below meth c A ls H hx hb hr hml hts hown hlk hnm hK hN hT hA hS hP hD hl
  have hown : s.vm.findClass "ToothWheelTimer$Sensor" = some m.cls := hown
  have hlk : meth.locks = false := hlk
  have hl : lv_has ls 2 [(0, .ref h), (1, .int part)] := hl
  refine lv_aload_n hx hb dS_codePart_0 rfl (lv_at hl 0 rfl) ?_
  refine gfS_22 hx hb hts hown hN hK hP 0 rfl (v := .int sn.2.2.2.1) rfl dS_codePart_1 ?_
  refine lv_if_eq (tgt := 25) hx hb dS_codePart_4 (by decide) (fun h1 => ?_) (fun h1 => ?_)
  · -- taken at 4
    refine lv_ldc2 (v := (-1 : Int64)) hx hb hown (hts _ (wg wd_287 rfl)) dS_codePart_25 ?_
    exact k_lret hx hb hr hlk hP hD hS dS_codePart_28 () (by simp only [fS_codePart, if_pos h1]) rfl
  · -- not taken at 4
    refine lv_iload_n hx hb dS_codePart_7 rfl (lv_at hl 1 rfl) ?_
    refine lv_if_lt (tgt := 25) hx hb dS_codePart_8 (by decide) (fun h2 => ?_) (fun h2 => ?_)
    · -- taken at 8
      refine lv_ldc2 (v := (-1 : Int64)) hx hb hown (hts _ (wg wd_287 rfl)) dS_codePart_25 ?_
      exact k_lret hx hb hr hlk hP hD hS dS_codePart_28 () (by simp only [fS_codePart, if_neg h1, if_pos h2]) rfl
    · -- not taken at 8
      refine lv_iload_n hx hb dS_codePart_11 rfl (lv_at hl 1 rfl) ?_
      refine lv_iconst (v := (3 : Int32)) hx hb dS_codePart_12 (by decide) ?_
      refine lv_icmp_ge (tgt := 25) hx hb dS_codePart_13 (by decide) (fun h3 => ?_) (fun h3 => ?_)
      · -- taken at 13
        refine lv_ldc2 (v := (-1 : Int64)) hx hb hown (hts _ (wg wd_287 rfl)) dS_codePart_25 ?_
        exact k_lret hx hb hr hlk hP hD hS dS_codePart_28 () (by simp only [fS_codePart, if_neg h1, if_neg h2, if_pos h3]) rfl
      · -- not taken at 13
        refine lv_aload_n hx hb dS_codePart_16 rfl (lv_at hl 0 rfl) ?_
        refine gfS_11 hx hb hts hown hN hK hP 0 rfl (v := .ref aC) rfl dS_codePart_17 ?_
        refine lv_iload_n hx hb dS_codePart_20 rfl (lv_at hl 1 rfl) ?_
        refine va_lald hx hb hK hP 1 2 rfl rfl (k_ix3 h2 h3) dS_codePart_21 ?_
        refine lv_goto (tgt := 28) hx hb dS_codePart_22 (by decide) ?_
        exact k_lret hx hb hr hlk hP hD hS dS_codePart_28 () (by simp only [fS_codePart, if_neg h1, if_neg h2, if_neg h3]) rfl

def fS_dropCode (fc : Nat → Int32) (sb : Int32) (sn : SnT) : Int32 × SnT :=
  if sn.2.2.2.1 = 0 then
    ((0 : Int32), (sn.1, sn.2.1, sn.2.2.1, (0 : Int32), sn.2.2.2.2))
  else
    ((1 : Int32), (sn.1, sn.2.1, sn.2.2.1, (0 : Int32), sn.2.2.2.2))
set_option maxRecDepth 100000 in
set_option maxHeartbeats 4000000 in
theorem ctS_dropCode (l : Launch) (D : va_G) (cZ cI cJ : ClassId) (tL tH : Nat) (sz : Nat) (h : Nat) (aC : Nat) (tc : Nat) (fc : Nat → Int32) (sb : Int32) (sn : SnT)  (hcv : ∀ A U H, STT tL tH A U H → va_T .int tc 5 (fun j => .int (fc j)) A U H) : Ct l yS_dropCode wS_dropCode ({ frames := 0, cells := 0, slots := 0, locals := 0 }) D (tyG cZ cI cJ) tL tH [.ref h] sz [cSn h tc aC sb sn, cJa cJ aC 3 sn.2.2.2.2] (fun _ : Unit => some (.int ((fS_dropCode fc sb sn).1))) (fun _ : Unit => [cSn h tc aC sb ((fS_dropCode fc sb sn).2), cJa cJ aC 3 (((fS_dropCode fc sb sn).2).2.2.2.2)]) 0 0 := by
  refine k_go (by decide +kernel) (Nat.le_of_ble_eq_true rfl) ?_
  intro p e s m args below meth c A ls H hx hb hr hml hts hown hlk hnm hK hN hT hA hS hP hD hl
  have hown : s.vm.findClass "ToothWheelTimer$Sensor" = some m.cls := hown
  have hlk : meth.locks = false := hlk
  have hl : lv_has ls 2 [(0, .ref h)] := hl
  refine lv_aload_n hx hb dS_dropCode_0 rfl (lv_at hl 0 rfl) ?_
  refine gfS_22 hx hb hts hown hN hK hP 0 rfl (v := .int sn.2.2.2.1) rfl dS_dropCode_1 ?_
  refine lv_if_eq (tgt := 11) hx hb dS_dropCode_4 (by decide) (fun h1 => ?_) (fun h1 => ?_)
  · -- taken at 4
    refine lv_iconst (v := (0 : Int32)) hx hb dS_dropCode_11 (by decide) ?_
    refine lv_istore_n (lv' := [(1, .int (0 : Int32)), (0, .ref h)]) hx hb dS_dropCode_12 rfl hl (by decide) rfl (fun ls hl => ?_)
    refine lv_aload_n hx hb dS_dropCode_13 rfl (lv_at hl 1 rfl) ?_
    refine lv_iconst (v := (0 : Int32)) hx hb dS_dropCode_14 (by decide) ?_
    refine pfS_22 hx hb hts hown hN hK hP hD hS 0 rfl (v := .int (0 : Int32)) (zn_b (Or.inl rfl)) (zf_b (Or.inl rfl)) (Nat.le_of_ble_eq_true rfl) dS_dropCode_15 (fun H locs hP hD hS => ?_)
    have hP : va_P D vwCl [cSn h tc aC sb (sn.1, sn.2.1, sn.2.2.1, (0 : Int32), sn.2.2.2.2), cJa cJ aC 3 sn.2.2.2.2] H := hP
    have hD : va_D A [cSn h tc aC sb (sn.1, sn.2.1, sn.2.2.1, (0 : Int32), sn.2.2.2.2), cJa cJ aC 3 sn.2.2.2.2] := hD
    refine lv_iload_n hx hb dS_dropCode_18 rfl (lv_at hl 0 rfl) ?_
    exact k_iret hx hb hr hlk hP hD hS dS_dropCode_19 () (by simp only [fS_dropCode, if_pos h1]) (by simp only [fS_dropCode, if_pos h1])
  · -- not taken at 4
    refine lv_iconst (v := (1 : Int32)) hx hb dS_dropCode_7 (by decide) ?_
    refine lv_goto (tgt := 12) hx hb dS_dropCode_8 (by decide) ?_
    refine lv_istore_n (lv' := [(1, .int (1 : Int32)), (0, .ref h)]) hx hb dS_dropCode_12 rfl hl (by decide) rfl (fun ls hl => ?_)
    refine lv_aload_n hx hb dS_dropCode_13 rfl (lv_at hl 1 rfl) ?_
    refine lv_iconst (v := (0 : Int32)) hx hb dS_dropCode_14 (by decide) ?_
    refine pfS_22 hx hb hts hown hN hK hP hD hS 0 rfl (v := .int (0 : Int32)) (zn_b (Or.inl rfl)) (zf_b (Or.inl rfl)) (Nat.le_of_ble_eq_true rfl) dS_dropCode_15 (fun H locs hP hD hS => ?_)
    have hP : va_P D vwCl [cSn h tc aC sb (sn.1, sn.2.1, sn.2.2.1, (0 : Int32), sn.2.2.2.2), cJa cJ aC 3 sn.2.2.2.2] H := hP
    have hD : va_D A [cSn h tc aC sb (sn.1, sn.2.1, sn.2.2.1, (0 : Int32), sn.2.2.2.2), cJa cJ aC 3 sn.2.2.2.2] := hD
    refine lv_iload_n hx hb dS_dropCode_18 rfl (lv_at hl 0 rfl) ?_
    exact k_iret hx hb hr hlk hP hD hS dS_dropCode_19 () (by simp only [fS_dropCode, if_neg h1]) (by simp only [fS_dropCode, if_neg h1])

/-! Math and Wheel: written by program (wip/whole/gen/specs1.py) -/
def fJ_maxI (x : Int32) (y : Int32) : Int32 :=
  if x < y then
    y
  else
    x
set_option maxRecDepth 100000 in
set_option maxHeartbeats 4000000 in
theorem ctJ_maxI (l : Launch) (D : va_G) (cZ cI cJ : ClassId) (tL tH : Nat) (sz : Nat)  (x : Int32) (y : Int32)   : Ct l yJ_maxI wJ_maxI ({ frames := 0, cells := 0, slots := 0, locals := 0 }) D (tyG cZ cI cJ) tL tH [.int x, .int y] sz [] (fun _ : Unit => some (.int (fJ_maxI x y))) (fun _ : Unit => []) 0 0 := by
  refine k_goF (by decide +kernel) (Nat.le_of_ble_eq_true rfl) ?_
  intro p e s m args below meth c A ls H hx hb hr hml hts hown hlk hnm hK hN hT hA hS hP hD hl
  have hown : s.vm.findClass "java/lang/Math" = some m.cls := hown
  have hlk : meth.locks = false := hlk
  have hl : lv_has ls 2 [(0, .int x), (1, .int y)] := hl
  refine lv_iload_n hx hb dJ_maxI_0 rfl (lv_at hl 0 rfl) ?_
  refine lv_iload_n hx hb dJ_maxI_1 rfl (lv_at hl 1 rfl) ?_
  refine lv_icmp_lt (tgt := 9) hx hb dJ_maxI_2 (by decide) (fun h1 => ?_) (fun h1 => ?_)
  · -- taken at 2
    refine lv_iload_n hx hb dJ_maxI_9 rfl (lv_at hl 1 rfl) ?_
    exact k_iret hx hb hr hlk hP hD hS dJ_maxI_10 () (by simp only [fJ_maxI, if_pos h1]) rfl
  · -- not taken at 2
    refine lv_iload_n hx hb dJ_maxI_5 rfl (lv_at hl 0 rfl) ?_
    refine lv_goto (tgt := 10) hx hb dJ_maxI_6 (by decide) ?_
    exact k_iret hx hb hr hlk hP hD hS dJ_maxI_10 () (by simp only [fJ_maxI, if_neg h1]) rfl

def fJ_maxJ (x : Int64) (y : Int64) : Int64 :=
  if x < y then
    y
  else
    x
set_option maxRecDepth 100000 in
set_option maxHeartbeats 4000000 in
theorem ctJ_maxJ (l : Launch) (D : va_G) (cZ cI cJ : ClassId) (tL tH : Nat) (sz : Nat)  (x : Int64) (y : Int64)   : Ct l yJ_maxJ wJ_maxJ ({ frames := 0, cells := 0, slots := 0, locals := 0 }) D (tyG cZ cI cJ) tL tH [.long x, .long y] sz [] (fun _ : Unit => some (.long (fJ_maxJ x y))) (fun _ : Unit => []) 0 0 := by
  refine k_goF (by decide +kernel) (Nat.le_of_ble_eq_true rfl) ?_
  intro p e s m args below meth c A ls H hx hb hr hml hts hown hlk hnm hK hN hT hA hS hP hD hl
  have hown : s.vm.findClass "java/lang/Math" = some m.cls := hown
  have hlk : meth.locks = false := hlk
  have hl : lv_has ls 4 [(0, .long x), (2, .long y)] := hl
  refine lv_lload_n hx hb dJ_maxJ_0 rfl (lv_at hl 0 rfl) ?_
  refine lv_lload_n hx hb dJ_maxJ_1 rfl (lv_at hl 1 rfl) ?_
  refine k_lc_lt (tgt := 10) hx hb dJ_maxJ_2 dJ_maxJ_3 (by decide) (fun h1 => ?_) (fun h1 => ?_)
  · -- taken at 2
    refine lv_lload_n hx hb dJ_maxJ_10 rfl (lv_at hl 1 rfl) ?_
    exact k_lret hx hb hr hlk hP hD hS dJ_maxJ_11 () (by simp only [fJ_maxJ, if_pos h1]) rfl
  · -- not taken at 2
    refine lv_lload_n hx hb dJ_maxJ_6 rfl (lv_at hl 0 rfl) ?_
    refine lv_goto (tgt := 11) hx hb dJ_maxJ_7 (by decide) ?_
    exact k_lret hx hb hr hlk hP hD hS dJ_maxJ_11 () (by simp only [fJ_maxJ, if_neg h1]) rfl

def fJ_min (x : Int32) (y : Int32) : Int32 :=
  if y < x then
    y
  else
    x
set_option maxRecDepth 100000 in
set_option maxHeartbeats 4000000 in
theorem ctJ_min (l : Launch) (D : va_G) (cZ cI cJ : ClassId) (tL tH : Nat) (sz : Nat)  (x : Int32) (y : Int32)   : Ct l yJ_min wJ_min ({ frames := 0, cells := 0, slots := 0, locals := 0 }) D (tyG cZ cI cJ) tL tH [.int x, .int y] sz [] (fun _ : Unit => some (.int (fJ_min x y))) (fun _ : Unit => []) 0 0 := by
  refine k_goF (by decide +kernel) (Nat.le_of_ble_eq_true rfl) ?_
  intro p e s m args below meth c A ls H hx hb hr hml hts hown hlk hnm hK hN hT hA hS hP hD hl
  have hown : s.vm.findClass "java/lang/Math" = some m.cls := hown
  have hlk : meth.locks = false := hlk
  have hl : lv_has ls 2 [(0, .int x), (1, .int y)] := hl
  refine lv_iload_n hx hb dJ_min_0 rfl (lv_at hl 0 rfl) ?_
  refine lv_iload_n hx hb dJ_min_1 rfl (lv_at hl 1 rfl) ?_
  refine lv_icmp_gt (tgt := 9) hx hb dJ_min_2 (by decide) (fun h1 => ?_) (fun h1 => ?_)
  · -- taken at 2
    refine lv_iload_n hx hb dJ_min_9 rfl (lv_at hl 1 rfl) ?_
    exact k_iret hx hb hr hlk hP hD hS dJ_min_10 () (by simp only [fJ_min, if_pos h1]) rfl
  · -- not taken at 2
    refine lv_iload_n hx hb dJ_min_5 rfl (lv_at hl 0 rfl) ?_
    refine lv_goto (tgt := 10) hx hb dJ_min_6 (by decide) ?_
    exact k_iret hx hb hr hlk hP hD hS dJ_min_10 () (by simp only [fJ_min, if_neg h1]) rfl

def fJ_abs (x : Int32) : Int32 :=
  if 0 ≤ x then
    x
  else
    -x
set_option maxRecDepth 100000 in
set_option maxHeartbeats 4000000 in
theorem ctJ_abs (l : Launch) (D : va_G) (cZ cI cJ : ClassId) (tL tH : Nat) (sz : Nat)  (x : Int32)   : Ct l yJ_abs wJ_abs ({ frames := 0, cells := 0, slots := 0, locals := 0 }) D (tyG cZ cI cJ) tL tH [.int x] sz [] (fun _ : Unit => some (.int (fJ_abs x))) (fun _ : Unit => []) 0 0 := by
  refine k_goF (by decide +kernel) (Nat.le_of_ble_eq_true rfl) ?_
  intro p e s m args below meth c A ls H hx hb hr hml hts hown hlk hnm hK hN hT hA hS hP hD hl
  have hown : s.vm.findClass "java/lang/Math" = some m.cls := hown
  have hlk : meth.locks = false := hlk
  have hl : lv_has ls 1 [(0, .int x)] := hl
  refine lv_iload_n hx hb dJ_abs_0 rfl (lv_at hl 0 rfl) ?_
  refine lv_if_ge (tgt := 9) hx hb dJ_abs_1 (by decide) (fun h1 => ?_) (fun h1 => ?_)
  · -- taken at 1
    refine lv_iload_n hx hb dJ_abs_9 rfl (lv_at hl 0 rfl) ?_
    exact k_iret hx hb hr hlk hP hD hS dJ_abs_10 () (by simp only [fJ_abs, if_pos h1]) rfl
  · -- not taken at 1
    refine lv_iload_n hx hb dJ_abs_4 rfl (lv_at hl 0 rfl) ?_
    refine lv_ineg hx hb dJ_abs_5 ?_
    refine lv_goto (tgt := 10) hx hb dJ_abs_6 (by decide) ?_
    exact k_iret hx hb hr hlk hP hD hS dJ_abs_10 () (by simp only [fJ_abs, if_neg h1]) rfl

def fJ_floorMod (x : Int32) (y : Int32) : Int32 :=
  if 0 ≤ (x ^^^ y) then
    x - x / y * y
  else
    if (x - x / y * y) = 0 then
      x - x / y * y
    else
      (x - x / y * y) + y
set_option maxRecDepth 100000 in
set_option maxHeartbeats 4000000 in
theorem ctJ_floorMod (l : Launch) (D : va_G) (cZ cI cJ : ClassId) (tL tH : Nat) (sz : Nat)  (x : Int32) (y : Int32)  (hy : ¬ y = 0) : Ct l yJ_floorMod wJ_floorMod ({ frames := 0, cells := 0, slots := 0, locals := 0 }) D (tyG cZ cI cJ) tL tH [.int x, .int y] sz [] (fun _ : Unit => some (.int (fJ_floorMod x y))) (fun _ : Unit => []) 0 0 := by
  refine k_goF (by decide +kernel) (Nat.le_of_ble_eq_true rfl) ?_
  intro p e s m args below meth c A ls H hx hb hr hml hts hown hlk hnm hK hN hT hA hS hP hD hl
  have hown : s.vm.findClass "java/lang/Math" = some m.cls := hown
  have hlk : meth.locks = false := hlk
  have hl : lv_has ls 3 [(0, .int x), (1, .int y)] := hl
  refine lv_iload_n hx hb dJ_floorMod_0 rfl (lv_at hl 0 rfl) ?_
  refine lv_iload_n hx hb dJ_floorMod_1 rfl (lv_at hl 1 rfl) ?_
  refine lv_irem hx hb dJ_floorMod_2 hy ?_
  refine lv_istore_n (lv' := [(2, .int (x - x / y * y)), (0, .int x), (1, .int y)]) hx hb dJ_floorMod_3 rfl hl (by decide) rfl (fun ls hl => ?_)
  refine lv_iload_n hx hb dJ_floorMod_4 rfl (lv_at hl 1 rfl) ?_
  refine lv_iload_n hx hb dJ_floorMod_5 rfl (lv_at hl 2 rfl) ?_
  refine lv_ixor hx hb dJ_floorMod_6 ?_
  refine lv_if_ge (tgt := 18) hx hb dJ_floorMod_7 (by decide) (fun h1 => ?_) (fun h1 => ?_)
  · -- taken at 7
    refine lv_iload_n hx hb dJ_floorMod_18 rfl (lv_at hl 0 rfl) ?_
    exact k_iret hx hb hr hlk hP hD hS dJ_floorMod_19 () (by simp only [fJ_floorMod, if_pos h1]) rfl
  · -- not taken at 7
    refine lv_iload_n hx hb dJ_floorMod_10 rfl (lv_at hl 0 rfl) ?_
    refine lv_if_eq (tgt := 18) hx hb dJ_floorMod_11 (by decide) (fun h2 => ?_) (fun h2 => ?_)
    · -- taken at 11
      refine lv_iload_n hx hb dJ_floorMod_18 rfl (lv_at hl 0 rfl) ?_
      exact k_iret hx hb hr hlk hP hD hS dJ_floorMod_19 () (by simp only [fJ_floorMod, if_neg h1, if_pos h2]) rfl
    · -- not taken at 11
      refine lv_iload_n hx hb dJ_floorMod_14 rfl (lv_at hl 0 rfl) ?_
      refine lv_iload_n hx hb dJ_floorMod_15 rfl (lv_at hl 2 rfl) ?_
      refine lv_iadd hx hb dJ_floorMod_16 ?_
      exact k_iret hx hb hr hlk hP hD hS dJ_floorMod_17 () (by simp only [fJ_floorMod, if_neg h1, if_neg h2]) rfl

def fJ_floorDiv (x : Int32) (y : Int32) : Int32 :=
  if 0 ≤ (x ^^^ y) then
    x / y
  else
    if ((x / y) * y) = x then
      x / y
    else
      (x / y) - (1 : Int32)
set_option maxRecDepth 100000 in
set_option maxHeartbeats 4000000 in
theorem ctJ_floorDiv (l : Launch) (D : va_G) (cZ cI cJ : ClassId) (tL tH : Nat) (sz : Nat)  (x : Int32) (y : Int32)  (hy : ¬ y = 0) : Ct l yJ_floorDiv wJ_floorDiv ({ frames := 0, cells := 0, slots := 0, locals := 0 }) D (tyG cZ cI cJ) tL tH [.int x, .int y] sz [] (fun _ : Unit => some (.int (fJ_floorDiv x y))) (fun _ : Unit => []) 0 0 := by
  refine k_goF (by decide +kernel) (Nat.le_of_ble_eq_true rfl) ?_
  intro p e s m args below meth c A ls H hx hb hr hml hts hown hlk hnm hK hN hT hA hS hP hD hl
  have hown : s.vm.findClass "java/lang/Math" = some m.cls := hown
  have hlk : meth.locks = false := hlk
  have hl : lv_has ls 3 [(0, .int x), (1, .int y)] := hl
  refine lv_iload_n hx hb dJ_floorDiv_0 rfl (lv_at hl 0 rfl) ?_
  refine lv_iload_n hx hb dJ_floorDiv_1 rfl (lv_at hl 1 rfl) ?_
  refine lv_idiv hx hb dJ_floorDiv_2 hy ?_
  refine lv_istore_n (lv' := [(2, .int (x / y)), (0, .int x), (1, .int y)]) hx hb dJ_floorDiv_3 rfl hl (by decide) rfl (fun ls hl => ?_)
  refine lv_iload_n hx hb dJ_floorDiv_4 rfl (lv_at hl 1 rfl) ?_
  refine lv_iload_n hx hb dJ_floorDiv_5 rfl (lv_at hl 2 rfl) ?_
  refine lv_ixor hx hb dJ_floorDiv_6 ?_
  refine lv_if_ge (tgt := 21) hx hb dJ_floorDiv_7 (by decide) (fun h1 => ?_) (fun h1 => ?_)
  · -- taken at 7
    refine lv_iload_n hx hb dJ_floorDiv_21 rfl (lv_at hl 0 rfl) ?_
    exact k_iret hx hb hr hlk hP hD hS dJ_floorDiv_22 () (by simp only [fJ_floorDiv, if_pos h1]) rfl
  · -- not taken at 7
    refine lv_iload_n hx hb dJ_floorDiv_10 rfl (lv_at hl 0 rfl) ?_
    refine lv_iload_n hx hb dJ_floorDiv_11 rfl (lv_at hl 2 rfl) ?_
    refine lv_imul hx hb dJ_floorDiv_12 ?_
    refine lv_iload_n hx hb dJ_floorDiv_13 rfl (lv_at hl 1 rfl) ?_
    refine lv_icmp_eq (tgt := 21) hx hb dJ_floorDiv_14 (by decide) (fun h2 => ?_) (fun h2 => ?_)
    · -- taken at 14
      refine lv_iload_n hx hb dJ_floorDiv_21 rfl (lv_at hl 0 rfl) ?_
      exact k_iret hx hb hr hlk hP hD hS dJ_floorDiv_22 () (by simp only [fJ_floorDiv, if_neg h1, if_pos h2]) rfl
    · -- not taken at 14
      refine lv_iload_n hx hb dJ_floorDiv_17 rfl (lv_at hl 0 rfl) ?_
      refine lv_iconst (v := (1 : Int32)) hx hb dJ_floorDiv_18 (by decide) ?_
      refine lv_isub hx hb dJ_floorDiv_19 ?_
      exact k_iret hx hb hr hlk hP hD hS dJ_floorDiv_20 () (by simp only [fJ_floorDiv, if_neg h1, if_neg h2]) rfl

def fW_lose (wc : WcT) (wh : WhT) : WhT :=
  ((0 : Int32), wh.2.1, wh.2.2.1, (0 : Int64), (-1 : Int32), (-1 : Int32), wh.2.2.2.2.2.2)
set_option maxRecDepth 100000 in
set_option maxHeartbeats 4000000 in
theorem ctW_lose (l : Launch) (D : va_G) (cZ cI cJ : ClassId) (tL tH : Nat) (sz : Nat) (h : Nat) (wc : WcT) (wh : WhT)   : Ct l yW_lose wW_lose ({ frames := 0, cells := 0, slots := 0, locals := 0 }) D (tyG cZ cI cJ) tL tH [.ref h] sz [cWh h wc wh] (fun _ : Unit => none) (fun _ : Unit => [cWh h wc (fW_lose wc wh)]) 0 0 := by
  refine k_go (by decide +kernel) (Nat.le_of_ble_eq_true rfl) ?_
  intro p e s m args below meth c A ls H hx hb hr hml hts hown hlk hnm hK hN hT hA hS hP hD hl
  have hown : s.vm.findClass "ToothWheelTimer$Wheel" = some m.cls := hown
  have hlk : meth.locks = false := hlk
  have hl : lv_has ls 1 [(0, .ref h)] := hl
  refine lv_aload_n hx hb dW_lose_0 rfl (lv_at hl 0 rfl) ?_
  refine lv_iconst (v := (0 : Int32)) hx hb dW_lose_1 (by decide) ?_
  refine pfW_9 hx hb hts hown hN hK hP hD hS 0 rfl (v := .int (0 : Int32)) rfl rfl (Nat.le_of_ble_eq_true rfl) dW_lose_2 (fun H locs hP hD hS => ?_)
  have hP : va_P D vwCl [cWh h wc ((0 : Int32), wh.2.1, wh.2.2.1, wh.2.2.2.1, wh.2.2.2.2.1, wh.2.2.2.2.2.1, wh.2.2.2.2.2.2)] H := hP
  have hD : va_D A [cWh h wc ((0 : Int32), wh.2.1, wh.2.2.1, wh.2.2.2.1, wh.2.2.2.2.1, wh.2.2.2.2.2.1, wh.2.2.2.2.2.2)] := hD
  refine lv_aload_n hx hb dW_lose_5 rfl (lv_at hl 0 rfl) ?_
  refine lv_lconst (v := (0 : Int64)) hx hb dW_lose_6 (by decide) ?_
  refine pfW_23 hx hb hts hown hN hK hP hD hS 0 rfl (v := .long (0 : Int64)) rfl rfl (Nat.le_of_ble_eq_true rfl) dW_lose_7 (fun H locs hP hD hS => ?_)
  have hP : va_P D vwCl [cWh h wc ((0 : Int32), wh.2.1, wh.2.2.1, (0 : Int64), wh.2.2.2.2.1, wh.2.2.2.2.2.1, wh.2.2.2.2.2.2)] H := hP
  have hD : va_D A [cWh h wc ((0 : Int32), wh.2.1, wh.2.2.1, (0 : Int64), wh.2.2.2.2.1, wh.2.2.2.2.2.1, wh.2.2.2.2.2.2)] := hD
  refine lv_aload_n hx hb dW_lose_10 rfl (lv_at hl 0 rfl) ?_
  refine lv_iconst (v := (-1 : Int32)) hx hb dW_lose_11 (by decide) ?_
  refine pfW_26 hx hb hts hown hN hK hP hD hS 0 rfl (v := .int (-1 : Int32)) rfl rfl (Nat.le_of_ble_eq_true rfl) dW_lose_12 (fun H locs hP hD hS => ?_)
  have hP : va_P D vwCl [cWh h wc ((0 : Int32), wh.2.1, wh.2.2.1, (0 : Int64), (-1 : Int32), wh.2.2.2.2.2.1, wh.2.2.2.2.2.2)] H := hP
  have hD : va_D A [cWh h wc ((0 : Int32), wh.2.1, wh.2.2.1, (0 : Int64), (-1 : Int32), wh.2.2.2.2.2.1, wh.2.2.2.2.2.2)] := hD
  refine lv_aload_n hx hb dW_lose_15 rfl (lv_at hl 0 rfl) ?_
  refine lv_iconst (v := (-1 : Int32)) hx hb dW_lose_16 (by decide) ?_
  refine pfW_29 hx hb hts hown hN hK hP hD hS 0 rfl (v := .int (-1 : Int32)) rfl rfl (Nat.le_of_ble_eq_true rfl) dW_lose_17 (fun H locs hP hD hS => ?_)
  have hP : va_P D vwCl [cWh h wc ((0 : Int32), wh.2.1, wh.2.2.1, (0 : Int64), (-1 : Int32), (-1 : Int32), wh.2.2.2.2.2.2)] H := hP
  have hD : va_D A [cWh h wc ((0 : Int32), wh.2.1, wh.2.2.1, (0 : Int64), (-1 : Int32), (-1 : Int32), wh.2.2.2.2.2.2)] := hD
  exact k_vret hx hb hr hlk hP hD hS dW_lose_20 () rfl rfl

def fW_stallTime (wc : WcT) (wh : WhT) : Int64 :=
  wh.2.2.1 + ((5 : Int64) * wh.2.2.2.1)
set_option maxRecDepth 100000 in
set_option maxHeartbeats 4000000 in
theorem ctW_stallTime (l : Launch) (D : va_G) (cZ cI cJ : ClassId) (tL tH : Nat) (sz : Nat) (h : Nat) (wc : WcT) (wh : WhT)   : Ct l yW_stallTime wW_stallTime ({ frames := 0, cells := 0, slots := 0, locals := 0 }) D (tyG cZ cI cJ) tL tH [.ref h] sz [cWh h wc wh] (fun _ : Unit => some (.long (fW_stallTime wc wh))) (fun _ : Unit => [cWh h wc wh]) 0 0 := by
  refine k_go (by decide +kernel) (Nat.le_of_ble_eq_true rfl) ?_
  intro p e s m args below meth c A ls H hx hb hr hml hts hown hlk hnm hK hN hT hA hS hP hD hl
  have hown : s.vm.findClass "ToothWheelTimer$Wheel" = some m.cls := hown
  have hlk : meth.locks = false := hlk
  have hl : lv_has ls 1 [(0, .ref h)] := hl
  refine lv_aload_n hx hb dW_stallTime_0 rfl (lv_at hl 0 rfl) ?_
  refine gfW_19 hx hb hts hown hN hK hP 0 rfl (v := .long wh.2.2.1) rfl dW_stallTime_1 ?_
  refine lv_ldc2 (v := (5 : Int64)) hx hb hown (hts _ (wg wd_320 rfl)) dW_stallTime_4 ?_
  refine lv_aload_n hx hb dW_stallTime_7 rfl (lv_at hl 0 rfl) ?_
  refine gfW_23 hx hb hts hown hN hK hP 0 rfl (v := .long wh.2.2.2.1) rfl dW_stallTime_8 ?_
  refine lv_lmul hx hb dW_stallTime_11 ?_
  refine lv_ladd hx hb dW_stallTime_12 ?_
  exact k_lret hx hb hr hlk hP hD hS dW_stallTime_13 () rfl rfl

def fW_stallsBy (wc : WcT) (wh : WhT) (t : Int64) : Int32 :=
  if wh.2.2.2.1 ≤ (0 : Int64) then
    (0 : Int32)
  else
    let q2 := fW_stallTime wc wh
    if t < q2 then
      (0 : Int32)
    else
      (1 : Int32)
set_option maxRecDepth 100000 in
set_option maxHeartbeats 4000000 in
theorem ctW_stallsBy (l : Launch) (D : va_G) (cZ cI cJ : ClassId) (tL tH : Nat) (sz : Nat) (h : Nat) (wc : WcT) (wh : WhT) (t : Int64)   : Ct l yW_stallsBy wW_stallsBy ({ frames := 1, cells := 0, slots := 0, locals := 20 }) D (tyG cZ cI cJ) tL tH [.ref h, .long t] sz [cWh h wc wh] (fun _ : Unit => some (.int (fW_stallsBy wc wh t))) (fun _ : Unit => [cWh h wc wh]) 0 0 := by
  refine k_go (by decide +kernel) (Nat.le_of_ble_eq_true rfl) ?_
  intro p e s m args below meth c A ls H hx hb hr hml hts hown hlk hnm hK hN hT hA hS hP hD hl
  have hown : s.vm.findClass "ToothWheelTimer$Wheel" = some m.cls := hown
  have hlk : meth.locks = false := hlk
  have hl : lv_has ls 3 [(0, .ref h), (1, .long t)] := hl
  refine lv_aload_n hx hb dW_stallsBy_0 rfl (lv_at hl 0 rfl) ?_
  refine gfW_23 hx hb hts hown hN hK hP 0 rfl (v := .long wh.2.2.2.1) rfl dW_stallsBy_1 ?_
  refine lv_lconst (v := (0 : Int64)) hx hb dW_stallsBy_4 (by decide) ?_
  refine k_lc_le (tgt := 22) hx hb dW_stallsBy_5 dW_stallsBy_6 (by decide) (fun h1 => ?_) (fun h1 => ?_)
  · -- taken at 5
    refine lv_iconst (v := (0 : Int32)) hx hb dW_stallsBy_22 (by decide) ?_
    exact k_zret hx hb hr hlk (zn_b (Or.inl rfl)) hP hD hS dW_stallsBy_23 () (by simp only [fW_stallsBy, if_pos h1]) rfl
  · -- not taken at 5
    refine lv_aload_n hx hb dW_stallsBy_9 rfl (lv_at hl 0 rfl) ?_
    refine k_ca0 (wc := [cWh h wc wh]) (wr := []) (va_runV (As := []) (rest := []) ⟨hx, hb, hml, hown, hts⟩ (ctW_stallTime l D cZ cI cJ tL tH H.size h wc wh) (cwW_73 hts hN rfl rfl ⟨Nat.le_of_ble_eq_true rfl, Nat.le_of_ble_eq_true rfl⟩) (k_preV hK hN hT hA hS hP hD [0] rfl (by decide) 0 rfl rfl) rfl rfl hl.1 rfl (lv_room (Nat.le_of_ble_eq_true rfl)) dW_stallsBy_10 ⟨Nat.zero_le _, Nat.zero_le _⟩) hP hD hS hA [0] [] rfl rfl (by decide) (by decide) (fun _ H locs hP hD hS => ?_)
    refine W.eq (g2 := F0 m 13 ls [.long (fW_stallTime wc wh)]) rfl ?_
    have hP : va_P D vwCl [cWh h wc wh] H := hP
    have hD : va_D A [cWh h wc wh] := hD
    generalize hq2 : fW_stallTime wc wh = q2 at ⊢
    refine lv_lload_n hx hb dW_stallsBy_13 rfl (lv_at hl 1 rfl) ?_
    refine k_lc_gt (tgt := 22) hx hb dW_stallsBy_14 dW_stallsBy_15 (by decide) (fun h3 => ?_) (fun h3 => ?_)
    · -- taken at 14
      refine lv_iconst (v := (0 : Int32)) hx hb dW_stallsBy_22 (by decide) ?_
      exact k_zret hx hb hr hlk (zn_b (Or.inl rfl)) hP hD hS dW_stallsBy_23 () (by simp only [fW_stallsBy, if_neg h1, hq2, if_pos h3]) rfl
    · -- not taken at 14
      refine lv_iconst (v := (1 : Int32)) hx hb dW_stallsBy_18 (by decide) ?_
      refine lv_goto (tgt := 23) hx hb dW_stallsBy_19 (by decide) ?_
      exact k_zret hx hb hr hlk (zn_b (Or.inr rfl)) hP hD hS dW_stallsBy_23 () (by simp only [fW_stallsBy, if_neg h1, hq2, if_neg h3]) rfl

def fW_stand (wc : WcT) (wh : WhT) : WhT :=
  let q1 := fW_lose wc wh
  (q1.1, (0 : Int32), q1.2.2.1, q1.2.2.2.1, q1.2.2.2.2.1, q1.2.2.2.2.2.1, q1.2.2.2.2.2.2)
set_option maxRecDepth 100000 in
set_option maxHeartbeats 4000000 in
theorem ctW_stand (l : Launch) (D : va_G) (cZ cI cJ : ClassId) (tL tH : Nat) (sz : Nat) (h : Nat) (wc : WcT) (wh : WhT)   : Ct l yW_stand wW_stand ({ frames := 1, cells := 0, slots := 0, locals := 20 }) D (tyG cZ cI cJ) tL tH [.ref h] sz [cWh h wc wh] (fun _ : Unit => none) (fun _ : Unit => [cWh h wc (fW_stand wc wh)]) 0 0 := by
  refine k_go (by decide +kernel) (Nat.le_of_ble_eq_true rfl) ?_
  intro p e s m args below meth c A ls H hx hb hr hml hts hown hlk hnm hK hN hT hA hS hP hD hl
  have hown : s.vm.findClass "ToothWheelTimer$Wheel" = some m.cls := hown
  have hlk : meth.locks = false := hlk
  have hl : lv_has ls 1 [(0, .ref h)] := hl
  refine lv_aload_n hx hb dW_stand_0 rfl (lv_at hl 0 rfl) ?_
  refine k_ca0 (wc := [cWh h wc wh]) (wr := []) (va_runV (As := []) (rest := []) ⟨hx, hb, hml, hown, hts⟩ (ctW_lose l D cZ cI cJ tL tH H.size h wc wh) (cwW_56 hts hN rfl rfl ⟨Nat.le_of_ble_eq_true rfl, Nat.le_of_ble_eq_true rfl⟩) (k_preV hK hN hT hA hS hP hD [0] rfl (by decide) 0 rfl rfl) rfl rfl hl.1 rfl (lv_room (Nat.le_of_ble_eq_true rfl)) dW_stand_1 ⟨Nat.zero_le _, Nat.zero_le _⟩) hP hD hS hA [0] [] rfl rfl (by decide) (by decide) (fun _ H locs hP hD hS => ?_)
  refine W.eq (g2 := F0 m 4 ls []) rfl ?_
  have hP : va_P D vwCl [cWh h wc (fW_lose wc wh)] H := hP
  have hD : va_D A [cWh h wc (fW_lose wc wh)] := hD
  generalize hq1 : fW_lose wc wh = q1 at hP hD 
  have hP : va_P D vwCl [cWh h wc q1] H := hP
  have hD : va_D A [cWh h wc q1] := hD
  refine lv_aload_n hx hb dW_stand_4 rfl (lv_at hl 0 rfl) ?_
  refine lv_iconst (v := (0 : Int32)) hx hb dW_stand_5 (by decide) ?_
  refine pfW_15 hx hb hts hown hN hK hP hD hS 0 rfl (v := .int (0 : Int32)) (zn_b (Or.inl rfl)) (zf_b (Or.inl rfl)) (Nat.le_of_ble_eq_true rfl) dW_stand_6 (fun H locs hP hD hS => ?_)
  have hP : va_P D vwCl [cWh h wc (q1.1, (0 : Int32), q1.2.2.1, q1.2.2.2.1, q1.2.2.2.2.1, q1.2.2.2.2.2.1, q1.2.2.2.2.2.2)] H := hP
  have hD : va_D A [cWh h wc (q1.1, (0 : Int32), q1.2.2.1, q1.2.2.2.1, q1.2.2.2.2.1, q1.2.2.2.2.2.1, q1.2.2.2.2.2.2)] := hD
  exact k_vret hx hb hr hlk hP hD hS dW_stand_9 () rfl (by simp only [fW_stand, hq1])

def fW_stepsTo (wc : WcT) (wh : WhT) (a : Int32) : Int32 :=
  let q1 := fJ_floorMod (a - (((wh.2.2.2.2.2.1 * wc.2.1) + wh.2.2.2.2.1) * (64 : Int32))) wc.2.2
  q1
set_option maxRecDepth 100000 in
set_option maxHeartbeats 4000000 in
theorem ctW_stepsTo (l : Launch) (D : va_G) (cZ cI cJ : ClassId) (tL tH : Nat) (sz : Nat) (h : Nat) (wc : WcT) (wh : WhT) (a : Int32)  (hcy : ¬ wc.2.2 = 0) : Ct l yW_stepsTo wW_stepsTo ({ frames := 1, cells := 0, slots := 0, locals := 22 }) D (tyG cZ cI cJ) tL tH [.ref h, .int a] sz [cWh h wc wh] (fun _ : Unit => some (.int (fW_stepsTo wc wh a))) (fun _ : Unit => [cWh h wc wh]) 0 0 := by
  refine k_go (by decide +kernel) (Nat.le_of_ble_eq_true rfl) ?_
  intro p e s m args below meth c A ls H hx hb hr hml hts hown hlk hnm hK hN hT hA hS hP hD hl
  have hown : s.vm.findClass "ToothWheelTimer$Wheel" = some m.cls := hown
  have hlk : meth.locks = false := hlk
  have hl : lv_has ls 3 [(0, .ref h), (1, .int a)] := hl
  refine lv_aload_n hx hb dW_stepsTo_0 rfl (lv_at hl 0 rfl) ?_
  refine gfW_29 hx hb hts hown hN hK hP 0 rfl (v := .int wh.2.2.2.2.2.1) rfl dW_stepsTo_1 ?_
  refine lv_aload_n hx hb dW_stepsTo_4 rfl (lv_at hl 0 rfl) ?_
  refine gfW_35 hx hb hts hown hN hK hP 0 rfl (v := .int wc.2.1) rfl dW_stepsTo_5 ?_
  refine lv_imul hx hb dW_stepsTo_8 ?_
  refine lv_aload_n hx hb dW_stepsTo_9 rfl (lv_at hl 0 rfl) ?_
  refine gfW_26 hx hb hts hown hN hK hP 0 rfl (v := .int wh.2.2.2.2.1) rfl dW_stepsTo_10 ?_
  refine lv_iadd hx hb dW_stepsTo_13 ?_
  refine lv_bipush (v := (64 : Int32)) hx hb dW_stepsTo_14 (by decide) ?_
  refine lv_imul hx hb dW_stepsTo_16 ?_
  refine lv_istore_n (lv' := [(2, .int (((wh.2.2.2.2.2.1 * wc.2.1) + wh.2.2.2.2.1) * (64 : Int32))), (0, .ref h), (1, .int a)]) hx hb dW_stepsTo_17 rfl hl (by decide) rfl (fun ls hl => ?_)
  refine lv_iload_n hx hb dW_stepsTo_18 rfl (lv_at hl 2 rfl) ?_
  refine lv_iload_n hx hb dW_stepsTo_19 rfl (lv_at hl 0 rfl) ?_
  refine lv_isub hx hb dW_stepsTo_20 ?_
  refine lv_aload_n hx hb dW_stepsTo_21 rfl (lv_at hl 1 rfl) ?_
  refine gfW_41 hx hb hts hown hN hK hP 0 rfl (v := .int wc.2.2) rfl dW_stepsTo_22 ?_
  refine k_ca0 (wc := []) (wr := [cWh h wc wh]) (va_runS (As := [.int (a - (((wh.2.2.2.2.2.1 * wc.2.1) + wh.2.2.2.2.1) * (64 : Int32))), .int wc.2.2]) (rest := []) ⟨hx, hb, hml, hown, hts⟩ (ctJ_floorMod l D cZ cI cJ tL tH H.size (a - (((wh.2.2.2.2.2.1 * wc.2.1) + wh.2.2.2.2.1) * (64 : Int32))) wc.2.2 hcy) (cwW_77 hts hN rfl rfl ⟨Nat.le_of_ble_eq_true rfl, Nat.le_of_ble_eq_true rfl⟩) (k_pre hK hN hT hA hS hP hD [] rfl (by decide)) rfl rfl hl.1 rfl (lv_room (Nat.le_of_ble_eq_true rfl)) dW_stepsTo_25 ⟨Nat.zero_le _, Nat.zero_le _⟩) hP hD hS hA [] [0] rfl rfl (by decide) (by decide) (fun _ H locs hP hD hS => ?_)
  refine W.eq (g2 := F0 m 28 ls [.int (fJ_floorMod (a - (((wh.2.2.2.2.2.1 * wc.2.1) + wh.2.2.2.2.1) * (64 : Int32))) wc.2.2)]) rfl ?_
  have hP : va_P D vwCl [cWh h wc wh] H := hP
  have hD : va_D A [cWh h wc wh] := hD
  generalize hq1 : fJ_floorMod (a - (((wh.2.2.2.2.2.1 * wc.2.1) + wh.2.2.2.2.1) * (64 : Int32))) wc.2.2 = q1 at ⊢
  exact k_iret hx hb hr hlk hP hD hS dW_stepsTo_28 () (by simp only [fW_stepsTo, hq1]) rfl

def fW_stepsToNextTooth (wc : WcT) (wh : WhT) : Int32 :=
  if wh.2.2.2.2.1 = wc.1 then
    (192 : Int32)
  else
    (64 : Int32)
set_option maxRecDepth 100000 in
set_option maxHeartbeats 4000000 in
theorem ctW_stepsToNextTooth (l : Launch) (D : va_G) (cZ cI cJ : ClassId) (tL tH : Nat) (sz : Nat) (h : Nat) (wc : WcT) (wh : WhT)   : Ct l yW_stepsToNextTooth wW_stepsToNextTooth ({ frames := 0, cells := 0, slots := 0, locals := 0 }) D (tyG cZ cI cJ) tL tH [.ref h] sz [cWh h wc wh] (fun _ : Unit => some (.int (fW_stepsToNextTooth wc wh))) (fun _ : Unit => [cWh h wc wh]) 0 0 := by
  refine k_go (by decide +kernel) (Nat.le_of_ble_eq_true rfl) ?_
  intro p e s m args below meth c A ls H hx hb hr hml hts hown hlk hnm hK hN hT hA hS hP hD hl
  have hown : s.vm.findClass "ToothWheelTimer$Wheel" = some m.cls := hown
  have hlk : meth.locks = false := hlk
  have hl : lv_has ls 1 [(0, .ref h)] := hl
  refine lv_aload_n hx hb dW_stepsToNextTooth_0 rfl (lv_at hl 0 rfl) ?_
  refine gfW_26 hx hb hts hown hN hK hP 0 rfl (v := .int wh.2.2.2.2.1) rfl dW_stepsToNextTooth_1 ?_
  refine lv_aload_n hx hb dW_stepsToNextTooth_4 rfl (lv_at hl 0 rfl) ?_
  refine gfW_38 hx hb hts hown hN hK hP 0 rfl (v := .int wc.1) rfl dW_stepsToNextTooth_5 ?_
  refine lv_icmp_ne (tgt := 17) hx hb dW_stepsToNextTooth_8 (by decide) (fun h1 => ?_) (fun h1 => ?_)
  · -- taken at 8
    refine lv_bipush (v := (64 : Int32)) hx hb dW_stepsToNextTooth_17 (by decide) ?_
    exact k_iret hx hb hr hlk hP hD hS dW_stepsToNextTooth_19 () (by simp only [fW_stepsToNextTooth, if_neg h1]) rfl
  · -- not taken at 8
    refine lv_sipush (v := (192 : Int32)) hx hb dW_stepsToNextTooth_11 (by decide) ?_
    refine lv_goto (tgt := 19) hx hb dW_stepsToNextTooth_14 (by decide) ?_
    exact k_iret hx hb hr hlk hP hD hS dW_stepsToNextTooth_19 () (by simp only [fW_stepsToNextTooth, if_pos h1]) rfl

def fW_timeOver (wc : WcT) (wh : WhT) (a : Int32) : Int64 :=
  (a.toInt64 * wh.2.2.2.1) / (64 : Int64)
set_option maxRecDepth 100000 in
set_option maxHeartbeats 4000000 in
theorem ctW_timeOver (l : Launch) (D : va_G) (cZ cI cJ : ClassId) (tL tH : Nat) (sz : Nat) (h : Nat) (wc : WcT) (wh : WhT) (a : Int32)   : Ct l yW_timeOver wW_timeOver ({ frames := 0, cells := 0, slots := 0, locals := 0 }) D (tyG cZ cI cJ) tL tH [.ref h, .int a] sz [cWh h wc wh] (fun _ : Unit => some (.long (fW_timeOver wc wh a))) (fun _ : Unit => [cWh h wc wh]) 0 0 := by
  refine k_go (by decide +kernel) (Nat.le_of_ble_eq_true rfl) ?_
  intro p e s m args below meth c A ls H hx hb hr hml hts hown hlk hnm hK hN hT hA hS hP hD hl
  have hown : s.vm.findClass "ToothWheelTimer$Wheel" = some m.cls := hown
  have hlk : meth.locks = false := hlk
  have hl : lv_has ls 2 [(0, .ref h), (1, .int a)] := hl
  refine lv_iload_n hx hb dW_timeOver_0 rfl (lv_at hl 1 rfl) ?_
  refine lv_i2l hx hb dW_timeOver_1 rfl ?_
  refine lv_aload_n hx hb dW_timeOver_2 rfl (lv_at hl 0 rfl) ?_
  refine gfW_23 hx hb hts hown hN hK hP 0 rfl (v := .long wh.2.2.2.1) rfl dW_timeOver_3 ?_
  refine lv_lmul hx hb dW_timeOver_6 ?_
  refine lv_ldc2 (v := (64 : Int64)) hx hb hown (hts _ (wg wd_467 rfl)) dW_timeOver_7 ?_
  refine lv_ldiv hx hb dW_timeOver_10 (by decide) ?_
  exact k_lret hx hb hr hlk hP hD hS dW_timeOver_11 () rfl rfl

def fW_speed (wc : WcT) (wh : WhT) : Int32 :=
  if (0 : Int64) < wh.2.2.2.1 then
    if (1791 : Int64) ≤ ((200000 : Int64) / wh.2.2.2.1) then
      (1791 : Int32)
    else
      ((200000 : Int64) / wh.2.2.2.1).toInt32
  else
    (0 : Int32)
set_option maxRecDepth 100000 in
set_option maxHeartbeats 4000000 in
theorem ctW_speed (l : Launch) (D : va_G) (cZ cI cJ : ClassId) (tL tH : Nat) (sz : Nat) (h : Nat) (wc : WcT) (wh : WhT)   : Ct l yW_speed wW_speed ({ frames := 0, cells := 0, slots := 0, locals := 0 }) D (tyG cZ cI cJ) tL tH [.ref h] sz [cWh h wc wh] (fun _ : Unit => some (.int (fW_speed wc wh))) (fun _ : Unit => [cWh h wc wh]) 0 0 := by
  refine k_go (by decide +kernel) (Nat.le_of_ble_eq_true rfl) ?_
  intro p e s m args below meth c A ls H hx hb hr hml hts hown hlk hnm hK hN hT hA hS hP hD hl
  have hown : s.vm.findClass "ToothWheelTimer$Wheel" = some m.cls := hown
  have hlk : meth.locks = false := hlk
  have hl : lv_has ls 3 [(0, .ref h)] := hl
  refine lv_aload_n hx hb dW_speed_0 rfl (lv_at hl 0 rfl) ?_
  refine gfW_23 hx hb hts hown hN hK hP 0 rfl (v := .long wh.2.2.2.1) rfl dW_speed_1 ?_
  refine lv_lconst (v := (0 : Int64)) hx hb dW_speed_4 (by decide) ?_
  refine k_lc_gt (tgt := 11) hx hb dW_speed_5 dW_speed_6 (by decide) (fun h1 => ?_) (fun h1 => ?_)
  · -- taken at 5
    refine lv_ldc2 (v := (200000 : Int64)) hx hb hown (hts _ (wg wd_383 rfl)) dW_speed_11 ?_
    refine lv_aload_n hx hb dW_speed_14 rfl (lv_at hl 0 rfl) ?_
    refine gfW_23 hx hb hts hown hN hK hP 0 rfl (v := .long wh.2.2.2.1) rfl dW_speed_15 ?_
    refine lv_ldiv hx hb dW_speed_18 (k_pos h1) ?_
    refine lv_lstore_n (lv' := [(1, .long ((200000 : Int64) / wh.2.2.2.1)), (0, .ref h)]) hx hb dW_speed_19 rfl hl (by decide) rfl (fun ls hl => ?_)
    refine lv_lload_n hx hb dW_speed_20 rfl (lv_at hl 0 rfl) ?_
    refine lv_ldc2 (v := (1791 : Int64)) hx hb hown (hts _ (wg wd_384 rfl)) dW_speed_21 ?_
    refine k_lc_ge (tgt := 33) hx hb dW_speed_24 dW_speed_25 (by decide) (fun h2 => ?_) (fun h2 => ?_)
    · -- taken at 24
      refine lv_sipush (v := (1791 : Int32)) hx hb dW_speed_33 (by decide) ?_
      exact k_iret hx hb hr hlk hP hD hS dW_speed_36 () (by simp only [fW_speed, if_pos h1, if_pos h2]) rfl
    · -- not taken at 24
      refine lv_lload_n hx hb dW_speed_28 rfl (lv_at hl 0 rfl) ?_
      refine lv_l2i hx hb dW_speed_29 rfl ?_
      refine lv_goto (tgt := 36) hx hb dW_speed_30 (by decide) ?_
      exact k_iret hx hb hr hlk hP hD hS dW_speed_36 () (by simp only [fW_speed, if_pos h1, if_neg h2]) rfl
  · -- not taken at 5
    refine lv_iconst (v := (0 : Int32)) hx hb dW_speed_9 (by decide) ?_
    exact k_iret hx hb hr hlk hP hD hS dW_speed_10 () (by simp only [fW_speed, if_neg h1]) rfl

def fW_roundAfterGap (wc : WcT) (wh : WhT) : Int32 :=
  if wh.2.2.2.2.2.1 = (-1 : Int32) then
    (-1 : Int32)
  else
    if wh.2.2.2.2.2.1 = 0 then
      if wh.2.2.2.2.2.2 = 0 then
        (-1 : Int32)
      else
        (1 : Int32) - wh.2.2.2.2.2.1
    else
      (1 : Int32) - wh.2.2.2.2.2.1
set_option maxRecDepth 100000 in
set_option maxHeartbeats 4000000 in
theorem ctW_roundAfterGap (l : Launch) (D : va_G) (cZ cI cJ : ClassId) (tL tH : Nat) (sz : Nat) (h : Nat) (wc : WcT) (wh : WhT)   : Ct l yW_roundAfterGap wW_roundAfterGap ({ frames := 0, cells := 0, slots := 0, locals := 0 }) D (tyG cZ cI cJ) tL tH [.ref h] sz [cWh h wc wh] (fun _ : Unit => some (.int (fW_roundAfterGap wc wh))) (fun _ : Unit => [cWh h wc wh]) 0 0 := by
  refine k_go (by decide +kernel) (Nat.le_of_ble_eq_true rfl) ?_
  intro p e s m args below meth c A ls H hx hb hr hml hts hown hlk hnm hK hN hT hA hS hP hD hl
  have hown : s.vm.findClass "ToothWheelTimer$Wheel" = some m.cls := hown
  have hlk : meth.locks = false := hlk
  have hl : lv_has ls 1 [(0, .ref h)] := hl
  refine lv_aload_n hx hb dW_roundAfterGap_0 rfl (lv_at hl 0 rfl) ?_
  refine gfW_29 hx hb hts hown hN hK hP 0 rfl (v := .int wh.2.2.2.2.2.1) rfl dW_roundAfterGap_1 ?_
  refine lv_iconst (v := (-1 : Int32)) hx hb dW_roundAfterGap_4 (by decide) ?_
  refine lv_icmp_eq (tgt := 22) hx hb dW_roundAfterGap_5 (by decide) (fun h1 => ?_) (fun h1 => ?_)
  · -- taken at 5
    refine lv_iconst (v := (-1 : Int32)) hx hb dW_roundAfterGap_22 (by decide) ?_
    exact k_iret hx hb hr hlk hP hD hS dW_roundAfterGap_23 () (by simp only [fW_roundAfterGap, if_pos h1]) rfl
  · -- not taken at 5
    refine lv_aload_n hx hb dW_roundAfterGap_8 rfl (lv_at hl 0 rfl) ?_
    refine gfW_29 hx hb hts hown hN hK hP 0 rfl (v := .int wh.2.2.2.2.2.1) rfl dW_roundAfterGap_9 ?_
    refine lv_if_ne (tgt := 24) hx hb dW_roundAfterGap_12 (by decide) (fun h2 => ?_) (fun h2 => ?_)
    · -- taken at 12
      refine lv_iconst (v := (1 : Int32)) hx hb dW_roundAfterGap_24 (by decide) ?_
      refine lv_aload_n hx hb dW_roundAfterGap_25 rfl (lv_at hl 0 rfl) ?_
      refine gfW_29 hx hb hts hown hN hK hP 0 rfl (v := .int wh.2.2.2.2.2.1) rfl dW_roundAfterGap_26 ?_
      refine lv_isub hx hb dW_roundAfterGap_29 ?_
      exact k_iret hx hb hr hlk hP hD hS dW_roundAfterGap_30 () (by simp only [fW_roundAfterGap, if_neg h1, if_neg h2]) rfl
    · -- not taken at 12
      refine lv_aload_n hx hb dW_roundAfterGap_15 rfl (lv_at hl 0 rfl) ?_
      refine gfW_32 hx hb hts hown hN hK hP 0 rfl (v := .int wh.2.2.2.2.2.2) rfl dW_roundAfterGap_16 ?_
      refine lv_if_ne (tgt := 24) hx hb dW_roundAfterGap_19 (by decide) (fun h3 => ?_) (fun h3 => ?_)
      · -- taken at 19
        refine lv_iconst (v := (1 : Int32)) hx hb dW_roundAfterGap_24 (by decide) ?_
        refine lv_aload_n hx hb dW_roundAfterGap_25 rfl (lv_at hl 0 rfl) ?_
        refine gfW_29 hx hb hts hown hN hK hP 0 rfl (v := .int wh.2.2.2.2.2.1) rfl dW_roundAfterGap_26 ?_
        refine lv_isub hx hb dW_roundAfterGap_29 ?_
        exact k_iret hx hb hr hlk hP hD hS dW_roundAfterGap_30 () (by simp only [fW_roundAfterGap, if_neg h1, if_pos h2, if_neg h3]) rfl
      · -- not taken at 19
        refine lv_iconst (v := (-1 : Int32)) hx hb dW_roundAfterGap_22 (by decide) ?_
        exact k_iret hx hb hr hlk hP hD hS dW_roundAfterGap_23 () (by simp only [fW_roundAfterGap, if_neg h1, if_pos h2, if_pos h3]) rfl

def fW_passGap (wc : WcT) (wh : WhT) (gone : Int64) : WhT :=
  let q1 := fJ_maxJ (1 : Int64) (gone / (3 : Int64))
  if wh.2.2.2.2.1 = wc.1 then
    let q3 := fW_roundAfterGap wc (wh.1, wh.2.1, wh.2.2.1, q1, wh.2.2.2.2.1, wh.2.2.2.2.2.1, wh.2.2.2.2.2.2)
    ((3 : Int32), wh.2.1, wh.2.2.1, q1, (0 : Int32), q3, (0 : Int32))
  else
    ((2 : Int32), wh.2.1, wh.2.2.1, q1, (0 : Int32), (-1 : Int32), (0 : Int32))
set_option maxRecDepth 100000 in
set_option maxHeartbeats 4000000 in
theorem ctW_passGap (l : Launch) (D : va_G) (cZ cI cJ : ClassId) (tL tH : Nat) (sz : Nat) (h : Nat) (wc : WcT) (wh : WhT) (gone : Int64)   : Ct l yW_passGap wW_passGap ({ frames := 1, cells := 0, slots := 0, locals := 23 }) D (tyG cZ cI cJ) tL tH [.ref h, .long gone] sz [cWh h wc wh] (fun _ : Unit => none) (fun _ : Unit => [cWh h wc (fW_passGap wc wh gone)]) 0 0 := by
  refine k_go (by decide +kernel) (Nat.le_of_ble_eq_true rfl) ?_
  intro p e s m args below meth c A ls H hx hb hr hml hts hown hlk hnm hK hN hT hA hS hP hD hl
  have hown : s.vm.findClass "ToothWheelTimer$Wheel" = some m.cls := hown
  have hlk : meth.locks = false := hlk
  have hl : lv_has ls 4 [(0, .ref h), (1, .long gone)] := hl
  refine lv_aload_n hx hb dW_passGap_0 rfl (lv_at hl 0 rfl) ?_
  refine lv_lconst (v := (1 : Int64)) hx hb dW_passGap_1 (by decide) ?_
  refine lv_lload_n hx hb dW_passGap_2 rfl (lv_at hl 1 rfl) ?_
  refine lv_ldc2 (v := (3 : Int64)) hx hb hown (hts _ (wg wd_428 rfl)) dW_passGap_3 ?_
  refine lv_ldiv hx hb dW_passGap_6 (by decide) ?_
  refine k_ca0 (wc := []) (wr := [cWh h wc wh]) (va_runS (As := [.long (1 : Int64), .long (gone / (3 : Int64))]) (rest := [.ref h]) ⟨hx, hb, hml, hown, hts⟩ (ctJ_maxJ l D cZ cI cJ tL tH H.size (1 : Int64) (gone / (3 : Int64))) (cwW_61 hts hN rfl rfl ⟨Nat.le_of_ble_eq_true rfl, Nat.le_of_ble_eq_true rfl⟩) (k_pre hK hN hT hA hS hP hD [] rfl (by decide)) rfl rfl hl.1 rfl (lv_room (Nat.le_of_ble_eq_true rfl)) dW_passGap_7 ⟨Nat.zero_le _, Nat.zero_le _⟩) hP hD hS hA [] [0] rfl rfl (by decide) (by decide) (fun _ H locs hP hD hS => ?_)
  refine W.eq (g2 := F0 m 10 ls [.long (fJ_maxJ (1 : Int64) (gone / (3 : Int64))), .ref h]) rfl ?_
  have hP : va_P D vwCl [cWh h wc wh] H := hP
  have hD : va_D A [cWh h wc wh] := hD
  generalize hq1 : fJ_maxJ (1 : Int64) (gone / (3 : Int64)) = q1 at ⊢
  refine pfW_23 hx hb hts hown hN hK hP hD hS 0 rfl (v := .long q1) rfl rfl (Nat.le_of_ble_eq_true rfl) dW_passGap_10 (fun H locs hP hD hS => ?_)
  have hP : va_P D vwCl [cWh h wc (wh.1, wh.2.1, wh.2.2.1, q1, wh.2.2.2.2.1, wh.2.2.2.2.2.1, wh.2.2.2.2.2.2)] H := hP
  have hD : va_D A [cWh h wc (wh.1, wh.2.1, wh.2.2.1, q1, wh.2.2.2.2.1, wh.2.2.2.2.2.1, wh.2.2.2.2.2.2)] := hD
  refine lv_aload_n hx hb dW_passGap_13 rfl (lv_at hl 0 rfl) ?_
  refine gfW_26 hx hb hts hown hN hK hP 0 rfl (v := .int wh.2.2.2.2.1) rfl dW_passGap_14 ?_
  refine lv_aload_n hx hb dW_passGap_17 rfl (lv_at hl 0 rfl) ?_
  refine gfW_38 hx hb hts hown hN hK hP 0 rfl (v := .int wc.1) rfl dW_passGap_18 ?_
  refine lv_icmp_ne (tgt := 28) hx hb dW_passGap_21 (by decide) (fun h2 => ?_) (fun h2 => ?_)
  · -- taken at 21
    refine lv_iconst (v := (0 : Int32)) hx hb dW_passGap_28 (by decide) ?_
    refine lv_istore_n (lv' := [(3, .int (0 : Int32)), (0, .ref h), (1, .long gone)]) hx hb dW_passGap_29 rfl hl (by decide) rfl (fun ls hl => ?_)
    refine lv_aload_n hx hb dW_passGap_30 rfl (lv_at hl 1 rfl) ?_
    refine lv_iload_n hx hb dW_passGap_31 rfl (lv_at hl 0 rfl) ?_
    refine lv_if_eq (tgt := 42) hx hb dW_passGap_32 (by decide) (fun _ => ?_) (fun h0 => absurd (by decide) h0)
    refine lv_iconst (v := (-1 : Int32)) hx hb dW_passGap_42 (by decide) ?_
    refine pfW_29 hx hb hts hown hN hK hP hD hS 0 rfl (v := .int (-1 : Int32)) rfl rfl (Nat.le_of_ble_eq_true rfl) dW_passGap_43 (fun H locs hP hD hS => ?_)
    have hP : va_P D vwCl [cWh h wc (wh.1, wh.2.1, wh.2.2.1, q1, wh.2.2.2.2.1, (-1 : Int32), wh.2.2.2.2.2.2)] H := hP
    have hD : va_D A [cWh h wc (wh.1, wh.2.1, wh.2.2.1, q1, wh.2.2.2.2.1, (-1 : Int32), wh.2.2.2.2.2.2)] := hD
    refine lv_aload_n hx hb dW_passGap_46 rfl (lv_at hl 1 rfl) ?_
    refine lv_iload_n hx hb dW_passGap_47 rfl (lv_at hl 0 rfl) ?_
    refine lv_if_eq (tgt := 55) hx hb dW_passGap_48 (by decide) (fun _ => ?_) (fun h0 => absurd (by decide) h0)
    refine lv_iconst (v := (2 : Int32)) hx hb dW_passGap_55 (by decide) ?_
    refine pfW_9 hx hb hts hown hN hK hP hD hS 0 rfl (v := .int (2 : Int32)) rfl rfl (Nat.le_of_ble_eq_true rfl) dW_passGap_56 (fun H locs hP hD hS => ?_)
    have hP : va_P D vwCl [cWh h wc ((2 : Int32), wh.2.1, wh.2.2.1, q1, wh.2.2.2.2.1, (-1 : Int32), wh.2.2.2.2.2.2)] H := hP
    have hD : va_D A [cWh h wc ((2 : Int32), wh.2.1, wh.2.2.1, q1, wh.2.2.2.2.1, (-1 : Int32), wh.2.2.2.2.2.2)] := hD
    refine lv_aload_n hx hb dW_passGap_59 rfl (lv_at hl 1 rfl) ?_
    refine lv_iconst (v := (0 : Int32)) hx hb dW_passGap_60 (by decide) ?_
    refine pfW_26 hx hb hts hown hN hK hP hD hS 0 rfl (v := .int (0 : Int32)) rfl rfl (Nat.le_of_ble_eq_true rfl) dW_passGap_61 (fun H locs hP hD hS => ?_)
    have hP : va_P D vwCl [cWh h wc ((2 : Int32), wh.2.1, wh.2.2.1, q1, (0 : Int32), (-1 : Int32), wh.2.2.2.2.2.2)] H := hP
    have hD : va_D A [cWh h wc ((2 : Int32), wh.2.1, wh.2.2.1, q1, (0 : Int32), (-1 : Int32), wh.2.2.2.2.2.2)] := hD
    refine lv_aload_n hx hb dW_passGap_64 rfl (lv_at hl 1 rfl) ?_
    refine lv_iconst (v := (0 : Int32)) hx hb dW_passGap_65 (by decide) ?_
    refine pfW_32 hx hb hts hown hN hK hP hD hS 0 rfl (v := .int (0 : Int32)) (zn_b (Or.inl rfl)) (zf_b (Or.inl rfl)) (Nat.le_of_ble_eq_true rfl) dW_passGap_66 (fun H locs hP hD hS => ?_)
    have hP : va_P D vwCl [cWh h wc ((2 : Int32), wh.2.1, wh.2.2.1, q1, (0 : Int32), (-1 : Int32), (0 : Int32))] H := hP
    have hD : va_D A [cWh h wc ((2 : Int32), wh.2.1, wh.2.2.1, q1, (0 : Int32), (-1 : Int32), (0 : Int32))] := hD
    exact k_vret hx hb hr hlk hP hD hS dW_passGap_69 () rfl (by simp only [fW_passGap, hq1, if_neg h2])
  · -- not taken at 21
    refine lv_iconst (v := (1 : Int32)) hx hb dW_passGap_24 (by decide) ?_
    refine lv_goto (tgt := 29) hx hb dW_passGap_25 (by decide) ?_
    refine lv_istore_n (lv' := [(3, .int (1 : Int32)), (0, .ref h), (1, .long gone)]) hx hb dW_passGap_29 rfl hl (by decide) rfl (fun ls hl => ?_)
    refine lv_aload_n hx hb dW_passGap_30 rfl (lv_at hl 1 rfl) ?_
    refine lv_iload_n hx hb dW_passGap_31 rfl (lv_at hl 0 rfl) ?_
    refine lv_if_eq (tgt := 42) hx hb dW_passGap_32 (by decide) (fun h0 => absurd h0 (by decide)) (fun _ => ?_)
    refine lv_aload_n hx hb dW_passGap_35 rfl (lv_at hl 1 rfl) ?_
    refine k_ca0 (wc := [cWh h wc (wh.1, wh.2.1, wh.2.2.1, q1, wh.2.2.2.2.1, wh.2.2.2.2.2.1, wh.2.2.2.2.2.2)]) (wr := []) (va_runV (As := []) (rest := [.ref h]) ⟨hx, hb, hml, hown, hts⟩ (ctW_roundAfterGap l D cZ cI cJ tL tH H.size h wc (wh.1, wh.2.1, wh.2.2.1, q1, wh.2.2.2.2.1, wh.2.2.2.2.2.1, wh.2.2.2.2.2.2)) (cwW_67 hts hN rfl rfl ⟨Nat.le_of_ble_eq_true rfl, Nat.le_of_ble_eq_true rfl⟩) (k_preV hK hN hT hA hS hP hD [0] rfl (by decide) 0 rfl rfl) rfl rfl hl.1 rfl (lv_room (Nat.le_of_ble_eq_true rfl)) dW_passGap_36 ⟨Nat.zero_le _, Nat.zero_le _⟩) hP hD hS hA [0] [] rfl rfl (by decide) (by decide) (fun _ H locs hP hD hS => ?_)
    refine W.eq (g2 := F0 m 39 ls [.int (fW_roundAfterGap wc (wh.1, wh.2.1, wh.2.2.1, q1, wh.2.2.2.2.1, wh.2.2.2.2.2.1, wh.2.2.2.2.2.2)), .ref h]) rfl ?_
    have hP : va_P D vwCl [cWh h wc (wh.1, wh.2.1, wh.2.2.1, q1, wh.2.2.2.2.1, wh.2.2.2.2.2.1, wh.2.2.2.2.2.2)] H := hP
    have hD : va_D A [cWh h wc (wh.1, wh.2.1, wh.2.2.1, q1, wh.2.2.2.2.1, wh.2.2.2.2.2.1, wh.2.2.2.2.2.2)] := hD
    generalize hq3 : fW_roundAfterGap wc (wh.1, wh.2.1, wh.2.2.1, q1, wh.2.2.2.2.1, wh.2.2.2.2.2.1, wh.2.2.2.2.2.2) = q3 at ⊢
    refine lv_goto (tgt := 43) hx hb dW_passGap_39 (by decide) ?_
    refine pfW_29 hx hb hts hown hN hK hP hD hS 0 rfl (v := .int q3) rfl rfl (Nat.le_of_ble_eq_true rfl) dW_passGap_43 (fun H locs hP hD hS => ?_)
    have hP : va_P D vwCl [cWh h wc (wh.1, wh.2.1, wh.2.2.1, q1, wh.2.2.2.2.1, q3, wh.2.2.2.2.2.2)] H := hP
    have hD : va_D A [cWh h wc (wh.1, wh.2.1, wh.2.2.1, q1, wh.2.2.2.2.1, q3, wh.2.2.2.2.2.2)] := hD
    refine lv_aload_n hx hb dW_passGap_46 rfl (lv_at hl 1 rfl) ?_
    refine lv_iload_n hx hb dW_passGap_47 rfl (lv_at hl 0 rfl) ?_
    refine lv_if_eq (tgt := 55) hx hb dW_passGap_48 (by decide) (fun h0 => absurd h0 (by decide)) (fun _ => ?_)
    refine lv_iconst (v := (3 : Int32)) hx hb dW_passGap_51 (by decide) ?_
    refine lv_goto (tgt := 56) hx hb dW_passGap_52 (by decide) ?_
    refine pfW_9 hx hb hts hown hN hK hP hD hS 0 rfl (v := .int (3 : Int32)) rfl rfl (Nat.le_of_ble_eq_true rfl) dW_passGap_56 (fun H locs hP hD hS => ?_)
    have hP : va_P D vwCl [cWh h wc ((3 : Int32), wh.2.1, wh.2.2.1, q1, wh.2.2.2.2.1, q3, wh.2.2.2.2.2.2)] H := hP
    have hD : va_D A [cWh h wc ((3 : Int32), wh.2.1, wh.2.2.1, q1, wh.2.2.2.2.1, q3, wh.2.2.2.2.2.2)] := hD
    refine lv_aload_n hx hb dW_passGap_59 rfl (lv_at hl 1 rfl) ?_
    refine lv_iconst (v := (0 : Int32)) hx hb dW_passGap_60 (by decide) ?_
    refine pfW_26 hx hb hts hown hN hK hP hD hS 0 rfl (v := .int (0 : Int32)) rfl rfl (Nat.le_of_ble_eq_true rfl) dW_passGap_61 (fun H locs hP hD hS => ?_)
    have hP : va_P D vwCl [cWh h wc ((3 : Int32), wh.2.1, wh.2.2.1, q1, (0 : Int32), q3, wh.2.2.2.2.2.2)] H := hP
    have hD : va_D A [cWh h wc ((3 : Int32), wh.2.1, wh.2.2.1, q1, (0 : Int32), q3, wh.2.2.2.2.2.2)] := hD
    refine lv_aload_n hx hb dW_passGap_64 rfl (lv_at hl 1 rfl) ?_
    refine lv_iconst (v := (0 : Int32)) hx hb dW_passGap_65 (by decide) ?_
    refine pfW_32 hx hb hts hown hN hK hP hD hS 0 rfl (v := .int (0 : Int32)) (zn_b (Or.inl rfl)) (zf_b (Or.inl rfl)) (Nat.le_of_ble_eq_true rfl) dW_passGap_66 (fun H locs hP hD hS => ?_)
    have hP : va_P D vwCl [cWh h wc ((3 : Int32), wh.2.1, wh.2.2.1, q1, (0 : Int32), q3, (0 : Int32))] H := hP
    have hD : va_D A [cWh h wc ((3 : Int32), wh.2.1, wh.2.2.1, q1, (0 : Int32), q3, (0 : Int32))] := hD
    exact k_vret hx hb hr hlk hP hD hS dW_passGap_69 () rfl (by simp only [fW_passGap, hq1, if_pos h2, hq3])

def fW_passPlain (wc : WcT) (wh : WhT) (gone : Int64) : WhT :=
  if wh.1 = (1 : Int32) then
    (wh.1, wh.2.1, wh.2.2.1, gone, wh.2.2.2.2.1, wh.2.2.2.2.2.1, wh.2.2.2.2.2.2)
  else
    if wc.1 ≤ wh.2.2.2.2.1 then
      ((1 : Int32), wh.2.1, wh.2.2.1, gone, (-1 : Int32), (-1 : Int32), wh.2.2.2.2.2.2)
    else
      (wh.1, wh.2.1, wh.2.2.1, gone, wh.2.2.2.2.1 + (1 : Int32), wh.2.2.2.2.2.1, wh.2.2.2.2.2.2)
set_option maxRecDepth 100000 in
set_option maxHeartbeats 4000000 in
theorem ctW_passPlain (l : Launch) (D : va_G) (cZ cI cJ : ClassId) (tL tH : Nat) (sz : Nat) (h : Nat) (wc : WcT) (wh : WhT) (gone : Int64)   : Ct l yW_passPlain wW_passPlain ({ frames := 0, cells := 0, slots := 0, locals := 0 }) D (tyG cZ cI cJ) tL tH [.ref h, .long gone] sz [cWh h wc wh] (fun _ : Unit => none) (fun _ : Unit => [cWh h wc (fW_passPlain wc wh gone)]) 0 0 := by
  refine k_go (by decide +kernel) (Nat.le_of_ble_eq_true rfl) ?_
  intro p e s m args below meth c A ls H hx hb hr hml hts hown hlk hnm hK hN hT hA hS hP hD hl
  have hown : s.vm.findClass "ToothWheelTimer$Wheel" = some m.cls := hown
  have hlk : meth.locks = false := hlk
  have hl : lv_has ls 3 [(0, .ref h), (1, .long gone)] := hl
  refine lv_aload_n hx hb dW_passPlain_0 rfl (lv_at hl 0 rfl) ?_
  refine lv_lload_n hx hb dW_passPlain_1 rfl (lv_at hl 1 rfl) ?_
  refine pfW_23 hx hb hts hown hN hK hP hD hS 0 rfl (v := .long gone) rfl rfl (Nat.le_of_ble_eq_true rfl) dW_passPlain_2 (fun H locs hP hD hS => ?_)
  have hP : va_P D vwCl [cWh h wc (wh.1, wh.2.1, wh.2.2.1, gone, wh.2.2.2.2.1, wh.2.2.2.2.2.1, wh.2.2.2.2.2.2)] H := hP
  have hD : va_D A [cWh h wc (wh.1, wh.2.1, wh.2.2.1, gone, wh.2.2.2.2.1, wh.2.2.2.2.2.1, wh.2.2.2.2.2.2)] := hD
  refine lv_aload_n hx hb dW_passPlain_5 rfl (lv_at hl 0 rfl) ?_
  refine gfW_9 hx hb hts hown hN hK hP 0 rfl (v := .int wh.1) rfl dW_passPlain_6 ?_
  refine lv_iconst (v := (1 : Int32)) hx hb dW_passPlain_9 (by decide) ?_
  refine lv_icmp_ne (tgt := 14) hx hb dW_passPlain_10 (by decide) (fun h1 => ?_) (fun h1 => ?_)
  · -- taken at 10
    refine lv_aload_n hx hb dW_passPlain_14 rfl (lv_at hl 0 rfl) ?_
    refine gfW_26 hx hb hts hown hN hK hP 0 rfl (v := .int wh.2.2.2.2.1) rfl dW_passPlain_15 ?_
    refine lv_aload_n hx hb dW_passPlain_18 rfl (lv_at hl 0 rfl) ?_
    refine gfW_38 hx hb hts hown hN hK hP 0 rfl (v := .int wc.1) rfl dW_passPlain_19 ?_
    refine lv_icmp_ge (tgt := 38) hx hb dW_passPlain_22 (by decide) (fun h2 => ?_) (fun h2 => ?_)
    · -- taken at 22
      refine lv_aload_n hx hb dW_passPlain_38 rfl (lv_at hl 0 rfl) ?_
      refine lv_iconst (v := (1 : Int32)) hx hb dW_passPlain_39 (by decide) ?_
      refine pfW_9 hx hb hts hown hN hK hP hD hS 0 rfl (v := .int (1 : Int32)) rfl rfl (Nat.le_of_ble_eq_true rfl) dW_passPlain_40 (fun H locs hP hD hS => ?_)
      have hP : va_P D vwCl [cWh h wc ((1 : Int32), wh.2.1, wh.2.2.1, gone, wh.2.2.2.2.1, wh.2.2.2.2.2.1, wh.2.2.2.2.2.2)] H := hP
      have hD : va_D A [cWh h wc ((1 : Int32), wh.2.1, wh.2.2.1, gone, wh.2.2.2.2.1, wh.2.2.2.2.2.1, wh.2.2.2.2.2.2)] := hD
      refine lv_aload_n hx hb dW_passPlain_43 rfl (lv_at hl 0 rfl) ?_
      refine lv_iconst (v := (-1 : Int32)) hx hb dW_passPlain_44 (by decide) ?_
      refine pfW_26 hx hb hts hown hN hK hP hD hS 0 rfl (v := .int (-1 : Int32)) rfl rfl (Nat.le_of_ble_eq_true rfl) dW_passPlain_45 (fun H locs hP hD hS => ?_)
      have hP : va_P D vwCl [cWh h wc ((1 : Int32), wh.2.1, wh.2.2.1, gone, (-1 : Int32), wh.2.2.2.2.2.1, wh.2.2.2.2.2.2)] H := hP
      have hD : va_D A [cWh h wc ((1 : Int32), wh.2.1, wh.2.2.1, gone, (-1 : Int32), wh.2.2.2.2.2.1, wh.2.2.2.2.2.2)] := hD
      refine lv_aload_n hx hb dW_passPlain_48 rfl (lv_at hl 0 rfl) ?_
      refine lv_iconst (v := (-1 : Int32)) hx hb dW_passPlain_49 (by decide) ?_
      refine pfW_29 hx hb hts hown hN hK hP hD hS 0 rfl (v := .int (-1 : Int32)) rfl rfl (Nat.le_of_ble_eq_true rfl) dW_passPlain_50 (fun H locs hP hD hS => ?_)
      have hP : va_P D vwCl [cWh h wc ((1 : Int32), wh.2.1, wh.2.2.1, gone, (-1 : Int32), (-1 : Int32), wh.2.2.2.2.2.2)] H := hP
      have hD : va_D A [cWh h wc ((1 : Int32), wh.2.1, wh.2.2.1, gone, (-1 : Int32), (-1 : Int32), wh.2.2.2.2.2.2)] := hD
      exact k_vret hx hb hr hlk hP hD hS dW_passPlain_53 () rfl (by simp only [fW_passPlain, if_neg h1, if_pos h2])
    · -- not taken at 22
      refine lv_aload_n hx hb dW_passPlain_25 rfl (lv_at hl 0 rfl) ?_
      refine lv_dup hx hb dW_passPlain_26 rfl ?_
      refine gfW_26 hx hb hts hown hN hK hP 0 rfl (v := .int wh.2.2.2.2.1) rfl dW_passPlain_27 ?_
      refine lv_iconst (v := (1 : Int32)) hx hb dW_passPlain_30 (by decide) ?_
      refine lv_iadd hx hb dW_passPlain_31 ?_
      refine pfW_26 hx hb hts hown hN hK hP hD hS 0 rfl (v := .int (wh.2.2.2.2.1 + (1 : Int32))) rfl rfl (Nat.le_of_ble_eq_true rfl) dW_passPlain_32 (fun H locs hP hD hS => ?_)
      have hP : va_P D vwCl [cWh h wc (wh.1, wh.2.1, wh.2.2.1, gone, wh.2.2.2.2.1 + (1 : Int32), wh.2.2.2.2.2.1, wh.2.2.2.2.2.2)] H := hP
      have hD : va_D A [cWh h wc (wh.1, wh.2.1, wh.2.2.1, gone, wh.2.2.2.2.1 + (1 : Int32), wh.2.2.2.2.2.1, wh.2.2.2.2.2.2)] := hD
      refine lv_goto (tgt := 53) hx hb dW_passPlain_35 (by decide) ?_
      exact k_vret hx hb hr hlk hP hD hS dW_passPlain_53 () rfl (by simp only [fW_passPlain, if_neg h1, if_neg h2])
  · -- not taken at 10
    exact k_vret hx hb hr hlk hP hD hS dW_passPlain_13 () rfl (by simp only [fW_passPlain, if_pos h1])

def fW_measure (wc : WcT) (wh : WhT) (gone : Int64) : WhT :=
  if wh.1 = 0 then
    ((1 : Int32), wh.2.1, wh.2.2.1, gone, wh.2.2.2.2.1, wh.2.2.2.2.2.1, wh.2.2.2.2.2.2)
  else
    if gone < ((2 : Int64) * wh.2.2.2.1) then
      if ((2 : Int64) * gone) ≤ wh.2.2.2.1 then
        let q4 := fW_lose wc wh
        q4
      else
        let q5 := fW_passPlain wc wh gone
        q5
    else
      let q6 := fW_passGap wc wh gone
      q6
set_option maxRecDepth 100000 in
set_option maxHeartbeats 4000000 in
theorem ctW_measure (l : Launch) (D : va_G) (cZ cI cJ : ClassId) (tL tH : Nat) (sz : Nat) (h : Nat) (wc : WcT) (wh : WhT) (gone : Int64)   : Ct l yW_measure wW_measure ({ frames := 2, cells := 0, slots := 0, locals := 46 }) D (tyG cZ cI cJ) tL tH [.ref h, .long gone] sz [cWh h wc wh] (fun _ : Unit => none) (fun _ : Unit => [cWh h wc (fW_measure wc wh gone)]) 0 0 := by
  refine k_go (by decide +kernel) (Nat.le_of_ble_eq_true rfl) ?_
  intro p e s m args below meth c A ls H hx hb hr hml hts hown hlk hnm hK hN hT hA hS hP hD hl
  have hown : s.vm.findClass "ToothWheelTimer$Wheel" = some m.cls := hown
  have hlk : meth.locks = false := hlk
  have hl : lv_has ls 3 [(0, .ref h), (1, .long gone)] := hl
  refine lv_aload_n hx hb dW_measure_0 rfl (lv_at hl 0 rfl) ?_
  refine gfW_9 hx hb hts hown hN hK hP 0 rfl (v := .int wh.1) rfl dW_measure_1 ?_
  refine lv_if_ne (tgt := 20) hx hb dW_measure_4 (by decide) (fun h1 => ?_) (fun h1 => ?_)
  · -- taken at 4
    refine lv_lload_n hx hb dW_measure_20 rfl (lv_at hl 1 rfl) ?_
    refine lv_ldc2 (v := (2 : Int64)) hx hb hown (hts _ (wg wd_423 rfl)) dW_measure_21 ?_
    refine lv_aload_n hx hb dW_measure_24 rfl (lv_at hl 0 rfl) ?_
    refine gfW_23 hx hb hts hown hN hK hP 0 rfl (v := .long wh.2.2.2.1) rfl dW_measure_25 ?_
    refine lv_lmul hx hb dW_measure_28 ?_
    refine k_lc_lt (tgt := 41) hx hb dW_measure_29 dW_measure_30 (by decide) (fun h2 => ?_) (fun h2 => ?_)
    · -- taken at 29
      refine lv_ldc2 (v := (2 : Int64)) hx hb hown (hts _ (wg wd_423 rfl)) dW_measure_41 ?_
      refine lv_lload_n hx hb dW_measure_44 rfl (lv_at hl 1 rfl) ?_
      refine lv_lmul hx hb dW_measure_45 ?_
      refine lv_aload_n hx hb dW_measure_46 rfl (lv_at hl 0 rfl) ?_
      refine gfW_23 hx hb hts hown hN hK hP 0 rfl (v := .long wh.2.2.2.1) rfl dW_measure_47 ?_
      refine k_lc_le (tgt := 62) hx hb dW_measure_50 dW_measure_51 (by decide) (fun h3 => ?_) (fun h3 => ?_)
      · -- taken at 50
        refine lv_aload_n hx hb dW_measure_62 rfl (lv_at hl 0 rfl) ?_
        refine k_ca0 (wc := [cWh h wc wh]) (wr := []) (va_runV (As := []) (rest := []) ⟨hx, hb, hml, hown, hts⟩ (ctW_lose l D cZ cI cJ tL tH H.size h wc wh) (cwW_56 hts hN rfl rfl ⟨Nat.le_of_ble_eq_true rfl, Nat.le_of_ble_eq_true rfl⟩) (k_preV hK hN hT hA hS hP hD [0] rfl (by decide) 0 rfl rfl) rfl rfl hl.1 rfl (lv_room (Nat.le_of_ble_eq_true rfl)) dW_measure_63 ⟨Nat.zero_le _, Nat.zero_le _⟩) hP hD hS hA [0] [] rfl rfl (by decide) (by decide) (fun _ H locs hP hD hS => ?_)
        refine W.eq (g2 := F0 m 66 ls []) rfl ?_
        have hP : va_P D vwCl [cWh h wc (fW_lose wc wh)] H := hP
        have hD : va_D A [cWh h wc (fW_lose wc wh)] := hD
        generalize hq4 : fW_lose wc wh = q4 at hP hD 
        have hP : va_P D vwCl [cWh h wc q4] H := hP
        have hD : va_D A [cWh h wc q4] := hD
        exact k_vret hx hb hr hlk hP hD hS dW_measure_66 () rfl (by simp only [fW_measure, if_neg h1, if_pos h2, if_pos h3, hq4])
      · -- not taken at 50
        refine lv_aload_n hx hb dW_measure_54 rfl (lv_at hl 0 rfl) ?_
        refine lv_lload_n hx hb dW_measure_55 rfl (lv_at hl 1 rfl) ?_
        refine k_ca0 (wc := [cWh h wc wh]) (wr := []) (va_runV (As := [.long gone]) (rest := []) ⟨hx, hb, hml, hown, hts⟩ (ctW_passPlain l D cZ cI cJ tL tH H.size h wc wh gone) (cwW_53 hts hN rfl rfl ⟨Nat.le_of_ble_eq_true rfl, Nat.le_of_ble_eq_true rfl⟩) (k_preV hK hN hT hA hS hP hD [0] rfl (by decide) 0 rfl rfl) rfl rfl hl.1 rfl (lv_room (Nat.le_of_ble_eq_true rfl)) dW_measure_56 ⟨Nat.zero_le _, Nat.zero_le _⟩) hP hD hS hA [0] [] rfl rfl (by decide) (by decide) (fun _ H locs hP hD hS => ?_)
        refine W.eq (g2 := F0 m 59 ls []) rfl ?_
        have hP : va_P D vwCl [cWh h wc (fW_passPlain wc wh gone)] H := hP
        have hD : va_D A [cWh h wc (fW_passPlain wc wh gone)] := hD
        generalize hq5 : fW_passPlain wc wh gone = q5 at hP hD 
        have hP : va_P D vwCl [cWh h wc q5] H := hP
        have hD : va_D A [cWh h wc q5] := hD
        refine lv_goto (tgt := 66) hx hb dW_measure_59 (by decide) ?_
        exact k_vret hx hb hr hlk hP hD hS dW_measure_66 () rfl (by simp only [fW_measure, if_neg h1, if_pos h2, if_neg h3, hq5])
    · -- not taken at 29
      refine lv_aload_n hx hb dW_measure_33 rfl (lv_at hl 0 rfl) ?_
      refine lv_lload_n hx hb dW_measure_34 rfl (lv_at hl 1 rfl) ?_
      refine k_ca0 (wc := [cWh h wc wh]) (wr := []) (va_runV (As := [.long gone]) (rest := []) ⟨hx, hb, hml, hown, hts⟩ (ctW_passGap l D cZ cI cJ tL tH H.size h wc wh gone) (cwW_50 hts hN rfl rfl ⟨Nat.le_of_ble_eq_true rfl, Nat.le_of_ble_eq_true rfl⟩) (k_preV hK hN hT hA hS hP hD [0] rfl (by decide) 0 rfl rfl) rfl rfl hl.1 rfl (lv_room (Nat.le_of_ble_eq_true rfl)) dW_measure_35 ⟨Nat.zero_le _, Nat.zero_le _⟩) hP hD hS hA [0] [] rfl rfl (by decide) (by decide) (fun _ H locs hP hD hS => ?_)
      refine W.eq (g2 := F0 m 38 ls []) rfl ?_
      have hP : va_P D vwCl [cWh h wc (fW_passGap wc wh gone)] H := hP
      have hD : va_D A [cWh h wc (fW_passGap wc wh gone)] := hD
      generalize hq6 : fW_passGap wc wh gone = q6 at hP hD 
      have hP : va_P D vwCl [cWh h wc q6] H := hP
      have hD : va_D A [cWh h wc q6] := hD
      refine lv_goto (tgt := 66) hx hb dW_measure_38 (by decide) ?_
      exact k_vret hx hb hr hlk hP hD hS dW_measure_66 () rfl (by simp only [fW_measure, if_neg h1, if_neg h2, hq6])
  · -- not taken at 4
    refine lv_aload_n hx hb dW_measure_7 rfl (lv_at hl 0 rfl) ?_
    refine lv_lload_n hx hb dW_measure_8 rfl (lv_at hl 1 rfl) ?_
    refine pfW_23 hx hb hts hown hN hK hP hD hS 0 rfl (v := .long gone) rfl rfl (Nat.le_of_ble_eq_true rfl) dW_measure_9 (fun H locs hP hD hS => ?_)
    have hP : va_P D vwCl [cWh h wc (wh.1, wh.2.1, wh.2.2.1, gone, wh.2.2.2.2.1, wh.2.2.2.2.2.1, wh.2.2.2.2.2.2)] H := hP
    have hD : va_D A [cWh h wc (wh.1, wh.2.1, wh.2.2.1, gone, wh.2.2.2.2.1, wh.2.2.2.2.2.1, wh.2.2.2.2.2.2)] := hD
    refine lv_aload_n hx hb dW_measure_12 rfl (lv_at hl 0 rfl) ?_
    refine lv_iconst (v := (1 : Int32)) hx hb dW_measure_13 (by decide) ?_
    refine pfW_9 hx hb hts hown hN hK hP hD hS 0 rfl (v := .int (1 : Int32)) rfl rfl (Nat.le_of_ble_eq_true rfl) dW_measure_14 (fun H locs hP hD hS => ?_)
    have hP : va_P D vwCl [cWh h wc ((1 : Int32), wh.2.1, wh.2.2.1, gone, wh.2.2.2.2.1, wh.2.2.2.2.2.1, wh.2.2.2.2.2.2)] H := hP
    have hD : va_D A [cWh h wc ((1 : Int32), wh.2.1, wh.2.2.1, gone, wh.2.2.2.2.1, wh.2.2.2.2.2.1, wh.2.2.2.2.2.2)] := hD
    refine lv_goto (tgt := 66) hx hb dW_measure_17 (by decide) ?_
    exact k_vret hx hb hr hlk hP hD hS dW_measure_66 () rfl (by simp only [fW_measure, if_pos h1])

def fW_meetTooth (wc : WcT) (wh : WhT) (t : Int64) : WhT :=
  if wh.2.1 = 0 then
    (wh.1, (1 : Int32), t, wh.2.2.2.1, wh.2.2.2.2.1, wh.2.2.2.2.2.1, wh.2.2.2.2.2.2)
  else
    let q2 := fW_measure wc wh (t - wh.2.2.1)
    (q2.1, (1 : Int32), t, q2.2.2.2.1, q2.2.2.2.2.1, q2.2.2.2.2.2.1, q2.2.2.2.2.2.2)
set_option maxRecDepth 100000 in
set_option maxHeartbeats 4000000 in
theorem ctW_meetTooth (l : Launch) (D : va_G) (cZ cI cJ : ClassId) (tL tH : Nat) (sz : Nat) (h : Nat) (wc : WcT) (wh : WhT) (t : Int64)   : Ct l yW_meetTooth wW_meetTooth ({ frames := 3, cells := 0, slots := 0, locals := 68 }) D (tyG cZ cI cJ) tL tH [.ref h, .long t] sz [cWh h wc wh] (fun _ : Unit => none) (fun _ : Unit => [cWh h wc (fW_meetTooth wc wh t)]) 0 0 := by
  refine k_go (by decide +kernel) (Nat.le_of_ble_eq_true rfl) ?_
  intro p e s m args below meth c A ls H hx hb hr hml hts hown hlk hnm hK hN hT hA hS hP hD hl
  have hown : s.vm.findClass "ToothWheelTimer$Wheel" = some m.cls := hown
  have hlk : meth.locks = false := hlk
  have hl : lv_has ls 3 [(0, .ref h), (1, .long t)] := hl
  refine lv_aload_n hx hb dW_meetTooth_0 rfl (lv_at hl 0 rfl) ?_
  refine gfW_15 hx hb hts hown hN hK hP 0 rfl (v := .int wh.2.1) rfl dW_meetTooth_1 ?_
  refine lv_if_eq (tgt := 17) hx hb dW_meetTooth_4 (by decide) (fun h1 => ?_) (fun h1 => ?_)
  · -- taken at 4
    refine lv_aload_n hx hb dW_meetTooth_17 rfl (lv_at hl 0 rfl) ?_
    refine lv_iconst (v := (1 : Int32)) hx hb dW_meetTooth_18 (by decide) ?_
    refine pfW_15 hx hb hts hown hN hK hP hD hS 0 rfl (v := .int (1 : Int32)) (zn_b (Or.inr rfl)) (zf_b (Or.inr rfl)) (Nat.le_of_ble_eq_true rfl) dW_meetTooth_19 (fun H locs hP hD hS => ?_)
    have hP : va_P D vwCl [cWh h wc (wh.1, (1 : Int32), wh.2.2.1, wh.2.2.2.1, wh.2.2.2.2.1, wh.2.2.2.2.2.1, wh.2.2.2.2.2.2)] H := hP
    have hD : va_D A [cWh h wc (wh.1, (1 : Int32), wh.2.2.1, wh.2.2.2.1, wh.2.2.2.2.1, wh.2.2.2.2.2.1, wh.2.2.2.2.2.2)] := hD
    refine lv_aload_n hx hb dW_meetTooth_22 rfl (lv_at hl 0 rfl) ?_
    refine lv_lload_n hx hb dW_meetTooth_23 rfl (lv_at hl 1 rfl) ?_
    refine pfW_19 hx hb hts hown hN hK hP hD hS 0 rfl (v := .long t) rfl rfl (Nat.le_of_ble_eq_true rfl) dW_meetTooth_24 (fun H locs hP hD hS => ?_)
    have hP : va_P D vwCl [cWh h wc (wh.1, (1 : Int32), t, wh.2.2.2.1, wh.2.2.2.2.1, wh.2.2.2.2.2.1, wh.2.2.2.2.2.2)] H := hP
    have hD : va_D A [cWh h wc (wh.1, (1 : Int32), t, wh.2.2.2.1, wh.2.2.2.2.1, wh.2.2.2.2.2.1, wh.2.2.2.2.2.2)] := hD
    exact k_vret hx hb hr hlk hP hD hS dW_meetTooth_27 () rfl (by simp only [fW_meetTooth, if_pos h1])
  · -- not taken at 4
    refine lv_aload_n hx hb dW_meetTooth_7 rfl (lv_at hl 0 rfl) ?_
    refine lv_lload_n hx hb dW_meetTooth_8 rfl (lv_at hl 1 rfl) ?_
    refine lv_aload_n hx hb dW_meetTooth_9 rfl (lv_at hl 0 rfl) ?_
    refine gfW_19 hx hb hts hown hN hK hP 0 rfl (v := .long wh.2.2.1) rfl dW_meetTooth_10 ?_
    refine lv_lsub hx hb dW_meetTooth_13 ?_
    refine k_ca0 (wc := [cWh h wc wh]) (wr := []) (va_runV (As := [.long (t - wh.2.2.1)]) (rest := []) ⟨hx, hb, hml, hown, hts⟩ (ctW_measure l D cZ cI cJ tL tH H.size h wc wh (t - wh.2.2.1)) (cwW_44 hts hN rfl rfl ⟨Nat.le_of_ble_eq_true rfl, Nat.le_of_ble_eq_true rfl⟩) (k_preV hK hN hT hA hS hP hD [0] rfl (by decide) 0 rfl rfl) rfl rfl hl.1 rfl (lv_room (Nat.le_of_ble_eq_true rfl)) dW_meetTooth_14 ⟨Nat.zero_le _, Nat.zero_le _⟩) hP hD hS hA [0] [] rfl rfl (by decide) (by decide) (fun _ H locs hP hD hS => ?_)
    refine W.eq (g2 := F0 m 17 ls []) rfl ?_
    have hP : va_P D vwCl [cWh h wc (fW_measure wc wh (t - wh.2.2.1))] H := hP
    have hD : va_D A [cWh h wc (fW_measure wc wh (t - wh.2.2.1))] := hD
    generalize hq2 : fW_measure wc wh (t - wh.2.2.1) = q2 at hP hD 
    have hP : va_P D vwCl [cWh h wc q2] H := hP
    have hD : va_D A [cWh h wc q2] := hD
    refine lv_aload_n hx hb dW_meetTooth_17 rfl (lv_at hl 0 rfl) ?_
    refine lv_iconst (v := (1 : Int32)) hx hb dW_meetTooth_18 (by decide) ?_
    refine pfW_15 hx hb hts hown hN hK hP hD hS 0 rfl (v := .int (1 : Int32)) (zn_b (Or.inr rfl)) (zf_b (Or.inr rfl)) (Nat.le_of_ble_eq_true rfl) dW_meetTooth_19 (fun H locs hP hD hS => ?_)
    have hP : va_P D vwCl [cWh h wc (q2.1, (1 : Int32), q2.2.2.1, q2.2.2.2.1, q2.2.2.2.2.1, q2.2.2.2.2.2.1, q2.2.2.2.2.2.2)] H := hP
    have hD : va_D A [cWh h wc (q2.1, (1 : Int32), q2.2.2.1, q2.2.2.2.1, q2.2.2.2.2.1, q2.2.2.2.2.2.1, q2.2.2.2.2.2.2)] := hD
    refine lv_aload_n hx hb dW_meetTooth_22 rfl (lv_at hl 0 rfl) ?_
    refine lv_lload_n hx hb dW_meetTooth_23 rfl (lv_at hl 1 rfl) ?_
    refine pfW_19 hx hb hts hown hN hK hP hD hS 0 rfl (v := .long t) rfl rfl (Nat.le_of_ble_eq_true rfl) dW_meetTooth_24 (fun H locs hP hD hS => ?_)
    have hP : va_P D vwCl [cWh h wc (q2.1, (1 : Int32), t, q2.2.2.2.1, q2.2.2.2.2.1, q2.2.2.2.2.2.1, q2.2.2.2.2.2.2)] H := hP
    have hD : va_D A [cWh h wc (q2.1, (1 : Int32), t, q2.2.2.2.1, q2.2.2.2.2.1, q2.2.2.2.2.2.1, q2.2.2.2.2.2.2)] := hD
    exact k_vret hx hb hr hlk hP hD hS dW_meetTooth_27 () rfl (by simp only [fW_meetTooth, if_neg h1, hq2])

def fW_meetCam (wc : WcT) (wh : WhT) : WhT :=
  if wh.1 = (3 : Int32) then
    if wh.2.2.2.2.2.1 = (1 : Int32) then
      (wh.1, wh.2.1, wh.2.2.1, wh.2.2.2.1, wh.2.2.2.2.1, (-1 : Int32), (1 : Int32))
    else
      (wh.1, wh.2.1, wh.2.2.1, wh.2.2.2.1, wh.2.2.2.2.1, (0 : Int32), (1 : Int32))
  else
    wh
set_option maxRecDepth 100000 in
set_option maxHeartbeats 4000000 in
theorem ctW_meetCam (l : Launch) (D : va_G) (cZ cI cJ : ClassId) (tL tH : Nat) (sz : Nat) (h : Nat) (wc : WcT) (wh : WhT)   : Ct l yW_meetCam wW_meetCam ({ frames := 0, cells := 0, slots := 0, locals := 0 }) D (tyG cZ cI cJ) tL tH [.ref h] sz [cWh h wc wh] (fun _ : Unit => none) (fun _ : Unit => [cWh h wc (fW_meetCam wc wh)]) 0 0 := by
  refine k_go (by decide +kernel) (Nat.le_of_ble_eq_true rfl) ?_
  intro p e s m args below meth c A ls H hx hb hr hml hts hown hlk hnm hK hN hT hA hS hP hD hl
  have hown : s.vm.findClass "ToothWheelTimer$Wheel" = some m.cls := hown
  have hlk : meth.locks = false := hlk
  have hl : lv_has ls 1 [(0, .ref h)] := hl
  refine lv_aload_n hx hb dW_meetCam_0 rfl (lv_at hl 0 rfl) ?_
  refine gfW_9 hx hb hts hown hN hK hP 0 rfl (v := .int wh.1) rfl dW_meetCam_1 ?_
  refine lv_iconst (v := (3 : Int32)) hx hb dW_meetCam_4 (by decide) ?_
  refine lv_icmp_ne (tgt := 30) hx hb dW_meetCam_5 (by decide) (fun h1 => ?_) (fun h1 => ?_)
  · -- taken at 5
    exact k_vret hx hb hr hlk hP hD hS dW_meetCam_30 () rfl (by simp only [fW_meetCam, if_neg h1])
  · -- not taken at 5
    refine lv_aload_n hx hb dW_meetCam_8 rfl (lv_at hl 0 rfl) ?_
    refine lv_aload_n hx hb dW_meetCam_9 rfl (lv_at hl 0 rfl) ?_
    refine gfW_29 hx hb hts hown hN hK hP 0 rfl (v := .int wh.2.2.2.2.2.1) rfl dW_meetCam_10 ?_
    refine lv_iconst (v := (1 : Int32)) hx hb dW_meetCam_13 (by decide) ?_
    refine lv_icmp_ne (tgt := 21) hx hb dW_meetCam_14 (by decide) (fun h2 => ?_) (fun h2 => ?_)
    · -- taken at 14
      refine lv_iconst (v := (0 : Int32)) hx hb dW_meetCam_21 (by decide) ?_
      refine pfW_29 hx hb hts hown hN hK hP hD hS 0 rfl (v := .int (0 : Int32)) rfl rfl (Nat.le_of_ble_eq_true rfl) dW_meetCam_22 (fun H locs hP hD hS => ?_)
      have hP : va_P D vwCl [cWh h wc (wh.1, wh.2.1, wh.2.2.1, wh.2.2.2.1, wh.2.2.2.2.1, (0 : Int32), wh.2.2.2.2.2.2)] H := hP
      have hD : va_D A [cWh h wc (wh.1, wh.2.1, wh.2.2.1, wh.2.2.2.1, wh.2.2.2.2.1, (0 : Int32), wh.2.2.2.2.2.2)] := hD
      refine lv_aload_n hx hb dW_meetCam_25 rfl (lv_at hl 0 rfl) ?_
      refine lv_iconst (v := (1 : Int32)) hx hb dW_meetCam_26 (by decide) ?_
      refine pfW_32 hx hb hts hown hN hK hP hD hS 0 rfl (v := .int (1 : Int32)) (zn_b (Or.inr rfl)) (zf_b (Or.inr rfl)) (Nat.le_of_ble_eq_true rfl) dW_meetCam_27 (fun H locs hP hD hS => ?_)
      have hP : va_P D vwCl [cWh h wc (wh.1, wh.2.1, wh.2.2.1, wh.2.2.2.1, wh.2.2.2.2.1, (0 : Int32), (1 : Int32))] H := hP
      have hD : va_D A [cWh h wc (wh.1, wh.2.1, wh.2.2.1, wh.2.2.2.1, wh.2.2.2.2.1, (0 : Int32), (1 : Int32))] := hD
      exact k_vret hx hb hr hlk hP hD hS dW_meetCam_30 () rfl (by simp only [fW_meetCam, if_pos h1, if_neg h2])
    · -- not taken at 14
      refine lv_iconst (v := (-1 : Int32)) hx hb dW_meetCam_17 (by decide) ?_
      refine lv_goto (tgt := 22) hx hb dW_meetCam_18 (by decide) ?_
      refine pfW_29 hx hb hts hown hN hK hP hD hS 0 rfl (v := .int (-1 : Int32)) rfl rfl (Nat.le_of_ble_eq_true rfl) dW_meetCam_22 (fun H locs hP hD hS => ?_)
      have hP : va_P D vwCl [cWh h wc (wh.1, wh.2.1, wh.2.2.1, wh.2.2.2.1, wh.2.2.2.2.1, (-1 : Int32), wh.2.2.2.2.2.2)] H := hP
      have hD : va_D A [cWh h wc (wh.1, wh.2.1, wh.2.2.1, wh.2.2.2.1, wh.2.2.2.2.1, (-1 : Int32), wh.2.2.2.2.2.2)] := hD
      refine lv_aload_n hx hb dW_meetCam_25 rfl (lv_at hl 0 rfl) ?_
      refine lv_iconst (v := (1 : Int32)) hx hb dW_meetCam_26 (by decide) ?_
      refine pfW_32 hx hb hts hown hN hK hP hD hS 0 rfl (v := .int (1 : Int32)) (zn_b (Or.inr rfl)) (zf_b (Or.inr rfl)) (Nat.le_of_ble_eq_true rfl) dW_meetCam_27 (fun H locs hP hD hS => ?_)
      have hP : va_P D vwCl [cWh h wc (wh.1, wh.2.1, wh.2.2.1, wh.2.2.2.1, wh.2.2.2.2.1, (-1 : Int32), (1 : Int32))] H := hP
      have hD : va_D A [cWh h wc (wh.1, wh.2.1, wh.2.2.1, wh.2.2.2.1, wh.2.2.2.2.1, (-1 : Int32), (1 : Int32))] := hD
      exact k_vret hx hb hr hlk hP hD hS dW_meetCam_30 () rfl (by simp only [fW_meetCam, if_pos h1, if_pos h2])

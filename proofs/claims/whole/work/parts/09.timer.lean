/-! ToothWheelTimer, its small methods: written by program (wip/whole/gen/specs4.py) -/
theorem k_out3 {x : Int32} (h0 : ¬ x = (0 : Int32)) (h1 : ¬ x = (1 : Int32)) (h2 : ¬ x = (2 : Int32)) (h3 : ¬ x = (3 : Int32)) : x.toInt < 0 ∨ 3 < x.toInt := by
  have g0 := lv_neT (a := 0) h0 (by decide)
  have g1 := lv_neT (a := 1) h1 (by decide)
  have g2 := lv_neT (a := 2) h2 (by decide)
  have g3 := lv_neT (a := 3) h3 (by decide)
  omega
theorem k_nIc {x : Int32} {n : Nat} (h : vp_in x n) : x = nI x.toNatClampNeg := by
  have h1 : ¬ x < 0 := fun z => h (Or.inl z)
  obtain ⟨j, hj, rfl⟩ := nI_of h1
  rw [nI_clamp hj]
theorem k_lt {x : Int32} {n : Nat} (h : vp_in x n) : x.toNatClampNeg < n := Nat.lt_of_not_le (fun z => h (Or.inr z))
theorem k_dm {p k : Nat} {n : Nat} (h : p < n) : p / k * k + p % k < n := by
  have := Nat.div_add_mod p k
  rw [Nat.mul_comm] at this
  omega
def fT_within (x : Int32) (lo : Int32) (hi : Int32) : Int32 :=
  let q1 := fJ_min hi x
  let q2 := fJ_maxI lo q1
  q2
set_option maxRecDepth 100000 in
set_option maxHeartbeats 4000000 in
theorem ctT_within (l : Launch) (D : va_G) (cZ cI cJ : ClassId) (tL tH : Nat) (sz : Nat)  (x : Int32) (lo : Int32) (hi : Int32)   : Ct l yT_within wT_within ({ frames := 1, cells := 0, slots := 0, locals := 21 }) D (tyG cZ cI cJ) tL tH [.int x, .int lo, .int hi] sz [] (fun _ : Unit => some (.int (fT_within x lo hi))) (fun _ : Unit => []) 0 0 := by
  refine k_go (by decide +kernel) (Nat.le_of_ble_eq_true rfl) ?_
  intro p e s m args below meth c A ls H hx hb hr hml hts hown hlk hnm hK hN hT hA hS hP hD hl
  have hown : s.vm.findClass "ToothWheelTimer" = some m.cls := hown
  have hlk : meth.locks = false := hlk
  have hl : lv_has ls 3 [(0, .int x), (1, .int lo), (2, .int hi)] := hl
  refine lv_iload_n hx hb dT_within_0 rfl (lv_at hl 1 rfl) ?_
  refine lv_iload_n hx hb dT_within_1 rfl (lv_at hl 2 rfl) ?_
  refine lv_iload_n hx hb dT_within_2 rfl (lv_at hl 0 rfl) ?_
  refine k_ca0 (wc := []) (wr := []) (va_runS (As := [.int hi, .int x]) (rest := [.int lo]) ⟨hx, hb, hml, hown, hts⟩ (ctJ_min l D cZ cI cJ tL tH H.size hi x) (cwT_184 hts hN rfl rfl ⟨Nat.le_of_ble_eq_true rfl, Nat.le_of_ble_eq_true rfl⟩) (k_pre hK hN hT hA hS hP hD [] rfl (by decide)) rfl rfl hl.1 rfl (lv_room (Nat.le_of_ble_eq_true rfl)) dT_within_3 ⟨Nat.zero_le _, Nat.zero_le _⟩) hP hD hS hA [] [] rfl rfl (by decide) (by decide) (fun _ H locs hP hD hS => ?_)
  refine W.eq (g2 := F0 m 6 ls [.int (fJ_min hi x), .int lo]) rfl ?_
  have hP : va_P D vwCl [] H := hP
  have hD : va_D A [] := hD
  generalize hq1 : fJ_min hi x = q1 at ⊢
  refine k_ca0 (wc := []) (wr := []) (va_runS (As := [.int lo, .int q1]) (rest := []) ⟨hx, hb, hml, hown, hts⟩ (ctJ_maxI l D cZ cI cJ tL tH H.size lo q1) (cwT_189 hts hN rfl rfl ⟨Nat.le_of_ble_eq_true rfl, Nat.le_of_ble_eq_true rfl⟩) (k_pre hK hN hT hA hS hP hD [] rfl (by decide)) rfl rfl hl.1 rfl (lv_room (Nat.le_of_ble_eq_true rfl)) dT_within_6 ⟨Nat.zero_le _, Nat.zero_le _⟩) hP hD hS hA [] [] rfl rfl (by decide) (by decide) (fun _ H locs hP hD hS => ?_)
  refine W.eq (g2 := F0 m 9 ls [.int (fJ_maxI lo q1)]) rfl ?_
  have hP : va_P D vwCl [] H := hP
  have hD : va_D A [] := hD
  generalize hq2 : fJ_maxI lo q1 = q2 at ⊢
  exact k_iret hx hb hr hlk hP hD hS dT_within_9 () (by simp only [fT_within, hq1, hq2]) rfl

def fT_canFollow (x : Int32) : Int32 :=
  if x < (1 : Int32) then
    (0 : Int32)
  else
    if (1000000 : Int32) < x then
      (0 : Int32)
    else
      (1 : Int32)
set_option maxRecDepth 100000 in
set_option maxHeartbeats 4000000 in
theorem ctT_canFollow (l : Launch) (D : va_G) (cZ cI cJ : ClassId) (tL tH : Nat) (sz : Nat)  (x : Int32)   : Ct l yT_canFollow wT_canFollow ({ frames := 0, cells := 0, slots := 0, locals := 0 }) D (tyG cZ cI cJ) tL tH [.int x] sz [] (fun _ : Unit => some (.int (fT_canFollow x))) (fun _ : Unit => []) 0 0 := by
  refine k_go (by decide +kernel) (Nat.le_of_ble_eq_true rfl) ?_
  intro p e s m args below meth c A ls H hx hb hr hml hts hown hlk hnm hK hN hT hA hS hP hD hl
  have hown : s.vm.findClass "ToothWheelTimer" = some m.cls := hown
  have hlk : meth.locks = false := hlk
  have hl : lv_has ls 1 [(0, .int x)] := hl
  refine lv_iload_n hx hb dT_canFollow_0 rfl (lv_at hl 0 rfl) ?_
  refine lv_iconst (v := (1 : Int32)) hx hb dT_canFollow_1 (by decide) ?_
  refine lv_icmp_lt (tgt := 15) hx hb dT_canFollow_2 (by decide) (fun h1 => ?_) (fun h1 => ?_)
  · -- taken at 2
    refine lv_iconst (v := (0 : Int32)) hx hb dT_canFollow_15 (by decide) ?_
    exact k_zret hx hb hr hlk (zn_b (Or.inl rfl)) hP hD hS dT_canFollow_16 () (by simp only [fT_canFollow, if_pos h1]) rfl
  · -- not taken at 2
    refine lv_iload_n hx hb dT_canFollow_5 rfl (lv_at hl 0 rfl) ?_
    refine lv_ldc (v := (1000000 : Int32)) hx hb hown (hts _ (wg wd_303 rfl)) dT_canFollow_6 ?_
    refine lv_icmp_gt (tgt := 15) hx hb dT_canFollow_8 (by decide) (fun h2 => ?_) (fun h2 => ?_)
    · -- taken at 8
      refine lv_iconst (v := (0 : Int32)) hx hb dT_canFollow_15 (by decide) ?_
      exact k_zret hx hb hr hlk (zn_b (Or.inl rfl)) hP hD hS dT_canFollow_16 () (by simp only [fT_canFollow, if_neg h1, if_pos h2]) rfl
    · -- not taken at 8
      refine lv_iconst (v := (1 : Int32)) hx hb dT_canFollow_11 (by decide) ?_
      refine lv_goto (tgt := 16) hx hb dT_canFollow_12 (by decide) ?_
      exact k_zret hx hb hr hlk (zn_b (Or.inr rfl)) hP hD hS dT_canFollow_16 () (by simp only [fT_canFollow, if_neg h1, if_neg h2]) rfl


set_option maxRecDepth 100000 in
set_option maxHeartbeats 4000000 in
theorem ctT_chartOf0 (l : Launch) (D : va_G) (cZ cI cJ : ClassId) (tL tH : Nat) (sz : Nat) (ad : Nat → Nat) (k : Nat) (wc : WcT) (tc : TcT) (tm : TmT) (wh : WhT) (ag : AgT) (pn : PnT) (ca : ChT) (cf : ChT) (sl : SnT) (sh : SnT) (n : Int32)  (hk : 0 < k ∧ k ≤ 6) (hcy : ¬ wc.2.2 = 0) (hn : n = 0) : Ct l yT_chartOf wT_chartOf ({ frames := 0, cells := 0, slots := 0, locals := 0 }) D (tyG cZ cI cJ) tL tH [.ref (ad 0), .int n] sz [cTm ad k tc tm, cWh (ad 1) wc wh, cAg (ad 2) (ad 3) (ad 4) (ad 5) k ag, cZa cZ (ad 3) (5 * k) ag.1, cJa cJ (ad 4) (5 * k) ag.2.1, cIa cI (ad 5) (5 * k) ag.2.2.1, cPn (ad 6) (ad 7) pn, cJa cJ (ad 7) 16 pn.1, cCh (ad 8) (ad 9) (2047 : Int32), cIa cI (ad 9) 64 ca, cCh (ad 10) (ad 11) (32000 : Int32), cIa cI (ad 11) 64 cf, cSn (ad 12) tL (ad 13) (400 : Int32) sl, cJa cJ (ad 13) 3 sl.2.2.2.2, cSn (ad 14) tH (ad 15) (80 : Int32) sh, cJa cJ (ad 15) 3 sh.2.2.2.2] (fun _ : Unit => some (.ref (ad 8))) (fun _ : Unit => [cTm ad k tc tm, cWh (ad 1) wc wh, cAg (ad 2) (ad 3) (ad 4) (ad 5) k ag, cZa cZ (ad 3) (5 * k) ag.1, cJa cJ (ad 4) (5 * k) ag.2.1, cIa cI (ad 5) (5 * k) ag.2.2.1, cPn (ad 6) (ad 7) pn, cJa cJ (ad 7) 16 pn.1, cCh (ad 8) (ad 9) (2047 : Int32), cIa cI (ad 9) 64 ca, cCh (ad 10) (ad 11) (32000 : Int32), cIa cI (ad 11) 64 cf, cSn (ad 12) tL (ad 13) (400 : Int32) sl, cJa cJ (ad 13) 3 sl.2.2.2.2, cSn (ad 14) tH (ad 15) (80 : Int32) sh, cJa cJ (ad 15) 3 sh.2.2.2.2]) 0 0 := by
  refine k_go (by decide +kernel) (Nat.le_of_ble_eq_true rfl) ?_
  intro p e s m args below meth c A ls H hx hb hr hml hts hown hlk hnm hK hN hT hA hS hP hD hl
  have hown : s.vm.findClass "ToothWheelTimer" = some m.cls := hown
  have hlk : meth.locks = false := hlk
  have hl : lv_has ls 2 [(0, .ref (ad 0)), (1, .int n)] := hl
  refine lv_iload_n hx hb dT_chartOf_0 rfl (lv_at hl 1 rfl) ?_
  refine lv_if_ne (tgt := 11) hx hb dT_chartOf_1 (by decide) (fun h0 => absurd hn h0) (fun _ => ?_)
  refine lv_aload_n hx hb dT_chartOf_4 rfl (lv_at hl 0 rfl) ?_
  refine gfT_21 hx hb hts hown hN hK hP 0 rfl (v := .ref (ad 8)) rfl dT_chartOf_5 ?_
  refine lv_goto (tgt := 24) hx hb dT_chartOf_8 (by decide) ?_
  exact k_aret hx hb hr hlk (Or.inr ⟨_, rfl⟩) hP hD hS dT_chartOf_24 () rfl rfl


set_option maxRecDepth 100000 in
set_option maxHeartbeats 4000000 in
theorem ctT_chartOf1 (l : Launch) (D : va_G) (cZ cI cJ : ClassId) (tL tH : Nat) (sz : Nat) (ad : Nat → Nat) (k : Nat) (wc : WcT) (tc : TcT) (tm : TmT) (wh : WhT) (ag : AgT) (pn : PnT) (ca : ChT) (cf : ChT) (sl : SnT) (sh : SnT) (n : Int32)  (hk : 0 < k ∧ k ≤ 6) (hcy : ¬ wc.2.2 = 0) (hn : n = (1 : Int32)) : Ct l yT_chartOf wT_chartOf ({ frames := 0, cells := 0, slots := 0, locals := 0 }) D (tyG cZ cI cJ) tL tH [.ref (ad 0), .int n] sz [cTm ad k tc tm, cWh (ad 1) wc wh, cAg (ad 2) (ad 3) (ad 4) (ad 5) k ag, cZa cZ (ad 3) (5 * k) ag.1, cJa cJ (ad 4) (5 * k) ag.2.1, cIa cI (ad 5) (5 * k) ag.2.2.1, cPn (ad 6) (ad 7) pn, cJa cJ (ad 7) 16 pn.1, cCh (ad 8) (ad 9) (2047 : Int32), cIa cI (ad 9) 64 ca, cCh (ad 10) (ad 11) (32000 : Int32), cIa cI (ad 11) 64 cf, cSn (ad 12) tL (ad 13) (400 : Int32) sl, cJa cJ (ad 13) 3 sl.2.2.2.2, cSn (ad 14) tH (ad 15) (80 : Int32) sh, cJa cJ (ad 15) 3 sh.2.2.2.2] (fun _ : Unit => some (.ref (ad 10))) (fun _ : Unit => [cTm ad k tc tm, cWh (ad 1) wc wh, cAg (ad 2) (ad 3) (ad 4) (ad 5) k ag, cZa cZ (ad 3) (5 * k) ag.1, cJa cJ (ad 4) (5 * k) ag.2.1, cIa cI (ad 5) (5 * k) ag.2.2.1, cPn (ad 6) (ad 7) pn, cJa cJ (ad 7) 16 pn.1, cCh (ad 8) (ad 9) (2047 : Int32), cIa cI (ad 9) 64 ca, cCh (ad 10) (ad 11) (32000 : Int32), cIa cI (ad 11) 64 cf, cSn (ad 12) tL (ad 13) (400 : Int32) sl, cJa cJ (ad 13) 3 sl.2.2.2.2, cSn (ad 14) tH (ad 15) (80 : Int32) sh, cJa cJ (ad 15) 3 sh.2.2.2.2]) 0 0 := by
  refine k_go (by decide +kernel) (Nat.le_of_ble_eq_true rfl) ?_
  intro p e s m args below meth c A ls H hx hb hr hml hts hown hlk hnm hK hN hT hA hS hP hD hl
  have hown : s.vm.findClass "ToothWheelTimer" = some m.cls := hown
  have hlk : meth.locks = false := hlk
  have hl : lv_has ls 2 [(0, .ref (ad 0)), (1, .int n)] := hl
  refine lv_iload_n hx hb dT_chartOf_0 rfl (lv_at hl 1 rfl) ?_
  refine lv_if_ne (tgt := 11) hx hb dT_chartOf_1 (by decide) (fun _ => ?_) (fun h0 => absurd h0 (by rw [hn]; decide))
  refine lv_iload_n hx hb dT_chartOf_11 rfl (lv_at hl 1 rfl) ?_
  refine lv_iconst (v := (1 : Int32)) hx hb dT_chartOf_12 (by decide) ?_
  refine lv_icmp_ne (tgt := 23) hx hb dT_chartOf_13 (by decide) (fun h0 => absurd hn h0) (fun _ => ?_)
  refine lv_aload_n hx hb dT_chartOf_16 rfl (lv_at hl 0 rfl) ?_
  refine gfT_25 hx hb hts hown hN hK hP 0 rfl (v := .ref (ad 10)) rfl dT_chartOf_17 ?_
  refine lv_goto (tgt := 24) hx hb dT_chartOf_20 (by decide) ?_
  exact k_aret hx hb hr hlk (Or.inr ⟨_, rfl⟩) hP hD hS dT_chartOf_24 () rfl rfl


set_option maxRecDepth 100000 in
set_option maxHeartbeats 4000000 in
theorem ctT_chartOfn (l : Launch) (D : va_G) (cZ cI cJ : ClassId) (tL tH : Nat) (sz : Nat) (ad : Nat → Nat) (k : Nat) (wc : WcT) (tc : TcT) (tm : TmT) (wh : WhT) (ag : AgT) (pn : PnT) (ca : ChT) (cf : ChT) (sl : SnT) (sh : SnT) (n : Int32)  (hk : 0 < k ∧ k ≤ 6) (hcy : ¬ wc.2.2 = 0) (hn0 : ¬ n = 0) (hn1 : ¬ n = (1 : Int32)) : Ct l yT_chartOf wT_chartOf ({ frames := 0, cells := 0, slots := 0, locals := 0 }) D (tyG cZ cI cJ) tL tH [.ref (ad 0), .int n] sz [cTm ad k tc tm, cWh (ad 1) wc wh, cAg (ad 2) (ad 3) (ad 4) (ad 5) k ag, cZa cZ (ad 3) (5 * k) ag.1, cJa cJ (ad 4) (5 * k) ag.2.1, cIa cI (ad 5) (5 * k) ag.2.2.1, cPn (ad 6) (ad 7) pn, cJa cJ (ad 7) 16 pn.1, cCh (ad 8) (ad 9) (2047 : Int32), cIa cI (ad 9) 64 ca, cCh (ad 10) (ad 11) (32000 : Int32), cIa cI (ad 11) 64 cf, cSn (ad 12) tL (ad 13) (400 : Int32) sl, cJa cJ (ad 13) 3 sl.2.2.2.2, cSn (ad 14) tH (ad 15) (80 : Int32) sh, cJa cJ (ad 15) 3 sh.2.2.2.2] (fun _ : Unit => some .null) (fun _ : Unit => [cTm ad k tc tm, cWh (ad 1) wc wh, cAg (ad 2) (ad 3) (ad 4) (ad 5) k ag, cZa cZ (ad 3) (5 * k) ag.1, cJa cJ (ad 4) (5 * k) ag.2.1, cIa cI (ad 5) (5 * k) ag.2.2.1, cPn (ad 6) (ad 7) pn, cJa cJ (ad 7) 16 pn.1, cCh (ad 8) (ad 9) (2047 : Int32), cIa cI (ad 9) 64 ca, cCh (ad 10) (ad 11) (32000 : Int32), cIa cI (ad 11) 64 cf, cSn (ad 12) tL (ad 13) (400 : Int32) sl, cJa cJ (ad 13) 3 sl.2.2.2.2, cSn (ad 14) tH (ad 15) (80 : Int32) sh, cJa cJ (ad 15) 3 sh.2.2.2.2]) 0 0 := by
  refine k_go (by decide +kernel) (Nat.le_of_ble_eq_true rfl) ?_
  intro p e s m args below meth c A ls H hx hb hr hml hts hown hlk hnm hK hN hT hA hS hP hD hl
  have hown : s.vm.findClass "ToothWheelTimer" = some m.cls := hown
  have hlk : meth.locks = false := hlk
  have hl : lv_has ls 2 [(0, .ref (ad 0)), (1, .int n)] := hl
  refine lv_iload_n hx hb dT_chartOf_0 rfl (lv_at hl 1 rfl) ?_
  refine lv_if_ne (tgt := 11) hx hb dT_chartOf_1 (by decide) (fun _ => ?_) (fun h0 => absurd h0 hn0)
  refine lv_iload_n hx hb dT_chartOf_11 rfl (lv_at hl 1 rfl) ?_
  refine lv_iconst (v := (1 : Int32)) hx hb dT_chartOf_12 (by decide) ?_
  refine lv_icmp_ne (tgt := 23) hx hb dT_chartOf_13 (by decide) (fun _ => ?_) (fun h0 => absurd h0 hn1)
  refine lv_null hx hb dT_chartOf_23 ?_
  exact k_aret hx hb hr hlk (Or.inl rfl) hP hD hS dT_chartOf_24 () rfl rfl


set_option maxRecDepth 100000 in
set_option maxHeartbeats 4000000 in
theorem ctT_sensorOf0 (l : Launch) (D : va_G) (cZ cI cJ : ClassId) (tL tH : Nat) (sz : Nat) (ad : Nat → Nat) (k : Nat) (wc : WcT) (tc : TcT) (tm : TmT) (wh : WhT) (ag : AgT) (pn : PnT) (ca : ChT) (cf : ChT) (sl : SnT) (sh : SnT) (n : Int32)  (hk : 0 < k ∧ k ≤ 6) (hcy : ¬ wc.2.2 = 0) (hn : n = 0) : Ct l yT_sensorOf wT_sensorOf ({ frames := 0, cells := 0, slots := 0, locals := 0 }) D (tyG cZ cI cJ) tL tH [.ref (ad 0), .int n] sz [cTm ad k tc tm, cWh (ad 1) wc wh, cAg (ad 2) (ad 3) (ad 4) (ad 5) k ag, cZa cZ (ad 3) (5 * k) ag.1, cJa cJ (ad 4) (5 * k) ag.2.1, cIa cI (ad 5) (5 * k) ag.2.2.1, cPn (ad 6) (ad 7) pn, cJa cJ (ad 7) 16 pn.1, cCh (ad 8) (ad 9) (2047 : Int32), cIa cI (ad 9) 64 ca, cCh (ad 10) (ad 11) (32000 : Int32), cIa cI (ad 11) 64 cf, cSn (ad 12) tL (ad 13) (400 : Int32) sl, cJa cJ (ad 13) 3 sl.2.2.2.2, cSn (ad 14) tH (ad 15) (80 : Int32) sh, cJa cJ (ad 15) 3 sh.2.2.2.2] (fun _ : Unit => some (.ref (ad 12))) (fun _ : Unit => [cTm ad k tc tm, cWh (ad 1) wc wh, cAg (ad 2) (ad 3) (ad 4) (ad 5) k ag, cZa cZ (ad 3) (5 * k) ag.1, cJa cJ (ad 4) (5 * k) ag.2.1, cIa cI (ad 5) (5 * k) ag.2.2.1, cPn (ad 6) (ad 7) pn, cJa cJ (ad 7) 16 pn.1, cCh (ad 8) (ad 9) (2047 : Int32), cIa cI (ad 9) 64 ca, cCh (ad 10) (ad 11) (32000 : Int32), cIa cI (ad 11) 64 cf, cSn (ad 12) tL (ad 13) (400 : Int32) sl, cJa cJ (ad 13) 3 sl.2.2.2.2, cSn (ad 14) tH (ad 15) (80 : Int32) sh, cJa cJ (ad 15) 3 sh.2.2.2.2]) 0 0 := by
  refine k_go (by decide +kernel) (Nat.le_of_ble_eq_true rfl) ?_
  intro p e s m args below meth c A ls H hx hb hr hml hts hown hlk hnm hK hN hT hA hS hP hD hl
  have hown : s.vm.findClass "ToothWheelTimer" = some m.cls := hown
  have hlk : meth.locks = false := hlk
  have hl : lv_has ls 2 [(0, .ref (ad 0)), (1, .int n)] := hl
  refine lv_iload_n hx hb dT_sensorOf_0 rfl (lv_at hl 1 rfl) ?_
  refine lv_if_ne (tgt := 11) hx hb dT_sensorOf_1 (by decide) (fun h0 => absurd hn h0) (fun _ => ?_)
  refine lv_aload_n hx hb dT_sensorOf_4 rfl (lv_at hl 0 rfl) ?_
  refine gfT_37 hx hb hts hown hN hK hP 0 rfl (v := .ref (ad 12)) rfl dT_sensorOf_5 ?_
  refine lv_goto (tgt := 24) hx hb dT_sensorOf_8 (by decide) ?_
  exact k_aret hx hb hr hlk (Or.inr ⟨_, rfl⟩) hP hD hS dT_sensorOf_24 () rfl rfl


set_option maxRecDepth 100000 in
set_option maxHeartbeats 4000000 in
theorem ctT_sensorOf1 (l : Launch) (D : va_G) (cZ cI cJ : ClassId) (tL tH : Nat) (sz : Nat) (ad : Nat → Nat) (k : Nat) (wc : WcT) (tc : TcT) (tm : TmT) (wh : WhT) (ag : AgT) (pn : PnT) (ca : ChT) (cf : ChT) (sl : SnT) (sh : SnT) (n : Int32)  (hk : 0 < k ∧ k ≤ 6) (hcy : ¬ wc.2.2 = 0) (hn : n = (1 : Int32)) : Ct l yT_sensorOf wT_sensorOf ({ frames := 0, cells := 0, slots := 0, locals := 0 }) D (tyG cZ cI cJ) tL tH [.ref (ad 0), .int n] sz [cTm ad k tc tm, cWh (ad 1) wc wh, cAg (ad 2) (ad 3) (ad 4) (ad 5) k ag, cZa cZ (ad 3) (5 * k) ag.1, cJa cJ (ad 4) (5 * k) ag.2.1, cIa cI (ad 5) (5 * k) ag.2.2.1, cPn (ad 6) (ad 7) pn, cJa cJ (ad 7) 16 pn.1, cCh (ad 8) (ad 9) (2047 : Int32), cIa cI (ad 9) 64 ca, cCh (ad 10) (ad 11) (32000 : Int32), cIa cI (ad 11) 64 cf, cSn (ad 12) tL (ad 13) (400 : Int32) sl, cJa cJ (ad 13) 3 sl.2.2.2.2, cSn (ad 14) tH (ad 15) (80 : Int32) sh, cJa cJ (ad 15) 3 sh.2.2.2.2] (fun _ : Unit => some (.ref (ad 14))) (fun _ : Unit => [cTm ad k tc tm, cWh (ad 1) wc wh, cAg (ad 2) (ad 3) (ad 4) (ad 5) k ag, cZa cZ (ad 3) (5 * k) ag.1, cJa cJ (ad 4) (5 * k) ag.2.1, cIa cI (ad 5) (5 * k) ag.2.2.1, cPn (ad 6) (ad 7) pn, cJa cJ (ad 7) 16 pn.1, cCh (ad 8) (ad 9) (2047 : Int32), cIa cI (ad 9) 64 ca, cCh (ad 10) (ad 11) (32000 : Int32), cIa cI (ad 11) 64 cf, cSn (ad 12) tL (ad 13) (400 : Int32) sl, cJa cJ (ad 13) 3 sl.2.2.2.2, cSn (ad 14) tH (ad 15) (80 : Int32) sh, cJa cJ (ad 15) 3 sh.2.2.2.2]) 0 0 := by
  refine k_go (by decide +kernel) (Nat.le_of_ble_eq_true rfl) ?_
  intro p e s m args below meth c A ls H hx hb hr hml hts hown hlk hnm hK hN hT hA hS hP hD hl
  have hown : s.vm.findClass "ToothWheelTimer" = some m.cls := hown
  have hlk : meth.locks = false := hlk
  have hl : lv_has ls 2 [(0, .ref (ad 0)), (1, .int n)] := hl
  refine lv_iload_n hx hb dT_sensorOf_0 rfl (lv_at hl 1 rfl) ?_
  refine lv_if_ne (tgt := 11) hx hb dT_sensorOf_1 (by decide) (fun _ => ?_) (fun h0 => absurd h0 (by rw [hn]; decide))
  refine lv_iload_n hx hb dT_sensorOf_11 rfl (lv_at hl 1 rfl) ?_
  refine lv_iconst (v := (1 : Int32)) hx hb dT_sensorOf_12 (by decide) ?_
  refine lv_icmp_ne (tgt := 23) hx hb dT_sensorOf_13 (by decide) (fun h0 => absurd hn h0) (fun _ => ?_)
  refine lv_aload_n hx hb dT_sensorOf_16 rfl (lv_at hl 0 rfl) ?_
  refine gfT_44 hx hb hts hown hN hK hP 0 rfl (v := .ref (ad 14)) rfl dT_sensorOf_17 ?_
  refine lv_goto (tgt := 24) hx hb dT_sensorOf_20 (by decide) ?_
  exact k_aret hx hb hr hlk (Or.inr ⟨_, rfl⟩) hP hD hS dT_sensorOf_24 () rfl rfl


set_option maxRecDepth 100000 in
set_option maxHeartbeats 4000000 in
theorem ctT_sensorOfn (l : Launch) (D : va_G) (cZ cI cJ : ClassId) (tL tH : Nat) (sz : Nat) (ad : Nat → Nat) (k : Nat) (wc : WcT) (tc : TcT) (tm : TmT) (wh : WhT) (ag : AgT) (pn : PnT) (ca : ChT) (cf : ChT) (sl : SnT) (sh : SnT) (n : Int32)  (hk : 0 < k ∧ k ≤ 6) (hcy : ¬ wc.2.2 = 0) (hn0 : ¬ n = 0) (hn1 : ¬ n = (1 : Int32)) : Ct l yT_sensorOf wT_sensorOf ({ frames := 0, cells := 0, slots := 0, locals := 0 }) D (tyG cZ cI cJ) tL tH [.ref (ad 0), .int n] sz [cTm ad k tc tm, cWh (ad 1) wc wh, cAg (ad 2) (ad 3) (ad 4) (ad 5) k ag, cZa cZ (ad 3) (5 * k) ag.1, cJa cJ (ad 4) (5 * k) ag.2.1, cIa cI (ad 5) (5 * k) ag.2.2.1, cPn (ad 6) (ad 7) pn, cJa cJ (ad 7) 16 pn.1, cCh (ad 8) (ad 9) (2047 : Int32), cIa cI (ad 9) 64 ca, cCh (ad 10) (ad 11) (32000 : Int32), cIa cI (ad 11) 64 cf, cSn (ad 12) tL (ad 13) (400 : Int32) sl, cJa cJ (ad 13) 3 sl.2.2.2.2, cSn (ad 14) tH (ad 15) (80 : Int32) sh, cJa cJ (ad 15) 3 sh.2.2.2.2] (fun _ : Unit => some .null) (fun _ : Unit => [cTm ad k tc tm, cWh (ad 1) wc wh, cAg (ad 2) (ad 3) (ad 4) (ad 5) k ag, cZa cZ (ad 3) (5 * k) ag.1, cJa cJ (ad 4) (5 * k) ag.2.1, cIa cI (ad 5) (5 * k) ag.2.2.1, cPn (ad 6) (ad 7) pn, cJa cJ (ad 7) 16 pn.1, cCh (ad 8) (ad 9) (2047 : Int32), cIa cI (ad 9) 64 ca, cCh (ad 10) (ad 11) (32000 : Int32), cIa cI (ad 11) 64 cf, cSn (ad 12) tL (ad 13) (400 : Int32) sl, cJa cJ (ad 13) 3 sl.2.2.2.2, cSn (ad 14) tH (ad 15) (80 : Int32) sh, cJa cJ (ad 15) 3 sh.2.2.2.2]) 0 0 := by
  refine k_go (by decide +kernel) (Nat.le_of_ble_eq_true rfl) ?_
  intro p e s m args below meth c A ls H hx hb hr hml hts hown hlk hnm hK hN hT hA hS hP hD hl
  have hown : s.vm.findClass "ToothWheelTimer" = some m.cls := hown
  have hlk : meth.locks = false := hlk
  have hl : lv_has ls 2 [(0, .ref (ad 0)), (1, .int n)] := hl
  refine lv_iload_n hx hb dT_sensorOf_0 rfl (lv_at hl 1 rfl) ?_
  refine lv_if_ne (tgt := 11) hx hb dT_sensorOf_1 (by decide) (fun _ => ?_) (fun h0 => absurd h0 hn0)
  refine lv_iload_n hx hb dT_sensorOf_11 rfl (lv_at hl 1 rfl) ?_
  refine lv_iconst (v := (1 : Int32)) hx hb dT_sensorOf_12 (by decide) ?_
  refine lv_icmp_ne (tgt := 23) hx hb dT_sensorOf_13 (by decide) (fun _ => ?_) (fun h0 => absurd h0 hn1)
  refine lv_null hx hb dT_sensorOf_23 ?_
  exact k_aret hx hb hr hlk (Or.inl rfl) hP hD hS dT_sensorOf_24 () rfl rfl

def fT_set (k : Nat) (wc : WcT) (tc : TcT) (tm : TmT) (wh : WhT) (ag : AgT) (pn : PnT) (ca : ChT) (cf : ChT) (sl : SnT) (sh : SnT) (ch : Int32) (i : Int32) (j : Int32) (v : Int32) : Int32 × ChT × ChT :=
  if ch = 0 then
    let q2 := fC_put (2047 : Int32) ca i j v
    if q2.1 = 0 then
      ((0 : Int32), q2.2, cf)
    else
      ((1 : Int32), q2.2, cf)
  else
    if ch = (1 : Int32) then
      let q5 := fC_put (32000 : Int32) cf i j v
      if q5.1 = 0 then
        ((0 : Int32), ca, q5.2)
      else
        ((1 : Int32), ca, q5.2)
    else
      ((0 : Int32), ca, cf)
set_option maxRecDepth 100000 in
set_option maxHeartbeats 4000000 in
theorem ctT_set (l : Launch) (D : va_G) (cZ cI cJ : ClassId) (tL tH : Nat) (sz : Nat) (ad : Nat → Nat) (k : Nat) (wc : WcT) (tc : TcT) (tm : TmT) (wh : WhT) (ag : AgT) (pn : PnT) (ca : ChT) (cf : ChT) (sl : SnT) (sh : SnT) (ch : Int32) (i : Int32) (j : Int32) (v : Int32)  (hk : 0 < k ∧ k ≤ 6) (hcy : ¬ wc.2.2 = 0) : Ct l yT_set wT_set ({ frames := 1, cells := 0, slots := 0, locals := 23 }) D (tyG cZ cI cJ) tL tH [.ref (ad 0), .int ch, .int i, .int j, .int v] sz [cTm ad k tc tm, cWh (ad 1) wc wh, cAg (ad 2) (ad 3) (ad 4) (ad 5) k ag, cZa cZ (ad 3) (5 * k) ag.1, cJa cJ (ad 4) (5 * k) ag.2.1, cIa cI (ad 5) (5 * k) ag.2.2.1, cPn (ad 6) (ad 7) pn, cJa cJ (ad 7) 16 pn.1, cCh (ad 8) (ad 9) (2047 : Int32), cIa cI (ad 9) 64 ca, cCh (ad 10) (ad 11) (32000 : Int32), cIa cI (ad 11) 64 cf, cSn (ad 12) tL (ad 13) (400 : Int32) sl, cJa cJ (ad 13) 3 sl.2.2.2.2, cSn (ad 14) tH (ad 15) (80 : Int32) sh, cJa cJ (ad 15) 3 sh.2.2.2.2] (fun _ : Unit => some (.int ((fT_set k wc tc tm wh ag pn ca cf sl sh ch i j v).1))) (fun _ : Unit => [cTm ad k tc tm, cWh (ad 1) wc wh, cAg (ad 2) (ad 3) (ad 4) (ad 5) k ag, cZa cZ (ad 3) (5 * k) ag.1, cJa cJ (ad 4) (5 * k) ag.2.1, cIa cI (ad 5) (5 * k) ag.2.2.1, cPn (ad 6) (ad 7) pn, cJa cJ (ad 7) 16 pn.1, cCh (ad 8) (ad 9) (2047 : Int32), cIa cI (ad 9) 64 ((fT_set k wc tc tm wh ag pn ca cf sl sh ch i j v).2.1), cCh (ad 10) (ad 11) (32000 : Int32), cIa cI (ad 11) 64 ((fT_set k wc tc tm wh ag pn ca cf sl sh ch i j v).2.2), cSn (ad 12) tL (ad 13) (400 : Int32) sl, cJa cJ (ad 13) 3 sl.2.2.2.2, cSn (ad 14) tH (ad 15) (80 : Int32) sh, cJa cJ (ad 15) 3 sh.2.2.2.2]) 0 0 := by
  refine k_go (by decide +kernel) (Nat.le_of_ble_eq_true rfl) ?_
  intro p e s m args below meth c A ls H hx hb hr hml hts hown hlk hnm hK hN hT hA hS hP hD hl
  have hown : s.vm.findClass "ToothWheelTimer" = some m.cls := hown
  have hlk : meth.locks = false := hlk
  have hl : lv_has ls 6 [(0, .ref (ad 0)), (1, .int ch), (2, .int i), (3, .int j), (4, .int v)] := hl
  by_cases h1 : ch = 0
  · -- yes
    refine lv_aload_n hx hb dT_set_0 rfl (lv_at hl 0 rfl) ?_
    refine lv_iload_n hx hb dT_set_1 rfl (lv_at hl 1 rfl) ?_
    refine k_ca0 (wc := [cTm ad k tc tm, cWh (ad 1) wc wh, cAg (ad 2) (ad 3) (ad 4) (ad 5) k ag, cZa cZ (ad 3) (5 * k) ag.1, cJa cJ (ad 4) (5 * k) ag.2.1, cIa cI (ad 5) (5 * k) ag.2.2.1, cPn (ad 6) (ad 7) pn, cJa cJ (ad 7) 16 pn.1, cCh (ad 8) (ad 9) (2047 : Int32), cIa cI (ad 9) 64 ca, cCh (ad 10) (ad 11) (32000 : Int32), cIa cI (ad 11) 64 cf, cSn (ad 12) tL (ad 13) (400 : Int32) sl, cJa cJ (ad 13) 3 sl.2.2.2.2, cSn (ad 14) tH (ad 15) (80 : Int32) sh, cJa cJ (ad 15) 3 sh.2.2.2.2]) (wr := []) (va_runV (As := [.int ch]) (rest := []) ⟨hx, hb, hml, hown, hts⟩ (ctT_chartOf0 l D cZ cI cJ tL tH H.size ad k wc tc tm wh ag pn ca cf sl sh ch hk hcy h1) (cwT_89 hts hN rfl rfl ⟨Nat.le_of_ble_eq_true rfl, Nat.le_of_ble_eq_true rfl⟩) (k_preV hK hN hT hA hS hP hD [0, 1, 2, 3, 4, 5, 6, 7, 8, 9, 10, 11, 12, 13, 14, 15] rfl (by decide) 0 rfl rfl) rfl rfl hl.1 rfl (lv_room (Nat.le_of_ble_eq_true rfl)) dT_set_2 ⟨Nat.zero_le _, Nat.zero_le _⟩) hP hD hS hA [0, 1, 2, 3, 4, 5, 6, 7, 8, 9, 10, 11, 12, 13, 14, 15] [] rfl rfl (by decide) (by decide) (fun _ H locs hP hD hS => ?_)
    refine W.eq (g2 := F0 m 5 ls [.ref (ad 8)]) rfl ?_
    have hP : va_P D vwCl [cTm ad k tc tm, cWh (ad 1) wc wh, cAg (ad 2) (ad 3) (ad 4) (ad 5) k ag, cZa cZ (ad 3) (5 * k) ag.1, cJa cJ (ad 4) (5 * k) ag.2.1, cIa cI (ad 5) (5 * k) ag.2.2.1, cPn (ad 6) (ad 7) pn, cJa cJ (ad 7) 16 pn.1, cCh (ad 8) (ad 9) (2047 : Int32), cIa cI (ad 9) 64 ca, cCh (ad 10) (ad 11) (32000 : Int32), cIa cI (ad 11) 64 cf, cSn (ad 12) tL (ad 13) (400 : Int32) sl, cJa cJ (ad 13) 3 sl.2.2.2.2, cSn (ad 14) tH (ad 15) (80 : Int32) sh, cJa cJ (ad 15) 3 sh.2.2.2.2] H := hP
    have hD : va_D A [cTm ad k tc tm, cWh (ad 1) wc wh, cAg (ad 2) (ad 3) (ad 4) (ad 5) k ag, cZa cZ (ad 3) (5 * k) ag.1, cJa cJ (ad 4) (5 * k) ag.2.1, cIa cI (ad 5) (5 * k) ag.2.2.1, cPn (ad 6) (ad 7) pn, cJa cJ (ad 7) 16 pn.1, cCh (ad 8) (ad 9) (2047 : Int32), cIa cI (ad 9) 64 ca, cCh (ad 10) (ad 11) (32000 : Int32), cIa cI (ad 11) 64 cf, cSn (ad 12) tL (ad 13) (400 : Int32) sl, cJa cJ (ad 13) 3 sl.2.2.2.2, cSn (ad 14) tH (ad 15) (80 : Int32) sh, cJa cJ (ad 15) 3 sh.2.2.2.2] := hD
    refine lv_astore (lv' := [(5, .ref (ad 8)), (0, .ref (ad 0)), (1, .int ch), (2, .int i), (3, .int j), (4, .int v)]) hx hb dT_set_5 hl (by decide) rfl (fun ls hl => ?_)
    refine lv_aload hx hb dT_set_7 (lv_at hl 0 rfl) ?_
    refine lv_ifnull hx hb dT_set_9 ?_
    refine lv_aload hx hb dT_set_12 (lv_at hl 0 rfl) ?_
    refine lv_iload_n hx hb dT_set_14 rfl (lv_at hl 3 rfl) ?_
    refine lv_iload_n hx hb dT_set_15 rfl (lv_at hl 4 rfl) ?_
    refine lv_iload hx hb dT_set_16 (lv_at hl 5 rfl) ?_
    refine k_ca0 (wc := [cCh (ad 8) (ad 9) (2047 : Int32), cIa cI (ad 9) 64 ca]) (wr := [cTm ad k tc tm, cWh (ad 1) wc wh, cAg (ad 2) (ad 3) (ad 4) (ad 5) k ag, cZa cZ (ad 3) (5 * k) ag.1, cJa cJ (ad 4) (5 * k) ag.2.1, cIa cI (ad 5) (5 * k) ag.2.2.1, cPn (ad 6) (ad 7) pn, cJa cJ (ad 7) 16 pn.1, cCh (ad 10) (ad 11) (32000 : Int32), cIa cI (ad 11) 64 cf, cSn (ad 12) tL (ad 13) (400 : Int32) sl, cJa cJ (ad 13) 3 sl.2.2.2.2, cSn (ad 14) tH (ad 15) (80 : Int32) sh, cJa cJ (ad 15) 3 sh.2.2.2.2]) (va_runVN (As := [.int i, .int j, .int v]) (rest := []) ⟨hx, hb, hml, hown, hts⟩ (ctC_put l D cZ cI cJ tL tH H.size (ad 8) (ad 9) (2047 : Int32) ca i j v) (cwT_93 hts hN rfl rfl ⟨Nat.le_of_ble_eq_true rfl, Nat.le_of_ble_eq_true rfl⟩) (k_preV hK hN hT hA hS hP hD [8, 9] rfl (by decide) 8 rfl rfl) rfl rfl hl.1 rfl (lv_room (Nat.le_of_ble_eq_true rfl)) dT_set_18 ⟨Nat.zero_le _, Nat.zero_le _⟩) hP hD hS hA [8, 9] [0, 1, 2, 3, 4, 5, 6, 7, 10, 11, 12, 13, 14, 15] rfl rfl (by decide) (by decide) (fun _ H locs hP hD hS => ?_)
    refine W.eq (g2 := F0 m 21 ls [.int ((fC_put (2047 : Int32) ca i j v).1)]) rfl ?_
    have hP : va_P D vwCl [cTm ad k tc tm, cWh (ad 1) wc wh, cAg (ad 2) (ad 3) (ad 4) (ad 5) k ag, cZa cZ (ad 3) (5 * k) ag.1, cJa cJ (ad 4) (5 * k) ag.2.1, cIa cI (ad 5) (5 * k) ag.2.2.1, cPn (ad 6) (ad 7) pn, cJa cJ (ad 7) 16 pn.1, cCh (ad 10) (ad 11) (32000 : Int32), cIa cI (ad 11) 64 cf, cSn (ad 12) tL (ad 13) (400 : Int32) sl, cJa cJ (ad 13) 3 sl.2.2.2.2, cSn (ad 14) tH (ad 15) (80 : Int32) sh, cJa cJ (ad 15) 3 sh.2.2.2.2, cCh (ad 8) (ad 9) (2047 : Int32), cIa cI (ad 9) 64 ((fC_put (2047 : Int32) ca i j v).2)] H := hP
    have hD : va_D A [cTm ad k tc tm, cWh (ad 1) wc wh, cAg (ad 2) (ad 3) (ad 4) (ad 5) k ag, cZa cZ (ad 3) (5 * k) ag.1, cJa cJ (ad 4) (5 * k) ag.2.1, cIa cI (ad 5) (5 * k) ag.2.2.1, cPn (ad 6) (ad 7) pn, cJa cJ (ad 7) 16 pn.1, cCh (ad 10) (ad 11) (32000 : Int32), cIa cI (ad 11) 64 cf, cSn (ad 12) tL (ad 13) (400 : Int32) sl, cJa cJ (ad 13) 3 sl.2.2.2.2, cSn (ad 14) tH (ad 15) (80 : Int32) sh, cJa cJ (ad 15) 3 sh.2.2.2.2, cCh (ad 8) (ad 9) (2047 : Int32), cIa cI (ad 9) 64 ((fC_put (2047 : Int32) ca i j v).2)] := hD
    generalize hq2 : fC_put (2047 : Int32) ca i j v = q2 at hP hD ⊢
    have hP : va_P D vwCl [cTm ad k tc tm, cWh (ad 1) wc wh, cAg (ad 2) (ad 3) (ad 4) (ad 5) k ag, cZa cZ (ad 3) (5 * k) ag.1, cJa cJ (ad 4) (5 * k) ag.2.1, cIa cI (ad 5) (5 * k) ag.2.2.1, cPn (ad 6) (ad 7) pn, cJa cJ (ad 7) 16 pn.1, cCh (ad 10) (ad 11) (32000 : Int32), cIa cI (ad 11) 64 cf, cSn (ad 12) tL (ad 13) (400 : Int32) sl, cJa cJ (ad 13) 3 sl.2.2.2.2, cSn (ad 14) tH (ad 15) (80 : Int32) sh, cJa cJ (ad 15) 3 sh.2.2.2.2, cCh (ad 8) (ad 9) (2047 : Int32), cIa cI (ad 9) 64 q2.2] H := hP
    have hD : va_D A [cTm ad k tc tm, cWh (ad 1) wc wh, cAg (ad 2) (ad 3) (ad 4) (ad 5) k ag, cZa cZ (ad 3) (5 * k) ag.1, cJa cJ (ad 4) (5 * k) ag.2.1, cIa cI (ad 5) (5 * k) ag.2.2.1, cPn (ad 6) (ad 7) pn, cJa cJ (ad 7) 16 pn.1, cCh (ad 10) (ad 11) (32000 : Int32), cIa cI (ad 11) 64 cf, cSn (ad 12) tL (ad 13) (400 : Int32) sl, cJa cJ (ad 13) 3 sl.2.2.2.2, cSn (ad 14) tH (ad 15) (80 : Int32) sh, cJa cJ (ad 15) 3 sh.2.2.2.2, cCh (ad 8) (ad 9) (2047 : Int32), cIa cI (ad 9) 64 q2.2] := hD
    refine lv_if_eq (tgt := 28) hx hb dT_set_21 (by decide) (fun h3 => ?_) (fun h3 => ?_)
    · -- taken at 21
      refine lv_iconst (v := (0 : Int32)) hx hb dT_set_28 (by decide) ?_
      have hP := hP.sub (ws' := [cTm ad k tc tm, cWh (ad 1) wc wh, cAg (ad 2) (ad 3) (ad 4) (ad 5) k ag, cZa cZ (ad 3) (5 * k) ag.1, cJa cJ (ad 4) (5 * k) ag.2.1, cIa cI (ad 5) (5 * k) ag.2.2.1, cPn (ad 6) (ad 7) pn, cJa cJ (ad 7) 16 pn.1, cCh (ad 8) (ad 9) (2047 : Int32), cIa cI (ad 9) 64 q2.2, cCh (ad 10) (ad 11) (32000 : Int32), cIa cI (ad 11) 64 cf, cSn (ad 12) tL (ad 13) (400 : Int32) sl, cJa cJ (ad 13) 3 sl.2.2.2.2, cSn (ad 14) tH (ad 15) (80 : Int32) sh, cJa cJ (ad 15) 3 sh.2.2.2.2]) [0, 1, 2, 3, 4, 5, 6, 7, 14, 15, 8, 9, 10, 11, 12, 13] rfl
      have hD := hD.sub (ws' := [cTm ad k tc tm, cWh (ad 1) wc wh, cAg (ad 2) (ad 3) (ad 4) (ad 5) k ag, cZa cZ (ad 3) (5 * k) ag.1, cJa cJ (ad 4) (5 * k) ag.2.1, cIa cI (ad 5) (5 * k) ag.2.2.1, cPn (ad 6) (ad 7) pn, cJa cJ (ad 7) 16 pn.1, cCh (ad 8) (ad 9) (2047 : Int32), cIa cI (ad 9) 64 q2.2, cCh (ad 10) (ad 11) (32000 : Int32), cIa cI (ad 11) 64 cf, cSn (ad 12) tL (ad 13) (400 : Int32) sl, cJa cJ (ad 13) 3 sl.2.2.2.2, cSn (ad 14) tH (ad 15) (80 : Int32) sh, cJa cJ (ad 15) 3 sh.2.2.2.2]) [0, 1, 2, 3, 4, 5, 6, 7, 14, 15, 8, 9, 10, 11, 12, 13] (by decide) rfl
      exact k_zret hx hb hr hlk (zn_b (Or.inl rfl)) hP hD hS dT_set_29 () (by simp only [fT_set, if_pos h1, hq2, if_pos h3]) (by simp only [fT_set, if_pos h1, hq2, if_pos h3])
    · -- not taken at 21
      refine lv_iconst (v := (1 : Int32)) hx hb dT_set_24 (by decide) ?_
      refine lv_goto (tgt := 29) hx hb dT_set_25 (by decide) ?_
      have hP := hP.sub (ws' := [cTm ad k tc tm, cWh (ad 1) wc wh, cAg (ad 2) (ad 3) (ad 4) (ad 5) k ag, cZa cZ (ad 3) (5 * k) ag.1, cJa cJ (ad 4) (5 * k) ag.2.1, cIa cI (ad 5) (5 * k) ag.2.2.1, cPn (ad 6) (ad 7) pn, cJa cJ (ad 7) 16 pn.1, cCh (ad 8) (ad 9) (2047 : Int32), cIa cI (ad 9) 64 q2.2, cCh (ad 10) (ad 11) (32000 : Int32), cIa cI (ad 11) 64 cf, cSn (ad 12) tL (ad 13) (400 : Int32) sl, cJa cJ (ad 13) 3 sl.2.2.2.2, cSn (ad 14) tH (ad 15) (80 : Int32) sh, cJa cJ (ad 15) 3 sh.2.2.2.2]) [0, 1, 2, 3, 4, 5, 6, 7, 14, 15, 8, 9, 10, 11, 12, 13] rfl
      have hD := hD.sub (ws' := [cTm ad k tc tm, cWh (ad 1) wc wh, cAg (ad 2) (ad 3) (ad 4) (ad 5) k ag, cZa cZ (ad 3) (5 * k) ag.1, cJa cJ (ad 4) (5 * k) ag.2.1, cIa cI (ad 5) (5 * k) ag.2.2.1, cPn (ad 6) (ad 7) pn, cJa cJ (ad 7) 16 pn.1, cCh (ad 8) (ad 9) (2047 : Int32), cIa cI (ad 9) 64 q2.2, cCh (ad 10) (ad 11) (32000 : Int32), cIa cI (ad 11) 64 cf, cSn (ad 12) tL (ad 13) (400 : Int32) sl, cJa cJ (ad 13) 3 sl.2.2.2.2, cSn (ad 14) tH (ad 15) (80 : Int32) sh, cJa cJ (ad 15) 3 sh.2.2.2.2]) [0, 1, 2, 3, 4, 5, 6, 7, 14, 15, 8, 9, 10, 11, 12, 13] (by decide) rfl
      exact k_zret hx hb hr hlk (zn_b (Or.inr rfl)) hP hD hS dT_set_29 () (by simp only [fT_set, if_pos h1, hq2, if_neg h3]) (by simp only [fT_set, if_pos h1, hq2, if_neg h3])
  · -- no
    by_cases h4 : ch = (1 : Int32)
    · -- yes
      refine lv_aload_n hx hb dT_set_0 rfl (lv_at hl 0 rfl) ?_
      refine lv_iload_n hx hb dT_set_1 rfl (lv_at hl 1 rfl) ?_
      refine k_ca0 (wc := [cTm ad k tc tm, cWh (ad 1) wc wh, cAg (ad 2) (ad 3) (ad 4) (ad 5) k ag, cZa cZ (ad 3) (5 * k) ag.1, cJa cJ (ad 4) (5 * k) ag.2.1, cIa cI (ad 5) (5 * k) ag.2.2.1, cPn (ad 6) (ad 7) pn, cJa cJ (ad 7) 16 pn.1, cCh (ad 8) (ad 9) (2047 : Int32), cIa cI (ad 9) 64 ca, cCh (ad 10) (ad 11) (32000 : Int32), cIa cI (ad 11) 64 cf, cSn (ad 12) tL (ad 13) (400 : Int32) sl, cJa cJ (ad 13) 3 sl.2.2.2.2, cSn (ad 14) tH (ad 15) (80 : Int32) sh, cJa cJ (ad 15) 3 sh.2.2.2.2]) (wr := []) (va_runV (As := [.int ch]) (rest := []) ⟨hx, hb, hml, hown, hts⟩ (ctT_chartOf1 l D cZ cI cJ tL tH H.size ad k wc tc tm wh ag pn ca cf sl sh ch hk hcy h4) (cwT_89 hts hN rfl rfl ⟨Nat.le_of_ble_eq_true rfl, Nat.le_of_ble_eq_true rfl⟩) (k_preV hK hN hT hA hS hP hD [0, 1, 2, 3, 4, 5, 6, 7, 8, 9, 10, 11, 12, 13, 14, 15] rfl (by decide) 0 rfl rfl) rfl rfl hl.1 rfl (lv_room (Nat.le_of_ble_eq_true rfl)) dT_set_2 ⟨Nat.zero_le _, Nat.zero_le _⟩) hP hD hS hA [0, 1, 2, 3, 4, 5, 6, 7, 8, 9, 10, 11, 12, 13, 14, 15] [] rfl rfl (by decide) (by decide) (fun _ H locs hP hD hS => ?_)
      refine W.eq (g2 := F0 m 5 ls [.ref (ad 10)]) rfl ?_
      have hP : va_P D vwCl [cTm ad k tc tm, cWh (ad 1) wc wh, cAg (ad 2) (ad 3) (ad 4) (ad 5) k ag, cZa cZ (ad 3) (5 * k) ag.1, cJa cJ (ad 4) (5 * k) ag.2.1, cIa cI (ad 5) (5 * k) ag.2.2.1, cPn (ad 6) (ad 7) pn, cJa cJ (ad 7) 16 pn.1, cCh (ad 8) (ad 9) (2047 : Int32), cIa cI (ad 9) 64 ca, cCh (ad 10) (ad 11) (32000 : Int32), cIa cI (ad 11) 64 cf, cSn (ad 12) tL (ad 13) (400 : Int32) sl, cJa cJ (ad 13) 3 sl.2.2.2.2, cSn (ad 14) tH (ad 15) (80 : Int32) sh, cJa cJ (ad 15) 3 sh.2.2.2.2] H := hP
      have hD : va_D A [cTm ad k tc tm, cWh (ad 1) wc wh, cAg (ad 2) (ad 3) (ad 4) (ad 5) k ag, cZa cZ (ad 3) (5 * k) ag.1, cJa cJ (ad 4) (5 * k) ag.2.1, cIa cI (ad 5) (5 * k) ag.2.2.1, cPn (ad 6) (ad 7) pn, cJa cJ (ad 7) 16 pn.1, cCh (ad 8) (ad 9) (2047 : Int32), cIa cI (ad 9) 64 ca, cCh (ad 10) (ad 11) (32000 : Int32), cIa cI (ad 11) 64 cf, cSn (ad 12) tL (ad 13) (400 : Int32) sl, cJa cJ (ad 13) 3 sl.2.2.2.2, cSn (ad 14) tH (ad 15) (80 : Int32) sh, cJa cJ (ad 15) 3 sh.2.2.2.2] := hD
      refine lv_astore (lv' := [(5, .ref (ad 10)), (0, .ref (ad 0)), (1, .int ch), (2, .int i), (3, .int j), (4, .int v)]) hx hb dT_set_5 hl (by decide) rfl (fun ls hl => ?_)
      refine lv_aload hx hb dT_set_7 (lv_at hl 0 rfl) ?_
      refine lv_ifnull hx hb dT_set_9 ?_
      refine lv_aload hx hb dT_set_12 (lv_at hl 0 rfl) ?_
      refine lv_iload_n hx hb dT_set_14 rfl (lv_at hl 3 rfl) ?_
      refine lv_iload_n hx hb dT_set_15 rfl (lv_at hl 4 rfl) ?_
      refine lv_iload hx hb dT_set_16 (lv_at hl 5 rfl) ?_
      refine k_ca0 (wc := [cCh (ad 10) (ad 11) (32000 : Int32), cIa cI (ad 11) 64 cf]) (wr := [cTm ad k tc tm, cWh (ad 1) wc wh, cAg (ad 2) (ad 3) (ad 4) (ad 5) k ag, cZa cZ (ad 3) (5 * k) ag.1, cJa cJ (ad 4) (5 * k) ag.2.1, cIa cI (ad 5) (5 * k) ag.2.2.1, cPn (ad 6) (ad 7) pn, cJa cJ (ad 7) 16 pn.1, cCh (ad 8) (ad 9) (2047 : Int32), cIa cI (ad 9) 64 ca, cSn (ad 12) tL (ad 13) (400 : Int32) sl, cJa cJ (ad 13) 3 sl.2.2.2.2, cSn (ad 14) tH (ad 15) (80 : Int32) sh, cJa cJ (ad 15) 3 sh.2.2.2.2]) (va_runVN (As := [.int i, .int j, .int v]) (rest := []) ⟨hx, hb, hml, hown, hts⟩ (ctC_put l D cZ cI cJ tL tH H.size (ad 10) (ad 11) (32000 : Int32) cf i j v) (cwT_93 hts hN rfl rfl ⟨Nat.le_of_ble_eq_true rfl, Nat.le_of_ble_eq_true rfl⟩) (k_preV hK hN hT hA hS hP hD [10, 11] rfl (by decide) 10 rfl rfl) rfl rfl hl.1 rfl (lv_room (Nat.le_of_ble_eq_true rfl)) dT_set_18 ⟨Nat.zero_le _, Nat.zero_le _⟩) hP hD hS hA [10, 11] [0, 1, 2, 3, 4, 5, 6, 7, 8, 9, 12, 13, 14, 15] rfl rfl (by decide) (by decide) (fun _ H locs hP hD hS => ?_)
      refine W.eq (g2 := F0 m 21 ls [.int ((fC_put (32000 : Int32) cf i j v).1)]) rfl ?_
      have hP : va_P D vwCl [cTm ad k tc tm, cWh (ad 1) wc wh, cAg (ad 2) (ad 3) (ad 4) (ad 5) k ag, cZa cZ (ad 3) (5 * k) ag.1, cJa cJ (ad 4) (5 * k) ag.2.1, cIa cI (ad 5) (5 * k) ag.2.2.1, cPn (ad 6) (ad 7) pn, cJa cJ (ad 7) 16 pn.1, cCh (ad 8) (ad 9) (2047 : Int32), cIa cI (ad 9) 64 ca, cSn (ad 12) tL (ad 13) (400 : Int32) sl, cJa cJ (ad 13) 3 sl.2.2.2.2, cSn (ad 14) tH (ad 15) (80 : Int32) sh, cJa cJ (ad 15) 3 sh.2.2.2.2, cCh (ad 10) (ad 11) (32000 : Int32), cIa cI (ad 11) 64 ((fC_put (32000 : Int32) cf i j v).2)] H := hP
      have hD : va_D A [cTm ad k tc tm, cWh (ad 1) wc wh, cAg (ad 2) (ad 3) (ad 4) (ad 5) k ag, cZa cZ (ad 3) (5 * k) ag.1, cJa cJ (ad 4) (5 * k) ag.2.1, cIa cI (ad 5) (5 * k) ag.2.2.1, cPn (ad 6) (ad 7) pn, cJa cJ (ad 7) 16 pn.1, cCh (ad 8) (ad 9) (2047 : Int32), cIa cI (ad 9) 64 ca, cSn (ad 12) tL (ad 13) (400 : Int32) sl, cJa cJ (ad 13) 3 sl.2.2.2.2, cSn (ad 14) tH (ad 15) (80 : Int32) sh, cJa cJ (ad 15) 3 sh.2.2.2.2, cCh (ad 10) (ad 11) (32000 : Int32), cIa cI (ad 11) 64 ((fC_put (32000 : Int32) cf i j v).2)] := hD
      generalize hq5 : fC_put (32000 : Int32) cf i j v = q5 at hP hD ⊢
      have hP : va_P D vwCl [cTm ad k tc tm, cWh (ad 1) wc wh, cAg (ad 2) (ad 3) (ad 4) (ad 5) k ag, cZa cZ (ad 3) (5 * k) ag.1, cJa cJ (ad 4) (5 * k) ag.2.1, cIa cI (ad 5) (5 * k) ag.2.2.1, cPn (ad 6) (ad 7) pn, cJa cJ (ad 7) 16 pn.1, cCh (ad 8) (ad 9) (2047 : Int32), cIa cI (ad 9) 64 ca, cSn (ad 12) tL (ad 13) (400 : Int32) sl, cJa cJ (ad 13) 3 sl.2.2.2.2, cSn (ad 14) tH (ad 15) (80 : Int32) sh, cJa cJ (ad 15) 3 sh.2.2.2.2, cCh (ad 10) (ad 11) (32000 : Int32), cIa cI (ad 11) 64 q5.2] H := hP
      have hD : va_D A [cTm ad k tc tm, cWh (ad 1) wc wh, cAg (ad 2) (ad 3) (ad 4) (ad 5) k ag, cZa cZ (ad 3) (5 * k) ag.1, cJa cJ (ad 4) (5 * k) ag.2.1, cIa cI (ad 5) (5 * k) ag.2.2.1, cPn (ad 6) (ad 7) pn, cJa cJ (ad 7) 16 pn.1, cCh (ad 8) (ad 9) (2047 : Int32), cIa cI (ad 9) 64 ca, cSn (ad 12) tL (ad 13) (400 : Int32) sl, cJa cJ (ad 13) 3 sl.2.2.2.2, cSn (ad 14) tH (ad 15) (80 : Int32) sh, cJa cJ (ad 15) 3 sh.2.2.2.2, cCh (ad 10) (ad 11) (32000 : Int32), cIa cI (ad 11) 64 q5.2] := hD
      refine lv_if_eq (tgt := 28) hx hb dT_set_21 (by decide) (fun h6 => ?_) (fun h6 => ?_)
      · -- taken at 21
        refine lv_iconst (v := (0 : Int32)) hx hb dT_set_28 (by decide) ?_
        have hP := hP.sub (ws' := [cTm ad k tc tm, cWh (ad 1) wc wh, cAg (ad 2) (ad 3) (ad 4) (ad 5) k ag, cZa cZ (ad 3) (5 * k) ag.1, cJa cJ (ad 4) (5 * k) ag.2.1, cIa cI (ad 5) (5 * k) ag.2.2.1, cPn (ad 6) (ad 7) pn, cJa cJ (ad 7) 16 pn.1, cCh (ad 8) (ad 9) (2047 : Int32), cIa cI (ad 9) 64 ca, cCh (ad 10) (ad 11) (32000 : Int32), cIa cI (ad 11) 64 q5.2, cSn (ad 12) tL (ad 13) (400 : Int32) sl, cJa cJ (ad 13) 3 sl.2.2.2.2, cSn (ad 14) tH (ad 15) (80 : Int32) sh, cJa cJ (ad 15) 3 sh.2.2.2.2]) [0, 1, 2, 3, 4, 5, 6, 7, 8, 9, 14, 15, 10, 11, 12, 13] rfl
        have hD := hD.sub (ws' := [cTm ad k tc tm, cWh (ad 1) wc wh, cAg (ad 2) (ad 3) (ad 4) (ad 5) k ag, cZa cZ (ad 3) (5 * k) ag.1, cJa cJ (ad 4) (5 * k) ag.2.1, cIa cI (ad 5) (5 * k) ag.2.2.1, cPn (ad 6) (ad 7) pn, cJa cJ (ad 7) 16 pn.1, cCh (ad 8) (ad 9) (2047 : Int32), cIa cI (ad 9) 64 ca, cCh (ad 10) (ad 11) (32000 : Int32), cIa cI (ad 11) 64 q5.2, cSn (ad 12) tL (ad 13) (400 : Int32) sl, cJa cJ (ad 13) 3 sl.2.2.2.2, cSn (ad 14) tH (ad 15) (80 : Int32) sh, cJa cJ (ad 15) 3 sh.2.2.2.2]) [0, 1, 2, 3, 4, 5, 6, 7, 8, 9, 14, 15, 10, 11, 12, 13] (by decide) rfl
        exact k_zret hx hb hr hlk (zn_b (Or.inl rfl)) hP hD hS dT_set_29 () (by simp only [fT_set, if_neg h1, if_pos h4, hq5, if_pos h6]) (by simp only [fT_set, if_neg h1, if_pos h4, hq5, if_pos h6])
      · -- not taken at 21
        refine lv_iconst (v := (1 : Int32)) hx hb dT_set_24 (by decide) ?_
        refine lv_goto (tgt := 29) hx hb dT_set_25 (by decide) ?_
        have hP := hP.sub (ws' := [cTm ad k tc tm, cWh (ad 1) wc wh, cAg (ad 2) (ad 3) (ad 4) (ad 5) k ag, cZa cZ (ad 3) (5 * k) ag.1, cJa cJ (ad 4) (5 * k) ag.2.1, cIa cI (ad 5) (5 * k) ag.2.2.1, cPn (ad 6) (ad 7) pn, cJa cJ (ad 7) 16 pn.1, cCh (ad 8) (ad 9) (2047 : Int32), cIa cI (ad 9) 64 ca, cCh (ad 10) (ad 11) (32000 : Int32), cIa cI (ad 11) 64 q5.2, cSn (ad 12) tL (ad 13) (400 : Int32) sl, cJa cJ (ad 13) 3 sl.2.2.2.2, cSn (ad 14) tH (ad 15) (80 : Int32) sh, cJa cJ (ad 15) 3 sh.2.2.2.2]) [0, 1, 2, 3, 4, 5, 6, 7, 8, 9, 14, 15, 10, 11, 12, 13] rfl
        have hD := hD.sub (ws' := [cTm ad k tc tm, cWh (ad 1) wc wh, cAg (ad 2) (ad 3) (ad 4) (ad 5) k ag, cZa cZ (ad 3) (5 * k) ag.1, cJa cJ (ad 4) (5 * k) ag.2.1, cIa cI (ad 5) (5 * k) ag.2.2.1, cPn (ad 6) (ad 7) pn, cJa cJ (ad 7) 16 pn.1, cCh (ad 8) (ad 9) (2047 : Int32), cIa cI (ad 9) 64 ca, cCh (ad 10) (ad 11) (32000 : Int32), cIa cI (ad 11) 64 q5.2, cSn (ad 12) tL (ad 13) (400 : Int32) sl, cJa cJ (ad 13) 3 sl.2.2.2.2, cSn (ad 14) tH (ad 15) (80 : Int32) sh, cJa cJ (ad 15) 3 sh.2.2.2.2]) [0, 1, 2, 3, 4, 5, 6, 7, 8, 9, 14, 15, 10, 11, 12, 13] (by decide) rfl
        exact k_zret hx hb hr hlk (zn_b (Or.inr rfl)) hP hD hS dT_set_29 () (by simp only [fT_set, if_neg h1, if_pos h4, hq5, if_neg h6]) (by simp only [fT_set, if_neg h1, if_pos h4, hq5, if_neg h6])
    · -- no
      refine lv_aload_n hx hb dT_set_0 rfl (lv_at hl 0 rfl) ?_
      refine lv_iload_n hx hb dT_set_1 rfl (lv_at hl 1 rfl) ?_
      refine k_ca0 (wc := [cTm ad k tc tm, cWh (ad 1) wc wh, cAg (ad 2) (ad 3) (ad 4) (ad 5) k ag, cZa cZ (ad 3) (5 * k) ag.1, cJa cJ (ad 4) (5 * k) ag.2.1, cIa cI (ad 5) (5 * k) ag.2.2.1, cPn (ad 6) (ad 7) pn, cJa cJ (ad 7) 16 pn.1, cCh (ad 8) (ad 9) (2047 : Int32), cIa cI (ad 9) 64 ca, cCh (ad 10) (ad 11) (32000 : Int32), cIa cI (ad 11) 64 cf, cSn (ad 12) tL (ad 13) (400 : Int32) sl, cJa cJ (ad 13) 3 sl.2.2.2.2, cSn (ad 14) tH (ad 15) (80 : Int32) sh, cJa cJ (ad 15) 3 sh.2.2.2.2]) (wr := []) (va_runV (As := [.int ch]) (rest := []) ⟨hx, hb, hml, hown, hts⟩ (ctT_chartOfn l D cZ cI cJ tL tH H.size ad k wc tc tm wh ag pn ca cf sl sh ch hk hcy h1 h4) (cwT_89 hts hN rfl rfl ⟨Nat.le_of_ble_eq_true rfl, Nat.le_of_ble_eq_true rfl⟩) (k_preV hK hN hT hA hS hP hD [0, 1, 2, 3, 4, 5, 6, 7, 8, 9, 10, 11, 12, 13, 14, 15] rfl (by decide) 0 rfl rfl) rfl rfl hl.1 rfl (lv_room (Nat.le_of_ble_eq_true rfl)) dT_set_2 ⟨Nat.zero_le _, Nat.zero_le _⟩) hP hD hS hA [0, 1, 2, 3, 4, 5, 6, 7, 8, 9, 10, 11, 12, 13, 14, 15] [] rfl rfl (by decide) (by decide) (fun _ H locs hP hD hS => ?_)
      refine W.eq (g2 := F0 m 5 ls [.null]) rfl ?_
      have hP : va_P D vwCl [cTm ad k tc tm, cWh (ad 1) wc wh, cAg (ad 2) (ad 3) (ad 4) (ad 5) k ag, cZa cZ (ad 3) (5 * k) ag.1, cJa cJ (ad 4) (5 * k) ag.2.1, cIa cI (ad 5) (5 * k) ag.2.2.1, cPn (ad 6) (ad 7) pn, cJa cJ (ad 7) 16 pn.1, cCh (ad 8) (ad 9) (2047 : Int32), cIa cI (ad 9) 64 ca, cCh (ad 10) (ad 11) (32000 : Int32), cIa cI (ad 11) 64 cf, cSn (ad 12) tL (ad 13) (400 : Int32) sl, cJa cJ (ad 13) 3 sl.2.2.2.2, cSn (ad 14) tH (ad 15) (80 : Int32) sh, cJa cJ (ad 15) 3 sh.2.2.2.2] H := hP
      have hD : va_D A [cTm ad k tc tm, cWh (ad 1) wc wh, cAg (ad 2) (ad 3) (ad 4) (ad 5) k ag, cZa cZ (ad 3) (5 * k) ag.1, cJa cJ (ad 4) (5 * k) ag.2.1, cIa cI (ad 5) (5 * k) ag.2.2.1, cPn (ad 6) (ad 7) pn, cJa cJ (ad 7) 16 pn.1, cCh (ad 8) (ad 9) (2047 : Int32), cIa cI (ad 9) 64 ca, cCh (ad 10) (ad 11) (32000 : Int32), cIa cI (ad 11) 64 cf, cSn (ad 12) tL (ad 13) (400 : Int32) sl, cJa cJ (ad 13) 3 sl.2.2.2.2, cSn (ad 14) tH (ad 15) (80 : Int32) sh, cJa cJ (ad 15) 3 sh.2.2.2.2] := hD
      refine lv_astoreN (lv' := [(5, .null), (0, .ref (ad 0)), (1, .int ch), (2, .int i), (3, .int j), (4, .int v)]) hx hb dT_set_5 hl (by decide) rfl (fun ls hl => ?_)
      refine lv_aloadN hx hb dT_set_7 (lv_at hl 0 rfl) ?_
      refine lv_ifnullN (tgt := 28) hx hb dT_set_9 (by decide) ?_
      refine lv_iconst (v := (0 : Int32)) hx hb dT_set_28 (by decide) ?_
      exact k_zret hx hb hr hlk (zn_b (Or.inl rfl)) hP hD hS dT_set_29 () (by simp only [fT_set, if_neg h1, if_neg h4]) (by simp only [fT_set, if_neg h1, if_neg h4])

def fT_look (k : Nat) (wc : WcT) (tc : TcT) (tm : TmT) (wh : WhT) (ag : AgT) (pn : PnT) (ca : ChT) (cf : ChT) (sl : SnT) (sh : SnT) (ch : Int32) (x : Int32) (y : Int32) : Int32 :=
  if ch = 0 then
    let q2 := fC_at (2047 : Int32) ca x y
    q2
  else
    if ch = (1 : Int32) then
      let q4 := fC_at (32000 : Int32) cf x y
      q4
    else
      (-1 : Int32)
set_option maxRecDepth 100000 in
set_option maxHeartbeats 4000000 in
theorem ctT_look (l : Launch) (D : va_G) (cZ cI cJ : ClassId) (tL tH : Nat) (sz : Nat) (ad : Nat → Nat) (k : Nat) (wc : WcT) (tc : TcT) (tm : TmT) (wh : WhT) (ag : AgT) (pn : PnT) (ca : ChT) (cf : ChT) (sl : SnT) (sh : SnT) (ch : Int32) (x : Int32) (y : Int32)  (hk : 0 < k ∧ k ≤ 6) (hcy : ¬ wc.2.2 = 0) : Ct l yT_look wT_look ({ frames := 1, cells := 0, slots := 0, locals := 31 }) D (tyG cZ cI cJ) tL tH [.ref (ad 0), .int ch, .int x, .int y] sz [cTm ad k tc tm, cWh (ad 1) wc wh, cAg (ad 2) (ad 3) (ad 4) (ad 5) k ag, cZa cZ (ad 3) (5 * k) ag.1, cJa cJ (ad 4) (5 * k) ag.2.1, cIa cI (ad 5) (5 * k) ag.2.2.1, cPn (ad 6) (ad 7) pn, cJa cJ (ad 7) 16 pn.1, cCh (ad 8) (ad 9) (2047 : Int32), cIa cI (ad 9) 64 ca, cCh (ad 10) (ad 11) (32000 : Int32), cIa cI (ad 11) 64 cf, cSn (ad 12) tL (ad 13) (400 : Int32) sl, cJa cJ (ad 13) 3 sl.2.2.2.2, cSn (ad 14) tH (ad 15) (80 : Int32) sh, cJa cJ (ad 15) 3 sh.2.2.2.2] (fun _ : Unit => some (.int (fT_look k wc tc tm wh ag pn ca cf sl sh ch x y))) (fun _ : Unit => [cTm ad k tc tm, cWh (ad 1) wc wh, cAg (ad 2) (ad 3) (ad 4) (ad 5) k ag, cZa cZ (ad 3) (5 * k) ag.1, cJa cJ (ad 4) (5 * k) ag.2.1, cIa cI (ad 5) (5 * k) ag.2.2.1, cPn (ad 6) (ad 7) pn, cJa cJ (ad 7) 16 pn.1, cCh (ad 8) (ad 9) (2047 : Int32), cIa cI (ad 9) 64 ca, cCh (ad 10) (ad 11) (32000 : Int32), cIa cI (ad 11) 64 cf, cSn (ad 12) tL (ad 13) (400 : Int32) sl, cJa cJ (ad 13) 3 sl.2.2.2.2, cSn (ad 14) tH (ad 15) (80 : Int32) sh, cJa cJ (ad 15) 3 sh.2.2.2.2]) 0 0 := by
  refine k_go (by decide +kernel) (Nat.le_of_ble_eq_true rfl) ?_
  intro p e s m args below meth c A ls H hx hb hr hml hts hown hlk hnm hK hN hT hA hS hP hD hl
  have hown : s.vm.findClass "ToothWheelTimer" = some m.cls := hown
  have hlk : meth.locks = false := hlk
  have hl : lv_has ls 5 [(0, .ref (ad 0)), (1, .int ch), (2, .int x), (3, .int y)] := hl
  by_cases h1 : ch = 0
  · -- yes
    refine lv_aload_n hx hb dT_look_0 rfl (lv_at hl 0 rfl) ?_
    refine lv_iload_n hx hb dT_look_1 rfl (lv_at hl 1 rfl) ?_
    refine k_ca0 (wc := [cTm ad k tc tm, cWh (ad 1) wc wh, cAg (ad 2) (ad 3) (ad 4) (ad 5) k ag, cZa cZ (ad 3) (5 * k) ag.1, cJa cJ (ad 4) (5 * k) ag.2.1, cIa cI (ad 5) (5 * k) ag.2.2.1, cPn (ad 6) (ad 7) pn, cJa cJ (ad 7) 16 pn.1, cCh (ad 8) (ad 9) (2047 : Int32), cIa cI (ad 9) 64 ca, cCh (ad 10) (ad 11) (32000 : Int32), cIa cI (ad 11) 64 cf, cSn (ad 12) tL (ad 13) (400 : Int32) sl, cJa cJ (ad 13) 3 sl.2.2.2.2, cSn (ad 14) tH (ad 15) (80 : Int32) sh, cJa cJ (ad 15) 3 sh.2.2.2.2]) (wr := []) (va_runV (As := [.int ch]) (rest := []) ⟨hx, hb, hml, hown, hts⟩ (ctT_chartOf0 l D cZ cI cJ tL tH H.size ad k wc tc tm wh ag pn ca cf sl sh ch hk hcy h1) (cwT_89 hts hN rfl rfl ⟨Nat.le_of_ble_eq_true rfl, Nat.le_of_ble_eq_true rfl⟩) (k_preV hK hN hT hA hS hP hD [0, 1, 2, 3, 4, 5, 6, 7, 8, 9, 10, 11, 12, 13, 14, 15] rfl (by decide) 0 rfl rfl) rfl rfl hl.1 rfl (lv_room (Nat.le_of_ble_eq_true rfl)) dT_look_2 ⟨Nat.zero_le _, Nat.zero_le _⟩) hP hD hS hA [0, 1, 2, 3, 4, 5, 6, 7, 8, 9, 10, 11, 12, 13, 14, 15] [] rfl rfl (by decide) (by decide) (fun _ H locs hP hD hS => ?_)
    refine W.eq (g2 := F0 m 5 ls [.ref (ad 8)]) rfl ?_
    have hP : va_P D vwCl [cTm ad k tc tm, cWh (ad 1) wc wh, cAg (ad 2) (ad 3) (ad 4) (ad 5) k ag, cZa cZ (ad 3) (5 * k) ag.1, cJa cJ (ad 4) (5 * k) ag.2.1, cIa cI (ad 5) (5 * k) ag.2.2.1, cPn (ad 6) (ad 7) pn, cJa cJ (ad 7) 16 pn.1, cCh (ad 8) (ad 9) (2047 : Int32), cIa cI (ad 9) 64 ca, cCh (ad 10) (ad 11) (32000 : Int32), cIa cI (ad 11) 64 cf, cSn (ad 12) tL (ad 13) (400 : Int32) sl, cJa cJ (ad 13) 3 sl.2.2.2.2, cSn (ad 14) tH (ad 15) (80 : Int32) sh, cJa cJ (ad 15) 3 sh.2.2.2.2] H := hP
    have hD : va_D A [cTm ad k tc tm, cWh (ad 1) wc wh, cAg (ad 2) (ad 3) (ad 4) (ad 5) k ag, cZa cZ (ad 3) (5 * k) ag.1, cJa cJ (ad 4) (5 * k) ag.2.1, cIa cI (ad 5) (5 * k) ag.2.2.1, cPn (ad 6) (ad 7) pn, cJa cJ (ad 7) 16 pn.1, cCh (ad 8) (ad 9) (2047 : Int32), cIa cI (ad 9) 64 ca, cCh (ad 10) (ad 11) (32000 : Int32), cIa cI (ad 11) 64 cf, cSn (ad 12) tL (ad 13) (400 : Int32) sl, cJa cJ (ad 13) 3 sl.2.2.2.2, cSn (ad 14) tH (ad 15) (80 : Int32) sh, cJa cJ (ad 15) 3 sh.2.2.2.2] := hD
    refine lv_astore (lv' := [(4, .ref (ad 8)), (0, .ref (ad 0)), (1, .int ch), (2, .int x), (3, .int y)]) hx hb dT_look_5 hl (by decide) rfl (fun ls hl => ?_)
    refine lv_aload hx hb dT_look_7 (lv_at hl 0 rfl) ?_
    refine lv_ifnonnull (tgt := 16) hx hb dT_look_9 (by decide) ?_
    refine lv_aload hx hb dT_look_16 (lv_at hl 0 rfl) ?_
    refine lv_iload_n hx hb dT_look_18 rfl (lv_at hl 3 rfl) ?_
    refine lv_iload_n hx hb dT_look_19 rfl (lv_at hl 4 rfl) ?_
    refine k_ca0 (wc := [cCh (ad 8) (ad 9) (2047 : Int32), cIa cI (ad 9) 64 ca]) (wr := [cTm ad k tc tm, cWh (ad 1) wc wh, cAg (ad 2) (ad 3) (ad 4) (ad 5) k ag, cZa cZ (ad 3) (5 * k) ag.1, cJa cJ (ad 4) (5 * k) ag.2.1, cIa cI (ad 5) (5 * k) ag.2.2.1, cPn (ad 6) (ad 7) pn, cJa cJ (ad 7) 16 pn.1, cCh (ad 10) (ad 11) (32000 : Int32), cIa cI (ad 11) 64 cf, cSn (ad 12) tL (ad 13) (400 : Int32) sl, cJa cJ (ad 13) 3 sl.2.2.2.2, cSn (ad 14) tH (ad 15) (80 : Int32) sh, cJa cJ (ad 15) 3 sh.2.2.2.2]) (va_runVN (As := [.int x, .int y]) (rest := []) ⟨hx, hb, hml, hown, hts⟩ (ctC_at l D cZ cI cJ tL tH H.size (ad 8) (ad 9) (2047 : Int32) ca x y) (cwT_97 hts hN rfl rfl ⟨Nat.le_of_ble_eq_true rfl, Nat.le_of_ble_eq_true rfl⟩) (k_preV hK hN hT hA hS hP hD [8, 9] rfl (by decide) 8 rfl rfl) rfl rfl hl.1 rfl (lv_room (Nat.le_of_ble_eq_true rfl)) dT_look_20 ⟨Nat.zero_le _, Nat.zero_le _⟩) hP hD hS hA [8, 9] [0, 1, 2, 3, 4, 5, 6, 7, 10, 11, 12, 13, 14, 15] rfl rfl (by decide) (by decide) (fun _ H locs hP hD hS => ?_)
    refine W.eq (g2 := F0 m 23 ls [.int (fC_at (2047 : Int32) ca x y)]) rfl ?_
    have hP : va_P D vwCl [cTm ad k tc tm, cWh (ad 1) wc wh, cAg (ad 2) (ad 3) (ad 4) (ad 5) k ag, cZa cZ (ad 3) (5 * k) ag.1, cJa cJ (ad 4) (5 * k) ag.2.1, cIa cI (ad 5) (5 * k) ag.2.2.1, cPn (ad 6) (ad 7) pn, cJa cJ (ad 7) 16 pn.1, cCh (ad 10) (ad 11) (32000 : Int32), cIa cI (ad 11) 64 cf, cSn (ad 12) tL (ad 13) (400 : Int32) sl, cJa cJ (ad 13) 3 sl.2.2.2.2, cSn (ad 14) tH (ad 15) (80 : Int32) sh, cJa cJ (ad 15) 3 sh.2.2.2.2, cCh (ad 8) (ad 9) (2047 : Int32), cIa cI (ad 9) 64 ca] H := hP
    have hD : va_D A [cTm ad k tc tm, cWh (ad 1) wc wh, cAg (ad 2) (ad 3) (ad 4) (ad 5) k ag, cZa cZ (ad 3) (5 * k) ag.1, cJa cJ (ad 4) (5 * k) ag.2.1, cIa cI (ad 5) (5 * k) ag.2.2.1, cPn (ad 6) (ad 7) pn, cJa cJ (ad 7) 16 pn.1, cCh (ad 10) (ad 11) (32000 : Int32), cIa cI (ad 11) 64 cf, cSn (ad 12) tL (ad 13) (400 : Int32) sl, cJa cJ (ad 13) 3 sl.2.2.2.2, cSn (ad 14) tH (ad 15) (80 : Int32) sh, cJa cJ (ad 15) 3 sh.2.2.2.2, cCh (ad 8) (ad 9) (2047 : Int32), cIa cI (ad 9) 64 ca] := hD
    generalize hq2 : fC_at (2047 : Int32) ca x y = q2 at ⊢
    have hP := hP.sub (ws' := [cTm ad k tc tm, cWh (ad 1) wc wh, cAg (ad 2) (ad 3) (ad 4) (ad 5) k ag, cZa cZ (ad 3) (5 * k) ag.1, cJa cJ (ad 4) (5 * k) ag.2.1, cIa cI (ad 5) (5 * k) ag.2.2.1, cPn (ad 6) (ad 7) pn, cJa cJ (ad 7) 16 pn.1, cCh (ad 8) (ad 9) (2047 : Int32), cIa cI (ad 9) 64 ca, cCh (ad 10) (ad 11) (32000 : Int32), cIa cI (ad 11) 64 cf, cSn (ad 12) tL (ad 13) (400 : Int32) sl, cJa cJ (ad 13) 3 sl.2.2.2.2, cSn (ad 14) tH (ad 15) (80 : Int32) sh, cJa cJ (ad 15) 3 sh.2.2.2.2]) [0, 1, 2, 3, 4, 5, 6, 7, 14, 15, 8, 9, 10, 11, 12, 13] rfl
    have hD := hD.sub (ws' := [cTm ad k tc tm, cWh (ad 1) wc wh, cAg (ad 2) (ad 3) (ad 4) (ad 5) k ag, cZa cZ (ad 3) (5 * k) ag.1, cJa cJ (ad 4) (5 * k) ag.2.1, cIa cI (ad 5) (5 * k) ag.2.2.1, cPn (ad 6) (ad 7) pn, cJa cJ (ad 7) 16 pn.1, cCh (ad 8) (ad 9) (2047 : Int32), cIa cI (ad 9) 64 ca, cCh (ad 10) (ad 11) (32000 : Int32), cIa cI (ad 11) 64 cf, cSn (ad 12) tL (ad 13) (400 : Int32) sl, cJa cJ (ad 13) 3 sl.2.2.2.2, cSn (ad 14) tH (ad 15) (80 : Int32) sh, cJa cJ (ad 15) 3 sh.2.2.2.2]) [0, 1, 2, 3, 4, 5, 6, 7, 14, 15, 8, 9, 10, 11, 12, 13] (by decide) rfl
    exact k_iret hx hb hr hlk hP hD hS dT_look_23 () (by simp only [fT_look, if_pos h1, hq2]) rfl
  · -- no
    by_cases h3 : ch = (1 : Int32)
    · -- yes
      refine lv_aload_n hx hb dT_look_0 rfl (lv_at hl 0 rfl) ?_
      refine lv_iload_n hx hb dT_look_1 rfl (lv_at hl 1 rfl) ?_
      refine k_ca0 (wc := [cTm ad k tc tm, cWh (ad 1) wc wh, cAg (ad 2) (ad 3) (ad 4) (ad 5) k ag, cZa cZ (ad 3) (5 * k) ag.1, cJa cJ (ad 4) (5 * k) ag.2.1, cIa cI (ad 5) (5 * k) ag.2.2.1, cPn (ad 6) (ad 7) pn, cJa cJ (ad 7) 16 pn.1, cCh (ad 8) (ad 9) (2047 : Int32), cIa cI (ad 9) 64 ca, cCh (ad 10) (ad 11) (32000 : Int32), cIa cI (ad 11) 64 cf, cSn (ad 12) tL (ad 13) (400 : Int32) sl, cJa cJ (ad 13) 3 sl.2.2.2.2, cSn (ad 14) tH (ad 15) (80 : Int32) sh, cJa cJ (ad 15) 3 sh.2.2.2.2]) (wr := []) (va_runV (As := [.int ch]) (rest := []) ⟨hx, hb, hml, hown, hts⟩ (ctT_chartOf1 l D cZ cI cJ tL tH H.size ad k wc tc tm wh ag pn ca cf sl sh ch hk hcy h3) (cwT_89 hts hN rfl rfl ⟨Nat.le_of_ble_eq_true rfl, Nat.le_of_ble_eq_true rfl⟩) (k_preV hK hN hT hA hS hP hD [0, 1, 2, 3, 4, 5, 6, 7, 8, 9, 10, 11, 12, 13, 14, 15] rfl (by decide) 0 rfl rfl) rfl rfl hl.1 rfl (lv_room (Nat.le_of_ble_eq_true rfl)) dT_look_2 ⟨Nat.zero_le _, Nat.zero_le _⟩) hP hD hS hA [0, 1, 2, 3, 4, 5, 6, 7, 8, 9, 10, 11, 12, 13, 14, 15] [] rfl rfl (by decide) (by decide) (fun _ H locs hP hD hS => ?_)
      refine W.eq (g2 := F0 m 5 ls [.ref (ad 10)]) rfl ?_
      have hP : va_P D vwCl [cTm ad k tc tm, cWh (ad 1) wc wh, cAg (ad 2) (ad 3) (ad 4) (ad 5) k ag, cZa cZ (ad 3) (5 * k) ag.1, cJa cJ (ad 4) (5 * k) ag.2.1, cIa cI (ad 5) (5 * k) ag.2.2.1, cPn (ad 6) (ad 7) pn, cJa cJ (ad 7) 16 pn.1, cCh (ad 8) (ad 9) (2047 : Int32), cIa cI (ad 9) 64 ca, cCh (ad 10) (ad 11) (32000 : Int32), cIa cI (ad 11) 64 cf, cSn (ad 12) tL (ad 13) (400 : Int32) sl, cJa cJ (ad 13) 3 sl.2.2.2.2, cSn (ad 14) tH (ad 15) (80 : Int32) sh, cJa cJ (ad 15) 3 sh.2.2.2.2] H := hP
      have hD : va_D A [cTm ad k tc tm, cWh (ad 1) wc wh, cAg (ad 2) (ad 3) (ad 4) (ad 5) k ag, cZa cZ (ad 3) (5 * k) ag.1, cJa cJ (ad 4) (5 * k) ag.2.1, cIa cI (ad 5) (5 * k) ag.2.2.1, cPn (ad 6) (ad 7) pn, cJa cJ (ad 7) 16 pn.1, cCh (ad 8) (ad 9) (2047 : Int32), cIa cI (ad 9) 64 ca, cCh (ad 10) (ad 11) (32000 : Int32), cIa cI (ad 11) 64 cf, cSn (ad 12) tL (ad 13) (400 : Int32) sl, cJa cJ (ad 13) 3 sl.2.2.2.2, cSn (ad 14) tH (ad 15) (80 : Int32) sh, cJa cJ (ad 15) 3 sh.2.2.2.2] := hD
      refine lv_astore (lv' := [(4, .ref (ad 10)), (0, .ref (ad 0)), (1, .int ch), (2, .int x), (3, .int y)]) hx hb dT_look_5 hl (by decide) rfl (fun ls hl => ?_)
      refine lv_aload hx hb dT_look_7 (lv_at hl 0 rfl) ?_
      refine lv_ifnonnull (tgt := 16) hx hb dT_look_9 (by decide) ?_
      refine lv_aload hx hb dT_look_16 (lv_at hl 0 rfl) ?_
      refine lv_iload_n hx hb dT_look_18 rfl (lv_at hl 3 rfl) ?_
      refine lv_iload_n hx hb dT_look_19 rfl (lv_at hl 4 rfl) ?_
      refine k_ca0 (wc := [cCh (ad 10) (ad 11) (32000 : Int32), cIa cI (ad 11) 64 cf]) (wr := [cTm ad k tc tm, cWh (ad 1) wc wh, cAg (ad 2) (ad 3) (ad 4) (ad 5) k ag, cZa cZ (ad 3) (5 * k) ag.1, cJa cJ (ad 4) (5 * k) ag.2.1, cIa cI (ad 5) (5 * k) ag.2.2.1, cPn (ad 6) (ad 7) pn, cJa cJ (ad 7) 16 pn.1, cCh (ad 8) (ad 9) (2047 : Int32), cIa cI (ad 9) 64 ca, cSn (ad 12) tL (ad 13) (400 : Int32) sl, cJa cJ (ad 13) 3 sl.2.2.2.2, cSn (ad 14) tH (ad 15) (80 : Int32) sh, cJa cJ (ad 15) 3 sh.2.2.2.2]) (va_runVN (As := [.int x, .int y]) (rest := []) ⟨hx, hb, hml, hown, hts⟩ (ctC_at l D cZ cI cJ tL tH H.size (ad 10) (ad 11) (32000 : Int32) cf x y) (cwT_97 hts hN rfl rfl ⟨Nat.le_of_ble_eq_true rfl, Nat.le_of_ble_eq_true rfl⟩) (k_preV hK hN hT hA hS hP hD [10, 11] rfl (by decide) 10 rfl rfl) rfl rfl hl.1 rfl (lv_room (Nat.le_of_ble_eq_true rfl)) dT_look_20 ⟨Nat.zero_le _, Nat.zero_le _⟩) hP hD hS hA [10, 11] [0, 1, 2, 3, 4, 5, 6, 7, 8, 9, 12, 13, 14, 15] rfl rfl (by decide) (by decide) (fun _ H locs hP hD hS => ?_)
      refine W.eq (g2 := F0 m 23 ls [.int (fC_at (32000 : Int32) cf x y)]) rfl ?_
      have hP : va_P D vwCl [cTm ad k tc tm, cWh (ad 1) wc wh, cAg (ad 2) (ad 3) (ad 4) (ad 5) k ag, cZa cZ (ad 3) (5 * k) ag.1, cJa cJ (ad 4) (5 * k) ag.2.1, cIa cI (ad 5) (5 * k) ag.2.2.1, cPn (ad 6) (ad 7) pn, cJa cJ (ad 7) 16 pn.1, cCh (ad 8) (ad 9) (2047 : Int32), cIa cI (ad 9) 64 ca, cSn (ad 12) tL (ad 13) (400 : Int32) sl, cJa cJ (ad 13) 3 sl.2.2.2.2, cSn (ad 14) tH (ad 15) (80 : Int32) sh, cJa cJ (ad 15) 3 sh.2.2.2.2, cCh (ad 10) (ad 11) (32000 : Int32), cIa cI (ad 11) 64 cf] H := hP
      have hD : va_D A [cTm ad k tc tm, cWh (ad 1) wc wh, cAg (ad 2) (ad 3) (ad 4) (ad 5) k ag, cZa cZ (ad 3) (5 * k) ag.1, cJa cJ (ad 4) (5 * k) ag.2.1, cIa cI (ad 5) (5 * k) ag.2.2.1, cPn (ad 6) (ad 7) pn, cJa cJ (ad 7) 16 pn.1, cCh (ad 8) (ad 9) (2047 : Int32), cIa cI (ad 9) 64 ca, cSn (ad 12) tL (ad 13) (400 : Int32) sl, cJa cJ (ad 13) 3 sl.2.2.2.2, cSn (ad 14) tH (ad 15) (80 : Int32) sh, cJa cJ (ad 15) 3 sh.2.2.2.2, cCh (ad 10) (ad 11) (32000 : Int32), cIa cI (ad 11) 64 cf] := hD
      generalize hq4 : fC_at (32000 : Int32) cf x y = q4 at ⊢
      have hP := hP.sub (ws' := [cTm ad k tc tm, cWh (ad 1) wc wh, cAg (ad 2) (ad 3) (ad 4) (ad 5) k ag, cZa cZ (ad 3) (5 * k) ag.1, cJa cJ (ad 4) (5 * k) ag.2.1, cIa cI (ad 5) (5 * k) ag.2.2.1, cPn (ad 6) (ad 7) pn, cJa cJ (ad 7) 16 pn.1, cCh (ad 8) (ad 9) (2047 : Int32), cIa cI (ad 9) 64 ca, cCh (ad 10) (ad 11) (32000 : Int32), cIa cI (ad 11) 64 cf, cSn (ad 12) tL (ad 13) (400 : Int32) sl, cJa cJ (ad 13) 3 sl.2.2.2.2, cSn (ad 14) tH (ad 15) (80 : Int32) sh, cJa cJ (ad 15) 3 sh.2.2.2.2]) [0, 1, 2, 3, 4, 5, 6, 7, 8, 9, 14, 15, 10, 11, 12, 13] rfl
      have hD := hD.sub (ws' := [cTm ad k tc tm, cWh (ad 1) wc wh, cAg (ad 2) (ad 3) (ad 4) (ad 5) k ag, cZa cZ (ad 3) (5 * k) ag.1, cJa cJ (ad 4) (5 * k) ag.2.1, cIa cI (ad 5) (5 * k) ag.2.2.1, cPn (ad 6) (ad 7) pn, cJa cJ (ad 7) 16 pn.1, cCh (ad 8) (ad 9) (2047 : Int32), cIa cI (ad 9) 64 ca, cCh (ad 10) (ad 11) (32000 : Int32), cIa cI (ad 11) 64 cf, cSn (ad 12) tL (ad 13) (400 : Int32) sl, cJa cJ (ad 13) 3 sl.2.2.2.2, cSn (ad 14) tH (ad 15) (80 : Int32) sh, cJa cJ (ad 15) 3 sh.2.2.2.2]) [0, 1, 2, 3, 4, 5, 6, 7, 8, 9, 14, 15, 10, 11, 12, 13] (by decide) rfl
      exact k_iret hx hb hr hlk hP hD hS dT_look_23 () (by simp only [fT_look, if_neg h1, if_pos h3, hq4]) rfl
    · -- no
      refine lv_aload_n hx hb dT_look_0 rfl (lv_at hl 0 rfl) ?_
      refine lv_iload_n hx hb dT_look_1 rfl (lv_at hl 1 rfl) ?_
      refine k_ca0 (wc := [cTm ad k tc tm, cWh (ad 1) wc wh, cAg (ad 2) (ad 3) (ad 4) (ad 5) k ag, cZa cZ (ad 3) (5 * k) ag.1, cJa cJ (ad 4) (5 * k) ag.2.1, cIa cI (ad 5) (5 * k) ag.2.2.1, cPn (ad 6) (ad 7) pn, cJa cJ (ad 7) 16 pn.1, cCh (ad 8) (ad 9) (2047 : Int32), cIa cI (ad 9) 64 ca, cCh (ad 10) (ad 11) (32000 : Int32), cIa cI (ad 11) 64 cf, cSn (ad 12) tL (ad 13) (400 : Int32) sl, cJa cJ (ad 13) 3 sl.2.2.2.2, cSn (ad 14) tH (ad 15) (80 : Int32) sh, cJa cJ (ad 15) 3 sh.2.2.2.2]) (wr := []) (va_runV (As := [.int ch]) (rest := []) ⟨hx, hb, hml, hown, hts⟩ (ctT_chartOfn l D cZ cI cJ tL tH H.size ad k wc tc tm wh ag pn ca cf sl sh ch hk hcy h1 h3) (cwT_89 hts hN rfl rfl ⟨Nat.le_of_ble_eq_true rfl, Nat.le_of_ble_eq_true rfl⟩) (k_preV hK hN hT hA hS hP hD [0, 1, 2, 3, 4, 5, 6, 7, 8, 9, 10, 11, 12, 13, 14, 15] rfl (by decide) 0 rfl rfl) rfl rfl hl.1 rfl (lv_room (Nat.le_of_ble_eq_true rfl)) dT_look_2 ⟨Nat.zero_le _, Nat.zero_le _⟩) hP hD hS hA [0, 1, 2, 3, 4, 5, 6, 7, 8, 9, 10, 11, 12, 13, 14, 15] [] rfl rfl (by decide) (by decide) (fun _ H locs hP hD hS => ?_)
      refine W.eq (g2 := F0 m 5 ls [.null]) rfl ?_
      have hP : va_P D vwCl [cTm ad k tc tm, cWh (ad 1) wc wh, cAg (ad 2) (ad 3) (ad 4) (ad 5) k ag, cZa cZ (ad 3) (5 * k) ag.1, cJa cJ (ad 4) (5 * k) ag.2.1, cIa cI (ad 5) (5 * k) ag.2.2.1, cPn (ad 6) (ad 7) pn, cJa cJ (ad 7) 16 pn.1, cCh (ad 8) (ad 9) (2047 : Int32), cIa cI (ad 9) 64 ca, cCh (ad 10) (ad 11) (32000 : Int32), cIa cI (ad 11) 64 cf, cSn (ad 12) tL (ad 13) (400 : Int32) sl, cJa cJ (ad 13) 3 sl.2.2.2.2, cSn (ad 14) tH (ad 15) (80 : Int32) sh, cJa cJ (ad 15) 3 sh.2.2.2.2] H := hP
      have hD : va_D A [cTm ad k tc tm, cWh (ad 1) wc wh, cAg (ad 2) (ad 3) (ad 4) (ad 5) k ag, cZa cZ (ad 3) (5 * k) ag.1, cJa cJ (ad 4) (5 * k) ag.2.1, cIa cI (ad 5) (5 * k) ag.2.2.1, cPn (ad 6) (ad 7) pn, cJa cJ (ad 7) 16 pn.1, cCh (ad 8) (ad 9) (2047 : Int32), cIa cI (ad 9) 64 ca, cCh (ad 10) (ad 11) (32000 : Int32), cIa cI (ad 11) 64 cf, cSn (ad 12) tL (ad 13) (400 : Int32) sl, cJa cJ (ad 13) 3 sl.2.2.2.2, cSn (ad 14) tH (ad 15) (80 : Int32) sh, cJa cJ (ad 15) 3 sh.2.2.2.2] := hD
      refine lv_astoreN (lv' := [(4, .null), (0, .ref (ad 0)), (1, .int ch), (2, .int x), (3, .int y)]) hx hb dT_look_5 hl (by decide) rfl (fun ls hl => ?_)
      refine lv_aloadN hx hb dT_look_7 (lv_at hl 0 rfl) ?_
      refine lv_ifnonnullN hx hb dT_look_9 ?_
      refine lv_iconst (v := (-1 : Int32)) hx hb dT_look_12 (by decide) ?_
      refine lv_goto (tgt := 23) hx hb dT_look_13 (by decide) ?_
      exact k_iret hx hb hr hlk hP hD hS dT_look_23 () (by simp only [fT_look, if_neg h1, if_neg h3]) rfl

def fT_sample (k : Nat) (wc : WcT) (tc : TcT) (tm : TmT) (wh : WhT) (ag : AgT) (pn : PnT) (ca : ChT) (cf : ChT) (sl : SnT) (sh : SnT) (se : Int32) (sv : Int32) : Int32 × SnT × SnT :=
  if se = 0 then
    let q2 := fS_take lc (400 : Int32) sl sv
    if q2.1 = 0 then
      let q4 := fS_wantsCode lc (400 : Int32) q2.2
      if q4 = 0 then
        (q2.1, q2.2, sh)
      else
        let q6 := fS_reading lc (400 : Int32) q2.2
        let q7 := fS_storeCode lc (400 : Int32) q2.2 tm.1 wh.2.2.2.1 q6
        (q2.1, q7, sh)
    else
      (q2.1, q2.2, sh)
  else
    if se = (1 : Int32) then
      let q9 := fS_take hc (80 : Int32) sh sv
      if q9.1 = 0 then
        let q11 := fS_wantsCode hc (80 : Int32) q9.2
        if q11 = 0 then
          (q9.1, sl, q9.2)
        else
          let q13 := fS_reading lc (400 : Int32) sl
          let q14 := fS_storeCode hc (80 : Int32) q9.2 tm.1 wh.2.2.2.1 q13
          (q9.1, sl, q14)
      else
        (q9.1, sl, q9.2)
    else
      ((0 : Int32), sl, sh)
set_option maxRecDepth 100000 in
set_option maxHeartbeats 4000000 in
theorem ctT_sample (l : Launch) (D : va_G) (cZ cI cJ : ClassId) (tL tH : Nat) (sz : Nat) (ad : Nat → Nat) (k : Nat) (wc : WcT) (tc : TcT) (tm : TmT) (wh : WhT) (ag : AgT) (pn : PnT) (ca : ChT) (cf : ChT) (sl : SnT) (sh : SnT) (se : Int32) (sv : Int32)  (hk : 0 < k ∧ k ≤ 6) (hcy : ¬ wc.2.2 = 0) : Ct l yT_sample wT_sample ({ frames := 3, cells := 0, slots := 0, locals := 66 }) D (tyG cZ cI cJ) tL tH [.ref (ad 0), .int se, .int sv] sz [cTm ad k tc tm, cWh (ad 1) wc wh, cAg (ad 2) (ad 3) (ad 4) (ad 5) k ag, cZa cZ (ad 3) (5 * k) ag.1, cJa cJ (ad 4) (5 * k) ag.2.1, cIa cI (ad 5) (5 * k) ag.2.2.1, cPn (ad 6) (ad 7) pn, cJa cJ (ad 7) 16 pn.1, cCh (ad 8) (ad 9) (2047 : Int32), cIa cI (ad 9) 64 ca, cCh (ad 10) (ad 11) (32000 : Int32), cIa cI (ad 11) 64 cf, cSn (ad 12) tL (ad 13) (400 : Int32) sl, cJa cJ (ad 13) 3 sl.2.2.2.2, cSn (ad 14) tH (ad 15) (80 : Int32) sh, cJa cJ (ad 15) 3 sh.2.2.2.2] (fun _ : Unit => some (.int ((fT_sample k wc tc tm wh ag pn ca cf sl sh se sv).1))) (fun _ : Unit => [cTm ad k tc tm, cWh (ad 1) wc wh, cAg (ad 2) (ad 3) (ad 4) (ad 5) k ag, cZa cZ (ad 3) (5 * k) ag.1, cJa cJ (ad 4) (5 * k) ag.2.1, cIa cI (ad 5) (5 * k) ag.2.2.1, cPn (ad 6) (ad 7) pn, cJa cJ (ad 7) 16 pn.1, cCh (ad 8) (ad 9) (2047 : Int32), cIa cI (ad 9) 64 ca, cCh (ad 10) (ad 11) (32000 : Int32), cIa cI (ad 11) 64 cf, cSn (ad 12) tL (ad 13) (400 : Int32) ((fT_sample k wc tc tm wh ag pn ca cf sl sh se sv).2.1), cJa cJ (ad 13) 3 (((fT_sample k wc tc tm wh ag pn ca cf sl sh se sv).2.1).2.2.2.2), cSn (ad 14) tH (ad 15) (80 : Int32) ((fT_sample k wc tc tm wh ag pn ca cf sl sh se sv).2.2), cJa cJ (ad 15) 3 (((fT_sample k wc tc tm wh ag pn ca cf sl sh se sv).2.2).2.2.2.2)]) 0 0 := by
  refine k_go (by decide +kernel) (Nat.le_of_ble_eq_true rfl) ?_
  intro p e s m args below meth c A ls H hx hb hr hml hts hown hlk hnm hK hN hT hA hS hP hD hl
  have hown : s.vm.findClass "ToothWheelTimer" = some m.cls := hown
  have hlk : meth.locks = false := hlk
  have hl : lv_has ls 5 [(0, .ref (ad 0)), (1, .int se), (2, .int sv)] := hl
  by_cases h1 : se = 0
  · -- yes
    refine lv_aload_n hx hb dT_sample_0 rfl (lv_at hl 0 rfl) ?_
    refine lv_iload_n hx hb dT_sample_1 rfl (lv_at hl 1 rfl) ?_
    refine k_ca0 (wc := [cTm ad k tc tm, cWh (ad 1) wc wh, cAg (ad 2) (ad 3) (ad 4) (ad 5) k ag, cZa cZ (ad 3) (5 * k) ag.1, cJa cJ (ad 4) (5 * k) ag.2.1, cIa cI (ad 5) (5 * k) ag.2.2.1, cPn (ad 6) (ad 7) pn, cJa cJ (ad 7) 16 pn.1, cCh (ad 8) (ad 9) (2047 : Int32), cIa cI (ad 9) 64 ca, cCh (ad 10) (ad 11) (32000 : Int32), cIa cI (ad 11) 64 cf, cSn (ad 12) tL (ad 13) (400 : Int32) sl, cJa cJ (ad 13) 3 sl.2.2.2.2, cSn (ad 14) tH (ad 15) (80 : Int32) sh, cJa cJ (ad 15) 3 sh.2.2.2.2]) (wr := []) (va_runV (As := [.int se]) (rest := []) ⟨hx, hb, hml, hown, hts⟩ (ctT_sensorOf0 l D cZ cI cJ tL tH H.size ad k wc tc tm wh ag pn ca cf sl sh se hk hcy h1) (cwT_101 hts hN rfl rfl ⟨Nat.le_of_ble_eq_true rfl, Nat.le_of_ble_eq_true rfl⟩) (k_preV hK hN hT hA hS hP hD [0, 1, 2, 3, 4, 5, 6, 7, 8, 9, 10, 11, 12, 13, 14, 15] rfl (by decide) 0 rfl rfl) rfl rfl hl.1 rfl (lv_room (Nat.le_of_ble_eq_true rfl)) dT_sample_2 ⟨Nat.zero_le _, Nat.zero_le _⟩) hP hD hS hA [0, 1, 2, 3, 4, 5, 6, 7, 8, 9, 10, 11, 12, 13, 14, 15] [] rfl rfl (by decide) (by decide) (fun _ H locs hP hD hS => ?_)
    refine W.eq (g2 := F0 m 5 ls [.ref (ad 12)]) rfl ?_
    have hP : va_P D vwCl [cTm ad k tc tm, cWh (ad 1) wc wh, cAg (ad 2) (ad 3) (ad 4) (ad 5) k ag, cZa cZ (ad 3) (5 * k) ag.1, cJa cJ (ad 4) (5 * k) ag.2.1, cIa cI (ad 5) (5 * k) ag.2.2.1, cPn (ad 6) (ad 7) pn, cJa cJ (ad 7) 16 pn.1, cCh (ad 8) (ad 9) (2047 : Int32), cIa cI (ad 9) 64 ca, cCh (ad 10) (ad 11) (32000 : Int32), cIa cI (ad 11) 64 cf, cSn (ad 12) tL (ad 13) (400 : Int32) sl, cJa cJ (ad 13) 3 sl.2.2.2.2, cSn (ad 14) tH (ad 15) (80 : Int32) sh, cJa cJ (ad 15) 3 sh.2.2.2.2] H := hP
    have hD : va_D A [cTm ad k tc tm, cWh (ad 1) wc wh, cAg (ad 2) (ad 3) (ad 4) (ad 5) k ag, cZa cZ (ad 3) (5 * k) ag.1, cJa cJ (ad 4) (5 * k) ag.2.1, cIa cI (ad 5) (5 * k) ag.2.2.1, cPn (ad 6) (ad 7) pn, cJa cJ (ad 7) 16 pn.1, cCh (ad 8) (ad 9) (2047 : Int32), cIa cI (ad 9) 64 ca, cCh (ad 10) (ad 11) (32000 : Int32), cIa cI (ad 11) 64 cf, cSn (ad 12) tL (ad 13) (400 : Int32) sl, cJa cJ (ad 13) 3 sl.2.2.2.2, cSn (ad 14) tH (ad 15) (80 : Int32) sh, cJa cJ (ad 15) 3 sh.2.2.2.2] := hD
    refine lv_astore_n (lv' := [(3, .ref (ad 12)), (0, .ref (ad 0)), (1, .int se), (2, .int sv)]) hx hb dT_sample_5 rfl hl (by decide) rfl (fun ls hl => ?_)
    refine lv_aload_n hx hb dT_sample_6 rfl (lv_at hl 0 rfl) ?_
    refine lv_ifnonnull (tgt := 12) hx hb dT_sample_7 (by decide) ?_
    refine lv_aload_n hx hb dT_sample_12 rfl (lv_at hl 0 rfl) ?_
    refine lv_iload_n hx hb dT_sample_13 rfl (lv_at hl 3 rfl) ?_
    refine k_ca0 (wc := [cSn (ad 12) tL (ad 13) (400 : Int32) sl, cJa cJ (ad 13) 3 sl.2.2.2.2]) (wr := [cTm ad k tc tm, cWh (ad 1) wc wh, cAg (ad 2) (ad 3) (ad 4) (ad 5) k ag, cZa cZ (ad 3) (5 * k) ag.1, cJa cJ (ad 4) (5 * k) ag.2.1, cIa cI (ad 5) (5 * k) ag.2.2.1, cPn (ad 6) (ad 7) pn, cJa cJ (ad 7) 16 pn.1, cCh (ad 8) (ad 9) (2047 : Int32), cIa cI (ad 9) 64 ca, cCh (ad 10) (ad 11) (32000 : Int32), cIa cI (ad 11) 64 cf, cSn (ad 14) tH (ad 15) (80 : Int32) sh, cJa cJ (ad 15) 3 sh.2.2.2.2]) (va_runVN (As := [.int sv]) (rest := []) ⟨hx, hb, hml, hown, hts⟩ (ctS_take l D cZ cI cJ tL tH H.size (ad 12) (ad 13) tL lc (400 : Int32) sl sv (fun _ _ _ h => h.1)) (cwT_105 hts hN rfl rfl ⟨Nat.le_of_ble_eq_true rfl, Nat.le_of_ble_eq_true rfl⟩) (k_preV hK hN hT hA hS hP hD [12, 13] rfl (by decide) 12 rfl rfl) rfl rfl hl.1 rfl (lv_room (Nat.le_of_ble_eq_true rfl)) dT_sample_14 ⟨Nat.zero_le _, Nat.zero_le _⟩) hP hD hS hA [12, 13] [0, 1, 2, 3, 4, 5, 6, 7, 8, 9, 10, 11, 14, 15] rfl rfl (by decide) (by decide) (fun _ H locs hP hD hS => ?_)
    refine W.eq (g2 := F0 m 17 ls [.int ((fS_take lc (400 : Int32) sl sv).1)]) rfl ?_
    have hP : va_P D vwCl [cTm ad k tc tm, cWh (ad 1) wc wh, cAg (ad 2) (ad 3) (ad 4) (ad 5) k ag, cZa cZ (ad 3) (5 * k) ag.1, cJa cJ (ad 4) (5 * k) ag.2.1, cIa cI (ad 5) (5 * k) ag.2.2.1, cPn (ad 6) (ad 7) pn, cJa cJ (ad 7) 16 pn.1, cCh (ad 8) (ad 9) (2047 : Int32), cIa cI (ad 9) 64 ca, cCh (ad 10) (ad 11) (32000 : Int32), cIa cI (ad 11) 64 cf, cSn (ad 14) tH (ad 15) (80 : Int32) sh, cJa cJ (ad 15) 3 sh.2.2.2.2, cSn (ad 12) tL (ad 13) (400 : Int32) ((fS_take lc (400 : Int32) sl sv).2), cJa cJ (ad 13) 3 (((fS_take lc (400 : Int32) sl sv).2).2.2.2.2)] H := hP
    have hD : va_D A [cTm ad k tc tm, cWh (ad 1) wc wh, cAg (ad 2) (ad 3) (ad 4) (ad 5) k ag, cZa cZ (ad 3) (5 * k) ag.1, cJa cJ (ad 4) (5 * k) ag.2.1, cIa cI (ad 5) (5 * k) ag.2.2.1, cPn (ad 6) (ad 7) pn, cJa cJ (ad 7) 16 pn.1, cCh (ad 8) (ad 9) (2047 : Int32), cIa cI (ad 9) 64 ca, cCh (ad 10) (ad 11) (32000 : Int32), cIa cI (ad 11) 64 cf, cSn (ad 14) tH (ad 15) (80 : Int32) sh, cJa cJ (ad 15) 3 sh.2.2.2.2, cSn (ad 12) tL (ad 13) (400 : Int32) ((fS_take lc (400 : Int32) sl sv).2), cJa cJ (ad 13) 3 (((fS_take lc (400 : Int32) sl sv).2).2.2.2.2)] := hD
    generalize hq2 : fS_take lc (400 : Int32) sl sv = q2 at hP hD ⊢
    have hP : va_P D vwCl [cTm ad k tc tm, cWh (ad 1) wc wh, cAg (ad 2) (ad 3) (ad 4) (ad 5) k ag, cZa cZ (ad 3) (5 * k) ag.1, cJa cJ (ad 4) (5 * k) ag.2.1, cIa cI (ad 5) (5 * k) ag.2.2.1, cPn (ad 6) (ad 7) pn, cJa cJ (ad 7) 16 pn.1, cCh (ad 8) (ad 9) (2047 : Int32), cIa cI (ad 9) 64 ca, cCh (ad 10) (ad 11) (32000 : Int32), cIa cI (ad 11) 64 cf, cSn (ad 14) tH (ad 15) (80 : Int32) sh, cJa cJ (ad 15) 3 sh.2.2.2.2, cSn (ad 12) tL (ad 13) (400 : Int32) q2.2, cJa cJ (ad 13) 3 q2.2.2.2.2.2] H := hP
    have hD : va_D A [cTm ad k tc tm, cWh (ad 1) wc wh, cAg (ad 2) (ad 3) (ad 4) (ad 5) k ag, cZa cZ (ad 3) (5 * k) ag.1, cJa cJ (ad 4) (5 * k) ag.2.1, cIa cI (ad 5) (5 * k) ag.2.2.1, cPn (ad 6) (ad 7) pn, cJa cJ (ad 7) 16 pn.1, cCh (ad 8) (ad 9) (2047 : Int32), cIa cI (ad 9) 64 ca, cCh (ad 10) (ad 11) (32000 : Int32), cIa cI (ad 11) 64 cf, cSn (ad 14) tH (ad 15) (80 : Int32) sh, cJa cJ (ad 15) 3 sh.2.2.2.2, cSn (ad 12) tL (ad 13) (400 : Int32) q2.2, cJa cJ (ad 13) 3 q2.2.2.2.2.2] := hD
    refine lv_istore (lv' := [(4, .int q2.1), (3, .ref (ad 12)), (0, .ref (ad 0)), (1, .int se), (2, .int sv)]) hx hb dT_sample_17 hl (by decide) rfl (fun ls hl => ?_)
    refine lv_iload hx hb dT_sample_19 (lv_at hl 0 rfl) ?_
    refine lv_if_ne (tgt := 53) hx hb dT_sample_21 (by decide) (fun h3 => ?_) (fun h3 => ?_)
    · -- taken at 21
      refine lv_iload hx hb dT_sample_53 (lv_at hl 0 rfl) ?_
      have hP := hP.sub (ws' := [cTm ad k tc tm, cWh (ad 1) wc wh, cAg (ad 2) (ad 3) (ad 4) (ad 5) k ag, cZa cZ (ad 3) (5 * k) ag.1, cJa cJ (ad 4) (5 * k) ag.2.1, cIa cI (ad 5) (5 * k) ag.2.2.1, cPn (ad 6) (ad 7) pn, cJa cJ (ad 7) 16 pn.1, cCh (ad 8) (ad 9) (2047 : Int32), cIa cI (ad 9) 64 ca, cCh (ad 10) (ad 11) (32000 : Int32), cIa cI (ad 11) 64 cf, cSn (ad 12) tL (ad 13) (400 : Int32) q2.2, cJa cJ (ad 13) 3 q2.2.2.2.2.2, cSn (ad 14) tH (ad 15) (80 : Int32) sh, cJa cJ (ad 15) 3 sh.2.2.2.2]) [0, 1, 2, 3, 4, 5, 6, 7, 8, 9, 10, 11, 14, 15, 12, 13] rfl
      have hD := hD.sub (ws' := [cTm ad k tc tm, cWh (ad 1) wc wh, cAg (ad 2) (ad 3) (ad 4) (ad 5) k ag, cZa cZ (ad 3) (5 * k) ag.1, cJa cJ (ad 4) (5 * k) ag.2.1, cIa cI (ad 5) (5 * k) ag.2.2.1, cPn (ad 6) (ad 7) pn, cJa cJ (ad 7) 16 pn.1, cCh (ad 8) (ad 9) (2047 : Int32), cIa cI (ad 9) 64 ca, cCh (ad 10) (ad 11) (32000 : Int32), cIa cI (ad 11) 64 cf, cSn (ad 12) tL (ad 13) (400 : Int32) q2.2, cJa cJ (ad 13) 3 q2.2.2.2.2.2, cSn (ad 14) tH (ad 15) (80 : Int32) sh, cJa cJ (ad 15) 3 sh.2.2.2.2]) [0, 1, 2, 3, 4, 5, 6, 7, 8, 9, 10, 11, 14, 15, 12, 13] (by decide) rfl
      exact k_zret hx hb hr hlk (zn_b (hq2 ▸ zbS_take lc (400 : Int32) sl sv)) hP hD hS dT_sample_55 () (by simp only [fT_sample, if_pos h1, hq2, if_neg h3]) (by simp only [fT_sample, if_pos h1, hq2, if_neg h3])
    · -- not taken at 21
      refine lv_aload_n hx hb dT_sample_24 rfl (lv_at hl 1 rfl) ?_
      refine k_ca0 (wc := [cSn (ad 12) tL (ad 13) (400 : Int32) q2.2, cJa cJ (ad 13) 3 q2.2.2.2.2.2]) (wr := [cTm ad k tc tm, cWh (ad 1) wc wh, cAg (ad 2) (ad 3) (ad 4) (ad 5) k ag, cZa cZ (ad 3) (5 * k) ag.1, cJa cJ (ad 4) (5 * k) ag.2.1, cIa cI (ad 5) (5 * k) ag.2.2.1, cPn (ad 6) (ad 7) pn, cJa cJ (ad 7) 16 pn.1, cCh (ad 8) (ad 9) (2047 : Int32), cIa cI (ad 9) 64 ca, cCh (ad 10) (ad 11) (32000 : Int32), cIa cI (ad 11) 64 cf, cSn (ad 14) tH (ad 15) (80 : Int32) sh, cJa cJ (ad 15) 3 sh.2.2.2.2]) (va_runVN (As := []) (rest := []) ⟨hx, hb, hml, hown, hts⟩ (ctS_wantsCode l D cZ cI cJ tL tH H.size (ad 12) (ad 13) tL lc (400 : Int32) q2.2 (fun _ _ _ h => h.1)) (cwT_109 hts hN rfl rfl ⟨Nat.le_of_ble_eq_true rfl, Nat.le_of_ble_eq_true rfl⟩) (k_preV hK hN hT hA hS hP hD [14, 15] rfl (by decide) 14 rfl rfl) rfl rfl hl.1 rfl (lv_room (Nat.le_of_ble_eq_true rfl)) dT_sample_25 ⟨Nat.zero_le _, Nat.zero_le _⟩) hP hD hS hA [14, 15] [0, 1, 2, 3, 4, 5, 6, 7, 8, 9, 10, 11, 12, 13] rfl rfl (by decide) (by decide) (fun _ H locs hP hD hS => ?_)
      refine W.eq (g2 := F0 m 28 ls [.int (fS_wantsCode lc (400 : Int32) q2.2)]) rfl ?_
      have hP : va_P D vwCl [cTm ad k tc tm, cWh (ad 1) wc wh, cAg (ad 2) (ad 3) (ad 4) (ad 5) k ag, cZa cZ (ad 3) (5 * k) ag.1, cJa cJ (ad 4) (5 * k) ag.2.1, cIa cI (ad 5) (5 * k) ag.2.2.1, cPn (ad 6) (ad 7) pn, cJa cJ (ad 7) 16 pn.1, cCh (ad 8) (ad 9) (2047 : Int32), cIa cI (ad 9) 64 ca, cCh (ad 10) (ad 11) (32000 : Int32), cIa cI (ad 11) 64 cf, cSn (ad 14) tH (ad 15) (80 : Int32) sh, cJa cJ (ad 15) 3 sh.2.2.2.2, cSn (ad 12) tL (ad 13) (400 : Int32) q2.2, cJa cJ (ad 13) 3 q2.2.2.2.2.2] H := hP
      have hD : va_D A [cTm ad k tc tm, cWh (ad 1) wc wh, cAg (ad 2) (ad 3) (ad 4) (ad 5) k ag, cZa cZ (ad 3) (5 * k) ag.1, cJa cJ (ad 4) (5 * k) ag.2.1, cIa cI (ad 5) (5 * k) ag.2.2.1, cPn (ad 6) (ad 7) pn, cJa cJ (ad 7) 16 pn.1, cCh (ad 8) (ad 9) (2047 : Int32), cIa cI (ad 9) 64 ca, cCh (ad 10) (ad 11) (32000 : Int32), cIa cI (ad 11) 64 cf, cSn (ad 14) tH (ad 15) (80 : Int32) sh, cJa cJ (ad 15) 3 sh.2.2.2.2, cSn (ad 12) tL (ad 13) (400 : Int32) q2.2, cJa cJ (ad 13) 3 q2.2.2.2.2.2] := hD
      generalize hq4 : fS_wantsCode lc (400 : Int32) q2.2 = q4 at ⊢
      refine lv_if_eq (tgt := 53) hx hb dT_sample_28 (by decide) (fun h5 => ?_) (fun h5 => ?_)
      · -- taken at 28
        refine lv_iload hx hb dT_sample_53 (lv_at hl 0 rfl) ?_
        have hP := hP.sub (ws' := [cTm ad k tc tm, cWh (ad 1) wc wh, cAg (ad 2) (ad 3) (ad 4) (ad 5) k ag, cZa cZ (ad 3) (5 * k) ag.1, cJa cJ (ad 4) (5 * k) ag.2.1, cIa cI (ad 5) (5 * k) ag.2.2.1, cPn (ad 6) (ad 7) pn, cJa cJ (ad 7) 16 pn.1, cCh (ad 8) (ad 9) (2047 : Int32), cIa cI (ad 9) 64 ca, cCh (ad 10) (ad 11) (32000 : Int32), cIa cI (ad 11) 64 cf, cSn (ad 12) tL (ad 13) (400 : Int32) q2.2, cJa cJ (ad 13) 3 q2.2.2.2.2.2, cSn (ad 14) tH (ad 15) (80 : Int32) sh, cJa cJ (ad 15) 3 sh.2.2.2.2]) [0, 1, 2, 3, 4, 5, 6, 7, 8, 9, 10, 11, 14, 15, 12, 13] rfl
        have hD := hD.sub (ws' := [cTm ad k tc tm, cWh (ad 1) wc wh, cAg (ad 2) (ad 3) (ad 4) (ad 5) k ag, cZa cZ (ad 3) (5 * k) ag.1, cJa cJ (ad 4) (5 * k) ag.2.1, cIa cI (ad 5) (5 * k) ag.2.2.1, cPn (ad 6) (ad 7) pn, cJa cJ (ad 7) 16 pn.1, cCh (ad 8) (ad 9) (2047 : Int32), cIa cI (ad 9) 64 ca, cCh (ad 10) (ad 11) (32000 : Int32), cIa cI (ad 11) 64 cf, cSn (ad 12) tL (ad 13) (400 : Int32) q2.2, cJa cJ (ad 13) 3 q2.2.2.2.2.2, cSn (ad 14) tH (ad 15) (80 : Int32) sh, cJa cJ (ad 15) 3 sh.2.2.2.2]) [0, 1, 2, 3, 4, 5, 6, 7, 8, 9, 10, 11, 14, 15, 12, 13] (by decide) rfl
        exact k_zret hx hb hr hlk (zn_b (hq2 ▸ zbS_take lc (400 : Int32) sl sv)) hP hD hS dT_sample_55 () (by simp only [fT_sample, if_pos h1, hq2, if_pos h3, hq4, if_pos h5]) (by simp only [fT_sample, if_pos h1, hq2, if_pos h3, hq4, if_pos h5])
      · -- not taken at 28
        refine lv_aload_n hx hb dT_sample_31 rfl (lv_at hl 1 rfl) ?_
        refine lv_aload_n hx hb dT_sample_32 rfl (lv_at hl 2 rfl) ?_
        refine gfT_47 hx hb hts hown hN hK hP 0 rfl (v := .long tm.1) rfl dT_sample_33 ?_
        refine lv_aload_n hx hb dT_sample_36 rfl (lv_at hl 2 rfl) ?_
        refine gfT_78 hx hb hts hown hN hK hP 0 rfl (v := .ref (ad 1)) rfl dT_sample_37 ?_
        refine gfT_113 hx hb hts hown hN hK hP 1 rfl (v := .long wh.2.2.2.1) rfl dT_sample_40 ?_
        refine lv_aload_n hx hb dT_sample_43 rfl (lv_at hl 2 rfl) ?_
        refine gfT_37 hx hb hts hown hN hK hP 0 rfl (v := .ref (ad 12)) rfl dT_sample_44 ?_
        refine k_ca0 (wc := [cSn (ad 12) tL (ad 13) (400 : Int32) q2.2, cJa cJ (ad 13) 3 q2.2.2.2.2.2]) (wr := [cTm ad k tc tm, cWh (ad 1) wc wh, cAg (ad 2) (ad 3) (ad 4) (ad 5) k ag, cZa cZ (ad 3) (5 * k) ag.1, cJa cJ (ad 4) (5 * k) ag.2.1, cIa cI (ad 5) (5 * k) ag.2.2.1, cPn (ad 6) (ad 7) pn, cJa cJ (ad 7) 16 pn.1, cCh (ad 8) (ad 9) (2047 : Int32), cIa cI (ad 9) 64 ca, cCh (ad 10) (ad 11) (32000 : Int32), cIa cI (ad 11) 64 cf, cSn (ad 14) tH (ad 15) (80 : Int32) sh, cJa cJ (ad 15) 3 sh.2.2.2.2]) (va_runVN (As := []) (rest := [.long wh.2.2.2.1, .long tm.1, .ref (ad 12)]) ⟨hx, hb, hml, hown, hts⟩ (ctS_reading l D cZ cI cJ tL tH H.size (ad 12) (ad 13) tL lc (400 : Int32) q2.2 (fun _ _ _ h => h.1)) (cwT_116 hts hN rfl rfl ⟨Nat.le_of_ble_eq_true rfl, Nat.le_of_ble_eq_true rfl⟩) (k_preV hK hN hT hA hS hP hD [14, 15] rfl (by decide) 14 rfl rfl) rfl rfl hl.1 rfl (lv_room (Nat.le_of_ble_eq_true rfl)) dT_sample_47 ⟨Nat.zero_le _, Nat.zero_le _⟩) hP hD hS hA [14, 15] [0, 1, 2, 3, 4, 5, 6, 7, 8, 9, 10, 11, 12, 13] rfl rfl (by decide) (by decide) (fun _ H locs hP hD hS => ?_)
        refine W.eq (g2 := F0 m 50 ls [.int (fS_reading lc (400 : Int32) q2.2), .long wh.2.2.2.1, .long tm.1, .ref (ad 12)]) rfl ?_
        have hP : va_P D vwCl [cTm ad k tc tm, cWh (ad 1) wc wh, cAg (ad 2) (ad 3) (ad 4) (ad 5) k ag, cZa cZ (ad 3) (5 * k) ag.1, cJa cJ (ad 4) (5 * k) ag.2.1, cIa cI (ad 5) (5 * k) ag.2.2.1, cPn (ad 6) (ad 7) pn, cJa cJ (ad 7) 16 pn.1, cCh (ad 8) (ad 9) (2047 : Int32), cIa cI (ad 9) 64 ca, cCh (ad 10) (ad 11) (32000 : Int32), cIa cI (ad 11) 64 cf, cSn (ad 14) tH (ad 15) (80 : Int32) sh, cJa cJ (ad 15) 3 sh.2.2.2.2, cSn (ad 12) tL (ad 13) (400 : Int32) q2.2, cJa cJ (ad 13) 3 q2.2.2.2.2.2] H := hP
        have hD : va_D A [cTm ad k tc tm, cWh (ad 1) wc wh, cAg (ad 2) (ad 3) (ad 4) (ad 5) k ag, cZa cZ (ad 3) (5 * k) ag.1, cJa cJ (ad 4) (5 * k) ag.2.1, cIa cI (ad 5) (5 * k) ag.2.2.1, cPn (ad 6) (ad 7) pn, cJa cJ (ad 7) 16 pn.1, cCh (ad 8) (ad 9) (2047 : Int32), cIa cI (ad 9) 64 ca, cCh (ad 10) (ad 11) (32000 : Int32), cIa cI (ad 11) 64 cf, cSn (ad 14) tH (ad 15) (80 : Int32) sh, cJa cJ (ad 15) 3 sh.2.2.2.2, cSn (ad 12) tL (ad 13) (400 : Int32) q2.2, cJa cJ (ad 13) 3 q2.2.2.2.2.2] := hD
        generalize hq6 : fS_reading lc (400 : Int32) q2.2 = q6 at ⊢
        refine k_ca0 (wc := [cSn (ad 12) tL (ad 13) (400 : Int32) q2.2, cJa cJ (ad 13) 3 q2.2.2.2.2.2]) (wr := [cTm ad k tc tm, cWh (ad 1) wc wh, cAg (ad 2) (ad 3) (ad 4) (ad 5) k ag, cZa cZ (ad 3) (5 * k) ag.1, cJa cJ (ad 4) (5 * k) ag.2.1, cIa cI (ad 5) (5 * k) ag.2.2.1, cPn (ad 6) (ad 7) pn, cJa cJ (ad 7) 16 pn.1, cCh (ad 8) (ad 9) (2047 : Int32), cIa cI (ad 9) 64 ca, cCh (ad 10) (ad 11) (32000 : Int32), cIa cI (ad 11) 64 cf, cSn (ad 14) tH (ad 15) (80 : Int32) sh, cJa cJ (ad 15) 3 sh.2.2.2.2]) (va_runVN (As := [.long tm.1, .long wh.2.2.2.1, .int q6]) (rest := []) ⟨hx, hb, hml, hown, hts⟩ (ctS_storeCode l D cZ cI cJ tL tH H.size (ad 12) (ad 13) tL lc (400 : Int32) q2.2 tm.1 wh.2.2.2.1 q6 (fun _ _ _ h => h.1)) (cwT_120 hts hN rfl rfl ⟨Nat.le_of_ble_eq_true rfl, Nat.le_of_ble_eq_true rfl⟩) (k_preV hK hN hT hA hS hP hD [14, 15] rfl (by decide) 14 rfl rfl) rfl rfl hl.1 rfl (lv_room (Nat.le_of_ble_eq_true rfl)) dT_sample_50 ⟨Nat.zero_le _, Nat.zero_le _⟩) hP hD hS hA [14, 15] [0, 1, 2, 3, 4, 5, 6, 7, 8, 9, 10, 11, 12, 13] rfl rfl (by decide) (by decide) (fun _ H locs hP hD hS => ?_)
        refine W.eq (g2 := F0 m 53 ls []) rfl ?_
        have hP : va_P D vwCl [cTm ad k tc tm, cWh (ad 1) wc wh, cAg (ad 2) (ad 3) (ad 4) (ad 5) k ag, cZa cZ (ad 3) (5 * k) ag.1, cJa cJ (ad 4) (5 * k) ag.2.1, cIa cI (ad 5) (5 * k) ag.2.2.1, cPn (ad 6) (ad 7) pn, cJa cJ (ad 7) 16 pn.1, cCh (ad 8) (ad 9) (2047 : Int32), cIa cI (ad 9) 64 ca, cCh (ad 10) (ad 11) (32000 : Int32), cIa cI (ad 11) 64 cf, cSn (ad 14) tH (ad 15) (80 : Int32) sh, cJa cJ (ad 15) 3 sh.2.2.2.2, cSn (ad 12) tL (ad 13) (400 : Int32) (fS_storeCode lc (400 : Int32) q2.2 tm.1 wh.2.2.2.1 q6), cJa cJ (ad 13) 3 ((fS_storeCode lc (400 : Int32) q2.2 tm.1 wh.2.2.2.1 q6).2.2.2.2)] H := hP
        have hD : va_D A [cTm ad k tc tm, cWh (ad 1) wc wh, cAg (ad 2) (ad 3) (ad 4) (ad 5) k ag, cZa cZ (ad 3) (5 * k) ag.1, cJa cJ (ad 4) (5 * k) ag.2.1, cIa cI (ad 5) (5 * k) ag.2.2.1, cPn (ad 6) (ad 7) pn, cJa cJ (ad 7) 16 pn.1, cCh (ad 8) (ad 9) (2047 : Int32), cIa cI (ad 9) 64 ca, cCh (ad 10) (ad 11) (32000 : Int32), cIa cI (ad 11) 64 cf, cSn (ad 14) tH (ad 15) (80 : Int32) sh, cJa cJ (ad 15) 3 sh.2.2.2.2, cSn (ad 12) tL (ad 13) (400 : Int32) (fS_storeCode lc (400 : Int32) q2.2 tm.1 wh.2.2.2.1 q6), cJa cJ (ad 13) 3 ((fS_storeCode lc (400 : Int32) q2.2 tm.1 wh.2.2.2.1 q6).2.2.2.2)] := hD
        generalize hq7 : fS_storeCode lc (400 : Int32) q2.2 tm.1 wh.2.2.2.1 q6 = q7 at hP hD 
        have hP : va_P D vwCl [cTm ad k tc tm, cWh (ad 1) wc wh, cAg (ad 2) (ad 3) (ad 4) (ad 5) k ag, cZa cZ (ad 3) (5 * k) ag.1, cJa cJ (ad 4) (5 * k) ag.2.1, cIa cI (ad 5) (5 * k) ag.2.2.1, cPn (ad 6) (ad 7) pn, cJa cJ (ad 7) 16 pn.1, cCh (ad 8) (ad 9) (2047 : Int32), cIa cI (ad 9) 64 ca, cCh (ad 10) (ad 11) (32000 : Int32), cIa cI (ad 11) 64 cf, cSn (ad 14) tH (ad 15) (80 : Int32) sh, cJa cJ (ad 15) 3 sh.2.2.2.2, cSn (ad 12) tL (ad 13) (400 : Int32) q7, cJa cJ (ad 13) 3 q7.2.2.2.2] H := hP
        have hD : va_D A [cTm ad k tc tm, cWh (ad 1) wc wh, cAg (ad 2) (ad 3) (ad 4) (ad 5) k ag, cZa cZ (ad 3) (5 * k) ag.1, cJa cJ (ad 4) (5 * k) ag.2.1, cIa cI (ad 5) (5 * k) ag.2.2.1, cPn (ad 6) (ad 7) pn, cJa cJ (ad 7) 16 pn.1, cCh (ad 8) (ad 9) (2047 : Int32), cIa cI (ad 9) 64 ca, cCh (ad 10) (ad 11) (32000 : Int32), cIa cI (ad 11) 64 cf, cSn (ad 14) tH (ad 15) (80 : Int32) sh, cJa cJ (ad 15) 3 sh.2.2.2.2, cSn (ad 12) tL (ad 13) (400 : Int32) q7, cJa cJ (ad 13) 3 q7.2.2.2.2] := hD
        refine lv_iload hx hb dT_sample_53 (lv_at hl 0 rfl) ?_
        have hP := hP.sub (ws' := [cTm ad k tc tm, cWh (ad 1) wc wh, cAg (ad 2) (ad 3) (ad 4) (ad 5) k ag, cZa cZ (ad 3) (5 * k) ag.1, cJa cJ (ad 4) (5 * k) ag.2.1, cIa cI (ad 5) (5 * k) ag.2.2.1, cPn (ad 6) (ad 7) pn, cJa cJ (ad 7) 16 pn.1, cCh (ad 8) (ad 9) (2047 : Int32), cIa cI (ad 9) 64 ca, cCh (ad 10) (ad 11) (32000 : Int32), cIa cI (ad 11) 64 cf, cSn (ad 12) tL (ad 13) (400 : Int32) q7, cJa cJ (ad 13) 3 q7.2.2.2.2, cSn (ad 14) tH (ad 15) (80 : Int32) sh, cJa cJ (ad 15) 3 sh.2.2.2.2]) [0, 1, 2, 3, 4, 5, 6, 7, 8, 9, 10, 11, 14, 15, 12, 13] rfl
        have hD := hD.sub (ws' := [cTm ad k tc tm, cWh (ad 1) wc wh, cAg (ad 2) (ad 3) (ad 4) (ad 5) k ag, cZa cZ (ad 3) (5 * k) ag.1, cJa cJ (ad 4) (5 * k) ag.2.1, cIa cI (ad 5) (5 * k) ag.2.2.1, cPn (ad 6) (ad 7) pn, cJa cJ (ad 7) 16 pn.1, cCh (ad 8) (ad 9) (2047 : Int32), cIa cI (ad 9) 64 ca, cCh (ad 10) (ad 11) (32000 : Int32), cIa cI (ad 11) 64 cf, cSn (ad 12) tL (ad 13) (400 : Int32) q7, cJa cJ (ad 13) 3 q7.2.2.2.2, cSn (ad 14) tH (ad 15) (80 : Int32) sh, cJa cJ (ad 15) 3 sh.2.2.2.2]) [0, 1, 2, 3, 4, 5, 6, 7, 8, 9, 10, 11, 14, 15, 12, 13] (by decide) rfl
        exact k_zret hx hb hr hlk (zn_b (hq2 ▸ zbS_take lc (400 : Int32) sl sv)) hP hD hS dT_sample_55 () (by simp only [fT_sample, if_pos h1, hq2, if_pos h3, hq4, if_neg h5, hq6, hq7]) (by simp only [fT_sample, if_pos h1, hq2, if_pos h3, hq4, if_neg h5, hq6, hq7])
  · -- no
    by_cases h8 : se = (1 : Int32)
    · -- yes
      refine lv_aload_n hx hb dT_sample_0 rfl (lv_at hl 0 rfl) ?_
      refine lv_iload_n hx hb dT_sample_1 rfl (lv_at hl 1 rfl) ?_
      refine k_ca0 (wc := [cTm ad k tc tm, cWh (ad 1) wc wh, cAg (ad 2) (ad 3) (ad 4) (ad 5) k ag, cZa cZ (ad 3) (5 * k) ag.1, cJa cJ (ad 4) (5 * k) ag.2.1, cIa cI (ad 5) (5 * k) ag.2.2.1, cPn (ad 6) (ad 7) pn, cJa cJ (ad 7) 16 pn.1, cCh (ad 8) (ad 9) (2047 : Int32), cIa cI (ad 9) 64 ca, cCh (ad 10) (ad 11) (32000 : Int32), cIa cI (ad 11) 64 cf, cSn (ad 12) tL (ad 13) (400 : Int32) sl, cJa cJ (ad 13) 3 sl.2.2.2.2, cSn (ad 14) tH (ad 15) (80 : Int32) sh, cJa cJ (ad 15) 3 sh.2.2.2.2]) (wr := []) (va_runV (As := [.int se]) (rest := []) ⟨hx, hb, hml, hown, hts⟩ (ctT_sensorOf1 l D cZ cI cJ tL tH H.size ad k wc tc tm wh ag pn ca cf sl sh se hk hcy h8) (cwT_101 hts hN rfl rfl ⟨Nat.le_of_ble_eq_true rfl, Nat.le_of_ble_eq_true rfl⟩) (k_preV hK hN hT hA hS hP hD [0, 1, 2, 3, 4, 5, 6, 7, 8, 9, 10, 11, 12, 13, 14, 15] rfl (by decide) 0 rfl rfl) rfl rfl hl.1 rfl (lv_room (Nat.le_of_ble_eq_true rfl)) dT_sample_2 ⟨Nat.zero_le _, Nat.zero_le _⟩) hP hD hS hA [0, 1, 2, 3, 4, 5, 6, 7, 8, 9, 10, 11, 12, 13, 14, 15] [] rfl rfl (by decide) (by decide) (fun _ H locs hP hD hS => ?_)
      refine W.eq (g2 := F0 m 5 ls [.ref (ad 14)]) rfl ?_
      have hP : va_P D vwCl [cTm ad k tc tm, cWh (ad 1) wc wh, cAg (ad 2) (ad 3) (ad 4) (ad 5) k ag, cZa cZ (ad 3) (5 * k) ag.1, cJa cJ (ad 4) (5 * k) ag.2.1, cIa cI (ad 5) (5 * k) ag.2.2.1, cPn (ad 6) (ad 7) pn, cJa cJ (ad 7) 16 pn.1, cCh (ad 8) (ad 9) (2047 : Int32), cIa cI (ad 9) 64 ca, cCh (ad 10) (ad 11) (32000 : Int32), cIa cI (ad 11) 64 cf, cSn (ad 12) tL (ad 13) (400 : Int32) sl, cJa cJ (ad 13) 3 sl.2.2.2.2, cSn (ad 14) tH (ad 15) (80 : Int32) sh, cJa cJ (ad 15) 3 sh.2.2.2.2] H := hP
      have hD : va_D A [cTm ad k tc tm, cWh (ad 1) wc wh, cAg (ad 2) (ad 3) (ad 4) (ad 5) k ag, cZa cZ (ad 3) (5 * k) ag.1, cJa cJ (ad 4) (5 * k) ag.2.1, cIa cI (ad 5) (5 * k) ag.2.2.1, cPn (ad 6) (ad 7) pn, cJa cJ (ad 7) 16 pn.1, cCh (ad 8) (ad 9) (2047 : Int32), cIa cI (ad 9) 64 ca, cCh (ad 10) (ad 11) (32000 : Int32), cIa cI (ad 11) 64 cf, cSn (ad 12) tL (ad 13) (400 : Int32) sl, cJa cJ (ad 13) 3 sl.2.2.2.2, cSn (ad 14) tH (ad 15) (80 : Int32) sh, cJa cJ (ad 15) 3 sh.2.2.2.2] := hD
      refine lv_astore_n (lv' := [(3, .ref (ad 14)), (0, .ref (ad 0)), (1, .int se), (2, .int sv)]) hx hb dT_sample_5 rfl hl (by decide) rfl (fun ls hl => ?_)
      refine lv_aload_n hx hb dT_sample_6 rfl (lv_at hl 0 rfl) ?_
      refine lv_ifnonnull (tgt := 12) hx hb dT_sample_7 (by decide) ?_
      refine lv_aload_n hx hb dT_sample_12 rfl (lv_at hl 0 rfl) ?_
      refine lv_iload_n hx hb dT_sample_13 rfl (lv_at hl 3 rfl) ?_
      refine k_ca0 (wc := [cSn (ad 14) tH (ad 15) (80 : Int32) sh, cJa cJ (ad 15) 3 sh.2.2.2.2]) (wr := [cTm ad k tc tm, cWh (ad 1) wc wh, cAg (ad 2) (ad 3) (ad 4) (ad 5) k ag, cZa cZ (ad 3) (5 * k) ag.1, cJa cJ (ad 4) (5 * k) ag.2.1, cIa cI (ad 5) (5 * k) ag.2.2.1, cPn (ad 6) (ad 7) pn, cJa cJ (ad 7) 16 pn.1, cCh (ad 8) (ad 9) (2047 : Int32), cIa cI (ad 9) 64 ca, cCh (ad 10) (ad 11) (32000 : Int32), cIa cI (ad 11) 64 cf, cSn (ad 12) tL (ad 13) (400 : Int32) sl, cJa cJ (ad 13) 3 sl.2.2.2.2]) (va_runVN (As := [.int sv]) (rest := []) ⟨hx, hb, hml, hown, hts⟩ (ctS_take l D cZ cI cJ tL tH H.size (ad 14) (ad 15) tH hc (80 : Int32) sh sv (fun _ _ _ h => h.2.1)) (cwT_105 hts hN rfl rfl ⟨Nat.le_of_ble_eq_true rfl, Nat.le_of_ble_eq_true rfl⟩) (k_preV hK hN hT hA hS hP hD [14, 15] rfl (by decide) 14 rfl rfl) rfl rfl hl.1 rfl (lv_room (Nat.le_of_ble_eq_true rfl)) dT_sample_14 ⟨Nat.zero_le _, Nat.zero_le _⟩) hP hD hS hA [14, 15] [0, 1, 2, 3, 4, 5, 6, 7, 8, 9, 10, 11, 12, 13] rfl rfl (by decide) (by decide) (fun _ H locs hP hD hS => ?_)
      refine W.eq (g2 := F0 m 17 ls [.int ((fS_take hc (80 : Int32) sh sv).1)]) rfl ?_
      have hP : va_P D vwCl [cTm ad k tc tm, cWh (ad 1) wc wh, cAg (ad 2) (ad 3) (ad 4) (ad 5) k ag, cZa cZ (ad 3) (5 * k) ag.1, cJa cJ (ad 4) (5 * k) ag.2.1, cIa cI (ad 5) (5 * k) ag.2.2.1, cPn (ad 6) (ad 7) pn, cJa cJ (ad 7) 16 pn.1, cCh (ad 8) (ad 9) (2047 : Int32), cIa cI (ad 9) 64 ca, cCh (ad 10) (ad 11) (32000 : Int32), cIa cI (ad 11) 64 cf, cSn (ad 12) tL (ad 13) (400 : Int32) sl, cJa cJ (ad 13) 3 sl.2.2.2.2, cSn (ad 14) tH (ad 15) (80 : Int32) ((fS_take hc (80 : Int32) sh sv).2), cJa cJ (ad 15) 3 (((fS_take hc (80 : Int32) sh sv).2).2.2.2.2)] H := hP
      have hD : va_D A [cTm ad k tc tm, cWh (ad 1) wc wh, cAg (ad 2) (ad 3) (ad 4) (ad 5) k ag, cZa cZ (ad 3) (5 * k) ag.1, cJa cJ (ad 4) (5 * k) ag.2.1, cIa cI (ad 5) (5 * k) ag.2.2.1, cPn (ad 6) (ad 7) pn, cJa cJ (ad 7) 16 pn.1, cCh (ad 8) (ad 9) (2047 : Int32), cIa cI (ad 9) 64 ca, cCh (ad 10) (ad 11) (32000 : Int32), cIa cI (ad 11) 64 cf, cSn (ad 12) tL (ad 13) (400 : Int32) sl, cJa cJ (ad 13) 3 sl.2.2.2.2, cSn (ad 14) tH (ad 15) (80 : Int32) ((fS_take hc (80 : Int32) sh sv).2), cJa cJ (ad 15) 3 (((fS_take hc (80 : Int32) sh sv).2).2.2.2.2)] := hD
      generalize hq9 : fS_take hc (80 : Int32) sh sv = q9 at hP hD ⊢
      have hP : va_P D vwCl [cTm ad k tc tm, cWh (ad 1) wc wh, cAg (ad 2) (ad 3) (ad 4) (ad 5) k ag, cZa cZ (ad 3) (5 * k) ag.1, cJa cJ (ad 4) (5 * k) ag.2.1, cIa cI (ad 5) (5 * k) ag.2.2.1, cPn (ad 6) (ad 7) pn, cJa cJ (ad 7) 16 pn.1, cCh (ad 8) (ad 9) (2047 : Int32), cIa cI (ad 9) 64 ca, cCh (ad 10) (ad 11) (32000 : Int32), cIa cI (ad 11) 64 cf, cSn (ad 12) tL (ad 13) (400 : Int32) sl, cJa cJ (ad 13) 3 sl.2.2.2.2, cSn (ad 14) tH (ad 15) (80 : Int32) q9.2, cJa cJ (ad 15) 3 q9.2.2.2.2.2] H := hP
      have hD : va_D A [cTm ad k tc tm, cWh (ad 1) wc wh, cAg (ad 2) (ad 3) (ad 4) (ad 5) k ag, cZa cZ (ad 3) (5 * k) ag.1, cJa cJ (ad 4) (5 * k) ag.2.1, cIa cI (ad 5) (5 * k) ag.2.2.1, cPn (ad 6) (ad 7) pn, cJa cJ (ad 7) 16 pn.1, cCh (ad 8) (ad 9) (2047 : Int32), cIa cI (ad 9) 64 ca, cCh (ad 10) (ad 11) (32000 : Int32), cIa cI (ad 11) 64 cf, cSn (ad 12) tL (ad 13) (400 : Int32) sl, cJa cJ (ad 13) 3 sl.2.2.2.2, cSn (ad 14) tH (ad 15) (80 : Int32) q9.2, cJa cJ (ad 15) 3 q9.2.2.2.2.2] := hD
      refine lv_istore (lv' := [(4, .int q9.1), (3, .ref (ad 14)), (0, .ref (ad 0)), (1, .int se), (2, .int sv)]) hx hb dT_sample_17 hl (by decide) rfl (fun ls hl => ?_)
      refine lv_iload hx hb dT_sample_19 (lv_at hl 0 rfl) ?_
      refine lv_if_ne (tgt := 53) hx hb dT_sample_21 (by decide) (fun h10 => ?_) (fun h10 => ?_)
      · -- taken at 21
        refine lv_iload hx hb dT_sample_53 (lv_at hl 0 rfl) ?_
        exact k_zret hx hb hr hlk (zn_b (hq9 ▸ zbS_take hc (80 : Int32) sh sv)) hP hD hS dT_sample_55 () (by simp only [fT_sample, if_neg h1, if_pos h8, hq9, if_neg h10]) (by simp only [fT_sample, if_neg h1, if_pos h8, hq9, if_neg h10])
      · -- not taken at 21
        refine lv_aload_n hx hb dT_sample_24 rfl (lv_at hl 1 rfl) ?_
        refine k_ca0 (wc := [cSn (ad 14) tH (ad 15) (80 : Int32) q9.2, cJa cJ (ad 15) 3 q9.2.2.2.2.2]) (wr := [cTm ad k tc tm, cWh (ad 1) wc wh, cAg (ad 2) (ad 3) (ad 4) (ad 5) k ag, cZa cZ (ad 3) (5 * k) ag.1, cJa cJ (ad 4) (5 * k) ag.2.1, cIa cI (ad 5) (5 * k) ag.2.2.1, cPn (ad 6) (ad 7) pn, cJa cJ (ad 7) 16 pn.1, cCh (ad 8) (ad 9) (2047 : Int32), cIa cI (ad 9) 64 ca, cCh (ad 10) (ad 11) (32000 : Int32), cIa cI (ad 11) 64 cf, cSn (ad 12) tL (ad 13) (400 : Int32) sl, cJa cJ (ad 13) 3 sl.2.2.2.2]) (va_runVN (As := []) (rest := []) ⟨hx, hb, hml, hown, hts⟩ (ctS_wantsCode l D cZ cI cJ tL tH H.size (ad 14) (ad 15) tH hc (80 : Int32) q9.2 (fun _ _ _ h => h.2.1)) (cwT_109 hts hN rfl rfl ⟨Nat.le_of_ble_eq_true rfl, Nat.le_of_ble_eq_true rfl⟩) (k_preV hK hN hT hA hS hP hD [14, 15] rfl (by decide) 14 rfl rfl) rfl rfl hl.1 rfl (lv_room (Nat.le_of_ble_eq_true rfl)) dT_sample_25 ⟨Nat.zero_le _, Nat.zero_le _⟩) hP hD hS hA [14, 15] [0, 1, 2, 3, 4, 5, 6, 7, 8, 9, 10, 11, 12, 13] rfl rfl (by decide) (by decide) (fun _ H locs hP hD hS => ?_)
        refine W.eq (g2 := F0 m 28 ls [.int (fS_wantsCode hc (80 : Int32) q9.2)]) rfl ?_
        have hP : va_P D vwCl [cTm ad k tc tm, cWh (ad 1) wc wh, cAg (ad 2) (ad 3) (ad 4) (ad 5) k ag, cZa cZ (ad 3) (5 * k) ag.1, cJa cJ (ad 4) (5 * k) ag.2.1, cIa cI (ad 5) (5 * k) ag.2.2.1, cPn (ad 6) (ad 7) pn, cJa cJ (ad 7) 16 pn.1, cCh (ad 8) (ad 9) (2047 : Int32), cIa cI (ad 9) 64 ca, cCh (ad 10) (ad 11) (32000 : Int32), cIa cI (ad 11) 64 cf, cSn (ad 12) tL (ad 13) (400 : Int32) sl, cJa cJ (ad 13) 3 sl.2.2.2.2, cSn (ad 14) tH (ad 15) (80 : Int32) q9.2, cJa cJ (ad 15) 3 q9.2.2.2.2.2] H := hP
        have hD : va_D A [cTm ad k tc tm, cWh (ad 1) wc wh, cAg (ad 2) (ad 3) (ad 4) (ad 5) k ag, cZa cZ (ad 3) (5 * k) ag.1, cJa cJ (ad 4) (5 * k) ag.2.1, cIa cI (ad 5) (5 * k) ag.2.2.1, cPn (ad 6) (ad 7) pn, cJa cJ (ad 7) 16 pn.1, cCh (ad 8) (ad 9) (2047 : Int32), cIa cI (ad 9) 64 ca, cCh (ad 10) (ad 11) (32000 : Int32), cIa cI (ad 11) 64 cf, cSn (ad 12) tL (ad 13) (400 : Int32) sl, cJa cJ (ad 13) 3 sl.2.2.2.2, cSn (ad 14) tH (ad 15) (80 : Int32) q9.2, cJa cJ (ad 15) 3 q9.2.2.2.2.2] := hD
        generalize hq11 : fS_wantsCode hc (80 : Int32) q9.2 = q11 at ⊢
        refine lv_if_eq (tgt := 53) hx hb dT_sample_28 (by decide) (fun h12 => ?_) (fun h12 => ?_)
        · -- taken at 28
          refine lv_iload hx hb dT_sample_53 (lv_at hl 0 rfl) ?_
          exact k_zret hx hb hr hlk (zn_b (hq9 ▸ zbS_take hc (80 : Int32) sh sv)) hP hD hS dT_sample_55 () (by simp only [fT_sample, if_neg h1, if_pos h8, hq9, if_pos h10, hq11, if_pos h12]) (by simp only [fT_sample, if_neg h1, if_pos h8, hq9, if_pos h10, hq11, if_pos h12])
        · -- not taken at 28
          refine lv_aload_n hx hb dT_sample_31 rfl (lv_at hl 1 rfl) ?_
          refine lv_aload_n hx hb dT_sample_32 rfl (lv_at hl 2 rfl) ?_
          refine gfT_47 hx hb hts hown hN hK hP 0 rfl (v := .long tm.1) rfl dT_sample_33 ?_
          refine lv_aload_n hx hb dT_sample_36 rfl (lv_at hl 2 rfl) ?_
          refine gfT_78 hx hb hts hown hN hK hP 0 rfl (v := .ref (ad 1)) rfl dT_sample_37 ?_
          refine gfT_113 hx hb hts hown hN hK hP 1 rfl (v := .long wh.2.2.2.1) rfl dT_sample_40 ?_
          refine lv_aload_n hx hb dT_sample_43 rfl (lv_at hl 2 rfl) ?_
          refine gfT_37 hx hb hts hown hN hK hP 0 rfl (v := .ref (ad 12)) rfl dT_sample_44 ?_
          refine k_ca0 (wc := [cSn (ad 12) tL (ad 13) (400 : Int32) sl, cJa cJ (ad 13) 3 sl.2.2.2.2]) (wr := [cTm ad k tc tm, cWh (ad 1) wc wh, cAg (ad 2) (ad 3) (ad 4) (ad 5) k ag, cZa cZ (ad 3) (5 * k) ag.1, cJa cJ (ad 4) (5 * k) ag.2.1, cIa cI (ad 5) (5 * k) ag.2.2.1, cPn (ad 6) (ad 7) pn, cJa cJ (ad 7) 16 pn.1, cCh (ad 8) (ad 9) (2047 : Int32), cIa cI (ad 9) 64 ca, cCh (ad 10) (ad 11) (32000 : Int32), cIa cI (ad 11) 64 cf, cSn (ad 14) tH (ad 15) (80 : Int32) q9.2, cJa cJ (ad 15) 3 q9.2.2.2.2.2]) (va_runVN (As := []) (rest := [.long wh.2.2.2.1, .long tm.1, .ref (ad 14)]) ⟨hx, hb, hml, hown, hts⟩ (ctS_reading l D cZ cI cJ tL tH H.size (ad 12) (ad 13) tL lc (400 : Int32) sl (fun _ _ _ h => h.1)) (cwT_116 hts hN rfl rfl ⟨Nat.le_of_ble_eq_true rfl, Nat.le_of_ble_eq_true rfl⟩) (k_preV hK hN hT hA hS hP hD [12, 13] rfl (by decide) 12 rfl rfl) rfl rfl hl.1 rfl (lv_room (Nat.le_of_ble_eq_true rfl)) dT_sample_47 ⟨Nat.zero_le _, Nat.zero_le _⟩) hP hD hS hA [12, 13] [0, 1, 2, 3, 4, 5, 6, 7, 8, 9, 10, 11, 14, 15] rfl rfl (by decide) (by decide) (fun _ H locs hP hD hS => ?_)
          refine W.eq (g2 := F0 m 50 ls [.int (fS_reading lc (400 : Int32) sl), .long wh.2.2.2.1, .long tm.1, .ref (ad 14)]) rfl ?_
          have hP : va_P D vwCl [cTm ad k tc tm, cWh (ad 1) wc wh, cAg (ad 2) (ad 3) (ad 4) (ad 5) k ag, cZa cZ (ad 3) (5 * k) ag.1, cJa cJ (ad 4) (5 * k) ag.2.1, cIa cI (ad 5) (5 * k) ag.2.2.1, cPn (ad 6) (ad 7) pn, cJa cJ (ad 7) 16 pn.1, cCh (ad 8) (ad 9) (2047 : Int32), cIa cI (ad 9) 64 ca, cCh (ad 10) (ad 11) (32000 : Int32), cIa cI (ad 11) 64 cf, cSn (ad 14) tH (ad 15) (80 : Int32) q9.2, cJa cJ (ad 15) 3 q9.2.2.2.2.2, cSn (ad 12) tL (ad 13) (400 : Int32) sl, cJa cJ (ad 13) 3 sl.2.2.2.2] H := hP
          have hD : va_D A [cTm ad k tc tm, cWh (ad 1) wc wh, cAg (ad 2) (ad 3) (ad 4) (ad 5) k ag, cZa cZ (ad 3) (5 * k) ag.1, cJa cJ (ad 4) (5 * k) ag.2.1, cIa cI (ad 5) (5 * k) ag.2.2.1, cPn (ad 6) (ad 7) pn, cJa cJ (ad 7) 16 pn.1, cCh (ad 8) (ad 9) (2047 : Int32), cIa cI (ad 9) 64 ca, cCh (ad 10) (ad 11) (32000 : Int32), cIa cI (ad 11) 64 cf, cSn (ad 14) tH (ad 15) (80 : Int32) q9.2, cJa cJ (ad 15) 3 q9.2.2.2.2.2, cSn (ad 12) tL (ad 13) (400 : Int32) sl, cJa cJ (ad 13) 3 sl.2.2.2.2] := hD
          generalize hq13 : fS_reading lc (400 : Int32) sl = q13 at ⊢
          refine k_ca0 (wc := [cSn (ad 14) tH (ad 15) (80 : Int32) q9.2, cJa cJ (ad 15) 3 q9.2.2.2.2.2]) (wr := [cTm ad k tc tm, cWh (ad 1) wc wh, cAg (ad 2) (ad 3) (ad 4) (ad 5) k ag, cZa cZ (ad 3) (5 * k) ag.1, cJa cJ (ad 4) (5 * k) ag.2.1, cIa cI (ad 5) (5 * k) ag.2.2.1, cPn (ad 6) (ad 7) pn, cJa cJ (ad 7) 16 pn.1, cCh (ad 8) (ad 9) (2047 : Int32), cIa cI (ad 9) 64 ca, cCh (ad 10) (ad 11) (32000 : Int32), cIa cI (ad 11) 64 cf, cSn (ad 12) tL (ad 13) (400 : Int32) sl, cJa cJ (ad 13) 3 sl.2.2.2.2]) (va_runVN (As := [.long tm.1, .long wh.2.2.2.1, .int q13]) (rest := []) ⟨hx, hb, hml, hown, hts⟩ (ctS_storeCode l D cZ cI cJ tL tH H.size (ad 14) (ad 15) tH hc (80 : Int32) q9.2 tm.1 wh.2.2.2.1 q13 (fun _ _ _ h => h.2.1)) (cwT_120 hts hN rfl rfl ⟨Nat.le_of_ble_eq_true rfl, Nat.le_of_ble_eq_true rfl⟩) (k_preV hK hN hT hA hS hP hD [12, 13] rfl (by decide) 12 rfl rfl) rfl rfl hl.1 rfl (lv_room (Nat.le_of_ble_eq_true rfl)) dT_sample_50 ⟨Nat.zero_le _, Nat.zero_le _⟩) hP hD hS hA [12, 13] [0, 1, 2, 3, 4, 5, 6, 7, 8, 9, 10, 11, 14, 15] rfl rfl (by decide) (by decide) (fun _ H locs hP hD hS => ?_)
          refine W.eq (g2 := F0 m 53 ls []) rfl ?_
          have hP : va_P D vwCl [cTm ad k tc tm, cWh (ad 1) wc wh, cAg (ad 2) (ad 3) (ad 4) (ad 5) k ag, cZa cZ (ad 3) (5 * k) ag.1, cJa cJ (ad 4) (5 * k) ag.2.1, cIa cI (ad 5) (5 * k) ag.2.2.1, cPn (ad 6) (ad 7) pn, cJa cJ (ad 7) 16 pn.1, cCh (ad 8) (ad 9) (2047 : Int32), cIa cI (ad 9) 64 ca, cCh (ad 10) (ad 11) (32000 : Int32), cIa cI (ad 11) 64 cf, cSn (ad 12) tL (ad 13) (400 : Int32) sl, cJa cJ (ad 13) 3 sl.2.2.2.2, cSn (ad 14) tH (ad 15) (80 : Int32) (fS_storeCode hc (80 : Int32) q9.2 tm.1 wh.2.2.2.1 q13), cJa cJ (ad 15) 3 ((fS_storeCode hc (80 : Int32) q9.2 tm.1 wh.2.2.2.1 q13).2.2.2.2)] H := hP
          have hD : va_D A [cTm ad k tc tm, cWh (ad 1) wc wh, cAg (ad 2) (ad 3) (ad 4) (ad 5) k ag, cZa cZ (ad 3) (5 * k) ag.1, cJa cJ (ad 4) (5 * k) ag.2.1, cIa cI (ad 5) (5 * k) ag.2.2.1, cPn (ad 6) (ad 7) pn, cJa cJ (ad 7) 16 pn.1, cCh (ad 8) (ad 9) (2047 : Int32), cIa cI (ad 9) 64 ca, cCh (ad 10) (ad 11) (32000 : Int32), cIa cI (ad 11) 64 cf, cSn (ad 12) tL (ad 13) (400 : Int32) sl, cJa cJ (ad 13) 3 sl.2.2.2.2, cSn (ad 14) tH (ad 15) (80 : Int32) (fS_storeCode hc (80 : Int32) q9.2 tm.1 wh.2.2.2.1 q13), cJa cJ (ad 15) 3 ((fS_storeCode hc (80 : Int32) q9.2 tm.1 wh.2.2.2.1 q13).2.2.2.2)] := hD
          generalize hq14 : fS_storeCode hc (80 : Int32) q9.2 tm.1 wh.2.2.2.1 q13 = q14 at hP hD 
          have hP : va_P D vwCl [cTm ad k tc tm, cWh (ad 1) wc wh, cAg (ad 2) (ad 3) (ad 4) (ad 5) k ag, cZa cZ (ad 3) (5 * k) ag.1, cJa cJ (ad 4) (5 * k) ag.2.1, cIa cI (ad 5) (5 * k) ag.2.2.1, cPn (ad 6) (ad 7) pn, cJa cJ (ad 7) 16 pn.1, cCh (ad 8) (ad 9) (2047 : Int32), cIa cI (ad 9) 64 ca, cCh (ad 10) (ad 11) (32000 : Int32), cIa cI (ad 11) 64 cf, cSn (ad 12) tL (ad 13) (400 : Int32) sl, cJa cJ (ad 13) 3 sl.2.2.2.2, cSn (ad 14) tH (ad 15) (80 : Int32) q14, cJa cJ (ad 15) 3 q14.2.2.2.2] H := hP
          have hD : va_D A [cTm ad k tc tm, cWh (ad 1) wc wh, cAg (ad 2) (ad 3) (ad 4) (ad 5) k ag, cZa cZ (ad 3) (5 * k) ag.1, cJa cJ (ad 4) (5 * k) ag.2.1, cIa cI (ad 5) (5 * k) ag.2.2.1, cPn (ad 6) (ad 7) pn, cJa cJ (ad 7) 16 pn.1, cCh (ad 8) (ad 9) (2047 : Int32), cIa cI (ad 9) 64 ca, cCh (ad 10) (ad 11) (32000 : Int32), cIa cI (ad 11) 64 cf, cSn (ad 12) tL (ad 13) (400 : Int32) sl, cJa cJ (ad 13) 3 sl.2.2.2.2, cSn (ad 14) tH (ad 15) (80 : Int32) q14, cJa cJ (ad 15) 3 q14.2.2.2.2] := hD
          refine lv_iload hx hb dT_sample_53 (lv_at hl 0 rfl) ?_
          exact k_zret hx hb hr hlk (zn_b (hq9 ▸ zbS_take hc (80 : Int32) sh sv)) hP hD hS dT_sample_55 () (by simp only [fT_sample, if_neg h1, if_pos h8, hq9, if_pos h10, hq11, if_neg h12, hq13, hq14]) (by simp only [fT_sample, if_neg h1, if_pos h8, hq9, if_pos h10, hq11, if_neg h12, hq13, hq14])
    · -- no
      refine lv_aload_n hx hb dT_sample_0 rfl (lv_at hl 0 rfl) ?_
      refine lv_iload_n hx hb dT_sample_1 rfl (lv_at hl 1 rfl) ?_
      refine k_ca0 (wc := [cTm ad k tc tm, cWh (ad 1) wc wh, cAg (ad 2) (ad 3) (ad 4) (ad 5) k ag, cZa cZ (ad 3) (5 * k) ag.1, cJa cJ (ad 4) (5 * k) ag.2.1, cIa cI (ad 5) (5 * k) ag.2.2.1, cPn (ad 6) (ad 7) pn, cJa cJ (ad 7) 16 pn.1, cCh (ad 8) (ad 9) (2047 : Int32), cIa cI (ad 9) 64 ca, cCh (ad 10) (ad 11) (32000 : Int32), cIa cI (ad 11) 64 cf, cSn (ad 12) tL (ad 13) (400 : Int32) sl, cJa cJ (ad 13) 3 sl.2.2.2.2, cSn (ad 14) tH (ad 15) (80 : Int32) sh, cJa cJ (ad 15) 3 sh.2.2.2.2]) (wr := []) (va_runV (As := [.int se]) (rest := []) ⟨hx, hb, hml, hown, hts⟩ (ctT_sensorOfn l D cZ cI cJ tL tH H.size ad k wc tc tm wh ag pn ca cf sl sh se hk hcy h1 h8) (cwT_101 hts hN rfl rfl ⟨Nat.le_of_ble_eq_true rfl, Nat.le_of_ble_eq_true rfl⟩) (k_preV hK hN hT hA hS hP hD [0, 1, 2, 3, 4, 5, 6, 7, 8, 9, 10, 11, 12, 13, 14, 15] rfl (by decide) 0 rfl rfl) rfl rfl hl.1 rfl (lv_room (Nat.le_of_ble_eq_true rfl)) dT_sample_2 ⟨Nat.zero_le _, Nat.zero_le _⟩) hP hD hS hA [0, 1, 2, 3, 4, 5, 6, 7, 8, 9, 10, 11, 12, 13, 14, 15] [] rfl rfl (by decide) (by decide) (fun _ H locs hP hD hS => ?_)
      refine W.eq (g2 := F0 m 5 ls [.null]) rfl ?_
      have hP : va_P D vwCl [cTm ad k tc tm, cWh (ad 1) wc wh, cAg (ad 2) (ad 3) (ad 4) (ad 5) k ag, cZa cZ (ad 3) (5 * k) ag.1, cJa cJ (ad 4) (5 * k) ag.2.1, cIa cI (ad 5) (5 * k) ag.2.2.1, cPn (ad 6) (ad 7) pn, cJa cJ (ad 7) 16 pn.1, cCh (ad 8) (ad 9) (2047 : Int32), cIa cI (ad 9) 64 ca, cCh (ad 10) (ad 11) (32000 : Int32), cIa cI (ad 11) 64 cf, cSn (ad 12) tL (ad 13) (400 : Int32) sl, cJa cJ (ad 13) 3 sl.2.2.2.2, cSn (ad 14) tH (ad 15) (80 : Int32) sh, cJa cJ (ad 15) 3 sh.2.2.2.2] H := hP
      have hD : va_D A [cTm ad k tc tm, cWh (ad 1) wc wh, cAg (ad 2) (ad 3) (ad 4) (ad 5) k ag, cZa cZ (ad 3) (5 * k) ag.1, cJa cJ (ad 4) (5 * k) ag.2.1, cIa cI (ad 5) (5 * k) ag.2.2.1, cPn (ad 6) (ad 7) pn, cJa cJ (ad 7) 16 pn.1, cCh (ad 8) (ad 9) (2047 : Int32), cIa cI (ad 9) 64 ca, cCh (ad 10) (ad 11) (32000 : Int32), cIa cI (ad 11) 64 cf, cSn (ad 12) tL (ad 13) (400 : Int32) sl, cJa cJ (ad 13) 3 sl.2.2.2.2, cSn (ad 14) tH (ad 15) (80 : Int32) sh, cJa cJ (ad 15) 3 sh.2.2.2.2] := hD
      refine lv_astore_nN (lv' := [(3, .null), (0, .ref (ad 0)), (1, .int se), (2, .int sv)]) hx hb dT_sample_5 rfl hl (by decide) rfl (fun ls hl => ?_)
      refine lv_aload_nN hx hb dT_sample_6 rfl (lv_at hl 0 rfl) ?_
      refine lv_ifnonnullN hx hb dT_sample_7 ?_
      refine lv_iconst (v := (0 : Int32)) hx hb dT_sample_10 (by decide) ?_
      exact k_zret hx hb hr hlk (zn_b (Or.inl rfl)) hP hD hS dT_sample_11 () (by simp only [fT_sample, if_neg h1, if_neg h8]) (by simp only [fT_sample, if_neg h1, if_neg h8])

def fT_value (k : Nat) (wc : WcT) (tc : TcT) (tm : TmT) (wh : WhT) (ag : AgT) (pn : PnT) (ca : ChT) (cf : ChT) (sl : SnT) (sh : SnT) (se : Int32) : Int32 :=
  if se = 0 then
    let q2 := fS_reading lc (400 : Int32) sl
    q2
  else
    if se = (1 : Int32) then
      let q4 := fS_reading hc (80 : Int32) sh
      q4
    else
      (0 : Int32)
set_option maxRecDepth 100000 in
set_option maxHeartbeats 4000000 in
theorem ctT_value (l : Launch) (D : va_G) (cZ cI cJ : ClassId) (tL tH : Nat) (sz : Nat) (ad : Nat → Nat) (k : Nat) (wc : WcT) (tc : TcT) (tm : TmT) (wh : WhT) (ag : AgT) (pn : PnT) (ca : ChT) (cf : ChT) (sl : SnT) (sh : SnT) (se : Int32)  (hk : 0 < k ∧ k ≤ 6) (hcy : ¬ wc.2.2 = 0) : Ct l yT_value wT_value ({ frames := 1, cells := 0, slots := 0, locals := 21 }) D (tyG cZ cI cJ) tL tH [.ref (ad 0), .int se] sz [cTm ad k tc tm, cWh (ad 1) wc wh, cAg (ad 2) (ad 3) (ad 4) (ad 5) k ag, cZa cZ (ad 3) (5 * k) ag.1, cJa cJ (ad 4) (5 * k) ag.2.1, cIa cI (ad 5) (5 * k) ag.2.2.1, cPn (ad 6) (ad 7) pn, cJa cJ (ad 7) 16 pn.1, cCh (ad 8) (ad 9) (2047 : Int32), cIa cI (ad 9) 64 ca, cCh (ad 10) (ad 11) (32000 : Int32), cIa cI (ad 11) 64 cf, cSn (ad 12) tL (ad 13) (400 : Int32) sl, cJa cJ (ad 13) 3 sl.2.2.2.2, cSn (ad 14) tH (ad 15) (80 : Int32) sh, cJa cJ (ad 15) 3 sh.2.2.2.2] (fun _ : Unit => some (.int (fT_value k wc tc tm wh ag pn ca cf sl sh se))) (fun _ : Unit => [cTm ad k tc tm, cWh (ad 1) wc wh, cAg (ad 2) (ad 3) (ad 4) (ad 5) k ag, cZa cZ (ad 3) (5 * k) ag.1, cJa cJ (ad 4) (5 * k) ag.2.1, cIa cI (ad 5) (5 * k) ag.2.2.1, cPn (ad 6) (ad 7) pn, cJa cJ (ad 7) 16 pn.1, cCh (ad 8) (ad 9) (2047 : Int32), cIa cI (ad 9) 64 ca, cCh (ad 10) (ad 11) (32000 : Int32), cIa cI (ad 11) 64 cf, cSn (ad 12) tL (ad 13) (400 : Int32) sl, cJa cJ (ad 13) 3 sl.2.2.2.2, cSn (ad 14) tH (ad 15) (80 : Int32) sh, cJa cJ (ad 15) 3 sh.2.2.2.2]) 0 0 := by
  refine k_go (by decide +kernel) (Nat.le_of_ble_eq_true rfl) ?_
  intro p e s m args below meth c A ls H hx hb hr hml hts hown hlk hnm hK hN hT hA hS hP hD hl
  have hown : s.vm.findClass "ToothWheelTimer" = some m.cls := hown
  have hlk : meth.locks = false := hlk
  have hl : lv_has ls 3 [(0, .ref (ad 0)), (1, .int se)] := hl
  by_cases h1 : se = 0
  · -- yes
    refine lv_aload_n hx hb dT_value_0 rfl (lv_at hl 0 rfl) ?_
    refine lv_iload_n hx hb dT_value_1 rfl (lv_at hl 1 rfl) ?_
    refine k_ca0 (wc := [cTm ad k tc tm, cWh (ad 1) wc wh, cAg (ad 2) (ad 3) (ad 4) (ad 5) k ag, cZa cZ (ad 3) (5 * k) ag.1, cJa cJ (ad 4) (5 * k) ag.2.1, cIa cI (ad 5) (5 * k) ag.2.2.1, cPn (ad 6) (ad 7) pn, cJa cJ (ad 7) 16 pn.1, cCh (ad 8) (ad 9) (2047 : Int32), cIa cI (ad 9) 64 ca, cCh (ad 10) (ad 11) (32000 : Int32), cIa cI (ad 11) 64 cf, cSn (ad 12) tL (ad 13) (400 : Int32) sl, cJa cJ (ad 13) 3 sl.2.2.2.2, cSn (ad 14) tH (ad 15) (80 : Int32) sh, cJa cJ (ad 15) 3 sh.2.2.2.2]) (wr := []) (va_runV (As := [.int se]) (rest := []) ⟨hx, hb, hml, hown, hts⟩ (ctT_sensorOf0 l D cZ cI cJ tL tH H.size ad k wc tc tm wh ag pn ca cf sl sh se hk hcy h1) (cwT_101 hts hN rfl rfl ⟨Nat.le_of_ble_eq_true rfl, Nat.le_of_ble_eq_true rfl⟩) (k_preV hK hN hT hA hS hP hD [0, 1, 2, 3, 4, 5, 6, 7, 8, 9, 10, 11, 12, 13, 14, 15] rfl (by decide) 0 rfl rfl) rfl rfl hl.1 rfl (lv_room (Nat.le_of_ble_eq_true rfl)) dT_value_2 ⟨Nat.zero_le _, Nat.zero_le _⟩) hP hD hS hA [0, 1, 2, 3, 4, 5, 6, 7, 8, 9, 10, 11, 12, 13, 14, 15] [] rfl rfl (by decide) (by decide) (fun _ H locs hP hD hS => ?_)
    refine W.eq (g2 := F0 m 5 ls [.ref (ad 12)]) rfl ?_
    have hP : va_P D vwCl [cTm ad k tc tm, cWh (ad 1) wc wh, cAg (ad 2) (ad 3) (ad 4) (ad 5) k ag, cZa cZ (ad 3) (5 * k) ag.1, cJa cJ (ad 4) (5 * k) ag.2.1, cIa cI (ad 5) (5 * k) ag.2.2.1, cPn (ad 6) (ad 7) pn, cJa cJ (ad 7) 16 pn.1, cCh (ad 8) (ad 9) (2047 : Int32), cIa cI (ad 9) 64 ca, cCh (ad 10) (ad 11) (32000 : Int32), cIa cI (ad 11) 64 cf, cSn (ad 12) tL (ad 13) (400 : Int32) sl, cJa cJ (ad 13) 3 sl.2.2.2.2, cSn (ad 14) tH (ad 15) (80 : Int32) sh, cJa cJ (ad 15) 3 sh.2.2.2.2] H := hP
    have hD : va_D A [cTm ad k tc tm, cWh (ad 1) wc wh, cAg (ad 2) (ad 3) (ad 4) (ad 5) k ag, cZa cZ (ad 3) (5 * k) ag.1, cJa cJ (ad 4) (5 * k) ag.2.1, cIa cI (ad 5) (5 * k) ag.2.2.1, cPn (ad 6) (ad 7) pn, cJa cJ (ad 7) 16 pn.1, cCh (ad 8) (ad 9) (2047 : Int32), cIa cI (ad 9) 64 ca, cCh (ad 10) (ad 11) (32000 : Int32), cIa cI (ad 11) 64 cf, cSn (ad 12) tL (ad 13) (400 : Int32) sl, cJa cJ (ad 13) 3 sl.2.2.2.2, cSn (ad 14) tH (ad 15) (80 : Int32) sh, cJa cJ (ad 15) 3 sh.2.2.2.2] := hD
    refine lv_astore_n (lv' := [(2, .ref (ad 12)), (0, .ref (ad 0)), (1, .int se)]) hx hb dT_value_5 rfl hl (by decide) rfl (fun ls hl => ?_)
    refine lv_aload_n hx hb dT_value_6 rfl (lv_at hl 0 rfl) ?_
    refine lv_ifnonnull (tgt := 14) hx hb dT_value_7 (by decide) ?_
    refine lv_aload_n hx hb dT_value_14 rfl (lv_at hl 0 rfl) ?_
    refine k_ca0 (wc := [cSn (ad 12) tL (ad 13) (400 : Int32) sl, cJa cJ (ad 13) 3 sl.2.2.2.2]) (wr := [cTm ad k tc tm, cWh (ad 1) wc wh, cAg (ad 2) (ad 3) (ad 4) (ad 5) k ag, cZa cZ (ad 3) (5 * k) ag.1, cJa cJ (ad 4) (5 * k) ag.2.1, cIa cI (ad 5) (5 * k) ag.2.2.1, cPn (ad 6) (ad 7) pn, cJa cJ (ad 7) 16 pn.1, cCh (ad 8) (ad 9) (2047 : Int32), cIa cI (ad 9) 64 ca, cCh (ad 10) (ad 11) (32000 : Int32), cIa cI (ad 11) 64 cf, cSn (ad 14) tH (ad 15) (80 : Int32) sh, cJa cJ (ad 15) 3 sh.2.2.2.2]) (va_runVN (As := []) (rest := []) ⟨hx, hb, hml, hown, hts⟩ (ctS_reading l D cZ cI cJ tL tH H.size (ad 12) (ad 13) tL lc (400 : Int32) sl (fun _ _ _ h => h.1)) (cwT_116 hts hN rfl rfl ⟨Nat.le_of_ble_eq_true rfl, Nat.le_of_ble_eq_true rfl⟩) (k_preV hK hN hT hA hS hP hD [12, 13] rfl (by decide) 12 rfl rfl) rfl rfl hl.1 rfl (lv_room (Nat.le_of_ble_eq_true rfl)) dT_value_15 ⟨Nat.zero_le _, Nat.zero_le _⟩) hP hD hS hA [12, 13] [0, 1, 2, 3, 4, 5, 6, 7, 8, 9, 10, 11, 14, 15] rfl rfl (by decide) (by decide) (fun _ H locs hP hD hS => ?_)
    refine W.eq (g2 := F0 m 18 ls [.int (fS_reading lc (400 : Int32) sl)]) rfl ?_
    have hP : va_P D vwCl [cTm ad k tc tm, cWh (ad 1) wc wh, cAg (ad 2) (ad 3) (ad 4) (ad 5) k ag, cZa cZ (ad 3) (5 * k) ag.1, cJa cJ (ad 4) (5 * k) ag.2.1, cIa cI (ad 5) (5 * k) ag.2.2.1, cPn (ad 6) (ad 7) pn, cJa cJ (ad 7) 16 pn.1, cCh (ad 8) (ad 9) (2047 : Int32), cIa cI (ad 9) 64 ca, cCh (ad 10) (ad 11) (32000 : Int32), cIa cI (ad 11) 64 cf, cSn (ad 14) tH (ad 15) (80 : Int32) sh, cJa cJ (ad 15) 3 sh.2.2.2.2, cSn (ad 12) tL (ad 13) (400 : Int32) sl, cJa cJ (ad 13) 3 sl.2.2.2.2] H := hP
    have hD : va_D A [cTm ad k tc tm, cWh (ad 1) wc wh, cAg (ad 2) (ad 3) (ad 4) (ad 5) k ag, cZa cZ (ad 3) (5 * k) ag.1, cJa cJ (ad 4) (5 * k) ag.2.1, cIa cI (ad 5) (5 * k) ag.2.2.1, cPn (ad 6) (ad 7) pn, cJa cJ (ad 7) 16 pn.1, cCh (ad 8) (ad 9) (2047 : Int32), cIa cI (ad 9) 64 ca, cCh (ad 10) (ad 11) (32000 : Int32), cIa cI (ad 11) 64 cf, cSn (ad 14) tH (ad 15) (80 : Int32) sh, cJa cJ (ad 15) 3 sh.2.2.2.2, cSn (ad 12) tL (ad 13) (400 : Int32) sl, cJa cJ (ad 13) 3 sl.2.2.2.2] := hD
    generalize hq2 : fS_reading lc (400 : Int32) sl = q2 at ⊢
    have hP := hP.sub (ws' := [cTm ad k tc tm, cWh (ad 1) wc wh, cAg (ad 2) (ad 3) (ad 4) (ad 5) k ag, cZa cZ (ad 3) (5 * k) ag.1, cJa cJ (ad 4) (5 * k) ag.2.1, cIa cI (ad 5) (5 * k) ag.2.2.1, cPn (ad 6) (ad 7) pn, cJa cJ (ad 7) 16 pn.1, cCh (ad 8) (ad 9) (2047 : Int32), cIa cI (ad 9) 64 ca, cCh (ad 10) (ad 11) (32000 : Int32), cIa cI (ad 11) 64 cf, cSn (ad 12) tL (ad 13) (400 : Int32) sl, cJa cJ (ad 13) 3 sl.2.2.2.2, cSn (ad 14) tH (ad 15) (80 : Int32) sh, cJa cJ (ad 15) 3 sh.2.2.2.2]) [0, 1, 2, 3, 4, 5, 6, 7, 8, 9, 10, 11, 14, 15, 12, 13] rfl
    have hD := hD.sub (ws' := [cTm ad k tc tm, cWh (ad 1) wc wh, cAg (ad 2) (ad 3) (ad 4) (ad 5) k ag, cZa cZ (ad 3) (5 * k) ag.1, cJa cJ (ad 4) (5 * k) ag.2.1, cIa cI (ad 5) (5 * k) ag.2.2.1, cPn (ad 6) (ad 7) pn, cJa cJ (ad 7) 16 pn.1, cCh (ad 8) (ad 9) (2047 : Int32), cIa cI (ad 9) 64 ca, cCh (ad 10) (ad 11) (32000 : Int32), cIa cI (ad 11) 64 cf, cSn (ad 12) tL (ad 13) (400 : Int32) sl, cJa cJ (ad 13) 3 sl.2.2.2.2, cSn (ad 14) tH (ad 15) (80 : Int32) sh, cJa cJ (ad 15) 3 sh.2.2.2.2]) [0, 1, 2, 3, 4, 5, 6, 7, 8, 9, 10, 11, 14, 15, 12, 13] (by decide) rfl
    exact k_iret hx hb hr hlk hP hD hS dT_value_18 () (by simp only [fT_value, if_pos h1, hq2]) rfl
  · -- no
    by_cases h3 : se = (1 : Int32)
    · -- yes
      refine lv_aload_n hx hb dT_value_0 rfl (lv_at hl 0 rfl) ?_
      refine lv_iload_n hx hb dT_value_1 rfl (lv_at hl 1 rfl) ?_
      refine k_ca0 (wc := [cTm ad k tc tm, cWh (ad 1) wc wh, cAg (ad 2) (ad 3) (ad 4) (ad 5) k ag, cZa cZ (ad 3) (5 * k) ag.1, cJa cJ (ad 4) (5 * k) ag.2.1, cIa cI (ad 5) (5 * k) ag.2.2.1, cPn (ad 6) (ad 7) pn, cJa cJ (ad 7) 16 pn.1, cCh (ad 8) (ad 9) (2047 : Int32), cIa cI (ad 9) 64 ca, cCh (ad 10) (ad 11) (32000 : Int32), cIa cI (ad 11) 64 cf, cSn (ad 12) tL (ad 13) (400 : Int32) sl, cJa cJ (ad 13) 3 sl.2.2.2.2, cSn (ad 14) tH (ad 15) (80 : Int32) sh, cJa cJ (ad 15) 3 sh.2.2.2.2]) (wr := []) (va_runV (As := [.int se]) (rest := []) ⟨hx, hb, hml, hown, hts⟩ (ctT_sensorOf1 l D cZ cI cJ tL tH H.size ad k wc tc tm wh ag pn ca cf sl sh se hk hcy h3) (cwT_101 hts hN rfl rfl ⟨Nat.le_of_ble_eq_true rfl, Nat.le_of_ble_eq_true rfl⟩) (k_preV hK hN hT hA hS hP hD [0, 1, 2, 3, 4, 5, 6, 7, 8, 9, 10, 11, 12, 13, 14, 15] rfl (by decide) 0 rfl rfl) rfl rfl hl.1 rfl (lv_room (Nat.le_of_ble_eq_true rfl)) dT_value_2 ⟨Nat.zero_le _, Nat.zero_le _⟩) hP hD hS hA [0, 1, 2, 3, 4, 5, 6, 7, 8, 9, 10, 11, 12, 13, 14, 15] [] rfl rfl (by decide) (by decide) (fun _ H locs hP hD hS => ?_)
      refine W.eq (g2 := F0 m 5 ls [.ref (ad 14)]) rfl ?_
      have hP : va_P D vwCl [cTm ad k tc tm, cWh (ad 1) wc wh, cAg (ad 2) (ad 3) (ad 4) (ad 5) k ag, cZa cZ (ad 3) (5 * k) ag.1, cJa cJ (ad 4) (5 * k) ag.2.1, cIa cI (ad 5) (5 * k) ag.2.2.1, cPn (ad 6) (ad 7) pn, cJa cJ (ad 7) 16 pn.1, cCh (ad 8) (ad 9) (2047 : Int32), cIa cI (ad 9) 64 ca, cCh (ad 10) (ad 11) (32000 : Int32), cIa cI (ad 11) 64 cf, cSn (ad 12) tL (ad 13) (400 : Int32) sl, cJa cJ (ad 13) 3 sl.2.2.2.2, cSn (ad 14) tH (ad 15) (80 : Int32) sh, cJa cJ (ad 15) 3 sh.2.2.2.2] H := hP
      have hD : va_D A [cTm ad k tc tm, cWh (ad 1) wc wh, cAg (ad 2) (ad 3) (ad 4) (ad 5) k ag, cZa cZ (ad 3) (5 * k) ag.1, cJa cJ (ad 4) (5 * k) ag.2.1, cIa cI (ad 5) (5 * k) ag.2.2.1, cPn (ad 6) (ad 7) pn, cJa cJ (ad 7) 16 pn.1, cCh (ad 8) (ad 9) (2047 : Int32), cIa cI (ad 9) 64 ca, cCh (ad 10) (ad 11) (32000 : Int32), cIa cI (ad 11) 64 cf, cSn (ad 12) tL (ad 13) (400 : Int32) sl, cJa cJ (ad 13) 3 sl.2.2.2.2, cSn (ad 14) tH (ad 15) (80 : Int32) sh, cJa cJ (ad 15) 3 sh.2.2.2.2] := hD
      refine lv_astore_n (lv' := [(2, .ref (ad 14)), (0, .ref (ad 0)), (1, .int se)]) hx hb dT_value_5 rfl hl (by decide) rfl (fun ls hl => ?_)
      refine lv_aload_n hx hb dT_value_6 rfl (lv_at hl 0 rfl) ?_
      refine lv_ifnonnull (tgt := 14) hx hb dT_value_7 (by decide) ?_
      refine lv_aload_n hx hb dT_value_14 rfl (lv_at hl 0 rfl) ?_
      refine k_ca0 (wc := [cSn (ad 14) tH (ad 15) (80 : Int32) sh, cJa cJ (ad 15) 3 sh.2.2.2.2]) (wr := [cTm ad k tc tm, cWh (ad 1) wc wh, cAg (ad 2) (ad 3) (ad 4) (ad 5) k ag, cZa cZ (ad 3) (5 * k) ag.1, cJa cJ (ad 4) (5 * k) ag.2.1, cIa cI (ad 5) (5 * k) ag.2.2.1, cPn (ad 6) (ad 7) pn, cJa cJ (ad 7) 16 pn.1, cCh (ad 8) (ad 9) (2047 : Int32), cIa cI (ad 9) 64 ca, cCh (ad 10) (ad 11) (32000 : Int32), cIa cI (ad 11) 64 cf, cSn (ad 12) tL (ad 13) (400 : Int32) sl, cJa cJ (ad 13) 3 sl.2.2.2.2]) (va_runVN (As := []) (rest := []) ⟨hx, hb, hml, hown, hts⟩ (ctS_reading l D cZ cI cJ tL tH H.size (ad 14) (ad 15) tH hc (80 : Int32) sh (fun _ _ _ h => h.2.1)) (cwT_116 hts hN rfl rfl ⟨Nat.le_of_ble_eq_true rfl, Nat.le_of_ble_eq_true rfl⟩) (k_preV hK hN hT hA hS hP hD [14, 15] rfl (by decide) 14 rfl rfl) rfl rfl hl.1 rfl (lv_room (Nat.le_of_ble_eq_true rfl)) dT_value_15 ⟨Nat.zero_le _, Nat.zero_le _⟩) hP hD hS hA [14, 15] [0, 1, 2, 3, 4, 5, 6, 7, 8, 9, 10, 11, 12, 13] rfl rfl (by decide) (by decide) (fun _ H locs hP hD hS => ?_)
      refine W.eq (g2 := F0 m 18 ls [.int (fS_reading hc (80 : Int32) sh)]) rfl ?_
      have hP : va_P D vwCl [cTm ad k tc tm, cWh (ad 1) wc wh, cAg (ad 2) (ad 3) (ad 4) (ad 5) k ag, cZa cZ (ad 3) (5 * k) ag.1, cJa cJ (ad 4) (5 * k) ag.2.1, cIa cI (ad 5) (5 * k) ag.2.2.1, cPn (ad 6) (ad 7) pn, cJa cJ (ad 7) 16 pn.1, cCh (ad 8) (ad 9) (2047 : Int32), cIa cI (ad 9) 64 ca, cCh (ad 10) (ad 11) (32000 : Int32), cIa cI (ad 11) 64 cf, cSn (ad 12) tL (ad 13) (400 : Int32) sl, cJa cJ (ad 13) 3 sl.2.2.2.2, cSn (ad 14) tH (ad 15) (80 : Int32) sh, cJa cJ (ad 15) 3 sh.2.2.2.2] H := hP
      have hD : va_D A [cTm ad k tc tm, cWh (ad 1) wc wh, cAg (ad 2) (ad 3) (ad 4) (ad 5) k ag, cZa cZ (ad 3) (5 * k) ag.1, cJa cJ (ad 4) (5 * k) ag.2.1, cIa cI (ad 5) (5 * k) ag.2.2.1, cPn (ad 6) (ad 7) pn, cJa cJ (ad 7) 16 pn.1, cCh (ad 8) (ad 9) (2047 : Int32), cIa cI (ad 9) 64 ca, cCh (ad 10) (ad 11) (32000 : Int32), cIa cI (ad 11) 64 cf, cSn (ad 12) tL (ad 13) (400 : Int32) sl, cJa cJ (ad 13) 3 sl.2.2.2.2, cSn (ad 14) tH (ad 15) (80 : Int32) sh, cJa cJ (ad 15) 3 sh.2.2.2.2] := hD
      generalize hq4 : fS_reading hc (80 : Int32) sh = q4 at ⊢
      exact k_iret hx hb hr hlk hP hD hS dT_value_18 () (by simp only [fT_value, if_neg h1, if_pos h3, hq4]) rfl
    · -- no
      refine lv_aload_n hx hb dT_value_0 rfl (lv_at hl 0 rfl) ?_
      refine lv_iload_n hx hb dT_value_1 rfl (lv_at hl 1 rfl) ?_
      refine k_ca0 (wc := [cTm ad k tc tm, cWh (ad 1) wc wh, cAg (ad 2) (ad 3) (ad 4) (ad 5) k ag, cZa cZ (ad 3) (5 * k) ag.1, cJa cJ (ad 4) (5 * k) ag.2.1, cIa cI (ad 5) (5 * k) ag.2.2.1, cPn (ad 6) (ad 7) pn, cJa cJ (ad 7) 16 pn.1, cCh (ad 8) (ad 9) (2047 : Int32), cIa cI (ad 9) 64 ca, cCh (ad 10) (ad 11) (32000 : Int32), cIa cI (ad 11) 64 cf, cSn (ad 12) tL (ad 13) (400 : Int32) sl, cJa cJ (ad 13) 3 sl.2.2.2.2, cSn (ad 14) tH (ad 15) (80 : Int32) sh, cJa cJ (ad 15) 3 sh.2.2.2.2]) (wr := []) (va_runV (As := [.int se]) (rest := []) ⟨hx, hb, hml, hown, hts⟩ (ctT_sensorOfn l D cZ cI cJ tL tH H.size ad k wc tc tm wh ag pn ca cf sl sh se hk hcy h1 h3) (cwT_101 hts hN rfl rfl ⟨Nat.le_of_ble_eq_true rfl, Nat.le_of_ble_eq_true rfl⟩) (k_preV hK hN hT hA hS hP hD [0, 1, 2, 3, 4, 5, 6, 7, 8, 9, 10, 11, 12, 13, 14, 15] rfl (by decide) 0 rfl rfl) rfl rfl hl.1 rfl (lv_room (Nat.le_of_ble_eq_true rfl)) dT_value_2 ⟨Nat.zero_le _, Nat.zero_le _⟩) hP hD hS hA [0, 1, 2, 3, 4, 5, 6, 7, 8, 9, 10, 11, 12, 13, 14, 15] [] rfl rfl (by decide) (by decide) (fun _ H locs hP hD hS => ?_)
      refine W.eq (g2 := F0 m 5 ls [.null]) rfl ?_
      have hP : va_P D vwCl [cTm ad k tc tm, cWh (ad 1) wc wh, cAg (ad 2) (ad 3) (ad 4) (ad 5) k ag, cZa cZ (ad 3) (5 * k) ag.1, cJa cJ (ad 4) (5 * k) ag.2.1, cIa cI (ad 5) (5 * k) ag.2.2.1, cPn (ad 6) (ad 7) pn, cJa cJ (ad 7) 16 pn.1, cCh (ad 8) (ad 9) (2047 : Int32), cIa cI (ad 9) 64 ca, cCh (ad 10) (ad 11) (32000 : Int32), cIa cI (ad 11) 64 cf, cSn (ad 12) tL (ad 13) (400 : Int32) sl, cJa cJ (ad 13) 3 sl.2.2.2.2, cSn (ad 14) tH (ad 15) (80 : Int32) sh, cJa cJ (ad 15) 3 sh.2.2.2.2] H := hP
      have hD : va_D A [cTm ad k tc tm, cWh (ad 1) wc wh, cAg (ad 2) (ad 3) (ad 4) (ad 5) k ag, cZa cZ (ad 3) (5 * k) ag.1, cJa cJ (ad 4) (5 * k) ag.2.1, cIa cI (ad 5) (5 * k) ag.2.2.1, cPn (ad 6) (ad 7) pn, cJa cJ (ad 7) 16 pn.1, cCh (ad 8) (ad 9) (2047 : Int32), cIa cI (ad 9) 64 ca, cCh (ad 10) (ad 11) (32000 : Int32), cIa cI (ad 11) 64 cf, cSn (ad 12) tL (ad 13) (400 : Int32) sl, cJa cJ (ad 13) 3 sl.2.2.2.2, cSn (ad 14) tH (ad 15) (80 : Int32) sh, cJa cJ (ad 15) 3 sh.2.2.2.2] := hD
      refine lv_astore_nN (lv' := [(2, .null), (0, .ref (ad 0)), (1, .int se)]) hx hb dT_value_5 rfl hl (by decide) rfl (fun ls hl => ?_)
      refine lv_aload_nN hx hb dT_value_6 rfl (lv_at hl 0 rfl) ?_
      refine lv_ifnonnullN hx hb dT_value_7 ?_
      refine lv_iconst (v := (0 : Int32)) hx hb dT_value_10 (by decide) ?_
      refine lv_goto (tgt := 18) hx hb dT_value_11 (by decide) ?_
      exact k_iret hx hb hr hlk hP hD hS dT_value_18 () (by simp only [fT_value, if_neg h1, if_neg h3]) rfl

def fT_count (k : Nat) (wc : WcT) (tc : TcT) (tm : TmT) (wh : WhT) (ag : AgT) (pn : PnT) (ca : ChT) (cf : ChT) (sl : SnT) (sh : SnT) (se : Int32) : Int32 :=
  if se = 0 then
    sl.2.2.1
  else
    if se = (1 : Int32) then
      sh.2.2.1
    else
      (-1 : Int32)
set_option maxRecDepth 100000 in
set_option maxHeartbeats 4000000 in
theorem ctT_count (l : Launch) (D : va_G) (cZ cI cJ : ClassId) (tL tH : Nat) (sz : Nat) (ad : Nat → Nat) (k : Nat) (wc : WcT) (tc : TcT) (tm : TmT) (wh : WhT) (ag : AgT) (pn : PnT) (ca : ChT) (cf : ChT) (sl : SnT) (sh : SnT) (se : Int32)  (hk : 0 < k ∧ k ≤ 6) (hcy : ¬ wc.2.2 = 0) : Ct l yT_count wT_count ({ frames := 1, cells := 0, slots := 0, locals := 21 }) D (tyG cZ cI cJ) tL tH [.ref (ad 0), .int se] sz [cTm ad k tc tm, cWh (ad 1) wc wh, cAg (ad 2) (ad 3) (ad 4) (ad 5) k ag, cZa cZ (ad 3) (5 * k) ag.1, cJa cJ (ad 4) (5 * k) ag.2.1, cIa cI (ad 5) (5 * k) ag.2.2.1, cPn (ad 6) (ad 7) pn, cJa cJ (ad 7) 16 pn.1, cCh (ad 8) (ad 9) (2047 : Int32), cIa cI (ad 9) 64 ca, cCh (ad 10) (ad 11) (32000 : Int32), cIa cI (ad 11) 64 cf, cSn (ad 12) tL (ad 13) (400 : Int32) sl, cJa cJ (ad 13) 3 sl.2.2.2.2, cSn (ad 14) tH (ad 15) (80 : Int32) sh, cJa cJ (ad 15) 3 sh.2.2.2.2] (fun _ : Unit => some (.int (fT_count k wc tc tm wh ag pn ca cf sl sh se))) (fun _ : Unit => [cTm ad k tc tm, cWh (ad 1) wc wh, cAg (ad 2) (ad 3) (ad 4) (ad 5) k ag, cZa cZ (ad 3) (5 * k) ag.1, cJa cJ (ad 4) (5 * k) ag.2.1, cIa cI (ad 5) (5 * k) ag.2.2.1, cPn (ad 6) (ad 7) pn, cJa cJ (ad 7) 16 pn.1, cCh (ad 8) (ad 9) (2047 : Int32), cIa cI (ad 9) 64 ca, cCh (ad 10) (ad 11) (32000 : Int32), cIa cI (ad 11) 64 cf, cSn (ad 12) tL (ad 13) (400 : Int32) sl, cJa cJ (ad 13) 3 sl.2.2.2.2, cSn (ad 14) tH (ad 15) (80 : Int32) sh, cJa cJ (ad 15) 3 sh.2.2.2.2]) 0 0 := by
  refine k_go (by decide +kernel) (Nat.le_of_ble_eq_true rfl) ?_
  intro p e s m args below meth c A ls H hx hb hr hml hts hown hlk hnm hK hN hT hA hS hP hD hl
  have hown : s.vm.findClass "ToothWheelTimer" = some m.cls := hown
  have hlk : meth.locks = false := hlk
  have hl : lv_has ls 3 [(0, .ref (ad 0)), (1, .int se)] := hl
  by_cases h1 : se = 0
  · -- yes
    refine lv_aload_n hx hb dT_count_0 rfl (lv_at hl 0 rfl) ?_
    refine lv_iload_n hx hb dT_count_1 rfl (lv_at hl 1 rfl) ?_
    refine k_ca0 (wc := [cTm ad k tc tm, cWh (ad 1) wc wh, cAg (ad 2) (ad 3) (ad 4) (ad 5) k ag, cZa cZ (ad 3) (5 * k) ag.1, cJa cJ (ad 4) (5 * k) ag.2.1, cIa cI (ad 5) (5 * k) ag.2.2.1, cPn (ad 6) (ad 7) pn, cJa cJ (ad 7) 16 pn.1, cCh (ad 8) (ad 9) (2047 : Int32), cIa cI (ad 9) 64 ca, cCh (ad 10) (ad 11) (32000 : Int32), cIa cI (ad 11) 64 cf, cSn (ad 12) tL (ad 13) (400 : Int32) sl, cJa cJ (ad 13) 3 sl.2.2.2.2, cSn (ad 14) tH (ad 15) (80 : Int32) sh, cJa cJ (ad 15) 3 sh.2.2.2.2]) (wr := []) (va_runV (As := [.int se]) (rest := []) ⟨hx, hb, hml, hown, hts⟩ (ctT_sensorOf0 l D cZ cI cJ tL tH H.size ad k wc tc tm wh ag pn ca cf sl sh se hk hcy h1) (cwT_101 hts hN rfl rfl ⟨Nat.le_of_ble_eq_true rfl, Nat.le_of_ble_eq_true rfl⟩) (k_preV hK hN hT hA hS hP hD [0, 1, 2, 3, 4, 5, 6, 7, 8, 9, 10, 11, 12, 13, 14, 15] rfl (by decide) 0 rfl rfl) rfl rfl hl.1 rfl (lv_room (Nat.le_of_ble_eq_true rfl)) dT_count_2 ⟨Nat.zero_le _, Nat.zero_le _⟩) hP hD hS hA [0, 1, 2, 3, 4, 5, 6, 7, 8, 9, 10, 11, 12, 13, 14, 15] [] rfl rfl (by decide) (by decide) (fun _ H locs hP hD hS => ?_)
    refine W.eq (g2 := F0 m 5 ls [.ref (ad 12)]) rfl ?_
    have hP : va_P D vwCl [cTm ad k tc tm, cWh (ad 1) wc wh, cAg (ad 2) (ad 3) (ad 4) (ad 5) k ag, cZa cZ (ad 3) (5 * k) ag.1, cJa cJ (ad 4) (5 * k) ag.2.1, cIa cI (ad 5) (5 * k) ag.2.2.1, cPn (ad 6) (ad 7) pn, cJa cJ (ad 7) 16 pn.1, cCh (ad 8) (ad 9) (2047 : Int32), cIa cI (ad 9) 64 ca, cCh (ad 10) (ad 11) (32000 : Int32), cIa cI (ad 11) 64 cf, cSn (ad 12) tL (ad 13) (400 : Int32) sl, cJa cJ (ad 13) 3 sl.2.2.2.2, cSn (ad 14) tH (ad 15) (80 : Int32) sh, cJa cJ (ad 15) 3 sh.2.2.2.2] H := hP
    have hD : va_D A [cTm ad k tc tm, cWh (ad 1) wc wh, cAg (ad 2) (ad 3) (ad 4) (ad 5) k ag, cZa cZ (ad 3) (5 * k) ag.1, cJa cJ (ad 4) (5 * k) ag.2.1, cIa cI (ad 5) (5 * k) ag.2.2.1, cPn (ad 6) (ad 7) pn, cJa cJ (ad 7) 16 pn.1, cCh (ad 8) (ad 9) (2047 : Int32), cIa cI (ad 9) 64 ca, cCh (ad 10) (ad 11) (32000 : Int32), cIa cI (ad 11) 64 cf, cSn (ad 12) tL (ad 13) (400 : Int32) sl, cJa cJ (ad 13) 3 sl.2.2.2.2, cSn (ad 14) tH (ad 15) (80 : Int32) sh, cJa cJ (ad 15) 3 sh.2.2.2.2] := hD
    refine lv_astore_n (lv' := [(2, .ref (ad 12)), (0, .ref (ad 0)), (1, .int se)]) hx hb dT_count_5 rfl hl (by decide) rfl (fun ls hl => ?_)
    refine lv_aload_n hx hb dT_count_6 rfl (lv_at hl 0 rfl) ?_
    refine lv_ifnonnull (tgt := 14) hx hb dT_count_7 (by decide) ?_
    refine lv_aload_n hx hb dT_count_14 rfl (lv_at hl 0 rfl) ?_
    refine gfT_124 hx hb hts hown hN hK hP 12 rfl (v := .int sl.2.2.1) rfl dT_count_15 ?_
    exact k_iret hx hb hr hlk hP hD hS dT_count_18 () (by simp only [fT_count, if_pos h1]) rfl
  · -- no
    by_cases h2 : se = (1 : Int32)
    · -- yes
      refine lv_aload_n hx hb dT_count_0 rfl (lv_at hl 0 rfl) ?_
      refine lv_iload_n hx hb dT_count_1 rfl (lv_at hl 1 rfl) ?_
      refine k_ca0 (wc := [cTm ad k tc tm, cWh (ad 1) wc wh, cAg (ad 2) (ad 3) (ad 4) (ad 5) k ag, cZa cZ (ad 3) (5 * k) ag.1, cJa cJ (ad 4) (5 * k) ag.2.1, cIa cI (ad 5) (5 * k) ag.2.2.1, cPn (ad 6) (ad 7) pn, cJa cJ (ad 7) 16 pn.1, cCh (ad 8) (ad 9) (2047 : Int32), cIa cI (ad 9) 64 ca, cCh (ad 10) (ad 11) (32000 : Int32), cIa cI (ad 11) 64 cf, cSn (ad 12) tL (ad 13) (400 : Int32) sl, cJa cJ (ad 13) 3 sl.2.2.2.2, cSn (ad 14) tH (ad 15) (80 : Int32) sh, cJa cJ (ad 15) 3 sh.2.2.2.2]) (wr := []) (va_runV (As := [.int se]) (rest := []) ⟨hx, hb, hml, hown, hts⟩ (ctT_sensorOf1 l D cZ cI cJ tL tH H.size ad k wc tc tm wh ag pn ca cf sl sh se hk hcy h2) (cwT_101 hts hN rfl rfl ⟨Nat.le_of_ble_eq_true rfl, Nat.le_of_ble_eq_true rfl⟩) (k_preV hK hN hT hA hS hP hD [0, 1, 2, 3, 4, 5, 6, 7, 8, 9, 10, 11, 12, 13, 14, 15] rfl (by decide) 0 rfl rfl) rfl rfl hl.1 rfl (lv_room (Nat.le_of_ble_eq_true rfl)) dT_count_2 ⟨Nat.zero_le _, Nat.zero_le _⟩) hP hD hS hA [0, 1, 2, 3, 4, 5, 6, 7, 8, 9, 10, 11, 12, 13, 14, 15] [] rfl rfl (by decide) (by decide) (fun _ H locs hP hD hS => ?_)
      refine W.eq (g2 := F0 m 5 ls [.ref (ad 14)]) rfl ?_
      have hP : va_P D vwCl [cTm ad k tc tm, cWh (ad 1) wc wh, cAg (ad 2) (ad 3) (ad 4) (ad 5) k ag, cZa cZ (ad 3) (5 * k) ag.1, cJa cJ (ad 4) (5 * k) ag.2.1, cIa cI (ad 5) (5 * k) ag.2.2.1, cPn (ad 6) (ad 7) pn, cJa cJ (ad 7) 16 pn.1, cCh (ad 8) (ad 9) (2047 : Int32), cIa cI (ad 9) 64 ca, cCh (ad 10) (ad 11) (32000 : Int32), cIa cI (ad 11) 64 cf, cSn (ad 12) tL (ad 13) (400 : Int32) sl, cJa cJ (ad 13) 3 sl.2.2.2.2, cSn (ad 14) tH (ad 15) (80 : Int32) sh, cJa cJ (ad 15) 3 sh.2.2.2.2] H := hP
      have hD : va_D A [cTm ad k tc tm, cWh (ad 1) wc wh, cAg (ad 2) (ad 3) (ad 4) (ad 5) k ag, cZa cZ (ad 3) (5 * k) ag.1, cJa cJ (ad 4) (5 * k) ag.2.1, cIa cI (ad 5) (5 * k) ag.2.2.1, cPn (ad 6) (ad 7) pn, cJa cJ (ad 7) 16 pn.1, cCh (ad 8) (ad 9) (2047 : Int32), cIa cI (ad 9) 64 ca, cCh (ad 10) (ad 11) (32000 : Int32), cIa cI (ad 11) 64 cf, cSn (ad 12) tL (ad 13) (400 : Int32) sl, cJa cJ (ad 13) 3 sl.2.2.2.2, cSn (ad 14) tH (ad 15) (80 : Int32) sh, cJa cJ (ad 15) 3 sh.2.2.2.2] := hD
      refine lv_astore_n (lv' := [(2, .ref (ad 14)), (0, .ref (ad 0)), (1, .int se)]) hx hb dT_count_5 rfl hl (by decide) rfl (fun ls hl => ?_)
      refine lv_aload_n hx hb dT_count_6 rfl (lv_at hl 0 rfl) ?_
      refine lv_ifnonnull (tgt := 14) hx hb dT_count_7 (by decide) ?_
      refine lv_aload_n hx hb dT_count_14 rfl (lv_at hl 0 rfl) ?_
      refine gfT_124 hx hb hts hown hN hK hP 14 rfl (v := .int sh.2.2.1) rfl dT_count_15 ?_
      exact k_iret hx hb hr hlk hP hD hS dT_count_18 () (by simp only [fT_count, if_neg h1, if_pos h2]) rfl
    · -- no
      refine lv_aload_n hx hb dT_count_0 rfl (lv_at hl 0 rfl) ?_
      refine lv_iload_n hx hb dT_count_1 rfl (lv_at hl 1 rfl) ?_
      refine k_ca0 (wc := [cTm ad k tc tm, cWh (ad 1) wc wh, cAg (ad 2) (ad 3) (ad 4) (ad 5) k ag, cZa cZ (ad 3) (5 * k) ag.1, cJa cJ (ad 4) (5 * k) ag.2.1, cIa cI (ad 5) (5 * k) ag.2.2.1, cPn (ad 6) (ad 7) pn, cJa cJ (ad 7) 16 pn.1, cCh (ad 8) (ad 9) (2047 : Int32), cIa cI (ad 9) 64 ca, cCh (ad 10) (ad 11) (32000 : Int32), cIa cI (ad 11) 64 cf, cSn (ad 12) tL (ad 13) (400 : Int32) sl, cJa cJ (ad 13) 3 sl.2.2.2.2, cSn (ad 14) tH (ad 15) (80 : Int32) sh, cJa cJ (ad 15) 3 sh.2.2.2.2]) (wr := []) (va_runV (As := [.int se]) (rest := []) ⟨hx, hb, hml, hown, hts⟩ (ctT_sensorOfn l D cZ cI cJ tL tH H.size ad k wc tc tm wh ag pn ca cf sl sh se hk hcy h1 h2) (cwT_101 hts hN rfl rfl ⟨Nat.le_of_ble_eq_true rfl, Nat.le_of_ble_eq_true rfl⟩) (k_preV hK hN hT hA hS hP hD [0, 1, 2, 3, 4, 5, 6, 7, 8, 9, 10, 11, 12, 13, 14, 15] rfl (by decide) 0 rfl rfl) rfl rfl hl.1 rfl (lv_room (Nat.le_of_ble_eq_true rfl)) dT_count_2 ⟨Nat.zero_le _, Nat.zero_le _⟩) hP hD hS hA [0, 1, 2, 3, 4, 5, 6, 7, 8, 9, 10, 11, 12, 13, 14, 15] [] rfl rfl (by decide) (by decide) (fun _ H locs hP hD hS => ?_)
      refine W.eq (g2 := F0 m 5 ls [.null]) rfl ?_
      have hP : va_P D vwCl [cTm ad k tc tm, cWh (ad 1) wc wh, cAg (ad 2) (ad 3) (ad 4) (ad 5) k ag, cZa cZ (ad 3) (5 * k) ag.1, cJa cJ (ad 4) (5 * k) ag.2.1, cIa cI (ad 5) (5 * k) ag.2.2.1, cPn (ad 6) (ad 7) pn, cJa cJ (ad 7) 16 pn.1, cCh (ad 8) (ad 9) (2047 : Int32), cIa cI (ad 9) 64 ca, cCh (ad 10) (ad 11) (32000 : Int32), cIa cI (ad 11) 64 cf, cSn (ad 12) tL (ad 13) (400 : Int32) sl, cJa cJ (ad 13) 3 sl.2.2.2.2, cSn (ad 14) tH (ad 15) (80 : Int32) sh, cJa cJ (ad 15) 3 sh.2.2.2.2] H := hP
      have hD : va_D A [cTm ad k tc tm, cWh (ad 1) wc wh, cAg (ad 2) (ad 3) (ad 4) (ad 5) k ag, cZa cZ (ad 3) (5 * k) ag.1, cJa cJ (ad 4) (5 * k) ag.2.1, cIa cI (ad 5) (5 * k) ag.2.2.1, cPn (ad 6) (ad 7) pn, cJa cJ (ad 7) 16 pn.1, cCh (ad 8) (ad 9) (2047 : Int32), cIa cI (ad 9) 64 ca, cCh (ad 10) (ad 11) (32000 : Int32), cIa cI (ad 11) 64 cf, cSn (ad 12) tL (ad 13) (400 : Int32) sl, cJa cJ (ad 13) 3 sl.2.2.2.2, cSn (ad 14) tH (ad 15) (80 : Int32) sh, cJa cJ (ad 15) 3 sh.2.2.2.2] := hD
      refine lv_astore_nN (lv' := [(2, .null), (0, .ref (ad 0)), (1, .int se)]) hx hb dT_count_5 rfl hl (by decide) rfl (fun ls hl => ?_)
      refine lv_aload_nN hx hb dT_count_6 rfl (lv_at hl 0 rfl) ?_
      refine lv_ifnonnullN hx hb dT_count_7 ?_
      refine lv_iconst (v := (-1 : Int32)) hx hb dT_count_10 (by decide) ?_
      refine lv_goto (tgt := 18) hx hb dT_count_11 (by decide) ?_
      exact k_iret hx hb hr hlk hP hD hS dT_count_18 () (by simp only [fT_count, if_neg h1, if_neg h2]) rfl

def fT_frame (k : Nat) (wc : WcT) (tc : TcT) (tm : TmT) (wh : WhT) (ag : AgT) (pn : PnT) (ca : ChT) (cf : ChT) (sl : SnT) (sh : SnT) (se : Int32) (part : Int32) : Int64 :=
  if se = 0 then
    let q2 := fS_codePart lc (400 : Int32) sl part
    q2
  else
    if se = (1 : Int32) then
      let q4 := fS_codePart hc (80 : Int32) sh part
      q4
    else
      (-1 : Int64)
set_option maxRecDepth 100000 in
set_option maxHeartbeats 4000000 in
theorem ctT_frame (l : Launch) (D : va_G) (cZ cI cJ : ClassId) (tL tH : Nat) (sz : Nat) (ad : Nat → Nat) (k : Nat) (wc : WcT) (tc : TcT) (tm : TmT) (wh : WhT) (ag : AgT) (pn : PnT) (ca : ChT) (cf : ChT) (sl : SnT) (sh : SnT) (se : Int32) (part : Int32)  (hk : 0 < k ∧ k ≤ 6) (hcy : ¬ wc.2.2 = 0) : Ct l yT_frame wT_frame ({ frames := 1, cells := 0, slots := 0, locals := 21 }) D (tyG cZ cI cJ) tL tH [.ref (ad 0), .int se, .int part] sz [cTm ad k tc tm, cWh (ad 1) wc wh, cAg (ad 2) (ad 3) (ad 4) (ad 5) k ag, cZa cZ (ad 3) (5 * k) ag.1, cJa cJ (ad 4) (5 * k) ag.2.1, cIa cI (ad 5) (5 * k) ag.2.2.1, cPn (ad 6) (ad 7) pn, cJa cJ (ad 7) 16 pn.1, cCh (ad 8) (ad 9) (2047 : Int32), cIa cI (ad 9) 64 ca, cCh (ad 10) (ad 11) (32000 : Int32), cIa cI (ad 11) 64 cf, cSn (ad 12) tL (ad 13) (400 : Int32) sl, cJa cJ (ad 13) 3 sl.2.2.2.2, cSn (ad 14) tH (ad 15) (80 : Int32) sh, cJa cJ (ad 15) 3 sh.2.2.2.2] (fun _ : Unit => some (.long (fT_frame k wc tc tm wh ag pn ca cf sl sh se part))) (fun _ : Unit => [cTm ad k tc tm, cWh (ad 1) wc wh, cAg (ad 2) (ad 3) (ad 4) (ad 5) k ag, cZa cZ (ad 3) (5 * k) ag.1, cJa cJ (ad 4) (5 * k) ag.2.1, cIa cI (ad 5) (5 * k) ag.2.2.1, cPn (ad 6) (ad 7) pn, cJa cJ (ad 7) 16 pn.1, cCh (ad 8) (ad 9) (2047 : Int32), cIa cI (ad 9) 64 ca, cCh (ad 10) (ad 11) (32000 : Int32), cIa cI (ad 11) 64 cf, cSn (ad 12) tL (ad 13) (400 : Int32) sl, cJa cJ (ad 13) 3 sl.2.2.2.2, cSn (ad 14) tH (ad 15) (80 : Int32) sh, cJa cJ (ad 15) 3 sh.2.2.2.2]) 0 0 := by
  refine k_go (by decide +kernel) (Nat.le_of_ble_eq_true rfl) ?_
  intro p e s m args below meth c A ls H hx hb hr hml hts hown hlk hnm hK hN hT hA hS hP hD hl
  have hown : s.vm.findClass "ToothWheelTimer" = some m.cls := hown
  have hlk : meth.locks = false := hlk
  have hl : lv_has ls 4 [(0, .ref (ad 0)), (1, .int se), (2, .int part)] := hl
  by_cases h1 : se = 0
  · -- yes
    refine lv_aload_n hx hb dT_frame_0 rfl (lv_at hl 0 rfl) ?_
    refine lv_iload_n hx hb dT_frame_1 rfl (lv_at hl 1 rfl) ?_
    refine k_ca0 (wc := [cTm ad k tc tm, cWh (ad 1) wc wh, cAg (ad 2) (ad 3) (ad 4) (ad 5) k ag, cZa cZ (ad 3) (5 * k) ag.1, cJa cJ (ad 4) (5 * k) ag.2.1, cIa cI (ad 5) (5 * k) ag.2.2.1, cPn (ad 6) (ad 7) pn, cJa cJ (ad 7) 16 pn.1, cCh (ad 8) (ad 9) (2047 : Int32), cIa cI (ad 9) 64 ca, cCh (ad 10) (ad 11) (32000 : Int32), cIa cI (ad 11) 64 cf, cSn (ad 12) tL (ad 13) (400 : Int32) sl, cJa cJ (ad 13) 3 sl.2.2.2.2, cSn (ad 14) tH (ad 15) (80 : Int32) sh, cJa cJ (ad 15) 3 sh.2.2.2.2]) (wr := []) (va_runV (As := [.int se]) (rest := []) ⟨hx, hb, hml, hown, hts⟩ (ctT_sensorOf0 l D cZ cI cJ tL tH H.size ad k wc tc tm wh ag pn ca cf sl sh se hk hcy h1) (cwT_101 hts hN rfl rfl ⟨Nat.le_of_ble_eq_true rfl, Nat.le_of_ble_eq_true rfl⟩) (k_preV hK hN hT hA hS hP hD [0, 1, 2, 3, 4, 5, 6, 7, 8, 9, 10, 11, 12, 13, 14, 15] rfl (by decide) 0 rfl rfl) rfl rfl hl.1 rfl (lv_room (Nat.le_of_ble_eq_true rfl)) dT_frame_2 ⟨Nat.zero_le _, Nat.zero_le _⟩) hP hD hS hA [0, 1, 2, 3, 4, 5, 6, 7, 8, 9, 10, 11, 12, 13, 14, 15] [] rfl rfl (by decide) (by decide) (fun _ H locs hP hD hS => ?_)
    refine W.eq (g2 := F0 m 5 ls [.ref (ad 12)]) rfl ?_
    have hP : va_P D vwCl [cTm ad k tc tm, cWh (ad 1) wc wh, cAg (ad 2) (ad 3) (ad 4) (ad 5) k ag, cZa cZ (ad 3) (5 * k) ag.1, cJa cJ (ad 4) (5 * k) ag.2.1, cIa cI (ad 5) (5 * k) ag.2.2.1, cPn (ad 6) (ad 7) pn, cJa cJ (ad 7) 16 pn.1, cCh (ad 8) (ad 9) (2047 : Int32), cIa cI (ad 9) 64 ca, cCh (ad 10) (ad 11) (32000 : Int32), cIa cI (ad 11) 64 cf, cSn (ad 12) tL (ad 13) (400 : Int32) sl, cJa cJ (ad 13) 3 sl.2.2.2.2, cSn (ad 14) tH (ad 15) (80 : Int32) sh, cJa cJ (ad 15) 3 sh.2.2.2.2] H := hP
    have hD : va_D A [cTm ad k tc tm, cWh (ad 1) wc wh, cAg (ad 2) (ad 3) (ad 4) (ad 5) k ag, cZa cZ (ad 3) (5 * k) ag.1, cJa cJ (ad 4) (5 * k) ag.2.1, cIa cI (ad 5) (5 * k) ag.2.2.1, cPn (ad 6) (ad 7) pn, cJa cJ (ad 7) 16 pn.1, cCh (ad 8) (ad 9) (2047 : Int32), cIa cI (ad 9) 64 ca, cCh (ad 10) (ad 11) (32000 : Int32), cIa cI (ad 11) 64 cf, cSn (ad 12) tL (ad 13) (400 : Int32) sl, cJa cJ (ad 13) 3 sl.2.2.2.2, cSn (ad 14) tH (ad 15) (80 : Int32) sh, cJa cJ (ad 15) 3 sh.2.2.2.2] := hD
    refine lv_astore_n (lv' := [(3, .ref (ad 12)), (0, .ref (ad 0)), (1, .int se), (2, .int part)]) hx hb dT_frame_5 rfl hl (by decide) rfl (fun ls hl => ?_)
    refine lv_aload_n hx hb dT_frame_6 rfl (lv_at hl 0 rfl) ?_
    refine lv_ifnonnull (tgt := 16) hx hb dT_frame_7 (by decide) ?_
    refine lv_aload_n hx hb dT_frame_16 rfl (lv_at hl 0 rfl) ?_
    refine lv_iload_n hx hb dT_frame_17 rfl (lv_at hl 3 rfl) ?_
    refine k_ca0 (wc := [cSn (ad 12) tL (ad 13) (400 : Int32) sl, cJa cJ (ad 13) 3 sl.2.2.2.2]) (wr := [cTm ad k tc tm, cWh (ad 1) wc wh, cAg (ad 2) (ad 3) (ad 4) (ad 5) k ag, cZa cZ (ad 3) (5 * k) ag.1, cJa cJ (ad 4) (5 * k) ag.2.1, cIa cI (ad 5) (5 * k) ag.2.2.1, cPn (ad 6) (ad 7) pn, cJa cJ (ad 7) 16 pn.1, cCh (ad 8) (ad 9) (2047 : Int32), cIa cI (ad 9) 64 ca, cCh (ad 10) (ad 11) (32000 : Int32), cIa cI (ad 11) 64 cf, cSn (ad 14) tH (ad 15) (80 : Int32) sh, cJa cJ (ad 15) 3 sh.2.2.2.2]) (va_runVN (As := [.int part]) (rest := []) ⟨hx, hb, hml, hown, hts⟩ (ctS_codePart l D cZ cI cJ tL tH H.size (ad 12) (ad 13) tL lc (400 : Int32) sl part (fun _ _ _ h => h.1)) (cwT_129 hts hN rfl rfl ⟨Nat.le_of_ble_eq_true rfl, Nat.le_of_ble_eq_true rfl⟩) (k_preV hK hN hT hA hS hP hD [12, 13] rfl (by decide) 12 rfl rfl) rfl rfl hl.1 rfl (lv_room (Nat.le_of_ble_eq_true rfl)) dT_frame_18 ⟨Nat.zero_le _, Nat.zero_le _⟩) hP hD hS hA [12, 13] [0, 1, 2, 3, 4, 5, 6, 7, 8, 9, 10, 11, 14, 15] rfl rfl (by decide) (by decide) (fun _ H locs hP hD hS => ?_)
    refine W.eq (g2 := F0 m 21 ls [.long (fS_codePart lc (400 : Int32) sl part)]) rfl ?_
    have hP : va_P D vwCl [cTm ad k tc tm, cWh (ad 1) wc wh, cAg (ad 2) (ad 3) (ad 4) (ad 5) k ag, cZa cZ (ad 3) (5 * k) ag.1, cJa cJ (ad 4) (5 * k) ag.2.1, cIa cI (ad 5) (5 * k) ag.2.2.1, cPn (ad 6) (ad 7) pn, cJa cJ (ad 7) 16 pn.1, cCh (ad 8) (ad 9) (2047 : Int32), cIa cI (ad 9) 64 ca, cCh (ad 10) (ad 11) (32000 : Int32), cIa cI (ad 11) 64 cf, cSn (ad 14) tH (ad 15) (80 : Int32) sh, cJa cJ (ad 15) 3 sh.2.2.2.2, cSn (ad 12) tL (ad 13) (400 : Int32) sl, cJa cJ (ad 13) 3 sl.2.2.2.2] H := hP
    have hD : va_D A [cTm ad k tc tm, cWh (ad 1) wc wh, cAg (ad 2) (ad 3) (ad 4) (ad 5) k ag, cZa cZ (ad 3) (5 * k) ag.1, cJa cJ (ad 4) (5 * k) ag.2.1, cIa cI (ad 5) (5 * k) ag.2.2.1, cPn (ad 6) (ad 7) pn, cJa cJ (ad 7) 16 pn.1, cCh (ad 8) (ad 9) (2047 : Int32), cIa cI (ad 9) 64 ca, cCh (ad 10) (ad 11) (32000 : Int32), cIa cI (ad 11) 64 cf, cSn (ad 14) tH (ad 15) (80 : Int32) sh, cJa cJ (ad 15) 3 sh.2.2.2.2, cSn (ad 12) tL (ad 13) (400 : Int32) sl, cJa cJ (ad 13) 3 sl.2.2.2.2] := hD
    generalize hq2 : fS_codePart lc (400 : Int32) sl part = q2 at ⊢
    have hP := hP.sub (ws' := [cTm ad k tc tm, cWh (ad 1) wc wh, cAg (ad 2) (ad 3) (ad 4) (ad 5) k ag, cZa cZ (ad 3) (5 * k) ag.1, cJa cJ (ad 4) (5 * k) ag.2.1, cIa cI (ad 5) (5 * k) ag.2.2.1, cPn (ad 6) (ad 7) pn, cJa cJ (ad 7) 16 pn.1, cCh (ad 8) (ad 9) (2047 : Int32), cIa cI (ad 9) 64 ca, cCh (ad 10) (ad 11) (32000 : Int32), cIa cI (ad 11) 64 cf, cSn (ad 12) tL (ad 13) (400 : Int32) sl, cJa cJ (ad 13) 3 sl.2.2.2.2, cSn (ad 14) tH (ad 15) (80 : Int32) sh, cJa cJ (ad 15) 3 sh.2.2.2.2]) [0, 1, 2, 3, 4, 5, 6, 7, 8, 9, 10, 11, 14, 15, 12, 13] rfl
    have hD := hD.sub (ws' := [cTm ad k tc tm, cWh (ad 1) wc wh, cAg (ad 2) (ad 3) (ad 4) (ad 5) k ag, cZa cZ (ad 3) (5 * k) ag.1, cJa cJ (ad 4) (5 * k) ag.2.1, cIa cI (ad 5) (5 * k) ag.2.2.1, cPn (ad 6) (ad 7) pn, cJa cJ (ad 7) 16 pn.1, cCh (ad 8) (ad 9) (2047 : Int32), cIa cI (ad 9) 64 ca, cCh (ad 10) (ad 11) (32000 : Int32), cIa cI (ad 11) 64 cf, cSn (ad 12) tL (ad 13) (400 : Int32) sl, cJa cJ (ad 13) 3 sl.2.2.2.2, cSn (ad 14) tH (ad 15) (80 : Int32) sh, cJa cJ (ad 15) 3 sh.2.2.2.2]) [0, 1, 2, 3, 4, 5, 6, 7, 8, 9, 10, 11, 14, 15, 12, 13] (by decide) rfl
    exact k_lret hx hb hr hlk hP hD hS dT_frame_21 () (by simp only [fT_frame, if_pos h1, hq2]) rfl
  · -- no
    by_cases h3 : se = (1 : Int32)
    · -- yes
      refine lv_aload_n hx hb dT_frame_0 rfl (lv_at hl 0 rfl) ?_
      refine lv_iload_n hx hb dT_frame_1 rfl (lv_at hl 1 rfl) ?_
      refine k_ca0 (wc := [cTm ad k tc tm, cWh (ad 1) wc wh, cAg (ad 2) (ad 3) (ad 4) (ad 5) k ag, cZa cZ (ad 3) (5 * k) ag.1, cJa cJ (ad 4) (5 * k) ag.2.1, cIa cI (ad 5) (5 * k) ag.2.2.1, cPn (ad 6) (ad 7) pn, cJa cJ (ad 7) 16 pn.1, cCh (ad 8) (ad 9) (2047 : Int32), cIa cI (ad 9) 64 ca, cCh (ad 10) (ad 11) (32000 : Int32), cIa cI (ad 11) 64 cf, cSn (ad 12) tL (ad 13) (400 : Int32) sl, cJa cJ (ad 13) 3 sl.2.2.2.2, cSn (ad 14) tH (ad 15) (80 : Int32) sh, cJa cJ (ad 15) 3 sh.2.2.2.2]) (wr := []) (va_runV (As := [.int se]) (rest := []) ⟨hx, hb, hml, hown, hts⟩ (ctT_sensorOf1 l D cZ cI cJ tL tH H.size ad k wc tc tm wh ag pn ca cf sl sh se hk hcy h3) (cwT_101 hts hN rfl rfl ⟨Nat.le_of_ble_eq_true rfl, Nat.le_of_ble_eq_true rfl⟩) (k_preV hK hN hT hA hS hP hD [0, 1, 2, 3, 4, 5, 6, 7, 8, 9, 10, 11, 12, 13, 14, 15] rfl (by decide) 0 rfl rfl) rfl rfl hl.1 rfl (lv_room (Nat.le_of_ble_eq_true rfl)) dT_frame_2 ⟨Nat.zero_le _, Nat.zero_le _⟩) hP hD hS hA [0, 1, 2, 3, 4, 5, 6, 7, 8, 9, 10, 11, 12, 13, 14, 15] [] rfl rfl (by decide) (by decide) (fun _ H locs hP hD hS => ?_)
      refine W.eq (g2 := F0 m 5 ls [.ref (ad 14)]) rfl ?_
      have hP : va_P D vwCl [cTm ad k tc tm, cWh (ad 1) wc wh, cAg (ad 2) (ad 3) (ad 4) (ad 5) k ag, cZa cZ (ad 3) (5 * k) ag.1, cJa cJ (ad 4) (5 * k) ag.2.1, cIa cI (ad 5) (5 * k) ag.2.2.1, cPn (ad 6) (ad 7) pn, cJa cJ (ad 7) 16 pn.1, cCh (ad 8) (ad 9) (2047 : Int32), cIa cI (ad 9) 64 ca, cCh (ad 10) (ad 11) (32000 : Int32), cIa cI (ad 11) 64 cf, cSn (ad 12) tL (ad 13) (400 : Int32) sl, cJa cJ (ad 13) 3 sl.2.2.2.2, cSn (ad 14) tH (ad 15) (80 : Int32) sh, cJa cJ (ad 15) 3 sh.2.2.2.2] H := hP
      have hD : va_D A [cTm ad k tc tm, cWh (ad 1) wc wh, cAg (ad 2) (ad 3) (ad 4) (ad 5) k ag, cZa cZ (ad 3) (5 * k) ag.1, cJa cJ (ad 4) (5 * k) ag.2.1, cIa cI (ad 5) (5 * k) ag.2.2.1, cPn (ad 6) (ad 7) pn, cJa cJ (ad 7) 16 pn.1, cCh (ad 8) (ad 9) (2047 : Int32), cIa cI (ad 9) 64 ca, cCh (ad 10) (ad 11) (32000 : Int32), cIa cI (ad 11) 64 cf, cSn (ad 12) tL (ad 13) (400 : Int32) sl, cJa cJ (ad 13) 3 sl.2.2.2.2, cSn (ad 14) tH (ad 15) (80 : Int32) sh, cJa cJ (ad 15) 3 sh.2.2.2.2] := hD
      refine lv_astore_n (lv' := [(3, .ref (ad 14)), (0, .ref (ad 0)), (1, .int se), (2, .int part)]) hx hb dT_frame_5 rfl hl (by decide) rfl (fun ls hl => ?_)
      refine lv_aload_n hx hb dT_frame_6 rfl (lv_at hl 0 rfl) ?_
      refine lv_ifnonnull (tgt := 16) hx hb dT_frame_7 (by decide) ?_
      refine lv_aload_n hx hb dT_frame_16 rfl (lv_at hl 0 rfl) ?_
      refine lv_iload_n hx hb dT_frame_17 rfl (lv_at hl 3 rfl) ?_
      refine k_ca0 (wc := [cSn (ad 14) tH (ad 15) (80 : Int32) sh, cJa cJ (ad 15) 3 sh.2.2.2.2]) (wr := [cTm ad k tc tm, cWh (ad 1) wc wh, cAg (ad 2) (ad 3) (ad 4) (ad 5) k ag, cZa cZ (ad 3) (5 * k) ag.1, cJa cJ (ad 4) (5 * k) ag.2.1, cIa cI (ad 5) (5 * k) ag.2.2.1, cPn (ad 6) (ad 7) pn, cJa cJ (ad 7) 16 pn.1, cCh (ad 8) (ad 9) (2047 : Int32), cIa cI (ad 9) 64 ca, cCh (ad 10) (ad 11) (32000 : Int32), cIa cI (ad 11) 64 cf, cSn (ad 12) tL (ad 13) (400 : Int32) sl, cJa cJ (ad 13) 3 sl.2.2.2.2]) (va_runVN (As := [.int part]) (rest := []) ⟨hx, hb, hml, hown, hts⟩ (ctS_codePart l D cZ cI cJ tL tH H.size (ad 14) (ad 15) tH hc (80 : Int32) sh part (fun _ _ _ h => h.2.1)) (cwT_129 hts hN rfl rfl ⟨Nat.le_of_ble_eq_true rfl, Nat.le_of_ble_eq_true rfl⟩) (k_preV hK hN hT hA hS hP hD [14, 15] rfl (by decide) 14 rfl rfl) rfl rfl hl.1 rfl (lv_room (Nat.le_of_ble_eq_true rfl)) dT_frame_18 ⟨Nat.zero_le _, Nat.zero_le _⟩) hP hD hS hA [14, 15] [0, 1, 2, 3, 4, 5, 6, 7, 8, 9, 10, 11, 12, 13] rfl rfl (by decide) (by decide) (fun _ H locs hP hD hS => ?_)
      refine W.eq (g2 := F0 m 21 ls [.long (fS_codePart hc (80 : Int32) sh part)]) rfl ?_
      have hP : va_P D vwCl [cTm ad k tc tm, cWh (ad 1) wc wh, cAg (ad 2) (ad 3) (ad 4) (ad 5) k ag, cZa cZ (ad 3) (5 * k) ag.1, cJa cJ (ad 4) (5 * k) ag.2.1, cIa cI (ad 5) (5 * k) ag.2.2.1, cPn (ad 6) (ad 7) pn, cJa cJ (ad 7) 16 pn.1, cCh (ad 8) (ad 9) (2047 : Int32), cIa cI (ad 9) 64 ca, cCh (ad 10) (ad 11) (32000 : Int32), cIa cI (ad 11) 64 cf, cSn (ad 12) tL (ad 13) (400 : Int32) sl, cJa cJ (ad 13) 3 sl.2.2.2.2, cSn (ad 14) tH (ad 15) (80 : Int32) sh, cJa cJ (ad 15) 3 sh.2.2.2.2] H := hP
      have hD : va_D A [cTm ad k tc tm, cWh (ad 1) wc wh, cAg (ad 2) (ad 3) (ad 4) (ad 5) k ag, cZa cZ (ad 3) (5 * k) ag.1, cJa cJ (ad 4) (5 * k) ag.2.1, cIa cI (ad 5) (5 * k) ag.2.2.1, cPn (ad 6) (ad 7) pn, cJa cJ (ad 7) 16 pn.1, cCh (ad 8) (ad 9) (2047 : Int32), cIa cI (ad 9) 64 ca, cCh (ad 10) (ad 11) (32000 : Int32), cIa cI (ad 11) 64 cf, cSn (ad 12) tL (ad 13) (400 : Int32) sl, cJa cJ (ad 13) 3 sl.2.2.2.2, cSn (ad 14) tH (ad 15) (80 : Int32) sh, cJa cJ (ad 15) 3 sh.2.2.2.2] := hD
      generalize hq4 : fS_codePart hc (80 : Int32) sh part = q4 at ⊢
      exact k_lret hx hb hr hlk hP hD hS dT_frame_21 () (by simp only [fT_frame, if_neg h1, if_pos h3, hq4]) rfl
    · -- no
      refine lv_aload_n hx hb dT_frame_0 rfl (lv_at hl 0 rfl) ?_
      refine lv_iload_n hx hb dT_frame_1 rfl (lv_at hl 1 rfl) ?_
      refine k_ca0 (wc := [cTm ad k tc tm, cWh (ad 1) wc wh, cAg (ad 2) (ad 3) (ad 4) (ad 5) k ag, cZa cZ (ad 3) (5 * k) ag.1, cJa cJ (ad 4) (5 * k) ag.2.1, cIa cI (ad 5) (5 * k) ag.2.2.1, cPn (ad 6) (ad 7) pn, cJa cJ (ad 7) 16 pn.1, cCh (ad 8) (ad 9) (2047 : Int32), cIa cI (ad 9) 64 ca, cCh (ad 10) (ad 11) (32000 : Int32), cIa cI (ad 11) 64 cf, cSn (ad 12) tL (ad 13) (400 : Int32) sl, cJa cJ (ad 13) 3 sl.2.2.2.2, cSn (ad 14) tH (ad 15) (80 : Int32) sh, cJa cJ (ad 15) 3 sh.2.2.2.2]) (wr := []) (va_runV (As := [.int se]) (rest := []) ⟨hx, hb, hml, hown, hts⟩ (ctT_sensorOfn l D cZ cI cJ tL tH H.size ad k wc tc tm wh ag pn ca cf sl sh se hk hcy h1 h3) (cwT_101 hts hN rfl rfl ⟨Nat.le_of_ble_eq_true rfl, Nat.le_of_ble_eq_true rfl⟩) (k_preV hK hN hT hA hS hP hD [0, 1, 2, 3, 4, 5, 6, 7, 8, 9, 10, 11, 12, 13, 14, 15] rfl (by decide) 0 rfl rfl) rfl rfl hl.1 rfl (lv_room (Nat.le_of_ble_eq_true rfl)) dT_frame_2 ⟨Nat.zero_le _, Nat.zero_le _⟩) hP hD hS hA [0, 1, 2, 3, 4, 5, 6, 7, 8, 9, 10, 11, 12, 13, 14, 15] [] rfl rfl (by decide) (by decide) (fun _ H locs hP hD hS => ?_)
      refine W.eq (g2 := F0 m 5 ls [.null]) rfl ?_
      have hP : va_P D vwCl [cTm ad k tc tm, cWh (ad 1) wc wh, cAg (ad 2) (ad 3) (ad 4) (ad 5) k ag, cZa cZ (ad 3) (5 * k) ag.1, cJa cJ (ad 4) (5 * k) ag.2.1, cIa cI (ad 5) (5 * k) ag.2.2.1, cPn (ad 6) (ad 7) pn, cJa cJ (ad 7) 16 pn.1, cCh (ad 8) (ad 9) (2047 : Int32), cIa cI (ad 9) 64 ca, cCh (ad 10) (ad 11) (32000 : Int32), cIa cI (ad 11) 64 cf, cSn (ad 12) tL (ad 13) (400 : Int32) sl, cJa cJ (ad 13) 3 sl.2.2.2.2, cSn (ad 14) tH (ad 15) (80 : Int32) sh, cJa cJ (ad 15) 3 sh.2.2.2.2] H := hP
      have hD : va_D A [cTm ad k tc tm, cWh (ad 1) wc wh, cAg (ad 2) (ad 3) (ad 4) (ad 5) k ag, cZa cZ (ad 3) (5 * k) ag.1, cJa cJ (ad 4) (5 * k) ag.2.1, cIa cI (ad 5) (5 * k) ag.2.2.1, cPn (ad 6) (ad 7) pn, cJa cJ (ad 7) 16 pn.1, cCh (ad 8) (ad 9) (2047 : Int32), cIa cI (ad 9) 64 ca, cCh (ad 10) (ad 11) (32000 : Int32), cIa cI (ad 11) 64 cf, cSn (ad 12) tL (ad 13) (400 : Int32) sl, cJa cJ (ad 13) 3 sl.2.2.2.2, cSn (ad 14) tH (ad 15) (80 : Int32) sh, cJa cJ (ad 15) 3 sh.2.2.2.2] := hD
      refine lv_astore_nN (lv' := [(3, .null), (0, .ref (ad 0)), (1, .int se), (2, .int part)]) hx hb dT_frame_5 rfl hl (by decide) rfl (fun ls hl => ?_)
      refine lv_aload_nN hx hb dT_frame_6 rfl (lv_at hl 0 rfl) ?_
      refine lv_ifnonnullN hx hb dT_frame_7 ?_
      refine lv_ldc2 (v := (-1 : Int64)) hx hb hown (hts _ (wg wd_282 rfl)) dT_frame_10 ?_
      refine lv_goto (tgt := 21) hx hb dT_frame_13 (by decide) ?_
      exact k_lret hx hb hr hlk hP hD hS dT_frame_21 () (by simp only [fT_frame, if_neg h1, if_neg h3]) rfl

def fT_clear (k : Nat) (wc : WcT) (tc : TcT) (tm : TmT) (wh : WhT) (ag : AgT) (pn : PnT) (ca : ChT) (cf : ChT) (sl : SnT) (sh : SnT) : Int32 × SnT × SnT :=
  let q1 := fS_dropCode lc (400 : Int32) sl
  let q2 := fS_dropCode hc (80 : Int32) sh
  (q1.1 + q2.1, q1.2, q2.2)
set_option maxRecDepth 100000 in
set_option maxHeartbeats 4000000 in
theorem ctT_clear (l : Launch) (D : va_G) (cZ cI cJ : ClassId) (tL tH : Nat) (sz : Nat) (ad : Nat → Nat) (k : Nat) (wc : WcT) (tc : TcT) (tm : TmT) (wh : WhT) (ag : AgT) (pn : PnT) (ca : ChT) (cf : ChT) (sl : SnT) (sh : SnT)  (hk : 0 < k ∧ k ≤ 6) (hcy : ¬ wc.2.2 = 0) : Ct l yT_clear wT_clear ({ frames := 1, cells := 0, slots := 0, locals := 21 }) D (tyG cZ cI cJ) tL tH [.ref (ad 0)] sz [cTm ad k tc tm, cWh (ad 1) wc wh, cAg (ad 2) (ad 3) (ad 4) (ad 5) k ag, cZa cZ (ad 3) (5 * k) ag.1, cJa cJ (ad 4) (5 * k) ag.2.1, cIa cI (ad 5) (5 * k) ag.2.2.1, cPn (ad 6) (ad 7) pn, cJa cJ (ad 7) 16 pn.1, cCh (ad 8) (ad 9) (2047 : Int32), cIa cI (ad 9) 64 ca, cCh (ad 10) (ad 11) (32000 : Int32), cIa cI (ad 11) 64 cf, cSn (ad 12) tL (ad 13) (400 : Int32) sl, cJa cJ (ad 13) 3 sl.2.2.2.2, cSn (ad 14) tH (ad 15) (80 : Int32) sh, cJa cJ (ad 15) 3 sh.2.2.2.2] (fun _ : Unit => some (.int ((fT_clear k wc tc tm wh ag pn ca cf sl sh).1))) (fun _ : Unit => [cTm ad k tc tm, cWh (ad 1) wc wh, cAg (ad 2) (ad 3) (ad 4) (ad 5) k ag, cZa cZ (ad 3) (5 * k) ag.1, cJa cJ (ad 4) (5 * k) ag.2.1, cIa cI (ad 5) (5 * k) ag.2.2.1, cPn (ad 6) (ad 7) pn, cJa cJ (ad 7) 16 pn.1, cCh (ad 8) (ad 9) (2047 : Int32), cIa cI (ad 9) 64 ca, cCh (ad 10) (ad 11) (32000 : Int32), cIa cI (ad 11) 64 cf, cSn (ad 12) tL (ad 13) (400 : Int32) ((fT_clear k wc tc tm wh ag pn ca cf sl sh).2.1), cJa cJ (ad 13) 3 (((fT_clear k wc tc tm wh ag pn ca cf sl sh).2.1).2.2.2.2), cSn (ad 14) tH (ad 15) (80 : Int32) ((fT_clear k wc tc tm wh ag pn ca cf sl sh).2.2), cJa cJ (ad 15) 3 (((fT_clear k wc tc tm wh ag pn ca cf sl sh).2.2).2.2.2.2)]) 0 0 := by
  refine k_go (by decide +kernel) (Nat.le_of_ble_eq_true rfl) ?_
  intro p e s m args below meth c A ls H hx hb hr hml hts hown hlk hnm hK hN hT hA hS hP hD hl
  have hown : s.vm.findClass "ToothWheelTimer" = some m.cls := hown
  have hlk : meth.locks = false := hlk
  have hl : lv_has ls 1 [(0, .ref (ad 0))] := hl
  refine lv_aload_n hx hb dT_clear_0 rfl (lv_at hl 0 rfl) ?_
  refine gfT_37 hx hb hts hown hN hK hP 0 rfl (v := .ref (ad 12)) rfl dT_clear_1 ?_
  refine k_ca0 (wc := [cSn (ad 12) tL (ad 13) (400 : Int32) sl, cJa cJ (ad 13) 3 sl.2.2.2.2]) (wr := [cTm ad k tc tm, cWh (ad 1) wc wh, cAg (ad 2) (ad 3) (ad 4) (ad 5) k ag, cZa cZ (ad 3) (5 * k) ag.1, cJa cJ (ad 4) (5 * k) ag.2.1, cIa cI (ad 5) (5 * k) ag.2.2.1, cPn (ad 6) (ad 7) pn, cJa cJ (ad 7) 16 pn.1, cCh (ad 8) (ad 9) (2047 : Int32), cIa cI (ad 9) 64 ca, cCh (ad 10) (ad 11) (32000 : Int32), cIa cI (ad 11) 64 cf, cSn (ad 14) tH (ad 15) (80 : Int32) sh, cJa cJ (ad 15) 3 sh.2.2.2.2]) (va_runVN (As := []) (rest := []) ⟨hx, hb, hml, hown, hts⟩ (ctS_dropCode l D cZ cI cJ tL tH H.size (ad 12) (ad 13) tL lc (400 : Int32) sl (fun _ _ _ h => h.1)) (cwT_133 hts hN rfl rfl ⟨Nat.le_of_ble_eq_true rfl, Nat.le_of_ble_eq_true rfl⟩) (k_preV hK hN hT hA hS hP hD [12, 13] rfl (by decide) 12 rfl rfl) rfl rfl hl.1 rfl (lv_room (Nat.le_of_ble_eq_true rfl)) dT_clear_4 ⟨Nat.zero_le _, Nat.zero_le _⟩) hP hD hS hA [12, 13] [0, 1, 2, 3, 4, 5, 6, 7, 8, 9, 10, 11, 14, 15] rfl rfl (by decide) (by decide) (fun _ H locs hP hD hS => ?_)
  refine W.eq (g2 := F0 m 7 ls [.int ((fS_dropCode lc (400 : Int32) sl).1)]) rfl ?_
  have hP : va_P D vwCl [cTm ad k tc tm, cWh (ad 1) wc wh, cAg (ad 2) (ad 3) (ad 4) (ad 5) k ag, cZa cZ (ad 3) (5 * k) ag.1, cJa cJ (ad 4) (5 * k) ag.2.1, cIa cI (ad 5) (5 * k) ag.2.2.1, cPn (ad 6) (ad 7) pn, cJa cJ (ad 7) 16 pn.1, cCh (ad 8) (ad 9) (2047 : Int32), cIa cI (ad 9) 64 ca, cCh (ad 10) (ad 11) (32000 : Int32), cIa cI (ad 11) 64 cf, cSn (ad 14) tH (ad 15) (80 : Int32) sh, cJa cJ (ad 15) 3 sh.2.2.2.2, cSn (ad 12) tL (ad 13) (400 : Int32) ((fS_dropCode lc (400 : Int32) sl).2), cJa cJ (ad 13) 3 (((fS_dropCode lc (400 : Int32) sl).2).2.2.2.2)] H := hP
  have hD : va_D A [cTm ad k tc tm, cWh (ad 1) wc wh, cAg (ad 2) (ad 3) (ad 4) (ad 5) k ag, cZa cZ (ad 3) (5 * k) ag.1, cJa cJ (ad 4) (5 * k) ag.2.1, cIa cI (ad 5) (5 * k) ag.2.2.1, cPn (ad 6) (ad 7) pn, cJa cJ (ad 7) 16 pn.1, cCh (ad 8) (ad 9) (2047 : Int32), cIa cI (ad 9) 64 ca, cCh (ad 10) (ad 11) (32000 : Int32), cIa cI (ad 11) 64 cf, cSn (ad 14) tH (ad 15) (80 : Int32) sh, cJa cJ (ad 15) 3 sh.2.2.2.2, cSn (ad 12) tL (ad 13) (400 : Int32) ((fS_dropCode lc (400 : Int32) sl).2), cJa cJ (ad 13) 3 (((fS_dropCode lc (400 : Int32) sl).2).2.2.2.2)] := hD
  generalize hq1 : fS_dropCode lc (400 : Int32) sl = q1 at hP hD ⊢
  have hP : va_P D vwCl [cTm ad k tc tm, cWh (ad 1) wc wh, cAg (ad 2) (ad 3) (ad 4) (ad 5) k ag, cZa cZ (ad 3) (5 * k) ag.1, cJa cJ (ad 4) (5 * k) ag.2.1, cIa cI (ad 5) (5 * k) ag.2.2.1, cPn (ad 6) (ad 7) pn, cJa cJ (ad 7) 16 pn.1, cCh (ad 8) (ad 9) (2047 : Int32), cIa cI (ad 9) 64 ca, cCh (ad 10) (ad 11) (32000 : Int32), cIa cI (ad 11) 64 cf, cSn (ad 14) tH (ad 15) (80 : Int32) sh, cJa cJ (ad 15) 3 sh.2.2.2.2, cSn (ad 12) tL (ad 13) (400 : Int32) q1.2, cJa cJ (ad 13) 3 q1.2.2.2.2.2] H := hP
  have hD : va_D A [cTm ad k tc tm, cWh (ad 1) wc wh, cAg (ad 2) (ad 3) (ad 4) (ad 5) k ag, cZa cZ (ad 3) (5 * k) ag.1, cJa cJ (ad 4) (5 * k) ag.2.1, cIa cI (ad 5) (5 * k) ag.2.2.1, cPn (ad 6) (ad 7) pn, cJa cJ (ad 7) 16 pn.1, cCh (ad 8) (ad 9) (2047 : Int32), cIa cI (ad 9) 64 ca, cCh (ad 10) (ad 11) (32000 : Int32), cIa cI (ad 11) 64 cf, cSn (ad 14) tH (ad 15) (80 : Int32) sh, cJa cJ (ad 15) 3 sh.2.2.2.2, cSn (ad 12) tL (ad 13) (400 : Int32) q1.2, cJa cJ (ad 13) 3 q1.2.2.2.2.2] := hD
  refine lv_aload_n hx hb dT_clear_7 rfl (lv_at hl 0 rfl) ?_
  refine gfT_44 hx hb hts hown hN hK hP 0 rfl (v := .ref (ad 14)) rfl dT_clear_8 ?_
  refine k_ca0 (wc := [cSn (ad 14) tH (ad 15) (80 : Int32) sh, cJa cJ (ad 15) 3 sh.2.2.2.2]) (wr := [cTm ad k tc tm, cWh (ad 1) wc wh, cAg (ad 2) (ad 3) (ad 4) (ad 5) k ag, cZa cZ (ad 3) (5 * k) ag.1, cJa cJ (ad 4) (5 * k) ag.2.1, cIa cI (ad 5) (5 * k) ag.2.2.1, cPn (ad 6) (ad 7) pn, cJa cJ (ad 7) 16 pn.1, cCh (ad 8) (ad 9) (2047 : Int32), cIa cI (ad 9) 64 ca, cCh (ad 10) (ad 11) (32000 : Int32), cIa cI (ad 11) 64 cf, cSn (ad 12) tL (ad 13) (400 : Int32) q1.2, cJa cJ (ad 13) 3 q1.2.2.2.2.2]) (va_runVN (As := []) (rest := [.int q1.1]) ⟨hx, hb, hml, hown, hts⟩ (ctS_dropCode l D cZ cI cJ tL tH H.size (ad 14) (ad 15) tH hc (80 : Int32) sh (fun _ _ _ h => h.2.1)) (cwT_133 hts hN rfl rfl ⟨Nat.le_of_ble_eq_true rfl, Nat.le_of_ble_eq_true rfl⟩) (k_preV hK hN hT hA hS hP hD [12, 13] rfl (by decide) 12 rfl rfl) rfl rfl hl.1 rfl (lv_room (Nat.le_of_ble_eq_true rfl)) dT_clear_11 ⟨Nat.zero_le _, Nat.zero_le _⟩) hP hD hS hA [12, 13] [0, 1, 2, 3, 4, 5, 6, 7, 8, 9, 10, 11, 14, 15] rfl rfl (by decide) (by decide) (fun _ H locs hP hD hS => ?_)
  refine W.eq (g2 := F0 m 14 ls [.int ((fS_dropCode hc (80 : Int32) sh).1), .int q1.1]) rfl ?_
  have hP : va_P D vwCl [cTm ad k tc tm, cWh (ad 1) wc wh, cAg (ad 2) (ad 3) (ad 4) (ad 5) k ag, cZa cZ (ad 3) (5 * k) ag.1, cJa cJ (ad 4) (5 * k) ag.2.1, cIa cI (ad 5) (5 * k) ag.2.2.1, cPn (ad 6) (ad 7) pn, cJa cJ (ad 7) 16 pn.1, cCh (ad 8) (ad 9) (2047 : Int32), cIa cI (ad 9) 64 ca, cCh (ad 10) (ad 11) (32000 : Int32), cIa cI (ad 11) 64 cf, cSn (ad 12) tL (ad 13) (400 : Int32) q1.2, cJa cJ (ad 13) 3 q1.2.2.2.2.2, cSn (ad 14) tH (ad 15) (80 : Int32) ((fS_dropCode hc (80 : Int32) sh).2), cJa cJ (ad 15) 3 (((fS_dropCode hc (80 : Int32) sh).2).2.2.2.2)] H := hP
  have hD : va_D A [cTm ad k tc tm, cWh (ad 1) wc wh, cAg (ad 2) (ad 3) (ad 4) (ad 5) k ag, cZa cZ (ad 3) (5 * k) ag.1, cJa cJ (ad 4) (5 * k) ag.2.1, cIa cI (ad 5) (5 * k) ag.2.2.1, cPn (ad 6) (ad 7) pn, cJa cJ (ad 7) 16 pn.1, cCh (ad 8) (ad 9) (2047 : Int32), cIa cI (ad 9) 64 ca, cCh (ad 10) (ad 11) (32000 : Int32), cIa cI (ad 11) 64 cf, cSn (ad 12) tL (ad 13) (400 : Int32) q1.2, cJa cJ (ad 13) 3 q1.2.2.2.2.2, cSn (ad 14) tH (ad 15) (80 : Int32) ((fS_dropCode hc (80 : Int32) sh).2), cJa cJ (ad 15) 3 (((fS_dropCode hc (80 : Int32) sh).2).2.2.2.2)] := hD
  generalize hq2 : fS_dropCode hc (80 : Int32) sh = q2 at hP hD ⊢
  have hP : va_P D vwCl [cTm ad k tc tm, cWh (ad 1) wc wh, cAg (ad 2) (ad 3) (ad 4) (ad 5) k ag, cZa cZ (ad 3) (5 * k) ag.1, cJa cJ (ad 4) (5 * k) ag.2.1, cIa cI (ad 5) (5 * k) ag.2.2.1, cPn (ad 6) (ad 7) pn, cJa cJ (ad 7) 16 pn.1, cCh (ad 8) (ad 9) (2047 : Int32), cIa cI (ad 9) 64 ca, cCh (ad 10) (ad 11) (32000 : Int32), cIa cI (ad 11) 64 cf, cSn (ad 12) tL (ad 13) (400 : Int32) q1.2, cJa cJ (ad 13) 3 q1.2.2.2.2.2, cSn (ad 14) tH (ad 15) (80 : Int32) q2.2, cJa cJ (ad 15) 3 q2.2.2.2.2.2] H := hP
  have hD : va_D A [cTm ad k tc tm, cWh (ad 1) wc wh, cAg (ad 2) (ad 3) (ad 4) (ad 5) k ag, cZa cZ (ad 3) (5 * k) ag.1, cJa cJ (ad 4) (5 * k) ag.2.1, cIa cI (ad 5) (5 * k) ag.2.2.1, cPn (ad 6) (ad 7) pn, cJa cJ (ad 7) 16 pn.1, cCh (ad 8) (ad 9) (2047 : Int32), cIa cI (ad 9) 64 ca, cCh (ad 10) (ad 11) (32000 : Int32), cIa cI (ad 11) 64 cf, cSn (ad 12) tL (ad 13) (400 : Int32) q1.2, cJa cJ (ad 13) 3 q1.2.2.2.2.2, cSn (ad 14) tH (ad 15) (80 : Int32) q2.2, cJa cJ (ad 15) 3 q2.2.2.2.2.2] := hD
  refine lv_iadd hx hb dT_clear_14 ?_
  exact k_iret hx hb hr hlk hP hD hS dT_clear_15 () (by simp only [fT_clear, hq1, hq2]) (by simp only [fT_clear, hq1, hq2])

def fT_state (k : Nat) (wc : WcT) (tc : TcT) (tm : TmT) (wh : WhT) (ag : AgT) (pn : PnT) (ca : ChT) (cf : ChT) (sl : SnT) (sh : SnT) : Int32 :=
  wh.1
set_option maxRecDepth 100000 in
set_option maxHeartbeats 4000000 in
theorem ctT_state (l : Launch) (D : va_G) (cZ cI cJ : ClassId) (tL tH : Nat) (sz : Nat) (ad : Nat → Nat) (k : Nat) (wc : WcT) (tc : TcT) (tm : TmT) (wh : WhT) (ag : AgT) (pn : PnT) (ca : ChT) (cf : ChT) (sl : SnT) (sh : SnT)  (hk : 0 < k ∧ k ≤ 6) (hcy : ¬ wc.2.2 = 0) : Ct l yT_state wT_state ({ frames := 0, cells := 0, slots := 0, locals := 0 }) D (tyG cZ cI cJ) tL tH [.ref (ad 0)] sz [cTm ad k tc tm, cWh (ad 1) wc wh, cAg (ad 2) (ad 3) (ad 4) (ad 5) k ag, cZa cZ (ad 3) (5 * k) ag.1, cJa cJ (ad 4) (5 * k) ag.2.1, cIa cI (ad 5) (5 * k) ag.2.2.1, cPn (ad 6) (ad 7) pn, cJa cJ (ad 7) 16 pn.1, cCh (ad 8) (ad 9) (2047 : Int32), cIa cI (ad 9) 64 ca, cCh (ad 10) (ad 11) (32000 : Int32), cIa cI (ad 11) 64 cf, cSn (ad 12) tL (ad 13) (400 : Int32) sl, cJa cJ (ad 13) 3 sl.2.2.2.2, cSn (ad 14) tH (ad 15) (80 : Int32) sh, cJa cJ (ad 15) 3 sh.2.2.2.2] (fun _ : Unit => some (.int (fT_state k wc tc tm wh ag pn ca cf sl sh))) (fun _ : Unit => [cTm ad k tc tm, cWh (ad 1) wc wh, cAg (ad 2) (ad 3) (ad 4) (ad 5) k ag, cZa cZ (ad 3) (5 * k) ag.1, cJa cJ (ad 4) (5 * k) ag.2.1, cIa cI (ad 5) (5 * k) ag.2.2.1, cPn (ad 6) (ad 7) pn, cJa cJ (ad 7) 16 pn.1, cCh (ad 8) (ad 9) (2047 : Int32), cIa cI (ad 9) 64 ca, cCh (ad 10) (ad 11) (32000 : Int32), cIa cI (ad 11) 64 cf, cSn (ad 12) tL (ad 13) (400 : Int32) sl, cJa cJ (ad 13) 3 sl.2.2.2.2, cSn (ad 14) tH (ad 15) (80 : Int32) sh, cJa cJ (ad 15) 3 sh.2.2.2.2]) 0 0 := by
  refine k_go (by decide +kernel) (Nat.le_of_ble_eq_true rfl) ?_
  intro p e s m args below meth c A ls H hx hb hr hml hts hown hlk hnm hK hN hT hA hS hP hD hl
  have hown : s.vm.findClass "ToothWheelTimer" = some m.cls := hown
  have hlk : meth.locks = false := hlk
  have hl : lv_has ls 1 [(0, .ref (ad 0))] := hl
  refine lv_aload_n hx hb dT_state_0 rfl (lv_at hl 0 rfl) ?_
  refine gfT_78 hx hb hts hown hN hK hP 0 rfl (v := .ref (ad 1)) rfl dT_state_1 ?_
  refine gfT_142 hx hb hts hown hN hK hP 1 rfl (v := .int wh.1) rfl dT_state_4 ?_
  exact k_iret hx hb hr hlk hP hD hS dT_state_7 () rfl rfl

def fT_tooth (k : Nat) (wc : WcT) (tc : TcT) (tm : TmT) (wh : WhT) (ag : AgT) (pn : PnT) (ca : ChT) (cf : ChT) (sl : SnT) (sh : SnT) : Int32 :=
  wh.2.2.2.2.1
set_option maxRecDepth 100000 in
set_option maxHeartbeats 4000000 in
theorem ctT_tooth (l : Launch) (D : va_G) (cZ cI cJ : ClassId) (tL tH : Nat) (sz : Nat) (ad : Nat → Nat) (k : Nat) (wc : WcT) (tc : TcT) (tm : TmT) (wh : WhT) (ag : AgT) (pn : PnT) (ca : ChT) (cf : ChT) (sl : SnT) (sh : SnT)  (hk : 0 < k ∧ k ≤ 6) (hcy : ¬ wc.2.2 = 0) : Ct l yT_tooth wT_tooth ({ frames := 0, cells := 0, slots := 0, locals := 0 }) D (tyG cZ cI cJ) tL tH [.ref (ad 0)] sz [cTm ad k tc tm, cWh (ad 1) wc wh, cAg (ad 2) (ad 3) (ad 4) (ad 5) k ag, cZa cZ (ad 3) (5 * k) ag.1, cJa cJ (ad 4) (5 * k) ag.2.1, cIa cI (ad 5) (5 * k) ag.2.2.1, cPn (ad 6) (ad 7) pn, cJa cJ (ad 7) 16 pn.1, cCh (ad 8) (ad 9) (2047 : Int32), cIa cI (ad 9) 64 ca, cCh (ad 10) (ad 11) (32000 : Int32), cIa cI (ad 11) 64 cf, cSn (ad 12) tL (ad 13) (400 : Int32) sl, cJa cJ (ad 13) 3 sl.2.2.2.2, cSn (ad 14) tH (ad 15) (80 : Int32) sh, cJa cJ (ad 15) 3 sh.2.2.2.2] (fun _ : Unit => some (.int (fT_tooth k wc tc tm wh ag pn ca cf sl sh))) (fun _ : Unit => [cTm ad k tc tm, cWh (ad 1) wc wh, cAg (ad 2) (ad 3) (ad 4) (ad 5) k ag, cZa cZ (ad 3) (5 * k) ag.1, cJa cJ (ad 4) (5 * k) ag.2.1, cIa cI (ad 5) (5 * k) ag.2.2.1, cPn (ad 6) (ad 7) pn, cJa cJ (ad 7) 16 pn.1, cCh (ad 8) (ad 9) (2047 : Int32), cIa cI (ad 9) 64 ca, cCh (ad 10) (ad 11) (32000 : Int32), cIa cI (ad 11) 64 cf, cSn (ad 12) tL (ad 13) (400 : Int32) sl, cJa cJ (ad 13) 3 sl.2.2.2.2, cSn (ad 14) tH (ad 15) (80 : Int32) sh, cJa cJ (ad 15) 3 sh.2.2.2.2]) 0 0 := by
  refine k_go (by decide +kernel) (Nat.le_of_ble_eq_true rfl) ?_
  intro p e s m args below meth c A ls H hx hb hr hml hts hown hlk hnm hK hN hT hA hS hP hD hl
  have hown : s.vm.findClass "ToothWheelTimer" = some m.cls := hown
  have hlk : meth.locks = false := hlk
  have hl : lv_has ls 1 [(0, .ref (ad 0))] := hl
  refine lv_aload_n hx hb dT_tooth_0 rfl (lv_at hl 0 rfl) ?_
  refine gfT_78 hx hb hts hown hN hK hP 0 rfl (v := .ref (ad 1)) rfl dT_tooth_1 ?_
  refine gfT_156 hx hb hts hown hN hK hP 1 rfl (v := .int wh.2.2.2.2.1) rfl dT_tooth_4 ?_
  exact k_iret hx hb hr hlk hP hD hS dT_tooth_7 () rfl rfl

def fT_turn (k : Nat) (wc : WcT) (tc : TcT) (tm : TmT) (wh : WhT) (ag : AgT) (pn : PnT) (ca : ChT) (cf : ChT) (sl : SnT) (sh : SnT) : Int32 :=
  wh.2.2.2.2.2.1
set_option maxRecDepth 100000 in
set_option maxHeartbeats 4000000 in
theorem ctT_turn (l : Launch) (D : va_G) (cZ cI cJ : ClassId) (tL tH : Nat) (sz : Nat) (ad : Nat → Nat) (k : Nat) (wc : WcT) (tc : TcT) (tm : TmT) (wh : WhT) (ag : AgT) (pn : PnT) (ca : ChT) (cf : ChT) (sl : SnT) (sh : SnT)  (hk : 0 < k ∧ k ≤ 6) (hcy : ¬ wc.2.2 = 0) : Ct l yT_turn wT_turn ({ frames := 0, cells := 0, slots := 0, locals := 0 }) D (tyG cZ cI cJ) tL tH [.ref (ad 0)] sz [cTm ad k tc tm, cWh (ad 1) wc wh, cAg (ad 2) (ad 3) (ad 4) (ad 5) k ag, cZa cZ (ad 3) (5 * k) ag.1, cJa cJ (ad 4) (5 * k) ag.2.1, cIa cI (ad 5) (5 * k) ag.2.2.1, cPn (ad 6) (ad 7) pn, cJa cJ (ad 7) 16 pn.1, cCh (ad 8) (ad 9) (2047 : Int32), cIa cI (ad 9) 64 ca, cCh (ad 10) (ad 11) (32000 : Int32), cIa cI (ad 11) 64 cf, cSn (ad 12) tL (ad 13) (400 : Int32) sl, cJa cJ (ad 13) 3 sl.2.2.2.2, cSn (ad 14) tH (ad 15) (80 : Int32) sh, cJa cJ (ad 15) 3 sh.2.2.2.2] (fun _ : Unit => some (.int (fT_turn k wc tc tm wh ag pn ca cf sl sh))) (fun _ : Unit => [cTm ad k tc tm, cWh (ad 1) wc wh, cAg (ad 2) (ad 3) (ad 4) (ad 5) k ag, cZa cZ (ad 3) (5 * k) ag.1, cJa cJ (ad 4) (5 * k) ag.2.1, cIa cI (ad 5) (5 * k) ag.2.2.1, cPn (ad 6) (ad 7) pn, cJa cJ (ad 7) 16 pn.1, cCh (ad 8) (ad 9) (2047 : Int32), cIa cI (ad 9) 64 ca, cCh (ad 10) (ad 11) (32000 : Int32), cIa cI (ad 11) 64 cf, cSn (ad 12) tL (ad 13) (400 : Int32) sl, cJa cJ (ad 13) 3 sl.2.2.2.2, cSn (ad 14) tH (ad 15) (80 : Int32) sh, cJa cJ (ad 15) 3 sh.2.2.2.2]) 0 0 := by
  refine k_go (by decide +kernel) (Nat.le_of_ble_eq_true rfl) ?_
  intro p e s m args below meth c A ls H hx hb hr hml hts hown hlk hnm hK hN hT hA hS hP hD hl
  have hown : s.vm.findClass "ToothWheelTimer" = some m.cls := hown
  have hlk : meth.locks = false := hlk
  have hl : lv_has ls 1 [(0, .ref (ad 0))] := hl
  refine lv_aload_n hx hb dT_turn_0 rfl (lv_at hl 0 rfl) ?_
  refine gfT_78 hx hb hts hown hN hK hP 0 rfl (v := .ref (ad 1)) rfl dT_turn_1 ?_
  refine gfT_159 hx hb hts hown hN hK hP 1 rfl (v := .int wh.2.2.2.2.2.1) rfl dT_turn_4 ?_
  exact k_iret hx hb hr hlk hP hD hS dT_turn_7 () rfl rfl

def fT_unit (k : Nat) (wc : WcT) (tc : TcT) (tm : TmT) (wh : WhT) (ag : AgT) (pn : PnT) (ca : ChT) (cf : ChT) (sl : SnT) (sh : SnT) : Int64 :=
  wh.2.2.2.1
set_option maxRecDepth 100000 in
set_option maxHeartbeats 4000000 in
theorem ctT_unit (l : Launch) (D : va_G) (cZ cI cJ : ClassId) (tL tH : Nat) (sz : Nat) (ad : Nat → Nat) (k : Nat) (wc : WcT) (tc : TcT) (tm : TmT) (wh : WhT) (ag : AgT) (pn : PnT) (ca : ChT) (cf : ChT) (sl : SnT) (sh : SnT)  (hk : 0 < k ∧ k ≤ 6) (hcy : ¬ wc.2.2 = 0) : Ct l yT_unit wT_unit ({ frames := 0, cells := 0, slots := 0, locals := 0 }) D (tyG cZ cI cJ) tL tH [.ref (ad 0)] sz [cTm ad k tc tm, cWh (ad 1) wc wh, cAg (ad 2) (ad 3) (ad 4) (ad 5) k ag, cZa cZ (ad 3) (5 * k) ag.1, cJa cJ (ad 4) (5 * k) ag.2.1, cIa cI (ad 5) (5 * k) ag.2.2.1, cPn (ad 6) (ad 7) pn, cJa cJ (ad 7) 16 pn.1, cCh (ad 8) (ad 9) (2047 : Int32), cIa cI (ad 9) 64 ca, cCh (ad 10) (ad 11) (32000 : Int32), cIa cI (ad 11) 64 cf, cSn (ad 12) tL (ad 13) (400 : Int32) sl, cJa cJ (ad 13) 3 sl.2.2.2.2, cSn (ad 14) tH (ad 15) (80 : Int32) sh, cJa cJ (ad 15) 3 sh.2.2.2.2] (fun _ : Unit => some (.long (fT_unit k wc tc tm wh ag pn ca cf sl sh))) (fun _ : Unit => [cTm ad k tc tm, cWh (ad 1) wc wh, cAg (ad 2) (ad 3) (ad 4) (ad 5) k ag, cZa cZ (ad 3) (5 * k) ag.1, cJa cJ (ad 4) (5 * k) ag.2.1, cIa cI (ad 5) (5 * k) ag.2.2.1, cPn (ad 6) (ad 7) pn, cJa cJ (ad 7) 16 pn.1, cCh (ad 8) (ad 9) (2047 : Int32), cIa cI (ad 9) 64 ca, cCh (ad 10) (ad 11) (32000 : Int32), cIa cI (ad 11) 64 cf, cSn (ad 12) tL (ad 13) (400 : Int32) sl, cJa cJ (ad 13) 3 sl.2.2.2.2, cSn (ad 14) tH (ad 15) (80 : Int32) sh, cJa cJ (ad 15) 3 sh.2.2.2.2]) 0 0 := by
  refine k_go (by decide +kernel) (Nat.le_of_ble_eq_true rfl) ?_
  intro p e s m args below meth c A ls H hx hb hr hml hts hown hlk hnm hK hN hT hA hS hP hD hl
  have hown : s.vm.findClass "ToothWheelTimer" = some m.cls := hown
  have hlk : meth.locks = false := hlk
  have hl : lv_has ls 1 [(0, .ref (ad 0))] := hl
  refine lv_aload_n hx hb dT_unit_0 rfl (lv_at hl 0 rfl) ?_
  refine gfT_78 hx hb hts hown hN hK hP 0 rfl (v := .ref (ad 1)) rfl dT_unit_1 ?_
  refine gfT_113 hx hb hts hown hN hK hP 1 rfl (v := .long wh.2.2.2.1) rfl dT_unit_4 ?_
  exact k_lret hx hb hr hlk hP hD hS dT_unit_7 () rfl rfl

def fT_waiting (k : Nat) (wc : WcT) (tc : TcT) (tm : TmT) (wh : WhT) (ag : AgT) (pn : PnT) (ca : ChT) (cf : ChT) (sl : SnT) (sh : SnT) : Int32 :=
  ag.2.2.2.2
set_option maxRecDepth 100000 in
set_option maxHeartbeats 4000000 in
theorem ctT_waiting (l : Launch) (D : va_G) (cZ cI cJ : ClassId) (tL tH : Nat) (sz : Nat) (ad : Nat → Nat) (k : Nat) (wc : WcT) (tc : TcT) (tm : TmT) (wh : WhT) (ag : AgT) (pn : PnT) (ca : ChT) (cf : ChT) (sl : SnT) (sh : SnT)  (hk : 0 < k ∧ k ≤ 6) (hcy : ¬ wc.2.2 = 0) : Ct l yT_waiting wT_waiting ({ frames := 0, cells := 0, slots := 0, locals := 0 }) D (tyG cZ cI cJ) tL tH [.ref (ad 0)] sz [cTm ad k tc tm, cWh (ad 1) wc wh, cAg (ad 2) (ad 3) (ad 4) (ad 5) k ag, cZa cZ (ad 3) (5 * k) ag.1, cJa cJ (ad 4) (5 * k) ag.2.1, cIa cI (ad 5) (5 * k) ag.2.2.1, cPn (ad 6) (ad 7) pn, cJa cJ (ad 7) 16 pn.1, cCh (ad 8) (ad 9) (2047 : Int32), cIa cI (ad 9) 64 ca, cCh (ad 10) (ad 11) (32000 : Int32), cIa cI (ad 11) 64 cf, cSn (ad 12) tL (ad 13) (400 : Int32) sl, cJa cJ (ad 13) 3 sl.2.2.2.2, cSn (ad 14) tH (ad 15) (80 : Int32) sh, cJa cJ (ad 15) 3 sh.2.2.2.2] (fun _ : Unit => some (.int (fT_waiting k wc tc tm wh ag pn ca cf sl sh))) (fun _ : Unit => [cTm ad k tc tm, cWh (ad 1) wc wh, cAg (ad 2) (ad 3) (ad 4) (ad 5) k ag, cZa cZ (ad 3) (5 * k) ag.1, cJa cJ (ad 4) (5 * k) ag.2.1, cIa cI (ad 5) (5 * k) ag.2.2.1, cPn (ad 6) (ad 7) pn, cJa cJ (ad 7) 16 pn.1, cCh (ad 8) (ad 9) (2047 : Int32), cIa cI (ad 9) 64 ca, cCh (ad 10) (ad 11) (32000 : Int32), cIa cI (ad 11) 64 cf, cSn (ad 12) tL (ad 13) (400 : Int32) sl, cJa cJ (ad 13) 3 sl.2.2.2.2, cSn (ad 14) tH (ad 15) (80 : Int32) sh, cJa cJ (ad 15) 3 sh.2.2.2.2]) 0 0 := by
  refine k_go (by decide +kernel) (Nat.le_of_ble_eq_true rfl) ?_
  intro p e s m args below meth c A ls H hx hb hr hml hts hown hlk hnm hK hN hT hA hS hP hD hl
  have hown : s.vm.findClass "ToothWheelTimer" = some m.cls := hown
  have hlk : meth.locks = false := hlk
  have hl : lv_has ls 1 [(0, .ref (ad 0))] := hl
  refine lv_aload_n hx hb dT_waiting_0 rfl (lv_at hl 0 rfl) ?_
  refine gfT_85 hx hb hts hown hN hK hP 0 rfl (v := .ref (ad 2)) rfl dT_waiting_1 ?_
  refine gfT_178 hx hb hts hown hN hK hP 2 rfl (v := .int ag.2.2.2.2) rfl dT_waiting_4 ?_
  exact k_iret hx hb hr hlk hP hD hS dT_waiting_7 () rfl rfl

def fT_running (k : Nat) (wc : WcT) (tc : TcT) (tm : TmT) (wh : WhT) (ag : AgT) (pn : PnT) (ca : ChT) (cf : ChT) (sl : SnT) (sh : SnT) : Int32 :=
  pn.2.1
set_option maxRecDepth 100000 in
set_option maxHeartbeats 4000000 in
theorem ctT_running (l : Launch) (D : va_G) (cZ cI cJ : ClassId) (tL tH : Nat) (sz : Nat) (ad : Nat → Nat) (k : Nat) (wc : WcT) (tc : TcT) (tm : TmT) (wh : WhT) (ag : AgT) (pn : PnT) (ca : ChT) (cf : ChT) (sl : SnT) (sh : SnT)  (hk : 0 < k ∧ k ≤ 6) (hcy : ¬ wc.2.2 = 0) : Ct l yT_running wT_running ({ frames := 0, cells := 0, slots := 0, locals := 0 }) D (tyG cZ cI cJ) tL tH [.ref (ad 0)] sz [cTm ad k tc tm, cWh (ad 1) wc wh, cAg (ad 2) (ad 3) (ad 4) (ad 5) k ag, cZa cZ (ad 3) (5 * k) ag.1, cJa cJ (ad 4) (5 * k) ag.2.1, cIa cI (ad 5) (5 * k) ag.2.2.1, cPn (ad 6) (ad 7) pn, cJa cJ (ad 7) 16 pn.1, cCh (ad 8) (ad 9) (2047 : Int32), cIa cI (ad 9) 64 ca, cCh (ad 10) (ad 11) (32000 : Int32), cIa cI (ad 11) 64 cf, cSn (ad 12) tL (ad 13) (400 : Int32) sl, cJa cJ (ad 13) 3 sl.2.2.2.2, cSn (ad 14) tH (ad 15) (80 : Int32) sh, cJa cJ (ad 15) 3 sh.2.2.2.2] (fun _ : Unit => some (.int (fT_running k wc tc tm wh ag pn ca cf sl sh))) (fun _ : Unit => [cTm ad k tc tm, cWh (ad 1) wc wh, cAg (ad 2) (ad 3) (ad 4) (ad 5) k ag, cZa cZ (ad 3) (5 * k) ag.1, cJa cJ (ad 4) (5 * k) ag.2.1, cIa cI (ad 5) (5 * k) ag.2.2.1, cPn (ad 6) (ad 7) pn, cJa cJ (ad 7) 16 pn.1, cCh (ad 8) (ad 9) (2047 : Int32), cIa cI (ad 9) 64 ca, cCh (ad 10) (ad 11) (32000 : Int32), cIa cI (ad 11) 64 cf, cSn (ad 12) tL (ad 13) (400 : Int32) sl, cJa cJ (ad 13) 3 sl.2.2.2.2, cSn (ad 14) tH (ad 15) (80 : Int32) sh, cJa cJ (ad 15) 3 sh.2.2.2.2]) 0 0 := by
  refine k_go (by decide +kernel) (Nat.le_of_ble_eq_true rfl) ?_
  intro p e s m args below meth c A ls H hx hb hr hml hts hown hlk hnm hK hN hT hA hS hP hD hl
  have hown : s.vm.findClass "ToothWheelTimer" = some m.cls := hown
  have hlk : meth.locks = false := hlk
  have hl : lv_has ls 1 [(0, .ref (ad 0))] := hl
  refine lv_aload_n hx hb dT_running_0 rfl (lv_at hl 0 rfl) ?_
  refine gfT_10 hx hb hts hown hN hK hP 0 rfl (v := .ref (ad 6)) rfl dT_running_1 ?_
  refine gfT_181 hx hb hts hown hN hK hP 6 rfl (v := .int pn.2.1) rfl dT_running_4 ?_
  exact k_iret hx hb hr hlk hP hD hS dT_running_7 () rfl rfl

def fT_output (k : Nat) (wc : WcT) (tc : TcT) (tm : TmT) (wh : WhT) (ag : AgT) (pn : PnT) (ca : ChT) (cf : ChT) (sl : SnT) (sh : SnT) (i : Int32) : Int64 :=
  let q1 := fP_logged pn i
  q1
set_option maxRecDepth 100000 in
set_option maxHeartbeats 4000000 in
theorem ctT_output (l : Launch) (D : va_G) (cZ cI cJ : ClassId) (tL tH : Nat) (sz : Nat) (ad : Nat → Nat) (k : Nat) (wc : WcT) (tc : TcT) (tm : TmT) (wh : WhT) (ag : AgT) (pn : PnT) (ca : ChT) (cf : ChT) (sl : SnT) (sh : SnT) (i : Int32)  (hk : 0 < k ∧ k ≤ 6) (hcy : ¬ wc.2.2 = 0) : Ct l yT_output wT_output ({ frames := 1, cells := 0, slots := 0, locals := 21 }) D (tyG cZ cI cJ) tL tH [.ref (ad 0), .int i] sz [cTm ad k tc tm, cWh (ad 1) wc wh, cAg (ad 2) (ad 3) (ad 4) (ad 5) k ag, cZa cZ (ad 3) (5 * k) ag.1, cJa cJ (ad 4) (5 * k) ag.2.1, cIa cI (ad 5) (5 * k) ag.2.2.1, cPn (ad 6) (ad 7) pn, cJa cJ (ad 7) 16 pn.1, cCh (ad 8) (ad 9) (2047 : Int32), cIa cI (ad 9) 64 ca, cCh (ad 10) (ad 11) (32000 : Int32), cIa cI (ad 11) 64 cf, cSn (ad 12) tL (ad 13) (400 : Int32) sl, cJa cJ (ad 13) 3 sl.2.2.2.2, cSn (ad 14) tH (ad 15) (80 : Int32) sh, cJa cJ (ad 15) 3 sh.2.2.2.2] (fun _ : Unit => some (.long (fT_output k wc tc tm wh ag pn ca cf sl sh i))) (fun _ : Unit => [cTm ad k tc tm, cWh (ad 1) wc wh, cAg (ad 2) (ad 3) (ad 4) (ad 5) k ag, cZa cZ (ad 3) (5 * k) ag.1, cJa cJ (ad 4) (5 * k) ag.2.1, cIa cI (ad 5) (5 * k) ag.2.2.1, cPn (ad 6) (ad 7) pn, cJa cJ (ad 7) 16 pn.1, cCh (ad 8) (ad 9) (2047 : Int32), cIa cI (ad 9) 64 ca, cCh (ad 10) (ad 11) (32000 : Int32), cIa cI (ad 11) 64 cf, cSn (ad 12) tL (ad 13) (400 : Int32) sl, cJa cJ (ad 13) 3 sl.2.2.2.2, cSn (ad 14) tH (ad 15) (80 : Int32) sh, cJa cJ (ad 15) 3 sh.2.2.2.2]) 0 0 := by
  refine k_go (by decide +kernel) (Nat.le_of_ble_eq_true rfl) ?_
  intro p e s m args below meth c A ls H hx hb hr hml hts hown hlk hnm hK hN hT hA hS hP hD hl
  have hown : s.vm.findClass "ToothWheelTimer" = some m.cls := hown
  have hlk : meth.locks = false := hlk
  have hl : lv_has ls 2 [(0, .ref (ad 0)), (1, .int i)] := hl
  refine lv_aload_n hx hb dT_output_0 rfl (lv_at hl 0 rfl) ?_
  refine gfT_10 hx hb hts hown hN hK hP 0 rfl (v := .ref (ad 6)) rfl dT_output_1 ?_
  refine lv_iload_n hx hb dT_output_4 rfl (lv_at hl 1 rfl) ?_
  refine k_ca0 (wc := [cPn (ad 6) (ad 7) pn, cJa cJ (ad 7) 16 pn.1]) (wr := [cTm ad k tc tm, cWh (ad 1) wc wh, cAg (ad 2) (ad 3) (ad 4) (ad 5) k ag, cZa cZ (ad 3) (5 * k) ag.1, cJa cJ (ad 4) (5 * k) ag.2.1, cIa cI (ad 5) (5 * k) ag.2.2.1, cCh (ad 8) (ad 9) (2047 : Int32), cIa cI (ad 9) 64 ca, cCh (ad 10) (ad 11) (32000 : Int32), cIa cI (ad 11) 64 cf, cSn (ad 12) tL (ad 13) (400 : Int32) sl, cJa cJ (ad 13) 3 sl.2.2.2.2, cSn (ad 14) tH (ad 15) (80 : Int32) sh, cJa cJ (ad 15) 3 sh.2.2.2.2]) (va_runVN (As := [.int i]) (rest := []) ⟨hx, hb, hml, hown, hts⟩ (ctP_logged l D cZ cI cJ tL tH H.size (ad 6) (ad 7) pn i) (cwT_175 hts hN rfl rfl ⟨Nat.le_of_ble_eq_true rfl, Nat.le_of_ble_eq_true rfl⟩) (k_preV hK hN hT hA hS hP hD [6, 7] rfl (by decide) 6 rfl rfl) rfl rfl hl.1 rfl (lv_room (Nat.le_of_ble_eq_true rfl)) dT_output_5 ⟨Nat.zero_le _, Nat.zero_le _⟩) hP hD hS hA [6, 7] [0, 1, 2, 3, 4, 5, 8, 9, 10, 11, 12, 13, 14, 15] rfl rfl (by decide) (by decide) (fun _ H locs hP hD hS => ?_)
  refine W.eq (g2 := F0 m 8 ls [.long (fP_logged pn i)]) rfl ?_
  have hP : va_P D vwCl [cTm ad k tc tm, cWh (ad 1) wc wh, cAg (ad 2) (ad 3) (ad 4) (ad 5) k ag, cZa cZ (ad 3) (5 * k) ag.1, cJa cJ (ad 4) (5 * k) ag.2.1, cIa cI (ad 5) (5 * k) ag.2.2.1, cCh (ad 8) (ad 9) (2047 : Int32), cIa cI (ad 9) 64 ca, cCh (ad 10) (ad 11) (32000 : Int32), cIa cI (ad 11) 64 cf, cSn (ad 12) tL (ad 13) (400 : Int32) sl, cJa cJ (ad 13) 3 sl.2.2.2.2, cSn (ad 14) tH (ad 15) (80 : Int32) sh, cJa cJ (ad 15) 3 sh.2.2.2.2, cPn (ad 6) (ad 7) pn, cJa cJ (ad 7) 16 pn.1] H := hP
  have hD : va_D A [cTm ad k tc tm, cWh (ad 1) wc wh, cAg (ad 2) (ad 3) (ad 4) (ad 5) k ag, cZa cZ (ad 3) (5 * k) ag.1, cJa cJ (ad 4) (5 * k) ag.2.1, cIa cI (ad 5) (5 * k) ag.2.2.1, cCh (ad 8) (ad 9) (2047 : Int32), cIa cI (ad 9) 64 ca, cCh (ad 10) (ad 11) (32000 : Int32), cIa cI (ad 11) 64 cf, cSn (ad 12) tL (ad 13) (400 : Int32) sl, cJa cJ (ad 13) 3 sl.2.2.2.2, cSn (ad 14) tH (ad 15) (80 : Int32) sh, cJa cJ (ad 15) 3 sh.2.2.2.2, cPn (ad 6) (ad 7) pn, cJa cJ (ad 7) 16 pn.1] := hD
  generalize hq1 : fP_logged pn i = q1 at ⊢
  have hP := hP.sub (ws' := [cTm ad k tc tm, cWh (ad 1) wc wh, cAg (ad 2) (ad 3) (ad 4) (ad 5) k ag, cZa cZ (ad 3) (5 * k) ag.1, cJa cJ (ad 4) (5 * k) ag.2.1, cIa cI (ad 5) (5 * k) ag.2.2.1, cPn (ad 6) (ad 7) pn, cJa cJ (ad 7) 16 pn.1, cCh (ad 8) (ad 9) (2047 : Int32), cIa cI (ad 9) 64 ca, cCh (ad 10) (ad 11) (32000 : Int32), cIa cI (ad 11) 64 cf, cSn (ad 12) tL (ad 13) (400 : Int32) sl, cJa cJ (ad 13) 3 sl.2.2.2.2, cSn (ad 14) tH (ad 15) (80 : Int32) sh, cJa cJ (ad 15) 3 sh.2.2.2.2]) [0, 1, 2, 3, 4, 5, 14, 15, 6, 7, 8, 9, 10, 11, 12, 13] rfl
  have hD := hD.sub (ws' := [cTm ad k tc tm, cWh (ad 1) wc wh, cAg (ad 2) (ad 3) (ad 4) (ad 5) k ag, cZa cZ (ad 3) (5 * k) ag.1, cJa cJ (ad 4) (5 * k) ag.2.1, cIa cI (ad 5) (5 * k) ag.2.2.1, cPn (ad 6) (ad 7) pn, cJa cJ (ad 7) 16 pn.1, cCh (ad 8) (ad 9) (2047 : Int32), cIa cI (ad 9) 64 ca, cCh (ad 10) (ad 11) (32000 : Int32), cIa cI (ad 11) 64 cf, cSn (ad 12) tL (ad 13) (400 : Int32) sl, cJa cJ (ad 13) 3 sl.2.2.2.2, cSn (ad 14) tH (ad 15) (80 : Int32) sh, cJa cJ (ad 15) 3 sh.2.2.2.2]) [0, 1, 2, 3, 4, 5, 14, 15, 6, 7, 8, 9, 10, 11, 12, 13] (by decide) rfl
  exact k_lret hx hb hr hlk hP hD hS dT_output_8 () (by simp only [fT_output, hq1]) rfl

def fT_tally (k : Nat) (wc : WcT) (tc : TcT) (tm : TmT) (wh : WhT) (ag : AgT) (pn : PnT) (ca : ChT) (cf : ChT) (sl : SnT) (sh : SnT) (i : Int32) : Int32 :=
  if i = (0 : Int32) then
    tm.2.1
  else
    if i = (1 : Int32) then
      tm.2.2.1
    else
      if i = (2 : Int32) then
        pn.2.2
      else
        if i = (3 : Int32) then
          tm.2.2.2
        else
          (-1 : Int32)
set_option maxRecDepth 100000 in
set_option maxHeartbeats 4000000 in
theorem ctT_tally (l : Launch) (D : va_G) (cZ cI cJ : ClassId) (tL tH : Nat) (sz : Nat) (ad : Nat → Nat) (k : Nat) (wc : WcT) (tc : TcT) (tm : TmT) (wh : WhT) (ag : AgT) (pn : PnT) (ca : ChT) (cf : ChT) (sl : SnT) (sh : SnT) (i : Int32)  (hk : 0 < k ∧ k ≤ 6) (hcy : ¬ wc.2.2 = 0) : Ct l yT_tally wT_tally ({ frames := 0, cells := 0, slots := 0, locals := 0 }) D (tyG cZ cI cJ) tL tH [.ref (ad 0), .int i] sz [cTm ad k tc tm, cWh (ad 1) wc wh, cAg (ad 2) (ad 3) (ad 4) (ad 5) k ag, cZa cZ (ad 3) (5 * k) ag.1, cJa cJ (ad 4) (5 * k) ag.2.1, cIa cI (ad 5) (5 * k) ag.2.2.1, cPn (ad 6) (ad 7) pn, cJa cJ (ad 7) 16 pn.1, cCh (ad 8) (ad 9) (2047 : Int32), cIa cI (ad 9) 64 ca, cCh (ad 10) (ad 11) (32000 : Int32), cIa cI (ad 11) 64 cf, cSn (ad 12) tL (ad 13) (400 : Int32) sl, cJa cJ (ad 13) 3 sl.2.2.2.2, cSn (ad 14) tH (ad 15) (80 : Int32) sh, cJa cJ (ad 15) 3 sh.2.2.2.2] (fun _ : Unit => some (.int (fT_tally k wc tc tm wh ag pn ca cf sl sh i))) (fun _ : Unit => [cTm ad k tc tm, cWh (ad 1) wc wh, cAg (ad 2) (ad 3) (ad 4) (ad 5) k ag, cZa cZ (ad 3) (5 * k) ag.1, cJa cJ (ad 4) (5 * k) ag.2.1, cIa cI (ad 5) (5 * k) ag.2.2.1, cPn (ad 6) (ad 7) pn, cJa cJ (ad 7) 16 pn.1, cCh (ad 8) (ad 9) (2047 : Int32), cIa cI (ad 9) 64 ca, cCh (ad 10) (ad 11) (32000 : Int32), cIa cI (ad 11) 64 cf, cSn (ad 12) tL (ad 13) (400 : Int32) sl, cJa cJ (ad 13) 3 sl.2.2.2.2, cSn (ad 14) tH (ad 15) (80 : Int32) sh, cJa cJ (ad 15) 3 sh.2.2.2.2]) 0 0 := by
  refine k_go (by decide +kernel) (Nat.le_of_ble_eq_true rfl) ?_
  intro p e s m args below meth c A ls H hx hb hr hml hts hown hlk hnm hK hN hT hA hS hP hD hl
  have hown : s.vm.findClass "ToothWheelTimer" = some m.cls := hown
  have hlk : meth.locks = false := hlk
  have hl : lv_has ls 2 [(0, .ref (ad 0)), (1, .int i)] := hl
  refine lv_iload_n hx hb dT_tally_0 rfl (lv_at hl 1 rfl) ?_
  by_cases h1 : i = (0 : Int32)
  · -- case 0
    refine lv_tableIn (off := 31) (tgt := 32) hx hb dT_tally_1 (by rw [h1]; decide) (by rw [h1]; decide) (by rw [h1]; rfl) (by decide) ?_
    refine lv_aload_n hx hb dT_tally_32 rfl (lv_at hl 0 rfl) ?_
    refine gfT_51 hx hb hts hown hN hK hP 0 rfl (v := .int tm.2.1) rfl dT_tally_33 ?_
    exact k_iret hx hb hr hlk hP hD hS dT_tally_36 () (by simp only [fT_tally, if_pos h1]) rfl
  · -- not 0
    by_cases h2 : i = (1 : Int32)
    · -- case 1
      refine lv_tableIn (off := 36) (tgt := 37) hx hb dT_tally_1 (by rw [h2]; decide) (by rw [h2]; decide) (by rw [h2]; rfl) (by decide) ?_
      refine lv_aload_n hx hb dT_tally_37 rfl (lv_at hl 0 rfl) ?_
      refine gfT_55 hx hb hts hown hN hK hP 0 rfl (v := .int tm.2.2.1) rfl dT_tally_38 ?_
      exact k_iret hx hb hr hlk hP hD hS dT_tally_41 () (by simp only [fT_tally, if_neg h1, if_pos h2]) rfl
    · -- not 1
      by_cases h3 : i = (2 : Int32)
      · -- case 2
        refine lv_tableIn (off := 41) (tgt := 42) hx hb dT_tally_1 (by rw [h3]; decide) (by rw [h3]; decide) (by rw [h3]; rfl) (by decide) ?_
        refine lv_aload_n hx hb dT_tally_42 rfl (lv_at hl 0 rfl) ?_
        refine gfT_10 hx hb hts hown hN hK hP 0 rfl (v := .ref (ad 6)) rfl dT_tally_43 ?_
        refine gfT_149 hx hb hts hown hN hK hP 6 rfl (v := .int pn.2.2) rfl dT_tally_46 ?_
        exact k_iret hx hb hr hlk hP hD hS dT_tally_49 () (by simp only [fT_tally, if_neg h1, if_neg h2, if_pos h3]) rfl
      · -- not 2
        by_cases h4 : i = (3 : Int32)
        · -- case 3
          refine lv_tableIn (off := 49) (tgt := 50) hx hb dT_tally_1 (by rw [h4]; decide) (by rw [h4]; decide) (by rw [h4]; rfl) (by decide) ?_
          refine lv_aload_n hx hb dT_tally_50 rfl (lv_at hl 0 rfl) ?_
          refine gfT_58 hx hb hts hown hN hK hP 0 rfl (v := .int tm.2.2.2) rfl dT_tally_51 ?_
          exact k_iret hx hb hr hlk hP hD hS dT_tally_54 () (by simp only [fT_tally, if_neg h1, if_neg h2, if_neg h3, if_pos h4]) rfl
        · -- not 3
          refine lv_tableOut (tgt := 55) hx hb dT_tally_1 (k_out3 h1 h2 h3 h4) (by decide) ?_
          refine lv_iconst (v := (-1 : Int32)) hx hb dT_tally_55 (by decide) ?_
          exact k_iret hx hb hr hlk hP hD hS dT_tally_56 () (by simp only [fT_tally, if_neg h1, if_neg h2, if_neg h3, if_neg h4]) rfl

def fT_cam (k : Nat) (wc : WcT) (tc : TcT) (tm : TmT) (wh : WhT) (ag : AgT) (pn : PnT) (ca : ChT) (cf : ChT) (sl : SnT) (sh : SnT) : Int32 × WhT :=
  let q1 := fW_meetCam wc wh
  if q1.1 = (3 : Int32) then
    ((1 : Int32), q1)
  else
    ((0 : Int32), q1)
set_option maxRecDepth 100000 in
set_option maxHeartbeats 4000000 in
theorem ctT_cam (l : Launch) (D : va_G) (cZ cI cJ : ClassId) (tL tH : Nat) (sz : Nat) (ad : Nat → Nat) (k : Nat) (wc : WcT) (tc : TcT) (tm : TmT) (wh : WhT) (ag : AgT) (pn : PnT) (ca : ChT) (cf : ChT) (sl : SnT) (sh : SnT)  (hk : 0 < k ∧ k ≤ 6) (hcy : ¬ wc.2.2 = 0) : Ct l yT_cam wT_cam ({ frames := 1, cells := 0, slots := 0, locals := 20 }) D (tyG cZ cI cJ) tL tH [.ref (ad 0)] sz [cTm ad k tc tm, cWh (ad 1) wc wh, cAg (ad 2) (ad 3) (ad 4) (ad 5) k ag, cZa cZ (ad 3) (5 * k) ag.1, cJa cJ (ad 4) (5 * k) ag.2.1, cIa cI (ad 5) (5 * k) ag.2.2.1, cPn (ad 6) (ad 7) pn, cJa cJ (ad 7) 16 pn.1, cCh (ad 8) (ad 9) (2047 : Int32), cIa cI (ad 9) 64 ca, cCh (ad 10) (ad 11) (32000 : Int32), cIa cI (ad 11) 64 cf, cSn (ad 12) tL (ad 13) (400 : Int32) sl, cJa cJ (ad 13) 3 sl.2.2.2.2, cSn (ad 14) tH (ad 15) (80 : Int32) sh, cJa cJ (ad 15) 3 sh.2.2.2.2] (fun _ : Unit => some (.int ((fT_cam k wc tc tm wh ag pn ca cf sl sh).1))) (fun _ : Unit => [cTm ad k tc tm, cWh (ad 1) wc ((fT_cam k wc tc tm wh ag pn ca cf sl sh).2), cAg (ad 2) (ad 3) (ad 4) (ad 5) k ag, cZa cZ (ad 3) (5 * k) ag.1, cJa cJ (ad 4) (5 * k) ag.2.1, cIa cI (ad 5) (5 * k) ag.2.2.1, cPn (ad 6) (ad 7) pn, cJa cJ (ad 7) 16 pn.1, cCh (ad 8) (ad 9) (2047 : Int32), cIa cI (ad 9) 64 ca, cCh (ad 10) (ad 11) (32000 : Int32), cIa cI (ad 11) 64 cf, cSn (ad 12) tL (ad 13) (400 : Int32) sl, cJa cJ (ad 13) 3 sl.2.2.2.2, cSn (ad 14) tH (ad 15) (80 : Int32) sh, cJa cJ (ad 15) 3 sh.2.2.2.2]) 0 0 := by
  refine k_go (by decide +kernel) (Nat.le_of_ble_eq_true rfl) ?_
  intro p e s m args below meth c A ls H hx hb hr hml hts hown hlk hnm hK hN hT hA hS hP hD hl
  have hown : s.vm.findClass "ToothWheelTimer" = some m.cls := hown
  have hlk : meth.locks = false := hlk
  have hl : lv_has ls 1 [(0, .ref (ad 0))] := hl
  refine lv_aload_n hx hb dT_cam_0 rfl (lv_at hl 0 rfl) ?_
  refine gfT_78 hx hb hts hown hN hK hP 0 rfl (v := .ref (ad 1)) rfl dT_cam_1 ?_
  refine k_ca0 (wc := [cWh (ad 1) wc wh]) (wr := [cTm ad k tc tm, cAg (ad 2) (ad 3) (ad 4) (ad 5) k ag, cZa cZ (ad 3) (5 * k) ag.1, cJa cJ (ad 4) (5 * k) ag.2.1, cIa cI (ad 5) (5 * k) ag.2.2.1, cPn (ad 6) (ad 7) pn, cJa cJ (ad 7) 16 pn.1, cCh (ad 8) (ad 9) (2047 : Int32), cIa cI (ad 9) 64 ca, cCh (ad 10) (ad 11) (32000 : Int32), cIa cI (ad 11) 64 cf, cSn (ad 12) tL (ad 13) (400 : Int32) sl, cJa cJ (ad 13) 3 sl.2.2.2.2, cSn (ad 14) tH (ad 15) (80 : Int32) sh, cJa cJ (ad 15) 3 sh.2.2.2.2]) (va_runVN (As := []) (rest := []) ⟨hx, hb, hml, hown, hts⟩ (ctW_meetCam l D cZ cI cJ tL tH H.size (ad 1) wc wh) (cwT_145 hts hN rfl rfl ⟨Nat.le_of_ble_eq_true rfl, Nat.le_of_ble_eq_true rfl⟩) (k_preV hK hN hT hA hS hP hD [1] rfl (by decide) 1 rfl rfl) rfl rfl hl.1 rfl (lv_room (Nat.le_of_ble_eq_true rfl)) dT_cam_4 ⟨Nat.zero_le _, Nat.zero_le _⟩) hP hD hS hA [1] [0, 2, 3, 4, 5, 6, 7, 8, 9, 10, 11, 12, 13, 14, 15] rfl rfl (by decide) (by decide) (fun _ H locs hP hD hS => ?_)
  refine W.eq (g2 := F0 m 7 ls []) rfl ?_
  have hP : va_P D vwCl [cTm ad k tc tm, cAg (ad 2) (ad 3) (ad 4) (ad 5) k ag, cZa cZ (ad 3) (5 * k) ag.1, cJa cJ (ad 4) (5 * k) ag.2.1, cIa cI (ad 5) (5 * k) ag.2.2.1, cPn (ad 6) (ad 7) pn, cJa cJ (ad 7) 16 pn.1, cCh (ad 8) (ad 9) (2047 : Int32), cIa cI (ad 9) 64 ca, cCh (ad 10) (ad 11) (32000 : Int32), cIa cI (ad 11) 64 cf, cSn (ad 12) tL (ad 13) (400 : Int32) sl, cJa cJ (ad 13) 3 sl.2.2.2.2, cSn (ad 14) tH (ad 15) (80 : Int32) sh, cJa cJ (ad 15) 3 sh.2.2.2.2, cWh (ad 1) wc (fW_meetCam wc wh)] H := hP
  have hD : va_D A [cTm ad k tc tm, cAg (ad 2) (ad 3) (ad 4) (ad 5) k ag, cZa cZ (ad 3) (5 * k) ag.1, cJa cJ (ad 4) (5 * k) ag.2.1, cIa cI (ad 5) (5 * k) ag.2.2.1, cPn (ad 6) (ad 7) pn, cJa cJ (ad 7) 16 pn.1, cCh (ad 8) (ad 9) (2047 : Int32), cIa cI (ad 9) 64 ca, cCh (ad 10) (ad 11) (32000 : Int32), cIa cI (ad 11) 64 cf, cSn (ad 12) tL (ad 13) (400 : Int32) sl, cJa cJ (ad 13) 3 sl.2.2.2.2, cSn (ad 14) tH (ad 15) (80 : Int32) sh, cJa cJ (ad 15) 3 sh.2.2.2.2, cWh (ad 1) wc (fW_meetCam wc wh)] := hD
  generalize hq1 : fW_meetCam wc wh = q1 at hP hD 
  have hP : va_P D vwCl [cTm ad k tc tm, cAg (ad 2) (ad 3) (ad 4) (ad 5) k ag, cZa cZ (ad 3) (5 * k) ag.1, cJa cJ (ad 4) (5 * k) ag.2.1, cIa cI (ad 5) (5 * k) ag.2.2.1, cPn (ad 6) (ad 7) pn, cJa cJ (ad 7) 16 pn.1, cCh (ad 8) (ad 9) (2047 : Int32), cIa cI (ad 9) 64 ca, cCh (ad 10) (ad 11) (32000 : Int32), cIa cI (ad 11) 64 cf, cSn (ad 12) tL (ad 13) (400 : Int32) sl, cJa cJ (ad 13) 3 sl.2.2.2.2, cSn (ad 14) tH (ad 15) (80 : Int32) sh, cJa cJ (ad 15) 3 sh.2.2.2.2, cWh (ad 1) wc q1] H := hP
  have hD : va_D A [cTm ad k tc tm, cAg (ad 2) (ad 3) (ad 4) (ad 5) k ag, cZa cZ (ad 3) (5 * k) ag.1, cJa cJ (ad 4) (5 * k) ag.2.1, cIa cI (ad 5) (5 * k) ag.2.2.1, cPn (ad 6) (ad 7) pn, cJa cJ (ad 7) 16 pn.1, cCh (ad 8) (ad 9) (2047 : Int32), cIa cI (ad 9) 64 ca, cCh (ad 10) (ad 11) (32000 : Int32), cIa cI (ad 11) 64 cf, cSn (ad 12) tL (ad 13) (400 : Int32) sl, cJa cJ (ad 13) 3 sl.2.2.2.2, cSn (ad 14) tH (ad 15) (80 : Int32) sh, cJa cJ (ad 15) 3 sh.2.2.2.2, cWh (ad 1) wc q1] := hD
  refine lv_aload_n hx hb dT_cam_7 rfl (lv_at hl 0 rfl) ?_
  refine gfT_78 hx hb hts hown hN hK hP 0 rfl (v := .ref (ad 1)) rfl dT_cam_8 ?_
  refine gfT_142 hx hb hts hown hN hK hP 15 rfl (v := .int q1.1) rfl dT_cam_11 ?_
  refine lv_iconst (v := (3 : Int32)) hx hb dT_cam_14 (by decide) ?_
  refine lv_icmp_ne (tgt := 22) hx hb dT_cam_15 (by decide) (fun h2 => ?_) (fun h2 => ?_)
  · -- taken at 15
    refine lv_iconst (v := (0 : Int32)) hx hb dT_cam_22 (by decide) ?_
    have hP := hP.sub (ws' := [cTm ad k tc tm, cWh (ad 1) wc q1, cAg (ad 2) (ad 3) (ad 4) (ad 5) k ag, cZa cZ (ad 3) (5 * k) ag.1, cJa cJ (ad 4) (5 * k) ag.2.1, cIa cI (ad 5) (5 * k) ag.2.2.1, cPn (ad 6) (ad 7) pn, cJa cJ (ad 7) 16 pn.1, cCh (ad 8) (ad 9) (2047 : Int32), cIa cI (ad 9) 64 ca, cCh (ad 10) (ad 11) (32000 : Int32), cIa cI (ad 11) 64 cf, cSn (ad 12) tL (ad 13) (400 : Int32) sl, cJa cJ (ad 13) 3 sl.2.2.2.2, cSn (ad 14) tH (ad 15) (80 : Int32) sh, cJa cJ (ad 15) 3 sh.2.2.2.2]) [0, 15, 1, 2, 3, 4, 5, 6, 7, 8, 9, 10, 11, 12, 13, 14] rfl
    have hD := hD.sub (ws' := [cTm ad k tc tm, cWh (ad 1) wc q1, cAg (ad 2) (ad 3) (ad 4) (ad 5) k ag, cZa cZ (ad 3) (5 * k) ag.1, cJa cJ (ad 4) (5 * k) ag.2.1, cIa cI (ad 5) (5 * k) ag.2.2.1, cPn (ad 6) (ad 7) pn, cJa cJ (ad 7) 16 pn.1, cCh (ad 8) (ad 9) (2047 : Int32), cIa cI (ad 9) 64 ca, cCh (ad 10) (ad 11) (32000 : Int32), cIa cI (ad 11) 64 cf, cSn (ad 12) tL (ad 13) (400 : Int32) sl, cJa cJ (ad 13) 3 sl.2.2.2.2, cSn (ad 14) tH (ad 15) (80 : Int32) sh, cJa cJ (ad 15) 3 sh.2.2.2.2]) [0, 15, 1, 2, 3, 4, 5, 6, 7, 8, 9, 10, 11, 12, 13, 14] (by decide) rfl
    exact k_zret hx hb hr hlk (zn_b (Or.inl rfl)) hP hD hS dT_cam_23 () (by simp only [fT_cam, hq1, if_neg h2]) (by simp only [fT_cam, hq1, if_neg h2])
  · -- not taken at 15
    refine lv_iconst (v := (1 : Int32)) hx hb dT_cam_18 (by decide) ?_
    refine lv_goto (tgt := 23) hx hb dT_cam_19 (by decide) ?_
    have hP := hP.sub (ws' := [cTm ad k tc tm, cWh (ad 1) wc q1, cAg (ad 2) (ad 3) (ad 4) (ad 5) k ag, cZa cZ (ad 3) (5 * k) ag.1, cJa cJ (ad 4) (5 * k) ag.2.1, cIa cI (ad 5) (5 * k) ag.2.2.1, cPn (ad 6) (ad 7) pn, cJa cJ (ad 7) 16 pn.1, cCh (ad 8) (ad 9) (2047 : Int32), cIa cI (ad 9) 64 ca, cCh (ad 10) (ad 11) (32000 : Int32), cIa cI (ad 11) 64 cf, cSn (ad 12) tL (ad 13) (400 : Int32) sl, cJa cJ (ad 13) 3 sl.2.2.2.2, cSn (ad 14) tH (ad 15) (80 : Int32) sh, cJa cJ (ad 15) 3 sh.2.2.2.2]) [0, 15, 1, 2, 3, 4, 5, 6, 7, 8, 9, 10, 11, 12, 13, 14] rfl
    have hD := hD.sub (ws' := [cTm ad k tc tm, cWh (ad 1) wc q1, cAg (ad 2) (ad 3) (ad 4) (ad 5) k ag, cZa cZ (ad 3) (5 * k) ag.1, cJa cJ (ad 4) (5 * k) ag.2.1, cIa cI (ad 5) (5 * k) ag.2.2.1, cPn (ad 6) (ad 7) pn, cJa cJ (ad 7) 16 pn.1, cCh (ad 8) (ad 9) (2047 : Int32), cIa cI (ad 9) 64 ca, cCh (ad 10) (ad 11) (32000 : Int32), cIa cI (ad 11) 64 cf, cSn (ad 12) tL (ad 13) (400 : Int32) sl, cJa cJ (ad 13) 3 sl.2.2.2.2, cSn (ad 14) tH (ad 15) (80 : Int32) sh, cJa cJ (ad 15) 3 sh.2.2.2.2]) [0, 15, 1, 2, 3, 4, 5, 6, 7, 8, 9, 10, 11, 12, 13, 14] (by decide) rfl
    exact k_zret hx hb hr hlk (zn_b (Or.inr rfl)) hP hD hS dT_cam_23 () (by simp only [fT_cam, hq1, if_pos h2]) (by simp only [fT_cam, hq1, if_pos h2])

def fT_foretell (k : Nat) (wc : WcT) (tc : TcT) (tm : TmT) (wh : WhT) (ag : AgT) (pn : PnT) (ca : ChT) (cf : ChT) (sl : SnT) (sh : SnT) (an : Int32) : Int64 :=
  if wh.2.2.2.2.2.1 = (-1 : Int32) then
    (-1 : Int64)
  else
    if an < 0 then
      (-1 : Int64)
    else
      if an < wc.2.2 then
        let q4 := fW_stepsTo wc wh an
        let q5 := fW_timeOver wc wh q4
        wh.2.2.1 + q5
      else
        (-1 : Int64)
set_option maxRecDepth 100000 in
set_option maxHeartbeats 4000000 in
theorem ctT_foretell (l : Launch) (D : va_G) (cZ cI cJ : ClassId) (tL tH : Nat) (sz : Nat) (ad : Nat → Nat) (k : Nat) (wc : WcT) (tc : TcT) (tm : TmT) (wh : WhT) (ag : AgT) (pn : PnT) (ca : ChT) (cf : ChT) (sl : SnT) (sh : SnT) (an : Int32)  (hk : 0 < k ∧ k ≤ 6) (hcy : ¬ wc.2.2 = 0) : Ct l yT_foretell wT_foretell ({ frames := 2, cells := 0, slots := 0, locals := 44 }) D (tyG cZ cI cJ) tL tH [.ref (ad 0), .int an] sz [cTm ad k tc tm, cWh (ad 1) wc wh, cAg (ad 2) (ad 3) (ad 4) (ad 5) k ag, cZa cZ (ad 3) (5 * k) ag.1, cJa cJ (ad 4) (5 * k) ag.2.1, cIa cI (ad 5) (5 * k) ag.2.2.1, cPn (ad 6) (ad 7) pn, cJa cJ (ad 7) 16 pn.1, cCh (ad 8) (ad 9) (2047 : Int32), cIa cI (ad 9) 64 ca, cCh (ad 10) (ad 11) (32000 : Int32), cIa cI (ad 11) 64 cf, cSn (ad 12) tL (ad 13) (400 : Int32) sl, cJa cJ (ad 13) 3 sl.2.2.2.2, cSn (ad 14) tH (ad 15) (80 : Int32) sh, cJa cJ (ad 15) 3 sh.2.2.2.2] (fun _ : Unit => some (.long (fT_foretell k wc tc tm wh ag pn ca cf sl sh an))) (fun _ : Unit => [cTm ad k tc tm, cWh (ad 1) wc wh, cAg (ad 2) (ad 3) (ad 4) (ad 5) k ag, cZa cZ (ad 3) (5 * k) ag.1, cJa cJ (ad 4) (5 * k) ag.2.1, cIa cI (ad 5) (5 * k) ag.2.2.1, cPn (ad 6) (ad 7) pn, cJa cJ (ad 7) 16 pn.1, cCh (ad 8) (ad 9) (2047 : Int32), cIa cI (ad 9) 64 ca, cCh (ad 10) (ad 11) (32000 : Int32), cIa cI (ad 11) 64 cf, cSn (ad 12) tL (ad 13) (400 : Int32) sl, cJa cJ (ad 13) 3 sl.2.2.2.2, cSn (ad 14) tH (ad 15) (80 : Int32) sh, cJa cJ (ad 15) 3 sh.2.2.2.2]) 0 0 := by
  refine k_go (by decide +kernel) (Nat.le_of_ble_eq_true rfl) ?_
  intro p e s m args below meth c A ls H hx hb hr hml hts hown hlk hnm hK hN hT hA hS hP hD hl
  have hown : s.vm.findClass "ToothWheelTimer" = some m.cls := hown
  have hlk : meth.locks = false := hlk
  have hl : lv_has ls 2 [(0, .ref (ad 0)), (1, .int an)] := hl
  refine lv_aload_n hx hb dT_foretell_0 rfl (lv_at hl 0 rfl) ?_
  refine gfT_78 hx hb hts hown hN hK hP 0 rfl (v := .ref (ad 1)) rfl dT_foretell_1 ?_
  refine gfT_159 hx hb hts hown hN hK hP 1 rfl (v := .int wh.2.2.2.2.2.1) rfl dT_foretell_4 ?_
  refine lv_iconst (v := (-1 : Int32)) hx hb dT_foretell_7 (by decide) ?_
  refine lv_icmp_eq (tgt := 26) hx hb dT_foretell_8 (by decide) (fun h1 => ?_) (fun h1 => ?_)
  · -- taken at 8
    refine lv_ldc2 (v := (-1 : Int64)) hx hb hown (hts _ (wg wd_282 rfl)) dT_foretell_26 ?_
    exact k_lret hx hb hr hlk hP hD hS dT_foretell_29 () (by simp only [fT_foretell, if_pos h1]) rfl
  · -- not taken at 8
    refine lv_iload_n hx hb dT_foretell_11 rfl (lv_at hl 1 rfl) ?_
    refine lv_if_lt (tgt := 26) hx hb dT_foretell_12 (by decide) (fun h2 => ?_) (fun h2 => ?_)
    · -- taken at 12
      refine lv_ldc2 (v := (-1 : Int64)) hx hb hown (hts _ (wg wd_282 rfl)) dT_foretell_26 ?_
      exact k_lret hx hb hr hlk hP hD hS dT_foretell_29 () (by simp only [fT_foretell, if_neg h1, if_pos h2]) rfl
    · -- not taken at 12
      refine lv_iload_n hx hb dT_foretell_15 rfl (lv_at hl 1 rfl) ?_
      refine lv_aload_n hx hb dT_foretell_16 rfl (lv_at hl 0 rfl) ?_
      refine gfT_78 hx hb hts hown hN hK hP 0 rfl (v := .ref (ad 1)) rfl dT_foretell_17 ?_
      refine gfT_162 hx hb hts hown hN hK hP 1 rfl (v := .int wc.2.2) rfl dT_foretell_20 ?_
      refine lv_icmp_lt (tgt := 30) hx hb dT_foretell_23 (by decide) (fun h3 => ?_) (fun h3 => ?_)
      · -- taken at 23
        refine lv_aload_n hx hb dT_foretell_30 rfl (lv_at hl 0 rfl) ?_
        refine gfT_78 hx hb hts hown hN hK hP 0 rfl (v := .ref (ad 1)) rfl dT_foretell_31 ?_
        refine gfT_165 hx hb hts hown hN hK hP 1 rfl (v := .long wh.2.2.1) rfl dT_foretell_34 ?_
        refine lv_aload_n hx hb dT_foretell_37 rfl (lv_at hl 0 rfl) ?_
        refine gfT_78 hx hb hts hown hN hK hP 0 rfl (v := .ref (ad 1)) rfl dT_foretell_38 ?_
        refine lv_aload_n hx hb dT_foretell_41 rfl (lv_at hl 0 rfl) ?_
        refine gfT_78 hx hb hts hown hN hK hP 0 rfl (v := .ref (ad 1)) rfl dT_foretell_42 ?_
        refine lv_iload_n hx hb dT_foretell_45 rfl (lv_at hl 1 rfl) ?_
        refine k_ca0 (wc := [cWh (ad 1) wc wh]) (wr := [cTm ad k tc tm, cAg (ad 2) (ad 3) (ad 4) (ad 5) k ag, cZa cZ (ad 3) (5 * k) ag.1, cJa cJ (ad 4) (5 * k) ag.2.1, cIa cI (ad 5) (5 * k) ag.2.2.1, cPn (ad 6) (ad 7) pn, cJa cJ (ad 7) 16 pn.1, cCh (ad 8) (ad 9) (2047 : Int32), cIa cI (ad 9) 64 ca, cCh (ad 10) (ad 11) (32000 : Int32), cIa cI (ad 11) 64 cf, cSn (ad 12) tL (ad 13) (400 : Int32) sl, cJa cJ (ad 13) 3 sl.2.2.2.2, cSn (ad 14) tH (ad 15) (80 : Int32) sh, cJa cJ (ad 15) 3 sh.2.2.2.2]) (va_runVN (As := [.int an]) (rest := [.ref (ad 1), .long wh.2.2.1]) ⟨hx, hb, hml, hown, hts⟩ (ctW_stepsTo l D cZ cI cJ tL tH H.size (ad 1) wc wh an hcy) (cwT_168 hts hN rfl rfl ⟨Nat.le_of_ble_eq_true rfl, Nat.le_of_ble_eq_true rfl⟩) (k_preV hK hN hT hA hS hP hD [1] rfl (by decide) 1 rfl rfl) rfl rfl hl.1 rfl (lv_room (Nat.le_of_ble_eq_true rfl)) dT_foretell_46 ⟨Nat.zero_le _, Nat.zero_le _⟩) hP hD hS hA [1] [0, 2, 3, 4, 5, 6, 7, 8, 9, 10, 11, 12, 13, 14, 15] rfl rfl (by decide) (by decide) (fun _ H locs hP hD hS => ?_)
        refine W.eq (g2 := F0 m 49 ls [.int (fW_stepsTo wc wh an), .ref (ad 1), .long wh.2.2.1]) rfl ?_
        have hP : va_P D vwCl [cTm ad k tc tm, cAg (ad 2) (ad 3) (ad 4) (ad 5) k ag, cZa cZ (ad 3) (5 * k) ag.1, cJa cJ (ad 4) (5 * k) ag.2.1, cIa cI (ad 5) (5 * k) ag.2.2.1, cPn (ad 6) (ad 7) pn, cJa cJ (ad 7) 16 pn.1, cCh (ad 8) (ad 9) (2047 : Int32), cIa cI (ad 9) 64 ca, cCh (ad 10) (ad 11) (32000 : Int32), cIa cI (ad 11) 64 cf, cSn (ad 12) tL (ad 13) (400 : Int32) sl, cJa cJ (ad 13) 3 sl.2.2.2.2, cSn (ad 14) tH (ad 15) (80 : Int32) sh, cJa cJ (ad 15) 3 sh.2.2.2.2, cWh (ad 1) wc wh] H := hP
        have hD : va_D A [cTm ad k tc tm, cAg (ad 2) (ad 3) (ad 4) (ad 5) k ag, cZa cZ (ad 3) (5 * k) ag.1, cJa cJ (ad 4) (5 * k) ag.2.1, cIa cI (ad 5) (5 * k) ag.2.2.1, cPn (ad 6) (ad 7) pn, cJa cJ (ad 7) 16 pn.1, cCh (ad 8) (ad 9) (2047 : Int32), cIa cI (ad 9) 64 ca, cCh (ad 10) (ad 11) (32000 : Int32), cIa cI (ad 11) 64 cf, cSn (ad 12) tL (ad 13) (400 : Int32) sl, cJa cJ (ad 13) 3 sl.2.2.2.2, cSn (ad 14) tH (ad 15) (80 : Int32) sh, cJa cJ (ad 15) 3 sh.2.2.2.2, cWh (ad 1) wc wh] := hD
        generalize hq4 : fW_stepsTo wc wh an = q4 at ⊢
        refine k_ca0 (wc := [cWh (ad 1) wc wh]) (wr := [cTm ad k tc tm, cAg (ad 2) (ad 3) (ad 4) (ad 5) k ag, cZa cZ (ad 3) (5 * k) ag.1, cJa cJ (ad 4) (5 * k) ag.2.1, cIa cI (ad 5) (5 * k) ag.2.2.1, cPn (ad 6) (ad 7) pn, cJa cJ (ad 7) 16 pn.1, cCh (ad 8) (ad 9) (2047 : Int32), cIa cI (ad 9) 64 ca, cCh (ad 10) (ad 11) (32000 : Int32), cIa cI (ad 11) 64 cf, cSn (ad 12) tL (ad 13) (400 : Int32) sl, cJa cJ (ad 13) 3 sl.2.2.2.2, cSn (ad 14) tH (ad 15) (80 : Int32) sh, cJa cJ (ad 15) 3 sh.2.2.2.2]) (va_runVN (As := [.int q4]) (rest := [.long wh.2.2.1]) ⟨hx, hb, hml, hown, hts⟩ (ctW_timeOver l D cZ cI cJ tL tH H.size (ad 1) wc wh q4) (cwT_172 hts hN rfl rfl ⟨Nat.le_of_ble_eq_true rfl, Nat.le_of_ble_eq_true rfl⟩) (k_preV hK hN hT hA hS hP hD [15] rfl (by decide) 15 rfl rfl) rfl rfl hl.1 rfl (lv_room (Nat.le_of_ble_eq_true rfl)) dT_foretell_49 ⟨Nat.zero_le _, Nat.zero_le _⟩) hP hD hS hA [15] [0, 1, 2, 3, 4, 5, 6, 7, 8, 9, 10, 11, 12, 13, 14] rfl rfl (by decide) (by decide) (fun _ H locs hP hD hS => ?_)
        refine W.eq (g2 := F0 m 52 ls [.long (fW_timeOver wc wh q4), .long wh.2.2.1]) rfl ?_
        have hP : va_P D vwCl [cTm ad k tc tm, cAg (ad 2) (ad 3) (ad 4) (ad 5) k ag, cZa cZ (ad 3) (5 * k) ag.1, cJa cJ (ad 4) (5 * k) ag.2.1, cIa cI (ad 5) (5 * k) ag.2.2.1, cPn (ad 6) (ad 7) pn, cJa cJ (ad 7) 16 pn.1, cCh (ad 8) (ad 9) (2047 : Int32), cIa cI (ad 9) 64 ca, cCh (ad 10) (ad 11) (32000 : Int32), cIa cI (ad 11) 64 cf, cSn (ad 12) tL (ad 13) (400 : Int32) sl, cJa cJ (ad 13) 3 sl.2.2.2.2, cSn (ad 14) tH (ad 15) (80 : Int32) sh, cJa cJ (ad 15) 3 sh.2.2.2.2, cWh (ad 1) wc wh] H := hP
        have hD : va_D A [cTm ad k tc tm, cAg (ad 2) (ad 3) (ad 4) (ad 5) k ag, cZa cZ (ad 3) (5 * k) ag.1, cJa cJ (ad 4) (5 * k) ag.2.1, cIa cI (ad 5) (5 * k) ag.2.2.1, cPn (ad 6) (ad 7) pn, cJa cJ (ad 7) 16 pn.1, cCh (ad 8) (ad 9) (2047 : Int32), cIa cI (ad 9) 64 ca, cCh (ad 10) (ad 11) (32000 : Int32), cIa cI (ad 11) 64 cf, cSn (ad 12) tL (ad 13) (400 : Int32) sl, cJa cJ (ad 13) 3 sl.2.2.2.2, cSn (ad 14) tH (ad 15) (80 : Int32) sh, cJa cJ (ad 15) 3 sh.2.2.2.2, cWh (ad 1) wc wh] := hD
        generalize hq5 : fW_timeOver wc wh q4 = q5 at ⊢
        refine lv_ladd hx hb dT_foretell_52 ?_
        have hP := hP.sub (ws' := [cTm ad k tc tm, cWh (ad 1) wc wh, cAg (ad 2) (ad 3) (ad 4) (ad 5) k ag, cZa cZ (ad 3) (5 * k) ag.1, cJa cJ (ad 4) (5 * k) ag.2.1, cIa cI (ad 5) (5 * k) ag.2.2.1, cPn (ad 6) (ad 7) pn, cJa cJ (ad 7) 16 pn.1, cCh (ad 8) (ad 9) (2047 : Int32), cIa cI (ad 9) 64 ca, cCh (ad 10) (ad 11) (32000 : Int32), cIa cI (ad 11) 64 cf, cSn (ad 12) tL (ad 13) (400 : Int32) sl, cJa cJ (ad 13) 3 sl.2.2.2.2, cSn (ad 14) tH (ad 15) (80 : Int32) sh, cJa cJ (ad 15) 3 sh.2.2.2.2]) [0, 15, 1, 2, 3, 4, 5, 6, 7, 8, 9, 10, 11, 12, 13, 14] rfl
        have hD := hD.sub (ws' := [cTm ad k tc tm, cWh (ad 1) wc wh, cAg (ad 2) (ad 3) (ad 4) (ad 5) k ag, cZa cZ (ad 3) (5 * k) ag.1, cJa cJ (ad 4) (5 * k) ag.2.1, cIa cI (ad 5) (5 * k) ag.2.2.1, cPn (ad 6) (ad 7) pn, cJa cJ (ad 7) 16 pn.1, cCh (ad 8) (ad 9) (2047 : Int32), cIa cI (ad 9) 64 ca, cCh (ad 10) (ad 11) (32000 : Int32), cIa cI (ad 11) 64 cf, cSn (ad 12) tL (ad 13) (400 : Int32) sl, cJa cJ (ad 13) 3 sl.2.2.2.2, cSn (ad 14) tH (ad 15) (80 : Int32) sh, cJa cJ (ad 15) 3 sh.2.2.2.2]) [0, 15, 1, 2, 3, 4, 5, 6, 7, 8, 9, 10, 11, 12, 13, 14] (by decide) rfl
        exact k_lret hx hb hr hlk hP hD hS dT_foretell_53 () (by simp only [fT_foretell, if_neg h1, if_neg h2, if_pos h3, hq4, hq5]) rfl
      · -- not taken at 23
        refine lv_ldc2 (v := (-1 : Int64)) hx hb hown (hts _ (wg wd_282 rfl)) dT_foretell_26 ?_
        exact k_lret hx hb hr hlk hP hD hS dT_foretell_29 () (by simp only [fT_foretell, if_neg h1, if_neg h2, if_neg h3]) rfl

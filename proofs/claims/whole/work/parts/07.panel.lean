/-! Panel and Chart: written by program (wip/whole/gen/specs2.py) -/
theorem k_nat {x : Int32} {N : Nat} (h1 : ¬ x < 0) (h2 : ¬ nI N ≤ x) (hN : N < 2 ^ 31) : ∃ a : Nat, a < N ∧ x = nI a := by
  rcases pk_ix x hN with h | h | h
  · exact absurd h h1
  · exact absurd h h2
  · exact h
theorem k_nat2 {x : Int32} {N : Nat} (h1 : ¬ x < 0) (h2 : ¬ nI N < x) (hN : N < 2 ^ 30) : ∃ a : Nat, a ≤ N ∧ x = nI a := by
  rcases pk_ix x (n := N + 1) (by omega) with h | h | ⟨a, h3, h4⟩
  · exact absurd h h1
  · exact absurd (Int32.lt_of_lt_of_le (nI_lt (a := N) (b := N + 1) (by omega) (by omega)) h) h2
  · exact ⟨a, by omega, h4⟩
theorem k_ixput {i j : Int32} (h1 : ¬ i < 0) (h2 : ¬ (8 : Int32) ≤ i) (h3 : ¬ j < 0) (h4 : ¬ (8 : Int32) ≤ j) : vp_in (i * (8 : Int32) + j) 64 := by
  obtain ⟨a, ha, rfl⟩ := k_nat (N := 8) h1 h2 (by decide)
  obtain ⟨b, hb, rfl⟩ := k_nat (N := 8) h3 h4 (by decide)
  have e : nI a * (8 : Int32) + nI b = nI (a * 8 + b) := by rw [← nI_add, ← pk_mul]; rfl
  rw [e]
  exact vp_in_nI (by omega) (by decide)
theorem k_ixat {x y : Int32} (h1 : ¬ x < 0) (h2 : ¬ (1791 : Int32) < x) (h3 : ¬ y < 0) (h4 : ¬ (1791 : Int32) < y) : ∃ a b : Nat, a ≤ 6 ∧ b ≤ 6 ∧ x / (256 : Int32) * (8 : Int32) + y / (256 : Int32) = nI (a * 8 + b) := by
  obtain ⟨a, ha, rfl⟩ := k_nat2 (N := 1791) h1 h2 (by decide)
  obtain ⟨b, hb, rfl⟩ := k_nat2 (N := 1791) h3 h4 (by decide)
  refine ⟨a / 256, b / 256, by omega, by omega, ?_⟩
  have e1 : nI a / (256 : Int32) = nI (a / 256) := pk_div (a := a) (d := 256) (by omega) (by decide) (by decide)
  have e2 : nI b / (256 : Int32) = nI (b / 256) := pk_div (a := b) (d := 256) (by omega) (by decide) (by decide)
  rw [e1, e2, ← nI_add, ← pk_mul]
  rfl
theorem k_ixat0 {x y : Int32} (h1 : ¬ x < 0) (h2 : ¬ (1791 : Int32) < x) (h3 : ¬ y < 0) (h4 : ¬ (1791 : Int32) < y) : vp_in (x / (256 : Int32) * (8 : Int32) + y / (256 : Int32)) 64 := by
  obtain ⟨a, b, ha, hb, e⟩ := k_ixat h1 h2 h3 h4
  rw [e]
  exact vp_in_nI (by omega) (by decide)
theorem k_ixat1 {x y : Int32} (h1 : ¬ x < 0) (h2 : ¬ (1791 : Int32) < x) (h3 : ¬ y < 0) (h4 : ¬ (1791 : Int32) < y) : vp_in (x / (256 : Int32) * (8 : Int32) + y / (256 : Int32) + (1 : Int32)) 64 := by
  obtain ⟨a, b, ha, hb, e⟩ := k_ixat h1 h2 h3 h4
  rw [e, nI_1]
  exact vp_in_nI (by omega) (by decide)
theorem k_ixat8 {x y : Int32} (h1 : ¬ x < 0) (h2 : ¬ (1791 : Int32) < x) (h3 : ¬ y < 0) (h4 : ¬ (1791 : Int32) < y) : vp_in (x / (256 : Int32) * (8 : Int32) + y / (256 : Int32) + (8 : Int32)) 64 := by
  obtain ⟨a, b, ha, hb, e⟩ := k_ixat h1 h2 h3 h4
  rw [e, show nI (a * 8 + b) + (8 : Int32) = nI (a * 8 + b + 8) from nI_add _ 8]
  exact vp_in_nI (by omega) (by decide)
theorem k_ixat9 {x y : Int32} (h1 : ¬ x < 0) (h2 : ¬ (1791 : Int32) < x) (h3 : ¬ y < 0) (h4 : ¬ (1791 : Int32) < y) : vp_in (x / (256 : Int32) * (8 : Int32) + y / (256 : Int32) + (8 : Int32) + (1 : Int32)) 64 := by
  obtain ⟨a, b, ha, hb, e⟩ := k_ixat h1 h2 h3 h4
  rw [e, show nI (a * 8 + b) + (8 : Int32) = nI (a * 8 + b + 8) from nI_add _ 8, nI_1]
  exact vp_in_nI (by omega) (by decide)
def fP_isOn (pn : PnT) (line : Int32) : Int32 :=
  if (pn.2.1 &&& ((1 : Int32) <<< (line &&& 31))) = 0 then
    (0 : Int32)
  else
    (1 : Int32)
set_option maxRecDepth 100000 in
set_option maxHeartbeats 4000000 in
theorem ctP_isOn (l : Launch) (D : va_G) (cZ cI cJ : ClassId) (tL tH : Nat) (sz : Nat) (h : Nat) (aL : Nat) (pn : PnT) (line : Int32)   : Ct l yP_isOn wP_isOn ({ frames := 0, cells := 0, slots := 0, locals := 0 }) D (tyG cZ cI cJ) tL tH [.ref h, .int line] sz [cPn h aL pn, cJa cJ aL 16 pn.1] (fun _ : Unit => some (.int (fP_isOn pn line))) (fun _ : Unit => [cPn h aL pn, cJa cJ aL 16 pn.1]) 0 0 := by
  refine k_go (by decide +kernel) (Nat.le_of_ble_eq_true rfl) ?_
  intro p e s m args below meth c A ls H hx hb hr hml hts hown hlk hnm hK hN hT hA hS hP hD hl
  have hown : s.vm.findClass "ToothWheelTimer$Panel" = some m.cls := hown
  have hlk : meth.locks = false := hlk
  have hl : lv_has ls 2 [(0, .ref h), (1, .int line)] := hl
  refine lv_aload_n hx hb dP_isOn_0 rfl (lv_at hl 0 rfl) ?_
  refine gfP_15 hx hb hts hown hN hK hP 0 rfl (v := .int pn.2.1) rfl dP_isOn_1 ?_
  refine lv_iconst (v := (1 : Int32)) hx hb dP_isOn_4 (by decide) ?_
  refine lv_iload_n hx hb dP_isOn_5 rfl (lv_at hl 1 rfl) ?_
  refine lv_ishl hx hb dP_isOn_6 ?_
  refine lv_iand hx hb dP_isOn_7 ?_
  refine lv_if_eq (tgt := 15) hx hb dP_isOn_8 (by decide) (fun h1 => ?_) (fun h1 => ?_)
  · -- taken at 8
    refine lv_iconst (v := (0 : Int32)) hx hb dP_isOn_15 (by decide) ?_
    exact k_zret hx hb hr hlk (zn_b (Or.inl rfl)) hP hD hS dP_isOn_16 () (by simp only [fP_isOn, if_pos h1]) rfl
  · -- not taken at 8
    refine lv_iconst (v := (1 : Int32)) hx hb dP_isOn_11 (by decide) ?_
    refine lv_goto (tgt := 16) hx hb dP_isOn_12 (by decide) ?_
    exact k_zret hx hb hr hlk (zn_b (Or.inr rfl)) hP hD hS dP_isOn_16 () (by simp only [fP_isOn, if_neg h1]) rfl

def fP_switchTo (pn : PnT) (line : Int32) (on : Int32) (time : Int64) : PnT :=
  if on = 0 then
    (vp_updL pn.1 ((pn.2.2 &&& (15 : Int32)).toNatClampNeg) (((time * (32 : Int64)) + (((2 : Int32) * line).toInt64)) + (0 : Int64)), pn.2.1 &&& (((1 : Int32) <<< (line &&& 31)) ^^^ (-1 : Int32)), pn.2.2 + (1 : Int32))
  else
    (vp_updL pn.1 ((pn.2.2 &&& (15 : Int32)).toNatClampNeg) (((time * (32 : Int64)) + (((2 : Int32) * line).toInt64)) + (1 : Int64)), pn.2.1 ||| ((1 : Int32) <<< (line &&& 31)), pn.2.2 + (1 : Int32))
set_option maxRecDepth 100000 in
set_option maxHeartbeats 4000000 in
theorem ctP_switchTo (l : Launch) (D : va_G) (cZ cI cJ : ClassId) (tL tH : Nat) (sz : Nat) (h : Nat) (aL : Nat) (pn : PnT) (line : Int32) (on : Int32) (time : Int64)   : Ct l yP_switchTo wP_switchTo ({ frames := 0, cells := 0, slots := 0, locals := 0 }) D (tyG cZ cI cJ) tL tH [.ref h, .int line, .int on, .long time] sz [cPn h aL pn, cJa cJ aL 16 pn.1] (fun _ : Unit => none) (fun _ : Unit => [cPn h aL (fP_switchTo pn line on time), cJa cJ aL 16 ((fP_switchTo pn line on time).1)]) 0 0 := by
  refine k_go (by decide +kernel) (Nat.le_of_ble_eq_true rfl) ?_
  intro p e s m args below meth c A ls H hx hb hr hml hts hown hlk hnm hK hN hT hA hS hP hD hl
  have hown : s.vm.findClass "ToothWheelTimer$Panel" = some m.cls := hown
  have hlk : meth.locks = false := hlk
  have hl : lv_has ls 5 [(0, .ref h), (1, .int line), (2, .int on), (3, .long time)] := hl
  refine lv_aload_n hx hb dP_switchTo_0 rfl (lv_at hl 0 rfl) ?_
  refine lv_iload_n hx hb dP_switchTo_1 rfl (lv_at hl 2 rfl) ?_
  refine lv_if_eq (tgt := 16) hx hb dP_switchTo_2 (by decide) (fun h1 => ?_) (fun h1 => ?_)
  · -- taken at 2
    refine lv_aload_n hx hb dP_switchTo_16 rfl (lv_at hl 0 rfl) ?_
    refine gfP_15 hx hb hts hown hN hK hP 0 rfl (v := .int pn.2.1) rfl dP_switchTo_17 ?_
    refine lv_iconst (v := (1 : Int32)) hx hb dP_switchTo_20 (by decide) ?_
    refine lv_iload_n hx hb dP_switchTo_21 rfl (lv_at hl 1 rfl) ?_
    refine lv_ishl hx hb dP_switchTo_22 ?_
    refine lv_iconst (v := (-1 : Int32)) hx hb dP_switchTo_23 (by decide) ?_
    refine lv_ixor hx hb dP_switchTo_24 ?_
    refine lv_iand hx hb dP_switchTo_25 ?_
    refine pfP_15 hx hb hts hown hN hK hP hD hS 0 rfl (v := .int (pn.2.1 &&& (((1 : Int32) <<< (line &&& 31)) ^^^ (-1 : Int32)))) rfl rfl (Nat.le_of_ble_eq_true rfl) dP_switchTo_26 (fun H locs hP hD hS => ?_)
    have hP : va_P D vwCl [cPn h aL (pn.1, pn.2.1 &&& (((1 : Int32) <<< (line &&& 31)) ^^^ (-1 : Int32)), pn.2.2), cJa cJ aL 16 pn.1] H := hP
    have hD : va_D A [cPn h aL (pn.1, pn.2.1 &&& (((1 : Int32) <<< (line &&& 31)) ^^^ (-1 : Int32)), pn.2.2), cJa cJ aL 16 pn.1] := hD
    refine lv_aload_n hx hb dP_switchTo_29 rfl (lv_at hl 0 rfl) ?_
    refine gfP_11 hx hb hts hown hN hK hP 0 rfl (v := .ref aL) rfl dP_switchTo_30 ?_
    refine lv_aload_n hx hb dP_switchTo_33 rfl (lv_at hl 0 rfl) ?_
    refine gfP_19 hx hb hts hown hN hK hP 0 rfl (v := .int pn.2.2) rfl dP_switchTo_34 ?_
    refine lv_bipush (v := (15 : Int32)) hx hb dP_switchTo_37 (by decide) ?_
    refine lv_iand hx hb dP_switchTo_39 ?_
    refine lv_lload_n hx hb dP_switchTo_40 rfl (lv_at hl 3 rfl) ?_
    refine lv_ldc2 (v := (32 : Int64)) hx hb hown (hts _ (wg wd_362 rfl)) dP_switchTo_41 ?_
    refine lv_lmul hx hb dP_switchTo_44 ?_
    refine lv_iconst (v := (2 : Int32)) hx hb dP_switchTo_45 (by decide) ?_
    refine lv_iload_n hx hb dP_switchTo_46 rfl (lv_at hl 1 rfl) ?_
    refine lv_imul hx hb dP_switchTo_47 ?_
    refine lv_i2l hx hb dP_switchTo_48 rfl ?_
    refine lv_ladd hx hb dP_switchTo_49 ?_
    refine lv_iload_n hx hb dP_switchTo_50 rfl (lv_at hl 2 rfl) ?_
    refine lv_if_eq (tgt := 58) hx hb dP_switchTo_51 (by decide) (fun _ => ?_) (fun h0 => absurd h1 h0)
    refine lv_iconst (v := (0 : Int32)) hx hb dP_switchTo_58 (by decide) ?_
    refine lv_i2l (v := (0 : Int64)) hx hb dP_switchTo_59 (by decide) ?_
    refine lv_ladd hx hb dP_switchTo_60 ?_
    refine va_last hx hb hK hP hD hS 1 2 rfl rfl (pk_andIn _ 4 (by decide) (by decide)) dP_switchTo_61 (fun H locs hP hD hS => ?_)
    have hP : va_P D vwCl [cPn h aL (vp_updL pn.1 ((pn.2.2 &&& (15 : Int32)).toNatClampNeg) (((time * (32 : Int64)) + (((2 : Int32) * line).toInt64)) + (0 : Int64)), pn.2.1 &&& (((1 : Int32) <<< (line &&& 31)) ^^^ (-1 : Int32)), pn.2.2), cJa cJ aL 16 (vp_updL pn.1 ((pn.2.2 &&& (15 : Int32)).toNatClampNeg) (((time * (32 : Int64)) + (((2 : Int32) * line).toInt64)) + (0 : Int64)))] H := hP
    have hD : va_D A [cPn h aL (vp_updL pn.1 ((pn.2.2 &&& (15 : Int32)).toNatClampNeg) (((time * (32 : Int64)) + (((2 : Int32) * line).toInt64)) + (0 : Int64)), pn.2.1 &&& (((1 : Int32) <<< (line &&& 31)) ^^^ (-1 : Int32)), pn.2.2), cJa cJ aL 16 (vp_updL pn.1 ((pn.2.2 &&& (15 : Int32)).toNatClampNeg) (((time * (32 : Int64)) + (((2 : Int32) * line).toInt64)) + (0 : Int64)))] := hD
    refine lv_aload_n hx hb dP_switchTo_62 rfl (lv_at hl 0 rfl) ?_
    refine lv_dup hx hb dP_switchTo_63 rfl ?_
    refine gfP_19 hx hb hts hown hN hK hP 0 rfl (v := .int pn.2.2) rfl dP_switchTo_64 ?_
    refine lv_iconst (v := (1 : Int32)) hx hb dP_switchTo_67 (by decide) ?_
    refine lv_iadd hx hb dP_switchTo_68 ?_
    refine pfP_19 hx hb hts hown hN hK hP hD hS 0 rfl (v := .int (pn.2.2 + (1 : Int32))) rfl rfl (Nat.le_of_ble_eq_true rfl) dP_switchTo_69 (fun H locs hP hD hS => ?_)
    have hP : va_P D vwCl [cPn h aL (vp_updL pn.1 ((pn.2.2 &&& (15 : Int32)).toNatClampNeg) (((time * (32 : Int64)) + (((2 : Int32) * line).toInt64)) + (0 : Int64)), pn.2.1 &&& (((1 : Int32) <<< (line &&& 31)) ^^^ (-1 : Int32)), pn.2.2 + (1 : Int32)), cJa cJ aL 16 (vp_updL pn.1 ((pn.2.2 &&& (15 : Int32)).toNatClampNeg) (((time * (32 : Int64)) + (((2 : Int32) * line).toInt64)) + (0 : Int64)))] H := hP
    have hD : va_D A [cPn h aL (vp_updL pn.1 ((pn.2.2 &&& (15 : Int32)).toNatClampNeg) (((time * (32 : Int64)) + (((2 : Int32) * line).toInt64)) + (0 : Int64)), pn.2.1 &&& (((1 : Int32) <<< (line &&& 31)) ^^^ (-1 : Int32)), pn.2.2 + (1 : Int32)), cJa cJ aL 16 (vp_updL pn.1 ((pn.2.2 &&& (15 : Int32)).toNatClampNeg) (((time * (32 : Int64)) + (((2 : Int32) * line).toInt64)) + (0 : Int64)))] := hD
    exact k_vret hx hb hr hlk hP hD hS dP_switchTo_72 () rfl (by simp only [fP_switchTo, if_pos h1])
  · -- not taken at 2
    refine lv_aload_n hx hb dP_switchTo_5 rfl (lv_at hl 0 rfl) ?_
    refine gfP_15 hx hb hts hown hN hK hP 0 rfl (v := .int pn.2.1) rfl dP_switchTo_6 ?_
    refine lv_iconst (v := (1 : Int32)) hx hb dP_switchTo_9 (by decide) ?_
    refine lv_iload_n hx hb dP_switchTo_10 rfl (lv_at hl 1 rfl) ?_
    refine lv_ishl hx hb dP_switchTo_11 ?_
    refine lv_ior hx hb dP_switchTo_12 ?_
    refine lv_goto (tgt := 26) hx hb dP_switchTo_13 (by decide) ?_
    refine pfP_15 hx hb hts hown hN hK hP hD hS 0 rfl (v := .int (pn.2.1 ||| ((1 : Int32) <<< (line &&& 31)))) rfl rfl (Nat.le_of_ble_eq_true rfl) dP_switchTo_26 (fun H locs hP hD hS => ?_)
    have hP : va_P D vwCl [cPn h aL (pn.1, pn.2.1 ||| ((1 : Int32) <<< (line &&& 31)), pn.2.2), cJa cJ aL 16 pn.1] H := hP
    have hD : va_D A [cPn h aL (pn.1, pn.2.1 ||| ((1 : Int32) <<< (line &&& 31)), pn.2.2), cJa cJ aL 16 pn.1] := hD
    refine lv_aload_n hx hb dP_switchTo_29 rfl (lv_at hl 0 rfl) ?_
    refine gfP_11 hx hb hts hown hN hK hP 0 rfl (v := .ref aL) rfl dP_switchTo_30 ?_
    refine lv_aload_n hx hb dP_switchTo_33 rfl (lv_at hl 0 rfl) ?_
    refine gfP_19 hx hb hts hown hN hK hP 0 rfl (v := .int pn.2.2) rfl dP_switchTo_34 ?_
    refine lv_bipush (v := (15 : Int32)) hx hb dP_switchTo_37 (by decide) ?_
    refine lv_iand hx hb dP_switchTo_39 ?_
    refine lv_lload_n hx hb dP_switchTo_40 rfl (lv_at hl 3 rfl) ?_
    refine lv_ldc2 (v := (32 : Int64)) hx hb hown (hts _ (wg wd_362 rfl)) dP_switchTo_41 ?_
    refine lv_lmul hx hb dP_switchTo_44 ?_
    refine lv_iconst (v := (2 : Int32)) hx hb dP_switchTo_45 (by decide) ?_
    refine lv_iload_n hx hb dP_switchTo_46 rfl (lv_at hl 1 rfl) ?_
    refine lv_imul hx hb dP_switchTo_47 ?_
    refine lv_i2l hx hb dP_switchTo_48 rfl ?_
    refine lv_ladd hx hb dP_switchTo_49 ?_
    refine lv_iload_n hx hb dP_switchTo_50 rfl (lv_at hl 2 rfl) ?_
    refine lv_if_eq (tgt := 58) hx hb dP_switchTo_51 (by decide) (fun h0 => absurd h0 h1) (fun _ => ?_)
    refine lv_iconst (v := (1 : Int32)) hx hb dP_switchTo_54 (by decide) ?_
    refine lv_goto (tgt := 59) hx hb dP_switchTo_55 (by decide) ?_
    refine lv_i2l (v := (1 : Int64)) hx hb dP_switchTo_59 (by decide) ?_
    refine lv_ladd hx hb dP_switchTo_60 ?_
    refine va_last hx hb hK hP hD hS 1 2 rfl rfl (pk_andIn _ 4 (by decide) (by decide)) dP_switchTo_61 (fun H locs hP hD hS => ?_)
    have hP : va_P D vwCl [cPn h aL (vp_updL pn.1 ((pn.2.2 &&& (15 : Int32)).toNatClampNeg) (((time * (32 : Int64)) + (((2 : Int32) * line).toInt64)) + (1 : Int64)), pn.2.1 ||| ((1 : Int32) <<< (line &&& 31)), pn.2.2), cJa cJ aL 16 (vp_updL pn.1 ((pn.2.2 &&& (15 : Int32)).toNatClampNeg) (((time * (32 : Int64)) + (((2 : Int32) * line).toInt64)) + (1 : Int64)))] H := hP
    have hD : va_D A [cPn h aL (vp_updL pn.1 ((pn.2.2 &&& (15 : Int32)).toNatClampNeg) (((time * (32 : Int64)) + (((2 : Int32) * line).toInt64)) + (1 : Int64)), pn.2.1 ||| ((1 : Int32) <<< (line &&& 31)), pn.2.2), cJa cJ aL 16 (vp_updL pn.1 ((pn.2.2 &&& (15 : Int32)).toNatClampNeg) (((time * (32 : Int64)) + (((2 : Int32) * line).toInt64)) + (1 : Int64)))] := hD
    refine lv_aload_n hx hb dP_switchTo_62 rfl (lv_at hl 0 rfl) ?_
    refine lv_dup hx hb dP_switchTo_63 rfl ?_
    refine gfP_19 hx hb hts hown hN hK hP 0 rfl (v := .int pn.2.2) rfl dP_switchTo_64 ?_
    refine lv_iconst (v := (1 : Int32)) hx hb dP_switchTo_67 (by decide) ?_
    refine lv_iadd hx hb dP_switchTo_68 ?_
    refine pfP_19 hx hb hts hown hN hK hP hD hS 0 rfl (v := .int (pn.2.2 + (1 : Int32))) rfl rfl (Nat.le_of_ble_eq_true rfl) dP_switchTo_69 (fun H locs hP hD hS => ?_)
    have hP : va_P D vwCl [cPn h aL (vp_updL pn.1 ((pn.2.2 &&& (15 : Int32)).toNatClampNeg) (((time * (32 : Int64)) + (((2 : Int32) * line).toInt64)) + (1 : Int64)), pn.2.1 ||| ((1 : Int32) <<< (line &&& 31)), pn.2.2 + (1 : Int32)), cJa cJ aL 16 (vp_updL pn.1 ((pn.2.2 &&& (15 : Int32)).toNatClampNeg) (((time * (32 : Int64)) + (((2 : Int32) * line).toInt64)) + (1 : Int64)))] H := hP
    have hD : va_D A [cPn h aL (vp_updL pn.1 ((pn.2.2 &&& (15 : Int32)).toNatClampNeg) (((time * (32 : Int64)) + (((2 : Int32) * line).toInt64)) + (1 : Int64)), pn.2.1 ||| ((1 : Int32) <<< (line &&& 31)), pn.2.2 + (1 : Int32)), cJa cJ aL 16 (vp_updL pn.1 ((pn.2.2 &&& (15 : Int32)).toNatClampNeg) (((time * (32 : Int64)) + (((2 : Int32) * line).toInt64)) + (1 : Int64)))] := hD
    exact k_vret hx hb hr hlk hP hD hS dP_switchTo_72 () rfl (by simp only [fP_switchTo, if_neg h1])

def fP_logged (pn : PnT) (i : Int32) : Int64 :=
  if i < 0 then
    (-1 : Int64)
  else
    if (16 : Int32) ≤ i then
      (-1 : Int64)
    else
      if i < pn.2.2 then
        pn.1 ((((pn.2.2 - (1 : Int32)) - i) &&& (15 : Int32)).toNatClampNeg)
      else
        (-1 : Int64)
set_option maxRecDepth 100000 in
set_option maxHeartbeats 4000000 in
theorem ctP_logged (l : Launch) (D : va_G) (cZ cI cJ : ClassId) (tL tH : Nat) (sz : Nat) (h : Nat) (aL : Nat) (pn : PnT) (i : Int32)   : Ct l yP_logged wP_logged ({ frames := 0, cells := 0, slots := 0, locals := 0 }) D (tyG cZ cI cJ) tL tH [.ref h, .int i] sz [cPn h aL pn, cJa cJ aL 16 pn.1] (fun _ : Unit => some (.long (fP_logged pn i))) (fun _ : Unit => [cPn h aL pn, cJa cJ aL 16 pn.1]) 0 0 := by
  refine k_go (by decide +kernel) (Nat.le_of_ble_eq_true rfl) ?_
  intro p e s m args below meth c A ls H hx hb hr hml hts hown hlk hnm hK hN hT hA hS hP hD hl
  have hown : s.vm.findClass "ToothWheelTimer$Panel" = some m.cls := hown
  have hlk : meth.locks = false := hlk
  have hl : lv_has ls 2 [(0, .ref h), (1, .int i)] := hl
  refine lv_iload_n hx hb dP_logged_0 rfl (lv_at hl 1 rfl) ?_
  refine lv_if_lt (tgt := 18) hx hb dP_logged_1 (by decide) (fun h1 => ?_) (fun h1 => ?_)
  · -- taken at 1
    refine lv_ldc2 (v := (-1 : Int64)) hx hb hown (hts _ (wg wd_513 rfl)) dP_logged_18 ?_
    refine lv_goto (tgt := 40) hx hb dP_logged_21 (by decide) ?_
    exact k_lret hx hb hr hlk hP hD hS dP_logged_40 () (by simp only [fP_logged, if_pos h1]) rfl
  · -- not taken at 1
    refine lv_iload_n hx hb dP_logged_4 rfl (lv_at hl 1 rfl) ?_
    refine lv_bipush (v := (16 : Int32)) hx hb dP_logged_5 (by decide) ?_
    refine lv_icmp_ge (tgt := 18) hx hb dP_logged_7 (by decide) (fun h2 => ?_) (fun h2 => ?_)
    · -- taken at 7
      refine lv_ldc2 (v := (-1 : Int64)) hx hb hown (hts _ (wg wd_513 rfl)) dP_logged_18 ?_
      refine lv_goto (tgt := 40) hx hb dP_logged_21 (by decide) ?_
      exact k_lret hx hb hr hlk hP hD hS dP_logged_40 () (by simp only [fP_logged, if_neg h1, if_pos h2]) rfl
    · -- not taken at 7
      refine lv_iload_n hx hb dP_logged_10 rfl (lv_at hl 1 rfl) ?_
      refine lv_aload_n hx hb dP_logged_11 rfl (lv_at hl 0 rfl) ?_
      refine gfP_19 hx hb hts hown hN hK hP 0 rfl (v := .int pn.2.2) rfl dP_logged_12 ?_
      refine lv_icmp_lt (tgt := 24) hx hb dP_logged_15 (by decide) (fun h3 => ?_) (fun h3 => ?_)
      · -- taken at 15
        refine lv_aload_n hx hb dP_logged_24 rfl (lv_at hl 0 rfl) ?_
        refine gfP_11 hx hb hts hown hN hK hP 0 rfl (v := .ref aL) rfl dP_logged_25 ?_
        refine lv_aload_n hx hb dP_logged_28 rfl (lv_at hl 0 rfl) ?_
        refine gfP_19 hx hb hts hown hN hK hP 0 rfl (v := .int pn.2.2) rfl dP_logged_29 ?_
        refine lv_iconst (v := (1 : Int32)) hx hb dP_logged_32 (by decide) ?_
        refine lv_isub hx hb dP_logged_33 ?_
        refine lv_iload_n hx hb dP_logged_34 rfl (lv_at hl 1 rfl) ?_
        refine lv_isub hx hb dP_logged_35 ?_
        refine lv_bipush (v := (15 : Int32)) hx hb dP_logged_36 (by decide) ?_
        refine lv_iand hx hb dP_logged_38 ?_
        refine va_lald hx hb hK hP 1 2 rfl rfl (pk_andIn _ 4 (by decide) (by decide)) dP_logged_39 ?_
        exact k_lret hx hb hr hlk hP hD hS dP_logged_40 () (by simp only [fP_logged, if_neg h1, if_neg h2, if_pos h3]) rfl
      · -- not taken at 15
        refine lv_ldc2 (v := (-1 : Int64)) hx hb hown (hts _ (wg wd_513 rfl)) dP_logged_18 ?_
        refine lv_goto (tgt := 40) hx hb dP_logged_21 (by decide) ?_
        exact k_lret hx hb hr hlk hP hD hS dP_logged_40 () (by simp only [fP_logged, if_neg h1, if_neg h2, if_neg h3]) rfl

def fP_switchAllOff_l (time : Int64) : Nat → Nat → PnT → PnT
  | 0, i, pn1 =>
    pn1
  | fuel + 1, i, pn1 =>
    let q1 := fP_isOn pn1 (nI i)
    if q1 = 0 then
      fP_switchAllOff_l time fuel (i + 1) pn1
    else
      let q3 := fP_switchTo pn1 (nI i) (0 : Int32) time
      fP_switchAllOff_l time fuel (i + 1) q3
def fP_switchAllOff (pn : PnT) (time : Int64) : PnT :=
  fP_switchAllOff_l time 16 0 pn
set_option maxRecDepth 100000 in
set_option maxHeartbeats 4000000 in
theorem ctP_switchAllOff (l : Launch) (D : va_G) (cZ cI cJ : ClassId) (tL tH : Nat) (sz : Nat) (h : Nat) (aL : Nat) (pn : PnT) (time : Int64)   : Ct l yP_switchAllOff wP_switchAllOff ({ frames := 1, cells := 0, slots := 0, locals := 24 }) D (tyG cZ cI cJ) tL tH [.ref h, .long time] sz [cPn h aL pn, cJa cJ aL 16 pn.1] (fun _ : Unit => none) (fun _ : Unit => [cPn h aL (fP_switchAllOff pn time), cJa cJ aL 16 ((fP_switchAllOff pn time).1)]) 0 0 := by
  refine k_go (by decide +kernel) (Nat.le_of_ble_eq_true rfl) ?_
  intro p e s m args below meth c A ls H hx hb hr hml hts hown hlk hnm hK hN hT hA hS hP hD hl
  have hown : s.vm.findClass "ToothWheelTimer$Panel" = some m.cls := hown
  have hlk : meth.locks = false := hlk
  have hl : lv_has ls 4 [(0, .ref h), (1, .long time)] := hl
  refine lv_iconst (v := (0 : Int32)) hx hb dP_switchAllOff_0 (by decide) ?_
  refine lv_istore_n (lv' := [(3, .int (0 : Int32)), (0, .ref h), (1, .long time)]) hx hb dP_switchAllOff_1 rfl hl (by decide) rfl (fun ls hl => ?_)
  have hl := lv_sub (l' := [(3, .int (0 : Int32)), (0, .ref h), (1, .long time)]) hl [0, 1, 2] rfl
  have LOOP2 : ∀ (fuel : Nat) (i : Nat) (pn1 : PnT), ∀ (ls : Array Slot) (H : Heap) (locs : List Loc), fuel + i = 16 → fP_switchAllOff pn time = fP_switchAllOff_l time fuel i pn1 → lv_has ls 4 [(3, .int (nI i)), (0, .ref h), (1, .long time)] → va_P D vwCl [cPn h aL pn1, cJa cJ aL 16 pn1.1] H → va_D A [cPn h aL pn1, cJa cJ aL 16 pn1.1] → va_S A s.heap H locs → W p l e { frames := 1, cells := 0, slots := 0, locals := 24 } s m args below meth c H locs 0 0 (MQ below (QX A D (fun _ : Unit => none) (fun _ : Unit => [cPn h aL (fP_switchAllOff pn time), cJa cJ aL 16 ((fP_switchAllOff pn time).1)])) args s 0 0 A) (F0 m 2 ls []) := by
    intro fuel
    induction fuel with
    | zero =>
      intro i pn1  ls H locs hm hres hl hP hD hS
      refine lv_iload_n hx hb dP_switchAllOff_2 rfl (lv_at hl 0 rfl) ?_
      refine lv_bipush (v := (16 : Int32)) hx hb dP_switchAllOff_3 (by decide) ?_
      refine lv_icmp_ge (tgt := 29) hx hb dP_switchAllOff_5 (by decide) (fun _ => ?_) (fun h0 => absurd (nI_le (a := 16) (b := i) (by omega) (by omega)) h0)
      exact k_vret hx hb hr hlk hP hD hS dP_switchAllOff_29 () rfl (by simp only [hres, fP_switchAllOff_l])
    | succ fuel ih =>
      intro i pn1  ls H locs hm hres hl hP hD hS
      refine lv_iload_n hx hb dP_switchAllOff_2 rfl (lv_at hl 0 rfl) ?_
      refine lv_bipush (v := (16 : Int32)) hx hb dP_switchAllOff_3 (by decide) ?_
      refine lv_icmp_ge (tgt := 29) hx hb dP_switchAllOff_5 (by decide) (fun h0 => absurd h0 (nI_ge (a := i) (b := 16) (by omega) (by omega))) (fun _ => ?_)
      refine lv_aload_n hx hb dP_switchAllOff_8 rfl (lv_at hl 1 rfl) ?_
      refine lv_iload_n hx hb dP_switchAllOff_9 rfl (lv_at hl 0 rfl) ?_
      refine k_ca0 (wc := [cPn h aL pn1, cJa cJ aL 16 pn1.1]) (wr := []) (va_runV (As := [.int (nI i)]) (rest := []) ⟨hx, hb, hml, hown, hts⟩ (ctP_isOn l D cZ cI cJ tL tH H.size h aL pn1 (nI i)) (cwP_24 hts hN rfl rfl ⟨Nat.le_of_ble_eq_true rfl, Nat.le_of_ble_eq_true rfl⟩) (k_preV hK hN hT hA hS hP hD [0, 1] rfl (by decide) 0 rfl rfl) rfl rfl hl.1 rfl (lv_room (Nat.le_of_ble_eq_true rfl)) dP_switchAllOff_10 ⟨Nat.zero_le _, Nat.zero_le _⟩) hP hD hS hA [0, 1] [] rfl rfl (by decide) (by decide) (fun _ H locs hP hD hS => ?_)
      refine W.eq (g2 := F0 m 13 ls [.int (fP_isOn pn1 (nI i))]) rfl ?_
      have hP : va_P D vwCl [cPn h aL pn1, cJa cJ aL 16 pn1.1] H := hP
      have hD : va_D A [cPn h aL pn1, cJa cJ aL 16 pn1.1] := hD
      generalize hq1 : fP_isOn pn1 (nI i) = q1 at ⊢
      refine lv_if_eq (tgt := 23) hx hb dP_switchAllOff_13 (by decide) (fun h2 => ?_) (fun h2 => ?_)
      · -- taken at 13
        refine lv_iinc (k := 0) (v := nI (i + 1)) (lv' := [(3, .int (nI (i + 1))), (0, .ref h), (1, .long time)]) hx hb dP_switchAllOff_23 hl rfl (nI_1 i) (by decide) rfl (fun ls hl => ?_)
        refine lv_goto (tgt := 2) hx hb dP_switchAllOff_26 (by decide) ?_
        have hl := lv_sub (l' := [(3, .int (nI (i + 1))), (0, .ref h), (1, .long time)]) hl [0, 1, 2] rfl
        exact ih (i + 1) pn1  ls H _ (by omega) (by simp only [hres, fP_switchAllOff_l, hq1, if_pos h2]) hl hP hD hS
      · -- not taken at 13
        refine lv_aload_n hx hb dP_switchAllOff_16 rfl (lv_at hl 1 rfl) ?_
        refine lv_iload_n hx hb dP_switchAllOff_17 rfl (lv_at hl 0 rfl) ?_
        refine lv_iconst (v := (0 : Int32)) hx hb dP_switchAllOff_18 (by decide) ?_
        refine lv_lload_n hx hb dP_switchAllOff_19 rfl (lv_at hl 2 rfl) ?_
        refine k_ca0 (wc := [cPn h aL pn1, cJa cJ aL 16 pn1.1]) (wr := []) (va_runV (As := [.int (nI i), .int (0 : Int32), .long time]) (rest := []) ⟨hx, hb, hml, hown, hts⟩ (ctP_switchTo l D cZ cI cJ tL tH H.size h aL pn1 (nI i) (0 : Int32) time) (cwP_28 hts hN rfl rfl ⟨Nat.le_of_ble_eq_true rfl, Nat.le_of_ble_eq_true rfl⟩) (k_preV hK hN hT hA hS hP hD [0, 1] rfl (by decide) 0 rfl rfl) rfl rfl hl.1 rfl (lv_room (Nat.le_of_ble_eq_true rfl)) dP_switchAllOff_20 ⟨Nat.zero_le _, Nat.zero_le _⟩) hP hD hS hA [0, 1] [] rfl rfl (by decide) (by decide) (fun _ H locs hP hD hS => ?_)
        refine W.eq (g2 := F0 m 23 ls []) rfl ?_
        have hP : va_P D vwCl [cPn h aL (fP_switchTo pn1 (nI i) (0 : Int32) time), cJa cJ aL 16 ((fP_switchTo pn1 (nI i) (0 : Int32) time).1)] H := hP
        have hD : va_D A [cPn h aL (fP_switchTo pn1 (nI i) (0 : Int32) time), cJa cJ aL 16 ((fP_switchTo pn1 (nI i) (0 : Int32) time).1)] := hD
        generalize hq3 : fP_switchTo pn1 (nI i) (0 : Int32) time = q3 at hP hD 
        have hP : va_P D vwCl [cPn h aL q3, cJa cJ aL 16 q3.1] H := hP
        have hD : va_D A [cPn h aL q3, cJa cJ aL 16 q3.1] := hD
        refine lv_iinc (k := 0) (v := nI (i + 1)) (lv' := [(3, .int (nI (i + 1))), (0, .ref h), (1, .long time)]) hx hb dP_switchAllOff_23 hl rfl (nI_1 i) (by decide) rfl (fun ls hl => ?_)
        refine lv_goto (tgt := 2) hx hb dP_switchAllOff_26 (by decide) ?_
        have hl := lv_sub (l' := [(3, .int (nI (i + 1))), (0, .ref h), (1, .long time)]) hl [0, 1, 2] rfl
        exact ih (i + 1) q3  ls H _ (by omega) (by simp only [hres, fP_switchAllOff_l, hq1, if_neg h2, hq3]) hl hP hD hS
  exact LOOP2 16 0 pn  ls H _ (by omega) rfl hl hP hD hS

def fC_put (mx : Int32) (ch : ChT) (i : Int32) (j : Int32) (v : Int32) : Int32 × ChT :=
  if i < 0 then
    ((0 : Int32), ch)
  else
    if (8 : Int32) ≤ i then
      ((0 : Int32), ch)
    else
      if j < 0 then
        ((0 : Int32), ch)
      else
        if (8 : Int32) ≤ j then
          ((0 : Int32), ch)
        else
          if v < 0 then
            ((0 : Int32), ch)
          else
            if v ≤ mx then
              ((1 : Int32), upd ch (((i * (8 : Int32)) + j).toNatClampNeg) v)
            else
              ((0 : Int32), ch)
set_option maxRecDepth 100000 in
set_option maxHeartbeats 4000000 in
theorem ctC_put (l : Launch) (D : va_G) (cZ cI cJ : ClassId) (tL tH : Nat) (sz : Nat) (h : Nat) (aP : Nat) (mx : Int32) (ch : ChT) (i : Int32) (j : Int32) (v : Int32)   : Ct l yC_put wC_put ({ frames := 0, cells := 0, slots := 0, locals := 0 }) D (tyG cZ cI cJ) tL tH [.ref h, .int i, .int j, .int v] sz [cCh h aP mx, cIa cI aP 64 ch] (fun _ : Unit => some (.int ((fC_put mx ch i j v).1))) (fun _ : Unit => [cCh h aP mx, cIa cI aP 64 ((fC_put mx ch i j v).2)]) 0 0 := by
  refine k_go (by decide +kernel) (Nat.le_of_ble_eq_true rfl) ?_
  intro p e s m args below meth c A ls H hx hb hr hml hts hown hlk hnm hK hN hT hA hS hP hD hl
  have hown : s.vm.findClass "ToothWheelTimer$Chart" = some m.cls := hown
  have hlk : meth.locks = false := hlk
  have hl : lv_has ls 4 [(0, .ref h), (1, .int i), (2, .int j), (3, .int v)] := hl
  refine lv_iload_n hx hb dC_put_0 rfl (lv_at hl 1 rfl) ?_
  refine lv_if_lt (tgt := 32) hx hb dC_put_1 (by decide) (fun h1 => ?_) (fun h1 => ?_)
  · -- taken at 1
    refine lv_iconst (v := (0 : Int32)) hx hb dC_put_32 (by decide) ?_
    exact k_zret hx hb hr hlk (zn_b (Or.inl rfl)) hP hD hS dC_put_33 () (by simp only [fC_put, if_pos h1]) (by simp only [fC_put, if_pos h1])
  · -- not taken at 1
    refine lv_iload_n hx hb dC_put_4 rfl (lv_at hl 1 rfl) ?_
    refine lv_bipush (v := (8 : Int32)) hx hb dC_put_5 (by decide) ?_
    refine lv_icmp_ge (tgt := 32) hx hb dC_put_7 (by decide) (fun h2 => ?_) (fun h2 => ?_)
    · -- taken at 7
      refine lv_iconst (v := (0 : Int32)) hx hb dC_put_32 (by decide) ?_
      exact k_zret hx hb hr hlk (zn_b (Or.inl rfl)) hP hD hS dC_put_33 () (by simp only [fC_put, if_neg h1, if_pos h2]) (by simp only [fC_put, if_neg h1, if_pos h2])
    · -- not taken at 7
      refine lv_iload_n hx hb dC_put_10 rfl (lv_at hl 2 rfl) ?_
      refine lv_if_lt (tgt := 32) hx hb dC_put_11 (by decide) (fun h3 => ?_) (fun h3 => ?_)
      · -- taken at 11
        refine lv_iconst (v := (0 : Int32)) hx hb dC_put_32 (by decide) ?_
        exact k_zret hx hb hr hlk (zn_b (Or.inl rfl)) hP hD hS dC_put_33 () (by simp only [fC_put, if_neg h1, if_neg h2, if_pos h3]) (by simp only [fC_put, if_neg h1, if_neg h2, if_pos h3])
      · -- not taken at 11
        refine lv_iload_n hx hb dC_put_14 rfl (lv_at hl 2 rfl) ?_
        refine lv_bipush (v := (8 : Int32)) hx hb dC_put_15 (by decide) ?_
        refine lv_icmp_ge (tgt := 32) hx hb dC_put_17 (by decide) (fun h4 => ?_) (fun h4 => ?_)
        · -- taken at 17
          refine lv_iconst (v := (0 : Int32)) hx hb dC_put_32 (by decide) ?_
          exact k_zret hx hb hr hlk (zn_b (Or.inl rfl)) hP hD hS dC_put_33 () (by simp only [fC_put, if_neg h1, if_neg h2, if_neg h3, if_pos h4]) (by simp only [fC_put, if_neg h1, if_neg h2, if_neg h3, if_pos h4])
        · -- not taken at 17
          refine lv_iload_n hx hb dC_put_20 rfl (lv_at hl 3 rfl) ?_
          refine lv_if_lt (tgt := 32) hx hb dC_put_21 (by decide) (fun h5 => ?_) (fun h5 => ?_)
          · -- taken at 21
            refine lv_iconst (v := (0 : Int32)) hx hb dC_put_32 (by decide) ?_
            exact k_zret hx hb hr hlk (zn_b (Or.inl rfl)) hP hD hS dC_put_33 () (by simp only [fC_put, if_neg h1, if_neg h2, if_neg h3, if_neg h4, if_pos h5]) (by simp only [fC_put, if_neg h1, if_neg h2, if_neg h3, if_neg h4, if_pos h5])
          · -- not taken at 21
            refine lv_iload_n hx hb dC_put_24 rfl (lv_at hl 3 rfl) ?_
            refine lv_aload_n hx hb dC_put_25 rfl (lv_at hl 0 rfl) ?_
            refine gfC_15 hx hb hts hown hN hK hP 0 rfl (v := .int mx) rfl dC_put_26 ?_
            refine lv_icmp_le (tgt := 34) hx hb dC_put_29 (by decide) (fun h6 => ?_) (fun h6 => ?_)
            · -- taken at 29
              refine lv_aload_n hx hb dC_put_34 rfl (lv_at hl 0 rfl) ?_
              refine gfC_11 hx hb hts hown hN hK hP 0 rfl (v := .ref aP) rfl dC_put_35 ?_
              refine lv_iload_n hx hb dC_put_38 rfl (lv_at hl 1 rfl) ?_
              refine lv_bipush (v := (8 : Int32)) hx hb dC_put_39 (by decide) ?_
              refine lv_imul hx hb dC_put_41 ?_
              refine lv_iload_n hx hb dC_put_42 rfl (lv_at hl 2 rfl) ?_
              refine lv_iadd hx hb dC_put_43 ?_
              refine lv_iload_n hx hb dC_put_44 rfl (lv_at hl 3 rfl) ?_
              refine va_iast hx hb hK hP hD hS 1 1 rfl rfl (k_ixput h1 h2 h3 h4) dC_put_45 (fun H locs hP hD hS => ?_)
              have hP : va_P D vwCl [cCh h aP mx, cIa cI aP 64 (upd ch (((i * (8 : Int32)) + j).toNatClampNeg) v)] H := hP
              have hD : va_D A [cCh h aP mx, cIa cI aP 64 (upd ch (((i * (8 : Int32)) + j).toNatClampNeg) v)] := hD
              refine lv_iconst (v := (1 : Int32)) hx hb dC_put_46 (by decide) ?_
              exact k_zret hx hb hr hlk (zn_b (Or.inr rfl)) hP hD hS dC_put_47 () (by simp only [fC_put, if_neg h1, if_neg h2, if_neg h3, if_neg h4, if_neg h5, if_pos h6]) (by simp only [fC_put, if_neg h1, if_neg h2, if_neg h3, if_neg h4, if_neg h5, if_pos h6])
            · -- not taken at 29
              refine lv_iconst (v := (0 : Int32)) hx hb dC_put_32 (by decide) ?_
              exact k_zret hx hb hr hlk (zn_b (Or.inl rfl)) hP hD hS dC_put_33 () (by simp only [fC_put, if_neg h1, if_neg h2, if_neg h3, if_neg h4, if_neg h5, if_neg h6]) (by simp only [fC_put, if_neg h1, if_neg h2, if_neg h3, if_neg h4, if_neg h5, if_neg h6])

def fC_at (mx : Int32) (ch : ChT) (x : Int32) (y : Int32) : Int32 :=
  if x < 0 then
    (-1 : Int32)
  else
    if (1791 : Int32) < x then
      (-1 : Int32)
    else
      if y < 0 then
        (-1 : Int32)
      else
        if y ≤ (1791 : Int32) then
          ((((((((ch ((((x / (256 : Int32)) * (8 : Int32)) + (y / (256 : Int32))).toNatClampNeg)).toInt64) * ((256 : Int64) - ((y - y / (256 : Int32) * (256 : Int32)).toInt64))) + (((ch (((((x / (256 : Int32)) * (8 : Int32)) + (y / (256 : Int32))) + (1 : Int32)).toNatClampNeg)).toInt64) * ((y - y / (256 : Int32) * (256 : Int32)).toInt64))) * ((256 : Int64) - ((x - x / (256 : Int32) * (256 : Int32)).toInt64))) + (((((ch (((((x / (256 : Int32)) * (8 : Int32)) + (y / (256 : Int32))) + (8 : Int32)).toNatClampNeg)).toInt64) * ((256 : Int64) - ((y - y / (256 : Int32) * (256 : Int32)).toInt64))) + (((ch ((((((x / (256 : Int32)) * (8 : Int32)) + (y / (256 : Int32))) + (8 : Int32)) + (1 : Int32)).toNatClampNeg)).toInt64) * ((y - y / (256 : Int32) * (256 : Int32)).toInt64))) * ((x - x / (256 : Int32) * (256 : Int32)).toInt64))) + (32768 : Int64)) / (65536 : Int64)).toInt32
        else
          (-1 : Int32)
set_option maxRecDepth 100000 in
set_option maxHeartbeats 4000000 in
theorem ctC_at (l : Launch) (D : va_G) (cZ cI cJ : ClassId) (tL tH : Nat) (sz : Nat) (h : Nat) (aP : Nat) (mx : Int32) (ch : ChT) (x : Int32) (y : Int32)   : Ct l yC_at wC_at ({ frames := 0, cells := 0, slots := 0, locals := 0 }) D (tyG cZ cI cJ) tL tH [.ref h, .int x, .int y] sz [cCh h aP mx, cIa cI aP 64 ch] (fun _ : Unit => some (.int (fC_at mx ch x y))) (fun _ : Unit => [cCh h aP mx, cIa cI aP 64 ch]) 0 0 := by
  refine k_go (by decide +kernel) (Nat.le_of_ble_eq_true rfl) ?_
  intro p e s m args below meth c A ls H hx hb hr hml hts hown hlk hnm hK hN hT hA hS hP hD hl
  have hown : s.vm.findClass "ToothWheelTimer$Chart" = some m.cls := hown
  have hlk : meth.locks = false := hlk
  have hl : lv_has ls 12 [(0, .ref h), (1, .int x), (2, .int y)] := hl
  refine lv_iload_n hx hb dC_at_0 rfl (lv_at hl 1 rfl) ?_
  refine lv_if_lt (tgt := 22) hx hb dC_at_1 (by decide) (fun h1 => ?_) (fun h1 => ?_)
  · -- taken at 1
    refine lv_iconst (v := (-1 : Int32)) hx hb dC_at_22 (by decide) ?_
    exact k_iret hx hb hr hlk hP hD hS dC_at_23 () (by simp only [fC_at, if_pos h1]) rfl
  · -- not taken at 1
    refine lv_iload_n hx hb dC_at_4 rfl (lv_at hl 1 rfl) ?_
    refine lv_sipush (v := (1791 : Int32)) hx hb dC_at_5 (by decide) ?_
    refine lv_icmp_gt (tgt := 22) hx hb dC_at_8 (by decide) (fun h2 => ?_) (fun h2 => ?_)
    · -- taken at 8
      refine lv_iconst (v := (-1 : Int32)) hx hb dC_at_22 (by decide) ?_
      exact k_iret hx hb hr hlk hP hD hS dC_at_23 () (by simp only [fC_at, if_neg h1, if_pos h2]) rfl
    · -- not taken at 8
      refine lv_iload_n hx hb dC_at_11 rfl (lv_at hl 2 rfl) ?_
      refine lv_if_lt (tgt := 22) hx hb dC_at_12 (by decide) (fun h3 => ?_) (fun h3 => ?_)
      · -- taken at 12
        refine lv_iconst (v := (-1 : Int32)) hx hb dC_at_22 (by decide) ?_
        exact k_iret hx hb hr hlk hP hD hS dC_at_23 () (by simp only [fC_at, if_neg h1, if_neg h2, if_pos h3]) rfl
      · -- not taken at 12
        refine lv_iload_n hx hb dC_at_15 rfl (lv_at hl 2 rfl) ?_
        refine lv_sipush (v := (1791 : Int32)) hx hb dC_at_16 (by decide) ?_
        refine lv_icmp_le (tgt := 24) hx hb dC_at_19 (by decide) (fun h4 => ?_) (fun h4 => ?_)
        · -- taken at 19
          refine lv_iload_n hx hb dC_at_24 rfl (lv_at hl 1 rfl) ?_
          refine lv_sipush (v := (256 : Int32)) hx hb dC_at_25 (by decide) ?_
          refine lv_idiv hx hb dC_at_28 (by decide) ?_
          refine lv_bipush (v := (8 : Int32)) hx hb dC_at_29 (by decide) ?_
          refine lv_imul hx hb dC_at_31 ?_
          refine lv_iload_n hx hb dC_at_32 rfl (lv_at hl 2 rfl) ?_
          refine lv_sipush (v := (256 : Int32)) hx hb dC_at_33 (by decide) ?_
          refine lv_idiv hx hb dC_at_36 (by decide) ?_
          refine lv_iadd hx hb dC_at_37 ?_
          refine lv_istore_n (lv' := [(3, .int (((x / (256 : Int32)) * (8 : Int32)) + (y / (256 : Int32)))), (0, .ref h), (1, .int x), (2, .int y)]) hx hb dC_at_38 rfl hl (by decide) rfl (fun ls hl => ?_)
          refine lv_iload_n hx hb dC_at_39 rfl (lv_at hl 2 rfl) ?_
          refine lv_sipush (v := (256 : Int32)) hx hb dC_at_40 (by decide) ?_
          refine lv_irem hx hb dC_at_43 (by decide) ?_
          refine lv_i2l hx hb dC_at_44 rfl ?_
          refine lv_lstore (lv' := [(4, .long ((x - x / (256 : Int32) * (256 : Int32)).toInt64)), (3, .int (((x / (256 : Int32)) * (8 : Int32)) + (y / (256 : Int32)))), (0, .ref h), (1, .int x), (2, .int y)]) hx hb dC_at_45 hl (by decide) rfl (fun ls hl => ?_)
          refine lv_iload_n hx hb dC_at_47 rfl (lv_at hl 4 rfl) ?_
          refine lv_sipush (v := (256 : Int32)) hx hb dC_at_48 (by decide) ?_
          refine lv_irem hx hb dC_at_51 (by decide) ?_
          refine lv_i2l hx hb dC_at_52 rfl ?_
          refine lv_lstore (lv' := [(6, .long ((y - y / (256 : Int32) * (256 : Int32)).toInt64)), (4, .long ((x - x / (256 : Int32) * (256 : Int32)).toInt64)), (3, .int (((x / (256 : Int32)) * (8 : Int32)) + (y / (256 : Int32)))), (0, .ref h), (1, .int x), (2, .int y)]) hx hb dC_at_53 hl (by decide) rfl (fun ls hl => ?_)
          refine lv_aload_n hx hb dC_at_55 rfl (lv_at hl 3 rfl) ?_
          refine gfC_11 hx hb hts hown hN hK hP 0 rfl (v := .ref aP) rfl dC_at_56 ?_
          refine lv_iload_n hx hb dC_at_59 rfl (lv_at hl 2 rfl) ?_
          refine va_iald hx hb hK hP 1 1 rfl rfl (k_ixat0 h1 h2 h3 (Int32.not_lt.mpr h4)) dC_at_60 ?_
          refine lv_i2l hx hb dC_at_61 rfl ?_
          refine lv_ldc2 (v := (256 : Int64)) hx hb hown (hts _ (wg wd_228 rfl)) dC_at_62 ?_
          refine lv_lload hx hb dC_at_65 (lv_at hl 0 rfl) ?_
          refine lv_lsub hx hb dC_at_67 ?_
          refine lv_lmul hx hb dC_at_68 ?_
          refine lv_aload_n hx hb dC_at_69 rfl (lv_at hl 3 rfl) ?_
          refine gfC_11 hx hb hts hown hN hK hP 0 rfl (v := .ref aP) rfl dC_at_70 ?_
          refine lv_iload_n hx hb dC_at_73 rfl (lv_at hl 2 rfl) ?_
          refine lv_iconst (v := (1 : Int32)) hx hb dC_at_74 (by decide) ?_
          refine lv_iadd hx hb dC_at_75 ?_
          refine va_iald hx hb hK hP 1 1 rfl rfl (k_ixat1 h1 h2 h3 (Int32.not_lt.mpr h4)) dC_at_76 ?_
          refine lv_i2l hx hb dC_at_77 rfl ?_
          refine lv_lload hx hb dC_at_78 (lv_at hl 0 rfl) ?_
          refine lv_lmul hx hb dC_at_80 ?_
          refine lv_ladd hx hb dC_at_81 ?_
          refine lv_lstore (lv' := [(8, .long ((((ch ((((x / (256 : Int32)) * (8 : Int32)) + (y / (256 : Int32))).toNatClampNeg)).toInt64) * ((256 : Int64) - ((y - y / (256 : Int32) * (256 : Int32)).toInt64))) + (((ch (((((x / (256 : Int32)) * (8 : Int32)) + (y / (256 : Int32))) + (1 : Int32)).toNatClampNeg)).toInt64) * ((y - y / (256 : Int32) * (256 : Int32)).toInt64)))), (6, .long ((y - y / (256 : Int32) * (256 : Int32)).toInt64)), (4, .long ((x - x / (256 : Int32) * (256 : Int32)).toInt64)), (3, .int (((x / (256 : Int32)) * (8 : Int32)) + (y / (256 : Int32)))), (0, .ref h), (1, .int x), (2, .int y)]) hx hb dC_at_82 hl (by decide) rfl (fun ls hl => ?_)
          refine lv_aload_n hx hb dC_at_84 rfl (lv_at hl 4 rfl) ?_
          refine gfC_11 hx hb hts hown hN hK hP 0 rfl (v := .ref aP) rfl dC_at_85 ?_
          refine lv_iload_n hx hb dC_at_88 rfl (lv_at hl 3 rfl) ?_
          refine lv_bipush (v := (8 : Int32)) hx hb dC_at_89 (by decide) ?_
          refine lv_iadd hx hb dC_at_91 ?_
          refine va_iald hx hb hK hP 1 1 rfl rfl (k_ixat8 h1 h2 h3 (Int32.not_lt.mpr h4)) dC_at_92 ?_
          refine lv_i2l hx hb dC_at_93 rfl ?_
          refine lv_ldc2 (v := (256 : Int64)) hx hb hown (hts _ (wg wd_228 rfl)) dC_at_94 ?_
          refine lv_lload hx hb dC_at_97 (lv_at hl 1 rfl) ?_
          refine lv_lsub hx hb dC_at_99 ?_
          refine lv_lmul hx hb dC_at_100 ?_
          refine lv_aload_n hx hb dC_at_101 rfl (lv_at hl 4 rfl) ?_
          refine gfC_11 hx hb hts hown hN hK hP 0 rfl (v := .ref aP) rfl dC_at_102 ?_
          refine lv_iload_n hx hb dC_at_105 rfl (lv_at hl 3 rfl) ?_
          refine lv_bipush (v := (8 : Int32)) hx hb dC_at_106 (by decide) ?_
          refine lv_iadd hx hb dC_at_108 ?_
          refine lv_iconst (v := (1 : Int32)) hx hb dC_at_109 (by decide) ?_
          refine lv_iadd hx hb dC_at_110 ?_
          refine va_iald hx hb hK hP 1 1 rfl rfl (k_ixat9 h1 h2 h3 (Int32.not_lt.mpr h4)) dC_at_111 ?_
          refine lv_i2l hx hb dC_at_112 rfl ?_
          refine lv_lload hx hb dC_at_113 (lv_at hl 1 rfl) ?_
          refine lv_lmul hx hb dC_at_115 ?_
          refine lv_ladd hx hb dC_at_116 ?_
          refine lv_lstore (lv' := [(10, .long ((((ch (((((x / (256 : Int32)) * (8 : Int32)) + (y / (256 : Int32))) + (8 : Int32)).toNatClampNeg)).toInt64) * ((256 : Int64) - ((y - y / (256 : Int32) * (256 : Int32)).toInt64))) + (((ch ((((((x / (256 : Int32)) * (8 : Int32)) + (y / (256 : Int32))) + (8 : Int32)) + (1 : Int32)).toNatClampNeg)).toInt64) * ((y - y / (256 : Int32) * (256 : Int32)).toInt64)))), (8, .long ((((ch ((((x / (256 : Int32)) * (8 : Int32)) + (y / (256 : Int32))).toNatClampNeg)).toInt64) * ((256 : Int64) - ((y - y / (256 : Int32) * (256 : Int32)).toInt64))) + (((ch (((((x / (256 : Int32)) * (8 : Int32)) + (y / (256 : Int32))) + (1 : Int32)).toNatClampNeg)).toInt64) * ((y - y / (256 : Int32) * (256 : Int32)).toInt64)))), (6, .long ((y - y / (256 : Int32) * (256 : Int32)).toInt64)), (4, .long ((x - x / (256 : Int32) * (256 : Int32)).toInt64)), (3, .int (((x / (256 : Int32)) * (8 : Int32)) + (y / (256 : Int32)))), (0, .ref h), (1, .int x), (2, .int y)]) hx hb dC_at_117 hl (by decide) rfl (fun ls hl => ?_)
          refine lv_lload hx hb dC_at_119 (lv_at hl 1 rfl) ?_
          refine lv_ldc2 (v := (256 : Int64)) hx hb hown (hts _ (wg wd_228 rfl)) dC_at_121 ?_
          refine lv_lload hx hb dC_at_124 (lv_at hl 3 rfl) ?_
          refine lv_lsub hx hb dC_at_126 ?_
          refine lv_lmul hx hb dC_at_127 ?_
          refine lv_lload hx hb dC_at_128 (lv_at hl 0 rfl) ?_
          refine lv_lload hx hb dC_at_130 (lv_at hl 3 rfl) ?_
          refine lv_lmul hx hb dC_at_132 ?_
          refine lv_ladd hx hb dC_at_133 ?_
          refine lv_ldc2 (v := (32768 : Int64)) hx hb hown (hts _ (wg wd_229 rfl)) dC_at_134 ?_
          refine lv_ladd hx hb dC_at_137 ?_
          refine lv_ldc2 (v := (65536 : Int64)) hx hb hown (hts _ (wg wd_230 rfl)) dC_at_138 ?_
          refine lv_ldiv hx hb dC_at_141 (by decide) ?_
          refine lv_l2i hx hb dC_at_142 rfl ?_
          exact k_iret hx hb hr hlk hP hD hS dC_at_143 () (by simp only [fC_at, if_neg h1, if_neg h2, if_neg h3, if_pos h4]) rfl
        · -- not taken at 19
          refine lv_iconst (v := (-1 : Int32)) hx hb dC_at_22 (by decide) ?_
          exact k_iret hx hb hr hlk hP hD hS dC_at_23 () (by simp only [fC_at, if_neg h1, if_neg h2, if_neg h3, if_neg h4]) rfl

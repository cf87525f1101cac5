/-! ToothWheelTimerModel: written by program (wip/whole/gen/specs6.py) -/
def fM_bound (v : Int32) (lo : Int32) (hi : Int32) : Int32 :=
  if lo ≤ v then
    if v ≤ hi then
      v
    else
      hi
  else
    lo
set_option maxRecDepth 100000 in
set_option maxHeartbeats 4000000 in
theorem ctM_bound (l : Launch) (D : va_G) (cZ cI cJ : ClassId) (tL tH : Nat) (sz : Nat)  (v : Int32) (lo : Int32) (hi : Int32)   : Ct l yM_bound wM_bound ({ frames := 0, cells := 0, slots := 0, locals := 0 }) D (tyG cZ cI cJ) tL tH [.int v, .int lo, .int hi] sz [] (fun _ : Unit => some (.int (fM_bound v lo hi))) (fun _ : Unit => []) 0 0 := by
  refine k_go (by decide +kernel) (Nat.le_of_ble_eq_true rfl) ?_
  intro p e s m args below meth c A ls H hx hb hr hml hts hown hlk hnm hK hN hT hA hS hP hD hl
  have hown : s.vm.findClass "ToothWheelTimerModel" = some m.cls := hown
  have hlk : meth.locks = false := hlk
  have hl : lv_has ls 3 [(0, .int v), (1, .int lo), (2, .int hi)] := hl
  refine lv_iload_n hx hb dM_bound_0 rfl (lv_at hl 0 rfl) ?_
  refine lv_iload_n hx hb dM_bound_1 rfl (lv_at hl 1 rfl) ?_
  refine lv_icmp_ge (tgt := 9) hx hb dM_bound_2 (by decide) (fun h1 => ?_) (fun h1 => ?_)
  · -- taken at 2
    refine lv_iload_n hx hb dM_bound_9 rfl (lv_at hl 0 rfl) ?_
    refine lv_iload_n hx hb dM_bound_10 rfl (lv_at hl 2 rfl) ?_
    refine lv_icmp_le (tgt := 18) hx hb dM_bound_11 (by decide) (fun h2 => ?_) (fun h2 => ?_)
    · -- taken at 11
      refine lv_iload_n hx hb dM_bound_18 rfl (lv_at hl 0 rfl) ?_
      exact k_iret hx hb hr hlk hP hD hS dM_bound_19 () (by simp only [fM_bound, if_pos h1, if_pos h2]) rfl
    · -- not taken at 11
      refine lv_iload_n hx hb dM_bound_14 rfl (lv_at hl 2 rfl) ?_
      refine lv_goto (tgt := 19) hx hb dM_bound_15 (by decide) ?_
      exact k_iret hx hb hr hlk hP hD hS dM_bound_19 () (by simp only [fM_bound, if_pos h1, if_neg h2]) rfl
  · -- not taken at 2
    refine lv_iload_n hx hb dM_bound_5 rfl (lv_at hl 1 rfl) ?_
    refine lv_goto (tgt := 19) hx hb dM_bound_6 (by decide) ?_
    exact k_iret hx hb hr hlk hP hD hS dM_bound_19 () (by simp only [fM_bound, if_neg h1]) rfl

def fM_in (v : Int32) (lo : Int32) (hi : Int32) : Int32 :=
  if v < lo then
    (0 : Int32)
  else
    if hi < v then
      (0 : Int32)
    else
      (1 : Int32)
set_option maxRecDepth 100000 in
set_option maxHeartbeats 4000000 in
theorem ctM_in (l : Launch) (D : va_G) (cZ cI cJ : ClassId) (tL tH : Nat) (sz : Nat)  (v : Int32) (lo : Int32) (hi : Int32)   : Ct l yM_in wM_in ({ frames := 0, cells := 0, slots := 0, locals := 0 }) D (tyG cZ cI cJ) tL tH [.int v, .int lo, .int hi] sz [] (fun _ : Unit => some (.int (fM_in v lo hi))) (fun _ : Unit => []) 0 0 := by
  refine k_go (by decide +kernel) (Nat.le_of_ble_eq_true rfl) ?_
  intro p e s m args below meth c A ls H hx hb hr hml hts hown hlk hnm hK hN hT hA hS hP hD hl
  have hown : s.vm.findClass "ToothWheelTimerModel" = some m.cls := hown
  have hlk : meth.locks = false := hlk
  have hl : lv_has ls 3 [(0, .int v), (1, .int lo), (2, .int hi)] := hl
  refine lv_iload_n hx hb dM_in_0 rfl (lv_at hl 1 rfl) ?_
  refine lv_iload_n hx hb dM_in_1 rfl (lv_at hl 0 rfl) ?_
  refine lv_icmp_gt (tgt := 14) hx hb dM_in_2 (by decide) (fun h1 => ?_) (fun h1 => ?_)
  · -- taken at 2
    refine lv_iconst (v := (0 : Int32)) hx hb dM_in_14 (by decide) ?_
    exact k_zret hx hb hr hlk (zn_b (Or.inl rfl)) hP hD hS dM_in_15 () (by simp only [fM_in, if_pos h1]) rfl
  · -- not taken at 2
    refine lv_iload_n hx hb dM_in_5 rfl (lv_at hl 0 rfl) ?_
    refine lv_iload_n hx hb dM_in_6 rfl (lv_at hl 2 rfl) ?_
    refine lv_icmp_gt (tgt := 14) hx hb dM_in_7 (by decide) (fun h2 => ?_) (fun h2 => ?_)
    · -- taken at 7
      refine lv_iconst (v := (0 : Int32)) hx hb dM_in_14 (by decide) ?_
      exact k_zret hx hb hr hlk (zn_b (Or.inl rfl)) hP hD hS dM_in_15 () (by simp only [fM_in, if_neg h1, if_pos h2]) rfl
    · -- not taken at 7
      refine lv_iconst (v := (1 : Int32)) hx hb dM_in_10 (by decide) ?_
      refine lv_goto (tgt := 15) hx hb dM_in_11 (by decide) ?_
      exact k_zret hx hb hr hlk (zn_b (Or.inr rfl)) hP hD hS dM_in_15 () (by simp only [fM_in, if_neg h1, if_neg h2]) rfl

def fM_down (v : Int32) (by_ : Int32) : Int32 :=
  if ((v / by_) * by_) ≤ v then
    v / by_
  else
    (v / by_) - (1 : Int32)
set_option maxRecDepth 100000 in
set_option maxHeartbeats 4000000 in
theorem ctM_down (l : Launch) (D : va_G) (cZ cI cJ : ClassId) (tL tH : Nat) (sz : Nat)  (v : Int32) (by_ : Int32)  (hby : ¬ by_ = 0) : Ct l yM_down wM_down ({ frames := 0, cells := 0, slots := 0, locals := 0 }) D (tyG cZ cI cJ) tL tH [.int v, .int by_] sz [] (fun _ : Unit => some (.int (fM_down v by_))) (fun _ : Unit => []) 0 0 := by
  refine k_go (by decide +kernel) (Nat.le_of_ble_eq_true rfl) ?_
  intro p e s m args below meth c A ls H hx hb hr hml hts hown hlk hnm hK hN hT hA hS hP hD hl
  have hown : s.vm.findClass "ToothWheelTimerModel" = some m.cls := hown
  have hlk : meth.locks = false := hlk
  have hl : lv_has ls 3 [(0, .int v), (1, .int by_)] := hl
  refine lv_iload_n hx hb dM_down_0 rfl (lv_at hl 0 rfl) ?_
  refine lv_iload_n hx hb dM_down_1 rfl (lv_at hl 1 rfl) ?_
  refine lv_idiv hx hb dM_down_2 hby ?_
  refine lv_istore_n (lv' := [(2, .int (v / by_)), (0, .int v), (1, .int by_)]) hx hb dM_down_3 rfl hl (by decide) rfl (fun ls hl => ?_)
  refine lv_iload_n hx hb dM_down_4 rfl (lv_at hl 0 rfl) ?_
  refine lv_iload_n hx hb dM_down_5 rfl (lv_at hl 2 rfl) ?_
  refine lv_imul hx hb dM_down_6 ?_
  refine lv_iload_n hx hb dM_down_7 rfl (lv_at hl 1 rfl) ?_
  refine lv_icmp_le (tgt := 17) hx hb dM_down_8 (by decide) (fun h1 => ?_) (fun h1 => ?_)
  · -- taken at 8
    refine lv_iload_n hx hb dM_down_17 rfl (lv_at hl 0 rfl) ?_
    exact k_iret hx hb hr hlk hP hD hS dM_down_18 () (by simp only [fM_down, if_pos h1]) rfl
  · -- not taken at 8
    refine lv_iload_n hx hb dM_down_11 rfl (lv_at hl 0 rfl) ?_
    refine lv_iconst (v := (1 : Int32)) hx hb dM_down_12 (by decide) ?_
    refine lv_isub hx hb dM_down_13 ?_
    refine lv_goto (tgt := 18) hx hb dM_down_14 (by decide) ?_
    exact k_iret hx hb hr hlk hP hD hS dM_down_18 () (by simp only [fM_down, if_neg h1]) rfl

def fM_corner (i : Int32) : Int32 :=
  if i = 0 then
    (140 : Int32)
  else
    if i = (1 : Int32) then
      (90 : Int32)
    else
      if i = (2 : Int32) then
        (60 : Int32)
      else
        if i = (3 : Int32) then
          (25 : Int32)
        else
          (-40 : Int32)
set_option maxRecDepth 100000 in
set_option maxHeartbeats 4000000 in
theorem ctM_corner (l : Launch) (D : va_G) (cZ cI cJ : ClassId) (tL tH : Nat) (sz : Nat)  (i : Int32)   : Ct l yM_corner wM_corner ({ frames := 0, cells := 0, slots := 0, locals := 0 }) D (tyG cZ cI cJ) tL tH [.int i] sz [] (fun _ : Unit => some (.int (fM_corner i))) (fun _ : Unit => []) 0 0 := by
  refine k_go (by decide +kernel) (Nat.le_of_ble_eq_true rfl) ?_
  intro p e s m args below meth c A ls H hx hb hr hml hts hown hlk hnm hK hN hT hA hS hP hD hl
  have hown : s.vm.findClass "ToothWheelTimerModel" = some m.cls := hown
  have hlk : meth.locks = false := hlk
  have hl : lv_has ls 1 [(0, .int i)] := hl
  refine lv_iload_n hx hb dM_corner_0 rfl (lv_at hl 0 rfl) ?_
  refine lv_if_ne (tgt := 10) hx hb dM_corner_1 (by decide) (fun h1 => ?_) (fun h1 => ?_)
  · -- taken at 1
    refine lv_iload_n hx hb dM_corner_10 rfl (lv_at hl 0 rfl) ?_
    refine lv_iconst (v := (1 : Int32)) hx hb dM_corner_11 (by decide) ?_
    refine lv_icmp_ne (tgt := 20) hx hb dM_corner_12 (by decide) (fun h2 => ?_) (fun h2 => ?_)
    · -- taken at 12
      refine lv_iload_n hx hb dM_corner_20 rfl (lv_at hl 0 rfl) ?_
      refine lv_iconst (v := (2 : Int32)) hx hb dM_corner_21 (by decide) ?_
      refine lv_icmp_ne (tgt := 30) hx hb dM_corner_22 (by decide) (fun h3 => ?_) (fun h3 => ?_)
      · -- taken at 22
        refine lv_iload_n hx hb dM_corner_30 rfl (lv_at hl 0 rfl) ?_
        refine lv_iconst (v := (3 : Int32)) hx hb dM_corner_31 (by decide) ?_
        refine lv_icmp_ne (tgt := 40) hx hb dM_corner_32 (by decide) (fun h4 => ?_) (fun h4 => ?_)
        · -- taken at 32
          refine lv_bipush (v := (-40 : Int32)) hx hb dM_corner_40 (by decide) ?_
          exact k_iret hx hb hr hlk hP hD hS dM_corner_42 () (by simp only [fM_corner, if_neg h1, if_neg h2, if_neg h3, if_neg h4]) rfl
        · -- not taken at 32
          refine lv_bipush (v := (25 : Int32)) hx hb dM_corner_35 (by decide) ?_
          refine lv_goto (tgt := 42) hx hb dM_corner_37 (by decide) ?_
          exact k_iret hx hb hr hlk hP hD hS dM_corner_42 () (by simp only [fM_corner, if_neg h1, if_neg h2, if_neg h3, if_pos h4]) rfl
      · -- not taken at 22
        refine lv_bipush (v := (60 : Int32)) hx hb dM_corner_25 (by decide) ?_
        refine lv_goto (tgt := 42) hx hb dM_corner_27 (by decide) ?_
        exact k_iret hx hb hr hlk hP hD hS dM_corner_42 () (by simp only [fM_corner, if_neg h1, if_neg h2, if_pos h3]) rfl
    · -- not taken at 12
      refine lv_bipush (v := (90 : Int32)) hx hb dM_corner_15 (by decide) ?_
      refine lv_goto (tgt := 42) hx hb dM_corner_17 (by decide) ?_
      exact k_iret hx hb hr hlk hP hD hS dM_corner_42 () (by simp only [fM_corner, if_neg h1, if_pos h2]) rfl
  · -- not taken at 1
    refine lv_sipush (v := (140 : Int32)) hx hb dM_corner_4 (by decide) ?_
    refine lv_goto (tgt := 42) hx hb dM_corner_7 (by decide) ?_
    exact k_iret hx hb hr hlk hP hD hS dM_corner_42 () (by simp only [fM_corner, if_pos h1]) rfl

theorem k_inM {v lo hi q : Int32} (hq : fM_in v lo hi = q) (h : ¬ q = 0) : ¬ v < lo ∧ ¬ hi < v := by
  subst hq
  unfold fM_in at h
  by_cases h1 : v < lo
  · rw [if_pos h1] at h; exact absurd rfl h
  · rw [if_neg h1] at h
    by_cases h2 : hi < v
    · rw [if_pos h2] at h; exact absurd rfl h
    · exact ⟨h1, h2⟩
theorem k_inN {v q : Int32} {N : Nat} (hN : N < 2 ^ 30) (hq : fM_in v (0 : Int32) (nI N) = q) (h : ¬ q = 0) : ∃ a : Nat, a ≤ N ∧ v = nI a := by
  obtain ⟨h1, h2⟩ := k_inM hq h
  exact k_nat2 h1 h2 hN
theorem k_in01 {v q : Int32} (hq : fM_in v (0 : Int32) (1 : Int32) = q) (h : ¬ q = 0) : vp_in v 2 := by
  obtain ⟨a, ha, rfl⟩ := k_inN (N := 1) (by decide) hq h
  exact vp_in_nI (by omega) (by decide)
theorem k_in16 {v q : Int32} (hq : fM_in v (0 : Int32) (15 : Int32) = q) (h : ¬ q = 0) : vp_in v 16 := by
  obtain ⟨a, ha, rfl⟩ := k_inN (N := 15) (by decide) hq h
  exact vp_in_nI (by omega) (by decide)
theorem k_in64 {v q : Int32} (hq : fM_in v (1 : Int32) (64 : Int32) = q) (h : ¬ q = 0) : vp_in v 65 := by
  obtain ⟨h1, h2⟩ := k_inM hq h
  exact k_t64 h1 h2
theorem k_ixset {ch i j q1 q2 q3 : Int32} (hq1 : fM_in ch (0 : Int32) (1 : Int32) = q1) (h1 : ¬ q1 = 0) (hq2 : fM_in i (0 : Int32) (7 : Int32) = q2) (h2 : ¬ q2 = 0) (hq3 : fM_in j (0 : Int32) (7 : Int32) = q3) (h3 : ¬ q3 = 0) : vp_in ((((64 : Int32) * ch) + ((8 : Int32) * i)) + j) 128 := by
  obtain ⟨a, ha, rfl⟩ := k_inN (N := 1) (by decide) hq1 h1
  obtain ⟨b, hb, rfl⟩ := k_inN (N := 7) (by decide) hq2 h2
  obtain ⟨c, hc, rfl⟩ := k_inN (N := 7) (by decide) hq3 h3
  have e : (64 : Int32) * nI a + (8 : Int32) * nI b + nI c = nI (64 * a + 8 * b + c) := by rw [← nI_add, ← nI_add, ← pk_mul, ← pk_mul]; rfl
  rw [e]
  exact vp_in_nI (by omega) (by decide)
theorem k_ixlook {ch x y q1 q2 q3 : Int32} (hq1 : fM_in ch (0 : Int32) (1 : Int32) = q1) (h1 : ¬ q1 = 0) (hq2 : fM_in x (0 : Int32) (1791 : Int32) = q2) (h2 : ¬ q2 = 0) (hq3 : fM_in y (0 : Int32) (1791 : Int32) = q3) (h3 : ¬ q3 = 0) (i : Nat) (hi : i < 4) : vp_in ((((64 : Int32) * ch) + ((8 : Int32) * ((x / (256 : Int32)) + (nI (i % 2))))) + ((y / (256 : Int32)) + (nI (i / 2)))) 128 := by
  obtain ⟨a, ha, rfl⟩ := k_inN (N := 1) (by decide) hq1 h1
  obtain ⟨b, hb, rfl⟩ := k_inN (N := 1791) (by decide) hq2 h2
  obtain ⟨c, hc, rfl⟩ := k_inN (N := 1791) (by decide) hq3 h3
  have e1 : nI b / (256 : Int32) = nI (b / 256) := pk_div (a := b) (d := 256) (by omega) (by decide) (by decide)
  have e2 : nI c / (256 : Int32) = nI (c / 256) := pk_div (a := c) (d := 256) (by omega) (by decide) (by decide)
  have e : (64 : Int32) * nI a + (8 : Int32) * (nI (b / 256) + nI (i % 2)) + (nI (c / 256) + nI (i / 2)) = nI (64 * a + 8 * (b / 256 + i % 2) + (c / 256 + i / 2)) := by
    rw [← nI_add, ← nI_add, ← pk_mul, ← pk_mul, ← nI_add, ← nI_add]; rfl
  rw [e1, e2, e]
  exact vp_in_nI (by omega) (by decide)
theorem k_s0 {se : Int32} (h : vp_in se 2) : vp_in ((3 : Int32) * se) 6 := by
  obtain ⟨a, ha, rfl⟩ := vp_in_of h (by decide)
  have e : (3 : Int32) * nI a = nI (3 * a) := pk_mul 3 a
  rw [e]; exact vp_in_nI (by omega) (by decide)
theorem k_s1 {se : Int32} (h : vp_in se 2) : vp_in (((3 : Int32) * se) + (1 : Int32)) 6 := by
  obtain ⟨a, ha, rfl⟩ := vp_in_of h (by decide)
  have e : (3 : Int32) * nI a + (1 : Int32) = nI (3 * a + 1) := by rw [← nI_add, ← pk_mul]; rfl
  rw [e]; exact vp_in_nI (by omega) (by decide)
theorem k_s2 {se : Int32} (h : vp_in se 2) : vp_in (((3 : Int32) * se) + (2 : Int32)) 6 := by
  obtain ⟨a, ha, rfl⟩ := vp_in_of h (by decide)
  have e : (3 : Int32) * nI a + (2 : Int32) = nI (3 * a + 2) := by rw [← nI_add, ← pk_mul]; rfl
  rw [e]; exact vp_in_nI (by omega) (by decide)
theorem k_sp {se part q : Int32} (h : vp_in se 2) (hq : fM_in part (0 : Int32) (2 : Int32) = q) (h2 : ¬ q = 0) : vp_in (((3 : Int32) * se) + part) 6 := by
  obtain ⟨a, ha, rfl⟩ := vp_in_of h (by decide)
  obtain ⟨b, hb, rfl⟩ := k_inN (N := 2) (by decide) hq h2
  have e : (3 : Int32) * nI a + nI b = nI (3 * a + b) := by rw [← nI_add, ← pk_mul]; rfl
  rw [e]; exact vp_in_nI (by omega) (by decide)
theorem k_neg1 {x : Int32} (h : ¬ x < 0) : ¬ x = (-1 : Int32) := fun z => h (by rw [z]; decide)
def fM_set (k : Nat) (mc : McT) (mw : MwT) (mp : MpT) (me : MeT) (mo : MoT) (ms : MsT) (ch : Int32) (i : Int32) (j : Int32) (v : Int32) : Int32 × MpT :=
  let q1 := fM_in ch (0 : Int32) (1 : Int32)
  if q1 = 0 then
    ((0 : Int32), mp)
  else
    let q3 := fM_in i (0 : Int32) (7 : Int32)
    if q3 = 0 then
      ((0 : Int32), mp)
    else
      let q5 := fM_in j (0 : Int32) (7 : Int32)
      if q5 = 0 then
        ((0 : Int32), mp)
      else
        if ch = 0 then
          let q10 := fM_in v (0 : Int32) (2047 : Int32)
          if q10 = 0 then
            ((0 : Int32), mp)
          else
            ((1 : Int32), upd mp (((((64 : Int32) * ch) + ((8 : Int32) * i)) + j).toNatClampNeg) v)
        else
          let q8 := fM_in v (0 : Int32) (32000 : Int32)
          if q8 = 0 then
            ((0 : Int32), mp)
          else
            ((1 : Int32), upd mp (((((64 : Int32) * ch) + ((8 : Int32) * i)) + j).toNatClampNeg) v)
set_option maxRecDepth 100000 in
set_option maxHeartbeats 4000000 in
theorem ctM_set (l : Launch) (D : va_G) (cZ cI cJ : ClassId) (tL tH : Nat) (sz : Nat) (bd : Nat → Nat) (k : Nat) (mc : McT) (mw : MwT) (mp : MpT) (me : MeT) (mo : MoT) (ms : MsT) (ch : Int32) (i : Int32) (j : Int32) (v : Int32)  (hk : 0 < k ∧ k ≤ 6) : Ct l yM_set wM_set ({ frames := 1, cells := 0, slots := 0, locals := 22 }) D (tyG cZ cI cJ) tL tH [.ref (bd 0), .int ch, .int i, .int j, .int v] sz [cMd bd k mc mw me mo, cIa cI (bd 1) 128 mp, cZa cZ (bd 2) 30 me.1, cJa cJ (bd 3) 30 me.2.1, cIa cI (bd 4) 30 me.2.2.1, cZa cZ (bd 5) 6 mo.1, cZa cZ (bd 6) 6 mo.2.1, cZa cZ (bd 7) 2 ms.1, cIa cI (bd 8) 2 ms.2.1, cZa cZ (bd 9) 2 ms.2.2.1, cIa cI (bd 10) 2 ms.2.2.2.1, cIa cI (bd 11) 2 ms.2.2.2.2.1, cZa cZ (bd 12) 2 ms.2.2.2.2.2.1, cJa cJ (bd 13) 6 ms.2.2.2.2.2.2, cJa cJ (bd 14) 16 mo.2.2.1] (fun _ : Unit => some (.int ((fM_set k mc mw mp me mo ms ch i j v).1))) (fun _ : Unit => [cMd bd k mc mw me mo, cIa cI (bd 1) 128 ((fM_set k mc mw mp me mo ms ch i j v).2), cZa cZ (bd 2) 30 me.1, cJa cJ (bd 3) 30 me.2.1, cIa cI (bd 4) 30 me.2.2.1, cZa cZ (bd 5) 6 mo.1, cZa cZ (bd 6) 6 mo.2.1, cZa cZ (bd 7) 2 ms.1, cIa cI (bd 8) 2 ms.2.1, cZa cZ (bd 9) 2 ms.2.2.1, cIa cI (bd 10) 2 ms.2.2.2.1, cIa cI (bd 11) 2 ms.2.2.2.2.1, cZa cZ (bd 12) 2 ms.2.2.2.2.2.1, cJa cJ (bd 13) 6 ms.2.2.2.2.2.2, cJa cJ (bd 14) 16 mo.2.2.1]) 0 0 := by
  refine k_go (by decide +kernel) (Nat.le_of_ble_eq_true rfl) ?_
  intro p e s m args below meth c A ls H hx hb hr hml hts hown hlk hnm hK hN hT hA hS hP hD hl
  have hown : s.vm.findClass "ToothWheelTimerModel" = some m.cls := hown
  have hlk : meth.locks = false := hlk
  have hl : lv_has ls 6 [(0, .ref (bd 0)), (1, .int ch), (2, .int i), (3, .int j), (4, .int v)] := hl
  refine lv_iload_n hx hb dM_set_0 rfl (lv_at hl 1 rfl) ?_
  refine lv_iconst (v := (0 : Int32)) hx hb dM_set_1 (by decide) ?_
  refine lv_iconst (v := (1 : Int32)) hx hb dM_set_2 (by decide) ?_
  refine k_ca0 (wc := []) (wr := [cMd bd k mc mw me mo, cIa cI (bd 1) 128 mp, cZa cZ (bd 2) 30 me.1, cJa cJ (bd 3) 30 me.2.1, cIa cI (bd 4) 30 me.2.2.1, cZa cZ (bd 5) 6 mo.1, cZa cZ (bd 6) 6 mo.2.1, cZa cZ (bd 7) 2 ms.1, cIa cI (bd 8) 2 ms.2.1, cZa cZ (bd 9) 2 ms.2.2.1, cIa cI (bd 10) 2 ms.2.2.2.1, cIa cI (bd 11) 2 ms.2.2.2.2.1, cZa cZ (bd 12) 2 ms.2.2.2.2.2.1, cJa cJ (bd 13) 6 ms.2.2.2.2.2.2, cJa cJ (bd 14) 16 mo.2.2.1]) (va_runS (As := [.int ch, .int (0 : Int32), .int (1 : Int32)]) (rest := []) ⟨hx, hb, hml, hown, hts⟩ (ctM_in l D cZ cI cJ tL tH H.size ch (0 : Int32) (1 : Int32)) (cwM_78 hts hN rfl rfl ⟨Nat.le_of_ble_eq_true rfl, Nat.le_of_ble_eq_true rfl⟩) (k_pre hK hN hT hA hS hP hD [] rfl (by decide)) rfl rfl hl.1 rfl (lv_room (Nat.le_of_ble_eq_true rfl)) dM_set_3 ⟨Nat.zero_le _, Nat.zero_le _⟩) hP hD hS hA [] [0, 1, 2, 3, 4, 5, 6, 7, 8, 9, 10, 11, 12, 13, 14] rfl rfl (by decide) (by decide) (fun _ H locs hP hD hS => ?_)
  refine W.eq (g2 := F0 m 6 ls [.int (fM_in ch (0 : Int32) (1 : Int32))]) rfl ?_
  have hP : va_P D vwCl [cMd bd k mc mw me mo, cIa cI (bd 1) 128 mp, cZa cZ (bd 2) 30 me.1, cJa cJ (bd 3) 30 me.2.1, cIa cI (bd 4) 30 me.2.2.1, cZa cZ (bd 5) 6 mo.1, cZa cZ (bd 6) 6 mo.2.1, cZa cZ (bd 7) 2 ms.1, cIa cI (bd 8) 2 ms.2.1, cZa cZ (bd 9) 2 ms.2.2.1, cIa cI (bd 10) 2 ms.2.2.2.1, cIa cI (bd 11) 2 ms.2.2.2.2.1, cZa cZ (bd 12) 2 ms.2.2.2.2.2.1, cJa cJ (bd 13) 6 ms.2.2.2.2.2.2, cJa cJ (bd 14) 16 mo.2.2.1] H := hP
  have hD : va_D A [cMd bd k mc mw me mo, cIa cI (bd 1) 128 mp, cZa cZ (bd 2) 30 me.1, cJa cJ (bd 3) 30 me.2.1, cIa cI (bd 4) 30 me.2.2.1, cZa cZ (bd 5) 6 mo.1, cZa cZ (bd 6) 6 mo.2.1, cZa cZ (bd 7) 2 ms.1, cIa cI (bd 8) 2 ms.2.1, cZa cZ (bd 9) 2 ms.2.2.1, cIa cI (bd 10) 2 ms.2.2.2.1, cIa cI (bd 11) 2 ms.2.2.2.2.1, cZa cZ (bd 12) 2 ms.2.2.2.2.2.1, cJa cJ (bd 13) 6 ms.2.2.2.2.2.2, cJa cJ (bd 14) 16 mo.2.2.1] := hD
  generalize hq1 : fM_in ch (0 : Int32) (1 : Int32) = q1 at ⊢
  refine lv_if_eq (tgt := 33) hx hb dM_set_6 (by decide) (fun h2 => ?_) (fun h2 => ?_)
  · -- taken at 6
    refine lv_iconst (v := (0 : Int32)) hx hb dM_set_33 (by decide) ?_
    refine lv_istore (lv' := [(5, .int (0 : Int32)), (0, .ref (bd 0)), (1, .int ch), (2, .int i), (3, .int j), (4, .int v)]) hx hb dM_set_34 hl (by decide) rfl (fun ls hl => ?_)
    refine lv_iload hx hb dM_set_36 (lv_at hl 0 rfl) ?_
    refine lv_if_eq (tgt := 63) hx hb dM_set_38 (by decide) (fun _ => ?_) (fun h0 => absurd (by decide) h0)
    refine lv_iconst (v := (0 : Int32)) hx hb dM_set_63 (by decide) ?_
    exact k_zret hx hb hr hlk (zn_b (Or.inl rfl)) hP hD hS dM_set_64 () (by simp only [fM_set, hq1, if_pos h2]) (by simp only [fM_set, hq1, if_pos h2])
  · -- not taken at 6
    refine lv_iload_n hx hb dM_set_9 rfl (lv_at hl 2 rfl) ?_
    refine lv_iconst (v := (0 : Int32)) hx hb dM_set_10 (by decide) ?_
    refine lv_bipush (v := (7 : Int32)) hx hb dM_set_11 (by decide) ?_
    refine k_ca0 (wc := []) (wr := [cMd bd k mc mw me mo, cIa cI (bd 1) 128 mp, cZa cZ (bd 2) 30 me.1, cJa cJ (bd 3) 30 me.2.1, cIa cI (bd 4) 30 me.2.2.1, cZa cZ (bd 5) 6 mo.1, cZa cZ (bd 6) 6 mo.2.1, cZa cZ (bd 7) 2 ms.1, cIa cI (bd 8) 2 ms.2.1, cZa cZ (bd 9) 2 ms.2.2.1, cIa cI (bd 10) 2 ms.2.2.2.1, cIa cI (bd 11) 2 ms.2.2.2.2.1, cZa cZ (bd 12) 2 ms.2.2.2.2.2.1, cJa cJ (bd 13) 6 ms.2.2.2.2.2.2, cJa cJ (bd 14) 16 mo.2.2.1]) (va_runS (As := [.int i, .int (0 : Int32), .int (7 : Int32)]) (rest := []) ⟨hx, hb, hml, hown, hts⟩ (ctM_in l D cZ cI cJ tL tH H.size i (0 : Int32) (7 : Int32)) (cwM_78 hts hN rfl rfl ⟨Nat.le_of_ble_eq_true rfl, Nat.le_of_ble_eq_true rfl⟩) (k_pre hK hN hT hA hS hP hD [] rfl (by decide)) rfl rfl hl.1 rfl (lv_room (Nat.le_of_ble_eq_true rfl)) dM_set_13 ⟨Nat.zero_le _, Nat.zero_le _⟩) hP hD hS hA [] [0, 1, 2, 3, 4, 5, 6, 7, 8, 9, 10, 11, 12, 13, 14] rfl rfl (by decide) (by decide) (fun _ H locs hP hD hS => ?_)
    refine W.eq (g2 := F0 m 16 ls [.int (fM_in i (0 : Int32) (7 : Int32))]) rfl ?_
    have hP : va_P D vwCl [cMd bd k mc mw me mo, cIa cI (bd 1) 128 mp, cZa cZ (bd 2) 30 me.1, cJa cJ (bd 3) 30 me.2.1, cIa cI (bd 4) 30 me.2.2.1, cZa cZ (bd 5) 6 mo.1, cZa cZ (bd 6) 6 mo.2.1, cZa cZ (bd 7) 2 ms.1, cIa cI (bd 8) 2 ms.2.1, cZa cZ (bd 9) 2 ms.2.2.1, cIa cI (bd 10) 2 ms.2.2.2.1, cIa cI (bd 11) 2 ms.2.2.2.2.1, cZa cZ (bd 12) 2 ms.2.2.2.2.2.1, cJa cJ (bd 13) 6 ms.2.2.2.2.2.2, cJa cJ (bd 14) 16 mo.2.2.1] H := hP
    have hD : va_D A [cMd bd k mc mw me mo, cIa cI (bd 1) 128 mp, cZa cZ (bd 2) 30 me.1, cJa cJ (bd 3) 30 me.2.1, cIa cI (bd 4) 30 me.2.2.1, cZa cZ (bd 5) 6 mo.1, cZa cZ (bd 6) 6 mo.2.1, cZa cZ (bd 7) 2 ms.1, cIa cI (bd 8) 2 ms.2.1, cZa cZ (bd 9) 2 ms.2.2.1, cIa cI (bd 10) 2 ms.2.2.2.1, cIa cI (bd 11) 2 ms.2.2.2.2.1, cZa cZ (bd 12) 2 ms.2.2.2.2.2.1, cJa cJ (bd 13) 6 ms.2.2.2.2.2.2, cJa cJ (bd 14) 16 mo.2.2.1] := hD
    generalize hq3 : fM_in i (0 : Int32) (7 : Int32) = q3 at ⊢
    refine lv_if_eq (tgt := 33) hx hb dM_set_16 (by decide) (fun h4 => ?_) (fun h4 => ?_)
    · -- taken at 16
      refine lv_iconst (v := (0 : Int32)) hx hb dM_set_33 (by decide) ?_
      refine lv_istore (lv' := [(5, .int (0 : Int32)), (0, .ref (bd 0)), (1, .int ch), (2, .int i), (3, .int j), (4, .int v)]) hx hb dM_set_34 hl (by decide) rfl (fun ls hl => ?_)
      refine lv_iload hx hb dM_set_36 (lv_at hl 0 rfl) ?_
      refine lv_if_eq (tgt := 63) hx hb dM_set_38 (by decide) (fun _ => ?_) (fun h0 => absurd (by decide) h0)
      refine lv_iconst (v := (0 : Int32)) hx hb dM_set_63 (by decide) ?_
      exact k_zret hx hb hr hlk (zn_b (Or.inl rfl)) hP hD hS dM_set_64 () (by simp only [fM_set, hq1, if_neg h2, hq3, if_pos h4]) (by simp only [fM_set, hq1, if_neg h2, hq3, if_pos h4])
    · -- not taken at 16
      refine lv_iload_n hx hb dM_set_19 rfl (lv_at hl 3 rfl) ?_
      refine lv_iconst (v := (0 : Int32)) hx hb dM_set_20 (by decide) ?_
      refine lv_bipush (v := (7 : Int32)) hx hb dM_set_21 (by decide) ?_
      refine k_ca0 (wc := []) (wr := [cMd bd k mc mw me mo, cIa cI (bd 1) 128 mp, cZa cZ (bd 2) 30 me.1, cJa cJ (bd 3) 30 me.2.1, cIa cI (bd 4) 30 me.2.2.1, cZa cZ (bd 5) 6 mo.1, cZa cZ (bd 6) 6 mo.2.1, cZa cZ (bd 7) 2 ms.1, cIa cI (bd 8) 2 ms.2.1, cZa cZ (bd 9) 2 ms.2.2.1, cIa cI (bd 10) 2 ms.2.2.2.1, cIa cI (bd 11) 2 ms.2.2.2.2.1, cZa cZ (bd 12) 2 ms.2.2.2.2.2.1, cJa cJ (bd 13) 6 ms.2.2.2.2.2.2, cJa cJ (bd 14) 16 mo.2.2.1]) (va_runS (As := [.int j, .int (0 : Int32), .int (7 : Int32)]) (rest := []) ⟨hx, hb, hml, hown, hts⟩ (ctM_in l D cZ cI cJ tL tH H.size j (0 : Int32) (7 : Int32)) (cwM_78 hts hN rfl rfl ⟨Nat.le_of_ble_eq_true rfl, Nat.le_of_ble_eq_true rfl⟩) (k_pre hK hN hT hA hS hP hD [] rfl (by decide)) rfl rfl hl.1 rfl (lv_room (Nat.le_of_ble_eq_true rfl)) dM_set_23 ⟨Nat.zero_le _, Nat.zero_le _⟩) hP hD hS hA [] [0, 1, 2, 3, 4, 5, 6, 7, 8, 9, 10, 11, 12, 13, 14] rfl rfl (by decide) (by decide) (fun _ H locs hP hD hS => ?_)
      refine W.eq (g2 := F0 m 26 ls [.int (fM_in j (0 : Int32) (7 : Int32))]) rfl ?_
      have hP : va_P D vwCl [cMd bd k mc mw me mo, cIa cI (bd 1) 128 mp, cZa cZ (bd 2) 30 me.1, cJa cJ (bd 3) 30 me.2.1, cIa cI (bd 4) 30 me.2.2.1, cZa cZ (bd 5) 6 mo.1, cZa cZ (bd 6) 6 mo.2.1, cZa cZ (bd 7) 2 ms.1, cIa cI (bd 8) 2 ms.2.1, cZa cZ (bd 9) 2 ms.2.2.1, cIa cI (bd 10) 2 ms.2.2.2.1, cIa cI (bd 11) 2 ms.2.2.2.2.1, cZa cZ (bd 12) 2 ms.2.2.2.2.2.1, cJa cJ (bd 13) 6 ms.2.2.2.2.2.2, cJa cJ (bd 14) 16 mo.2.2.1] H := hP
      have hD : va_D A [cMd bd k mc mw me mo, cIa cI (bd 1) 128 mp, cZa cZ (bd 2) 30 me.1, cJa cJ (bd 3) 30 me.2.1, cIa cI (bd 4) 30 me.2.2.1, cZa cZ (bd 5) 6 mo.1, cZa cZ (bd 6) 6 mo.2.1, cZa cZ (bd 7) 2 ms.1, cIa cI (bd 8) 2 ms.2.1, cZa cZ (bd 9) 2 ms.2.2.1, cIa cI (bd 10) 2 ms.2.2.2.1, cIa cI (bd 11) 2 ms.2.2.2.2.1, cZa cZ (bd 12) 2 ms.2.2.2.2.2.1, cJa cJ (bd 13) 6 ms.2.2.2.2.2.2, cJa cJ (bd 14) 16 mo.2.2.1] := hD
      generalize hq5 : fM_in j (0 : Int32) (7 : Int32) = q5 at ⊢
      refine lv_if_eq (tgt := 33) hx hb dM_set_26 (by decide) (fun h6 => ?_) (fun h6 => ?_)
      · -- taken at 26
        refine lv_iconst (v := (0 : Int32)) hx hb dM_set_33 (by decide) ?_
        refine lv_istore (lv' := [(5, .int (0 : Int32)), (0, .ref (bd 0)), (1, .int ch), (2, .int i), (3, .int j), (4, .int v)]) hx hb dM_set_34 hl (by decide) rfl (fun ls hl => ?_)
        refine lv_iload hx hb dM_set_36 (lv_at hl 0 rfl) ?_
        refine lv_if_eq (tgt := 63) hx hb dM_set_38 (by decide) (fun _ => ?_) (fun h0 => absurd (by decide) h0)
        refine lv_iconst (v := (0 : Int32)) hx hb dM_set_63 (by decide) ?_
        exact k_zret hx hb hr hlk (zn_b (Or.inl rfl)) hP hD hS dM_set_64 () (by simp only [fM_set, hq1, if_neg h2, hq3, if_neg h4, hq5, if_pos h6]) (by simp only [fM_set, hq1, if_neg h2, hq3, if_neg h4, hq5, if_pos h6])
      · -- not taken at 26
        refine lv_iconst (v := (1 : Int32)) hx hb dM_set_29 (by decide) ?_
        refine lv_goto (tgt := 34) hx hb dM_set_30 (by decide) ?_
        refine lv_istore (lv' := [(5, .int (1 : Int32)), (0, .ref (bd 0)), (1, .int ch), (2, .int i), (3, .int j), (4, .int v)]) hx hb dM_set_34 hl (by decide) rfl (fun ls hl => ?_)
        refine lv_iload hx hb dM_set_36 (lv_at hl 0 rfl) ?_
        refine lv_if_eq (tgt := 63) hx hb dM_set_38 (by decide) (fun h0 => absurd h0 (by decide)) (fun _ => ?_)
        refine lv_iload hx hb dM_set_41 (lv_at hl 5 rfl) ?_
        refine lv_iconst (v := (0 : Int32)) hx hb dM_set_43 (by decide) ?_
        refine lv_iload_n hx hb dM_set_44 rfl (lv_at hl 2 rfl) ?_
        refine lv_if_ne (tgt := 54) hx hb dM_set_45 (by decide) (fun h7 => ?_) (fun h7 => ?_)
        · -- taken at 45
          refine lv_sipush (v := (32000 : Int32)) hx hb dM_set_54 (by decide) ?_
          refine k_ca0 (wc := []) (wr := [cMd bd k mc mw me mo, cIa cI (bd 1) 128 mp, cZa cZ (bd 2) 30 me.1, cJa cJ (bd 3) 30 me.2.1, cIa cI (bd 4) 30 me.2.2.1, cZa cZ (bd 5) 6 mo.1, cZa cZ (bd 6) 6 mo.2.1, cZa cZ (bd 7) 2 ms.1, cIa cI (bd 8) 2 ms.2.1, cZa cZ (bd 9) 2 ms.2.2.1, cIa cI (bd 10) 2 ms.2.2.2.1, cIa cI (bd 11) 2 ms.2.2.2.2.1, cZa cZ (bd 12) 2 ms.2.2.2.2.2.1, cJa cJ (bd 13) 6 ms.2.2.2.2.2.2, cJa cJ (bd 14) 16 mo.2.2.1]) (va_runS (As := [.int v, .int (0 : Int32), .int (32000 : Int32)]) (rest := []) ⟨hx, hb, hml, hown, hts⟩ (ctM_in l D cZ cI cJ tL tH H.size v (0 : Int32) (32000 : Int32)) (cwM_78 hts hN rfl rfl ⟨Nat.le_of_ble_eq_true rfl, Nat.le_of_ble_eq_true rfl⟩) (k_pre hK hN hT hA hS hP hD [] rfl (by decide)) rfl rfl hl.1 rfl (lv_room (Nat.le_of_ble_eq_true rfl)) dM_set_57 ⟨Nat.zero_le _, Nat.zero_le _⟩) hP hD hS hA [] [0, 1, 2, 3, 4, 5, 6, 7, 8, 9, 10, 11, 12, 13, 14] rfl rfl (by decide) (by decide) (fun _ H locs hP hD hS => ?_)
          refine W.eq (g2 := F0 m 60 ls [.int (fM_in v (0 : Int32) (32000 : Int32))]) rfl ?_
          have hP : va_P D vwCl [cMd bd k mc mw me mo, cIa cI (bd 1) 128 mp, cZa cZ (bd 2) 30 me.1, cJa cJ (bd 3) 30 me.2.1, cIa cI (bd 4) 30 me.2.2.1, cZa cZ (bd 5) 6 mo.1, cZa cZ (bd 6) 6 mo.2.1, cZa cZ (bd 7) 2 ms.1, cIa cI (bd 8) 2 ms.2.1, cZa cZ (bd 9) 2 ms.2.2.1, cIa cI (bd 10) 2 ms.2.2.2.1, cIa cI (bd 11) 2 ms.2.2.2.2.1, cZa cZ (bd 12) 2 ms.2.2.2.2.2.1, cJa cJ (bd 13) 6 ms.2.2.2.2.2.2, cJa cJ (bd 14) 16 mo.2.2.1] H := hP
          have hD : va_D A [cMd bd k mc mw me mo, cIa cI (bd 1) 128 mp, cZa cZ (bd 2) 30 me.1, cJa cJ (bd 3) 30 me.2.1, cIa cI (bd 4) 30 me.2.2.1, cZa cZ (bd 5) 6 mo.1, cZa cZ (bd 6) 6 mo.2.1, cZa cZ (bd 7) 2 ms.1, cIa cI (bd 8) 2 ms.2.1, cZa cZ (bd 9) 2 ms.2.2.1, cIa cI (bd 10) 2 ms.2.2.2.1, cIa cI (bd 11) 2 ms.2.2.2.2.1, cZa cZ (bd 12) 2 ms.2.2.2.2.2.1, cJa cJ (bd 13) 6 ms.2.2.2.2.2.2, cJa cJ (bd 14) 16 mo.2.2.1] := hD
          generalize hq8 : fM_in v (0 : Int32) (32000 : Int32) = q8 at ⊢
          refine lv_if_ne (tgt := 65) hx hb dM_set_60 (by decide) (fun h9 => ?_) (fun h9 => ?_)
          · -- taken at 60
            refine lv_aload_n hx hb dM_set_65 rfl (lv_at hl 1 rfl) ?_
            refine gfM_13 hx hb hts hown hN hK hP 0 rfl (v := .ref (bd 1)) rfl dM_set_66 ?_
            refine lv_bipush (v := (64 : Int32)) hx hb dM_set_69 (by decide) ?_
            refine lv_iload_n hx hb dM_set_71 rfl (lv_at hl 2 rfl) ?_
            refine lv_imul hx hb dM_set_72 ?_
            refine lv_bipush (v := (8 : Int32)) hx hb dM_set_73 (by decide) ?_
            refine lv_iload_n hx hb dM_set_75 rfl (lv_at hl 3 rfl) ?_
            refine lv_imul hx hb dM_set_76 ?_
            refine lv_iadd hx hb dM_set_77 ?_
            refine lv_iload_n hx hb dM_set_78 rfl (lv_at hl 4 rfl) ?_
            refine lv_iadd hx hb dM_set_79 ?_
            refine lv_iload hx hb dM_set_80 (lv_at hl 5 rfl) ?_
            refine va_iast hx hb hK hP hD hS 1 1 rfl rfl (k_ixset hq1 h2 hq3 h4 hq5 h6) dM_set_82 (fun H locs hP hD hS => ?_)
            have hP : va_P D vwCl [cMd bd k mc mw me mo, cIa cI (bd 1) 128 (upd mp (((((64 : Int32) * ch) + ((8 : Int32) * i)) + j).toNatClampNeg) v), cZa cZ (bd 2) 30 me.1, cJa cJ (bd 3) 30 me.2.1, cIa cI (bd 4) 30 me.2.2.1, cZa cZ (bd 5) 6 mo.1, cZa cZ (bd 6) 6 mo.2.1, cZa cZ (bd 7) 2 ms.1, cIa cI (bd 8) 2 ms.2.1, cZa cZ (bd 9) 2 ms.2.2.1, cIa cI (bd 10) 2 ms.2.2.2.1, cIa cI (bd 11) 2 ms.2.2.2.2.1, cZa cZ (bd 12) 2 ms.2.2.2.2.2.1, cJa cJ (bd 13) 6 ms.2.2.2.2.2.2, cJa cJ (bd 14) 16 mo.2.2.1] H := hP
            have hD : va_D A [cMd bd k mc mw me mo, cIa cI (bd 1) 128 (upd mp (((((64 : Int32) * ch) + ((8 : Int32) * i)) + j).toNatClampNeg) v), cZa cZ (bd 2) 30 me.1, cJa cJ (bd 3) 30 me.2.1, cIa cI (bd 4) 30 me.2.2.1, cZa cZ (bd 5) 6 mo.1, cZa cZ (bd 6) 6 mo.2.1, cZa cZ (bd 7) 2 ms.1, cIa cI (bd 8) 2 ms.2.1, cZa cZ (bd 9) 2 ms.2.2.1, cIa cI (bd 10) 2 ms.2.2.2.1, cIa cI (bd 11) 2 ms.2.2.2.2.1, cZa cZ (bd 12) 2 ms.2.2.2.2.2.1, cJa cJ (bd 13) 6 ms.2.2.2.2.2.2, cJa cJ (bd 14) 16 mo.2.2.1] := hD
            refine lv_iconst (v := (1 : Int32)) hx hb dM_set_83 (by decide) ?_
            exact k_zret hx hb hr hlk (zn_b (Or.inr rfl)) hP hD hS dM_set_84 () (by simp only [fM_set, hq1, if_neg h2, hq3, if_neg h4, hq5, if_neg h6, if_neg h7, hq8, if_neg h9]) (by simp only [fM_set, hq1, if_neg h2, hq3, if_neg h4, hq5, if_neg h6, if_neg h7, hq8, if_neg h9])
          · -- not taken at 60
            refine lv_iconst (v := (0 : Int32)) hx hb dM_set_63 (by decide) ?_
            exact k_zret hx hb hr hlk (zn_b (Or.inl rfl)) hP hD hS dM_set_64 () (by simp only [fM_set, hq1, if_neg h2, hq3, if_neg h4, hq5, if_neg h6, if_neg h7, hq8, if_pos h9]) (by simp only [fM_set, hq1, if_neg h2, hq3, if_neg h4, hq5, if_neg h6, if_neg h7, hq8, if_pos h9])
        · -- not taken at 45
          refine lv_sipush (v := (2047 : Int32)) hx hb dM_set_48 (by decide) ?_
          refine lv_goto (tgt := 57) hx hb dM_set_51 (by decide) ?_
          refine k_ca0 (wc := []) (wr := [cMd bd k mc mw me mo, cIa cI (bd 1) 128 mp, cZa cZ (bd 2) 30 me.1, cJa cJ (bd 3) 30 me.2.1, cIa cI (bd 4) 30 me.2.2.1, cZa cZ (bd 5) 6 mo.1, cZa cZ (bd 6) 6 mo.2.1, cZa cZ (bd 7) 2 ms.1, cIa cI (bd 8) 2 ms.2.1, cZa cZ (bd 9) 2 ms.2.2.1, cIa cI (bd 10) 2 ms.2.2.2.1, cIa cI (bd 11) 2 ms.2.2.2.2.1, cZa cZ (bd 12) 2 ms.2.2.2.2.2.1, cJa cJ (bd 13) 6 ms.2.2.2.2.2.2, cJa cJ (bd 14) 16 mo.2.2.1]) (va_runS (As := [.int v, .int (0 : Int32), .int (2047 : Int32)]) (rest := []) ⟨hx, hb, hml, hown, hts⟩ (ctM_in l D cZ cI cJ tL tH H.size v (0 : Int32) (2047 : Int32)) (cwM_78 hts hN rfl rfl ⟨Nat.le_of_ble_eq_true rfl, Nat.le_of_ble_eq_true rfl⟩) (k_pre hK hN hT hA hS hP hD [] rfl (by decide)) rfl rfl hl.1 rfl (lv_room (Nat.le_of_ble_eq_true rfl)) dM_set_57 ⟨Nat.zero_le _, Nat.zero_le _⟩) hP hD hS hA [] [0, 1, 2, 3, 4, 5, 6, 7, 8, 9, 10, 11, 12, 13, 14] rfl rfl (by decide) (by decide) (fun _ H locs hP hD hS => ?_)
          refine W.eq (g2 := F0 m 60 ls [.int (fM_in v (0 : Int32) (2047 : Int32))]) rfl ?_
          have hP : va_P D vwCl [cMd bd k mc mw me mo, cIa cI (bd 1) 128 mp, cZa cZ (bd 2) 30 me.1, cJa cJ (bd 3) 30 me.2.1, cIa cI (bd 4) 30 me.2.2.1, cZa cZ (bd 5) 6 mo.1, cZa cZ (bd 6) 6 mo.2.1, cZa cZ (bd 7) 2 ms.1, cIa cI (bd 8) 2 ms.2.1, cZa cZ (bd 9) 2 ms.2.2.1, cIa cI (bd 10) 2 ms.2.2.2.1, cIa cI (bd 11) 2 ms.2.2.2.2.1, cZa cZ (bd 12) 2 ms.2.2.2.2.2.1, cJa cJ (bd 13) 6 ms.2.2.2.2.2.2, cJa cJ (bd 14) 16 mo.2.2.1] H := hP
          have hD : va_D A [cMd bd k mc mw me mo, cIa cI (bd 1) 128 mp, cZa cZ (bd 2) 30 me.1, cJa cJ (bd 3) 30 me.2.1, cIa cI (bd 4) 30 me.2.2.1, cZa cZ (bd 5) 6 mo.1, cZa cZ (bd 6) 6 mo.2.1, cZa cZ (bd 7) 2 ms.1, cIa cI (bd 8) 2 ms.2.1, cZa cZ (bd 9) 2 ms.2.2.1, cIa cI (bd 10) 2 ms.2.2.2.1, cIa cI (bd 11) 2 ms.2.2.2.2.1, cZa cZ (bd 12) 2 ms.2.2.2.2.2.1, cJa cJ (bd 13) 6 ms.2.2.2.2.2.2, cJa cJ (bd 14) 16 mo.2.2.1] := hD
          generalize hq10 : fM_in v (0 : Int32) (2047 : Int32) = q10 at ⊢
          refine lv_if_ne (tgt := 65) hx hb dM_set_60 (by decide) (fun h11 => ?_) (fun h11 => ?_)
          · -- taken at 60
            refine lv_aload_n hx hb dM_set_65 rfl (lv_at hl 1 rfl) ?_
            refine gfM_13 hx hb hts hown hN hK hP 0 rfl (v := .ref (bd 1)) rfl dM_set_66 ?_
            refine lv_bipush (v := (64 : Int32)) hx hb dM_set_69 (by decide) ?_
            refine lv_iload_n hx hb dM_set_71 rfl (lv_at hl 2 rfl) ?_
            refine lv_imul hx hb dM_set_72 ?_
            refine lv_bipush (v := (8 : Int32)) hx hb dM_set_73 (by decide) ?_
            refine lv_iload_n hx hb dM_set_75 rfl (lv_at hl 3 rfl) ?_
            refine lv_imul hx hb dM_set_76 ?_
            refine lv_iadd hx hb dM_set_77 ?_
            refine lv_iload_n hx hb dM_set_78 rfl (lv_at hl 4 rfl) ?_
            refine lv_iadd hx hb dM_set_79 ?_
            refine lv_iload hx hb dM_set_80 (lv_at hl 5 rfl) ?_
            refine va_iast hx hb hK hP hD hS 1 1 rfl rfl (k_ixset hq1 h2 hq3 h4 hq5 h6) dM_set_82 (fun H locs hP hD hS => ?_)
            have hP : va_P D vwCl [cMd bd k mc mw me mo, cIa cI (bd 1) 128 (upd mp (((((64 : Int32) * ch) + ((8 : Int32) * i)) + j).toNatClampNeg) v), cZa cZ (bd 2) 30 me.1, cJa cJ (bd 3) 30 me.2.1, cIa cI (bd 4) 30 me.2.2.1, cZa cZ (bd 5) 6 mo.1, cZa cZ (bd 6) 6 mo.2.1, cZa cZ (bd 7) 2 ms.1, cIa cI (bd 8) 2 ms.2.1, cZa cZ (bd 9) 2 ms.2.2.1, cIa cI (bd 10) 2 ms.2.2.2.1, cIa cI (bd 11) 2 ms.2.2.2.2.1, cZa cZ (bd 12) 2 ms.2.2.2.2.2.1, cJa cJ (bd 13) 6 ms.2.2.2.2.2.2, cJa cJ (bd 14) 16 mo.2.2.1] H := hP
            have hD : va_D A [cMd bd k mc mw me mo, cIa cI (bd 1) 128 (upd mp (((((64 : Int32) * ch) + ((8 : Int32) * i)) + j).toNatClampNeg) v), cZa cZ (bd 2) 30 me.1, cJa cJ (bd 3) 30 me.2.1, cIa cI (bd 4) 30 me.2.2.1, cZa cZ (bd 5) 6 mo.1, cZa cZ (bd 6) 6 mo.2.1, cZa cZ (bd 7) 2 ms.1, cIa cI (bd 8) 2 ms.2.1, cZa cZ (bd 9) 2 ms.2.2.1, cIa cI (bd 10) 2 ms.2.2.2.1, cIa cI (bd 11) 2 ms.2.2.2.2.1, cZa cZ (bd 12) 2 ms.2.2.2.2.2.1, cJa cJ (bd 13) 6 ms.2.2.2.2.2.2, cJa cJ (bd 14) 16 mo.2.2.1] := hD
            refine lv_iconst (v := (1 : Int32)) hx hb dM_set_83 (by decide) ?_
            exact k_zret hx hb hr hlk (zn_b (Or.inr rfl)) hP hD hS dM_set_84 () (by simp only [fM_set, hq1, if_neg h2, hq3, if_neg h4, hq5, if_neg h6, if_pos h7, hq10, if_neg h11]) (by simp only [fM_set, hq1, if_neg h2, hq3, if_neg h4, hq5, if_neg h6, if_pos h7, hq10, if_neg h11])
          · -- not taken at 60
            refine lv_iconst (v := (0 : Int32)) hx hb dM_set_63 (by decide) ?_
            exact k_zret hx hb hr hlk (zn_b (Or.inl rfl)) hP hD hS dM_set_64 () (by simp only [fM_set, hq1, if_neg h2, hq3, if_neg h4, hq5, if_neg h6, if_pos h7, hq10, if_pos h11]) (by simp only [fM_set, hq1, if_neg h2, hq3, if_neg h4, hq5, if_neg h6, if_pos h7, hq10, if_pos h11])

def fM_look_l (k : Nat) (mc : McT) (mw : MwT) (mp : MpT) (me : MeT) (mo : MoT) (ms : MsT) (ch x y : Int32) : Nat → Nat → Int64 → Int32
  | 0, i, sum =>
    (sum / (65536 : Int64)).toInt32
  | fuel + 1, i, sum =>
    if (nI (i % 2)) = 0 then
      if (nI (i / 2)) = 0 then
        fM_look_l k mc mw mp me mo ms ch x y fuel (i + 1) (sum + (((((256 : Int32) - (x - x / (256 : Int32) * (256 : Int32))) * ((256 : Int32) - (y - y / (256 : Int32) * (256 : Int32)))).toInt64) * ((mp (((((64 : Int32) * ch) + ((8 : Int32) * ((x / (256 : Int32)) + (nI (i % 2))))) + ((y / (256 : Int32)) + (nI (i / 2)))).toNatClampNeg)).toInt64)))
      else
        fM_look_l k mc mw mp me mo ms ch x y fuel (i + 1) (sum + (((((256 : Int32) - (x - x / (256 : Int32) * (256 : Int32))) * (y - y / (256 : Int32) * (256 : Int32))).toInt64) * ((mp (((((64 : Int32) * ch) + ((8 : Int32) * ((x / (256 : Int32)) + (nI (i % 2))))) + ((y / (256 : Int32)) + (nI (i / 2)))).toNatClampNeg)).toInt64)))
    else
      if (nI (i / 2)) = 0 then
        fM_look_l k mc mw mp me mo ms ch x y fuel (i + 1) (sum + ((((x - x / (256 : Int32) * (256 : Int32)) * ((256 : Int32) - (y - y / (256 : Int32) * (256 : Int32)))).toInt64) * ((mp (((((64 : Int32) * ch) + ((8 : Int32) * ((x / (256 : Int32)) + (nI (i % 2))))) + ((y / (256 : Int32)) + (nI (i / 2)))).toNatClampNeg)).toInt64)))
      else
        fM_look_l k mc mw mp me mo ms ch x y fuel (i + 1) (sum + ((((x - x / (256 : Int32) * (256 : Int32)) * (y - y / (256 : Int32) * (256 : Int32))).toInt64) * ((mp (((((64 : Int32) * ch) + ((8 : Int32) * ((x / (256 : Int32)) + (nI (i % 2))))) + ((y / (256 : Int32)) + (nI (i / 2)))).toNatClampNeg)).toInt64)))
def fM_look (k : Nat) (mc : McT) (mw : MwT) (mp : MpT) (me : MeT) (mo : MoT) (ms : MsT) (ch : Int32) (x : Int32) (y : Int32) : Int32 :=
  let q1 := fM_in ch (0 : Int32) (1 : Int32)
  if q1 = 0 then
    (-1 : Int32)
  else
    let q3 := fM_in x (0 : Int32) (1791 : Int32)
    if q3 = 0 then
      (-1 : Int32)
    else
      let q5 := fM_in y (0 : Int32) (1791 : Int32)
      if q5 = 0 then
        (-1 : Int32)
      else
        fM_look_l k mc mw mp me mo ms ch x y 4 0 (32768 : Int64)
set_option maxRecDepth 100000 in
set_option maxHeartbeats 4000000 in
theorem ctM_look (l : Launch) (D : va_G) (cZ cI cJ : ClassId) (tL tH : Nat) (sz : Nat) (bd : Nat → Nat) (k : Nat) (mc : McT) (mw : MwT) (mp : MpT) (me : MeT) (mo : MoT) (ms : MsT) (ch : Int32) (x : Int32) (y : Int32)  (hk : 0 < k ∧ k ≤ 6) : Ct l yM_look wM_look ({ frames := 1, cells := 0, slots := 0, locals := 22 }) D (tyG cZ cI cJ) tL tH [.ref (bd 0), .int ch, .int x, .int y] sz [cMd bd k mc mw me mo, cIa cI (bd 1) 128 mp, cZa cZ (bd 2) 30 me.1, cJa cJ (bd 3) 30 me.2.1, cIa cI (bd 4) 30 me.2.2.1, cZa cZ (bd 5) 6 mo.1, cZa cZ (bd 6) 6 mo.2.1, cZa cZ (bd 7) 2 ms.1, cIa cI (bd 8) 2 ms.2.1, cZa cZ (bd 9) 2 ms.2.2.1, cIa cI (bd 10) 2 ms.2.2.2.1, cIa cI (bd 11) 2 ms.2.2.2.2.1, cZa cZ (bd 12) 2 ms.2.2.2.2.2.1, cJa cJ (bd 13) 6 ms.2.2.2.2.2.2, cJa cJ (bd 14) 16 mo.2.2.1] (fun _ : Unit => some (.int (fM_look k mc mw mp me mo ms ch x y))) (fun _ : Unit => [cMd bd k mc mw me mo, cIa cI (bd 1) 128 mp, cZa cZ (bd 2) 30 me.1, cJa cJ (bd 3) 30 me.2.1, cIa cI (bd 4) 30 me.2.2.1, cZa cZ (bd 5) 6 mo.1, cZa cZ (bd 6) 6 mo.2.1, cZa cZ (bd 7) 2 ms.1, cIa cI (bd 8) 2 ms.2.1, cZa cZ (bd 9) 2 ms.2.2.1, cIa cI (bd 10) 2 ms.2.2.2.1, cIa cI (bd 11) 2 ms.2.2.2.2.1, cZa cZ (bd 12) 2 ms.2.2.2.2.2.1, cJa cJ (bd 13) 6 ms.2.2.2.2.2.2, cJa cJ (bd 14) 16 mo.2.2.1]) 0 0 := by
  refine k_go (by decide +kernel) (Nat.le_of_ble_eq_true rfl) ?_
  intro p e s m args below meth c A ls H hx hb hr hml hts hown hlk hnm hK hN hT hA hS hP hD hl
  have hown : s.vm.findClass "ToothWheelTimerModel" = some m.cls := hown
  have hlk : meth.locks = false := hlk
  have hl : lv_has ls 13 [(0, .ref (bd 0)), (1, .int ch), (2, .int x), (3, .int y)] := hl
  refine lv_iload_n hx hb dM_look_0 rfl (lv_at hl 1 rfl) ?_
  refine lv_iconst (v := (0 : Int32)) hx hb dM_look_1 (by decide) ?_
  refine lv_iconst (v := (1 : Int32)) hx hb dM_look_2 (by decide) ?_
  refine k_ca0 (wc := []) (wr := [cMd bd k mc mw me mo, cIa cI (bd 1) 128 mp, cZa cZ (bd 2) 30 me.1, cJa cJ (bd 3) 30 me.2.1, cIa cI (bd 4) 30 me.2.2.1, cZa cZ (bd 5) 6 mo.1, cZa cZ (bd 6) 6 mo.2.1, cZa cZ (bd 7) 2 ms.1, cIa cI (bd 8) 2 ms.2.1, cZa cZ (bd 9) 2 ms.2.2.1, cIa cI (bd 10) 2 ms.2.2.2.1, cIa cI (bd 11) 2 ms.2.2.2.2.1, cZa cZ (bd 12) 2 ms.2.2.2.2.2.1, cJa cJ (bd 13) 6 ms.2.2.2.2.2.2, cJa cJ (bd 14) 16 mo.2.2.1]) (va_runS (As := [.int ch, .int (0 : Int32), .int (1 : Int32)]) (rest := []) ⟨hx, hb, hml, hown, hts⟩ (ctM_in l D cZ cI cJ tL tH H.size ch (0 : Int32) (1 : Int32)) (cwM_78 hts hN rfl rfl ⟨Nat.le_of_ble_eq_true rfl, Nat.le_of_ble_eq_true rfl⟩) (k_pre hK hN hT hA hS hP hD [] rfl (by decide)) rfl rfl hl.1 rfl (lv_room (Nat.le_of_ble_eq_true rfl)) dM_look_3 ⟨Nat.zero_le _, Nat.zero_le _⟩) hP hD hS hA [] [0, 1, 2, 3, 4, 5, 6, 7, 8, 9, 10, 11, 12, 13, 14] rfl rfl (by decide) (by decide) (fun _ H locs hP hD hS => ?_)
  refine W.eq (g2 := F0 m 6 ls [.int (fM_in ch (0 : Int32) (1 : Int32))]) rfl ?_
  have hP : va_P D vwCl [cMd bd k mc mw me mo, cIa cI (bd 1) 128 mp, cZa cZ (bd 2) 30 me.1, cJa cJ (bd 3) 30 me.2.1, cIa cI (bd 4) 30 me.2.2.1, cZa cZ (bd 5) 6 mo.1, cZa cZ (bd 6) 6 mo.2.1, cZa cZ (bd 7) 2 ms.1, cIa cI (bd 8) 2 ms.2.1, cZa cZ (bd 9) 2 ms.2.2.1, cIa cI (bd 10) 2 ms.2.2.2.1, cIa cI (bd 11) 2 ms.2.2.2.2.1, cZa cZ (bd 12) 2 ms.2.2.2.2.2.1, cJa cJ (bd 13) 6 ms.2.2.2.2.2.2, cJa cJ (bd 14) 16 mo.2.2.1] H := hP
  have hD : va_D A [cMd bd k mc mw me mo, cIa cI (bd 1) 128 mp, cZa cZ (bd 2) 30 me.1, cJa cJ (bd 3) 30 me.2.1, cIa cI (bd 4) 30 me.2.2.1, cZa cZ (bd 5) 6 mo.1, cZa cZ (bd 6) 6 mo.2.1, cZa cZ (bd 7) 2 ms.1, cIa cI (bd 8) 2 ms.2.1, cZa cZ (bd 9) 2 ms.2.2.1, cIa cI (bd 10) 2 ms.2.2.2.1, cIa cI (bd 11) 2 ms.2.2.2.2.1, cZa cZ (bd 12) 2 ms.2.2.2.2.2.1, cJa cJ (bd 13) 6 ms.2.2.2.2.2.2, cJa cJ (bd 14) 16 mo.2.2.1] := hD
  generalize hq1 : fM_in ch (0 : Int32) (1 : Int32) = q1 at ⊢
  refine lv_if_eq (tgt := 31) hx hb dM_look_6 (by decide) (fun h2 => ?_) (fun h2 => ?_)
  · -- taken at 6
    refine lv_iconst (v := (-1 : Int32)) hx hb dM_look_31 (by decide) ?_
    exact k_iret hx hb hr hlk hP hD hS dM_look_32 () (by simp only [fM_look, hq1, if_pos h2]) rfl
  · -- not taken at 6
    refine lv_iload_n hx hb dM_look_9 rfl (lv_at hl 2 rfl) ?_
    refine lv_iconst (v := (0 : Int32)) hx hb dM_look_10 (by decide) ?_
    refine lv_sipush (v := (1791 : Int32)) hx hb dM_look_11 (by decide) ?_
    refine k_ca0 (wc := []) (wr := [cMd bd k mc mw me mo, cIa cI (bd 1) 128 mp, cZa cZ (bd 2) 30 me.1, cJa cJ (bd 3) 30 me.2.1, cIa cI (bd 4) 30 me.2.2.1, cZa cZ (bd 5) 6 mo.1, cZa cZ (bd 6) 6 mo.2.1, cZa cZ (bd 7) 2 ms.1, cIa cI (bd 8) 2 ms.2.1, cZa cZ (bd 9) 2 ms.2.2.1, cIa cI (bd 10) 2 ms.2.2.2.1, cIa cI (bd 11) 2 ms.2.2.2.2.1, cZa cZ (bd 12) 2 ms.2.2.2.2.2.1, cJa cJ (bd 13) 6 ms.2.2.2.2.2.2, cJa cJ (bd 14) 16 mo.2.2.1]) (va_runS (As := [.int x, .int (0 : Int32), .int (1791 : Int32)]) (rest := []) ⟨hx, hb, hml, hown, hts⟩ (ctM_in l D cZ cI cJ tL tH H.size x (0 : Int32) (1791 : Int32)) (cwM_78 hts hN rfl rfl ⟨Nat.le_of_ble_eq_true rfl, Nat.le_of_ble_eq_true rfl⟩) (k_pre hK hN hT hA hS hP hD [] rfl (by decide)) rfl rfl hl.1 rfl (lv_room (Nat.le_of_ble_eq_true rfl)) dM_look_14 ⟨Nat.zero_le _, Nat.zero_le _⟩) hP hD hS hA [] [0, 1, 2, 3, 4, 5, 6, 7, 8, 9, 10, 11, 12, 13, 14] rfl rfl (by decide) (by decide) (fun _ H locs hP hD hS => ?_)
    refine W.eq (g2 := F0 m 17 ls [.int (fM_in x (0 : Int32) (1791 : Int32))]) rfl ?_
    have hP : va_P D vwCl [cMd bd k mc mw me mo, cIa cI (bd 1) 128 mp, cZa cZ (bd 2) 30 me.1, cJa cJ (bd 3) 30 me.2.1, cIa cI (bd 4) 30 me.2.2.1, cZa cZ (bd 5) 6 mo.1, cZa cZ (bd 6) 6 mo.2.1, cZa cZ (bd 7) 2 ms.1, cIa cI (bd 8) 2 ms.2.1, cZa cZ (bd 9) 2 ms.2.2.1, cIa cI (bd 10) 2 ms.2.2.2.1, cIa cI (bd 11) 2 ms.2.2.2.2.1, cZa cZ (bd 12) 2 ms.2.2.2.2.2.1, cJa cJ (bd 13) 6 ms.2.2.2.2.2.2, cJa cJ (bd 14) 16 mo.2.2.1] H := hP
    have hD : va_D A [cMd bd k mc mw me mo, cIa cI (bd 1) 128 mp, cZa cZ (bd 2) 30 me.1, cJa cJ (bd 3) 30 me.2.1, cIa cI (bd 4) 30 me.2.2.1, cZa cZ (bd 5) 6 mo.1, cZa cZ (bd 6) 6 mo.2.1, cZa cZ (bd 7) 2 ms.1, cIa cI (bd 8) 2 ms.2.1, cZa cZ (bd 9) 2 ms.2.2.1, cIa cI (bd 10) 2 ms.2.2.2.1, cIa cI (bd 11) 2 ms.2.2.2.2.1, cZa cZ (bd 12) 2 ms.2.2.2.2.2.1, cJa cJ (bd 13) 6 ms.2.2.2.2.2.2, cJa cJ (bd 14) 16 mo.2.2.1] := hD
    generalize hq3 : fM_in x (0 : Int32) (1791 : Int32) = q3 at ⊢
    refine lv_if_eq (tgt := 31) hx hb dM_look_17 (by decide) (fun h4 => ?_) (fun h4 => ?_)
    · -- taken at 17
      refine lv_iconst (v := (-1 : Int32)) hx hb dM_look_31 (by decide) ?_
      exact k_iret hx hb hr hlk hP hD hS dM_look_32 () (by simp only [fM_look, hq1, if_neg h2, hq3, if_pos h4]) rfl
    · -- not taken at 17
      refine lv_iload_n hx hb dM_look_20 rfl (lv_at hl 3 rfl) ?_
      refine lv_iconst (v := (0 : Int32)) hx hb dM_look_21 (by decide) ?_
      refine lv_sipush (v := (1791 : Int32)) hx hb dM_look_22 (by decide) ?_
      refine k_ca0 (wc := []) (wr := [cMd bd k mc mw me mo, cIa cI (bd 1) 128 mp, cZa cZ (bd 2) 30 me.1, cJa cJ (bd 3) 30 me.2.1, cIa cI (bd 4) 30 me.2.2.1, cZa cZ (bd 5) 6 mo.1, cZa cZ (bd 6) 6 mo.2.1, cZa cZ (bd 7) 2 ms.1, cIa cI (bd 8) 2 ms.2.1, cZa cZ (bd 9) 2 ms.2.2.1, cIa cI (bd 10) 2 ms.2.2.2.1, cIa cI (bd 11) 2 ms.2.2.2.2.1, cZa cZ (bd 12) 2 ms.2.2.2.2.2.1, cJa cJ (bd 13) 6 ms.2.2.2.2.2.2, cJa cJ (bd 14) 16 mo.2.2.1]) (va_runS (As := [.int y, .int (0 : Int32), .int (1791 : Int32)]) (rest := []) ⟨hx, hb, hml, hown, hts⟩ (ctM_in l D cZ cI cJ tL tH H.size y (0 : Int32) (1791 : Int32)) (cwM_78 hts hN rfl rfl ⟨Nat.le_of_ble_eq_true rfl, Nat.le_of_ble_eq_true rfl⟩) (k_pre hK hN hT hA hS hP hD [] rfl (by decide)) rfl rfl hl.1 rfl (lv_room (Nat.le_of_ble_eq_true rfl)) dM_look_25 ⟨Nat.zero_le _, Nat.zero_le _⟩) hP hD hS hA [] [0, 1, 2, 3, 4, 5, 6, 7, 8, 9, 10, 11, 12, 13, 14] rfl rfl (by decide) (by decide) (fun _ H locs hP hD hS => ?_)
      refine W.eq (g2 := F0 m 28 ls [.int (fM_in y (0 : Int32) (1791 : Int32))]) rfl ?_
      have hP : va_P D vwCl [cMd bd k mc mw me mo, cIa cI (bd 1) 128 mp, cZa cZ (bd 2) 30 me.1, cJa cJ (bd 3) 30 me.2.1, cIa cI (bd 4) 30 me.2.2.1, cZa cZ (bd 5) 6 mo.1, cZa cZ (bd 6) 6 mo.2.1, cZa cZ (bd 7) 2 ms.1, cIa cI (bd 8) 2 ms.2.1, cZa cZ (bd 9) 2 ms.2.2.1, cIa cI (bd 10) 2 ms.2.2.2.1, cIa cI (bd 11) 2 ms.2.2.2.2.1, cZa cZ (bd 12) 2 ms.2.2.2.2.2.1, cJa cJ (bd 13) 6 ms.2.2.2.2.2.2, cJa cJ (bd 14) 16 mo.2.2.1] H := hP
      have hD : va_D A [cMd bd k mc mw me mo, cIa cI (bd 1) 128 mp, cZa cZ (bd 2) 30 me.1, cJa cJ (bd 3) 30 me.2.1, cIa cI (bd 4) 30 me.2.2.1, cZa cZ (bd 5) 6 mo.1, cZa cZ (bd 6) 6 mo.2.1, cZa cZ (bd 7) 2 ms.1, cIa cI (bd 8) 2 ms.2.1, cZa cZ (bd 9) 2 ms.2.2.1, cIa cI (bd 10) 2 ms.2.2.2.1, cIa cI (bd 11) 2 ms.2.2.2.2.1, cZa cZ (bd 12) 2 ms.2.2.2.2.2.1, cJa cJ (bd 13) 6 ms.2.2.2.2.2.2, cJa cJ (bd 14) 16 mo.2.2.1] := hD
      generalize hq5 : fM_in y (0 : Int32) (1791 : Int32) = q5 at ⊢
      refine lv_if_ne (tgt := 33) hx hb dM_look_28 (by decide) (fun h6 => ?_) (fun h6 => ?_)
      · -- taken at 28
        refine lv_ldc2 (v := (32768 : Int64)) hx hb hown (hts _ (wg wd_647 rfl)) dM_look_33 ?_
        refine lv_lstore (lv' := [(4, .long (32768 : Int64)), (0, .ref (bd 0)), (1, .int ch), (2, .int x), (3, .int y)]) hx hb dM_look_36 hl (by decide) rfl (fun ls hl => ?_)
        refine lv_iconst (v := (0 : Int32)) hx hb dM_look_38 (by decide) ?_
        refine lv_istore (lv' := [(6, .int (0 : Int32)), (4, .long (32768 : Int64)), (0, .ref (bd 0)), (1, .int ch), (2, .int x), (3, .int y)]) hx hb dM_look_39 hl (by decide) rfl (fun ls hl => ?_)
        have hl := lv_sub (l' := [(6, .int (0 : Int32)), (4, .long (32768 : Int64)), (0, .ref (bd 0)), (1, .int ch), (2, .int x), (3, .int y)]) hl [0, 1, 2, 3, 4, 5] rfl
        have hix : ∀ i : Nat, i < 4 → vp_in ((((64 : Int32) * ch) + ((8 : Int32) * ((x / (256 : Int32)) + (nI (i % 2))))) + ((y / (256 : Int32)) + (nI (i / 2)))) 128 := fun i hi => k_ixlook hq1 h2 hq3 h4 hq5 h6 i hi
        have LOOP41 : ∀ (fuel : Nat) (i : Nat) (sum : Int64) , ∀ (ls : Array Slot) (H : Heap) (locs : List Loc), fuel + i = 4 → fM_look k mc mw mp me mo ms ch x y = fM_look_l k mc mw mp me mo ms ch x y fuel i sum  → lv_has ls 13 [(6, .int (nI i)), (4, .long sum), (0, .ref (bd 0)), (1, .int ch), (2, .int x), (3, .int y)] → va_P D vwCl [cMd bd k mc mw me mo, cIa cI (bd 1) 128 mp, cZa cZ (bd 2) 30 me.1, cJa cJ (bd 3) 30 me.2.1, cIa cI (bd 4) 30 me.2.2.1, cZa cZ (bd 5) 6 mo.1, cZa cZ (bd 6) 6 mo.2.1, cZa cZ (bd 7) 2 ms.1, cIa cI (bd 8) 2 ms.2.1, cZa cZ (bd 9) 2 ms.2.2.1, cIa cI (bd 10) 2 ms.2.2.2.1, cIa cI (bd 11) 2 ms.2.2.2.2.1, cZa cZ (bd 12) 2 ms.2.2.2.2.2.1, cJa cJ (bd 13) 6 ms.2.2.2.2.2.2, cJa cJ (bd 14) 16 mo.2.2.1] H → va_D A [cMd bd k mc mw me mo, cIa cI (bd 1) 128 mp, cZa cZ (bd 2) 30 me.1, cJa cJ (bd 3) 30 me.2.1, cIa cI (bd 4) 30 me.2.2.1, cZa cZ (bd 5) 6 mo.1, cZa cZ (bd 6) 6 mo.2.1, cZa cZ (bd 7) 2 ms.1, cIa cI (bd 8) 2 ms.2.1, cZa cZ (bd 9) 2 ms.2.2.1, cIa cI (bd 10) 2 ms.2.2.2.1, cIa cI (bd 11) 2 ms.2.2.2.2.1, cZa cZ (bd 12) 2 ms.2.2.2.2.2.1, cJa cJ (bd 13) 6 ms.2.2.2.2.2.2, cJa cJ (bd 14) 16 mo.2.2.1] → va_S A s.heap H locs → W p l e { frames := 1, cells := 0, slots := 0, locals := 22 } s m args below meth c H locs 0 0 (MQ below (QX A D (fun _ : Unit => some (.int (fM_look k mc mw mp me mo ms ch x y))) (fun _ : Unit => [cMd bd k mc mw me mo, cIa cI (bd 1) 128 mp, cZa cZ (bd 2) 30 me.1, cJa cJ (bd 3) 30 me.2.1, cIa cI (bd 4) 30 me.2.2.1, cZa cZ (bd 5) 6 mo.1, cZa cZ (bd 6) 6 mo.2.1, cZa cZ (bd 7) 2 ms.1, cIa cI (bd 8) 2 ms.2.1, cZa cZ (bd 9) 2 ms.2.2.1, cIa cI (bd 10) 2 ms.2.2.2.1, cIa cI (bd 11) 2 ms.2.2.2.2.1, cZa cZ (bd 12) 2 ms.2.2.2.2.2.1, cJa cJ (bd 13) 6 ms.2.2.2.2.2.2, cJa cJ (bd 14) 16 mo.2.2.1])) args s 0 0 A) (F0 m 41 ls []) := by
          intro fuel
          induction fuel with
          | zero =>
            intro i sum   ls H locs hm hres hl hP hD hS
            refine lv_iload hx hb dM_look_41 (lv_at hl 0 rfl) ?_
            refine lv_iconst (v := (4 : Int32)) hx hb dM_look_43 (by decide) ?_
            refine lv_icmp_ge (tgt := 164) hx hb dM_look_44 (by decide) (fun _ => ?_) (fun h0 => absurd (nI_le (a := 4) (b := i) (by omega) (by omega)) h0)
            refine lv_lload hx hb dM_look_164 (lv_at hl 1 rfl) ?_
            refine lv_ldc2 (v := (65536 : Int64)) hx hb hown (hts _ (wg wd_648 rfl)) dM_look_166 ?_
            refine lv_ldiv hx hb dM_look_169 (by decide) ?_
            refine lv_l2i hx hb dM_look_170 rfl ?_
            exact k_iret hx hb hr hlk hP hD hS dM_look_171 () (by simp only [hres, fM_look_l]) rfl
          | succ fuel ih =>
            intro i sum   ls H locs hm hres hl hP hD hS
            refine lv_iload hx hb dM_look_41 (lv_at hl 0 rfl) ?_
            refine lv_iconst (v := (4 : Int32)) hx hb dM_look_43 (by decide) ?_
            refine lv_icmp_ge (tgt := 164) hx hb dM_look_44 (by decide) (fun h0 => absurd h0 (nI_ge (a := i) (b := 4) (by omega) (by omega))) (fun _ => ?_)
            refine lv_iload_n hx hb dM_look_47 rfl (lv_at hl 4 rfl) ?_
            refine lv_sipush (v := (256 : Int32)) hx hb dM_look_48 (by decide) ?_
            refine lv_idiv hx hb dM_look_51 (by decide) ?_
            refine lv_iload hx hb dM_look_52 (lv_at hl 0 rfl) ?_
            refine lv_iconst (v := (2 : Int32)) hx hb dM_look_54 (by decide) ?_
            refine lv_irem hx hb dM_look_55 (by decide) ?_
            refine W.eq (g2 := F0 m 56 ls [.int (nI (i % 2)), .int (x / (256 : Int32))]) (congrArg (fun z => F0 m 56 ls (.int z :: [.int (x / (256 : Int32))])) (pk_rem (a := i) (d := 2) (by omega) (by omega) (by omega))) ?_
            refine lv_iadd hx hb dM_look_56 ?_
            refine lv_istore (lv' := [(7, .int ((x / (256 : Int32)) + (nI (i % 2)))), (6, .int (nI i)), (4, .long sum), (0, .ref (bd 0)), (1, .int ch), (2, .int x), (3, .int y)]) hx hb dM_look_57 hl (by decide) rfl (fun ls hl => ?_)
            refine lv_iload_n hx hb dM_look_59 rfl (lv_at hl 6 rfl) ?_
            refine lv_sipush (v := (256 : Int32)) hx hb dM_look_60 (by decide) ?_
            refine lv_idiv hx hb dM_look_63 (by decide) ?_
            refine lv_iload hx hb dM_look_64 (lv_at hl 1 rfl) ?_
            refine lv_iconst (v := (2 : Int32)) hx hb dM_look_66 (by decide) ?_
            refine lv_idiv hx hb dM_look_67 (by decide) ?_
            refine W.eq (g2 := F0 m 68 ls [.int (nI (i / 2)), .int (y / (256 : Int32))]) (congrArg (fun z => F0 m 68 ls (.int z :: [.int (y / (256 : Int32))])) (pk_div (a := i) (d := 2) (by omega) (by omega) (by omega))) ?_
            refine lv_iadd hx hb dM_look_68 ?_
            refine lv_istore (lv' := [(8, .int ((y / (256 : Int32)) + (nI (i / 2)))), (7, .int ((x / (256 : Int32)) + (nI (i % 2)))), (6, .int (nI i)), (4, .long sum), (0, .ref (bd 0)), (1, .int ch), (2, .int x), (3, .int y)]) hx hb dM_look_69 hl (by decide) rfl (fun ls hl => ?_)
            refine lv_iload hx hb dM_look_71 (lv_at hl 2 rfl) ?_
            refine lv_iconst (v := (2 : Int32)) hx hb dM_look_73 (by decide) ?_
            refine lv_irem hx hb dM_look_74 (by decide) ?_
            refine W.eq (g2 := F0 m 75 ls [.int (nI (i % 2))]) (congrArg (fun z => F0 m 75 ls (.int z :: [])) (pk_rem (a := i) (d := 2) (by omega) (by omega) (by omega))) ?_
            refine lv_if_ne (tgt := 90) hx hb dM_look_75 (by decide) (fun h1001 => ?_) (fun h1001 => ?_)
            · -- taken at 75
              refine lv_iload_n hx hb dM_look_90 rfl (lv_at hl 6 rfl) ?_
              refine lv_sipush (v := (256 : Int32)) hx hb dM_look_91 (by decide) ?_
              refine lv_irem hx hb dM_look_94 (by decide) ?_
              refine lv_istore (lv' := [(9, .int (x - x / (256 : Int32) * (256 : Int32))), (8, .int ((y / (256 : Int32)) + (nI (i / 2)))), (7, .int ((x / (256 : Int32)) + (nI (i % 2)))), (6, .int (nI i)), (4, .long sum), (0, .ref (bd 0)), (1, .int ch), (2, .int x), (3, .int y)]) hx hb dM_look_95 hl (by decide) rfl (fun ls hl => ?_)
              refine lv_iload hx hb dM_look_97 (lv_at hl 3 rfl) ?_
              refine lv_iconst (v := (2 : Int32)) hx hb dM_look_99 (by decide) ?_
              refine lv_idiv hx hb dM_look_100 (by decide) ?_
              refine W.eq (g2 := F0 m 101 ls [.int (nI (i / 2))]) (congrArg (fun z => F0 m 101 ls (.int z :: [])) (pk_div (a := i) (d := 2) (by omega) (by omega) (by omega))) ?_
              refine lv_if_ne (tgt := 116) hx hb dM_look_101 (by decide) (fun h1002 => ?_) (fun h1002 => ?_)
              · -- taken at 101
                refine lv_iload_n hx hb dM_look_116 rfl (lv_at hl 8 rfl) ?_
                refine lv_sipush (v := (256 : Int32)) hx hb dM_look_117 (by decide) ?_
                refine lv_irem hx hb dM_look_120 (by decide) ?_
                refine lv_istore (lv' := [(10, .int (y - y / (256 : Int32) * (256 : Int32))), (9, .int (x - x / (256 : Int32) * (256 : Int32))), (8, .int ((y / (256 : Int32)) + (nI (i / 2)))), (7, .int ((x / (256 : Int32)) + (nI (i % 2)))), (6, .int (nI i)), (4, .long sum), (0, .ref (bd 0)), (1, .int ch), (2, .int x), (3, .int y)]) hx hb dM_look_121 hl (by decide) rfl (fun ls hl => ?_)
                refine lv_iload hx hb dM_look_123 (lv_at hl 1 rfl) ?_
                refine lv_iload hx hb dM_look_125 (lv_at hl 0 rfl) ?_
                refine lv_imul hx hb dM_look_127 ?_
                refine lv_i2l hx hb dM_look_128 rfl ?_
                refine lv_lstore (lv' := [(11, .long (((x - x / (256 : Int32) * (256 : Int32)) * (y - y / (256 : Int32) * (256 : Int32))).toInt64)), (10, .int (y - y / (256 : Int32) * (256 : Int32))), (9, .int (x - x / (256 : Int32) * (256 : Int32))), (8, .int ((y / (256 : Int32)) + (nI (i / 2)))), (7, .int ((x / (256 : Int32)) + (nI (i % 2)))), (6, .int (nI i)), (4, .long sum), (0, .ref (bd 0)), (1, .int ch), (2, .int x), (3, .int y)]) hx hb dM_look_129 hl (by decide) rfl (fun ls hl => ?_)
                refine lv_lload hx hb dM_look_131 (lv_at hl 6 rfl) ?_
                refine lv_lload hx hb dM_look_133 (lv_at hl 0 rfl) ?_
                refine lv_aload_n hx hb dM_look_135 rfl (lv_at hl 7 rfl) ?_
                refine gfM_13 hx hb hts hown hN hK hP 0 rfl (v := .ref (bd 1)) rfl dM_look_136 ?_
                refine lv_bipush (v := (64 : Int32)) hx hb dM_look_139 (by decide) ?_
                refine lv_iload_n hx hb dM_look_141 rfl (lv_at hl 8 rfl) ?_
                refine lv_imul hx hb dM_look_142 ?_
                refine lv_bipush (v := (8 : Int32)) hx hb dM_look_143 (by decide) ?_
                refine lv_iload hx hb dM_look_145 (lv_at hl 4 rfl) ?_
                refine lv_imul hx hb dM_look_147 ?_
                refine lv_iadd hx hb dM_look_148 ?_
                refine lv_iload hx hb dM_look_149 (lv_at hl 3 rfl) ?_
                refine lv_iadd hx hb dM_look_151 ?_
                refine va_iald hx hb hK hP 1 1 rfl rfl (hix i (by omega)) dM_look_152 ?_
                refine lv_i2l hx hb dM_look_153 rfl ?_
                refine lv_lmul hx hb dM_look_154 ?_
                refine lv_ladd hx hb dM_look_155 ?_
                refine lv_lstore (lv' := [(4, .long (sum + ((((x - x / (256 : Int32) * (256 : Int32)) * (y - y / (256 : Int32) * (256 : Int32))).toInt64) * ((mp (((((64 : Int32) * ch) + ((8 : Int32) * ((x / (256 : Int32)) + (nI (i % 2))))) + ((y / (256 : Int32)) + (nI (i / 2)))).toNatClampNeg)).toInt64)))), (11, .long (((x - x / (256 : Int32) * (256 : Int32)) * (y - y / (256 : Int32) * (256 : Int32))).toInt64)), (10, .int (y - y / (256 : Int32) * (256 : Int32))), (9, .int (x - x / (256 : Int32) * (256 : Int32))), (8, .int ((y / (256 : Int32)) + (nI (i / 2)))), (7, .int ((x / (256 : Int32)) + (nI (i % 2)))), (6, .int (nI i)), (0, .ref (bd 0)), (1, .int ch), (2, .int x), (3, .int y)]) hx hb dM_look_156 hl (by decide) rfl (fun ls hl => ?_)
                refine lv_iinc (k := 6) (v := nI (i + 1)) (lv' := [(6, .int (nI (i + 1))), (4, .long (sum + ((((x - x / (256 : Int32) * (256 : Int32)) * (y - y / (256 : Int32) * (256 : Int32))).toInt64) * ((mp (((((64 : Int32) * ch) + ((8 : Int32) * ((x / (256 : Int32)) + (nI (i % 2))))) + ((y / (256 : Int32)) + (nI (i / 2)))).toNatClampNeg)).toInt64)))), (11, .long (((x - x / (256 : Int32) * (256 : Int32)) * (y - y / (256 : Int32) * (256 : Int32))).toInt64)), (10, .int (y - y / (256 : Int32) * (256 : Int32))), (9, .int (x - x / (256 : Int32) * (256 : Int32))), (8, .int ((y / (256 : Int32)) + (nI (i / 2)))), (7, .int ((x / (256 : Int32)) + (nI (i % 2)))), (0, .ref (bd 0)), (1, .int ch), (2, .int x), (3, .int y)]) hx hb dM_look_158 hl rfl (nI_1 i) (by decide) rfl (fun ls hl => ?_)
                refine lv_goto (tgt := 41) hx hb dM_look_161 (by decide) ?_
                have hl := lv_sub (l' := [(6, .int (nI (i + 1))), (4, .long (sum + ((((x - x / (256 : Int32) * (256 : Int32)) * (y - y / (256 : Int32) * (256 : Int32))).toInt64) * ((mp (((((64 : Int32) * ch) + ((8 : Int32) * ((x / (256 : Int32)) + (nI (i % 2))))) + ((y / (256 : Int32)) + (nI (i / 2)))).toNatClampNeg)).toInt64)))), (0, .ref (bd 0)), (1, .int ch), (2, .int x), (3, .int y)]) hl [0, 1, 7, 8, 9, 10] rfl
                exact ih (i + 1) (sum + ((((x - x / (256 : Int32) * (256 : Int32)) * (y - y / (256 : Int32) * (256 : Int32))).toInt64) * ((mp (((((64 : Int32) * ch) + ((8 : Int32) * ((x / (256 : Int32)) + (nI (i % 2))))) + ((y / (256 : Int32)) + (nI (i / 2)))).toNatClampNeg)).toInt64)))  ls H _ (by omega) (by simp only [hres, fM_look_l, if_neg h1001, if_neg h1002]) hl hP hD hS
              · -- not taken at 101
                refine lv_sipush (v := (256 : Int32)) hx hb dM_look_104 (by decide) ?_
                refine lv_iload_n hx hb dM_look_107 rfl (lv_at hl 8 rfl) ?_
                refine lv_sipush (v := (256 : Int32)) hx hb dM_look_108 (by decide) ?_
                refine lv_irem hx hb dM_look_111 (by decide) ?_
                refine lv_isub hx hb dM_look_112 ?_
                refine lv_goto (tgt := 121) hx hb dM_look_113 (by decide) ?_
                refine lv_istore (lv' := [(10, .int ((256 : Int32) - (y - y / (256 : Int32) * (256 : Int32)))), (9, .int (x - x / (256 : Int32) * (256 : Int32))), (8, .int ((y / (256 : Int32)) + (nI (i / 2)))), (7, .int ((x / (256 : Int32)) + (nI (i % 2)))), (6, .int (nI i)), (4, .long sum), (0, .ref (bd 0)), (1, .int ch), (2, .int x), (3, .int y)]) hx hb dM_look_121 hl (by decide) rfl (fun ls hl => ?_)
                refine lv_iload hx hb dM_look_123 (lv_at hl 1 rfl) ?_
                refine lv_iload hx hb dM_look_125 (lv_at hl 0 rfl) ?_
                refine lv_imul hx hb dM_look_127 ?_
                refine lv_i2l hx hb dM_look_128 rfl ?_
                refine lv_lstore (lv' := [(11, .long (((x - x / (256 : Int32) * (256 : Int32)) * ((256 : Int32) - (y - y / (256 : Int32) * (256 : Int32)))).toInt64)), (10, .int ((256 : Int32) - (y - y / (256 : Int32) * (256 : Int32)))), (9, .int (x - x / (256 : Int32) * (256 : Int32))), (8, .int ((y / (256 : Int32)) + (nI (i / 2)))), (7, .int ((x / (256 : Int32)) + (nI (i % 2)))), (6, .int (nI i)), (4, .long sum), (0, .ref (bd 0)), (1, .int ch), (2, .int x), (3, .int y)]) hx hb dM_look_129 hl (by decide) rfl (fun ls hl => ?_)
                refine lv_lload hx hb dM_look_131 (lv_at hl 6 rfl) ?_
                refine lv_lload hx hb dM_look_133 (lv_at hl 0 rfl) ?_
                refine lv_aload_n hx hb dM_look_135 rfl (lv_at hl 7 rfl) ?_
                refine gfM_13 hx hb hts hown hN hK hP 0 rfl (v := .ref (bd 1)) rfl dM_look_136 ?_
                refine lv_bipush (v := (64 : Int32)) hx hb dM_look_139 (by decide) ?_
                refine lv_iload_n hx hb dM_look_141 rfl (lv_at hl 8 rfl) ?_
                refine lv_imul hx hb dM_look_142 ?_
                refine lv_bipush (v := (8 : Int32)) hx hb dM_look_143 (by decide) ?_
                refine lv_iload hx hb dM_look_145 (lv_at hl 4 rfl) ?_
                refine lv_imul hx hb dM_look_147 ?_
                refine lv_iadd hx hb dM_look_148 ?_
                refine lv_iload hx hb dM_look_149 (lv_at hl 3 rfl) ?_
                refine lv_iadd hx hb dM_look_151 ?_
                refine va_iald hx hb hK hP 1 1 rfl rfl (hix i (by omega)) dM_look_152 ?_
                refine lv_i2l hx hb dM_look_153 rfl ?_
                refine lv_lmul hx hb dM_look_154 ?_
                refine lv_ladd hx hb dM_look_155 ?_
                refine lv_lstore (lv' := [(4, .long (sum + ((((x - x / (256 : Int32) * (256 : Int32)) * ((256 : Int32) - (y - y / (256 : Int32) * (256 : Int32)))).toInt64) * ((mp (((((64 : Int32) * ch) + ((8 : Int32) * ((x / (256 : Int32)) + (nI (i % 2))))) + ((y / (256 : Int32)) + (nI (i / 2)))).toNatClampNeg)).toInt64)))), (11, .long (((x - x / (256 : Int32) * (256 : Int32)) * ((256 : Int32) - (y - y / (256 : Int32) * (256 : Int32)))).toInt64)), (10, .int ((256 : Int32) - (y - y / (256 : Int32) * (256 : Int32)))), (9, .int (x - x / (256 : Int32) * (256 : Int32))), (8, .int ((y / (256 : Int32)) + (nI (i / 2)))), (7, .int ((x / (256 : Int32)) + (nI (i % 2)))), (6, .int (nI i)), (0, .ref (bd 0)), (1, .int ch), (2, .int x), (3, .int y)]) hx hb dM_look_156 hl (by decide) rfl (fun ls hl => ?_)
                refine lv_iinc (k := 6) (v := nI (i + 1)) (lv' := [(6, .int (nI (i + 1))), (4, .long (sum + ((((x - x / (256 : Int32) * (256 : Int32)) * ((256 : Int32) - (y - y / (256 : Int32) * (256 : Int32)))).toInt64) * ((mp (((((64 : Int32) * ch) + ((8 : Int32) * ((x / (256 : Int32)) + (nI (i % 2))))) + ((y / (256 : Int32)) + (nI (i / 2)))).toNatClampNeg)).toInt64)))), (11, .long (((x - x / (256 : Int32) * (256 : Int32)) * ((256 : Int32) - (y - y / (256 : Int32) * (256 : Int32)))).toInt64)), (10, .int ((256 : Int32) - (y - y / (256 : Int32) * (256 : Int32)))), (9, .int (x - x / (256 : Int32) * (256 : Int32))), (8, .int ((y / (256 : Int32)) + (nI (i / 2)))), (7, .int ((x / (256 : Int32)) + (nI (i % 2)))), (0, .ref (bd 0)), (1, .int ch), (2, .int x), (3, .int y)]) hx hb dM_look_158 hl rfl (nI_1 i) (by decide) rfl (fun ls hl => ?_)
                refine lv_goto (tgt := 41) hx hb dM_look_161 (by decide) ?_
                have hl := lv_sub (l' := [(6, .int (nI (i + 1))), (4, .long (sum + ((((x - x / (256 : Int32) * (256 : Int32)) * ((256 : Int32) - (y - y / (256 : Int32) * (256 : Int32)))).toInt64) * ((mp (((((64 : Int32) * ch) + ((8 : Int32) * ((x / (256 : Int32)) + (nI (i % 2))))) + ((y / (256 : Int32)) + (nI (i / 2)))).toNatClampNeg)).toInt64)))), (0, .ref (bd 0)), (1, .int ch), (2, .int x), (3, .int y)]) hl [0, 1, 7, 8, 9, 10] rfl
                exact ih (i + 1) (sum + ((((x - x / (256 : Int32) * (256 : Int32)) * ((256 : Int32) - (y - y / (256 : Int32) * (256 : Int32)))).toInt64) * ((mp (((((64 : Int32) * ch) + ((8 : Int32) * ((x / (256 : Int32)) + (nI (i % 2))))) + ((y / (256 : Int32)) + (nI (i / 2)))).toNatClampNeg)).toInt64)))  ls H _ (by omega) (by simp only [hres, fM_look_l, if_neg h1001, if_pos h1002]) hl hP hD hS
            · -- not taken at 75
              refine lv_sipush (v := (256 : Int32)) hx hb dM_look_78 (by decide) ?_
              refine lv_iload_n hx hb dM_look_81 rfl (lv_at hl 6 rfl) ?_
              refine lv_sipush (v := (256 : Int32)) hx hb dM_look_82 (by decide) ?_
              refine lv_irem hx hb dM_look_85 (by decide) ?_
              refine lv_isub hx hb dM_look_86 ?_
              refine lv_goto (tgt := 95) hx hb dM_look_87 (by decide) ?_
              refine lv_istore (lv' := [(9, .int ((256 : Int32) - (x - x / (256 : Int32) * (256 : Int32)))), (8, .int ((y / (256 : Int32)) + (nI (i / 2)))), (7, .int ((x / (256 : Int32)) + (nI (i % 2)))), (6, .int (nI i)), (4, .long sum), (0, .ref (bd 0)), (1, .int ch), (2, .int x), (3, .int y)]) hx hb dM_look_95 hl (by decide) rfl (fun ls hl => ?_)
              refine lv_iload hx hb dM_look_97 (lv_at hl 3 rfl) ?_
              refine lv_iconst (v := (2 : Int32)) hx hb dM_look_99 (by decide) ?_
              refine lv_idiv hx hb dM_look_100 (by decide) ?_
              refine W.eq (g2 := F0 m 101 ls [.int (nI (i / 2))]) (congrArg (fun z => F0 m 101 ls (.int z :: [])) (pk_div (a := i) (d := 2) (by omega) (by omega) (by omega))) ?_
              refine lv_if_ne (tgt := 116) hx hb dM_look_101 (by decide) (fun h1003 => ?_) (fun h1003 => ?_)
              · -- taken at 101
                refine lv_iload_n hx hb dM_look_116 rfl (lv_at hl 8 rfl) ?_
                refine lv_sipush (v := (256 : Int32)) hx hb dM_look_117 (by decide) ?_
                refine lv_irem hx hb dM_look_120 (by decide) ?_
                refine lv_istore (lv' := [(10, .int (y - y / (256 : Int32) * (256 : Int32))), (9, .int ((256 : Int32) - (x - x / (256 : Int32) * (256 : Int32)))), (8, .int ((y / (256 : Int32)) + (nI (i / 2)))), (7, .int ((x / (256 : Int32)) + (nI (i % 2)))), (6, .int (nI i)), (4, .long sum), (0, .ref (bd 0)), (1, .int ch), (2, .int x), (3, .int y)]) hx hb dM_look_121 hl (by decide) rfl (fun ls hl => ?_)
                refine lv_iload hx hb dM_look_123 (lv_at hl 1 rfl) ?_
                refine lv_iload hx hb dM_look_125 (lv_at hl 0 rfl) ?_
                refine lv_imul hx hb dM_look_127 ?_
                refine lv_i2l hx hb dM_look_128 rfl ?_
                refine lv_lstore (lv' := [(11, .long ((((256 : Int32) - (x - x / (256 : Int32) * (256 : Int32))) * (y - y / (256 : Int32) * (256 : Int32))).toInt64)), (10, .int (y - y / (256 : Int32) * (256 : Int32))), (9, .int ((256 : Int32) - (x - x / (256 : Int32) * (256 : Int32)))), (8, .int ((y / (256 : Int32)) + (nI (i / 2)))), (7, .int ((x / (256 : Int32)) + (nI (i % 2)))), (6, .int (nI i)), (4, .long sum), (0, .ref (bd 0)), (1, .int ch), (2, .int x), (3, .int y)]) hx hb dM_look_129 hl (by decide) rfl (fun ls hl => ?_)
                refine lv_lload hx hb dM_look_131 (lv_at hl 6 rfl) ?_
                refine lv_lload hx hb dM_look_133 (lv_at hl 0 rfl) ?_
                refine lv_aload_n hx hb dM_look_135 rfl (lv_at hl 7 rfl) ?_
                refine gfM_13 hx hb hts hown hN hK hP 0 rfl (v := .ref (bd 1)) rfl dM_look_136 ?_
                refine lv_bipush (v := (64 : Int32)) hx hb dM_look_139 (by decide) ?_
                refine lv_iload_n hx hb dM_look_141 rfl (lv_at hl 8 rfl) ?_
                refine lv_imul hx hb dM_look_142 ?_
                refine lv_bipush (v := (8 : Int32)) hx hb dM_look_143 (by decide) ?_
                refine lv_iload hx hb dM_look_145 (lv_at hl 4 rfl) ?_
                refine lv_imul hx hb dM_look_147 ?_
                refine lv_iadd hx hb dM_look_148 ?_
                refine lv_iload hx hb dM_look_149 (lv_at hl 3 rfl) ?_
                refine lv_iadd hx hb dM_look_151 ?_
                refine va_iald hx hb hK hP 1 1 rfl rfl (hix i (by omega)) dM_look_152 ?_
                refine lv_i2l hx hb dM_look_153 rfl ?_
                refine lv_lmul hx hb dM_look_154 ?_
                refine lv_ladd hx hb dM_look_155 ?_
                refine lv_lstore (lv' := [(4, .long (sum + (((((256 : Int32) - (x - x / (256 : Int32) * (256 : Int32))) * (y - y / (256 : Int32) * (256 : Int32))).toInt64) * ((mp (((((64 : Int32) * ch) + ((8 : Int32) * ((x / (256 : Int32)) + (nI (i % 2))))) + ((y / (256 : Int32)) + (nI (i / 2)))).toNatClampNeg)).toInt64)))), (11, .long ((((256 : Int32) - (x - x / (256 : Int32) * (256 : Int32))) * (y - y / (256 : Int32) * (256 : Int32))).toInt64)), (10, .int (y - y / (256 : Int32) * (256 : Int32))), (9, .int ((256 : Int32) - (x - x / (256 : Int32) * (256 : Int32)))), (8, .int ((y / (256 : Int32)) + (nI (i / 2)))), (7, .int ((x / (256 : Int32)) + (nI (i % 2)))), (6, .int (nI i)), (0, .ref (bd 0)), (1, .int ch), (2, .int x), (3, .int y)]) hx hb dM_look_156 hl (by decide) rfl (fun ls hl => ?_)
                refine lv_iinc (k := 6) (v := nI (i + 1)) (lv' := [(6, .int (nI (i + 1))), (4, .long (sum + (((((256 : Int32) - (x - x / (256 : Int32) * (256 : Int32))) * (y - y / (256 : Int32) * (256 : Int32))).toInt64) * ((mp (((((64 : Int32) * ch) + ((8 : Int32) * ((x / (256 : Int32)) + (nI (i % 2))))) + ((y / (256 : Int32)) + (nI (i / 2)))).toNatClampNeg)).toInt64)))), (11, .long ((((256 : Int32) - (x - x / (256 : Int32) * (256 : Int32))) * (y - y / (256 : Int32) * (256 : Int32))).toInt64)), (10, .int (y - y / (256 : Int32) * (256 : Int32))), (9, .int ((256 : Int32) - (x - x / (256 : Int32) * (256 : Int32)))), (8, .int ((y / (256 : Int32)) + (nI (i / 2)))), (7, .int ((x / (256 : Int32)) + (nI (i % 2)))), (0, .ref (bd 0)), (1, .int ch), (2, .int x), (3, .int y)]) hx hb dM_look_158 hl rfl (nI_1 i) (by decide) rfl (fun ls hl => ?_)
                refine lv_goto (tgt := 41) hx hb dM_look_161 (by decide) ?_
                have hl := lv_sub (l' := [(6, .int (nI (i + 1))), (4, .long (sum + (((((256 : Int32) - (x - x / (256 : Int32) * (256 : Int32))) * (y - y / (256 : Int32) * (256 : Int32))).toInt64) * ((mp (((((64 : Int32) * ch) + ((8 : Int32) * ((x / (256 : Int32)) + (nI (i % 2))))) + ((y / (256 : Int32)) + (nI (i / 2)))).toNatClampNeg)).toInt64)))), (0, .ref (bd 0)), (1, .int ch), (2, .int x), (3, .int y)]) hl [0, 1, 7, 8, 9, 10] rfl
                exact ih (i + 1) (sum + (((((256 : Int32) - (x - x / (256 : Int32) * (256 : Int32))) * (y - y / (256 : Int32) * (256 : Int32))).toInt64) * ((mp (((((64 : Int32) * ch) + ((8 : Int32) * ((x / (256 : Int32)) + (nI (i % 2))))) + ((y / (256 : Int32)) + (nI (i / 2)))).toNatClampNeg)).toInt64)))  ls H _ (by omega) (by simp only [hres, fM_look_l, if_pos h1001, if_neg h1003]) hl hP hD hS
              · -- not taken at 101
                refine lv_sipush (v := (256 : Int32)) hx hb dM_look_104 (by decide) ?_
                refine lv_iload_n hx hb dM_look_107 rfl (lv_at hl 8 rfl) ?_
                refine lv_sipush (v := (256 : Int32)) hx hb dM_look_108 (by decide) ?_
                refine lv_irem hx hb dM_look_111 (by decide) ?_
                refine lv_isub hx hb dM_look_112 ?_
                refine lv_goto (tgt := 121) hx hb dM_look_113 (by decide) ?_
                refine lv_istore (lv' := [(10, .int ((256 : Int32) - (y - y / (256 : Int32) * (256 : Int32)))), (9, .int ((256 : Int32) - (x - x / (256 : Int32) * (256 : Int32)))), (8, .int ((y / (256 : Int32)) + (nI (i / 2)))), (7, .int ((x / (256 : Int32)) + (nI (i % 2)))), (6, .int (nI i)), (4, .long sum), (0, .ref (bd 0)), (1, .int ch), (2, .int x), (3, .int y)]) hx hb dM_look_121 hl (by decide) rfl (fun ls hl => ?_)
                refine lv_iload hx hb dM_look_123 (lv_at hl 1 rfl) ?_
                refine lv_iload hx hb dM_look_125 (lv_at hl 0 rfl) ?_
                refine lv_imul hx hb dM_look_127 ?_
                refine lv_i2l hx hb dM_look_128 rfl ?_
                refine lv_lstore (lv' := [(11, .long ((((256 : Int32) - (x - x / (256 : Int32) * (256 : Int32))) * ((256 : Int32) - (y - y / (256 : Int32) * (256 : Int32)))).toInt64)), (10, .int ((256 : Int32) - (y - y / (256 : Int32) * (256 : Int32)))), (9, .int ((256 : Int32) - (x - x / (256 : Int32) * (256 : Int32)))), (8, .int ((y / (256 : Int32)) + (nI (i / 2)))), (7, .int ((x / (256 : Int32)) + (nI (i % 2)))), (6, .int (nI i)), (4, .long sum), (0, .ref (bd 0)), (1, .int ch), (2, .int x), (3, .int y)]) hx hb dM_look_129 hl (by decide) rfl (fun ls hl => ?_)
                refine lv_lload hx hb dM_look_131 (lv_at hl 6 rfl) ?_
                refine lv_lload hx hb dM_look_133 (lv_at hl 0 rfl) ?_
                refine lv_aload_n hx hb dM_look_135 rfl (lv_at hl 7 rfl) ?_
                refine gfM_13 hx hb hts hown hN hK hP 0 rfl (v := .ref (bd 1)) rfl dM_look_136 ?_
                refine lv_bipush (v := (64 : Int32)) hx hb dM_look_139 (by decide) ?_
                refine lv_iload_n hx hb dM_look_141 rfl (lv_at hl 8 rfl) ?_
                refine lv_imul hx hb dM_look_142 ?_
                refine lv_bipush (v := (8 : Int32)) hx hb dM_look_143 (by decide) ?_
                refine lv_iload hx hb dM_look_145 (lv_at hl 4 rfl) ?_
                refine lv_imul hx hb dM_look_147 ?_
                refine lv_iadd hx hb dM_look_148 ?_
                refine lv_iload hx hb dM_look_149 (lv_at hl 3 rfl) ?_
                refine lv_iadd hx hb dM_look_151 ?_
                refine va_iald hx hb hK hP 1 1 rfl rfl (hix i (by omega)) dM_look_152 ?_
                refine lv_i2l hx hb dM_look_153 rfl ?_
                refine lv_lmul hx hb dM_look_154 ?_
                refine lv_ladd hx hb dM_look_155 ?_
                refine lv_lstore (lv' := [(4, .long (sum + (((((256 : Int32) - (x - x / (256 : Int32) * (256 : Int32))) * ((256 : Int32) - (y - y / (256 : Int32) * (256 : Int32)))).toInt64) * ((mp (((((64 : Int32) * ch) + ((8 : Int32) * ((x / (256 : Int32)) + (nI (i % 2))))) + ((y / (256 : Int32)) + (nI (i / 2)))).toNatClampNeg)).toInt64)))), (11, .long ((((256 : Int32) - (x - x / (256 : Int32) * (256 : Int32))) * ((256 : Int32) - (y - y / (256 : Int32) * (256 : Int32)))).toInt64)), (10, .int ((256 : Int32) - (y - y / (256 : Int32) * (256 : Int32)))), (9, .int ((256 : Int32) - (x - x / (256 : Int32) * (256 : Int32)))), (8, .int ((y / (256 : Int32)) + (nI (i / 2)))), (7, .int ((x / (256 : Int32)) + (nI (i % 2)))), (6, .int (nI i)), (0, .ref (bd 0)), (1, .int ch), (2, .int x), (3, .int y)]) hx hb dM_look_156 hl (by decide) rfl (fun ls hl => ?_)
                refine lv_iinc (k := 6) (v := nI (i + 1)) (lv' := [(6, .int (nI (i + 1))), (4, .long (sum + (((((256 : Int32) - (x - x / (256 : Int32) * (256 : Int32))) * ((256 : Int32) - (y - y / (256 : Int32) * (256 : Int32)))).toInt64) * ((mp (((((64 : Int32) * ch) + ((8 : Int32) * ((x / (256 : Int32)) + (nI (i % 2))))) + ((y / (256 : Int32)) + (nI (i / 2)))).toNatClampNeg)).toInt64)))), (11, .long ((((256 : Int32) - (x - x / (256 : Int32) * (256 : Int32))) * ((256 : Int32) - (y - y / (256 : Int32) * (256 : Int32)))).toInt64)), (10, .int ((256 : Int32) - (y - y / (256 : Int32) * (256 : Int32)))), (9, .int ((256 : Int32) - (x - x / (256 : Int32) * (256 : Int32)))), (8, .int ((y / (256 : Int32)) + (nI (i / 2)))), (7, .int ((x / (256 : Int32)) + (nI (i % 2)))), (0, .ref (bd 0)), (1, .int ch), (2, .int x), (3, .int y)]) hx hb dM_look_158 hl rfl (nI_1 i) (by decide) rfl (fun ls hl => ?_)
                refine lv_goto (tgt := 41) hx hb dM_look_161 (by decide) ?_
                have hl := lv_sub (l' := [(6, .int (nI (i + 1))), (4, .long (sum + (((((256 : Int32) - (x - x / (256 : Int32) * (256 : Int32))) * ((256 : Int32) - (y - y / (256 : Int32) * (256 : Int32)))).toInt64) * ((mp (((((64 : Int32) * ch) + ((8 : Int32) * ((x / (256 : Int32)) + (nI (i % 2))))) + ((y / (256 : Int32)) + (nI (i / 2)))).toNatClampNeg)).toInt64)))), (0, .ref (bd 0)), (1, .int ch), (2, .int x), (3, .int y)]) hl [0, 1, 7, 8, 9, 10] rfl
                exact ih (i + 1) (sum + (((((256 : Int32) - (x - x / (256 : Int32) * (256 : Int32))) * ((256 : Int32) - (y - y / (256 : Int32) * (256 : Int32)))).toInt64) * ((mp (((((64 : Int32) * ch) + ((8 : Int32) * ((x / (256 : Int32)) + (nI (i % 2))))) + ((y / (256 : Int32)) + (nI (i / 2)))).toNatClampNeg)).toInt64)))  ls H _ (by omega) (by simp only [hres, fM_look_l, if_pos h1001, if_pos h1003]) hl hP hD hS
        exact LOOP41 4 0 (32768 : Int64)  ls H _ (by omega) (by simp only [fM_look, hq1, if_neg h2, hq3, if_neg h4, hq5, if_neg h6]) hl hP hD hS
      · -- not taken at 28
        refine lv_iconst (v := (-1 : Int32)) hx hb dM_look_31 (by decide) ?_
        exact k_iret hx hb hr hlk hP hD hS dM_look_32 () (by simp only [fM_look, hq1, if_neg h2, hq3, if_neg h4, hq5, if_pos h6]) rfl

def fM_valueOf (k : Nat) (mc : McT) (mw : MwT) (mp : MpT) (me : MeT) (mo : MoT) (ms : MsT) (se : Nat) : Int32 :=
  if (ms.2.2.2.2.1 se) < (3 : Int32) then
    if (ms.2.2.1 se) = 0 then
      if (nI se) = 0 then
        (512 : Int32)
      else
        (60 : Int32)
    else
      if (nI se) = 0 then
        ms.2.2.2.1 se
      else
        let q4 := fM_corner (((ms.2.2.2.1 se) / (256 : Int32)) + (1 : Int32))
        let q5 := fM_corner ((ms.2.2.2.1 se) / (256 : Int32))
        let q6 := fM_down ((q4 - q5) * ((ms.2.2.2.1 se) - (ms.2.2.2.1 se) / (256 : Int32) * (256 : Int32))) (256 : Int32)
        q5 + q6
  else
    if (nI se) = 0 then
      (400 : Int32)
    else
      (80 : Int32)
set_option maxRecDepth 100000 in
set_option maxHeartbeats 4000000 in
theorem ctM_valueOf (l : Launch) (D : va_G) (cZ cI cJ : ClassId) (tL tH : Nat) (sz : Nat) (bd : Nat → Nat) (k : Nat) (mc : McT) (mw : MwT) (mp : MpT) (me : MeT) (mo : MoT) (ms : MsT) (se : Nat)  (hk : 0 < k ∧ k ≤ 6) (hse : se < 2) : Ct l yM_valueOf wM_valueOf ({ frames := 1, cells := 0, slots := 0, locals := 22 }) D (tyG cZ cI cJ) tL tH [.ref (bd 0), .int (nI se)] sz [cMd bd k mc mw me mo, cIa cI (bd 1) 128 mp, cZa cZ (bd 2) 30 me.1, cJa cJ (bd 3) 30 me.2.1, cIa cI (bd 4) 30 me.2.2.1, cZa cZ (bd 5) 6 mo.1, cZa cZ (bd 6) 6 mo.2.1, cZa cZ (bd 7) 2 ms.1, cIa cI (bd 8) 2 ms.2.1, cZa cZ (bd 9) 2 ms.2.2.1, cIa cI (bd 10) 2 ms.2.2.2.1, cIa cI (bd 11) 2 ms.2.2.2.2.1, cZa cZ (bd 12) 2 ms.2.2.2.2.2.1, cJa cJ (bd 13) 6 ms.2.2.2.2.2.2, cJa cJ (bd 14) 16 mo.2.2.1] (fun _ : Unit => some (.int (fM_valueOf k mc mw mp me mo ms se))) (fun _ : Unit => [cMd bd k mc mw me mo, cIa cI (bd 1) 128 mp, cZa cZ (bd 2) 30 me.1, cJa cJ (bd 3) 30 me.2.1, cIa cI (bd 4) 30 me.2.2.1, cZa cZ (bd 5) 6 mo.1, cZa cZ (bd 6) 6 mo.2.1, cZa cZ (bd 7) 2 ms.1, cIa cI (bd 8) 2 ms.2.1, cZa cZ (bd 9) 2 ms.2.2.1, cIa cI (bd 10) 2 ms.2.2.2.1, cIa cI (bd 11) 2 ms.2.2.2.2.1, cZa cZ (bd 12) 2 ms.2.2.2.2.2.1, cJa cJ (bd 13) 6 ms.2.2.2.2.2.2, cJa cJ (bd 14) 16 mo.2.2.1]) 0 0 := by
  refine k_go (by decide +kernel) (Nat.le_of_ble_eq_true rfl) ?_
  intro p e s m args below meth c A ls H hx hb hr hml hts hown hlk hnm hK hN hT hA hS hP hD hl
  have hown : s.vm.findClass "ToothWheelTimerModel" = some m.cls := hown
  have hlk : meth.locks = false := hlk
  have hl : lv_has ls 5 [(0, .ref (bd 0)), (1, .int (nI se))] := hl
  refine lv_aload_n hx hb dM_valueOf_0 rfl (lv_at hl 0 rfl) ?_
  refine gfM_46 hx hb hts hown hN hK hP 0 rfl (v := .ref (bd 11)) rfl dM_valueOf_1 ?_
  refine lv_iload_n hx hb dM_valueOf_4 rfl (lv_at hl 1 rfl) ?_
  refine va_iald hx hb hK hP 11 1 rfl rfl (vp_in_nI (n := se) (N := 2) (by omega) (by omega)) dM_valueOf_5 ?_
  refine W.eq (g2 := F0 m 6 ls [.int (ms.2.2.2.2.1 se)]) (congrArg (fun z => F0 m 6 ls (.int (ms.2.2.2.2.1 z) :: [])) (nI_clamp (n := se) (by omega))) ?_
  refine lv_iconst (v := (3 : Int32)) hx hb dM_valueOf_6 (by decide) ?_
  refine lv_icmp_lt (tgt := 23) hx hb dM_valueOf_7 (by decide) (fun h1 => ?_) (fun h1 => ?_)
  · -- taken at 7
    refine lv_aload_n hx hb dM_valueOf_23 rfl (lv_at hl 0 rfl) ?_
    refine gfM_40 hx hb hts hown hN hK hP 0 rfl (v := .ref (bd 9)) rfl dM_valueOf_24 ?_
    refine lv_iload_n hx hb dM_valueOf_27 rfl (lv_at hl 1 rfl) ?_
    refine va_zald hx hb hK hP 9 0 rfl rfl (vp_in_nI (n := se) (N := 2) (by omega) (by omega)) dM_valueOf_28 ?_
    refine W.eq (g2 := F0 m 29 ls [.int (ms.2.2.1 se)]) (congrArg (fun z => F0 m 29 ls (.int (ms.2.2.1 z) :: [])) (nI_clamp (n := se) (by omega))) ?_
    refine lv_if_ne (tgt := 45) hx hb dM_valueOf_29 (by decide) (fun h2 => ?_) (fun h2 => ?_)
    · -- taken at 29
      refine lv_aload_n hx hb dM_valueOf_45 rfl (lv_at hl 0 rfl) ?_
      refine gfM_43 hx hb hts hown hN hK hP 0 rfl (v := .ref (bd 10)) rfl dM_valueOf_46 ?_
      refine lv_iload_n hx hb dM_valueOf_49 rfl (lv_at hl 1 rfl) ?_
      refine va_iald hx hb hK hP 10 1 rfl rfl (vp_in_nI (n := se) (N := 2) (by omega) (by omega)) dM_valueOf_50 ?_
      refine W.eq (g2 := F0 m 51 ls [.int (ms.2.2.2.1 se)]) (congrArg (fun z => F0 m 51 ls (.int (ms.2.2.2.1 z) :: [])) (nI_clamp (n := se) (by omega))) ?_
      refine lv_istore_n (lv' := [(2, .int (ms.2.2.2.1 se)), (0, .ref (bd 0)), (1, .int (nI se))]) hx hb dM_valueOf_51 rfl hl (by decide) rfl (fun ls hl => ?_)
      refine lv_iload_n hx hb dM_valueOf_52 rfl (lv_at hl 2 rfl) ?_
      refine lv_if_ne (tgt := 58) hx hb dM_valueOf_53 (by decide) (fun h3 => ?_) (fun h3 => ?_)
      · -- taken at 53
        refine lv_iload_n hx hb dM_valueOf_58 rfl (lv_at hl 0 rfl) ?_
        refine lv_sipush (v := (256 : Int32)) hx hb dM_valueOf_59 (by decide) ?_
        refine lv_idiv hx hb dM_valueOf_62 (by decide) ?_
        refine lv_istore_n (lv' := [(3, .int ((ms.2.2.2.1 se) / (256 : Int32))), (2, .int (ms.2.2.2.1 se)), (0, .ref (bd 0)), (1, .int (nI se))]) hx hb dM_valueOf_63 rfl hl (by decide) rfl (fun ls hl => ?_)
        refine lv_iload_n hx hb dM_valueOf_64 rfl (lv_at hl 0 rfl) ?_
        refine lv_iconst (v := (1 : Int32)) hx hb dM_valueOf_65 (by decide) ?_
        refine lv_iadd hx hb dM_valueOf_66 ?_
        refine k_ca0 (wc := []) (wr := [cMd bd k mc mw me mo, cIa cI (bd 1) 128 mp, cZa cZ (bd 2) 30 me.1, cJa cJ (bd 3) 30 me.2.1, cIa cI (bd 4) 30 me.2.2.1, cZa cZ (bd 5) 6 mo.1, cZa cZ (bd 6) 6 mo.2.1, cZa cZ (bd 7) 2 ms.1, cIa cI (bd 8) 2 ms.2.1, cZa cZ (bd 9) 2 ms.2.2.1, cIa cI (bd 10) 2 ms.2.2.2.1, cIa cI (bd 11) 2 ms.2.2.2.2.1, cZa cZ (bd 12) 2 ms.2.2.2.2.2.1, cJa cJ (bd 13) 6 ms.2.2.2.2.2.2, cJa cJ (bd 14) 16 mo.2.2.1]) (va_runS (As := [.int (((ms.2.2.2.1 se) / (256 : Int32)) + (1 : Int32))]) (rest := []) ⟨hx, hb, hml, hown, hts⟩ (ctM_corner l D cZ cI cJ tL tH H.size (((ms.2.2.2.1 se) / (256 : Int32)) + (1 : Int32))) (cwM_104 hts hN rfl rfl ⟨Nat.le_of_ble_eq_true rfl, Nat.le_of_ble_eq_true rfl⟩) (k_pre hK hN hT hA hS hP hD [] rfl (by decide)) rfl rfl hl.1 rfl (lv_room (Nat.le_of_ble_eq_true rfl)) dM_valueOf_67 ⟨Nat.zero_le _, Nat.zero_le _⟩) hP hD hS hA [] [0, 1, 2, 3, 4, 5, 6, 7, 8, 9, 10, 11, 12, 13, 14] rfl rfl (by decide) (by decide) (fun _ H locs hP hD hS => ?_)
        refine W.eq (g2 := F0 m 70 ls [.int (fM_corner (((ms.2.2.2.1 se) / (256 : Int32)) + (1 : Int32)))]) rfl ?_
        have hP : va_P D vwCl [cMd bd k mc mw me mo, cIa cI (bd 1) 128 mp, cZa cZ (bd 2) 30 me.1, cJa cJ (bd 3) 30 me.2.1, cIa cI (bd 4) 30 me.2.2.1, cZa cZ (bd 5) 6 mo.1, cZa cZ (bd 6) 6 mo.2.1, cZa cZ (bd 7) 2 ms.1, cIa cI (bd 8) 2 ms.2.1, cZa cZ (bd 9) 2 ms.2.2.1, cIa cI (bd 10) 2 ms.2.2.2.1, cIa cI (bd 11) 2 ms.2.2.2.2.1, cZa cZ (bd 12) 2 ms.2.2.2.2.2.1, cJa cJ (bd 13) 6 ms.2.2.2.2.2.2, cJa cJ (bd 14) 16 mo.2.2.1] H := hP
        have hD : va_D A [cMd bd k mc mw me mo, cIa cI (bd 1) 128 mp, cZa cZ (bd 2) 30 me.1, cJa cJ (bd 3) 30 me.2.1, cIa cI (bd 4) 30 me.2.2.1, cZa cZ (bd 5) 6 mo.1, cZa cZ (bd 6) 6 mo.2.1, cZa cZ (bd 7) 2 ms.1, cIa cI (bd 8) 2 ms.2.1, cZa cZ (bd 9) 2 ms.2.2.1, cIa cI (bd 10) 2 ms.2.2.2.1, cIa cI (bd 11) 2 ms.2.2.2.2.1, cZa cZ (bd 12) 2 ms.2.2.2.2.2.1, cJa cJ (bd 13) 6 ms.2.2.2.2.2.2, cJa cJ (bd 14) 16 mo.2.2.1] := hD
        generalize hq4 : fM_corner (((ms.2.2.2.1 se) / (256 : Int32)) + (1 : Int32)) = q4 at ⊢
        refine lv_iload_n hx hb dM_valueOf_70 rfl (lv_at hl 0 rfl) ?_
        refine k_ca0 (wc := []) (wr := [cMd bd k mc mw me mo, cIa cI (bd 1) 128 mp, cZa cZ (bd 2) 30 me.1, cJa cJ (bd 3) 30 me.2.1, cIa cI (bd 4) 30 me.2.2.1, cZa cZ (bd 5) 6 mo.1, cZa cZ (bd 6) 6 mo.2.1, cZa cZ (bd 7) 2 ms.1, cIa cI (bd 8) 2 ms.2.1, cZa cZ (bd 9) 2 ms.2.2.1, cIa cI (bd 10) 2 ms.2.2.2.1, cIa cI (bd 11) 2 ms.2.2.2.2.1, cZa cZ (bd 12) 2 ms.2.2.2.2.2.1, cJa cJ (bd 13) 6 ms.2.2.2.2.2.2, cJa cJ (bd 14) 16 mo.2.2.1]) (va_runS (As := [.int ((ms.2.2.2.1 se) / (256 : Int32))]) (rest := [.int q4]) ⟨hx, hb, hml, hown, hts⟩ (ctM_corner l D cZ cI cJ tL tH H.size ((ms.2.2.2.1 se) / (256 : Int32))) (cwM_104 hts hN rfl rfl ⟨Nat.le_of_ble_eq_true rfl, Nat.le_of_ble_eq_true rfl⟩) (k_pre hK hN hT hA hS hP hD [] rfl (by decide)) rfl rfl hl.1 rfl (lv_room (Nat.le_of_ble_eq_true rfl)) dM_valueOf_71 ⟨Nat.zero_le _, Nat.zero_le _⟩) hP hD hS hA [] [0, 1, 2, 3, 4, 5, 6, 7, 8, 9, 10, 11, 12, 13, 14] rfl rfl (by decide) (by decide) (fun _ H locs hP hD hS => ?_)
        refine W.eq (g2 := F0 m 74 ls [.int (fM_corner ((ms.2.2.2.1 se) / (256 : Int32))), .int q4]) rfl ?_
        have hP : va_P D vwCl [cMd bd k mc mw me mo, cIa cI (bd 1) 128 mp, cZa cZ (bd 2) 30 me.1, cJa cJ (bd 3) 30 me.2.1, cIa cI (bd 4) 30 me.2.2.1, cZa cZ (bd 5) 6 mo.1, cZa cZ (bd 6) 6 mo.2.1, cZa cZ (bd 7) 2 ms.1, cIa cI (bd 8) 2 ms.2.1, cZa cZ (bd 9) 2 ms.2.2.1, cIa cI (bd 10) 2 ms.2.2.2.1, cIa cI (bd 11) 2 ms.2.2.2.2.1, cZa cZ (bd 12) 2 ms.2.2.2.2.2.1, cJa cJ (bd 13) 6 ms.2.2.2.2.2.2, cJa cJ (bd 14) 16 mo.2.2.1] H := hP
        have hD : va_D A [cMd bd k mc mw me mo, cIa cI (bd 1) 128 mp, cZa cZ (bd 2) 30 me.1, cJa cJ (bd 3) 30 me.2.1, cIa cI (bd 4) 30 me.2.2.1, cZa cZ (bd 5) 6 mo.1, cZa cZ (bd 6) 6 mo.2.1, cZa cZ (bd 7) 2 ms.1, cIa cI (bd 8) 2 ms.2.1, cZa cZ (bd 9) 2 ms.2.2.1, cIa cI (bd 10) 2 ms.2.2.2.1, cIa cI (bd 11) 2 ms.2.2.2.2.1, cZa cZ (bd 12) 2 ms.2.2.2.2.2.1, cJa cJ (bd 13) 6 ms.2.2.2.2.2.2, cJa cJ (bd 14) 16 mo.2.2.1] := hD
        generalize hq5 : fM_corner ((ms.2.2.2.1 se) / (256 : Int32)) = q5 at ⊢
        refine lv_isub hx hb dM_valueOf_74 ?_
        refine lv_istore (lv' := [(4, .int (q4 - q5)), (3, .int ((ms.2.2.2.1 se) / (256 : Int32))), (2, .int (ms.2.2.2.1 se)), (0, .ref (bd 0)), (1, .int (nI se))]) hx hb dM_valueOf_75 hl (by decide) rfl (fun ls hl => ?_)
        refine lv_iload_n hx hb dM_valueOf_77 rfl (lv_at hl 1 rfl) ?_
        refine k_ca0 (wc := []) (wr := [cMd bd k mc mw me mo, cIa cI (bd 1) 128 mp, cZa cZ (bd 2) 30 me.1, cJa cJ (bd 3) 30 me.2.1, cIa cI (bd 4) 30 me.2.2.1, cZa cZ (bd 5) 6 mo.1, cZa cZ (bd 6) 6 mo.2.1, cZa cZ (bd 7) 2 ms.1, cIa cI (bd 8) 2 ms.2.1, cZa cZ (bd 9) 2 ms.2.2.1, cIa cI (bd 10) 2 ms.2.2.2.1, cIa cI (bd 11) 2 ms.2.2.2.2.1, cZa cZ (bd 12) 2 ms.2.2.2.2.2.1, cJa cJ (bd 13) 6 ms.2.2.2.2.2.2, cJa cJ (bd 14) 16 mo.2.2.1]) (va_runS (As := [.int ((ms.2.2.2.1 se) / (256 : Int32))]) (rest := []) ⟨hx, hb, hml, hown, hts⟩ (ctM_corner l D cZ cI cJ tL tH H.size ((ms.2.2.2.1 se) / (256 : Int32))) (cwM_104 hts hN rfl rfl ⟨Nat.le_of_ble_eq_true rfl, Nat.le_of_ble_eq_true rfl⟩) (k_pre hK hN hT hA hS hP hD [] rfl (by decide)) rfl rfl hl.1 rfl (lv_room (Nat.le_of_ble_eq_true rfl)) dM_valueOf_78 ⟨Nat.zero_le _, Nat.zero_le _⟩) hP hD hS hA [] [0, 1, 2, 3, 4, 5, 6, 7, 8, 9, 10, 11, 12, 13, 14] rfl rfl (by decide) (by decide) (fun _ H locs hP hD hS => ?_)
        refine W.eq (g2 := F0 m 81 ls [.int (fM_corner ((ms.2.2.2.1 se) / (256 : Int32)))]) rfl ?_
        have hP : va_P D vwCl [cMd bd k mc mw me mo, cIa cI (bd 1) 128 mp, cZa cZ (bd 2) 30 me.1, cJa cJ (bd 3) 30 me.2.1, cIa cI (bd 4) 30 me.2.2.1, cZa cZ (bd 5) 6 mo.1, cZa cZ (bd 6) 6 mo.2.1, cZa cZ (bd 7) 2 ms.1, cIa cI (bd 8) 2 ms.2.1, cZa cZ (bd 9) 2 ms.2.2.1, cIa cI (bd 10) 2 ms.2.2.2.1, cIa cI (bd 11) 2 ms.2.2.2.2.1, cZa cZ (bd 12) 2 ms.2.2.2.2.2.1, cJa cJ (bd 13) 6 ms.2.2.2.2.2.2, cJa cJ (bd 14) 16 mo.2.2.1] H := hP
        have hD : va_D A [cMd bd k mc mw me mo, cIa cI (bd 1) 128 mp, cZa cZ (bd 2) 30 me.1, cJa cJ (bd 3) 30 me.2.1, cIa cI (bd 4) 30 me.2.2.1, cZa cZ (bd 5) 6 mo.1, cZa cZ (bd 6) 6 mo.2.1, cZa cZ (bd 7) 2 ms.1, cIa cI (bd 8) 2 ms.2.1, cZa cZ (bd 9) 2 ms.2.2.1, cIa cI (bd 10) 2 ms.2.2.2.1, cIa cI (bd 11) 2 ms.2.2.2.2.1, cZa cZ (bd 12) 2 ms.2.2.2.2.2.1, cJa cJ (bd 13) 6 ms.2.2.2.2.2.2, cJa cJ (bd 14) 16 mo.2.2.1] := hD
        rw [hq5] at ⊢
        have hP : va_P D vwCl [cMd bd k mc mw me mo, cIa cI (bd 1) 128 mp, cZa cZ (bd 2) 30 me.1, cJa cJ (bd 3) 30 me.2.1, cIa cI (bd 4) 30 me.2.2.1, cZa cZ (bd 5) 6 mo.1, cZa cZ (bd 6) 6 mo.2.1, cZa cZ (bd 7) 2 ms.1, cIa cI (bd 8) 2 ms.2.1, cZa cZ (bd 9) 2 ms.2.2.1, cIa cI (bd 10) 2 ms.2.2.2.1, cIa cI (bd 11) 2 ms.2.2.2.2.1, cZa cZ (bd 12) 2 ms.2.2.2.2.2.1, cJa cJ (bd 13) 6 ms.2.2.2.2.2.2, cJa cJ (bd 14) 16 mo.2.2.1] H := hP
        have hD : va_D A [cMd bd k mc mw me mo, cIa cI (bd 1) 128 mp, cZa cZ (bd 2) 30 me.1, cJa cJ (bd 3) 30 me.2.1, cIa cI (bd 4) 30 me.2.2.1, cZa cZ (bd 5) 6 mo.1, cZa cZ (bd 6) 6 mo.2.1, cZa cZ (bd 7) 2 ms.1, cIa cI (bd 8) 2 ms.2.1, cZa cZ (bd 9) 2 ms.2.2.1, cIa cI (bd 10) 2 ms.2.2.2.1, cIa cI (bd 11) 2 ms.2.2.2.2.1, cZa cZ (bd 12) 2 ms.2.2.2.2.2.1, cJa cJ (bd 13) 6 ms.2.2.2.2.2.2, cJa cJ (bd 14) 16 mo.2.2.1] := hD
        refine lv_iload hx hb dM_valueOf_81 (lv_at hl 0 rfl) ?_
        refine lv_iload_n hx hb dM_valueOf_83 rfl (lv_at hl 2 rfl) ?_
        refine lv_sipush (v := (256 : Int32)) hx hb dM_valueOf_84 (by decide) ?_
        refine lv_irem hx hb dM_valueOf_87 (by decide) ?_
        refine lv_imul hx hb dM_valueOf_88 ?_
        refine lv_sipush (v := (256 : Int32)) hx hb dM_valueOf_89 (by decide) ?_
        refine k_ca0 (wc := []) (wr := [cMd bd k mc mw me mo, cIa cI (bd 1) 128 mp, cZa cZ (bd 2) 30 me.1, cJa cJ (bd 3) 30 me.2.1, cIa cI (bd 4) 30 me.2.2.1, cZa cZ (bd 5) 6 mo.1, cZa cZ (bd 6) 6 mo.2.1, cZa cZ (bd 7) 2 ms.1, cIa cI (bd 8) 2 ms.2.1, cZa cZ (bd 9) 2 ms.2.2.1, cIa cI (bd 10) 2 ms.2.2.2.1, cIa cI (bd 11) 2 ms.2.2.2.2.1, cZa cZ (bd 12) 2 ms.2.2.2.2.2.1, cJa cJ (bd 13) 6 ms.2.2.2.2.2.2, cJa cJ (bd 14) 16 mo.2.2.1]) (va_runS (As := [.int ((q4 - q5) * ((ms.2.2.2.1 se) - (ms.2.2.2.1 se) / (256 : Int32) * (256 : Int32))), .int (256 : Int32)]) (rest := [.int q5]) ⟨hx, hb, hml, hown, hts⟩ (ctM_down l D cZ cI cJ tL tH H.size ((q4 - q5) * ((ms.2.2.2.1 se) - (ms.2.2.2.1 se) / (256 : Int32) * (256 : Int32))) (256 : Int32) (by decide)) (cwM_107 hts hN rfl rfl ⟨Nat.le_of_ble_eq_true rfl, Nat.le_of_ble_eq_true rfl⟩) (k_pre hK hN hT hA hS hP hD [] rfl (by decide)) rfl rfl hl.1 rfl (lv_room (Nat.le_of_ble_eq_true rfl)) dM_valueOf_92 ⟨Nat.zero_le _, Nat.zero_le _⟩) hP hD hS hA [] [0, 1, 2, 3, 4, 5, 6, 7, 8, 9, 10, 11, 12, 13, 14] rfl rfl (by decide) (by decide) (fun _ H locs hP hD hS => ?_)
        refine W.eq (g2 := F0 m 95 ls [.int (fM_down ((q4 - q5) * ((ms.2.2.2.1 se) - (ms.2.2.2.1 se) / (256 : Int32) * (256 : Int32))) (256 : Int32)), .int q5]) rfl ?_
        have hP : va_P D vwCl [cMd bd k mc mw me mo, cIa cI (bd 1) 128 mp, cZa cZ (bd 2) 30 me.1, cJa cJ (bd 3) 30 me.2.1, cIa cI (bd 4) 30 me.2.2.1, cZa cZ (bd 5) 6 mo.1, cZa cZ (bd 6) 6 mo.2.1, cZa cZ (bd 7) 2 ms.1, cIa cI (bd 8) 2 ms.2.1, cZa cZ (bd 9) 2 ms.2.2.1, cIa cI (bd 10) 2 ms.2.2.2.1, cIa cI (bd 11) 2 ms.2.2.2.2.1, cZa cZ (bd 12) 2 ms.2.2.2.2.2.1, cJa cJ (bd 13) 6 ms.2.2.2.2.2.2, cJa cJ (bd 14) 16 mo.2.2.1] H := hP
        have hD : va_D A [cMd bd k mc mw me mo, cIa cI (bd 1) 128 mp, cZa cZ (bd 2) 30 me.1, cJa cJ (bd 3) 30 me.2.1, cIa cI (bd 4) 30 me.2.2.1, cZa cZ (bd 5) 6 mo.1, cZa cZ (bd 6) 6 mo.2.1, cZa cZ (bd 7) 2 ms.1, cIa cI (bd 8) 2 ms.2.1, cZa cZ (bd 9) 2 ms.2.2.1, cIa cI (bd 10) 2 ms.2.2.2.1, cIa cI (bd 11) 2 ms.2.2.2.2.1, cZa cZ (bd 12) 2 ms.2.2.2.2.2.1, cJa cJ (bd 13) 6 ms.2.2.2.2.2.2, cJa cJ (bd 14) 16 mo.2.2.1] := hD
        generalize hq6 : fM_down ((q4 - q5) * ((ms.2.2.2.1 se) - (ms.2.2.2.1 se) / (256 : Int32) * (256 : Int32))) (256 : Int32) = q6 at ⊢
        refine lv_iadd hx hb dM_valueOf_95 ?_
        exact k_iret hx hb hr hlk hP hD hS dM_valueOf_96 () (by simp only [fM_valueOf, if_pos h1, if_neg h2, if_neg h3, hq4, hq5, hq6]) rfl
      · -- not taken at 53
        refine lv_iload_n hx hb dM_valueOf_56 rfl (lv_at hl 0 rfl) ?_
        exact k_iret hx hb hr hlk hP hD hS dM_valueOf_57 () (by simp only [fM_valueOf, if_pos h1, if_neg h2, if_pos h3]) rfl
    · -- not taken at 29
      refine lv_iload_n hx hb dM_valueOf_32 rfl (lv_at hl 1 rfl) ?_
      refine lv_if_ne (tgt := 42) hx hb dM_valueOf_33 (by decide) (fun h7 => ?_) (fun h7 => ?_)
      · -- taken at 33
        refine lv_bipush (v := (60 : Int32)) hx hb dM_valueOf_42 (by decide) ?_
        exact k_iret hx hb hr hlk hP hD hS dM_valueOf_44 () (by simp only [fM_valueOf, if_pos h1, if_pos h2, if_neg h7]) rfl
      · -- not taken at 33
        refine lv_sipush (v := (512 : Int32)) hx hb dM_valueOf_36 (by decide) ?_
        refine lv_goto (tgt := 44) hx hb dM_valueOf_39 (by decide) ?_
        exact k_iret hx hb hr hlk hP hD hS dM_valueOf_44 () (by simp only [fM_valueOf, if_pos h1, if_pos h2, if_pos h7]) rfl
  · -- not taken at 7
    refine lv_iload_n hx hb dM_valueOf_10 rfl (lv_at hl 1 rfl) ?_
    refine lv_if_ne (tgt := 20) hx hb dM_valueOf_11 (by decide) (fun h8 => ?_) (fun h8 => ?_)
    · -- taken at 11
      refine lv_bipush (v := (80 : Int32)) hx hb dM_valueOf_20 (by decide) ?_
      exact k_iret hx hb hr hlk hP hD hS dM_valueOf_22 () (by simp only [fM_valueOf, if_neg h1, if_neg h8]) rfl
    · -- not taken at 11
      refine lv_sipush (v := (400 : Int32)) hx hb dM_valueOf_14 (by decide) ?_
      refine lv_goto (tgt := 22) hx hb dM_valueOf_17 (by decide) ?_
      exact k_iret hx hb hr hlk hP hD hS dM_valueOf_22 () (by simp only [fM_valueOf, if_neg h1, if_pos h8]) rfl

def fM_present (k : Nat) (mc : McT) (mw : MwT) (mp : MpT) (me : MeT) (mo : MoT) (ms : MsT) (ch : Int32) : Int32 :=
  if mw.2.2.2.1 = (0 : Int64) then
    let q6 := fM_valueOf k mc mw mp me mo ms 0
    let q7 := fM_look k mc mw mp me mo ms ch ((0 : Int64).toInt32) (((7 : Int32) * q6) / (4 : Int32))
    q7
  else
    let q2 := fM_valueOf k mc mw mp me mo ms 0
    if ((200000 : Int64) / mw.2.2.2.1) ≤ (1791 : Int64) then
      let q4 := fM_look k mc mw mp me mo ms ch (((200000 : Int64) / mw.2.2.2.1).toInt32) (((7 : Int32) * q2) / (4 : Int32))
      q4
    else
      let q5 := fM_look k mc mw mp me mo ms ch (1791 : Int32) (((7 : Int32) * q2) / (4 : Int32))
      q5
set_option maxRecDepth 100000 in
set_option maxHeartbeats 4000000 in
theorem ctM_present (l : Launch) (D : va_G) (cZ cI cJ : ClassId) (tL tH : Nat) (sz : Nat) (bd : Nat → Nat) (k : Nat) (mc : McT) (mw : MwT) (mp : MpT) (me : MeT) (mo : MoT) (ms : MsT) (ch : Int32)  (hk : 0 < k ∧ k ≤ 6) : Ct l yM_present wM_present ({ frames := 2, cells := 0, slots := 0, locals := 54 }) D (tyG cZ cI cJ) tL tH [.ref (bd 0), .int ch] sz [cMd bd k mc mw me mo, cIa cI (bd 1) 128 mp, cZa cZ (bd 2) 30 me.1, cJa cJ (bd 3) 30 me.2.1, cIa cI (bd 4) 30 me.2.2.1, cZa cZ (bd 5) 6 mo.1, cZa cZ (bd 6) 6 mo.2.1, cZa cZ (bd 7) 2 ms.1, cIa cI (bd 8) 2 ms.2.1, cZa cZ (bd 9) 2 ms.2.2.1, cIa cI (bd 10) 2 ms.2.2.2.1, cIa cI (bd 11) 2 ms.2.2.2.2.1, cZa cZ (bd 12) 2 ms.2.2.2.2.2.1, cJa cJ (bd 13) 6 ms.2.2.2.2.2.2, cJa cJ (bd 14) 16 mo.2.2.1] (fun _ : Unit => some (.int (fM_present k mc mw mp me mo ms ch))) (fun _ : Unit => [cMd bd k mc mw me mo, cIa cI (bd 1) 128 mp, cZa cZ (bd 2) 30 me.1, cJa cJ (bd 3) 30 me.2.1, cIa cI (bd 4) 30 me.2.2.1, cZa cZ (bd 5) 6 mo.1, cZa cZ (bd 6) 6 mo.2.1, cZa cZ (bd 7) 2 ms.1, cIa cI (bd 8) 2 ms.2.1, cZa cZ (bd 9) 2 ms.2.2.1, cIa cI (bd 10) 2 ms.2.2.2.1, cIa cI (bd 11) 2 ms.2.2.2.2.1, cZa cZ (bd 12) 2 ms.2.2.2.2.2.1, cJa cJ (bd 13) 6 ms.2.2.2.2.2.2, cJa cJ (bd 14) 16 mo.2.2.1]) 0 0 := by
  refine k_go (by decide +kernel) (Nat.le_of_ble_eq_true rfl) ?_
  intro p e s m args below meth c A ls H hx hb hr hml hts hown hlk hnm hK hN hT hA hS hP hD hl
  have hown : s.vm.findClass "ToothWheelTimerModel" = some m.cls := hown
  have hlk : meth.locks = false := hlk
  have hl : lv_has ls 5 [(0, .ref (bd 0)), (1, .int ch)] := hl
  refine lv_aload_n hx hb dM_present_0 rfl (lv_at hl 0 rfl) ?_
  refine gfM_86 hx hb hts hown hN hK hP 0 rfl (v := .long mw.2.2.2.1) rfl dM_present_1 ?_
  refine lv_lconst (v := (0 : Int64)) hx hb dM_present_4 (by decide) ?_
  refine k_lc_ne (tgt := 13) hx hb dM_present_5 dM_present_6 (by decide) (fun h1 => ?_) (fun h1 => ?_)
  · -- taken at 5
    refine lv_ldc2 (v := (200000 : Int64)) hx hb hown (hts _ (wg wd_719 rfl)) dM_present_13 ?_
    refine lv_aload_n hx hb dM_present_16 rfl (lv_at hl 0 rfl) ?_
    refine gfM_86 hx hb hts hown hN hK hP 0 rfl (v := .long mw.2.2.2.1) rfl dM_present_17 ?_
    refine lv_ldiv hx hb dM_present_20 h1 ?_
    refine lv_lstore_n (lv' := [(2, .long ((200000 : Int64) / mw.2.2.2.1)), (0, .ref (bd 0)), (1, .int ch)]) hx hb dM_present_21 rfl hl (by decide) rfl (fun ls hl => ?_)
    refine lv_aload_n hx hb dM_present_22 rfl (lv_at hl 1 rfl) ?_
    refine lv_iconst (v := (0 : Int32)) hx hb dM_present_23 (by decide) ?_
    refine k_ca0 (wc := [cMd bd k mc mw me mo, cIa cI (bd 1) 128 mp, cZa cZ (bd 2) 30 me.1, cJa cJ (bd 3) 30 me.2.1, cIa cI (bd 4) 30 me.2.2.1, cZa cZ (bd 5) 6 mo.1, cZa cZ (bd 6) 6 mo.2.1, cZa cZ (bd 7) 2 ms.1, cIa cI (bd 8) 2 ms.2.1, cZa cZ (bd 9) 2 ms.2.2.1, cIa cI (bd 10) 2 ms.2.2.2.1, cIa cI (bd 11) 2 ms.2.2.2.2.1, cZa cZ (bd 12) 2 ms.2.2.2.2.2.1, cJa cJ (bd 13) 6 ms.2.2.2.2.2.2, cJa cJ (bd 14) 16 mo.2.2.1]) (wr := []) (va_runV (As := [.int (nI 0)]) (rest := []) ⟨hx, hb, hml, hown, hts⟩ (ctM_valueOf l D cZ cI cJ tL tH H.size bd k mc mw mp me mo ms 0 hk (by decide)) (cwM_92 hts hN rfl rfl ⟨Nat.le_of_ble_eq_true rfl, Nat.le_of_ble_eq_true rfl⟩) (k_preV hK hN hT hA hS hP hD [0, 1, 2, 3, 4, 5, 6, 7, 8, 9, 10, 11, 12, 13, 14] rfl (by decide) 0 rfl rfl) rfl rfl hl.1 rfl (lv_room (Nat.le_of_ble_eq_true rfl)) dM_present_24 ⟨Nat.zero_le _, Nat.zero_le _⟩) hP hD hS hA [0, 1, 2, 3, 4, 5, 6, 7, 8, 9, 10, 11, 12, 13, 14] [] rfl rfl (by decide) (by decide) (fun _ H locs hP hD hS => ?_)
    refine W.eq (g2 := F0 m 27 ls [.int (fM_valueOf k mc mw mp me mo ms 0)]) rfl ?_
    have hP : va_P D vwCl [cMd bd k mc mw me mo, cIa cI (bd 1) 128 mp, cZa cZ (bd 2) 30 me.1, cJa cJ (bd 3) 30 me.2.1, cIa cI (bd 4) 30 me.2.2.1, cZa cZ (bd 5) 6 mo.1, cZa cZ (bd 6) 6 mo.2.1, cZa cZ (bd 7) 2 ms.1, cIa cI (bd 8) 2 ms.2.1, cZa cZ (bd 9) 2 ms.2.2.1, cIa cI (bd 10) 2 ms.2.2.2.1, cIa cI (bd 11) 2 ms.2.2.2.2.1, cZa cZ (bd 12) 2 ms.2.2.2.2.2.1, cJa cJ (bd 13) 6 ms.2.2.2.2.2.2, cJa cJ (bd 14) 16 mo.2.2.1] H := hP
    have hD : va_D A [cMd bd k mc mw me mo, cIa cI (bd 1) 128 mp, cZa cZ (bd 2) 30 me.1, cJa cJ (bd 3) 30 me.2.1, cIa cI (bd 4) 30 me.2.2.1, cZa cZ (bd 5) 6 mo.1, cZa cZ (bd 6) 6 mo.2.1, cZa cZ (bd 7) 2 ms.1, cIa cI (bd 8) 2 ms.2.1, cZa cZ (bd 9) 2 ms.2.2.1, cIa cI (bd 10) 2 ms.2.2.2.1, cIa cI (bd 11) 2 ms.2.2.2.2.1, cZa cZ (bd 12) 2 ms.2.2.2.2.2.1, cJa cJ (bd 13) 6 ms.2.2.2.2.2.2, cJa cJ (bd 14) 16 mo.2.2.1] := hD
    generalize hq2 : fM_valueOf k mc mw mp me mo ms 0 = q2 at ⊢
    refine lv_istore (lv' := [(4, .int q2), (2, .long ((200000 : Int64) / mw.2.2.2.1)), (0, .ref (bd 0)), (1, .int ch)]) hx hb dM_present_27 hl (by decide) rfl (fun ls hl => ?_)
    refine lv_aload_n hx hb dM_present_29 rfl (lv_at hl 2 rfl) ?_
    refine lv_iload_n hx hb dM_present_30 rfl (lv_at hl 3 rfl) ?_
    refine lv_lload_n hx hb dM_present_31 rfl (lv_at hl 1 rfl) ?_
    refine lv_ldc2 (v := (1791 : Int64)) hx hb hown (hts _ (wg wd_720 rfl)) dM_present_32 ?_
    refine k_lc_le (tgt := 45) hx hb dM_present_35 dM_present_36 (by decide) (fun h3 => ?_) (fun h3 => ?_)
    · -- taken at 35
      refine lv_lload_n hx hb dM_present_45 rfl (lv_at hl 1 rfl) ?_
      refine lv_l2i hx hb dM_present_46 rfl ?_
      refine lv_bipush (v := (7 : Int32)) hx hb dM_present_47 (by decide) ?_
      refine lv_iload hx hb dM_present_49 (lv_at hl 0 rfl) ?_
      refine lv_imul hx hb dM_present_51 ?_
      refine lv_iconst (v := (4 : Int32)) hx hb dM_present_52 (by decide) ?_
      refine lv_idiv hx hb dM_present_53 (by decide) ?_
      refine k_ca0 (wc := [cMd bd k mc mw me mo, cIa cI (bd 1) 128 mp, cZa cZ (bd 2) 30 me.1, cJa cJ (bd 3) 30 me.2.1, cIa cI (bd 4) 30 me.2.2.1, cZa cZ (bd 5) 6 mo.1, cZa cZ (bd 6) 6 mo.2.1, cZa cZ (bd 7) 2 ms.1, cIa cI (bd 8) 2 ms.2.1, cZa cZ (bd 9) 2 ms.2.2.1, cIa cI (bd 10) 2 ms.2.2.2.1, cIa cI (bd 11) 2 ms.2.2.2.2.1, cZa cZ (bd 12) 2 ms.2.2.2.2.2.1, cJa cJ (bd 13) 6 ms.2.2.2.2.2.2, cJa cJ (bd 14) 16 mo.2.2.1]) (wr := []) (va_runV (As := [.int ch, .int (((200000 : Int64) / mw.2.2.2.1).toInt32), .int (((7 : Int32) * q2) / (4 : Int32))]) (rest := []) ⟨hx, hb, hml, hown, hts⟩ (ctM_look l D cZ cI cJ tL tH H.size bd k mc mw mp me mo ms ch (((200000 : Int64) / mw.2.2.2.1).toInt32) (((7 : Int32) * q2) / (4 : Int32)) hk) (cwM_98 hts hN rfl rfl ⟨Nat.le_of_ble_eq_true rfl, Nat.le_of_ble_eq_true rfl⟩) (k_preV hK hN hT hA hS hP hD [0, 1, 2, 3, 4, 5, 6, 7, 8, 9, 10, 11, 12, 13, 14] rfl (by decide) 0 rfl rfl) rfl rfl hl.1 rfl (lv_room (Nat.le_of_ble_eq_true rfl)) dM_present_54 ⟨Nat.zero_le _, Nat.zero_le _⟩) hP hD hS hA [0, 1, 2, 3, 4, 5, 6, 7, 8, 9, 10, 11, 12, 13, 14] [] rfl rfl (by decide) (by decide) (fun _ H locs hP hD hS => ?_)
      refine W.eq (g2 := F0 m 57 ls [.int (fM_look k mc mw mp me mo ms ch (((200000 : Int64) / mw.2.2.2.1).toInt32) (((7 : Int32) * q2) / (4 : Int32)))]) rfl ?_
      have hP : va_P D vwCl [cMd bd k mc mw me mo, cIa cI (bd 1) 128 mp, cZa cZ (bd 2) 30 me.1, cJa cJ (bd 3) 30 me.2.1, cIa cI (bd 4) 30 me.2.2.1, cZa cZ (bd 5) 6 mo.1, cZa cZ (bd 6) 6 mo.2.1, cZa cZ (bd 7) 2 ms.1, cIa cI (bd 8) 2 ms.2.1, cZa cZ (bd 9) 2 ms.2.2.1, cIa cI (bd 10) 2 ms.2.2.2.1, cIa cI (bd 11) 2 ms.2.2.2.2.1, cZa cZ (bd 12) 2 ms.2.2.2.2.2.1, cJa cJ (bd 13) 6 ms.2.2.2.2.2.2, cJa cJ (bd 14) 16 mo.2.2.1] H := hP
      have hD : va_D A [cMd bd k mc mw me mo, cIa cI (bd 1) 128 mp, cZa cZ (bd 2) 30 me.1, cJa cJ (bd 3) 30 me.2.1, cIa cI (bd 4) 30 me.2.2.1, cZa cZ (bd 5) 6 mo.1, cZa cZ (bd 6) 6 mo.2.1, cZa cZ (bd 7) 2 ms.1, cIa cI (bd 8) 2 ms.2.1, cZa cZ (bd 9) 2 ms.2.2.1, cIa cI (bd 10) 2 ms.2.2.2.1, cIa cI (bd 11) 2 ms.2.2.2.2.1, cZa cZ (bd 12) 2 ms.2.2.2.2.2.1, cJa cJ (bd 13) 6 ms.2.2.2.2.2.2, cJa cJ (bd 14) 16 mo.2.2.1] := hD
      generalize hq4 : fM_look k mc mw mp me mo ms ch (((200000 : Int64) / mw.2.2.2.1).toInt32) (((7 : Int32) * q2) / (4 : Int32)) = q4 at ⊢
      exact k_iret hx hb hr hlk hP hD hS dM_present_57 () (by simp only [fM_present, if_neg h1, hq2, if_pos h3, hq4]) rfl
    · -- not taken at 35
      refine lv_sipush (v := (1791 : Int32)) hx hb dM_present_39 (by decide) ?_
      refine lv_goto (tgt := 47) hx hb dM_present_42 (by decide) ?_
      refine lv_bipush (v := (7 : Int32)) hx hb dM_present_47 (by decide) ?_
      refine lv_iload hx hb dM_present_49 (lv_at hl 0 rfl) ?_
      refine lv_imul hx hb dM_present_51 ?_
      refine lv_iconst (v := (4 : Int32)) hx hb dM_present_52 (by decide) ?_
      refine lv_idiv hx hb dM_present_53 (by decide) ?_
      refine k_ca0 (wc := [cMd bd k mc mw me mo, cIa cI (bd 1) 128 mp, cZa cZ (bd 2) 30 me.1, cJa cJ (bd 3) 30 me.2.1, cIa cI (bd 4) 30 me.2.2.1, cZa cZ (bd 5) 6 mo.1, cZa cZ (bd 6) 6 mo.2.1, cZa cZ (bd 7) 2 ms.1, cIa cI (bd 8) 2 ms.2.1, cZa cZ (bd 9) 2 ms.2.2.1, cIa cI (bd 10) 2 ms.2.2.2.1, cIa cI (bd 11) 2 ms.2.2.2.2.1, cZa cZ (bd 12) 2 ms.2.2.2.2.2.1, cJa cJ (bd 13) 6 ms.2.2.2.2.2.2, cJa cJ (bd 14) 16 mo.2.2.1]) (wr := []) (va_runV (As := [.int ch, .int (1791 : Int32), .int (((7 : Int32) * q2) / (4 : Int32))]) (rest := []) ⟨hx, hb, hml, hown, hts⟩ (ctM_look l D cZ cI cJ tL tH H.size bd k mc mw mp me mo ms ch (1791 : Int32) (((7 : Int32) * q2) / (4 : Int32)) hk) (cwM_98 hts hN rfl rfl ⟨Nat.le_of_ble_eq_true rfl, Nat.le_of_ble_eq_true rfl⟩) (k_preV hK hN hT hA hS hP hD [0, 1, 2, 3, 4, 5, 6, 7, 8, 9, 10, 11, 12, 13, 14] rfl (by decide) 0 rfl rfl) rfl rfl hl.1 rfl (lv_room (Nat.le_of_ble_eq_true rfl)) dM_present_54 ⟨Nat.zero_le _, Nat.zero_le _⟩) hP hD hS hA [0, 1, 2, 3, 4, 5, 6, 7, 8, 9, 10, 11, 12, 13, 14] [] rfl rfl (by decide) (by decide) (fun _ H locs hP hD hS => ?_)
      refine W.eq (g2 := F0 m 57 ls [.int (fM_look k mc mw mp me mo ms ch (1791 : Int32) (((7 : Int32) * q2) / (4 : Int32)))]) rfl ?_
      have hP : va_P D vwCl [cMd bd k mc mw me mo, cIa cI (bd 1) 128 mp, cZa cZ (bd 2) 30 me.1, cJa cJ (bd 3) 30 me.2.1, cIa cI (bd 4) 30 me.2.2.1, cZa cZ (bd 5) 6 mo.1, cZa cZ (bd 6) 6 mo.2.1, cZa cZ (bd 7) 2 ms.1, cIa cI (bd 8) 2 ms.2.1, cZa cZ (bd 9) 2 ms.2.2.1, cIa cI (bd 10) 2 ms.2.2.2.1, cIa cI (bd 11) 2 ms.2.2.2.2.1, cZa cZ (bd 12) 2 ms.2.2.2.2.2.1, cJa cJ (bd 13) 6 ms.2.2.2.2.2.2, cJa cJ (bd 14) 16 mo.2.2.1] H := hP
      have hD : va_D A [cMd bd k mc mw me mo, cIa cI (bd 1) 128 mp, cZa cZ (bd 2) 30 me.1, cJa cJ (bd 3) 30 me.2.1, cIa cI (bd 4) 30 me.2.2.1, cZa cZ (bd 5) 6 mo.1, cZa cZ (bd 6) 6 mo.2.1, cZa cZ (bd 7) 2 ms.1, cIa cI (bd 8) 2 ms.2.1, cZa cZ (bd 9) 2 ms.2.2.1, cIa cI (bd 10) 2 ms.2.2.2.1, cIa cI (bd 11) 2 ms.2.2.2.2.1, cZa cZ (bd 12) 2 ms.2.2.2.2.2.1, cJa cJ (bd 13) 6 ms.2.2.2.2.2.2, cJa cJ (bd 14) 16 mo.2.2.1] := hD
      generalize hq5 : fM_look k mc mw mp me mo ms ch (1791 : Int32) (((7 : Int32) * q2) / (4 : Int32)) = q5 at ⊢
      exact k_iret hx hb hr hlk hP hD hS dM_present_57 () (by simp only [fM_present, if_neg h1, hq2, if_neg h3, hq5]) rfl
  · -- not taken at 5
    refine lv_lconst (v := (0 : Int64)) hx hb dM_present_9 (by decide) ?_
    refine lv_goto (tgt := 21) hx hb dM_present_10 (by decide) ?_
    refine lv_lstore_n (lv' := [(2, .long (0 : Int64)), (0, .ref (bd 0)), (1, .int ch)]) hx hb dM_present_21 rfl hl (by decide) rfl (fun ls hl => ?_)
    refine lv_aload_n hx hb dM_present_22 rfl (lv_at hl 1 rfl) ?_
    refine lv_iconst (v := (0 : Int32)) hx hb dM_present_23 (by decide) ?_
    refine k_ca0 (wc := [cMd bd k mc mw me mo, cIa cI (bd 1) 128 mp, cZa cZ (bd 2) 30 me.1, cJa cJ (bd 3) 30 me.2.1, cIa cI (bd 4) 30 me.2.2.1, cZa cZ (bd 5) 6 mo.1, cZa cZ (bd 6) 6 mo.2.1, cZa cZ (bd 7) 2 ms.1, cIa cI (bd 8) 2 ms.2.1, cZa cZ (bd 9) 2 ms.2.2.1, cIa cI (bd 10) 2 ms.2.2.2.1, cIa cI (bd 11) 2 ms.2.2.2.2.1, cZa cZ (bd 12) 2 ms.2.2.2.2.2.1, cJa cJ (bd 13) 6 ms.2.2.2.2.2.2, cJa cJ (bd 14) 16 mo.2.2.1]) (wr := []) (va_runV (As := [.int (nI 0)]) (rest := []) ⟨hx, hb, hml, hown, hts⟩ (ctM_valueOf l D cZ cI cJ tL tH H.size bd k mc mw mp me mo ms 0 hk (by decide)) (cwM_92 hts hN rfl rfl ⟨Nat.le_of_ble_eq_true rfl, Nat.le_of_ble_eq_true rfl⟩) (k_preV hK hN hT hA hS hP hD [0, 1, 2, 3, 4, 5, 6, 7, 8, 9, 10, 11, 12, 13, 14] rfl (by decide) 0 rfl rfl) rfl rfl hl.1 rfl (lv_room (Nat.le_of_ble_eq_true rfl)) dM_present_24 ⟨Nat.zero_le _, Nat.zero_le _⟩) hP hD hS hA [0, 1, 2, 3, 4, 5, 6, 7, 8, 9, 10, 11, 12, 13, 14] [] rfl rfl (by decide) (by decide) (fun _ H locs hP hD hS => ?_)
    refine W.eq (g2 := F0 m 27 ls [.int (fM_valueOf k mc mw mp me mo ms 0)]) rfl ?_
    have hP : va_P D vwCl [cMd bd k mc mw me mo, cIa cI (bd 1) 128 mp, cZa cZ (bd 2) 30 me.1, cJa cJ (bd 3) 30 me.2.1, cIa cI (bd 4) 30 me.2.2.1, cZa cZ (bd 5) 6 mo.1, cZa cZ (bd 6) 6 mo.2.1, cZa cZ (bd 7) 2 ms.1, cIa cI (bd 8) 2 ms.2.1, cZa cZ (bd 9) 2 ms.2.2.1, cIa cI (bd 10) 2 ms.2.2.2.1, cIa cI (bd 11) 2 ms.2.2.2.2.1, cZa cZ (bd 12) 2 ms.2.2.2.2.2.1, cJa cJ (bd 13) 6 ms.2.2.2.2.2.2, cJa cJ (bd 14) 16 mo.2.2.1] H := hP
    have hD : va_D A [cMd bd k mc mw me mo, cIa cI (bd 1) 128 mp, cZa cZ (bd 2) 30 me.1, cJa cJ (bd 3) 30 me.2.1, cIa cI (bd 4) 30 me.2.2.1, cZa cZ (bd 5) 6 mo.1, cZa cZ (bd 6) 6 mo.2.1, cZa cZ (bd 7) 2 ms.1, cIa cI (bd 8) 2 ms.2.1, cZa cZ (bd 9) 2 ms.2.2.1, cIa cI (bd 10) 2 ms.2.2.2.1, cIa cI (bd 11) 2 ms.2.2.2.2.1, cZa cZ (bd 12) 2 ms.2.2.2.2.2.1, cJa cJ (bd 13) 6 ms.2.2.2.2.2.2, cJa cJ (bd 14) 16 mo.2.2.1] := hD
    generalize hq6 : fM_valueOf k mc mw mp me mo ms 0 = q6 at ⊢
    refine lv_istore (lv' := [(4, .int q6), (2, .long (0 : Int64)), (0, .ref (bd 0)), (1, .int ch)]) hx hb dM_present_27 hl (by decide) rfl (fun ls hl => ?_)
    refine lv_aload_n hx hb dM_present_29 rfl (lv_at hl 2 rfl) ?_
    refine lv_iload_n hx hb dM_present_30 rfl (lv_at hl 3 rfl) ?_
    refine lv_lload_n hx hb dM_present_31 rfl (lv_at hl 1 rfl) ?_
    refine lv_ldc2 (v := (1791 : Int64)) hx hb hown (hts _ (wg wd_720 rfl)) dM_present_32 ?_
    refine k_lc_le (tgt := 45) hx hb dM_present_35 dM_present_36 (by decide) (fun _ => ?_) (fun h0 => absurd (by decide) h0)
    refine lv_lload_n hx hb dM_present_45 rfl (lv_at hl 1 rfl) ?_
    refine lv_l2i hx hb dM_present_46 rfl ?_
    refine lv_bipush (v := (7 : Int32)) hx hb dM_present_47 (by decide) ?_
    refine lv_iload hx hb dM_present_49 (lv_at hl 0 rfl) ?_
    refine lv_imul hx hb dM_present_51 ?_
    refine lv_iconst (v := (4 : Int32)) hx hb dM_present_52 (by decide) ?_
    refine lv_idiv hx hb dM_present_53 (by decide) ?_
    refine k_ca0 (wc := [cMd bd k mc mw me mo, cIa cI (bd 1) 128 mp, cZa cZ (bd 2) 30 me.1, cJa cJ (bd 3) 30 me.2.1, cIa cI (bd 4) 30 me.2.2.1, cZa cZ (bd 5) 6 mo.1, cZa cZ (bd 6) 6 mo.2.1, cZa cZ (bd 7) 2 ms.1, cIa cI (bd 8) 2 ms.2.1, cZa cZ (bd 9) 2 ms.2.2.1, cIa cI (bd 10) 2 ms.2.2.2.1, cIa cI (bd 11) 2 ms.2.2.2.2.1, cZa cZ (bd 12) 2 ms.2.2.2.2.2.1, cJa cJ (bd 13) 6 ms.2.2.2.2.2.2, cJa cJ (bd 14) 16 mo.2.2.1]) (wr := []) (va_runV (As := [.int ch, .int ((0 : Int64).toInt32), .int (((7 : Int32) * q6) / (4 : Int32))]) (rest := []) ⟨hx, hb, hml, hown, hts⟩ (ctM_look l D cZ cI cJ tL tH H.size bd k mc mw mp me mo ms ch ((0 : Int64).toInt32) (((7 : Int32) * q6) / (4 : Int32)) hk) (cwM_98 hts hN rfl rfl ⟨Nat.le_of_ble_eq_true rfl, Nat.le_of_ble_eq_true rfl⟩) (k_preV hK hN hT hA hS hP hD [0, 1, 2, 3, 4, 5, 6, 7, 8, 9, 10, 11, 12, 13, 14] rfl (by decide) 0 rfl rfl) rfl rfl hl.1 rfl (lv_room (Nat.le_of_ble_eq_true rfl)) dM_present_54 ⟨Nat.zero_le _, Nat.zero_le _⟩) hP hD hS hA [0, 1, 2, 3, 4, 5, 6, 7, 8, 9, 10, 11, 12, 13, 14] [] rfl rfl (by decide) (by decide) (fun _ H locs hP hD hS => ?_)
    refine W.eq (g2 := F0 m 57 ls [.int (fM_look k mc mw mp me mo ms ch ((0 : Int64).toInt32) (((7 : Int32) * q6) / (4 : Int32)))]) rfl ?_
    have hP : va_P D vwCl [cMd bd k mc mw me mo, cIa cI (bd 1) 128 mp, cZa cZ (bd 2) 30 me.1, cJa cJ (bd 3) 30 me.2.1, cIa cI (bd 4) 30 me.2.2.1, cZa cZ (bd 5) 6 mo.1, cZa cZ (bd 6) 6 mo.2.1, cZa cZ (bd 7) 2 ms.1, cIa cI (bd 8) 2 ms.2.1, cZa cZ (bd 9) 2 ms.2.2.1, cIa cI (bd 10) 2 ms.2.2.2.1, cIa cI (bd 11) 2 ms.2.2.2.2.1, cZa cZ (bd 12) 2 ms.2.2.2.2.2.1, cJa cJ (bd 13) 6 ms.2.2.2.2.2.2, cJa cJ (bd 14) 16 mo.2.2.1] H := hP
    have hD : va_D A [cMd bd k mc mw me mo, cIa cI (bd 1) 128 mp, cZa cZ (bd 2) 30 me.1, cJa cJ (bd 3) 30 me.2.1, cIa cI (bd 4) 30 me.2.2.1, cZa cZ (bd 5) 6 mo.1, cZa cZ (bd 6) 6 mo.2.1, cZa cZ (bd 7) 2 ms.1, cIa cI (bd 8) 2 ms.2.1, cZa cZ (bd 9) 2 ms.2.2.1, cIa cI (bd 10) 2 ms.2.2.2.1, cIa cI (bd 11) 2 ms.2.2.2.2.1, cZa cZ (bd 12) 2 ms.2.2.2.2.2.1, cJa cJ (bd 13) 6 ms.2.2.2.2.2.2, cJa cJ (bd 14) 16 mo.2.2.1] := hD
    generalize hq7 : fM_look k mc mw mp me mo ms ch ((0 : Int64).toInt32) (((7 : Int32) * q6) / (4 : Int32)) = q7 at ⊢
    exact k_iret hx hb hr hlk hP hD hS dM_present_57 () (by simp only [fM_present, if_pos h1, hq6, hq7]) rfl

def fM_amount (k : Nat) (mc : McT) (mw : MwT) (mp : MpT) (me : MeT) (mo : MoT) (ms : MsT) : Int32 :=
  let q1 := fM_valueOf k mc mw mp me mo ms 1
  if (80 : Int32) ≤ q1 then
    let q3 := fM_present k mc mw mp me mo ms (1 : Int32)
    (q3 * ((100 : Int32) + (0 : Int32))) / (100 : Int32)
  else
    let q4 := fM_present k mc mw mp me mo ms (1 : Int32)
    (q4 * ((100 : Int32) + ((80 : Int32) - q1))) / (100 : Int32)
set_option maxRecDepth 100000 in
set_option maxHeartbeats 4000000 in
theorem ctM_amount (l : Launch) (D : va_G) (cZ cI cJ : ClassId) (tL tH : Nat) (sz : Nat) (bd : Nat → Nat) (k : Nat) (mc : McT) (mw : MwT) (mp : MpT) (me : MeT) (mo : MoT) (ms : MsT)  (hk : 0 < k ∧ k ≤ 6) : Ct l yM_amount wM_amount ({ frames := 3, cells := 0, slots := 0, locals := 78 }) D (tyG cZ cI cJ) tL tH [.ref (bd 0)] sz [cMd bd k mc mw me mo, cIa cI (bd 1) 128 mp, cZa cZ (bd 2) 30 me.1, cJa cJ (bd 3) 30 me.2.1, cIa cI (bd 4) 30 me.2.2.1, cZa cZ (bd 5) 6 mo.1, cZa cZ (bd 6) 6 mo.2.1, cZa cZ (bd 7) 2 ms.1, cIa cI (bd 8) 2 ms.2.1, cZa cZ (bd 9) 2 ms.2.2.1, cIa cI (bd 10) 2 ms.2.2.2.1, cIa cI (bd 11) 2 ms.2.2.2.2.1, cZa cZ (bd 12) 2 ms.2.2.2.2.2.1, cJa cJ (bd 13) 6 ms.2.2.2.2.2.2, cJa cJ (bd 14) 16 mo.2.2.1] (fun _ : Unit => some (.int (fM_amount k mc mw mp me mo ms))) (fun _ : Unit => [cMd bd k mc mw me mo, cIa cI (bd 1) 128 mp, cZa cZ (bd 2) 30 me.1, cJa cJ (bd 3) 30 me.2.1, cIa cI (bd 4) 30 me.2.2.1, cZa cZ (bd 5) 6 mo.1, cZa cZ (bd 6) 6 mo.2.1, cZa cZ (bd 7) 2 ms.1, cIa cI (bd 8) 2 ms.2.1, cZa cZ (bd 9) 2 ms.2.2.1, cIa cI (bd 10) 2 ms.2.2.2.1, cIa cI (bd 11) 2 ms.2.2.2.2.1, cZa cZ (bd 12) 2 ms.2.2.2.2.2.1, cJa cJ (bd 13) 6 ms.2.2.2.2.2.2, cJa cJ (bd 14) 16 mo.2.2.1]) 0 0 := by
  refine k_go (by decide +kernel) (Nat.le_of_ble_eq_true rfl) ?_
  intro p e s m args below meth c A ls H hx hb hr hml hts hown hlk hnm hK hN hT hA hS hP hD hl
  have hown : s.vm.findClass "ToothWheelTimerModel" = some m.cls := hown
  have hlk : meth.locks = false := hlk
  have hl : lv_has ls 4 [(0, .ref (bd 0))] := hl
  refine lv_aload_n hx hb dM_amount_0 rfl (lv_at hl 0 rfl) ?_
  refine lv_iconst (v := (1 : Int32)) hx hb dM_amount_1 (by decide) ?_
  refine k_ca0 (wc := [cMd bd k mc mw me mo, cIa cI (bd 1) 128 mp, cZa cZ (bd 2) 30 me.1, cJa cJ (bd 3) 30 me.2.1, cIa cI (bd 4) 30 me.2.2.1, cZa cZ (bd 5) 6 mo.1, cZa cZ (bd 6) 6 mo.2.1, cZa cZ (bd 7) 2 ms.1, cIa cI (bd 8) 2 ms.2.1, cZa cZ (bd 9) 2 ms.2.2.1, cIa cI (bd 10) 2 ms.2.2.2.1, cIa cI (bd 11) 2 ms.2.2.2.2.1, cZa cZ (bd 12) 2 ms.2.2.2.2.2.1, cJa cJ (bd 13) 6 ms.2.2.2.2.2.2, cJa cJ (bd 14) 16 mo.2.2.1]) (wr := []) (va_runV (As := [.int (nI 1)]) (rest := []) ⟨hx, hb, hml, hown, hts⟩ (ctM_valueOf l D cZ cI cJ tL tH H.size bd k mc mw mp me mo ms 1 hk (by decide)) (cwM_92 hts hN rfl rfl ⟨Nat.le_of_ble_eq_true rfl, Nat.le_of_ble_eq_true rfl⟩) (k_preV hK hN hT hA hS hP hD [0, 1, 2, 3, 4, 5, 6, 7, 8, 9, 10, 11, 12, 13, 14] rfl (by decide) 0 rfl rfl) rfl rfl hl.1 rfl (lv_room (Nat.le_of_ble_eq_true rfl)) dM_amount_2 ⟨Nat.zero_le _, Nat.zero_le _⟩) hP hD hS hA [0, 1, 2, 3, 4, 5, 6, 7, 8, 9, 10, 11, 12, 13, 14] [] rfl rfl (by decide) (by decide) (fun _ H locs hP hD hS => ?_)
  refine W.eq (g2 := F0 m 5 ls [.int (fM_valueOf k mc mw mp me mo ms 1)]) rfl ?_
  have hP : va_P D vwCl [cMd bd k mc mw me mo, cIa cI (bd 1) 128 mp, cZa cZ (bd 2) 30 me.1, cJa cJ (bd 3) 30 me.2.1, cIa cI (bd 4) 30 me.2.2.1, cZa cZ (bd 5) 6 mo.1, cZa cZ (bd 6) 6 mo.2.1, cZa cZ (bd 7) 2 ms.1, cIa cI (bd 8) 2 ms.2.1, cZa cZ (bd 9) 2 ms.2.2.1, cIa cI (bd 10) 2 ms.2.2.2.1, cIa cI (bd 11) 2 ms.2.2.2.2.1, cZa cZ (bd 12) 2 ms.2.2.2.2.2.1, cJa cJ (bd 13) 6 ms.2.2.2.2.2.2, cJa cJ (bd 14) 16 mo.2.2.1] H := hP
  have hD : va_D A [cMd bd k mc mw me mo, cIa cI (bd 1) 128 mp, cZa cZ (bd 2) 30 me.1, cJa cJ (bd 3) 30 me.2.1, cIa cI (bd 4) 30 me.2.2.1, cZa cZ (bd 5) 6 mo.1, cZa cZ (bd 6) 6 mo.2.1, cZa cZ (bd 7) 2 ms.1, cIa cI (bd 8) 2 ms.2.1, cZa cZ (bd 9) 2 ms.2.2.1, cIa cI (bd 10) 2 ms.2.2.2.1, cIa cI (bd 11) 2 ms.2.2.2.2.1, cZa cZ (bd 12) 2 ms.2.2.2.2.2.1, cJa cJ (bd 13) 6 ms.2.2.2.2.2.2, cJa cJ (bd 14) 16 mo.2.2.1] := hD
  generalize hq1 : fM_valueOf k mc mw mp me mo ms 1 = q1 at ⊢
  refine lv_istore_n (lv' := [(1, .int q1), (0, .ref (bd 0))]) hx hb dM_amount_5 rfl hl (by decide) rfl (fun ls hl => ?_)
  refine lv_iload_n hx hb dM_amount_6 rfl (lv_at hl 0 rfl) ?_
  refine lv_bipush (v := (80 : Int32)) hx hb dM_amount_7 (by decide) ?_
  refine lv_icmp_ge (tgt := 19) hx hb dM_amount_9 (by decide) (fun h2 => ?_) (fun h2 => ?_)
  · -- taken at 9
    refine lv_iconst (v := (0 : Int32)) hx hb dM_amount_19 (by decide) ?_
    refine lv_istore_n (lv' := [(2, .int (0 : Int32)), (1, .int q1), (0, .ref (bd 0))]) hx hb dM_amount_20 rfl hl (by decide) rfl (fun ls hl => ?_)
    refine lv_aload_n hx hb dM_amount_21 rfl (lv_at hl 2 rfl) ?_
    refine lv_iconst (v := (1 : Int32)) hx hb dM_amount_22 (by decide) ?_
    refine k_ca0 (wc := [cMd bd k mc mw me mo, cIa cI (bd 1) 128 mp, cZa cZ (bd 2) 30 me.1, cJa cJ (bd 3) 30 me.2.1, cIa cI (bd 4) 30 me.2.2.1, cZa cZ (bd 5) 6 mo.1, cZa cZ (bd 6) 6 mo.2.1, cZa cZ (bd 7) 2 ms.1, cIa cI (bd 8) 2 ms.2.1, cZa cZ (bd 9) 2 ms.2.2.1, cIa cI (bd 10) 2 ms.2.2.2.1, cIa cI (bd 11) 2 ms.2.2.2.2.1, cZa cZ (bd 12) 2 ms.2.2.2.2.2.1, cJa cJ (bd 13) 6 ms.2.2.2.2.2.2, cJa cJ (bd 14) 16 mo.2.2.1]) (wr := []) (va_runV (As := [.int (1 : Int32)]) (rest := []) ⟨hx, hb, hml, hown, hts⟩ (ctM_present l D cZ cI cJ tL tH H.size bd k mc mw mp me mo ms (1 : Int32) hk) (cwM_101 hts hN rfl rfl ⟨Nat.le_of_ble_eq_true rfl, Nat.le_of_ble_eq_true rfl⟩) (k_preV hK hN hT hA hS hP hD [0, 1, 2, 3, 4, 5, 6, 7, 8, 9, 10, 11, 12, 13, 14] rfl (by decide) 0 rfl rfl) rfl rfl hl.1 rfl (lv_room (Nat.le_of_ble_eq_true rfl)) dM_amount_23 ⟨Nat.zero_le _, Nat.zero_le _⟩) hP hD hS hA [0, 1, 2, 3, 4, 5, 6, 7, 8, 9, 10, 11, 12, 13, 14] [] rfl rfl (by decide) (by decide) (fun _ H locs hP hD hS => ?_)
    refine W.eq (g2 := F0 m 26 ls [.int (fM_present k mc mw mp me mo ms (1 : Int32))]) rfl ?_
    have hP : va_P D vwCl [cMd bd k mc mw me mo, cIa cI (bd 1) 128 mp, cZa cZ (bd 2) 30 me.1, cJa cJ (bd 3) 30 me.2.1, cIa cI (bd 4) 30 me.2.2.1, cZa cZ (bd 5) 6 mo.1, cZa cZ (bd 6) 6 mo.2.1, cZa cZ (bd 7) 2 ms.1, cIa cI (bd 8) 2 ms.2.1, cZa cZ (bd 9) 2 ms.2.2.1, cIa cI (bd 10) 2 ms.2.2.2.1, cIa cI (bd 11) 2 ms.2.2.2.2.1, cZa cZ (bd 12) 2 ms.2.2.2.2.2.1, cJa cJ (bd 13) 6 ms.2.2.2.2.2.2, cJa cJ (bd 14) 16 mo.2.2.1] H := hP
    have hD : va_D A [cMd bd k mc mw me mo, cIa cI (bd 1) 128 mp, cZa cZ (bd 2) 30 me.1, cJa cJ (bd 3) 30 me.2.1, cIa cI (bd 4) 30 me.2.2.1, cZa cZ (bd 5) 6 mo.1, cZa cZ (bd 6) 6 mo.2.1, cZa cZ (bd 7) 2 ms.1, cIa cI (bd 8) 2 ms.2.1, cZa cZ (bd 9) 2 ms.2.2.1, cIa cI (bd 10) 2 ms.2.2.2.1, cIa cI (bd 11) 2 ms.2.2.2.2.1, cZa cZ (bd 12) 2 ms.2.2.2.2.2.1, cJa cJ (bd 13) 6 ms.2.2.2.2.2.2, cJa cJ (bd 14) 16 mo.2.2.1] := hD
    generalize hq3 : fM_present k mc mw mp me mo ms (1 : Int32) = q3 at ⊢
    refine lv_istore_n (lv' := [(3, .int q3), (2, .int (0 : Int32)), (1, .int q1), (0, .ref (bd 0))]) hx hb dM_amount_26 rfl hl (by decide) rfl (fun ls hl => ?_)
    refine lv_iload_n hx hb dM_amount_27 rfl (lv_at hl 0 rfl) ?_
    refine lv_bipush (v := (100 : Int32)) hx hb dM_amount_28 (by decide) ?_
    refine lv_iload_n hx hb dM_amount_30 rfl (lv_at hl 1 rfl) ?_
    refine lv_iadd hx hb dM_amount_31 ?_
    refine lv_imul hx hb dM_amount_32 ?_
    refine lv_bipush (v := (100 : Int32)) hx hb dM_amount_33 (by decide) ?_
    refine lv_idiv hx hb dM_amount_35 (by decide) ?_
    exact k_iret hx hb hr hlk hP hD hS dM_amount_36 () (by simp only [fM_amount, hq1, if_pos h2, hq3]) rfl
  · -- not taken at 9
    refine lv_bipush (v := (80 : Int32)) hx hb dM_amount_12 (by decide) ?_
    refine lv_iload_n hx hb dM_amount_14 rfl (lv_at hl 0 rfl) ?_
    refine lv_isub hx hb dM_amount_15 ?_
    refine lv_goto (tgt := 20) hx hb dM_amount_16 (by decide) ?_
    refine lv_istore_n (lv' := [(2, .int ((80 : Int32) - q1)), (1, .int q1), (0, .ref (bd 0))]) hx hb dM_amount_20 rfl hl (by decide) rfl (fun ls hl => ?_)
    refine lv_aload_n hx hb dM_amount_21 rfl (lv_at hl 2 rfl) ?_
    refine lv_iconst (v := (1 : Int32)) hx hb dM_amount_22 (by decide) ?_
    refine k_ca0 (wc := [cMd bd k mc mw me mo, cIa cI (bd 1) 128 mp, cZa cZ (bd 2) 30 me.1, cJa cJ (bd 3) 30 me.2.1, cIa cI (bd 4) 30 me.2.2.1, cZa cZ (bd 5) 6 mo.1, cZa cZ (bd 6) 6 mo.2.1, cZa cZ (bd 7) 2 ms.1, cIa cI (bd 8) 2 ms.2.1, cZa cZ (bd 9) 2 ms.2.2.1, cIa cI (bd 10) 2 ms.2.2.2.1, cIa cI (bd 11) 2 ms.2.2.2.2.1, cZa cZ (bd 12) 2 ms.2.2.2.2.2.1, cJa cJ (bd 13) 6 ms.2.2.2.2.2.2, cJa cJ (bd 14) 16 mo.2.2.1]) (wr := []) (va_runV (As := [.int (1 : Int32)]) (rest := []) ⟨hx, hb, hml, hown, hts⟩ (ctM_present l D cZ cI cJ tL tH H.size bd k mc mw mp me mo ms (1 : Int32) hk) (cwM_101 hts hN rfl rfl ⟨Nat.le_of_ble_eq_true rfl, Nat.le_of_ble_eq_true rfl⟩) (k_preV hK hN hT hA hS hP hD [0, 1, 2, 3, 4, 5, 6, 7, 8, 9, 10, 11, 12, 13, 14] rfl (by decide) 0 rfl rfl) rfl rfl hl.1 rfl (lv_room (Nat.le_of_ble_eq_true rfl)) dM_amount_23 ⟨Nat.zero_le _, Nat.zero_le _⟩) hP hD hS hA [0, 1, 2, 3, 4, 5, 6, 7, 8, 9, 10, 11, 12, 13, 14] [] rfl rfl (by decide) (by decide) (fun _ H locs hP hD hS => ?_)
    refine W.eq (g2 := F0 m 26 ls [.int (fM_present k mc mw mp me mo ms (1 : Int32))]) rfl ?_
    have hP : va_P D vwCl [cMd bd k mc mw me mo, cIa cI (bd 1) 128 mp, cZa cZ (bd 2) 30 me.1, cJa cJ (bd 3) 30 me.2.1, cIa cI (bd 4) 30 me.2.2.1, cZa cZ (bd 5) 6 mo.1, cZa cZ (bd 6) 6 mo.2.1, cZa cZ (bd 7) 2 ms.1, cIa cI (bd 8) 2 ms.2.1, cZa cZ (bd 9) 2 ms.2.2.1, cIa cI (bd 10) 2 ms.2.2.2.1, cIa cI (bd 11) 2 ms.2.2.2.2.1, cZa cZ (bd 12) 2 ms.2.2.2.2.2.1, cJa cJ (bd 13) 6 ms.2.2.2.2.2.2, cJa cJ (bd 14) 16 mo.2.2.1] H := hP
    have hD : va_D A [cMd bd k mc mw me mo, cIa cI (bd 1) 128 mp, cZa cZ (bd 2) 30 me.1, cJa cJ (bd 3) 30 me.2.1, cIa cI (bd 4) 30 me.2.2.1, cZa cZ (bd 5) 6 mo.1, cZa cZ (bd 6) 6 mo.2.1, cZa cZ (bd 7) 2 ms.1, cIa cI (bd 8) 2 ms.2.1, cZa cZ (bd 9) 2 ms.2.2.1, cIa cI (bd 10) 2 ms.2.2.2.1, cIa cI (bd 11) 2 ms.2.2.2.2.1, cZa cZ (bd 12) 2 ms.2.2.2.2.2.1, cJa cJ (bd 13) 6 ms.2.2.2.2.2.2, cJa cJ (bd 14) 16 mo.2.2.1] := hD
    generalize hq4 : fM_present k mc mw mp me mo ms (1 : Int32) = q4 at ⊢
    refine lv_istore_n (lv' := [(3, .int q4), (2, .int ((80 : Int32) - q1)), (1, .int q1), (0, .ref (bd 0))]) hx hb dM_amount_26 rfl hl (by decide) rfl (fun ls hl => ?_)
    refine lv_iload_n hx hb dM_amount_27 rfl (lv_at hl 0 rfl) ?_
    refine lv_bipush (v := (100 : Int32)) hx hb dM_amount_28 (by decide) ?_
    refine lv_iload_n hx hb dM_amount_30 rfl (lv_at hl 1 rfl) ?_
    refine lv_iadd hx hb dM_amount_31 ?_
    refine lv_imul hx hb dM_amount_32 ?_
    refine lv_bipush (v := (100 : Int32)) hx hb dM_amount_33 (by decide) ?_
    refine lv_idiv hx hb dM_amount_35 (by decide) ?_
    exact k_iret hx hb hr hlk hP hD hS dM_amount_36 () (by simp only [fM_amount, hq1, if_neg h2, hq4]) rfl

def fM_value (k : Nat) (mc : McT) (mw : MwT) (mp : MpT) (me : MeT) (mo : MoT) (ms : MsT) (se : Int32) : Int32 :=
  let q1 := fM_in se (0 : Int32) (1 : Int32)
  if q1 = 0 then
    (0 : Int32)
  else
    let q3 := fM_valueOf k mc mw mp me mo ms se.toNatClampNeg
    q3
set_option maxRecDepth 100000 in
set_option maxHeartbeats 4000000 in
theorem ctM_value (l : Launch) (D : va_G) (cZ cI cJ : ClassId) (tL tH : Nat) (sz : Nat) (bd : Nat → Nat) (k : Nat) (mc : McT) (mw : MwT) (mp : MpT) (me : MeT) (mo : MoT) (ms : MsT) (se : Int32)  (hk : 0 < k ∧ k ≤ 6) : Ct l yM_value wM_value ({ frames := 2, cells := 0, slots := 0, locals := 46 }) D (tyG cZ cI cJ) tL tH [.ref (bd 0), .int se] sz [cMd bd k mc mw me mo, cIa cI (bd 1) 128 mp, cZa cZ (bd 2) 30 me.1, cJa cJ (bd 3) 30 me.2.1, cIa cI (bd 4) 30 me.2.2.1, cZa cZ (bd 5) 6 mo.1, cZa cZ (bd 6) 6 mo.2.1, cZa cZ (bd 7) 2 ms.1, cIa cI (bd 8) 2 ms.2.1, cZa cZ (bd 9) 2 ms.2.2.1, cIa cI (bd 10) 2 ms.2.2.2.1, cIa cI (bd 11) 2 ms.2.2.2.2.1, cZa cZ (bd 12) 2 ms.2.2.2.2.2.1, cJa cJ (bd 13) 6 ms.2.2.2.2.2.2, cJa cJ (bd 14) 16 mo.2.2.1] (fun _ : Unit => some (.int (fM_value k mc mw mp me mo ms se))) (fun _ : Unit => [cMd bd k mc mw me mo, cIa cI (bd 1) 128 mp, cZa cZ (bd 2) 30 me.1, cJa cJ (bd 3) 30 me.2.1, cIa cI (bd 4) 30 me.2.2.1, cZa cZ (bd 5) 6 mo.1, cZa cZ (bd 6) 6 mo.2.1, cZa cZ (bd 7) 2 ms.1, cIa cI (bd 8) 2 ms.2.1, cZa cZ (bd 9) 2 ms.2.2.1, cIa cI (bd 10) 2 ms.2.2.2.1, cIa cI (bd 11) 2 ms.2.2.2.2.1, cZa cZ (bd 12) 2 ms.2.2.2.2.2.1, cJa cJ (bd 13) 6 ms.2.2.2.2.2.2, cJa cJ (bd 14) 16 mo.2.2.1]) 0 0 := by
  refine k_go (by decide +kernel) (Nat.le_of_ble_eq_true rfl) ?_
  intro p e s m args below meth c A ls H hx hb hr hml hts hown hlk hnm hK hN hT hA hS hP hD hl
  have hown : s.vm.findClass "ToothWheelTimerModel" = some m.cls := hown
  have hlk : meth.locks = false := hlk
  have hl : lv_has ls 2 [(0, .ref (bd 0)), (1, .int se)] := hl
  refine lv_iload_n hx hb dM_value_0 rfl (lv_at hl 1 rfl) ?_
  refine lv_iconst (v := (0 : Int32)) hx hb dM_value_1 (by decide) ?_
  refine lv_iconst (v := (1 : Int32)) hx hb dM_value_2 (by decide) ?_
  refine k_ca0 (wc := []) (wr := [cMd bd k mc mw me mo, cIa cI (bd 1) 128 mp, cZa cZ (bd 2) 30 me.1, cJa cJ (bd 3) 30 me.2.1, cIa cI (bd 4) 30 me.2.2.1, cZa cZ (bd 5) 6 mo.1, cZa cZ (bd 6) 6 mo.2.1, cZa cZ (bd 7) 2 ms.1, cIa cI (bd 8) 2 ms.2.1, cZa cZ (bd 9) 2 ms.2.2.1, cIa cI (bd 10) 2 ms.2.2.2.1, cIa cI (bd 11) 2 ms.2.2.2.2.1, cZa cZ (bd 12) 2 ms.2.2.2.2.2.1, cJa cJ (bd 13) 6 ms.2.2.2.2.2.2, cJa cJ (bd 14) 16 mo.2.2.1]) (va_runS (As := [.int se, .int (0 : Int32), .int (1 : Int32)]) (rest := []) ⟨hx, hb, hml, hown, hts⟩ (ctM_in l D cZ cI cJ tL tH H.size se (0 : Int32) (1 : Int32)) (cwM_78 hts hN rfl rfl ⟨Nat.le_of_ble_eq_true rfl, Nat.le_of_ble_eq_true rfl⟩) (k_pre hK hN hT hA hS hP hD [] rfl (by decide)) rfl rfl hl.1 rfl (lv_room (Nat.le_of_ble_eq_true rfl)) dM_value_3 ⟨Nat.zero_le _, Nat.zero_le _⟩) hP hD hS hA [] [0, 1, 2, 3, 4, 5, 6, 7, 8, 9, 10, 11, 12, 13, 14] rfl rfl (by decide) (by decide) (fun _ H locs hP hD hS => ?_)
  refine W.eq (g2 := F0 m 6 ls [.int (fM_in se (0 : Int32) (1 : Int32))]) rfl ?_
  have hP : va_P D vwCl [cMd bd k mc mw me mo, cIa cI (bd 1) 128 mp, cZa cZ (bd 2) 30 me.1, cJa cJ (bd 3) 30 me.2.1, cIa cI (bd 4) 30 me.2.2.1, cZa cZ (bd 5) 6 mo.1, cZa cZ (bd 6) 6 mo.2.1, cZa cZ (bd 7) 2 ms.1, cIa cI (bd 8) 2 ms.2.1, cZa cZ (bd 9) 2 ms.2.2.1, cIa cI (bd 10) 2 ms.2.2.2.1, cIa cI (bd 11) 2 ms.2.2.2.2.1, cZa cZ (bd 12) 2 ms.2.2.2.2.2.1, cJa cJ (bd 13) 6 ms.2.2.2.2.2.2, cJa cJ (bd 14) 16 mo.2.2.1] H := hP
  have hD : va_D A [cMd bd k mc mw me mo, cIa cI (bd 1) 128 mp, cZa cZ (bd 2) 30 me.1, cJa cJ (bd 3) 30 me.2.1, cIa cI (bd 4) 30 me.2.2.1, cZa cZ (bd 5) 6 mo.1, cZa cZ (bd 6) 6 mo.2.1, cZa cZ (bd 7) 2 ms.1, cIa cI (bd 8) 2 ms.2.1, cZa cZ (bd 9) 2 ms.2.2.1, cIa cI (bd 10) 2 ms.2.2.2.1, cIa cI (bd 11) 2 ms.2.2.2.2.1, cZa cZ (bd 12) 2 ms.2.2.2.2.2.1, cJa cJ (bd 13) 6 ms.2.2.2.2.2.2, cJa cJ (bd 14) 16 mo.2.2.1] := hD
  generalize hq1 : fM_in se (0 : Int32) (1 : Int32) = q1 at ⊢
  refine lv_if_eq (tgt := 17) hx hb dM_value_6 (by decide) (fun h2 => ?_) (fun h2 => ?_)
  · -- taken at 6
    refine lv_iconst (v := (0 : Int32)) hx hb dM_value_17 (by decide) ?_
    exact k_iret hx hb hr hlk hP hD hS dM_value_18 () (by simp only [fM_value, hq1, if_pos h2]) rfl
  · -- not taken at 6
    refine lv_aload_n hx hb dM_value_9 rfl (lv_at hl 0 rfl) ?_
    refine lv_iload_n hx hb dM_value_10 rfl (lv_at hl 1 rfl) ?_
    refine W.eq (g2 := F0 m 11 ls [.int (nI se.toNatClampNeg), .ref (bd 0)]) (congrArg (fun z => F0 m 11 ls [.int z, .ref (bd 0)]) (k_nIc (k_in01 hq1 h2))) ?_
    refine k_ca0 (wc := [cMd bd k mc mw me mo, cIa cI (bd 1) 128 mp, cZa cZ (bd 2) 30 me.1, cJa cJ (bd 3) 30 me.2.1, cIa cI (bd 4) 30 me.2.2.1, cZa cZ (bd 5) 6 mo.1, cZa cZ (bd 6) 6 mo.2.1, cZa cZ (bd 7) 2 ms.1, cIa cI (bd 8) 2 ms.2.1, cZa cZ (bd 9) 2 ms.2.2.1, cIa cI (bd 10) 2 ms.2.2.2.1, cIa cI (bd 11) 2 ms.2.2.2.2.1, cZa cZ (bd 12) 2 ms.2.2.2.2.2.1, cJa cJ (bd 13) 6 ms.2.2.2.2.2.2, cJa cJ (bd 14) 16 mo.2.2.1]) (wr := []) (va_runV (As := [.int (nI se.toNatClampNeg)]) (rest := []) ⟨hx, hb, hml, hown, hts⟩ (ctM_valueOf l D cZ cI cJ tL tH H.size bd k mc mw mp me mo ms se.toNatClampNeg hk (k_lt (k_in01 hq1 h2))) (cwM_92 hts hN rfl rfl ⟨Nat.le_of_ble_eq_true rfl, Nat.le_of_ble_eq_true rfl⟩) (k_preV hK hN hT hA hS hP hD [0, 1, 2, 3, 4, 5, 6, 7, 8, 9, 10, 11, 12, 13, 14] rfl (by decide) 0 rfl rfl) rfl rfl hl.1 rfl (lv_room (Nat.le_of_ble_eq_true rfl)) dM_value_11 ⟨Nat.zero_le _, Nat.zero_le _⟩) hP hD hS hA [0, 1, 2, 3, 4, 5, 6, 7, 8, 9, 10, 11, 12, 13, 14] [] rfl rfl (by decide) (by decide) (fun _ H locs hP hD hS => ?_)
    refine W.eq (g2 := F0 m 14 ls [.int (fM_valueOf k mc mw mp me mo ms se.toNatClampNeg)]) rfl ?_
    have hP : va_P D vwCl [cMd bd k mc mw me mo, cIa cI (bd 1) 128 mp, cZa cZ (bd 2) 30 me.1, cJa cJ (bd 3) 30 me.2.1, cIa cI (bd 4) 30 me.2.2.1, cZa cZ (bd 5) 6 mo.1, cZa cZ (bd 6) 6 mo.2.1, cZa cZ (bd 7) 2 ms.1, cIa cI (bd 8) 2 ms.2.1, cZa cZ (bd 9) 2 ms.2.2.1, cIa cI (bd 10) 2 ms.2.2.2.1, cIa cI (bd 11) 2 ms.2.2.2.2.1, cZa cZ (bd 12) 2 ms.2.2.2.2.2.1, cJa cJ (bd 13) 6 ms.2.2.2.2.2.2, cJa cJ (bd 14) 16 mo.2.2.1] H := hP
    have hD : va_D A [cMd bd k mc mw me mo, cIa cI (bd 1) 128 mp, cZa cZ (bd 2) 30 me.1, cJa cJ (bd 3) 30 me.2.1, cIa cI (bd 4) 30 me.2.2.1, cZa cZ (bd 5) 6 mo.1, cZa cZ (bd 6) 6 mo.2.1, cZa cZ (bd 7) 2 ms.1, cIa cI (bd 8) 2 ms.2.1, cZa cZ (bd 9) 2 ms.2.2.1, cIa cI (bd 10) 2 ms.2.2.2.1, cIa cI (bd 11) 2 ms.2.2.2.2.1, cZa cZ (bd 12) 2 ms.2.2.2.2.2.1, cJa cJ (bd 13) 6 ms.2.2.2.2.2.2, cJa cJ (bd 14) 16 mo.2.2.1] := hD
    generalize hq3 : fM_valueOf k mc mw mp me mo ms se.toNatClampNeg = q3 at ⊢
    refine lv_goto (tgt := 18) hx hb dM_value_14 (by decide) ?_
    exact k_iret hx hb hr hlk hP hD hS dM_value_18 () (by simp only [fM_value, hq1, if_neg h2, hq3]) rfl

def fM_count (k : Nat) (mc : McT) (mw : MwT) (mp : MpT) (me : MeT) (mo : MoT) (ms : MsT) (se : Int32) : Int32 :=
  let q1 := fM_in se (0 : Int32) (1 : Int32)
  if q1 = 0 then
    (-1 : Int32)
  else
    ms.2.2.2.2.1 se.toNatClampNeg
set_option maxRecDepth 100000 in
set_option maxHeartbeats 4000000 in
theorem ctM_count (l : Launch) (D : va_G) (cZ cI cJ : ClassId) (tL tH : Nat) (sz : Nat) (bd : Nat → Nat) (k : Nat) (mc : McT) (mw : MwT) (mp : MpT) (me : MeT) (mo : MoT) (ms : MsT) (se : Int32)  (hk : 0 < k ∧ k ≤ 6) : Ct l yM_count wM_count ({ frames := 1, cells := 0, slots := 0, locals := 22 }) D (tyG cZ cI cJ) tL tH [.ref (bd 0), .int se] sz [cMd bd k mc mw me mo, cIa cI (bd 1) 128 mp, cZa cZ (bd 2) 30 me.1, cJa cJ (bd 3) 30 me.2.1, cIa cI (bd 4) 30 me.2.2.1, cZa cZ (bd 5) 6 mo.1, cZa cZ (bd 6) 6 mo.2.1, cZa cZ (bd 7) 2 ms.1, cIa cI (bd 8) 2 ms.2.1, cZa cZ (bd 9) 2 ms.2.2.1, cIa cI (bd 10) 2 ms.2.2.2.1, cIa cI (bd 11) 2 ms.2.2.2.2.1, cZa cZ (bd 12) 2 ms.2.2.2.2.2.1, cJa cJ (bd 13) 6 ms.2.2.2.2.2.2, cJa cJ (bd 14) 16 mo.2.2.1] (fun _ : Unit => some (.int (fM_count k mc mw mp me mo ms se))) (fun _ : Unit => [cMd bd k mc mw me mo, cIa cI (bd 1) 128 mp, cZa cZ (bd 2) 30 me.1, cJa cJ (bd 3) 30 me.2.1, cIa cI (bd 4) 30 me.2.2.1, cZa cZ (bd 5) 6 mo.1, cZa cZ (bd 6) 6 mo.2.1, cZa cZ (bd 7) 2 ms.1, cIa cI (bd 8) 2 ms.2.1, cZa cZ (bd 9) 2 ms.2.2.1, cIa cI (bd 10) 2 ms.2.2.2.1, cIa cI (bd 11) 2 ms.2.2.2.2.1, cZa cZ (bd 12) 2 ms.2.2.2.2.2.1, cJa cJ (bd 13) 6 ms.2.2.2.2.2.2, cJa cJ (bd 14) 16 mo.2.2.1]) 0 0 := by
  refine k_go (by decide +kernel) (Nat.le_of_ble_eq_true rfl) ?_
  intro p e s m args below meth c A ls H hx hb hr hml hts hown hlk hnm hK hN hT hA hS hP hD hl
  have hown : s.vm.findClass "ToothWheelTimerModel" = some m.cls := hown
  have hlk : meth.locks = false := hlk
  have hl : lv_has ls 2 [(0, .ref (bd 0)), (1, .int se)] := hl
  refine lv_iload_n hx hb dM_count_0 rfl (lv_at hl 1 rfl) ?_
  refine lv_iconst (v := (0 : Int32)) hx hb dM_count_1 (by decide) ?_
  refine lv_iconst (v := (1 : Int32)) hx hb dM_count_2 (by decide) ?_
  refine k_ca0 (wc := []) (wr := [cMd bd k mc mw me mo, cIa cI (bd 1) 128 mp, cZa cZ (bd 2) 30 me.1, cJa cJ (bd 3) 30 me.2.1, cIa cI (bd 4) 30 me.2.2.1, cZa cZ (bd 5) 6 mo.1, cZa cZ (bd 6) 6 mo.2.1, cZa cZ (bd 7) 2 ms.1, cIa cI (bd 8) 2 ms.2.1, cZa cZ (bd 9) 2 ms.2.2.1, cIa cI (bd 10) 2 ms.2.2.2.1, cIa cI (bd 11) 2 ms.2.2.2.2.1, cZa cZ (bd 12) 2 ms.2.2.2.2.2.1, cJa cJ (bd 13) 6 ms.2.2.2.2.2.2, cJa cJ (bd 14) 16 mo.2.2.1]) (va_runS (As := [.int se, .int (0 : Int32), .int (1 : Int32)]) (rest := []) ⟨hx, hb, hml, hown, hts⟩ (ctM_in l D cZ cI cJ tL tH H.size se (0 : Int32) (1 : Int32)) (cwM_78 hts hN rfl rfl ⟨Nat.le_of_ble_eq_true rfl, Nat.le_of_ble_eq_true rfl⟩) (k_pre hK hN hT hA hS hP hD [] rfl (by decide)) rfl rfl hl.1 rfl (lv_room (Nat.le_of_ble_eq_true rfl)) dM_count_3 ⟨Nat.zero_le _, Nat.zero_le _⟩) hP hD hS hA [] [0, 1, 2, 3, 4, 5, 6, 7, 8, 9, 10, 11, 12, 13, 14] rfl rfl (by decide) (by decide) (fun _ H locs hP hD hS => ?_)
  refine W.eq (g2 := F0 m 6 ls [.int (fM_in se (0 : Int32) (1 : Int32))]) rfl ?_
  have hP : va_P D vwCl [cMd bd k mc mw me mo, cIa cI (bd 1) 128 mp, cZa cZ (bd 2) 30 me.1, cJa cJ (bd 3) 30 me.2.1, cIa cI (bd 4) 30 me.2.2.1, cZa cZ (bd 5) 6 mo.1, cZa cZ (bd 6) 6 mo.2.1, cZa cZ (bd 7) 2 ms.1, cIa cI (bd 8) 2 ms.2.1, cZa cZ (bd 9) 2 ms.2.2.1, cIa cI (bd 10) 2 ms.2.2.2.1, cIa cI (bd 11) 2 ms.2.2.2.2.1, cZa cZ (bd 12) 2 ms.2.2.2.2.2.1, cJa cJ (bd 13) 6 ms.2.2.2.2.2.2, cJa cJ (bd 14) 16 mo.2.2.1] H := hP
  have hD : va_D A [cMd bd k mc mw me mo, cIa cI (bd 1) 128 mp, cZa cZ (bd 2) 30 me.1, cJa cJ (bd 3) 30 me.2.1, cIa cI (bd 4) 30 me.2.2.1, cZa cZ (bd 5) 6 mo.1, cZa cZ (bd 6) 6 mo.2.1, cZa cZ (bd 7) 2 ms.1, cIa cI (bd 8) 2 ms.2.1, cZa cZ (bd 9) 2 ms.2.2.1, cIa cI (bd 10) 2 ms.2.2.2.1, cIa cI (bd 11) 2 ms.2.2.2.2.1, cZa cZ (bd 12) 2 ms.2.2.2.2.2.1, cJa cJ (bd 13) 6 ms.2.2.2.2.2.2, cJa cJ (bd 14) 16 mo.2.2.1] := hD
  generalize hq1 : fM_in se (0 : Int32) (1 : Int32) = q1 at ⊢
  refine lv_if_eq (tgt := 18) hx hb dM_count_6 (by decide) (fun h2 => ?_) (fun h2 => ?_)
  · -- taken at 6
    refine lv_iconst (v := (-1 : Int32)) hx hb dM_count_18 (by decide) ?_
    exact k_iret hx hb hr hlk hP hD hS dM_count_19 () (by simp only [fM_count, hq1, if_pos h2]) rfl
  · -- not taken at 6
    refine lv_aload_n hx hb dM_count_9 rfl (lv_at hl 0 rfl) ?_
    refine gfM_46 hx hb hts hown hN hK hP 0 rfl (v := .ref (bd 11)) rfl dM_count_10 ?_
    refine lv_iload_n hx hb dM_count_13 rfl (lv_at hl 1 rfl) ?_
    refine va_iald hx hb hK hP 11 1 rfl rfl (k_in01 hq1 h2) dM_count_14 ?_
    refine lv_goto (tgt := 19) hx hb dM_count_15 (by decide) ?_
    exact k_iret hx hb hr hlk hP hD hS dM_count_19 () (by simp only [fM_count, hq1, if_neg h2]) rfl

def fM_sample (k : Nat) (mc : McT) (mw : MwT) (mp : MpT) (me : MeT) (mo : MoT) (ms : MsT) (se : Int32) (sv : Int32) : Int32 × MsT :=
  let q1 := fM_in se (0 : Int32) (1 : Int32)
  if q1 = 0 then
    ((0 : Int32), ms)
  else
    let q3 := fM_in sv (16 : Int32) (1007 : Int32)
    if q3 = 0 then
      if (ms.2.2.2.2.1 se.toNatClampNeg) = (2 : Int32) then
        if (ms.2.2.2.2.1 se.toNatClampNeg) = (6 : Int32) then
          if (ms.2.2.2.2.2.1 se.toNatClampNeg) = 0 then
            let q11 := fM_valueOf k mc mw mp me mo (upd ms.1 se.toNatClampNeg (1 : Int32), upd ms.2.1 se.toNatClampNeg sv, ms.2.2.1, ms.2.2.2.1, upd ms.2.2.2.2.1 se.toNatClampNeg (6 : Int32), upd ms.2.2.2.2.2.1 se.toNatClampNeg (1 : Int32), vp_updL (vp_updL ms.2.2.2.2.2.2 (((3 : Int32) * se).toNatClampNeg) mw.1) ((((3 : Int32) * se) + (1 : Int32)).toNatClampNeg) mw.2.2.2.1) 0
            ((0 : Int32), (upd ms.1 se.toNatClampNeg (1 : Int32), upd ms.2.1 se.toNatClampNeg sv, ms.2.2.1, ms.2.2.2.1, upd ms.2.2.2.2.1 se.toNatClampNeg (6 : Int32), upd ms.2.2.2.2.2.1 se.toNatClampNeg (1 : Int32), vp_updL (vp_updL (vp_updL ms.2.2.2.2.2.2 (((3 : Int32) * se).toNatClampNeg) mw.1) ((((3 : Int32) * se) + (1 : Int32)).toNatClampNeg) mw.2.2.2.1) ((((3 : Int32) * se) + (2 : Int32)).toNatClampNeg) q11.toInt64))
          else
            ((0 : Int32), (upd ms.1 se.toNatClampNeg (1 : Int32), upd ms.2.1 se.toNatClampNeg sv, ms.2.2.1, ms.2.2.2.1, upd ms.2.2.2.2.1 se.toNatClampNeg (6 : Int32), ms.2.2.2.2.2.1, ms.2.2.2.2.2.2))
        else
          if (ms.2.2.2.2.2.1 se.toNatClampNeg) = 0 then
            let q9 := fM_valueOf k mc mw mp me mo (upd ms.1 se.toNatClampNeg (1 : Int32), upd ms.2.1 se.toNatClampNeg sv, ms.2.2.1, ms.2.2.2.1, upd ms.2.2.2.2.1 se.toNatClampNeg ((ms.2.2.2.2.1 se.toNatClampNeg) + (1 : Int32)), upd ms.2.2.2.2.2.1 se.toNatClampNeg (1 : Int32), vp_updL (vp_updL ms.2.2.2.2.2.2 (((3 : Int32) * se).toNatClampNeg) mw.1) ((((3 : Int32) * se) + (1 : Int32)).toNatClampNeg) mw.2.2.2.1) 0
            ((0 : Int32), (upd ms.1 se.toNatClampNeg (1 : Int32), upd ms.2.1 se.toNatClampNeg sv, ms.2.2.1, ms.2.2.2.1, upd ms.2.2.2.2.1 se.toNatClampNeg ((ms.2.2.2.2.1 se.toNatClampNeg) + (1 : Int32)), upd ms.2.2.2.2.2.1 se.toNatClampNeg (1 : Int32), vp_updL (vp_updL (vp_updL ms.2.2.2.2.2.2 (((3 : Int32) * se).toNatClampNeg) mw.1) ((((3 : Int32) * se) + (1 : Int32)).toNatClampNeg) mw.2.2.2.1) ((((3 : Int32) * se) + (2 : Int32)).toNatClampNeg) q9.toInt64))
          else
            ((0 : Int32), (upd ms.1 se.toNatClampNeg (1 : Int32), upd ms.2.1 se.toNatClampNeg sv, ms.2.2.1, ms.2.2.2.1, upd ms.2.2.2.2.1 se.toNatClampNeg ((ms.2.2.2.2.1 se.toNatClampNeg) + (1 : Int32)), ms.2.2.2.2.2.1, ms.2.2.2.2.2.2))
      else
        if (ms.2.2.2.2.1 se.toNatClampNeg) = (6 : Int32) then
          ((0 : Int32), (upd ms.1 se.toNatClampNeg (1 : Int32), upd ms.2.1 se.toNatClampNeg sv, ms.2.2.1, ms.2.2.2.1, upd ms.2.2.2.2.1 se.toNatClampNeg (6 : Int32), ms.2.2.2.2.2.1, ms.2.2.2.2.2.2))
        else
          ((0 : Int32), (upd ms.1 se.toNatClampNeg (1 : Int32), upd ms.2.1 se.toNatClampNeg sv, ms.2.2.1, ms.2.2.2.1, upd ms.2.2.2.2.1 se.toNatClampNeg ((ms.2.2.2.2.1 se.toNatClampNeg) + (1 : Int32)), ms.2.2.2.2.2.1, ms.2.2.2.2.2.2))
    else
      if (ms.1 se.toNatClampNeg) = 0 then
        if (ms.2.2.2.2.1 se.toNatClampNeg) = 0 then
          ((1 : Int32), (upd ms.1 se.toNatClampNeg (1 : Int32), upd ms.2.1 se.toNatClampNeg sv, upd ms.2.2.1 se.toNatClampNeg (1 : Int32), upd ms.2.2.2.1 se.toNatClampNeg sv, upd ms.2.2.2.2.1 se.toNatClampNeg (0 : Int32), ms.2.2.2.2.2.1, ms.2.2.2.2.2.2))
        else
          ((1 : Int32), (upd ms.1 se.toNatClampNeg (1 : Int32), upd ms.2.1 se.toNatClampNeg sv, upd ms.2.2.1 se.toNatClampNeg (1 : Int32), upd ms.2.2.2.1 se.toNatClampNeg sv, upd ms.2.2.2.2.1 se.toNatClampNeg ((ms.2.2.2.2.1 se.toNatClampNeg) - (1 : Int32)), ms.2.2.2.2.2.1, ms.2.2.2.2.2.2))
      else
        let q14 := fM_in (ms.2.1 se.toNatClampNeg) (16 : Int32) (1007 : Int32)
        if q14 = 0 then
          if (ms.2.2.2.2.1 se.toNatClampNeg) = 0 then
            ((1 : Int32), (upd ms.1 se.toNatClampNeg (1 : Int32), upd ms.2.1 se.toNatClampNeg sv, upd ms.2.2.1 se.toNatClampNeg (1 : Int32), upd ms.2.2.2.1 se.toNatClampNeg sv, upd ms.2.2.2.2.1 se.toNatClampNeg (0 : Int32), ms.2.2.2.2.2.1, ms.2.2.2.2.2.2))
          else
            ((1 : Int32), (upd ms.1 se.toNatClampNeg (1 : Int32), upd ms.2.1 se.toNatClampNeg sv, upd ms.2.2.1 se.toNatClampNeg (1 : Int32), upd ms.2.2.2.1 se.toNatClampNeg sv, upd ms.2.2.2.2.1 se.toNatClampNeg ((ms.2.2.2.2.1 se.toNatClampNeg) - (1 : Int32)), ms.2.2.2.2.2.1, ms.2.2.2.2.2.2))
        else
          let q17 := fM_in ((ms.2.1 se.toNatClampNeg) - sv) (-256 : Int32) (256 : Int32)
          if q17 = 0 then
            if (ms.2.2.2.2.1 se.toNatClampNeg) = (2 : Int32) then
              if (ms.2.2.2.2.1 se.toNatClampNeg) = (6 : Int32) then
                if (ms.2.2.2.2.2.1 se.toNatClampNeg) = 0 then
                  let q25 := fM_valueOf k mc mw mp me mo (upd ms.1 se.toNatClampNeg (1 : Int32), upd ms.2.1 se.toNatClampNeg sv, ms.2.2.1, ms.2.2.2.1, upd ms.2.2.2.2.1 se.toNatClampNeg (6 : Int32), upd ms.2.2.2.2.2.1 se.toNatClampNeg (1 : Int32), vp_updL (vp_updL ms.2.2.2.2.2.2 (((3 : Int32) * se).toNatClampNeg) mw.1) ((((3 : Int32) * se) + (1 : Int32)).toNatClampNeg) mw.2.2.2.1) 0
                  ((0 : Int32), (upd ms.1 se.toNatClampNeg (1 : Int32), upd ms.2.1 se.toNatClampNeg sv, ms.2.2.1, ms.2.2.2.1, upd ms.2.2.2.2.1 se.toNatClampNeg (6 : Int32), upd ms.2.2.2.2.2.1 se.toNatClampNeg (1 : Int32), vp_updL (vp_updL (vp_updL ms.2.2.2.2.2.2 (((3 : Int32) * se).toNatClampNeg) mw.1) ((((3 : Int32) * se) + (1 : Int32)).toNatClampNeg) mw.2.2.2.1) ((((3 : Int32) * se) + (2 : Int32)).toNatClampNeg) q25.toInt64))
                else
                  ((0 : Int32), (upd ms.1 se.toNatClampNeg (1 : Int32), upd ms.2.1 se.toNatClampNeg sv, ms.2.2.1, ms.2.2.2.1, upd ms.2.2.2.2.1 se.toNatClampNeg (6 : Int32), ms.2.2.2.2.2.1, ms.2.2.2.2.2.2))
              else
                if (ms.2.2.2.2.2.1 se.toNatClampNeg) = 0 then
                  let q23 := fM_valueOf k mc mw mp me mo (upd ms.1 se.toNatClampNeg (1 : Int32), upd ms.2.1 se.toNatClampNeg sv, ms.2.2.1, ms.2.2.2.1, upd ms.2.2.2.2.1 se.toNatClampNeg ((ms.2.2.2.2.1 se.toNatClampNeg) + (1 : Int32)), upd ms.2.2.2.2.2.1 se.toNatClampNeg (1 : Int32), vp_updL (vp_updL ms.2.2.2.2.2.2 (((3 : Int32) * se).toNatClampNeg) mw.1) ((((3 : Int32) * se) + (1 : Int32)).toNatClampNeg) mw.2.2.2.1) 0
                  ((0 : Int32), (upd ms.1 se.toNatClampNeg (1 : Int32), upd ms.2.1 se.toNatClampNeg sv, ms.2.2.1, ms.2.2.2.1, upd ms.2.2.2.2.1 se.toNatClampNeg ((ms.2.2.2.2.1 se.toNatClampNeg) + (1 : Int32)), upd ms.2.2.2.2.2.1 se.toNatClampNeg (1 : Int32), vp_updL (vp_updL (vp_updL ms.2.2.2.2.2.2 (((3 : Int32) * se).toNatClampNeg) mw.1) ((((3 : Int32) * se) + (1 : Int32)).toNatClampNeg) mw.2.2.2.1) ((((3 : Int32) * se) + (2 : Int32)).toNatClampNeg) q23.toInt64))
                else
                  ((0 : Int32), (upd ms.1 se.toNatClampNeg (1 : Int32), upd ms.2.1 se.toNatClampNeg sv, ms.2.2.1, ms.2.2.2.1, upd ms.2.2.2.2.1 se.toNatClampNeg ((ms.2.2.2.2.1 se.toNatClampNeg) + (1 : Int32)), ms.2.2.2.2.2.1, ms.2.2.2.2.2.2))
            else
              if (ms.2.2.2.2.1 se.toNatClampNeg) = (6 : Int32) then
                ((0 : Int32), (upd ms.1 se.toNatClampNeg (1 : Int32), upd ms.2.1 se.toNatClampNeg sv, ms.2.2.1, ms.2.2.2.1, upd ms.2.2.2.2.1 se.toNatClampNeg (6 : Int32), ms.2.2.2.2.2.1, ms.2.2.2.2.2.2))
              else
                ((0 : Int32), (upd ms.1 se.toNatClampNeg (1 : Int32), upd ms.2.1 se.toNatClampNeg sv, ms.2.2.1, ms.2.2.2.1, upd ms.2.2.2.2.1 se.toNatClampNeg ((ms.2.2.2.2.1 se.toNatClampNeg) + (1 : Int32)), ms.2.2.2.2.2.1, ms.2.2.2.2.2.2))
          else
            if (ms.2.2.2.2.1 se.toNatClampNeg) = 0 then
              ((1 : Int32), (upd ms.1 se.toNatClampNeg (1 : Int32), upd ms.2.1 se.toNatClampNeg sv, upd ms.2.2.1 se.toNatClampNeg (1 : Int32), upd ms.2.2.2.1 se.toNatClampNeg sv, upd ms.2.2.2.2.1 se.toNatClampNeg (0 : Int32), ms.2.2.2.2.2.1, ms.2.2.2.2.2.2))
            else
              ((1 : Int32), (upd ms.1 se.toNatClampNeg (1 : Int32), upd ms.2.1 se.toNatClampNeg sv, upd ms.2.2.1 se.toNatClampNeg (1 : Int32), upd ms.2.2.2.1 se.toNatClampNeg sv, upd ms.2.2.2.2.1 se.toNatClampNeg ((ms.2.2.2.2.1 se.toNatClampNeg) - (1 : Int32)), ms.2.2.2.2.2.1, ms.2.2.2.2.2.2))
set_option maxRecDepth 100000 in
set_option maxHeartbeats 4000000 in
theorem ctM_sample (l : Launch) (D : va_G) (cZ cI cJ : ClassId) (tL tH : Nat) (sz : Nat) (bd : Nat → Nat) (k : Nat) (mc : McT) (mw : MwT) (mp : MpT) (me : MeT) (mo : MoT) (ms : MsT) (se : Int32) (sv : Int32)  (hk : 0 < k ∧ k ≤ 6) : Ct l yM_sample wM_sample ({ frames := 2, cells := 0, slots := 0, locals := 46 }) D (tyG cZ cI cJ) tL tH [.ref (bd 0), .int se, .int sv] sz [cMd bd k mc mw me mo, cIa cI (bd 1) 128 mp, cZa cZ (bd 2) 30 me.1, cJa cJ (bd 3) 30 me.2.1, cIa cI (bd 4) 30 me.2.2.1, cZa cZ (bd 5) 6 mo.1, cZa cZ (bd 6) 6 mo.2.1, cZa cZ (bd 7) 2 ms.1, cIa cI (bd 8) 2 ms.2.1, cZa cZ (bd 9) 2 ms.2.2.1, cIa cI (bd 10) 2 ms.2.2.2.1, cIa cI (bd 11) 2 ms.2.2.2.2.1, cZa cZ (bd 12) 2 ms.2.2.2.2.2.1, cJa cJ (bd 13) 6 ms.2.2.2.2.2.2, cJa cJ (bd 14) 16 mo.2.2.1] (fun _ : Unit => some (.int ((fM_sample k mc mw mp me mo ms se sv).1))) (fun _ : Unit => [cMd bd k mc mw me mo, cIa cI (bd 1) 128 mp, cZa cZ (bd 2) 30 me.1, cJa cJ (bd 3) 30 me.2.1, cIa cI (bd 4) 30 me.2.2.1, cZa cZ (bd 5) 6 mo.1, cZa cZ (bd 6) 6 mo.2.1, cZa cZ (bd 7) 2 (((fM_sample k mc mw mp me mo ms se sv).2).1), cIa cI (bd 8) 2 (((fM_sample k mc mw mp me mo ms se sv).2).2.1), cZa cZ (bd 9) 2 (((fM_sample k mc mw mp me mo ms se sv).2).2.2.1), cIa cI (bd 10) 2 (((fM_sample k mc mw mp me mo ms se sv).2).2.2.2.1), cIa cI (bd 11) 2 (((fM_sample k mc mw mp me mo ms se sv).2).2.2.2.2.1), cZa cZ (bd 12) 2 (((fM_sample k mc mw mp me mo ms se sv).2).2.2.2.2.2.1), cJa cJ (bd 13) 6 (((fM_sample k mc mw mp me mo ms se sv).2).2.2.2.2.2.2), cJa cJ (bd 14) 16 mo.2.2.1]) 0 0 := by
  refine k_go (by decide +kernel) (Nat.le_of_ble_eq_true rfl) ?_
  intro p e s m args below meth c A ls H hx hb hr hml hts hown hlk hnm hK hN hT hA hS hP hD hl
  have hown : s.vm.findClass "ToothWheelTimerModel" = some m.cls := hown
  have hlk : meth.locks = false := hlk
  have hl : lv_has ls 5 [(0, .ref (bd 0)), (1, .int se), (2, .int sv)] := hl
  refine lv_iload_n hx hb dM_sample_0 rfl (lv_at hl 1 rfl) ?_
  refine lv_iconst (v := (0 : Int32)) hx hb dM_sample_1 (by decide) ?_
  refine lv_iconst (v := (1 : Int32)) hx hb dM_sample_2 (by decide) ?_
  refine k_ca0 (wc := []) (wr := [cMd bd k mc mw me mo, cIa cI (bd 1) 128 mp, cZa cZ (bd 2) 30 me.1, cJa cJ (bd 3) 30 me.2.1, cIa cI (bd 4) 30 me.2.2.1, cZa cZ (bd 5) 6 mo.1, cZa cZ (bd 6) 6 mo.2.1, cZa cZ (bd 7) 2 ms.1, cIa cI (bd 8) 2 ms.2.1, cZa cZ (bd 9) 2 ms.2.2.1, cIa cI (bd 10) 2 ms.2.2.2.1, cIa cI (bd 11) 2 ms.2.2.2.2.1, cZa cZ (bd 12) 2 ms.2.2.2.2.2.1, cJa cJ (bd 13) 6 ms.2.2.2.2.2.2, cJa cJ (bd 14) 16 mo.2.2.1]) (va_runS (As := [.int se, .int (0 : Int32), .int (1 : Int32)]) (rest := []) ⟨hx, hb, hml, hown, hts⟩ (ctM_in l D cZ cI cJ tL tH H.size se (0 : Int32) (1 : Int32)) (cwM_78 hts hN rfl rfl ⟨Nat.le_of_ble_eq_true rfl, Nat.le_of_ble_eq_true rfl⟩) (k_pre hK hN hT hA hS hP hD [] rfl (by decide)) rfl rfl hl.1 rfl (lv_room (Nat.le_of_ble_eq_true rfl)) dM_sample_3 ⟨Nat.zero_le _, Nat.zero_le _⟩) hP hD hS hA [] [0, 1, 2, 3, 4, 5, 6, 7, 8, 9, 10, 11, 12, 13, 14] rfl rfl (by decide) (by decide) (fun _ H locs hP hD hS => ?_)
  refine W.eq (g2 := F0 m 6 ls [.int (fM_in se (0 : Int32) (1 : Int32))]) rfl ?_
  have hP : va_P D vwCl [cMd bd k mc mw me mo, cIa cI (bd 1) 128 mp, cZa cZ (bd 2) 30 me.1, cJa cJ (bd 3) 30 me.2.1, cIa cI (bd 4) 30 me.2.2.1, cZa cZ (bd 5) 6 mo.1, cZa cZ (bd 6) 6 mo.2.1, cZa cZ (bd 7) 2 ms.1, cIa cI (bd 8) 2 ms.2.1, cZa cZ (bd 9) 2 ms.2.2.1, cIa cI (bd 10) 2 ms.2.2.2.1, cIa cI (bd 11) 2 ms.2.2.2.2.1, cZa cZ (bd 12) 2 ms.2.2.2.2.2.1, cJa cJ (bd 13) 6 ms.2.2.2.2.2.2, cJa cJ (bd 14) 16 mo.2.2.1] H := hP
  have hD : va_D A [cMd bd k mc mw me mo, cIa cI (bd 1) 128 mp, cZa cZ (bd 2) 30 me.1, cJa cJ (bd 3) 30 me.2.1, cIa cI (bd 4) 30 me.2.2.1, cZa cZ (bd 5) 6 mo.1, cZa cZ (bd 6) 6 mo.2.1, cZa cZ (bd 7) 2 ms.1, cIa cI (bd 8) 2 ms.2.1, cZa cZ (bd 9) 2 ms.2.2.1, cIa cI (bd 10) 2 ms.2.2.2.1, cIa cI (bd 11) 2 ms.2.2.2.2.1, cZa cZ (bd 12) 2 ms.2.2.2.2.2.1, cJa cJ (bd 13) 6 ms.2.2.2.2.2.2, cJa cJ (bd 14) 16 mo.2.2.1] := hD
  generalize hq1 : fM_in se (0 : Int32) (1 : Int32) = q1 at ⊢
  refine lv_if_ne (tgt := 11) hx hb dM_sample_6 (by decide) (fun h2 => ?_) (fun h2 => ?_)
  · -- taken at 6
    refine lv_iload_n hx hb dM_sample_11 rfl (lv_at hl 2 rfl) ?_
    refine lv_bipush (v := (16 : Int32)) hx hb dM_sample_12 (by decide) ?_
    refine lv_sipush (v := (1007 : Int32)) hx hb dM_sample_14 (by decide) ?_
    refine k_ca0 (wc := []) (wr := [cMd bd k mc mw me mo, cIa cI (bd 1) 128 mp, cZa cZ (bd 2) 30 me.1, cJa cJ (bd 3) 30 me.2.1, cIa cI (bd 4) 30 me.2.2.1, cZa cZ (bd 5) 6 mo.1, cZa cZ (bd 6) 6 mo.2.1, cZa cZ (bd 7) 2 ms.1, cIa cI (bd 8) 2 ms.2.1, cZa cZ (bd 9) 2 ms.2.2.1, cIa cI (bd 10) 2 ms.2.2.2.1, cIa cI (bd 11) 2 ms.2.2.2.2.1, cZa cZ (bd 12) 2 ms.2.2.2.2.2.1, cJa cJ (bd 13) 6 ms.2.2.2.2.2.2, cJa cJ (bd 14) 16 mo.2.2.1]) (va_runS (As := [.int sv, .int (16 : Int32), .int (1007 : Int32)]) (rest := []) ⟨hx, hb, hml, hown, hts⟩ (ctM_in l D cZ cI cJ tL tH H.size sv (16 : Int32) (1007 : Int32)) (cwM_78 hts hN rfl rfl ⟨Nat.le_of_ble_eq_true rfl, Nat.le_of_ble_eq_true rfl⟩) (k_pre hK hN hT hA hS hP hD [] rfl (by decide)) rfl rfl hl.1 rfl (lv_room (Nat.le_of_ble_eq_true rfl)) dM_sample_17 ⟨Nat.zero_le _, Nat.zero_le _⟩) hP hD hS hA [] [0, 1, 2, 3, 4, 5, 6, 7, 8, 9, 10, 11, 12, 13, 14] rfl rfl (by decide) (by decide) (fun _ H locs hP hD hS => ?_)
    refine W.eq (g2 := F0 m 20 ls [.int (fM_in sv (16 : Int32) (1007 : Int32))]) rfl ?_
    have hP : va_P D vwCl [cMd bd k mc mw me mo, cIa cI (bd 1) 128 mp, cZa cZ (bd 2) 30 me.1, cJa cJ (bd 3) 30 me.2.1, cIa cI (bd 4) 30 me.2.2.1, cZa cZ (bd 5) 6 mo.1, cZa cZ (bd 6) 6 mo.2.1, cZa cZ (bd 7) 2 ms.1, cIa cI (bd 8) 2 ms.2.1, cZa cZ (bd 9) 2 ms.2.2.1, cIa cI (bd 10) 2 ms.2.2.2.1, cIa cI (bd 11) 2 ms.2.2.2.2.1, cZa cZ (bd 12) 2 ms.2.2.2.2.2.1, cJa cJ (bd 13) 6 ms.2.2.2.2.2.2, cJa cJ (bd 14) 16 mo.2.2.1] H := hP
    have hD : va_D A [cMd bd k mc mw me mo, cIa cI (bd 1) 128 mp, cZa cZ (bd 2) 30 me.1, cJa cJ (bd 3) 30 me.2.1, cIa cI (bd 4) 30 me.2.2.1, cZa cZ (bd 5) 6 mo.1, cZa cZ (bd 6) 6 mo.2.1, cZa cZ (bd 7) 2 ms.1, cIa cI (bd 8) 2 ms.2.1, cZa cZ (bd 9) 2 ms.2.2.1, cIa cI (bd 10) 2 ms.2.2.2.1, cIa cI (bd 11) 2 ms.2.2.2.2.1, cZa cZ (bd 12) 2 ms.2.2.2.2.2.1, cJa cJ (bd 13) 6 ms.2.2.2.2.2.2, cJa cJ (bd 14) 16 mo.2.2.1] := hD
    generalize hq3 : fM_in sv (16 : Int32) (1007 : Int32) = q3 at ⊢
    refine lv_istore_n (lv' := [(3, .int q3), (0, .ref (bd 0)), (1, .int se), (2, .int sv)]) hx hb dM_sample_20 rfl hl (by decide) rfl (fun ls hl => ?_)
    refine lv_iload_n hx hb dM_sample_21 rfl (lv_at hl 0 rfl) ?_
    refine lv_if_eq (tgt := 69) hx hb dM_sample_22 (by decide) (fun h4 => ?_) (fun h4 => ?_)
    · -- taken at 22
      refine lv_aload_n hx hb dM_sample_69 rfl (lv_at hl 1 rfl) ?_
      refine gfM_34 hx hb hts hown hN hK hP 0 rfl (v := .ref (bd 7)) rfl dM_sample_70 ?_
      refine lv_iload_n hx hb dM_sample_73 rfl (lv_at hl 2 rfl) ?_
      refine lv_iconst (v := (1 : Int32)) hx hb dM_sample_74 (by decide) ?_
      refine va_zast hx hb hK hP hD hS 7 0 rfl rfl (k_in01 hq1 h2) dM_sample_75 (fun H locs hP hD hS => ?_)
      rw [zn_nar (Or.inr rfl)] at hP hD
      have hP : va_P D vwCl [cMd bd k mc mw me mo, cIa cI (bd 1) 128 mp, cZa cZ (bd 2) 30 me.1, cJa cJ (bd 3) 30 me.2.1, cIa cI (bd 4) 30 me.2.2.1, cZa cZ (bd 5) 6 mo.1, cZa cZ (bd 6) 6 mo.2.1, cZa cZ (bd 7) 2 (upd ms.1 se.toNatClampNeg (1 : Int32)), cIa cI (bd 8) 2 ms.2.1, cZa cZ (bd 9) 2 ms.2.2.1, cIa cI (bd 10) 2 ms.2.2.2.1, cIa cI (bd 11) 2 ms.2.2.2.2.1, cZa cZ (bd 12) 2 ms.2.2.2.2.2.1, cJa cJ (bd 13) 6 ms.2.2.2.2.2.2, cJa cJ (bd 14) 16 mo.2.2.1] H := hP
      have hD : va_D A [cMd bd k mc mw me mo, cIa cI (bd 1) 128 mp, cZa cZ (bd 2) 30 me.1, cJa cJ (bd 3) 30 me.2.1, cIa cI (bd 4) 30 me.2.2.1, cZa cZ (bd 5) 6 mo.1, cZa cZ (bd 6) 6 mo.2.1, cZa cZ (bd 7) 2 (upd ms.1 se.toNatClampNeg (1 : Int32)), cIa cI (bd 8) 2 ms.2.1, cZa cZ (bd 9) 2 ms.2.2.1, cIa cI (bd 10) 2 ms.2.2.2.1, cIa cI (bd 11) 2 ms.2.2.2.2.1, cZa cZ (bd 12) 2 ms.2.2.2.2.2.1, cJa cJ (bd 13) 6 ms.2.2.2.2.2.2, cJa cJ (bd 14) 16 mo.2.2.1] := hD
      refine lv_aload_n hx hb dM_sample_76 rfl (lv_at hl 1 rfl) ?_
      refine gfM_37 hx hb hts hown hN hK hP 0 rfl (v := .ref (bd 8)) rfl dM_sample_77 ?_
      refine lv_iload_n hx hb dM_sample_80 rfl (lv_at hl 2 rfl) ?_
      refine lv_iload_n hx hb dM_sample_81 rfl (lv_at hl 3 rfl) ?_
      refine va_iast hx hb hK hP hD hS 8 1 rfl rfl (k_in01 hq1 h2) dM_sample_82 (fun H locs hP hD hS => ?_)
      have hP : va_P D vwCl [cMd bd k mc mw me mo, cIa cI (bd 1) 128 mp, cZa cZ (bd 2) 30 me.1, cJa cJ (bd 3) 30 me.2.1, cIa cI (bd 4) 30 me.2.2.1, cZa cZ (bd 5) 6 mo.1, cZa cZ (bd 6) 6 mo.2.1, cZa cZ (bd 7) 2 (upd ms.1 se.toNatClampNeg (1 : Int32)), cIa cI (bd 8) 2 (upd ms.2.1 se.toNatClampNeg sv), cZa cZ (bd 9) 2 ms.2.2.1, cIa cI (bd 10) 2 ms.2.2.2.1, cIa cI (bd 11) 2 ms.2.2.2.2.1, cZa cZ (bd 12) 2 ms.2.2.2.2.2.1, cJa cJ (bd 13) 6 ms.2.2.2.2.2.2, cJa cJ (bd 14) 16 mo.2.2.1] H := hP
      have hD : va_D A [cMd bd k mc mw me mo, cIa cI (bd 1) 128 mp, cZa cZ (bd 2) 30 me.1, cJa cJ (bd 3) 30 me.2.1, cIa cI (bd 4) 30 me.2.2.1, cZa cZ (bd 5) 6 mo.1, cZa cZ (bd 6) 6 mo.2.1, cZa cZ (bd 7) 2 (upd ms.1 se.toNatClampNeg (1 : Int32)), cIa cI (bd 8) 2 (upd ms.2.1 se.toNatClampNeg sv), cZa cZ (bd 9) 2 ms.2.2.1, cIa cI (bd 10) 2 ms.2.2.2.1, cIa cI (bd 11) 2 ms.2.2.2.2.1, cZa cZ (bd 12) 2 ms.2.2.2.2.2.1, cJa cJ (bd 13) 6 ms.2.2.2.2.2.2, cJa cJ (bd 14) 16 mo.2.2.1] := hD
      refine lv_iload_n hx hb dM_sample_83 rfl (lv_at hl 0 rfl) ?_
      refine lv_if_eq (tgt := 130) hx hb dM_sample_84 (by decide) (fun _ => ?_) (fun h0 => absurd h4 h0)
      refine lv_aload_n hx hb dM_sample_130 rfl (lv_at hl 1 rfl) ?_
      refine gfM_46 hx hb hts hown hN hK hP 0 rfl (v := .ref (bd 11)) rfl dM_sample_131 ?_
      refine lv_iload_n hx hb dM_sample_134 rfl (lv_at hl 2 rfl) ?_
      refine va_iald hx hb hK hP 11 1 rfl rfl (k_in01 hq1 h2) dM_sample_135 ?_
      refine lv_iconst (v := (2 : Int32)) hx hb dM_sample_136 (by decide) ?_
      refine lv_icmp_ne (tgt := 144) hx hb dM_sample_137 (by decide) (fun h5 => ?_) (fun h5 => ?_)
      · -- taken at 137
        refine lv_iconst (v := (0 : Int32)) hx hb dM_sample_144 (by decide) ?_
        refine lv_istore (lv' := [(4, .int (0 : Int32)), (3, .int q3), (0, .ref (bd 0)), (1, .int se), (2, .int sv)]) hx hb dM_sample_145 hl (by decide) rfl (fun ls hl => ?_)
        refine lv_aload_n hx hb dM_sample_147 rfl (lv_at hl 2 rfl) ?_
        refine gfM_46 hx hb hts hown hN hK hP 0 rfl (v := .ref (bd 11)) rfl dM_sample_148 ?_
        refine lv_iload_n hx hb dM_sample_151 rfl (lv_at hl 3 rfl) ?_
        refine lv_aload_n hx hb dM_sample_152 rfl (lv_at hl 2 rfl) ?_
        refine gfM_46 hx hb hts hown hN hK hP 0 rfl (v := .ref (bd 11)) rfl dM_sample_153 ?_
        refine lv_iload_n hx hb dM_sample_156 rfl (lv_at hl 3 rfl) ?_
        refine va_iald hx hb hK hP 11 1 rfl rfl (k_in01 hq1 h2) dM_sample_157 ?_
        refine lv_bipush (v := (6 : Int32)) hx hb dM_sample_158 (by decide) ?_
        refine lv_icmp_ne (tgt := 168) hx hb dM_sample_160 (by decide) (fun h6 => ?_) (fun h6 => ?_)
        · -- taken at 160
          refine lv_aload_n hx hb dM_sample_168 rfl (lv_at hl 2 rfl) ?_
          refine gfM_46 hx hb hts hown hN hK hP 0 rfl (v := .ref (bd 11)) rfl dM_sample_169 ?_
          refine lv_iload_n hx hb dM_sample_172 rfl (lv_at hl 3 rfl) ?_
          refine va_iald hx hb hK hP 11 1 rfl rfl (k_in01 hq1 h2) dM_sample_173 ?_
          refine lv_iconst (v := (1 : Int32)) hx hb dM_sample_174 (by decide) ?_
          refine lv_iadd hx hb dM_sample_175 ?_
          refine va_iast hx hb hK hP hD hS 11 1 rfl rfl (k_in01 hq1 h2) dM_sample_176 (fun H locs hP hD hS => ?_)
          have hP : va_P D vwCl [cMd bd k mc mw me mo, cIa cI (bd 1) 128 mp, cZa cZ (bd 2) 30 me.1, cJa cJ (bd 3) 30 me.2.1, cIa cI (bd 4) 30 me.2.2.1, cZa cZ (bd 5) 6 mo.1, cZa cZ (bd 6) 6 mo.2.1, cZa cZ (bd 7) 2 (upd ms.1 se.toNatClampNeg (1 : Int32)), cIa cI (bd 8) 2 (upd ms.2.1 se.toNatClampNeg sv), cZa cZ (bd 9) 2 ms.2.2.1, cIa cI (bd 10) 2 ms.2.2.2.1, cIa cI (bd 11) 2 (upd ms.2.2.2.2.1 se.toNatClampNeg ((ms.2.2.2.2.1 se.toNatClampNeg) + (1 : Int32))), cZa cZ (bd 12) 2 ms.2.2.2.2.2.1, cJa cJ (bd 13) 6 ms.2.2.2.2.2.2, cJa cJ (bd 14) 16 mo.2.2.1] H := hP
          have hD : va_D A [cMd bd k mc mw me mo, cIa cI (bd 1) 128 mp, cZa cZ (bd 2) 30 me.1, cJa cJ (bd 3) 30 me.2.1, cIa cI (bd 4) 30 me.2.2.1, cZa cZ (bd 5) 6 mo.1, cZa cZ (bd 6) 6 mo.2.1, cZa cZ (bd 7) 2 (upd ms.1 se.toNatClampNeg (1 : Int32)), cIa cI (bd 8) 2 (upd ms.2.1 se.toNatClampNeg sv), cZa cZ (bd 9) 2 ms.2.2.1, cIa cI (bd 10) 2 ms.2.2.2.1, cIa cI (bd 11) 2 (upd ms.2.2.2.2.1 se.toNatClampNeg ((ms.2.2.2.2.1 se.toNatClampNeg) + (1 : Int32))), cZa cZ (bd 12) 2 ms.2.2.2.2.2.1, cJa cJ (bd 13) 6 ms.2.2.2.2.2.2, cJa cJ (bd 14) 16 mo.2.2.1] := hD
          refine lv_iload hx hb dM_sample_177 (lv_at hl 0 rfl) ?_
          refine lv_if_eq (tgt := 240) hx hb dM_sample_179 (by decide) (fun _ => ?_) (fun h0 => absurd (by decide) h0)
          refine lv_iconst (v := (0 : Int32)) hx hb dM_sample_240 (by decide) ?_
          exact k_zret hx hb hr hlk (zn_b (Or.inl rfl)) hP hD hS dM_sample_241 () (by simp only [fM_sample, hq1, if_neg h2, hq3, if_pos h4, if_neg h5, if_neg h6]) (by simp only [fM_sample, hq1, if_neg h2, hq3, if_pos h4, if_neg h5, if_neg h6])
        · -- not taken at 160
          refine lv_bipush (v := (6 : Int32)) hx hb dM_sample_163 (by decide) ?_
          refine lv_goto (tgt := 176) hx hb dM_sample_165 (by decide) ?_
          refine va_iast hx hb hK hP hD hS 11 1 rfl rfl (k_in01 hq1 h2) dM_sample_176 (fun H locs hP hD hS => ?_)
          have hP : va_P D vwCl [cMd bd k mc mw me mo, cIa cI (bd 1) 128 mp, cZa cZ (bd 2) 30 me.1, cJa cJ (bd 3) 30 me.2.1, cIa cI (bd 4) 30 me.2.2.1, cZa cZ (bd 5) 6 mo.1, cZa cZ (bd 6) 6 mo.2.1, cZa cZ (bd 7) 2 (upd ms.1 se.toNatClampNeg (1 : Int32)), cIa cI (bd 8) 2 (upd ms.2.1 se.toNatClampNeg sv), cZa cZ (bd 9) 2 ms.2.2.1, cIa cI (bd 10) 2 ms.2.2.2.1, cIa cI (bd 11) 2 (upd ms.2.2.2.2.1 se.toNatClampNeg (6 : Int32)), cZa cZ (bd 12) 2 ms.2.2.2.2.2.1, cJa cJ (bd 13) 6 ms.2.2.2.2.2.2, cJa cJ (bd 14) 16 mo.2.2.1] H := hP
          have hD : va_D A [cMd bd k mc mw me mo, cIa cI (bd 1) 128 mp, cZa cZ (bd 2) 30 me.1, cJa cJ (bd 3) 30 me.2.1, cIa cI (bd 4) 30 me.2.2.1, cZa cZ (bd 5) 6 mo.1, cZa cZ (bd 6) 6 mo.2.1, cZa cZ (bd 7) 2 (upd ms.1 se.toNatClampNeg (1 : Int32)), cIa cI (bd 8) 2 (upd ms.2.1 se.toNatClampNeg sv), cZa cZ (bd 9) 2 ms.2.2.1, cIa cI (bd 10) 2 ms.2.2.2.1, cIa cI (bd 11) 2 (upd ms.2.2.2.2.1 se.toNatClampNeg (6 : Int32)), cZa cZ (bd 12) 2 ms.2.2.2.2.2.1, cJa cJ (bd 13) 6 ms.2.2.2.2.2.2, cJa cJ (bd 14) 16 mo.2.2.1] := hD
          refine lv_iload hx hb dM_sample_177 (lv_at hl 0 rfl) ?_
          refine lv_if_eq (tgt := 240) hx hb dM_sample_179 (by decide) (fun _ => ?_) (fun h0 => absurd (by decide) h0)
          refine lv_iconst (v := (0 : Int32)) hx hb dM_sample_240 (by decide) ?_
          exact k_zret hx hb hr hlk (zn_b (Or.inl rfl)) hP hD hS dM_sample_241 () (by simp only [fM_sample, hq1, if_neg h2, hq3, if_pos h4, if_neg h5, if_pos h6]) (by simp only [fM_sample, hq1, if_neg h2, hq3, if_pos h4, if_neg h5, if_pos h6])
      · -- not taken at 137
        refine lv_iconst (v := (1 : Int32)) hx hb dM_sample_140 (by decide) ?_
        refine lv_goto (tgt := 145) hx hb dM_sample_141 (by decide) ?_
        refine lv_istore (lv' := [(4, .int (1 : Int32)), (3, .int q3), (0, .ref (bd 0)), (1, .int se), (2, .int sv)]) hx hb dM_sample_145 hl (by decide) rfl (fun ls hl => ?_)
        refine lv_aload_n hx hb dM_sample_147 rfl (lv_at hl 2 rfl) ?_
        refine gfM_46 hx hb hts hown hN hK hP 0 rfl (v := .ref (bd 11)) rfl dM_sample_148 ?_
        refine lv_iload_n hx hb dM_sample_151 rfl (lv_at hl 3 rfl) ?_
        refine lv_aload_n hx hb dM_sample_152 rfl (lv_at hl 2 rfl) ?_
        refine gfM_46 hx hb hts hown hN hK hP 0 rfl (v := .ref (bd 11)) rfl dM_sample_153 ?_
        refine lv_iload_n hx hb dM_sample_156 rfl (lv_at hl 3 rfl) ?_
        refine va_iald hx hb hK hP 11 1 rfl rfl (k_in01 hq1 h2) dM_sample_157 ?_
        refine lv_bipush (v := (6 : Int32)) hx hb dM_sample_158 (by decide) ?_
        refine lv_icmp_ne (tgt := 168) hx hb dM_sample_160 (by decide) (fun h7 => ?_) (fun h7 => ?_)
        · -- taken at 160
          refine lv_aload_n hx hb dM_sample_168 rfl (lv_at hl 2 rfl) ?_
          refine gfM_46 hx hb hts hown hN hK hP 0 rfl (v := .ref (bd 11)) rfl dM_sample_169 ?_
          refine lv_iload_n hx hb dM_sample_172 rfl (lv_at hl 3 rfl) ?_
          refine va_iald hx hb hK hP 11 1 rfl rfl (k_in01 hq1 h2) dM_sample_173 ?_
          refine lv_iconst (v := (1 : Int32)) hx hb dM_sample_174 (by decide) ?_
          refine lv_iadd hx hb dM_sample_175 ?_
          refine va_iast hx hb hK hP hD hS 11 1 rfl rfl (k_in01 hq1 h2) dM_sample_176 (fun H locs hP hD hS => ?_)
          have hP : va_P D vwCl [cMd bd k mc mw me mo, cIa cI (bd 1) 128 mp, cZa cZ (bd 2) 30 me.1, cJa cJ (bd 3) 30 me.2.1, cIa cI (bd 4) 30 me.2.2.1, cZa cZ (bd 5) 6 mo.1, cZa cZ (bd 6) 6 mo.2.1, cZa cZ (bd 7) 2 (upd ms.1 se.toNatClampNeg (1 : Int32)), cIa cI (bd 8) 2 (upd ms.2.1 se.toNatClampNeg sv), cZa cZ (bd 9) 2 ms.2.2.1, cIa cI (bd 10) 2 ms.2.2.2.1, cIa cI (bd 11) 2 (upd ms.2.2.2.2.1 se.toNatClampNeg ((ms.2.2.2.2.1 se.toNatClampNeg) + (1 : Int32))), cZa cZ (bd 12) 2 ms.2.2.2.2.2.1, cJa cJ (bd 13) 6 ms.2.2.2.2.2.2, cJa cJ (bd 14) 16 mo.2.2.1] H := hP
          have hD : va_D A [cMd bd k mc mw me mo, cIa cI (bd 1) 128 mp, cZa cZ (bd 2) 30 me.1, cJa cJ (bd 3) 30 me.2.1, cIa cI (bd 4) 30 me.2.2.1, cZa cZ (bd 5) 6 mo.1, cZa cZ (bd 6) 6 mo.2.1, cZa cZ (bd 7) 2 (upd ms.1 se.toNatClampNeg (1 : Int32)), cIa cI (bd 8) 2 (upd ms.2.1 se.toNatClampNeg sv), cZa cZ (bd 9) 2 ms.2.2.1, cIa cI (bd 10) 2 ms.2.2.2.1, cIa cI (bd 11) 2 (upd ms.2.2.2.2.1 se.toNatClampNeg ((ms.2.2.2.2.1 se.toNatClampNeg) + (1 : Int32))), cZa cZ (bd 12) 2 ms.2.2.2.2.2.1, cJa cJ (bd 13) 6 ms.2.2.2.2.2.2, cJa cJ (bd 14) 16 mo.2.2.1] := hD
          refine lv_iload hx hb dM_sample_177 (lv_at hl 0 rfl) ?_
          refine lv_if_eq (tgt := 240) hx hb dM_sample_179 (by decide) (fun h0 => absurd h0 (by decide)) (fun _ => ?_)
          refine lv_aload_n hx hb dM_sample_182 rfl (lv_at hl 2 rfl) ?_
          refine gfM_49 hx hb hts hown hN hK hP 0 rfl (v := .ref (bd 12)) rfl dM_sample_183 ?_
          refine lv_iload_n hx hb dM_sample_186 rfl (lv_at hl 3 rfl) ?_
          refine va_zald hx hb hK hP 12 0 rfl rfl (k_in01 hq1 h2) dM_sample_187 ?_
          refine lv_if_ne (tgt := 240) hx hb dM_sample_188 (by decide) (fun h8 => ?_) (fun h8 => ?_)
          · -- taken at 188
            refine lv_iconst (v := (0 : Int32)) hx hb dM_sample_240 (by decide) ?_
            exact k_zret hx hb hr hlk (zn_b (Or.inl rfl)) hP hD hS dM_sample_241 () (by simp only [fM_sample, hq1, if_neg h2, hq3, if_pos h4, if_pos h5, if_neg h7, if_neg h8]) (by simp only [fM_sample, hq1, if_neg h2, hq3, if_pos h4, if_pos h5, if_neg h7, if_neg h8])
          · -- not taken at 188
            refine lv_aload_n hx hb dM_sample_191 rfl (lv_at hl 2 rfl) ?_
            refine gfM_49 hx hb hts hown hN hK hP 0 rfl (v := .ref (bd 12)) rfl dM_sample_192 ?_
            refine lv_iload_n hx hb dM_sample_195 rfl (lv_at hl 3 rfl) ?_
            refine lv_iconst (v := (1 : Int32)) hx hb dM_sample_196 (by decide) ?_
            refine va_zast hx hb hK hP hD hS 12 0 rfl rfl (k_in01 hq1 h2) dM_sample_197 (fun H locs hP hD hS => ?_)
            rw [zn_nar (Or.inr rfl)] at hP hD
            have hP : va_P D vwCl [cMd bd k mc mw me mo, cIa cI (bd 1) 128 mp, cZa cZ (bd 2) 30 me.1, cJa cJ (bd 3) 30 me.2.1, cIa cI (bd 4) 30 me.2.2.1, cZa cZ (bd 5) 6 mo.1, cZa cZ (bd 6) 6 mo.2.1, cZa cZ (bd 7) 2 (upd ms.1 se.toNatClampNeg (1 : Int32)), cIa cI (bd 8) 2 (upd ms.2.1 se.toNatClampNeg sv), cZa cZ (bd 9) 2 ms.2.2.1, cIa cI (bd 10) 2 ms.2.2.2.1, cIa cI (bd 11) 2 (upd ms.2.2.2.2.1 se.toNatClampNeg ((ms.2.2.2.2.1 se.toNatClampNeg) + (1 : Int32))), cZa cZ (bd 12) 2 (upd ms.2.2.2.2.2.1 se.toNatClampNeg (1 : Int32)), cJa cJ (bd 13) 6 ms.2.2.2.2.2.2, cJa cJ (bd 14) 16 mo.2.2.1] H := hP
            have hD : va_D A [cMd bd k mc mw me mo, cIa cI (bd 1) 128 mp, cZa cZ (bd 2) 30 me.1, cJa cJ (bd 3) 30 me.2.1, cIa cI (bd 4) 30 me.2.2.1, cZa cZ (bd 5) 6 mo.1, cZa cZ (bd 6) 6 mo.2.1, cZa cZ (bd 7) 2 (upd ms.1 se.toNatClampNeg (1 : Int32)), cIa cI (bd 8) 2 (upd ms.2.1 se.toNatClampNeg sv), cZa cZ (bd 9) 2 ms.2.2.1, cIa cI (bd 10) 2 ms.2.2.2.1, cIa cI (bd 11) 2 (upd ms.2.2.2.2.1 se.toNatClampNeg ((ms.2.2.2.2.1 se.toNatClampNeg) + (1 : Int32))), cZa cZ (bd 12) 2 (upd ms.2.2.2.2.2.1 se.toNatClampNeg (1 : Int32)), cJa cJ (bd 13) 6 ms.2.2.2.2.2.2, cJa cJ (bd 14) 16 mo.2.2.1] := hD
            refine lv_aload_n hx hb dM_sample_198 rfl (lv_at hl 2 rfl) ?_
            refine gfM_52 hx hb hts hown hN hK hP 0 rfl (v := .ref (bd 13)) rfl dM_sample_199 ?_
            refine lv_iconst (v := (3 : Int32)) hx hb dM_sample_202 (by decide) ?_
            refine lv_iload_n hx hb dM_sample_203 rfl (lv_at hl 3 rfl) ?_
            refine lv_imul hx hb dM_sample_204 ?_
            refine lv_aload_n hx hb dM_sample_205 rfl (lv_at hl 2 rfl) ?_
            refine gfM_111 hx hb hts hown hN hK hP 0 rfl (v := .long mw.1) rfl dM_sample_206 ?_
            refine va_last hx hb hK hP hD hS 13 2 rfl rfl (k_s0 (k_in01 hq1 h2)) dM_sample_209 (fun H locs hP hD hS => ?_)
            have hP : va_P D vwCl [cMd bd k mc mw me mo, cIa cI (bd 1) 128 mp, cZa cZ (bd 2) 30 me.1, cJa cJ (bd 3) 30 me.2.1, cIa cI (bd 4) 30 me.2.2.1, cZa cZ (bd 5) 6 mo.1, cZa cZ (bd 6) 6 mo.2.1, cZa cZ (bd 7) 2 (upd ms.1 se.toNatClampNeg (1 : Int32)), cIa cI (bd 8) 2 (upd ms.2.1 se.toNatClampNeg sv), cZa cZ (bd 9) 2 ms.2.2.1, cIa cI (bd 10) 2 ms.2.2.2.1, cIa cI (bd 11) 2 (upd ms.2.2.2.2.1 se.toNatClampNeg ((ms.2.2.2.2.1 se.toNatClampNeg) + (1 : Int32))), cZa cZ (bd 12) 2 (upd ms.2.2.2.2.2.1 se.toNatClampNeg (1 : Int32)), cJa cJ (bd 13) 6 (vp_updL ms.2.2.2.2.2.2 (((3 : Int32) * se).toNatClampNeg) mw.1), cJa cJ (bd 14) 16 mo.2.2.1] H := hP
            have hD : va_D A [cMd bd k mc mw me mo, cIa cI (bd 1) 128 mp, cZa cZ (bd 2) 30 me.1, cJa cJ (bd 3) 30 me.2.1, cIa cI (bd 4) 30 me.2.2.1, cZa cZ (bd 5) 6 mo.1, cZa cZ (bd 6) 6 mo.2.1, cZa cZ (bd 7) 2 (upd ms.1 se.toNatClampNeg (1 : Int32)), cIa cI (bd 8) 2 (upd ms.2.1 se.toNatClampNeg sv), cZa cZ (bd 9) 2 ms.2.2.1, cIa cI (bd 10) 2 ms.2.2.2.1, cIa cI (bd 11) 2 (upd ms.2.2.2.2.1 se.toNatClampNeg ((ms.2.2.2.2.1 se.toNatClampNeg) + (1 : Int32))), cZa cZ (bd 12) 2 (upd ms.2.2.2.2.2.1 se.toNatClampNeg (1 : Int32)), cJa cJ (bd 13) 6 (vp_updL ms.2.2.2.2.2.2 (((3 : Int32) * se).toNatClampNeg) mw.1), cJa cJ (bd 14) 16 mo.2.2.1] := hD
            refine lv_aload_n hx hb dM_sample_210 rfl (lv_at hl 2 rfl) ?_
            refine gfM_52 hx hb hts hown hN hK hP 0 rfl (v := .ref (bd 13)) rfl dM_sample_211 ?_
            refine lv_iconst (v := (3 : Int32)) hx hb dM_sample_214 (by decide) ?_
            refine lv_iload_n hx hb dM_sample_215 rfl (lv_at hl 3 rfl) ?_
            refine lv_imul hx hb dM_sample_216 ?_
            refine lv_iconst (v := (1 : Int32)) hx hb dM_sample_217 (by decide) ?_
            refine lv_iadd hx hb dM_sample_218 ?_
            refine lv_aload_n hx hb dM_sample_219 rfl (lv_at hl 2 rfl) ?_
            refine gfM_86 hx hb hts hown hN hK hP 0 rfl (v := .long mw.2.2.2.1) rfl dM_sample_220 ?_
            refine va_last hx hb hK hP hD hS 13 2 rfl rfl (k_s1 (k_in01 hq1 h2)) dM_sample_223 (fun H locs hP hD hS => ?_)
            have hP : va_P D vwCl [cMd bd k mc mw me mo, cIa cI (bd 1) 128 mp, cZa cZ (bd 2) 30 me.1, cJa cJ (bd 3) 30 me.2.1, cIa cI (bd 4) 30 me.2.2.1, cZa cZ (bd 5) 6 mo.1, cZa cZ (bd 6) 6 mo.2.1, cZa cZ (bd 7) 2 (upd ms.1 se.toNatClampNeg (1 : Int32)), cIa cI (bd 8) 2 (upd ms.2.1 se.toNatClampNeg sv), cZa cZ (bd 9) 2 ms.2.2.1, cIa cI (bd 10) 2 ms.2.2.2.1, cIa cI (bd 11) 2 (upd ms.2.2.2.2.1 se.toNatClampNeg ((ms.2.2.2.2.1 se.toNatClampNeg) + (1 : Int32))), cZa cZ (bd 12) 2 (upd ms.2.2.2.2.2.1 se.toNatClampNeg (1 : Int32)), cJa cJ (bd 13) 6 (vp_updL (vp_updL ms.2.2.2.2.2.2 (((3 : Int32) * se).toNatClampNeg) mw.1) ((((3 : Int32) * se) + (1 : Int32)).toNatClampNeg) mw.2.2.2.1), cJa cJ (bd 14) 16 mo.2.2.1] H := hP
            have hD : va_D A [cMd bd k mc mw me mo, cIa cI (bd 1) 128 mp, cZa cZ (bd 2) 30 me.1, cJa cJ (bd 3) 30 me.2.1, cIa cI (bd 4) 30 me.2.2.1, cZa cZ (bd 5) 6 mo.1, cZa cZ (bd 6) 6 mo.2.1, cZa cZ (bd 7) 2 (upd ms.1 se.toNatClampNeg (1 : Int32)), cIa cI (bd 8) 2 (upd ms.2.1 se.toNatClampNeg sv), cZa cZ (bd 9) 2 ms.2.2.1, cIa cI (bd 10) 2 ms.2.2.2.1, cIa cI (bd 11) 2 (upd ms.2.2.2.2.1 se.toNatClampNeg ((ms.2.2.2.2.1 se.toNatClampNeg) + (1 : Int32))), cZa cZ (bd 12) 2 (upd ms.2.2.2.2.2.1 se.toNatClampNeg (1 : Int32)), cJa cJ (bd 13) 6 (vp_updL (vp_updL ms.2.2.2.2.2.2 (((3 : Int32) * se).toNatClampNeg) mw.1) ((((3 : Int32) * se) + (1 : Int32)).toNatClampNeg) mw.2.2.2.1), cJa cJ (bd 14) 16 mo.2.2.1] := hD
            refine lv_aload_n hx hb dM_sample_224 rfl (lv_at hl 2 rfl) ?_
            refine gfM_52 hx hb hts hown hN hK hP 0 rfl (v := .ref (bd 13)) rfl dM_sample_225 ?_
            refine lv_iconst (v := (3 : Int32)) hx hb dM_sample_228 (by decide) ?_
            refine lv_iload_n hx hb dM_sample_229 rfl (lv_at hl 3 rfl) ?_
            refine lv_imul hx hb dM_sample_230 ?_
            refine lv_iconst (v := (2 : Int32)) hx hb dM_sample_231 (by decide) ?_
            refine lv_iadd hx hb dM_sample_232 ?_
            refine lv_aload_n hx hb dM_sample_233 rfl (lv_at hl 2 rfl) ?_
            refine lv_iconst (v := (0 : Int32)) hx hb dM_sample_234 (by decide) ?_
            refine k_ca0 (wc := [cMd bd k mc mw me mo, cIa cI (bd 1) 128 mp, cZa cZ (bd 2) 30 me.1, cJa cJ (bd 3) 30 me.2.1, cIa cI (bd 4) 30 me.2.2.1, cZa cZ (bd 5) 6 mo.1, cZa cZ (bd 6) 6 mo.2.1, cZa cZ (bd 7) 2 (upd ms.1 se.toNatClampNeg (1 : Int32)), cIa cI (bd 8) 2 (upd ms.2.1 se.toNatClampNeg sv), cZa cZ (bd 9) 2 ms.2.2.1, cIa cI (bd 10) 2 ms.2.2.2.1, cIa cI (bd 11) 2 (upd ms.2.2.2.2.1 se.toNatClampNeg ((ms.2.2.2.2.1 se.toNatClampNeg) + (1 : Int32))), cZa cZ (bd 12) 2 (upd ms.2.2.2.2.2.1 se.toNatClampNeg (1 : Int32)), cJa cJ (bd 13) 6 (vp_updL (vp_updL ms.2.2.2.2.2.2 (((3 : Int32) * se).toNatClampNeg) mw.1) ((((3 : Int32) * se) + (1 : Int32)).toNatClampNeg) mw.2.2.2.1), cJa cJ (bd 14) 16 mo.2.2.1]) (wr := []) (va_runV (As := [.int (nI 0)]) (rest := [.int (((3 : Int32) * se) + (2 : Int32)), .ref (bd 13)]) ⟨hx, hb, hml, hown, hts⟩ (ctM_valueOf l D cZ cI cJ tL tH H.size bd k mc mw mp me mo (upd ms.1 se.toNatClampNeg (1 : Int32), upd ms.2.1 se.toNatClampNeg sv, ms.2.2.1, ms.2.2.2.1, upd ms.2.2.2.2.1 se.toNatClampNeg ((ms.2.2.2.2.1 se.toNatClampNeg) + (1 : Int32)), upd ms.2.2.2.2.2.1 se.toNatClampNeg (1 : Int32), vp_updL (vp_updL ms.2.2.2.2.2.2 (((3 : Int32) * se).toNatClampNeg) mw.1) ((((3 : Int32) * se) + (1 : Int32)).toNatClampNeg) mw.2.2.2.1) 0 hk (by decide)) (cwM_92 hts hN rfl rfl ⟨Nat.le_of_ble_eq_true rfl, Nat.le_of_ble_eq_true rfl⟩) (k_preV hK hN hT hA hS hP hD [0, 1, 2, 3, 4, 5, 6, 7, 8, 9, 10, 11, 12, 13, 14] rfl (by decide) 0 rfl rfl) rfl rfl hl.1 rfl (lv_room (Nat.le_of_ble_eq_true rfl)) dM_sample_235 ⟨Nat.zero_le _, Nat.zero_le _⟩) hP hD hS hA [0, 1, 2, 3, 4, 5, 6, 7, 8, 9, 10, 11, 12, 13, 14] [] rfl rfl (by decide) (by decide) (fun _ H locs hP hD hS => ?_)
            refine W.eq (g2 := F0 m 238 ls [.int (fM_valueOf k mc mw mp me mo (upd ms.1 se.toNatClampNeg (1 : Int32), upd ms.2.1 se.toNatClampNeg sv, ms.2.2.1, ms.2.2.2.1, upd ms.2.2.2.2.1 se.toNatClampNeg ((ms.2.2.2.2.1 se.toNatClampNeg) + (1 : Int32)), upd ms.2.2.2.2.2.1 se.toNatClampNeg (1 : Int32), vp_updL (vp_updL ms.2.2.2.2.2.2 (((3 : Int32) * se).toNatClampNeg) mw.1) ((((3 : Int32) * se) + (1 : Int32)).toNatClampNeg) mw.2.2.2.1) 0), .int (((3 : Int32) * se) + (2 : Int32)), .ref (bd 13)]) rfl ?_
            have hP : va_P D vwCl [cMd bd k mc mw me mo, cIa cI (bd 1) 128 mp, cZa cZ (bd 2) 30 me.1, cJa cJ (bd 3) 30 me.2.1, cIa cI (bd 4) 30 me.2.2.1, cZa cZ (bd 5) 6 mo.1, cZa cZ (bd 6) 6 mo.2.1, cZa cZ (bd 7) 2 (upd ms.1 se.toNatClampNeg (1 : Int32)), cIa cI (bd 8) 2 (upd ms.2.1 se.toNatClampNeg sv), cZa cZ (bd 9) 2 ms.2.2.1, cIa cI (bd 10) 2 ms.2.2.2.1, cIa cI (bd 11) 2 (upd ms.2.2.2.2.1 se.toNatClampNeg ((ms.2.2.2.2.1 se.toNatClampNeg) + (1 : Int32))), cZa cZ (bd 12) 2 (upd ms.2.2.2.2.2.1 se.toNatClampNeg (1 : Int32)), cJa cJ (bd 13) 6 (vp_updL (vp_updL ms.2.2.2.2.2.2 (((3 : Int32) * se).toNatClampNeg) mw.1) ((((3 : Int32) * se) + (1 : Int32)).toNatClampNeg) mw.2.2.2.1), cJa cJ (bd 14) 16 mo.2.2.1] H := hP
            have hD : va_D A [cMd bd k mc mw me mo, cIa cI (bd 1) 128 mp, cZa cZ (bd 2) 30 me.1, cJa cJ (bd 3) 30 me.2.1, cIa cI (bd 4) 30 me.2.2.1, cZa cZ (bd 5) 6 mo.1, cZa cZ (bd 6) 6 mo.2.1, cZa cZ (bd 7) 2 (upd ms.1 se.toNatClampNeg (1 : Int32)), cIa cI (bd 8) 2 (upd ms.2.1 se.toNatClampNeg sv), cZa cZ (bd 9) 2 ms.2.2.1, cIa cI (bd 10) 2 ms.2.2.2.1, cIa cI (bd 11) 2 (upd ms.2.2.2.2.1 se.toNatClampNeg ((ms.2.2.2.2.1 se.toNatClampNeg) + (1 : Int32))), cZa cZ (bd 12) 2 (upd ms.2.2.2.2.2.1 se.toNatClampNeg (1 : Int32)), cJa cJ (bd 13) 6 (vp_updL (vp_updL ms.2.2.2.2.2.2 (((3 : Int32) * se).toNatClampNeg) mw.1) ((((3 : Int32) * se) + (1 : Int32)).toNatClampNeg) mw.2.2.2.1), cJa cJ (bd 14) 16 mo.2.2.1] := hD
            generalize hq9 : fM_valueOf k mc mw mp me mo (upd ms.1 se.toNatClampNeg (1 : Int32), upd ms.2.1 se.toNatClampNeg sv, ms.2.2.1, ms.2.2.2.1, upd ms.2.2.2.2.1 se.toNatClampNeg ((ms.2.2.2.2.1 se.toNatClampNeg) + (1 : Int32)), upd ms.2.2.2.2.2.1 se.toNatClampNeg (1 : Int32), vp_updL (vp_updL ms.2.2.2.2.2.2 (((3 : Int32) * se).toNatClampNeg) mw.1) ((((3 : Int32) * se) + (1 : Int32)).toNatClampNeg) mw.2.2.2.1) 0 = q9 at ⊢
            refine lv_i2l hx hb dM_sample_238 rfl ?_
            refine va_last hx hb hK hP hD hS 13 2 rfl rfl (k_s2 (k_in01 hq1 h2)) dM_sample_239 (fun H locs hP hD hS => ?_)
            have hP : va_P D vwCl [cMd bd k mc mw me mo, cIa cI (bd 1) 128 mp, cZa cZ (bd 2) 30 me.1, cJa cJ (bd 3) 30 me.2.1, cIa cI (bd 4) 30 me.2.2.1, cZa cZ (bd 5) 6 mo.1, cZa cZ (bd 6) 6 mo.2.1, cZa cZ (bd 7) 2 (upd ms.1 se.toNatClampNeg (1 : Int32)), cIa cI (bd 8) 2 (upd ms.2.1 se.toNatClampNeg sv), cZa cZ (bd 9) 2 ms.2.2.1, cIa cI (bd 10) 2 ms.2.2.2.1, cIa cI (bd 11) 2 (upd ms.2.2.2.2.1 se.toNatClampNeg ((ms.2.2.2.2.1 se.toNatClampNeg) + (1 : Int32))), cZa cZ (bd 12) 2 (upd ms.2.2.2.2.2.1 se.toNatClampNeg (1 : Int32)), cJa cJ (bd 13) 6 (vp_updL (vp_updL (vp_updL ms.2.2.2.2.2.2 (((3 : Int32) * se).toNatClampNeg) mw.1) ((((3 : Int32) * se) + (1 : Int32)).toNatClampNeg) mw.2.2.2.1) ((((3 : Int32) * se) + (2 : Int32)).toNatClampNeg) q9.toInt64), cJa cJ (bd 14) 16 mo.2.2.1] H := hP
            have hD : va_D A [cMd bd k mc mw me mo, cIa cI (bd 1) 128 mp, cZa cZ (bd 2) 30 me.1, cJa cJ (bd 3) 30 me.2.1, cIa cI (bd 4) 30 me.2.2.1, cZa cZ (bd 5) 6 mo.1, cZa cZ (bd 6) 6 mo.2.1, cZa cZ (bd 7) 2 (upd ms.1 se.toNatClampNeg (1 : Int32)), cIa cI (bd 8) 2 (upd ms.2.1 se.toNatClampNeg sv), cZa cZ (bd 9) 2 ms.2.2.1, cIa cI (bd 10) 2 ms.2.2.2.1, cIa cI (bd 11) 2 (upd ms.2.2.2.2.1 se.toNatClampNeg ((ms.2.2.2.2.1 se.toNatClampNeg) + (1 : Int32))), cZa cZ (bd 12) 2 (upd ms.2.2.2.2.2.1 se.toNatClampNeg (1 : Int32)), cJa cJ (bd 13) 6 (vp_updL (vp_updL (vp_updL ms.2.2.2.2.2.2 (((3 : Int32) * se).toNatClampNeg) mw.1) ((((3 : Int32) * se) + (1 : Int32)).toNatClampNeg) mw.2.2.2.1) ((((3 : Int32) * se) + (2 : Int32)).toNatClampNeg) q9.toInt64), cJa cJ (bd 14) 16 mo.2.2.1] := hD
            refine lv_iconst (v := (0 : Int32)) hx hb dM_sample_240 (by decide) ?_
            exact k_zret hx hb hr hlk (zn_b (Or.inl rfl)) hP hD hS dM_sample_241 () (by simp only [fM_sample, hq1, if_neg h2, hq3, if_pos h4, if_pos h5, if_neg h7, if_pos h8, hq9]) (by simp only [fM_sample, hq1, if_neg h2, hq3, if_pos h4, if_pos h5, if_neg h7, if_pos h8, hq9])
        · -- not taken at 160
          refine lv_bipush (v := (6 : Int32)) hx hb dM_sample_163 (by decide) ?_
          refine lv_goto (tgt := 176) hx hb dM_sample_165 (by decide) ?_
          refine va_iast hx hb hK hP hD hS 11 1 rfl rfl (k_in01 hq1 h2) dM_sample_176 (fun H locs hP hD hS => ?_)
          have hP : va_P D vwCl [cMd bd k mc mw me mo, cIa cI (bd 1) 128 mp, cZa cZ (bd 2) 30 me.1, cJa cJ (bd 3) 30 me.2.1, cIa cI (bd 4) 30 me.2.2.1, cZa cZ (bd 5) 6 mo.1, cZa cZ (bd 6) 6 mo.2.1, cZa cZ (bd 7) 2 (upd ms.1 se.toNatClampNeg (1 : Int32)), cIa cI (bd 8) 2 (upd ms.2.1 se.toNatClampNeg sv), cZa cZ (bd 9) 2 ms.2.2.1, cIa cI (bd 10) 2 ms.2.2.2.1, cIa cI (bd 11) 2 (upd ms.2.2.2.2.1 se.toNatClampNeg (6 : Int32)), cZa cZ (bd 12) 2 ms.2.2.2.2.2.1, cJa cJ (bd 13) 6 ms.2.2.2.2.2.2, cJa cJ (bd 14) 16 mo.2.2.1] H := hP
          have hD : va_D A [cMd bd k mc mw me mo, cIa cI (bd 1) 128 mp, cZa cZ (bd 2) 30 me.1, cJa cJ (bd 3) 30 me.2.1, cIa cI (bd 4) 30 me.2.2.1, cZa cZ (bd 5) 6 mo.1, cZa cZ (bd 6) 6 mo.2.1, cZa cZ (bd 7) 2 (upd ms.1 se.toNatClampNeg (1 : Int32)), cIa cI (bd 8) 2 (upd ms.2.1 se.toNatClampNeg sv), cZa cZ (bd 9) 2 ms.2.2.1, cIa cI (bd 10) 2 ms.2.2.2.1, cIa cI (bd 11) 2 (upd ms.2.2.2.2.1 se.toNatClampNeg (6 : Int32)), cZa cZ (bd 12) 2 ms.2.2.2.2.2.1, cJa cJ (bd 13) 6 ms.2.2.2.2.2.2, cJa cJ (bd 14) 16 mo.2.2.1] := hD
          refine lv_iload hx hb dM_sample_177 (lv_at hl 0 rfl) ?_
          refine lv_if_eq (tgt := 240) hx hb dM_sample_179 (by decide) (fun h0 => absurd h0 (by decide)) (fun _ => ?_)
          refine lv_aload_n hx hb dM_sample_182 rfl (lv_at hl 2 rfl) ?_
          refine gfM_49 hx hb hts hown hN hK hP 0 rfl (v := .ref (bd 12)) rfl dM_sample_183 ?_
          refine lv_iload_n hx hb dM_sample_186 rfl (lv_at hl 3 rfl) ?_
          refine va_zald hx hb hK hP 12 0 rfl rfl (k_in01 hq1 h2) dM_sample_187 ?_
          refine lv_if_ne (tgt := 240) hx hb dM_sample_188 (by decide) (fun h10 => ?_) (fun h10 => ?_)
          · -- taken at 188
            refine lv_iconst (v := (0 : Int32)) hx hb dM_sample_240 (by decide) ?_
            exact k_zret hx hb hr hlk (zn_b (Or.inl rfl)) hP hD hS dM_sample_241 () (by simp only [fM_sample, hq1, if_neg h2, hq3, if_pos h4, if_pos h5, if_pos h7, if_neg h10]) (by simp only [fM_sample, hq1, if_neg h2, hq3, if_pos h4, if_pos h5, if_pos h7, if_neg h10])
          · -- not taken at 188
            refine lv_aload_n hx hb dM_sample_191 rfl (lv_at hl 2 rfl) ?_
            refine gfM_49 hx hb hts hown hN hK hP 0 rfl (v := .ref (bd 12)) rfl dM_sample_192 ?_
            refine lv_iload_n hx hb dM_sample_195 rfl (lv_at hl 3 rfl) ?_
            refine lv_iconst (v := (1 : Int32)) hx hb dM_sample_196 (by decide) ?_
            refine va_zast hx hb hK hP hD hS 12 0 rfl rfl (k_in01 hq1 h2) dM_sample_197 (fun H locs hP hD hS => ?_)
            rw [zn_nar (Or.inr rfl)] at hP hD
            have hP : va_P D vwCl [cMd bd k mc mw me mo, cIa cI (bd 1) 128 mp, cZa cZ (bd 2) 30 me.1, cJa cJ (bd 3) 30 me.2.1, cIa cI (bd 4) 30 me.2.2.1, cZa cZ (bd 5) 6 mo.1, cZa cZ (bd 6) 6 mo.2.1, cZa cZ (bd 7) 2 (upd ms.1 se.toNatClampNeg (1 : Int32)), cIa cI (bd 8) 2 (upd ms.2.1 se.toNatClampNeg sv), cZa cZ (bd 9) 2 ms.2.2.1, cIa cI (bd 10) 2 ms.2.2.2.1, cIa cI (bd 11) 2 (upd ms.2.2.2.2.1 se.toNatClampNeg (6 : Int32)), cZa cZ (bd 12) 2 (upd ms.2.2.2.2.2.1 se.toNatClampNeg (1 : Int32)), cJa cJ (bd 13) 6 ms.2.2.2.2.2.2, cJa cJ (bd 14) 16 mo.2.2.1] H := hP
            have hD : va_D A [cMd bd k mc mw me mo, cIa cI (bd 1) 128 mp, cZa cZ (bd 2) 30 me.1, cJa cJ (bd 3) 30 me.2.1, cIa cI (bd 4) 30 me.2.2.1, cZa cZ (bd 5) 6 mo.1, cZa cZ (bd 6) 6 mo.2.1, cZa cZ (bd 7) 2 (upd ms.1 se.toNatClampNeg (1 : Int32)), cIa cI (bd 8) 2 (upd ms.2.1 se.toNatClampNeg sv), cZa cZ (bd 9) 2 ms.2.2.1, cIa cI (bd 10) 2 ms.2.2.2.1, cIa cI (bd 11) 2 (upd ms.2.2.2.2.1 se.toNatClampNeg (6 : Int32)), cZa cZ (bd 12) 2 (upd ms.2.2.2.2.2.1 se.toNatClampNeg (1 : Int32)), cJa cJ (bd 13) 6 ms.2.2.2.2.2.2, cJa cJ (bd 14) 16 mo.2.2.1] := hD
            refine lv_aload_n hx hb dM_sample_198 rfl (lv_at hl 2 rfl) ?_
            refine gfM_52 hx hb hts hown hN hK hP 0 rfl (v := .ref (bd 13)) rfl dM_sample_199 ?_
            refine lv_iconst (v := (3 : Int32)) hx hb dM_sample_202 (by decide) ?_
            refine lv_iload_n hx hb dM_sample_203 rfl (lv_at hl 3 rfl) ?_
            refine lv_imul hx hb dM_sample_204 ?_
            refine lv_aload_n hx hb dM_sample_205 rfl (lv_at hl 2 rfl) ?_
            refine gfM_111 hx hb hts hown hN hK hP 0 rfl (v := .long mw.1) rfl dM_sample_206 ?_
            refine va_last hx hb hK hP hD hS 13 2 rfl rfl (k_s0 (k_in01 hq1 h2)) dM_sample_209 (fun H locs hP hD hS => ?_)
            have hP : va_P D vwCl [cMd bd k mc mw me mo, cIa cI (bd 1) 128 mp, cZa cZ (bd 2) 30 me.1, cJa cJ (bd 3) 30 me.2.1, cIa cI (bd 4) 30 me.2.2.1, cZa cZ (bd 5) 6 mo.1, cZa cZ (bd 6) 6 mo.2.1, cZa cZ (bd 7) 2 (upd ms.1 se.toNatClampNeg (1 : Int32)), cIa cI (bd 8) 2 (upd ms.2.1 se.toNatClampNeg sv), cZa cZ (bd 9) 2 ms.2.2.1, cIa cI (bd 10) 2 ms.2.2.2.1, cIa cI (bd 11) 2 (upd ms.2.2.2.2.1 se.toNatClampNeg (6 : Int32)), cZa cZ (bd 12) 2 (upd ms.2.2.2.2.2.1 se.toNatClampNeg (1 : Int32)), cJa cJ (bd 13) 6 (vp_updL ms.2.2.2.2.2.2 (((3 : Int32) * se).toNatClampNeg) mw.1), cJa cJ (bd 14) 16 mo.2.2.1] H := hP
            have hD : va_D A [cMd bd k mc mw me mo, cIa cI (bd 1) 128 mp, cZa cZ (bd 2) 30 me.1, cJa cJ (bd 3) 30 me.2.1, cIa cI (bd 4) 30 me.2.2.1, cZa cZ (bd 5) 6 mo.1, cZa cZ (bd 6) 6 mo.2.1, cZa cZ (bd 7) 2 (upd ms.1 se.toNatClampNeg (1 : Int32)), cIa cI (bd 8) 2 (upd ms.2.1 se.toNatClampNeg sv), cZa cZ (bd 9) 2 ms.2.2.1, cIa cI (bd 10) 2 ms.2.2.2.1, cIa cI (bd 11) 2 (upd ms.2.2.2.2.1 se.toNatClampNeg (6 : Int32)), cZa cZ (bd 12) 2 (upd ms.2.2.2.2.2.1 se.toNatClampNeg (1 : Int32)), cJa cJ (bd 13) 6 (vp_updL ms.2.2.2.2.2.2 (((3 : Int32) * se).toNatClampNeg) mw.1), cJa cJ (bd 14) 16 mo.2.2.1] := hD
            refine lv_aload_n hx hb dM_sample_210 rfl (lv_at hl 2 rfl) ?_
            refine gfM_52 hx hb hts hown hN hK hP 0 rfl (v := .ref (bd 13)) rfl dM_sample_211 ?_
            refine lv_iconst (v := (3 : Int32)) hx hb dM_sample_214 (by decide) ?_
            refine lv_iload_n hx hb dM_sample_215 rfl (lv_at hl 3 rfl) ?_
            refine lv_imul hx hb dM_sample_216 ?_
            refine lv_iconst (v := (1 : Int32)) hx hb dM_sample_217 (by decide) ?_
            refine lv_iadd hx hb dM_sample_218 ?_
            refine lv_aload_n hx hb dM_sample_219 rfl (lv_at hl 2 rfl) ?_
            refine gfM_86 hx hb hts hown hN hK hP 0 rfl (v := .long mw.2.2.2.1) rfl dM_sample_220 ?_
            refine va_last hx hb hK hP hD hS 13 2 rfl rfl (k_s1 (k_in01 hq1 h2)) dM_sample_223 (fun H locs hP hD hS => ?_)
            have hP : va_P D vwCl [cMd bd k mc mw me mo, cIa cI (bd 1) 128 mp, cZa cZ (bd 2) 30 me.1, cJa cJ (bd 3) 30 me.2.1, cIa cI (bd 4) 30 me.2.2.1, cZa cZ (bd 5) 6 mo.1, cZa cZ (bd 6) 6 mo.2.1, cZa cZ (bd 7) 2 (upd ms.1 se.toNatClampNeg (1 : Int32)), cIa cI (bd 8) 2 (upd ms.2.1 se.toNatClampNeg sv), cZa cZ (bd 9) 2 ms.2.2.1, cIa cI (bd 10) 2 ms.2.2.2.1, cIa cI (bd 11) 2 (upd ms.2.2.2.2.1 se.toNatClampNeg (6 : Int32)), cZa cZ (bd 12) 2 (upd ms.2.2.2.2.2.1 se.toNatClampNeg (1 : Int32)), cJa cJ (bd 13) 6 (vp_updL (vp_updL ms.2.2.2.2.2.2 (((3 : Int32) * se).toNatClampNeg) mw.1) ((((3 : Int32) * se) + (1 : Int32)).toNatClampNeg) mw.2.2.2.1), cJa cJ (bd 14) 16 mo.2.2.1] H := hP
            have hD : va_D A [cMd bd k mc mw me mo, cIa cI (bd 1) 128 mp, cZa cZ (bd 2) 30 me.1, cJa cJ (bd 3) 30 me.2.1, cIa cI (bd 4) 30 me.2.2.1, cZa cZ (bd 5) 6 mo.1, cZa cZ (bd 6) 6 mo.2.1, cZa cZ (bd 7) 2 (upd ms.1 se.toNatClampNeg (1 : Int32)), cIa cI (bd 8) 2 (upd ms.2.1 se.toNatClampNeg sv), cZa cZ (bd 9) 2 ms.2.2.1, cIa cI (bd 10) 2 ms.2.2.2.1, cIa cI (bd 11) 2 (upd ms.2.2.2.2.1 se.toNatClampNeg (6 : Int32)), cZa cZ (bd 12) 2 (upd ms.2.2.2.2.2.1 se.toNatClampNeg (1 : Int32)), cJa cJ (bd 13) 6 (vp_updL (vp_updL ms.2.2.2.2.2.2 (((3 : Int32) * se).toNatClampNeg) mw.1) ((((3 : Int32) * se) + (1 : Int32)).toNatClampNeg) mw.2.2.2.1), cJa cJ (bd 14) 16 mo.2.2.1] := hD
            refine lv_aload_n hx hb dM_sample_224 rfl (lv_at hl 2 rfl) ?_
            refine gfM_52 hx hb hts hown hN hK hP 0 rfl (v := .ref (bd 13)) rfl dM_sample_225 ?_
            refine lv_iconst (v := (3 : Int32)) hx hb dM_sample_228 (by decide) ?_
            refine lv_iload_n hx hb dM_sample_229 rfl (lv_at hl 3 rfl) ?_
            refine lv_imul hx hb dM_sample_230 ?_
            refine lv_iconst (v := (2 : Int32)) hx hb dM_sample_231 (by decide) ?_
            refine lv_iadd hx hb dM_sample_232 ?_
            refine lv_aload_n hx hb dM_sample_233 rfl (lv_at hl 2 rfl) ?_
            refine lv_iconst (v := (0 : Int32)) hx hb dM_sample_234 (by decide) ?_
            refine k_ca0 (wc := [cMd bd k mc mw me mo, cIa cI (bd 1) 128 mp, cZa cZ (bd 2) 30 me.1, cJa cJ (bd 3) 30 me.2.1, cIa cI (bd 4) 30 me.2.2.1, cZa cZ (bd 5) 6 mo.1, cZa cZ (bd 6) 6 mo.2.1, cZa cZ (bd 7) 2 (upd ms.1 se.toNatClampNeg (1 : Int32)), cIa cI (bd 8) 2 (upd ms.2.1 se.toNatClampNeg sv), cZa cZ (bd 9) 2 ms.2.2.1, cIa cI (bd 10) 2 ms.2.2.2.1, cIa cI (bd 11) 2 (upd ms.2.2.2.2.1 se.toNatClampNeg (6 : Int32)), cZa cZ (bd 12) 2 (upd ms.2.2.2.2.2.1 se.toNatClampNeg (1 : Int32)), cJa cJ (bd 13) 6 (vp_updL (vp_updL ms.2.2.2.2.2.2 (((3 : Int32) * se).toNatClampNeg) mw.1) ((((3 : Int32) * se) + (1 : Int32)).toNatClampNeg) mw.2.2.2.1), cJa cJ (bd 14) 16 mo.2.2.1]) (wr := []) (va_runV (As := [.int (nI 0)]) (rest := [.int (((3 : Int32) * se) + (2 : Int32)), .ref (bd 13)]) ⟨hx, hb, hml, hown, hts⟩ (ctM_valueOf l D cZ cI cJ tL tH H.size bd k mc mw mp me mo (upd ms.1 se.toNatClampNeg (1 : Int32), upd ms.2.1 se.toNatClampNeg sv, ms.2.2.1, ms.2.2.2.1, upd ms.2.2.2.2.1 se.toNatClampNeg (6 : Int32), upd ms.2.2.2.2.2.1 se.toNatClampNeg (1 : Int32), vp_updL (vp_updL ms.2.2.2.2.2.2 (((3 : Int32) * se).toNatClampNeg) mw.1) ((((3 : Int32) * se) + (1 : Int32)).toNatClampNeg) mw.2.2.2.1) 0 hk (by decide)) (cwM_92 hts hN rfl rfl ⟨Nat.le_of_ble_eq_true rfl, Nat.le_of_ble_eq_true rfl⟩) (k_preV hK hN hT hA hS hP hD [0, 1, 2, 3, 4, 5, 6, 7, 8, 9, 10, 11, 12, 13, 14] rfl (by decide) 0 rfl rfl) rfl rfl hl.1 rfl (lv_room (Nat.le_of_ble_eq_true rfl)) dM_sample_235 ⟨Nat.zero_le _, Nat.zero_le _⟩) hP hD hS hA [0, 1, 2, 3, 4, 5, 6, 7, 8, 9, 10, 11, 12, 13, 14] [] rfl rfl (by decide) (by decide) (fun _ H locs hP hD hS => ?_)
            refine W.eq (g2 := F0 m 238 ls [.int (fM_valueOf k mc mw mp me mo (upd ms.1 se.toNatClampNeg (1 : Int32), upd ms.2.1 se.toNatClampNeg sv, ms.2.2.1, ms.2.2.2.1, upd ms.2.2.2.2.1 se.toNatClampNeg (6 : Int32), upd ms.2.2.2.2.2.1 se.toNatClampNeg (1 : Int32), vp_updL (vp_updL ms.2.2.2.2.2.2 (((3 : Int32) * se).toNatClampNeg) mw.1) ((((3 : Int32) * se) + (1 : Int32)).toNatClampNeg) mw.2.2.2.1) 0), .int (((3 : Int32) * se) + (2 : Int32)), .ref (bd 13)]) rfl ?_
            have hP : va_P D vwCl [cMd bd k mc mw me mo, cIa cI (bd 1) 128 mp, cZa cZ (bd 2) 30 me.1, cJa cJ (bd 3) 30 me.2.1, cIa cI (bd 4) 30 me.2.2.1, cZa cZ (bd 5) 6 mo.1, cZa cZ (bd 6) 6 mo.2.1, cZa cZ (bd 7) 2 (upd ms.1 se.toNatClampNeg (1 : Int32)), cIa cI (bd 8) 2 (upd ms.2.1 se.toNatClampNeg sv), cZa cZ (bd 9) 2 ms.2.2.1, cIa cI (bd 10) 2 ms.2.2.2.1, cIa cI (bd 11) 2 (upd ms.2.2.2.2.1 se.toNatClampNeg (6 : Int32)), cZa cZ (bd 12) 2 (upd ms.2.2.2.2.2.1 se.toNatClampNeg (1 : Int32)), cJa cJ (bd 13) 6 (vp_updL (vp_updL ms.2.2.2.2.2.2 (((3 : Int32) * se).toNatClampNeg) mw.1) ((((3 : Int32) * se) + (1 : Int32)).toNatClampNeg) mw.2.2.2.1), cJa cJ (bd 14) 16 mo.2.2.1] H := hP
            have hD : va_D A [cMd bd k mc mw me mo, cIa cI (bd 1) 128 mp, cZa cZ (bd 2) 30 me.1, cJa cJ (bd 3) 30 me.2.1, cIa cI (bd 4) 30 me.2.2.1, cZa cZ (bd 5) 6 mo.1, cZa cZ (bd 6) 6 mo.2.1, cZa cZ (bd 7) 2 (upd ms.1 se.toNatClampNeg (1 : Int32)), cIa cI (bd 8) 2 (upd ms.2.1 se.toNatClampNeg sv), cZa cZ (bd 9) 2 ms.2.2.1, cIa cI (bd 10) 2 ms.2.2.2.1, cIa cI (bd 11) 2 (upd ms.2.2.2.2.1 se.toNatClampNeg (6 : Int32)), cZa cZ (bd 12) 2 (upd ms.2.2.2.2.2.1 se.toNatClampNeg (1 : Int32)), cJa cJ (bd 13) 6 (vp_updL (vp_updL ms.2.2.2.2.2.2 (((3 : Int32) * se).toNatClampNeg) mw.1) ((((3 : Int32) * se) + (1 : Int32)).toNatClampNeg) mw.2.2.2.1), cJa cJ (bd 14) 16 mo.2.2.1] := hD
            generalize hq11 : fM_valueOf k mc mw mp me mo (upd ms.1 se.toNatClampNeg (1 : Int32), upd ms.2.1 se.toNatClampNeg sv, ms.2.2.1, ms.2.2.2.1, upd ms.2.2.2.2.1 se.toNatClampNeg (6 : Int32), upd ms.2.2.2.2.2.1 se.toNatClampNeg (1 : Int32), vp_updL (vp_updL ms.2.2.2.2.2.2 (((3 : Int32) * se).toNatClampNeg) mw.1) ((((3 : Int32) * se) + (1 : Int32)).toNatClampNeg) mw.2.2.2.1) 0 = q11 at ⊢
            refine lv_i2l hx hb dM_sample_238 rfl ?_
            refine va_last hx hb hK hP hD hS 13 2 rfl rfl (k_s2 (k_in01 hq1 h2)) dM_sample_239 (fun H locs hP hD hS => ?_)
            have hP : va_P D vwCl [cMd bd k mc mw me mo, cIa cI (bd 1) 128 mp, cZa cZ (bd 2) 30 me.1, cJa cJ (bd 3) 30 me.2.1, cIa cI (bd 4) 30 me.2.2.1, cZa cZ (bd 5) 6 mo.1, cZa cZ (bd 6) 6 mo.2.1, cZa cZ (bd 7) 2 (upd ms.1 se.toNatClampNeg (1 : Int32)), cIa cI (bd 8) 2 (upd ms.2.1 se.toNatClampNeg sv), cZa cZ (bd 9) 2 ms.2.2.1, cIa cI (bd 10) 2 ms.2.2.2.1, cIa cI (bd 11) 2 (upd ms.2.2.2.2.1 se.toNatClampNeg (6 : Int32)), cZa cZ (bd 12) 2 (upd ms.2.2.2.2.2.1 se.toNatClampNeg (1 : Int32)), cJa cJ (bd 13) 6 (vp_updL (vp_updL (vp_updL ms.2.2.2.2.2.2 (((3 : Int32) * se).toNatClampNeg) mw.1) ((((3 : Int32) * se) + (1 : Int32)).toNatClampNeg) mw.2.2.2.1) ((((3 : Int32) * se) + (2 : Int32)).toNatClampNeg) q11.toInt64), cJa cJ (bd 14) 16 mo.2.2.1] H := hP
            have hD : va_D A [cMd bd k mc mw me mo, cIa cI (bd 1) 128 mp, cZa cZ (bd 2) 30 me.1, cJa cJ (bd 3) 30 me.2.1, cIa cI (bd 4) 30 me.2.2.1, cZa cZ (bd 5) 6 mo.1, cZa cZ (bd 6) 6 mo.2.1, cZa cZ (bd 7) 2 (upd ms.1 se.toNatClampNeg (1 : Int32)), cIa cI (bd 8) 2 (upd ms.2.1 se.toNatClampNeg sv), cZa cZ (bd 9) 2 ms.2.2.1, cIa cI (bd 10) 2 ms.2.2.2.1, cIa cI (bd 11) 2 (upd ms.2.2.2.2.1 se.toNatClampNeg (6 : Int32)), cZa cZ (bd 12) 2 (upd ms.2.2.2.2.2.1 se.toNatClampNeg (1 : Int32)), cJa cJ (bd 13) 6 (vp_updL (vp_updL (vp_updL ms.2.2.2.2.2.2 (((3 : Int32) * se).toNatClampNeg) mw.1) ((((3 : Int32) * se) + (1 : Int32)).toNatClampNeg) mw.2.2.2.1) ((((3 : Int32) * se) + (2 : Int32)).toNatClampNeg) q11.toInt64), cJa cJ (bd 14) 16 mo.2.2.1] := hD
            refine lv_iconst (v := (0 : Int32)) hx hb dM_sample_240 (by decide) ?_
            exact k_zret hx hb hr hlk (zn_b (Or.inl rfl)) hP hD hS dM_sample_241 () (by simp only [fM_sample, hq1, if_neg h2, hq3, if_pos h4, if_pos h5, if_pos h7, if_pos h10, hq11]) (by simp only [fM_sample, hq1, if_neg h2, hq3, if_pos h4, if_pos h5, if_pos h7, if_pos h10, hq11])
    · -- not taken at 22
      refine lv_aload_n hx hb dM_sample_25 rfl (lv_at hl 1 rfl) ?_
      refine gfM_34 hx hb hts hown hN hK hP 0 rfl (v := .ref (bd 7)) rfl dM_sample_26 ?_
      refine lv_iload_n hx hb dM_sample_29 rfl (lv_at hl 2 rfl) ?_
      refine va_zald hx hb hK hP 7 0 rfl rfl (k_in01 hq1 h2) dM_sample_30 ?_
      refine lv_if_eq (tgt := 69) hx hb dM_sample_31 (by decide) (fun h12 => ?_) (fun h12 => ?_)
      · -- taken at 31
        refine lv_aload_n hx hb dM_sample_69 rfl (lv_at hl 1 rfl) ?_
        refine gfM_34 hx hb hts hown hN hK hP 0 rfl (v := .ref (bd 7)) rfl dM_sample_70 ?_
        refine lv_iload_n hx hb dM_sample_73 rfl (lv_at hl 2 rfl) ?_
        refine lv_iconst (v := (1 : Int32)) hx hb dM_sample_74 (by decide) ?_
        refine va_zast hx hb hK hP hD hS 7 0 rfl rfl (k_in01 hq1 h2) dM_sample_75 (fun H locs hP hD hS => ?_)
        rw [zn_nar (Or.inr rfl)] at hP hD
        have hP : va_P D vwCl [cMd bd k mc mw me mo, cIa cI (bd 1) 128 mp, cZa cZ (bd 2) 30 me.1, cJa cJ (bd 3) 30 me.2.1, cIa cI (bd 4) 30 me.2.2.1, cZa cZ (bd 5) 6 mo.1, cZa cZ (bd 6) 6 mo.2.1, cZa cZ (bd 7) 2 (upd ms.1 se.toNatClampNeg (1 : Int32)), cIa cI (bd 8) 2 ms.2.1, cZa cZ (bd 9) 2 ms.2.2.1, cIa cI (bd 10) 2 ms.2.2.2.1, cIa cI (bd 11) 2 ms.2.2.2.2.1, cZa cZ (bd 12) 2 ms.2.2.2.2.2.1, cJa cJ (bd 13) 6 ms.2.2.2.2.2.2, cJa cJ (bd 14) 16 mo.2.2.1] H := hP
        have hD : va_D A [cMd bd k mc mw me mo, cIa cI (bd 1) 128 mp, cZa cZ (bd 2) 30 me.1, cJa cJ (bd 3) 30 me.2.1, cIa cI (bd 4) 30 me.2.2.1, cZa cZ (bd 5) 6 mo.1, cZa cZ (bd 6) 6 mo.2.1, cZa cZ (bd 7) 2 (upd ms.1 se.toNatClampNeg (1 : Int32)), cIa cI (bd 8) 2 ms.2.1, cZa cZ (bd 9) 2 ms.2.2.1, cIa cI (bd 10) 2 ms.2.2.2.1, cIa cI (bd 11) 2 ms.2.2.2.2.1, cZa cZ (bd 12) 2 ms.2.2.2.2.2.1, cJa cJ (bd 13) 6 ms.2.2.2.2.2.2, cJa cJ (bd 14) 16 mo.2.2.1] := hD
        refine lv_aload_n hx hb dM_sample_76 rfl (lv_at hl 1 rfl) ?_
        refine gfM_37 hx hb hts hown hN hK hP 0 rfl (v := .ref (bd 8)) rfl dM_sample_77 ?_
        refine lv_iload_n hx hb dM_sample_80 rfl (lv_at hl 2 rfl) ?_
        refine lv_iload_n hx hb dM_sample_81 rfl (lv_at hl 3 rfl) ?_
        refine va_iast hx hb hK hP hD hS 8 1 rfl rfl (k_in01 hq1 h2) dM_sample_82 (fun H locs hP hD hS => ?_)
        have hP : va_P D vwCl [cMd bd k mc mw me mo, cIa cI (bd 1) 128 mp, cZa cZ (bd 2) 30 me.1, cJa cJ (bd 3) 30 me.2.1, cIa cI (bd 4) 30 me.2.2.1, cZa cZ (bd 5) 6 mo.1, cZa cZ (bd 6) 6 mo.2.1, cZa cZ (bd 7) 2 (upd ms.1 se.toNatClampNeg (1 : Int32)), cIa cI (bd 8) 2 (upd ms.2.1 se.toNatClampNeg sv), cZa cZ (bd 9) 2 ms.2.2.1, cIa cI (bd 10) 2 ms.2.2.2.1, cIa cI (bd 11) 2 ms.2.2.2.2.1, cZa cZ (bd 12) 2 ms.2.2.2.2.2.1, cJa cJ (bd 13) 6 ms.2.2.2.2.2.2, cJa cJ (bd 14) 16 mo.2.2.1] H := hP
        have hD : va_D A [cMd bd k mc mw me mo, cIa cI (bd 1) 128 mp, cZa cZ (bd 2) 30 me.1, cJa cJ (bd 3) 30 me.2.1, cIa cI (bd 4) 30 me.2.2.1, cZa cZ (bd 5) 6 mo.1, cZa cZ (bd 6) 6 mo.2.1, cZa cZ (bd 7) 2 (upd ms.1 se.toNatClampNeg (1 : Int32)), cIa cI (bd 8) 2 (upd ms.2.1 se.toNatClampNeg sv), cZa cZ (bd 9) 2 ms.2.2.1, cIa cI (bd 10) 2 ms.2.2.2.1, cIa cI (bd 11) 2 ms.2.2.2.2.1, cZa cZ (bd 12) 2 ms.2.2.2.2.2.1, cJa cJ (bd 13) 6 ms.2.2.2.2.2.2, cJa cJ (bd 14) 16 mo.2.2.1] := hD
        refine lv_iload_n hx hb dM_sample_83 rfl (lv_at hl 0 rfl) ?_
        refine lv_if_eq (tgt := 130) hx hb dM_sample_84 (by decide) (fun h0 => absurd h0 h4) (fun _ => ?_)
        refine lv_aload_n hx hb dM_sample_87 rfl (lv_at hl 1 rfl) ?_
        refine gfM_40 hx hb hts hown hN hK hP 0 rfl (v := .ref (bd 9)) rfl dM_sample_88 ?_
        refine lv_iload_n hx hb dM_sample_91 rfl (lv_at hl 2 rfl) ?_
        refine lv_iconst (v := (1 : Int32)) hx hb dM_sample_92 (by decide) ?_
        refine va_zast hx hb hK hP hD hS 9 0 rfl rfl (k_in01 hq1 h2) dM_sample_93 (fun H locs hP hD hS => ?_)
        rw [zn_nar (Or.inr rfl)] at hP hD
        have hP : va_P D vwCl [cMd bd k mc mw me mo, cIa cI (bd 1) 128 mp, cZa cZ (bd 2) 30 me.1, cJa cJ (bd 3) 30 me.2.1, cIa cI (bd 4) 30 me.2.2.1, cZa cZ (bd 5) 6 mo.1, cZa cZ (bd 6) 6 mo.2.1, cZa cZ (bd 7) 2 (upd ms.1 se.toNatClampNeg (1 : Int32)), cIa cI (bd 8) 2 (upd ms.2.1 se.toNatClampNeg sv), cZa cZ (bd 9) 2 (upd ms.2.2.1 se.toNatClampNeg (1 : Int32)), cIa cI (bd 10) 2 ms.2.2.2.1, cIa cI (bd 11) 2 ms.2.2.2.2.1, cZa cZ (bd 12) 2 ms.2.2.2.2.2.1, cJa cJ (bd 13) 6 ms.2.2.2.2.2.2, cJa cJ (bd 14) 16 mo.2.2.1] H := hP
        have hD : va_D A [cMd bd k mc mw me mo, cIa cI (bd 1) 128 mp, cZa cZ (bd 2) 30 me.1, cJa cJ (bd 3) 30 me.2.1, cIa cI (bd 4) 30 me.2.2.1, cZa cZ (bd 5) 6 mo.1, cZa cZ (bd 6) 6 mo.2.1, cZa cZ (bd 7) 2 (upd ms.1 se.toNatClampNeg (1 : Int32)), cIa cI (bd 8) 2 (upd ms.2.1 se.toNatClampNeg sv), cZa cZ (bd 9) 2 (upd ms.2.2.1 se.toNatClampNeg (1 : Int32)), cIa cI (bd 10) 2 ms.2.2.2.1, cIa cI (bd 11) 2 ms.2.2.2.2.1, cZa cZ (bd 12) 2 ms.2.2.2.2.2.1, cJa cJ (bd 13) 6 ms.2.2.2.2.2.2, cJa cJ (bd 14) 16 mo.2.2.1] := hD
        refine lv_aload_n hx hb dM_sample_94 rfl (lv_at hl 1 rfl) ?_
        refine gfM_43 hx hb hts hown hN hK hP 0 rfl (v := .ref (bd 10)) rfl dM_sample_95 ?_
        refine lv_iload_n hx hb dM_sample_98 rfl (lv_at hl 2 rfl) ?_
        refine lv_iload_n hx hb dM_sample_99 rfl (lv_at hl 3 rfl) ?_
        refine va_iast hx hb hK hP hD hS 10 1 rfl rfl (k_in01 hq1 h2) dM_sample_100 (fun H locs hP hD hS => ?_)
        have hP : va_P D vwCl [cMd bd k mc mw me mo, cIa cI (bd 1) 128 mp, cZa cZ (bd 2) 30 me.1, cJa cJ (bd 3) 30 me.2.1, cIa cI (bd 4) 30 me.2.2.1, cZa cZ (bd 5) 6 mo.1, cZa cZ (bd 6) 6 mo.2.1, cZa cZ (bd 7) 2 (upd ms.1 se.toNatClampNeg (1 : Int32)), cIa cI (bd 8) 2 (upd ms.2.1 se.toNatClampNeg sv), cZa cZ (bd 9) 2 (upd ms.2.2.1 se.toNatClampNeg (1 : Int32)), cIa cI (bd 10) 2 (upd ms.2.2.2.1 se.toNatClampNeg sv), cIa cI (bd 11) 2 ms.2.2.2.2.1, cZa cZ (bd 12) 2 ms.2.2.2.2.2.1, cJa cJ (bd 13) 6 ms.2.2.2.2.2.2, cJa cJ (bd 14) 16 mo.2.2.1] H := hP
        have hD : va_D A [cMd bd k mc mw me mo, cIa cI (bd 1) 128 mp, cZa cZ (bd 2) 30 me.1, cJa cJ (bd 3) 30 me.2.1, cIa cI (bd 4) 30 me.2.2.1, cZa cZ (bd 5) 6 mo.1, cZa cZ (bd 6) 6 mo.2.1, cZa cZ (bd 7) 2 (upd ms.1 se.toNatClampNeg (1 : Int32)), cIa cI (bd 8) 2 (upd ms.2.1 se.toNatClampNeg sv), cZa cZ (bd 9) 2 (upd ms.2.2.1 se.toNatClampNeg (1 : Int32)), cIa cI (bd 10) 2 (upd ms.2.2.2.1 se.toNatClampNeg sv), cIa cI (bd 11) 2 ms.2.2.2.2.1, cZa cZ (bd 12) 2 ms.2.2.2.2.2.1, cJa cJ (bd 13) 6 ms.2.2.2.2.2.2, cJa cJ (bd 14) 16 mo.2.2.1] := hD
        refine lv_aload_n hx hb dM_sample_101 rfl (lv_at hl 1 rfl) ?_
        refine gfM_46 hx hb hts hown hN hK hP 0 rfl (v := .ref (bd 11)) rfl dM_sample_102 ?_
        refine lv_iload_n hx hb dM_sample_105 rfl (lv_at hl 2 rfl) ?_
        refine lv_aload_n hx hb dM_sample_106 rfl (lv_at hl 1 rfl) ?_
        refine gfM_46 hx hb hts hown hN hK hP 0 rfl (v := .ref (bd 11)) rfl dM_sample_107 ?_
        refine lv_iload_n hx hb dM_sample_110 rfl (lv_at hl 2 rfl) ?_
        refine va_iald hx hb hK hP 11 1 rfl rfl (k_in01 hq1 h2) dM_sample_111 ?_
        refine lv_if_ne (tgt := 119) hx hb dM_sample_112 (by decide) (fun h13 => ?_) (fun h13 => ?_)
        · -- taken at 112
          refine lv_aload_n hx hb dM_sample_119 rfl (lv_at hl 1 rfl) ?_
          refine gfM_46 hx hb hts hown hN hK hP 0 rfl (v := .ref (bd 11)) rfl dM_sample_120 ?_
          refine lv_iload_n hx hb dM_sample_123 rfl (lv_at hl 2 rfl) ?_
          refine va_iald hx hb hK hP 11 1 rfl rfl (k_in01 hq1 h2) dM_sample_124 ?_
          refine lv_iconst (v := (1 : Int32)) hx hb dM_sample_125 (by decide) ?_
          refine lv_isub hx hb dM_sample_126 ?_
          refine va_iast hx hb hK hP hD hS 11 1 rfl rfl (k_in01 hq1 h2) dM_sample_127 (fun H locs hP hD hS => ?_)
          have hP : va_P D vwCl [cMd bd k mc mw me mo, cIa cI (bd 1) 128 mp, cZa cZ (bd 2) 30 me.1, cJa cJ (bd 3) 30 me.2.1, cIa cI (bd 4) 30 me.2.2.1, cZa cZ (bd 5) 6 mo.1, cZa cZ (bd 6) 6 mo.2.1, cZa cZ (bd 7) 2 (upd ms.1 se.toNatClampNeg (1 : Int32)), cIa cI (bd 8) 2 (upd ms.2.1 se.toNatClampNeg sv), cZa cZ (bd 9) 2 (upd ms.2.2.1 se.toNatClampNeg (1 : Int32)), cIa cI (bd 10) 2 (upd ms.2.2.2.1 se.toNatClampNeg sv), cIa cI (bd 11) 2 (upd ms.2.2.2.2.1 se.toNatClampNeg ((ms.2.2.2.2.1 se.toNatClampNeg) - (1 : Int32))), cZa cZ (bd 12) 2 ms.2.2.2.2.2.1, cJa cJ (bd 13) 6 ms.2.2.2.2.2.2, cJa cJ (bd 14) 16 mo.2.2.1] H := hP
          have hD : va_D A [cMd bd k mc mw me mo, cIa cI (bd 1) 128 mp, cZa cZ (bd 2) 30 me.1, cJa cJ (bd 3) 30 me.2.1, cIa cI (bd 4) 30 me.2.2.1, cZa cZ (bd 5) 6 mo.1, cZa cZ (bd 6) 6 mo.2.1, cZa cZ (bd 7) 2 (upd ms.1 se.toNatClampNeg (1 : Int32)), cIa cI (bd 8) 2 (upd ms.2.1 se.toNatClampNeg sv), cZa cZ (bd 9) 2 (upd ms.2.2.1 se.toNatClampNeg (1 : Int32)), cIa cI (bd 10) 2 (upd ms.2.2.2.1 se.toNatClampNeg sv), cIa cI (bd 11) 2 (upd ms.2.2.2.2.1 se.toNatClampNeg ((ms.2.2.2.2.1 se.toNatClampNeg) - (1 : Int32))), cZa cZ (bd 12) 2 ms.2.2.2.2.2.1, cJa cJ (bd 13) 6 ms.2.2.2.2.2.2, cJa cJ (bd 14) 16 mo.2.2.1] := hD
          refine lv_iconst (v := (1 : Int32)) hx hb dM_sample_128 (by decide) ?_
          exact k_zret hx hb hr hlk (zn_b (Or.inr rfl)) hP hD hS dM_sample_129 () (by simp only [fM_sample, hq1, if_neg h2, hq3, if_neg h4, if_pos h12, if_neg h13]) (by simp only [fM_sample, hq1, if_neg h2, hq3, if_neg h4, if_pos h12, if_neg h13])
        · -- not taken at 112
          refine lv_iconst (v := (0 : Int32)) hx hb dM_sample_115 (by decide) ?_
          refine lv_goto (tgt := 127) hx hb dM_sample_116 (by decide) ?_
          refine va_iast hx hb hK hP hD hS 11 1 rfl rfl (k_in01 hq1 h2) dM_sample_127 (fun H locs hP hD hS => ?_)
          have hP : va_P D vwCl [cMd bd k mc mw me mo, cIa cI (bd 1) 128 mp, cZa cZ (bd 2) 30 me.1, cJa cJ (bd 3) 30 me.2.1, cIa cI (bd 4) 30 me.2.2.1, cZa cZ (bd 5) 6 mo.1, cZa cZ (bd 6) 6 mo.2.1, cZa cZ (bd 7) 2 (upd ms.1 se.toNatClampNeg (1 : Int32)), cIa cI (bd 8) 2 (upd ms.2.1 se.toNatClampNeg sv), cZa cZ (bd 9) 2 (upd ms.2.2.1 se.toNatClampNeg (1 : Int32)), cIa cI (bd 10) 2 (upd ms.2.2.2.1 se.toNatClampNeg sv), cIa cI (bd 11) 2 (upd ms.2.2.2.2.1 se.toNatClampNeg (0 : Int32)), cZa cZ (bd 12) 2 ms.2.2.2.2.2.1, cJa cJ (bd 13) 6 ms.2.2.2.2.2.2, cJa cJ (bd 14) 16 mo.2.2.1] H := hP
          have hD : va_D A [cMd bd k mc mw me mo, cIa cI (bd 1) 128 mp, cZa cZ (bd 2) 30 me.1, cJa cJ (bd 3) 30 me.2.1, cIa cI (bd 4) 30 me.2.2.1, cZa cZ (bd 5) 6 mo.1, cZa cZ (bd 6) 6 mo.2.1, cZa cZ (bd 7) 2 (upd ms.1 se.toNatClampNeg (1 : Int32)), cIa cI (bd 8) 2 (upd ms.2.1 se.toNatClampNeg sv), cZa cZ (bd 9) 2 (upd ms.2.2.1 se.toNatClampNeg (1 : Int32)), cIa cI (bd 10) 2 (upd ms.2.2.2.1 se.toNatClampNeg sv), cIa cI (bd 11) 2 (upd ms.2.2.2.2.1 se.toNatClampNeg (0 : Int32)), cZa cZ (bd 12) 2 ms.2.2.2.2.2.1, cJa cJ (bd 13) 6 ms.2.2.2.2.2.2, cJa cJ (bd 14) 16 mo.2.2.1] := hD
          refine lv_iconst (v := (1 : Int32)) hx hb dM_sample_128 (by decide) ?_
          exact k_zret hx hb hr hlk (zn_b (Or.inr rfl)) hP hD hS dM_sample_129 () (by simp only [fM_sample, hq1, if_neg h2, hq3, if_neg h4, if_pos h12, if_pos h13]) (by simp only [fM_sample, hq1, if_neg h2, hq3, if_neg h4, if_pos h12, if_pos h13])
      · -- not taken at 31
        refine lv_aload_n hx hb dM_sample_34 rfl (lv_at hl 1 rfl) ?_
        refine gfM_37 hx hb hts hown hN hK hP 0 rfl (v := .ref (bd 8)) rfl dM_sample_35 ?_
        refine lv_iload_n hx hb dM_sample_38 rfl (lv_at hl 2 rfl) ?_
        refine va_iald hx hb hK hP 8 1 rfl rfl (k_in01 hq1 h2) dM_sample_39 ?_
        refine lv_bipush (v := (16 : Int32)) hx hb dM_sample_40 (by decide) ?_
        refine lv_sipush (v := (1007 : Int32)) hx hb dM_sample_42 (by decide) ?_
        refine k_ca0 (wc := []) (wr := [cMd bd k mc mw me mo, cIa cI (bd 1) 128 mp, cZa cZ (bd 2) 30 me.1, cJa cJ (bd 3) 30 me.2.1, cIa cI (bd 4) 30 me.2.2.1, cZa cZ (bd 5) 6 mo.1, cZa cZ (bd 6) 6 mo.2.1, cZa cZ (bd 7) 2 ms.1, cIa cI (bd 8) 2 ms.2.1, cZa cZ (bd 9) 2 ms.2.2.1, cIa cI (bd 10) 2 ms.2.2.2.1, cIa cI (bd 11) 2 ms.2.2.2.2.1, cZa cZ (bd 12) 2 ms.2.2.2.2.2.1, cJa cJ (bd 13) 6 ms.2.2.2.2.2.2, cJa cJ (bd 14) 16 mo.2.2.1]) (va_runS (As := [.int (ms.2.1 se.toNatClampNeg), .int (16 : Int32), .int (1007 : Int32)]) (rest := []) ⟨hx, hb, hml, hown, hts⟩ (ctM_in l D cZ cI cJ tL tH H.size (ms.2.1 se.toNatClampNeg) (16 : Int32) (1007 : Int32)) (cwM_78 hts hN rfl rfl ⟨Nat.le_of_ble_eq_true rfl, Nat.le_of_ble_eq_true rfl⟩) (k_pre hK hN hT hA hS hP hD [] rfl (by decide)) rfl rfl hl.1 rfl (lv_room (Nat.le_of_ble_eq_true rfl)) dM_sample_45 ⟨Nat.zero_le _, Nat.zero_le _⟩) hP hD hS hA [] [0, 1, 2, 3, 4, 5, 6, 7, 8, 9, 10, 11, 12, 13, 14] rfl rfl (by decide) (by decide) (fun _ H locs hP hD hS => ?_)
        refine W.eq (g2 := F0 m 48 ls [.int (fM_in (ms.2.1 se.toNatClampNeg) (16 : Int32) (1007 : Int32))]) rfl ?_
        have hP : va_P D vwCl [cMd bd k mc mw me mo, cIa cI (bd 1) 128 mp, cZa cZ (bd 2) 30 me.1, cJa cJ (bd 3) 30 me.2.1, cIa cI (bd 4) 30 me.2.2.1, cZa cZ (bd 5) 6 mo.1, cZa cZ (bd 6) 6 mo.2.1, cZa cZ (bd 7) 2 ms.1, cIa cI (bd 8) 2 ms.2.1, cZa cZ (bd 9) 2 ms.2.2.1, cIa cI (bd 10) 2 ms.2.2.2.1, cIa cI (bd 11) 2 ms.2.2.2.2.1, cZa cZ (bd 12) 2 ms.2.2.2.2.2.1, cJa cJ (bd 13) 6 ms.2.2.2.2.2.2, cJa cJ (bd 14) 16 mo.2.2.1] H := hP
        have hD : va_D A [cMd bd k mc mw me mo, cIa cI (bd 1) 128 mp, cZa cZ (bd 2) 30 me.1, cJa cJ (bd 3) 30 me.2.1, cIa cI (bd 4) 30 me.2.2.1, cZa cZ (bd 5) 6 mo.1, cZa cZ (bd 6) 6 mo.2.1, cZa cZ (bd 7) 2 ms.1, cIa cI (bd 8) 2 ms.2.1, cZa cZ (bd 9) 2 ms.2.2.1, cIa cI (bd 10) 2 ms.2.2.2.1, cIa cI (bd 11) 2 ms.2.2.2.2.1, cZa cZ (bd 12) 2 ms.2.2.2.2.2.1, cJa cJ (bd 13) 6 ms.2.2.2.2.2.2, cJa cJ (bd 14) 16 mo.2.2.1] := hD
        generalize hq14 : fM_in (ms.2.1 se.toNatClampNeg) (16 : Int32) (1007 : Int32) = q14 at ⊢
        refine lv_if_eq (tgt := 69) hx hb dM_sample_48 (by decide) (fun h15 => ?_) (fun h15 => ?_)
        · -- taken at 48
          refine lv_aload_n hx hb dM_sample_69 rfl (lv_at hl 1 rfl) ?_
          refine gfM_34 hx hb hts hown hN hK hP 0 rfl (v := .ref (bd 7)) rfl dM_sample_70 ?_
          refine lv_iload_n hx hb dM_sample_73 rfl (lv_at hl 2 rfl) ?_
          refine lv_iconst (v := (1 : Int32)) hx hb dM_sample_74 (by decide) ?_
          refine va_zast hx hb hK hP hD hS 7 0 rfl rfl (k_in01 hq1 h2) dM_sample_75 (fun H locs hP hD hS => ?_)
          rw [zn_nar (Or.inr rfl)] at hP hD
          have hP : va_P D vwCl [cMd bd k mc mw me mo, cIa cI (bd 1) 128 mp, cZa cZ (bd 2) 30 me.1, cJa cJ (bd 3) 30 me.2.1, cIa cI (bd 4) 30 me.2.2.1, cZa cZ (bd 5) 6 mo.1, cZa cZ (bd 6) 6 mo.2.1, cZa cZ (bd 7) 2 (upd ms.1 se.toNatClampNeg (1 : Int32)), cIa cI (bd 8) 2 ms.2.1, cZa cZ (bd 9) 2 ms.2.2.1, cIa cI (bd 10) 2 ms.2.2.2.1, cIa cI (bd 11) 2 ms.2.2.2.2.1, cZa cZ (bd 12) 2 ms.2.2.2.2.2.1, cJa cJ (bd 13) 6 ms.2.2.2.2.2.2, cJa cJ (bd 14) 16 mo.2.2.1] H := hP
          have hD : va_D A [cMd bd k mc mw me mo, cIa cI (bd 1) 128 mp, cZa cZ (bd 2) 30 me.1, cJa cJ (bd 3) 30 me.2.1, cIa cI (bd 4) 30 me.2.2.1, cZa cZ (bd 5) 6 mo.1, cZa cZ (bd 6) 6 mo.2.1, cZa cZ (bd 7) 2 (upd ms.1 se.toNatClampNeg (1 : Int32)), cIa cI (bd 8) 2 ms.2.1, cZa cZ (bd 9) 2 ms.2.2.1, cIa cI (bd 10) 2 ms.2.2.2.1, cIa cI (bd 11) 2 ms.2.2.2.2.1, cZa cZ (bd 12) 2 ms.2.2.2.2.2.1, cJa cJ (bd 13) 6 ms.2.2.2.2.2.2, cJa cJ (bd 14) 16 mo.2.2.1] := hD
          refine lv_aload_n hx hb dM_sample_76 rfl (lv_at hl 1 rfl) ?_
          refine gfM_37 hx hb hts hown hN hK hP 0 rfl (v := .ref (bd 8)) rfl dM_sample_77 ?_
          refine lv_iload_n hx hb dM_sample_80 rfl (lv_at hl 2 rfl) ?_
          refine lv_iload_n hx hb dM_sample_81 rfl (lv_at hl 3 rfl) ?_
          refine va_iast hx hb hK hP hD hS 8 1 rfl rfl (k_in01 hq1 h2) dM_sample_82 (fun H locs hP hD hS => ?_)
          have hP : va_P D vwCl [cMd bd k mc mw me mo, cIa cI (bd 1) 128 mp, cZa cZ (bd 2) 30 me.1, cJa cJ (bd 3) 30 me.2.1, cIa cI (bd 4) 30 me.2.2.1, cZa cZ (bd 5) 6 mo.1, cZa cZ (bd 6) 6 mo.2.1, cZa cZ (bd 7) 2 (upd ms.1 se.toNatClampNeg (1 : Int32)), cIa cI (bd 8) 2 (upd ms.2.1 se.toNatClampNeg sv), cZa cZ (bd 9) 2 ms.2.2.1, cIa cI (bd 10) 2 ms.2.2.2.1, cIa cI (bd 11) 2 ms.2.2.2.2.1, cZa cZ (bd 12) 2 ms.2.2.2.2.2.1, cJa cJ (bd 13) 6 ms.2.2.2.2.2.2, cJa cJ (bd 14) 16 mo.2.2.1] H := hP
          have hD : va_D A [cMd bd k mc mw me mo, cIa cI (bd 1) 128 mp, cZa cZ (bd 2) 30 me.1, cJa cJ (bd 3) 30 me.2.1, cIa cI (bd 4) 30 me.2.2.1, cZa cZ (bd 5) 6 mo.1, cZa cZ (bd 6) 6 mo.2.1, cZa cZ (bd 7) 2 (upd ms.1 se.toNatClampNeg (1 : Int32)), cIa cI (bd 8) 2 (upd ms.2.1 se.toNatClampNeg sv), cZa cZ (bd 9) 2 ms.2.2.1, cIa cI (bd 10) 2 ms.2.2.2.1, cIa cI (bd 11) 2 ms.2.2.2.2.1, cZa cZ (bd 12) 2 ms.2.2.2.2.2.1, cJa cJ (bd 13) 6 ms.2.2.2.2.2.2, cJa cJ (bd 14) 16 mo.2.2.1] := hD
          refine lv_iload_n hx hb dM_sample_83 rfl (lv_at hl 0 rfl) ?_
          refine lv_if_eq (tgt := 130) hx hb dM_sample_84 (by decide) (fun h0 => absurd h0 h4) (fun _ => ?_)
          refine lv_aload_n hx hb dM_sample_87 rfl (lv_at hl 1 rfl) ?_
          refine gfM_40 hx hb hts hown hN hK hP 0 rfl (v := .ref (bd 9)) rfl dM_sample_88 ?_
          refine lv_iload_n hx hb dM_sample_91 rfl (lv_at hl 2 rfl) ?_
          refine lv_iconst (v := (1 : Int32)) hx hb dM_sample_92 (by decide) ?_
          refine va_zast hx hb hK hP hD hS 9 0 rfl rfl (k_in01 hq1 h2) dM_sample_93 (fun H locs hP hD hS => ?_)
          rw [zn_nar (Or.inr rfl)] at hP hD
          have hP : va_P D vwCl [cMd bd k mc mw me mo, cIa cI (bd 1) 128 mp, cZa cZ (bd 2) 30 me.1, cJa cJ (bd 3) 30 me.2.1, cIa cI (bd 4) 30 me.2.2.1, cZa cZ (bd 5) 6 mo.1, cZa cZ (bd 6) 6 mo.2.1, cZa cZ (bd 7) 2 (upd ms.1 se.toNatClampNeg (1 : Int32)), cIa cI (bd 8) 2 (upd ms.2.1 se.toNatClampNeg sv), cZa cZ (bd 9) 2 (upd ms.2.2.1 se.toNatClampNeg (1 : Int32)), cIa cI (bd 10) 2 ms.2.2.2.1, cIa cI (bd 11) 2 ms.2.2.2.2.1, cZa cZ (bd 12) 2 ms.2.2.2.2.2.1, cJa cJ (bd 13) 6 ms.2.2.2.2.2.2, cJa cJ (bd 14) 16 mo.2.2.1] H := hP
          have hD : va_D A [cMd bd k mc mw me mo, cIa cI (bd 1) 128 mp, cZa cZ (bd 2) 30 me.1, cJa cJ (bd 3) 30 me.2.1, cIa cI (bd 4) 30 me.2.2.1, cZa cZ (bd 5) 6 mo.1, cZa cZ (bd 6) 6 mo.2.1, cZa cZ (bd 7) 2 (upd ms.1 se.toNatClampNeg (1 : Int32)), cIa cI (bd 8) 2 (upd ms.2.1 se.toNatClampNeg sv), cZa cZ (bd 9) 2 (upd ms.2.2.1 se.toNatClampNeg (1 : Int32)), cIa cI (bd 10) 2 ms.2.2.2.1, cIa cI (bd 11) 2 ms.2.2.2.2.1, cZa cZ (bd 12) 2 ms.2.2.2.2.2.1, cJa cJ (bd 13) 6 ms.2.2.2.2.2.2, cJa cJ (bd 14) 16 mo.2.2.1] := hD
          refine lv_aload_n hx hb dM_sample_94 rfl (lv_at hl 1 rfl) ?_
          refine gfM_43 hx hb hts hown hN hK hP 0 rfl (v := .ref (bd 10)) rfl dM_sample_95 ?_
          refine lv_iload_n hx hb dM_sample_98 rfl (lv_at hl 2 rfl) ?_
          refine lv_iload_n hx hb dM_sample_99 rfl (lv_at hl 3 rfl) ?_
          refine va_iast hx hb hK hP hD hS 10 1 rfl rfl (k_in01 hq1 h2) dM_sample_100 (fun H locs hP hD hS => ?_)
          have hP : va_P D vwCl [cMd bd k mc mw me mo, cIa cI (bd 1) 128 mp, cZa cZ (bd 2) 30 me.1, cJa cJ (bd 3) 30 me.2.1, cIa cI (bd 4) 30 me.2.2.1, cZa cZ (bd 5) 6 mo.1, cZa cZ (bd 6) 6 mo.2.1, cZa cZ (bd 7) 2 (upd ms.1 se.toNatClampNeg (1 : Int32)), cIa cI (bd 8) 2 (upd ms.2.1 se.toNatClampNeg sv), cZa cZ (bd 9) 2 (upd ms.2.2.1 se.toNatClampNeg (1 : Int32)), cIa cI (bd 10) 2 (upd ms.2.2.2.1 se.toNatClampNeg sv), cIa cI (bd 11) 2 ms.2.2.2.2.1, cZa cZ (bd 12) 2 ms.2.2.2.2.2.1, cJa cJ (bd 13) 6 ms.2.2.2.2.2.2, cJa cJ (bd 14) 16 mo.2.2.1] H := hP
          have hD : va_D A [cMd bd k mc mw me mo, cIa cI (bd 1) 128 mp, cZa cZ (bd 2) 30 me.1, cJa cJ (bd 3) 30 me.2.1, cIa cI (bd 4) 30 me.2.2.1, cZa cZ (bd 5) 6 mo.1, cZa cZ (bd 6) 6 mo.2.1, cZa cZ (bd 7) 2 (upd ms.1 se.toNatClampNeg (1 : Int32)), cIa cI (bd 8) 2 (upd ms.2.1 se.toNatClampNeg sv), cZa cZ (bd 9) 2 (upd ms.2.2.1 se.toNatClampNeg (1 : Int32)), cIa cI (bd 10) 2 (upd ms.2.2.2.1 se.toNatClampNeg sv), cIa cI (bd 11) 2 ms.2.2.2.2.1, cZa cZ (bd 12) 2 ms.2.2.2.2.2.1, cJa cJ (bd 13) 6 ms.2.2.2.2.2.2, cJa cJ (bd 14) 16 mo.2.2.1] := hD
          refine lv_aload_n hx hb dM_sample_101 rfl (lv_at hl 1 rfl) ?_
          refine gfM_46 hx hb hts hown hN hK hP 0 rfl (v := .ref (bd 11)) rfl dM_sample_102 ?_
          refine lv_iload_n hx hb dM_sample_105 rfl (lv_at hl 2 rfl) ?_
          refine lv_aload_n hx hb dM_sample_106 rfl (lv_at hl 1 rfl) ?_
          refine gfM_46 hx hb hts hown hN hK hP 0 rfl (v := .ref (bd 11)) rfl dM_sample_107 ?_
          refine lv_iload_n hx hb dM_sample_110 rfl (lv_at hl 2 rfl) ?_
          refine va_iald hx hb hK hP 11 1 rfl rfl (k_in01 hq1 h2) dM_sample_111 ?_
          refine lv_if_ne (tgt := 119) hx hb dM_sample_112 (by decide) (fun h16 => ?_) (fun h16 => ?_)
          · -- taken at 112
            refine lv_aload_n hx hb dM_sample_119 rfl (lv_at hl 1 rfl) ?_
            refine gfM_46 hx hb hts hown hN hK hP 0 rfl (v := .ref (bd 11)) rfl dM_sample_120 ?_
            refine lv_iload_n hx hb dM_sample_123 rfl (lv_at hl 2 rfl) ?_
            refine va_iald hx hb hK hP 11 1 rfl rfl (k_in01 hq1 h2) dM_sample_124 ?_
            refine lv_iconst (v := (1 : Int32)) hx hb dM_sample_125 (by decide) ?_
            refine lv_isub hx hb dM_sample_126 ?_
            refine va_iast hx hb hK hP hD hS 11 1 rfl rfl (k_in01 hq1 h2) dM_sample_127 (fun H locs hP hD hS => ?_)
            have hP : va_P D vwCl [cMd bd k mc mw me mo, cIa cI (bd 1) 128 mp, cZa cZ (bd 2) 30 me.1, cJa cJ (bd 3) 30 me.2.1, cIa cI (bd 4) 30 me.2.2.1, cZa cZ (bd 5) 6 mo.1, cZa cZ (bd 6) 6 mo.2.1, cZa cZ (bd 7) 2 (upd ms.1 se.toNatClampNeg (1 : Int32)), cIa cI (bd 8) 2 (upd ms.2.1 se.toNatClampNeg sv), cZa cZ (bd 9) 2 (upd ms.2.2.1 se.toNatClampNeg (1 : Int32)), cIa cI (bd 10) 2 (upd ms.2.2.2.1 se.toNatClampNeg sv), cIa cI (bd 11) 2 (upd ms.2.2.2.2.1 se.toNatClampNeg ((ms.2.2.2.2.1 se.toNatClampNeg) - (1 : Int32))), cZa cZ (bd 12) 2 ms.2.2.2.2.2.1, cJa cJ (bd 13) 6 ms.2.2.2.2.2.2, cJa cJ (bd 14) 16 mo.2.2.1] H := hP
            have hD : va_D A [cMd bd k mc mw me mo, cIa cI (bd 1) 128 mp, cZa cZ (bd 2) 30 me.1, cJa cJ (bd 3) 30 me.2.1, cIa cI (bd 4) 30 me.2.2.1, cZa cZ (bd 5) 6 mo.1, cZa cZ (bd 6) 6 mo.2.1, cZa cZ (bd 7) 2 (upd ms.1 se.toNatClampNeg (1 : Int32)), cIa cI (bd 8) 2 (upd ms.2.1 se.toNatClampNeg sv), cZa cZ (bd 9) 2 (upd ms.2.2.1 se.toNatClampNeg (1 : Int32)), cIa cI (bd 10) 2 (upd ms.2.2.2.1 se.toNatClampNeg sv), cIa cI (bd 11) 2 (upd ms.2.2.2.2.1 se.toNatClampNeg ((ms.2.2.2.2.1 se.toNatClampNeg) - (1 : Int32))), cZa cZ (bd 12) 2 ms.2.2.2.2.2.1, cJa cJ (bd 13) 6 ms.2.2.2.2.2.2, cJa cJ (bd 14) 16 mo.2.2.1] := hD
            refine lv_iconst (v := (1 : Int32)) hx hb dM_sample_128 (by decide) ?_
            exact k_zret hx hb hr hlk (zn_b (Or.inr rfl)) hP hD hS dM_sample_129 () (by simp only [fM_sample, hq1, if_neg h2, hq3, if_neg h4, if_neg h12, hq14, if_pos h15, if_neg h16]) (by simp only [fM_sample, hq1, if_neg h2, hq3, if_neg h4, if_neg h12, hq14, if_pos h15, if_neg h16])
          · -- not taken at 112
            refine lv_iconst (v := (0 : Int32)) hx hb dM_sample_115 (by decide) ?_
            refine lv_goto (tgt := 127) hx hb dM_sample_116 (by decide) ?_
            refine va_iast hx hb hK hP hD hS 11 1 rfl rfl (k_in01 hq1 h2) dM_sample_127 (fun H locs hP hD hS => ?_)
            have hP : va_P D vwCl [cMd bd k mc mw me mo, cIa cI (bd 1) 128 mp, cZa cZ (bd 2) 30 me.1, cJa cJ (bd 3) 30 me.2.1, cIa cI (bd 4) 30 me.2.2.1, cZa cZ (bd 5) 6 mo.1, cZa cZ (bd 6) 6 mo.2.1, cZa cZ (bd 7) 2 (upd ms.1 se.toNatClampNeg (1 : Int32)), cIa cI (bd 8) 2 (upd ms.2.1 se.toNatClampNeg sv), cZa cZ (bd 9) 2 (upd ms.2.2.1 se.toNatClampNeg (1 : Int32)), cIa cI (bd 10) 2 (upd ms.2.2.2.1 se.toNatClampNeg sv), cIa cI (bd 11) 2 (upd ms.2.2.2.2.1 se.toNatClampNeg (0 : Int32)), cZa cZ (bd 12) 2 ms.2.2.2.2.2.1, cJa cJ (bd 13) 6 ms.2.2.2.2.2.2, cJa cJ (bd 14) 16 mo.2.2.1] H := hP
            have hD : va_D A [cMd bd k mc mw me mo, cIa cI (bd 1) 128 mp, cZa cZ (bd 2) 30 me.1, cJa cJ (bd 3) 30 me.2.1, cIa cI (bd 4) 30 me.2.2.1, cZa cZ (bd 5) 6 mo.1, cZa cZ (bd 6) 6 mo.2.1, cZa cZ (bd 7) 2 (upd ms.1 se.toNatClampNeg (1 : Int32)), cIa cI (bd 8) 2 (upd ms.2.1 se.toNatClampNeg sv), cZa cZ (bd 9) 2 (upd ms.2.2.1 se.toNatClampNeg (1 : Int32)), cIa cI (bd 10) 2 (upd ms.2.2.2.1 se.toNatClampNeg sv), cIa cI (bd 11) 2 (upd ms.2.2.2.2.1 se.toNatClampNeg (0 : Int32)), cZa cZ (bd 12) 2 ms.2.2.2.2.2.1, cJa cJ (bd 13) 6 ms.2.2.2.2.2.2, cJa cJ (bd 14) 16 mo.2.2.1] := hD
            refine lv_iconst (v := (1 : Int32)) hx hb dM_sample_128 (by decide) ?_
            exact k_zret hx hb hr hlk (zn_b (Or.inr rfl)) hP hD hS dM_sample_129 () (by simp only [fM_sample, hq1, if_neg h2, hq3, if_neg h4, if_neg h12, hq14, if_pos h15, if_pos h16]) (by simp only [fM_sample, hq1, if_neg h2, hq3, if_neg h4, if_neg h12, hq14, if_pos h15, if_pos h16])
        · -- not taken at 48
          refine lv_aload_n hx hb dM_sample_51 rfl (lv_at hl 1 rfl) ?_
          refine gfM_37 hx hb hts hown hN hK hP 0 rfl (v := .ref (bd 8)) rfl dM_sample_52 ?_
          refine lv_iload_n hx hb dM_sample_55 rfl (lv_at hl 2 rfl) ?_
          refine va_iald hx hb hK hP 8 1 rfl rfl (k_in01 hq1 h2) dM_sample_56 ?_
          refine lv_iload_n hx hb dM_sample_57 rfl (lv_at hl 3 rfl) ?_
          refine lv_isub hx hb dM_sample_58 ?_
          refine lv_sipush (v := (-256 : Int32)) hx hb dM_sample_59 (by decide) ?_
          refine lv_sipush (v := (256 : Int32)) hx hb dM_sample_62 (by decide) ?_
          refine k_ca0 (wc := []) (wr := [cMd bd k mc mw me mo, cIa cI (bd 1) 128 mp, cZa cZ (bd 2) 30 me.1, cJa cJ (bd 3) 30 me.2.1, cIa cI (bd 4) 30 me.2.2.1, cZa cZ (bd 5) 6 mo.1, cZa cZ (bd 6) 6 mo.2.1, cZa cZ (bd 7) 2 ms.1, cIa cI (bd 8) 2 ms.2.1, cZa cZ (bd 9) 2 ms.2.2.1, cIa cI (bd 10) 2 ms.2.2.2.1, cIa cI (bd 11) 2 ms.2.2.2.2.1, cZa cZ (bd 12) 2 ms.2.2.2.2.2.1, cJa cJ (bd 13) 6 ms.2.2.2.2.2.2, cJa cJ (bd 14) 16 mo.2.2.1]) (va_runS (As := [.int ((ms.2.1 se.toNatClampNeg) - sv), .int (-256 : Int32), .int (256 : Int32)]) (rest := []) ⟨hx, hb, hml, hown, hts⟩ (ctM_in l D cZ cI cJ tL tH H.size ((ms.2.1 se.toNatClampNeg) - sv) (-256 : Int32) (256 : Int32)) (cwM_78 hts hN rfl rfl ⟨Nat.le_of_ble_eq_true rfl, Nat.le_of_ble_eq_true rfl⟩) (k_pre hK hN hT hA hS hP hD [] rfl (by decide)) rfl rfl hl.1 rfl (lv_room (Nat.le_of_ble_eq_true rfl)) dM_sample_65 ⟨Nat.zero_le _, Nat.zero_le _⟩) hP hD hS hA [] [0, 1, 2, 3, 4, 5, 6, 7, 8, 9, 10, 11, 12, 13, 14] rfl rfl (by decide) (by decide) (fun _ H locs hP hD hS => ?_)
          refine W.eq (g2 := F0 m 68 ls [.int (fM_in ((ms.2.1 se.toNatClampNeg) - sv) (-256 : Int32) (256 : Int32))]) rfl ?_
          have hP : va_P D vwCl [cMd bd k mc mw me mo, cIa cI (bd 1) 128 mp, cZa cZ (bd 2) 30 me.1, cJa cJ (bd 3) 30 me.2.1, cIa cI (bd 4) 30 me.2.2.1, cZa cZ (bd 5) 6 mo.1, cZa cZ (bd 6) 6 mo.2.1, cZa cZ (bd 7) 2 ms.1, cIa cI (bd 8) 2 ms.2.1, cZa cZ (bd 9) 2 ms.2.2.1, cIa cI (bd 10) 2 ms.2.2.2.1, cIa cI (bd 11) 2 ms.2.2.2.2.1, cZa cZ (bd 12) 2 ms.2.2.2.2.2.1, cJa cJ (bd 13) 6 ms.2.2.2.2.2.2, cJa cJ (bd 14) 16 mo.2.2.1] H := hP
          have hD : va_D A [cMd bd k mc mw me mo, cIa cI (bd 1) 128 mp, cZa cZ (bd 2) 30 me.1, cJa cJ (bd 3) 30 me.2.1, cIa cI (bd 4) 30 me.2.2.1, cZa cZ (bd 5) 6 mo.1, cZa cZ (bd 6) 6 mo.2.1, cZa cZ (bd 7) 2 ms.1, cIa cI (bd 8) 2 ms.2.1, cZa cZ (bd 9) 2 ms.2.2.1, cIa cI (bd 10) 2 ms.2.2.2.1, cIa cI (bd 11) 2 ms.2.2.2.2.1, cZa cZ (bd 12) 2 ms.2.2.2.2.2.1, cJa cJ (bd 13) 6 ms.2.2.2.2.2.2, cJa cJ (bd 14) 16 mo.2.2.1] := hD
          generalize hq17 : fM_in ((ms.2.1 se.toNatClampNeg) - sv) (-256 : Int32) (256 : Int32) = q17 at ⊢
          refine lv_istore_n (lv' := [(3, .int q17), (0, .ref (bd 0)), (1, .int se), (2, .int sv)]) hx hb dM_sample_68 rfl hl (by decide) rfl (fun ls hl => ?_)
          refine lv_aload_n hx hb dM_sample_69 rfl (lv_at hl 1 rfl) ?_
          refine gfM_34 hx hb hts hown hN hK hP 0 rfl (v := .ref (bd 7)) rfl dM_sample_70 ?_
          refine lv_iload_n hx hb dM_sample_73 rfl (lv_at hl 2 rfl) ?_
          refine lv_iconst (v := (1 : Int32)) hx hb dM_sample_74 (by decide) ?_
          refine va_zast hx hb hK hP hD hS 7 0 rfl rfl (k_in01 hq1 h2) dM_sample_75 (fun H locs hP hD hS => ?_)
          rw [zn_nar (Or.inr rfl)] at hP hD
          have hP : va_P D vwCl [cMd bd k mc mw me mo, cIa cI (bd 1) 128 mp, cZa cZ (bd 2) 30 me.1, cJa cJ (bd 3) 30 me.2.1, cIa cI (bd 4) 30 me.2.2.1, cZa cZ (bd 5) 6 mo.1, cZa cZ (bd 6) 6 mo.2.1, cZa cZ (bd 7) 2 (upd ms.1 se.toNatClampNeg (1 : Int32)), cIa cI (bd 8) 2 ms.2.1, cZa cZ (bd 9) 2 ms.2.2.1, cIa cI (bd 10) 2 ms.2.2.2.1, cIa cI (bd 11) 2 ms.2.2.2.2.1, cZa cZ (bd 12) 2 ms.2.2.2.2.2.1, cJa cJ (bd 13) 6 ms.2.2.2.2.2.2, cJa cJ (bd 14) 16 mo.2.2.1] H := hP
          have hD : va_D A [cMd bd k mc mw me mo, cIa cI (bd 1) 128 mp, cZa cZ (bd 2) 30 me.1, cJa cJ (bd 3) 30 me.2.1, cIa cI (bd 4) 30 me.2.2.1, cZa cZ (bd 5) 6 mo.1, cZa cZ (bd 6) 6 mo.2.1, cZa cZ (bd 7) 2 (upd ms.1 se.toNatClampNeg (1 : Int32)), cIa cI (bd 8) 2 ms.2.1, cZa cZ (bd 9) 2 ms.2.2.1, cIa cI (bd 10) 2 ms.2.2.2.1, cIa cI (bd 11) 2 ms.2.2.2.2.1, cZa cZ (bd 12) 2 ms.2.2.2.2.2.1, cJa cJ (bd 13) 6 ms.2.2.2.2.2.2, cJa cJ (bd 14) 16 mo.2.2.1] := hD
          refine lv_aload_n hx hb dM_sample_76 rfl (lv_at hl 1 rfl) ?_
          refine gfM_37 hx hb hts hown hN hK hP 0 rfl (v := .ref (bd 8)) rfl dM_sample_77 ?_
          refine lv_iload_n hx hb dM_sample_80 rfl (lv_at hl 2 rfl) ?_
          refine lv_iload_n hx hb dM_sample_81 rfl (lv_at hl 3 rfl) ?_
          refine va_iast hx hb hK hP hD hS 8 1 rfl rfl (k_in01 hq1 h2) dM_sample_82 (fun H locs hP hD hS => ?_)
          have hP : va_P D vwCl [cMd bd k mc mw me mo, cIa cI (bd 1) 128 mp, cZa cZ (bd 2) 30 me.1, cJa cJ (bd 3) 30 me.2.1, cIa cI (bd 4) 30 me.2.2.1, cZa cZ (bd 5) 6 mo.1, cZa cZ (bd 6) 6 mo.2.1, cZa cZ (bd 7) 2 (upd ms.1 se.toNatClampNeg (1 : Int32)), cIa cI (bd 8) 2 (upd ms.2.1 se.toNatClampNeg sv), cZa cZ (bd 9) 2 ms.2.2.1, cIa cI (bd 10) 2 ms.2.2.2.1, cIa cI (bd 11) 2 ms.2.2.2.2.1, cZa cZ (bd 12) 2 ms.2.2.2.2.2.1, cJa cJ (bd 13) 6 ms.2.2.2.2.2.2, cJa cJ (bd 14) 16 mo.2.2.1] H := hP
          have hD : va_D A [cMd bd k mc mw me mo, cIa cI (bd 1) 128 mp, cZa cZ (bd 2) 30 me.1, cJa cJ (bd 3) 30 me.2.1, cIa cI (bd 4) 30 me.2.2.1, cZa cZ (bd 5) 6 mo.1, cZa cZ (bd 6) 6 mo.2.1, cZa cZ (bd 7) 2 (upd ms.1 se.toNatClampNeg (1 : Int32)), cIa cI (bd 8) 2 (upd ms.2.1 se.toNatClampNeg sv), cZa cZ (bd 9) 2 ms.2.2.1, cIa cI (bd 10) 2 ms.2.2.2.1, cIa cI (bd 11) 2 ms.2.2.2.2.1, cZa cZ (bd 12) 2 ms.2.2.2.2.2.1, cJa cJ (bd 13) 6 ms.2.2.2.2.2.2, cJa cJ (bd 14) 16 mo.2.2.1] := hD
          refine lv_iload_n hx hb dM_sample_83 rfl (lv_at hl 0 rfl) ?_
          refine lv_if_eq (tgt := 130) hx hb dM_sample_84 (by decide) (fun h18 => ?_) (fun h18 => ?_)
          · -- taken at 84
            refine lv_aload_n hx hb dM_sample_130 rfl (lv_at hl 1 rfl) ?_
            refine gfM_46 hx hb hts hown hN hK hP 0 rfl (v := .ref (bd 11)) rfl dM_sample_131 ?_
            refine lv_iload_n hx hb dM_sample_134 rfl (lv_at hl 2 rfl) ?_
            refine va_iald hx hb hK hP 11 1 rfl rfl (k_in01 hq1 h2) dM_sample_135 ?_
            refine lv_iconst (v := (2 : Int32)) hx hb dM_sample_136 (by decide) ?_
            refine lv_icmp_ne (tgt := 144) hx hb dM_sample_137 (by decide) (fun h19 => ?_) (fun h19 => ?_)
            · -- taken at 137
              refine lv_iconst (v := (0 : Int32)) hx hb dM_sample_144 (by decide) ?_
              refine lv_istore (lv' := [(4, .int (0 : Int32)), (3, .int q17), (0, .ref (bd 0)), (1, .int se), (2, .int sv)]) hx hb dM_sample_145 hl (by decide) rfl (fun ls hl => ?_)
              refine lv_aload_n hx hb dM_sample_147 rfl (lv_at hl 2 rfl) ?_
              refine gfM_46 hx hb hts hown hN hK hP 0 rfl (v := .ref (bd 11)) rfl dM_sample_148 ?_
              refine lv_iload_n hx hb dM_sample_151 rfl (lv_at hl 3 rfl) ?_
              refine lv_aload_n hx hb dM_sample_152 rfl (lv_at hl 2 rfl) ?_
              refine gfM_46 hx hb hts hown hN hK hP 0 rfl (v := .ref (bd 11)) rfl dM_sample_153 ?_
              refine lv_iload_n hx hb dM_sample_156 rfl (lv_at hl 3 rfl) ?_
              refine va_iald hx hb hK hP 11 1 rfl rfl (k_in01 hq1 h2) dM_sample_157 ?_
              refine lv_bipush (v := (6 : Int32)) hx hb dM_sample_158 (by decide) ?_
              refine lv_icmp_ne (tgt := 168) hx hb dM_sample_160 (by decide) (fun h20 => ?_) (fun h20 => ?_)
              · -- taken at 160
                refine lv_aload_n hx hb dM_sample_168 rfl (lv_at hl 2 rfl) ?_
                refine gfM_46 hx hb hts hown hN hK hP 0 rfl (v := .ref (bd 11)) rfl dM_sample_169 ?_
                refine lv_iload_n hx hb dM_sample_172 rfl (lv_at hl 3 rfl) ?_
                refine va_iald hx hb hK hP 11 1 rfl rfl (k_in01 hq1 h2) dM_sample_173 ?_
                refine lv_iconst (v := (1 : Int32)) hx hb dM_sample_174 (by decide) ?_
                refine lv_iadd hx hb dM_sample_175 ?_
                refine va_iast hx hb hK hP hD hS 11 1 rfl rfl (k_in01 hq1 h2) dM_sample_176 (fun H locs hP hD hS => ?_)
                have hP : va_P D vwCl [cMd bd k mc mw me mo, cIa cI (bd 1) 128 mp, cZa cZ (bd 2) 30 me.1, cJa cJ (bd 3) 30 me.2.1, cIa cI (bd 4) 30 me.2.2.1, cZa cZ (bd 5) 6 mo.1, cZa cZ (bd 6) 6 mo.2.1, cZa cZ (bd 7) 2 (upd ms.1 se.toNatClampNeg (1 : Int32)), cIa cI (bd 8) 2 (upd ms.2.1 se.toNatClampNeg sv), cZa cZ (bd 9) 2 ms.2.2.1, cIa cI (bd 10) 2 ms.2.2.2.1, cIa cI (bd 11) 2 (upd ms.2.2.2.2.1 se.toNatClampNeg ((ms.2.2.2.2.1 se.toNatClampNeg) + (1 : Int32))), cZa cZ (bd 12) 2 ms.2.2.2.2.2.1, cJa cJ (bd 13) 6 ms.2.2.2.2.2.2, cJa cJ (bd 14) 16 mo.2.2.1] H := hP
                have hD : va_D A [cMd bd k mc mw me mo, cIa cI (bd 1) 128 mp, cZa cZ (bd 2) 30 me.1, cJa cJ (bd 3) 30 me.2.1, cIa cI (bd 4) 30 me.2.2.1, cZa cZ (bd 5) 6 mo.1, cZa cZ (bd 6) 6 mo.2.1, cZa cZ (bd 7) 2 (upd ms.1 se.toNatClampNeg (1 : Int32)), cIa cI (bd 8) 2 (upd ms.2.1 se.toNatClampNeg sv), cZa cZ (bd 9) 2 ms.2.2.1, cIa cI (bd 10) 2 ms.2.2.2.1, cIa cI (bd 11) 2 (upd ms.2.2.2.2.1 se.toNatClampNeg ((ms.2.2.2.2.1 se.toNatClampNeg) + (1 : Int32))), cZa cZ (bd 12) 2 ms.2.2.2.2.2.1, cJa cJ (bd 13) 6 ms.2.2.2.2.2.2, cJa cJ (bd 14) 16 mo.2.2.1] := hD
                refine lv_iload hx hb dM_sample_177 (lv_at hl 0 rfl) ?_
                refine lv_if_eq (tgt := 240) hx hb dM_sample_179 (by decide) (fun _ => ?_) (fun h0 => absurd (by decide) h0)
                refine lv_iconst (v := (0 : Int32)) hx hb dM_sample_240 (by decide) ?_
                exact k_zret hx hb hr hlk (zn_b (Or.inl rfl)) hP hD hS dM_sample_241 () (by simp only [fM_sample, hq1, if_neg h2, hq3, if_neg h4, if_neg h12, hq14, if_neg h15, hq17, if_pos h18, if_neg h19, if_neg h20]) (by simp only [fM_sample, hq1, if_neg h2, hq3, if_neg h4, if_neg h12, hq14, if_neg h15, hq17, if_pos h18, if_neg h19, if_neg h20])
              · -- not taken at 160
                refine lv_bipush (v := (6 : Int32)) hx hb dM_sample_163 (by decide) ?_
                refine lv_goto (tgt := 176) hx hb dM_sample_165 (by decide) ?_
                refine va_iast hx hb hK hP hD hS 11 1 rfl rfl (k_in01 hq1 h2) dM_sample_176 (fun H locs hP hD hS => ?_)
                have hP : va_P D vwCl [cMd bd k mc mw me mo, cIa cI (bd 1) 128 mp, cZa cZ (bd 2) 30 me.1, cJa cJ (bd 3) 30 me.2.1, cIa cI (bd 4) 30 me.2.2.1, cZa cZ (bd 5) 6 mo.1, cZa cZ (bd 6) 6 mo.2.1, cZa cZ (bd 7) 2 (upd ms.1 se.toNatClampNeg (1 : Int32)), cIa cI (bd 8) 2 (upd ms.2.1 se.toNatClampNeg sv), cZa cZ (bd 9) 2 ms.2.2.1, cIa cI (bd 10) 2 ms.2.2.2.1, cIa cI (bd 11) 2 (upd ms.2.2.2.2.1 se.toNatClampNeg (6 : Int32)), cZa cZ (bd 12) 2 ms.2.2.2.2.2.1, cJa cJ (bd 13) 6 ms.2.2.2.2.2.2, cJa cJ (bd 14) 16 mo.2.2.1] H := hP
                have hD : va_D A [cMd bd k mc mw me mo, cIa cI (bd 1) 128 mp, cZa cZ (bd 2) 30 me.1, cJa cJ (bd 3) 30 me.2.1, cIa cI (bd 4) 30 me.2.2.1, cZa cZ (bd 5) 6 mo.1, cZa cZ (bd 6) 6 mo.2.1, cZa cZ (bd 7) 2 (upd ms.1 se.toNatClampNeg (1 : Int32)), cIa cI (bd 8) 2 (upd ms.2.1 se.toNatClampNeg sv), cZa cZ (bd 9) 2 ms.2.2.1, cIa cI (bd 10) 2 ms.2.2.2.1, cIa cI (bd 11) 2 (upd ms.2.2.2.2.1 se.toNatClampNeg (6 : Int32)), cZa cZ (bd 12) 2 ms.2.2.2.2.2.1, cJa cJ (bd 13) 6 ms.2.2.2.2.2.2, cJa cJ (bd 14) 16 mo.2.2.1] := hD
                refine lv_iload hx hb dM_sample_177 (lv_at hl 0 rfl) ?_
                refine lv_if_eq (tgt := 240) hx hb dM_sample_179 (by decide) (fun _ => ?_) (fun h0 => absurd (by decide) h0)
                refine lv_iconst (v := (0 : Int32)) hx hb dM_sample_240 (by decide) ?_
                exact k_zret hx hb hr hlk (zn_b (Or.inl rfl)) hP hD hS dM_sample_241 () (by simp only [fM_sample, hq1, if_neg h2, hq3, if_neg h4, if_neg h12, hq14, if_neg h15, hq17, if_pos h18, if_neg h19, if_pos h20]) (by simp only [fM_sample, hq1, if_neg h2, hq3, if_neg h4, if_neg h12, hq14, if_neg h15, hq17, if_pos h18, if_neg h19, if_pos h20])
            · -- not taken at 137
              refine lv_iconst (v := (1 : Int32)) hx hb dM_sample_140 (by decide) ?_
              refine lv_goto (tgt := 145) hx hb dM_sample_141 (by decide) ?_
              refine lv_istore (lv' := [(4, .int (1 : Int32)), (3, .int q17), (0, .ref (bd 0)), (1, .int se), (2, .int sv)]) hx hb dM_sample_145 hl (by decide) rfl (fun ls hl => ?_)
              refine lv_aload_n hx hb dM_sample_147 rfl (lv_at hl 2 rfl) ?_
              refine gfM_46 hx hb hts hown hN hK hP 0 rfl (v := .ref (bd 11)) rfl dM_sample_148 ?_
              refine lv_iload_n hx hb dM_sample_151 rfl (lv_at hl 3 rfl) ?_
              refine lv_aload_n hx hb dM_sample_152 rfl (lv_at hl 2 rfl) ?_
              refine gfM_46 hx hb hts hown hN hK hP 0 rfl (v := .ref (bd 11)) rfl dM_sample_153 ?_
              refine lv_iload_n hx hb dM_sample_156 rfl (lv_at hl 3 rfl) ?_
              refine va_iald hx hb hK hP 11 1 rfl rfl (k_in01 hq1 h2) dM_sample_157 ?_
              refine lv_bipush (v := (6 : Int32)) hx hb dM_sample_158 (by decide) ?_
              refine lv_icmp_ne (tgt := 168) hx hb dM_sample_160 (by decide) (fun h21 => ?_) (fun h21 => ?_)
              · -- taken at 160
                refine lv_aload_n hx hb dM_sample_168 rfl (lv_at hl 2 rfl) ?_
                refine gfM_46 hx hb hts hown hN hK hP 0 rfl (v := .ref (bd 11)) rfl dM_sample_169 ?_
                refine lv_iload_n hx hb dM_sample_172 rfl (lv_at hl 3 rfl) ?_
                refine va_iald hx hb hK hP 11 1 rfl rfl (k_in01 hq1 h2) dM_sample_173 ?_
                refine lv_iconst (v := (1 : Int32)) hx hb dM_sample_174 (by decide) ?_
                refine lv_iadd hx hb dM_sample_175 ?_
                refine va_iast hx hb hK hP hD hS 11 1 rfl rfl (k_in01 hq1 h2) dM_sample_176 (fun H locs hP hD hS => ?_)
                have hP : va_P D vwCl [cMd bd k mc mw me mo, cIa cI (bd 1) 128 mp, cZa cZ (bd 2) 30 me.1, cJa cJ (bd 3) 30 me.2.1, cIa cI (bd 4) 30 me.2.2.1, cZa cZ (bd 5) 6 mo.1, cZa cZ (bd 6) 6 mo.2.1, cZa cZ (bd 7) 2 (upd ms.1 se.toNatClampNeg (1 : Int32)), cIa cI (bd 8) 2 (upd ms.2.1 se.toNatClampNeg sv), cZa cZ (bd 9) 2 ms.2.2.1, cIa cI (bd 10) 2 ms.2.2.2.1, cIa cI (bd 11) 2 (upd ms.2.2.2.2.1 se.toNatClampNeg ((ms.2.2.2.2.1 se.toNatClampNeg) + (1 : Int32))), cZa cZ (bd 12) 2 ms.2.2.2.2.2.1, cJa cJ (bd 13) 6 ms.2.2.2.2.2.2, cJa cJ (bd 14) 16 mo.2.2.1] H := hP
                have hD : va_D A [cMd bd k mc mw me mo, cIa cI (bd 1) 128 mp, cZa cZ (bd 2) 30 me.1, cJa cJ (bd 3) 30 me.2.1, cIa cI (bd 4) 30 me.2.2.1, cZa cZ (bd 5) 6 mo.1, cZa cZ (bd 6) 6 mo.2.1, cZa cZ (bd 7) 2 (upd ms.1 se.toNatClampNeg (1 : Int32)), cIa cI (bd 8) 2 (upd ms.2.1 se.toNatClampNeg sv), cZa cZ (bd 9) 2 ms.2.2.1, cIa cI (bd 10) 2 ms.2.2.2.1, cIa cI (bd 11) 2 (upd ms.2.2.2.2.1 se.toNatClampNeg ((ms.2.2.2.2.1 se.toNatClampNeg) + (1 : Int32))), cZa cZ (bd 12) 2 ms.2.2.2.2.2.1, cJa cJ (bd 13) 6 ms.2.2.2.2.2.2, cJa cJ (bd 14) 16 mo.2.2.1] := hD
                refine lv_iload hx hb dM_sample_177 (lv_at hl 0 rfl) ?_
                refine lv_if_eq (tgt := 240) hx hb dM_sample_179 (by decide) (fun h0 => absurd h0 (by decide)) (fun _ => ?_)
                refine lv_aload_n hx hb dM_sample_182 rfl (lv_at hl 2 rfl) ?_
                refine gfM_49 hx hb hts hown hN hK hP 0 rfl (v := .ref (bd 12)) rfl dM_sample_183 ?_
                refine lv_iload_n hx hb dM_sample_186 rfl (lv_at hl 3 rfl) ?_
                refine va_zald hx hb hK hP 12 0 rfl rfl (k_in01 hq1 h2) dM_sample_187 ?_
                refine lv_if_ne (tgt := 240) hx hb dM_sample_188 (by decide) (fun h22 => ?_) (fun h22 => ?_)
                · -- taken at 188
                  refine lv_iconst (v := (0 : Int32)) hx hb dM_sample_240 (by decide) ?_
                  exact k_zret hx hb hr hlk (zn_b (Or.inl rfl)) hP hD hS dM_sample_241 () (by simp only [fM_sample, hq1, if_neg h2, hq3, if_neg h4, if_neg h12, hq14, if_neg h15, hq17, if_pos h18, if_pos h19, if_neg h21, if_neg h22]) (by simp only [fM_sample, hq1, if_neg h2, hq3, if_neg h4, if_neg h12, hq14, if_neg h15, hq17, if_pos h18, if_pos h19, if_neg h21, if_neg h22])
                · -- not taken at 188
                  refine lv_aload_n hx hb dM_sample_191 rfl (lv_at hl 2 rfl) ?_
                  refine gfM_49 hx hb hts hown hN hK hP 0 rfl (v := .ref (bd 12)) rfl dM_sample_192 ?_
                  refine lv_iload_n hx hb dM_sample_195 rfl (lv_at hl 3 rfl) ?_
                  refine lv_iconst (v := (1 : Int32)) hx hb dM_sample_196 (by decide) ?_
                  refine va_zast hx hb hK hP hD hS 12 0 rfl rfl (k_in01 hq1 h2) dM_sample_197 (fun H locs hP hD hS => ?_)
                  rw [zn_nar (Or.inr rfl)] at hP hD
                  have hP : va_P D vwCl [cMd bd k mc mw me mo, cIa cI (bd 1) 128 mp, cZa cZ (bd 2) 30 me.1, cJa cJ (bd 3) 30 me.2.1, cIa cI (bd 4) 30 me.2.2.1, cZa cZ (bd 5) 6 mo.1, cZa cZ (bd 6) 6 mo.2.1, cZa cZ (bd 7) 2 (upd ms.1 se.toNatClampNeg (1 : Int32)), cIa cI (bd 8) 2 (upd ms.2.1 se.toNatClampNeg sv), cZa cZ (bd 9) 2 ms.2.2.1, cIa cI (bd 10) 2 ms.2.2.2.1, cIa cI (bd 11) 2 (upd ms.2.2.2.2.1 se.toNatClampNeg ((ms.2.2.2.2.1 se.toNatClampNeg) + (1 : Int32))), cZa cZ (bd 12) 2 (upd ms.2.2.2.2.2.1 se.toNatClampNeg (1 : Int32)), cJa cJ (bd 13) 6 ms.2.2.2.2.2.2, cJa cJ (bd 14) 16 mo.2.2.1] H := hP
                  have hD : va_D A [cMd bd k mc mw me mo, cIa cI (bd 1) 128 mp, cZa cZ (bd 2) 30 me.1, cJa cJ (bd 3) 30 me.2.1, cIa cI (bd 4) 30 me.2.2.1, cZa cZ (bd 5) 6 mo.1, cZa cZ (bd 6) 6 mo.2.1, cZa cZ (bd 7) 2 (upd ms.1 se.toNatClampNeg (1 : Int32)), cIa cI (bd 8) 2 (upd ms.2.1 se.toNatClampNeg sv), cZa cZ (bd 9) 2 ms.2.2.1, cIa cI (bd 10) 2 ms.2.2.2.1, cIa cI (bd 11) 2 (upd ms.2.2.2.2.1 se.toNatClampNeg ((ms.2.2.2.2.1 se.toNatClampNeg) + (1 : Int32))), cZa cZ (bd 12) 2 (upd ms.2.2.2.2.2.1 se.toNatClampNeg (1 : Int32)), cJa cJ (bd 13) 6 ms.2.2.2.2.2.2, cJa cJ (bd 14) 16 mo.2.2.1] := hD
                  refine lv_aload_n hx hb dM_sample_198 rfl (lv_at hl 2 rfl) ?_
                  refine gfM_52 hx hb hts hown hN hK hP 0 rfl (v := .ref (bd 13)) rfl dM_sample_199 ?_
                  refine lv_iconst (v := (3 : Int32)) hx hb dM_sample_202 (by decide) ?_
                  refine lv_iload_n hx hb dM_sample_203 rfl (lv_at hl 3 rfl) ?_
                  refine lv_imul hx hb dM_sample_204 ?_
                  refine lv_aload_n hx hb dM_sample_205 rfl (lv_at hl 2 rfl) ?_
                  refine gfM_111 hx hb hts hown hN hK hP 0 rfl (v := .long mw.1) rfl dM_sample_206 ?_
                  refine va_last hx hb hK hP hD hS 13 2 rfl rfl (k_s0 (k_in01 hq1 h2)) dM_sample_209 (fun H locs hP hD hS => ?_)
                  have hP : va_P D vwCl [cMd bd k mc mw me mo, cIa cI (bd 1) 128 mp, cZa cZ (bd 2) 30 me.1, cJa cJ (bd 3) 30 me.2.1, cIa cI (bd 4) 30 me.2.2.1, cZa cZ (bd 5) 6 mo.1, cZa cZ (bd 6) 6 mo.2.1, cZa cZ (bd 7) 2 (upd ms.1 se.toNatClampNeg (1 : Int32)), cIa cI (bd 8) 2 (upd ms.2.1 se.toNatClampNeg sv), cZa cZ (bd 9) 2 ms.2.2.1, cIa cI (bd 10) 2 ms.2.2.2.1, cIa cI (bd 11) 2 (upd ms.2.2.2.2.1 se.toNatClampNeg ((ms.2.2.2.2.1 se.toNatClampNeg) + (1 : Int32))), cZa cZ (bd 12) 2 (upd ms.2.2.2.2.2.1 se.toNatClampNeg (1 : Int32)), cJa cJ (bd 13) 6 (vp_updL ms.2.2.2.2.2.2 (((3 : Int32) * se).toNatClampNeg) mw.1), cJa cJ (bd 14) 16 mo.2.2.1] H := hP
                  have hD : va_D A [cMd bd k mc mw me mo, cIa cI (bd 1) 128 mp, cZa cZ (bd 2) 30 me.1, cJa cJ (bd 3) 30 me.2.1, cIa cI (bd 4) 30 me.2.2.1, cZa cZ (bd 5) 6 mo.1, cZa cZ (bd 6) 6 mo.2.1, cZa cZ (bd 7) 2 (upd ms.1 se.toNatClampNeg (1 : Int32)), cIa cI (bd 8) 2 (upd ms.2.1 se.toNatClampNeg sv), cZa cZ (bd 9) 2 ms.2.2.1, cIa cI (bd 10) 2 ms.2.2.2.1, cIa cI (bd 11) 2 (upd ms.2.2.2.2.1 se.toNatClampNeg ((ms.2.2.2.2.1 se.toNatClampNeg) + (1 : Int32))), cZa cZ (bd 12) 2 (upd ms.2.2.2.2.2.1 se.toNatClampNeg (1 : Int32)), cJa cJ (bd 13) 6 (vp_updL ms.2.2.2.2.2.2 (((3 : Int32) * se).toNatClampNeg) mw.1), cJa cJ (bd 14) 16 mo.2.2.1] := hD
                  refine lv_aload_n hx hb dM_sample_210 rfl (lv_at hl 2 rfl) ?_
                  refine gfM_52 hx hb hts hown hN hK hP 0 rfl (v := .ref (bd 13)) rfl dM_sample_211 ?_
                  refine lv_iconst (v := (3 : Int32)) hx hb dM_sample_214 (by decide) ?_
                  refine lv_iload_n hx hb dM_sample_215 rfl (lv_at hl 3 rfl) ?_
                  refine lv_imul hx hb dM_sample_216 ?_
                  refine lv_iconst (v := (1 : Int32)) hx hb dM_sample_217 (by decide) ?_
                  refine lv_iadd hx hb dM_sample_218 ?_
                  refine lv_aload_n hx hb dM_sample_219 rfl (lv_at hl 2 rfl) ?_
                  refine gfM_86 hx hb hts hown hN hK hP 0 rfl (v := .long mw.2.2.2.1) rfl dM_sample_220 ?_
                  refine va_last hx hb hK hP hD hS 13 2 rfl rfl (k_s1 (k_in01 hq1 h2)) dM_sample_223 (fun H locs hP hD hS => ?_)
                  have hP : va_P D vwCl [cMd bd k mc mw me mo, cIa cI (bd 1) 128 mp, cZa cZ (bd 2) 30 me.1, cJa cJ (bd 3) 30 me.2.1, cIa cI (bd 4) 30 me.2.2.1, cZa cZ (bd 5) 6 mo.1, cZa cZ (bd 6) 6 mo.2.1, cZa cZ (bd 7) 2 (upd ms.1 se.toNatClampNeg (1 : Int32)), cIa cI (bd 8) 2 (upd ms.2.1 se.toNatClampNeg sv), cZa cZ (bd 9) 2 ms.2.2.1, cIa cI (bd 10) 2 ms.2.2.2.1, cIa cI (bd 11) 2 (upd ms.2.2.2.2.1 se.toNatClampNeg ((ms.2.2.2.2.1 se.toNatClampNeg) + (1 : Int32))), cZa cZ (bd 12) 2 (upd ms.2.2.2.2.2.1 se.toNatClampNeg (1 : Int32)), cJa cJ (bd 13) 6 (vp_updL (vp_updL ms.2.2.2.2.2.2 (((3 : Int32) * se).toNatClampNeg) mw.1) ((((3 : Int32) * se) + (1 : Int32)).toNatClampNeg) mw.2.2.2.1), cJa cJ (bd 14) 16 mo.2.2.1] H := hP
                  have hD : va_D A [cMd bd k mc mw me mo, cIa cI (bd 1) 128 mp, cZa cZ (bd 2) 30 me.1, cJa cJ (bd 3) 30 me.2.1, cIa cI (bd 4) 30 me.2.2.1, cZa cZ (bd 5) 6 mo.1, cZa cZ (bd 6) 6 mo.2.1, cZa cZ (bd 7) 2 (upd ms.1 se.toNatClampNeg (1 : Int32)), cIa cI (bd 8) 2 (upd ms.2.1 se.toNatClampNeg sv), cZa cZ (bd 9) 2 ms.2.2.1, cIa cI (bd 10) 2 ms.2.2.2.1, cIa cI (bd 11) 2 (upd ms.2.2.2.2.1 se.toNatClampNeg ((ms.2.2.2.2.1 se.toNatClampNeg) + (1 : Int32))), cZa cZ (bd 12) 2 (upd ms.2.2.2.2.2.1 se.toNatClampNeg (1 : Int32)), cJa cJ (bd 13) 6 (vp_updL (vp_updL ms.2.2.2.2.2.2 (((3 : Int32) * se).toNatClampNeg) mw.1) ((((3 : Int32) * se) + (1 : Int32)).toNatClampNeg) mw.2.2.2.1), cJa cJ (bd 14) 16 mo.2.2.1] := hD
                  refine lv_aload_n hx hb dM_sample_224 rfl (lv_at hl 2 rfl) ?_
                  refine gfM_52 hx hb hts hown hN hK hP 0 rfl (v := .ref (bd 13)) rfl dM_sample_225 ?_
                  refine lv_iconst (v := (3 : Int32)) hx hb dM_sample_228 (by decide) ?_
                  refine lv_iload_n hx hb dM_sample_229 rfl (lv_at hl 3 rfl) ?_
                  refine lv_imul hx hb dM_sample_230 ?_
                  refine lv_iconst (v := (2 : Int32)) hx hb dM_sample_231 (by decide) ?_
                  refine lv_iadd hx hb dM_sample_232 ?_
                  refine lv_aload_n hx hb dM_sample_233 rfl (lv_at hl 2 rfl) ?_
                  refine lv_iconst (v := (0 : Int32)) hx hb dM_sample_234 (by decide) ?_
                  refine k_ca0 (wc := [cMd bd k mc mw me mo, cIa cI (bd 1) 128 mp, cZa cZ (bd 2) 30 me.1, cJa cJ (bd 3) 30 me.2.1, cIa cI (bd 4) 30 me.2.2.1, cZa cZ (bd 5) 6 mo.1, cZa cZ (bd 6) 6 mo.2.1, cZa cZ (bd 7) 2 (upd ms.1 se.toNatClampNeg (1 : Int32)), cIa cI (bd 8) 2 (upd ms.2.1 se.toNatClampNeg sv), cZa cZ (bd 9) 2 ms.2.2.1, cIa cI (bd 10) 2 ms.2.2.2.1, cIa cI (bd 11) 2 (upd ms.2.2.2.2.1 se.toNatClampNeg ((ms.2.2.2.2.1 se.toNatClampNeg) + (1 : Int32))), cZa cZ (bd 12) 2 (upd ms.2.2.2.2.2.1 se.toNatClampNeg (1 : Int32)), cJa cJ (bd 13) 6 (vp_updL (vp_updL ms.2.2.2.2.2.2 (((3 : Int32) * se).toNatClampNeg) mw.1) ((((3 : Int32) * se) + (1 : Int32)).toNatClampNeg) mw.2.2.2.1), cJa cJ (bd 14) 16 mo.2.2.1]) (wr := []) (va_runV (As := [.int (nI 0)]) (rest := [.int (((3 : Int32) * se) + (2 : Int32)), .ref (bd 13)]) ⟨hx, hb, hml, hown, hts⟩ (ctM_valueOf l D cZ cI cJ tL tH H.size bd k mc mw mp me mo (upd ms.1 se.toNatClampNeg (1 : Int32), upd ms.2.1 se.toNatClampNeg sv, ms.2.2.1, ms.2.2.2.1, upd ms.2.2.2.2.1 se.toNatClampNeg ((ms.2.2.2.2.1 se.toNatClampNeg) + (1 : Int32)), upd ms.2.2.2.2.2.1 se.toNatClampNeg (1 : Int32), vp_updL (vp_updL ms.2.2.2.2.2.2 (((3 : Int32) * se).toNatClampNeg) mw.1) ((((3 : Int32) * se) + (1 : Int32)).toNatClampNeg) mw.2.2.2.1) 0 hk (by decide)) (cwM_92 hts hN rfl rfl ⟨Nat.le_of_ble_eq_true rfl, Nat.le_of_ble_eq_true rfl⟩) (k_preV hK hN hT hA hS hP hD [0, 1, 2, 3, 4, 5, 6, 7, 8, 9, 10, 11, 12, 13, 14] rfl (by decide) 0 rfl rfl) rfl rfl hl.1 rfl (lv_room (Nat.le_of_ble_eq_true rfl)) dM_sample_235 ⟨Nat.zero_le _, Nat.zero_le _⟩) hP hD hS hA [0, 1, 2, 3, 4, 5, 6, 7, 8, 9, 10, 11, 12, 13, 14] [] rfl rfl (by decide) (by decide) (fun _ H locs hP hD hS => ?_)
                  refine W.eq (g2 := F0 m 238 ls [.int (fM_valueOf k mc mw mp me mo (upd ms.1 se.toNatClampNeg (1 : Int32), upd ms.2.1 se.toNatClampNeg sv, ms.2.2.1, ms.2.2.2.1, upd ms.2.2.2.2.1 se.toNatClampNeg ((ms.2.2.2.2.1 se.toNatClampNeg) + (1 : Int32)), upd ms.2.2.2.2.2.1 se.toNatClampNeg (1 : Int32), vp_updL (vp_updL ms.2.2.2.2.2.2 (((3 : Int32) * se).toNatClampNeg) mw.1) ((((3 : Int32) * se) + (1 : Int32)).toNatClampNeg) mw.2.2.2.1) 0), .int (((3 : Int32) * se) + (2 : Int32)), .ref (bd 13)]) rfl ?_
                  have hP : va_P D vwCl [cMd bd k mc mw me mo, cIa cI (bd 1) 128 mp, cZa cZ (bd 2) 30 me.1, cJa cJ (bd 3) 30 me.2.1, cIa cI (bd 4) 30 me.2.2.1, cZa cZ (bd 5) 6 mo.1, cZa cZ (bd 6) 6 mo.2.1, cZa cZ (bd 7) 2 (upd ms.1 se.toNatClampNeg (1 : Int32)), cIa cI (bd 8) 2 (upd ms.2.1 se.toNatClampNeg sv), cZa cZ (bd 9) 2 ms.2.2.1, cIa cI (bd 10) 2 ms.2.2.2.1, cIa cI (bd 11) 2 (upd ms.2.2.2.2.1 se.toNatClampNeg ((ms.2.2.2.2.1 se.toNatClampNeg) + (1 : Int32))), cZa cZ (bd 12) 2 (upd ms.2.2.2.2.2.1 se.toNatClampNeg (1 : Int32)), cJa cJ (bd 13) 6 (vp_updL (vp_updL ms.2.2.2.2.2.2 (((3 : Int32) * se).toNatClampNeg) mw.1) ((((3 : Int32) * se) + (1 : Int32)).toNatClampNeg) mw.2.2.2.1), cJa cJ (bd 14) 16 mo.2.2.1] H := hP
                  have hD : va_D A [cMd bd k mc mw me mo, cIa cI (bd 1) 128 mp, cZa cZ (bd 2) 30 me.1, cJa cJ (bd 3) 30 me.2.1, cIa cI (bd 4) 30 me.2.2.1, cZa cZ (bd 5) 6 mo.1, cZa cZ (bd 6) 6 mo.2.1, cZa cZ (bd 7) 2 (upd ms.1 se.toNatClampNeg (1 : Int32)), cIa cI (bd 8) 2 (upd ms.2.1 se.toNatClampNeg sv), cZa cZ (bd 9) 2 ms.2.2.1, cIa cI (bd 10) 2 ms.2.2.2.1, cIa cI (bd 11) 2 (upd ms.2.2.2.2.1 se.toNatClampNeg ((ms.2.2.2.2.1 se.toNatClampNeg) + (1 : Int32))), cZa cZ (bd 12) 2 (upd ms.2.2.2.2.2.1 se.toNatClampNeg (1 : Int32)), cJa cJ (bd 13) 6 (vp_updL (vp_updL ms.2.2.2.2.2.2 (((3 : Int32) * se).toNatClampNeg) mw.1) ((((3 : Int32) * se) + (1 : Int32)).toNatClampNeg) mw.2.2.2.1), cJa cJ (bd 14) 16 mo.2.2.1] := hD
                  generalize hq23 : fM_valueOf k mc mw mp me mo (upd ms.1 se.toNatClampNeg (1 : Int32), upd ms.2.1 se.toNatClampNeg sv, ms.2.2.1, ms.2.2.2.1, upd ms.2.2.2.2.1 se.toNatClampNeg ((ms.2.2.2.2.1 se.toNatClampNeg) + (1 : Int32)), upd ms.2.2.2.2.2.1 se.toNatClampNeg (1 : Int32), vp_updL (vp_updL ms.2.2.2.2.2.2 (((3 : Int32) * se).toNatClampNeg) mw.1) ((((3 : Int32) * se) + (1 : Int32)).toNatClampNeg) mw.2.2.2.1) 0 = q23 at ⊢
                  refine lv_i2l hx hb dM_sample_238 rfl ?_
                  refine va_last hx hb hK hP hD hS 13 2 rfl rfl (k_s2 (k_in01 hq1 h2)) dM_sample_239 (fun H locs hP hD hS => ?_)
                  have hP : va_P D vwCl [cMd bd k mc mw me mo, cIa cI (bd 1) 128 mp, cZa cZ (bd 2) 30 me.1, cJa cJ (bd 3) 30 me.2.1, cIa cI (bd 4) 30 me.2.2.1, cZa cZ (bd 5) 6 mo.1, cZa cZ (bd 6) 6 mo.2.1, cZa cZ (bd 7) 2 (upd ms.1 se.toNatClampNeg (1 : Int32)), cIa cI (bd 8) 2 (upd ms.2.1 se.toNatClampNeg sv), cZa cZ (bd 9) 2 ms.2.2.1, cIa cI (bd 10) 2 ms.2.2.2.1, cIa cI (bd 11) 2 (upd ms.2.2.2.2.1 se.toNatClampNeg ((ms.2.2.2.2.1 se.toNatClampNeg) + (1 : Int32))), cZa cZ (bd 12) 2 (upd ms.2.2.2.2.2.1 se.toNatClampNeg (1 : Int32)), cJa cJ (bd 13) 6 (vp_updL (vp_updL (vp_updL ms.2.2.2.2.2.2 (((3 : Int32) * se).toNatClampNeg) mw.1) ((((3 : Int32) * se) + (1 : Int32)).toNatClampNeg) mw.2.2.2.1) ((((3 : Int32) * se) + (2 : Int32)).toNatClampNeg) q23.toInt64), cJa cJ (bd 14) 16 mo.2.2.1] H := hP
                  have hD : va_D A [cMd bd k mc mw me mo, cIa cI (bd 1) 128 mp, cZa cZ (bd 2) 30 me.1, cJa cJ (bd 3) 30 me.2.1, cIa cI (bd 4) 30 me.2.2.1, cZa cZ (bd 5) 6 mo.1, cZa cZ (bd 6) 6 mo.2.1, cZa cZ (bd 7) 2 (upd ms.1 se.toNatClampNeg (1 : Int32)), cIa cI (bd 8) 2 (upd ms.2.1 se.toNatClampNeg sv), cZa cZ (bd 9) 2 ms.2.2.1, cIa cI (bd 10) 2 ms.2.2.2.1, cIa cI (bd 11) 2 (upd ms.2.2.2.2.1 se.toNatClampNeg ((ms.2.2.2.2.1 se.toNatClampNeg) + (1 : Int32))), cZa cZ (bd 12) 2 (upd ms.2.2.2.2.2.1 se.toNatClampNeg (1 : Int32)), cJa cJ (bd 13) 6 (vp_updL (vp_updL (vp_updL ms.2.2.2.2.2.2 (((3 : Int32) * se).toNatClampNeg) mw.1) ((((3 : Int32) * se) + (1 : Int32)).toNatClampNeg) mw.2.2.2.1) ((((3 : Int32) * se) + (2 : Int32)).toNatClampNeg) q23.toInt64), cJa cJ (bd 14) 16 mo.2.2.1] := hD
                  refine lv_iconst (v := (0 : Int32)) hx hb dM_sample_240 (by decide) ?_
                  exact k_zret hx hb hr hlk (zn_b (Or.inl rfl)) hP hD hS dM_sample_241 () (by simp only [fM_sample, hq1, if_neg h2, hq3, if_neg h4, if_neg h12, hq14, if_neg h15, hq17, if_pos h18, if_pos h19, if_neg h21, if_pos h22, hq23]) (by simp only [fM_sample, hq1, if_neg h2, hq3, if_neg h4, if_neg h12, hq14, if_neg h15, hq17, if_pos h18, if_pos h19, if_neg h21, if_pos h22, hq23])
              · -- not taken at 160
                refine lv_bipush (v := (6 : Int32)) hx hb dM_sample_163 (by decide) ?_
                refine lv_goto (tgt := 176) hx hb dM_sample_165 (by decide) ?_
                refine va_iast hx hb hK hP hD hS 11 1 rfl rfl (k_in01 hq1 h2) dM_sample_176 (fun H locs hP hD hS => ?_)
                have hP : va_P D vwCl [cMd bd k mc mw me mo, cIa cI (bd 1) 128 mp, cZa cZ (bd 2) 30 me.1, cJa cJ (bd 3) 30 me.2.1, cIa cI (bd 4) 30 me.2.2.1, cZa cZ (bd 5) 6 mo.1, cZa cZ (bd 6) 6 mo.2.1, cZa cZ (bd 7) 2 (upd ms.1 se.toNatClampNeg (1 : Int32)), cIa cI (bd 8) 2 (upd ms.2.1 se.toNatClampNeg sv), cZa cZ (bd 9) 2 ms.2.2.1, cIa cI (bd 10) 2 ms.2.2.2.1, cIa cI (bd 11) 2 (upd ms.2.2.2.2.1 se.toNatClampNeg (6 : Int32)), cZa cZ (bd 12) 2 ms.2.2.2.2.2.1, cJa cJ (bd 13) 6 ms.2.2.2.2.2.2, cJa cJ (bd 14) 16 mo.2.2.1] H := hP
                have hD : va_D A [cMd bd k mc mw me mo, cIa cI (bd 1) 128 mp, cZa cZ (bd 2) 30 me.1, cJa cJ (bd 3) 30 me.2.1, cIa cI (bd 4) 30 me.2.2.1, cZa cZ (bd 5) 6 mo.1, cZa cZ (bd 6) 6 mo.2.1, cZa cZ (bd 7) 2 (upd ms.1 se.toNatClampNeg (1 : Int32)), cIa cI (bd 8) 2 (upd ms.2.1 se.toNatClampNeg sv), cZa cZ (bd 9) 2 ms.2.2.1, cIa cI (bd 10) 2 ms.2.2.2.1, cIa cI (bd 11) 2 (upd ms.2.2.2.2.1 se.toNatClampNeg (6 : Int32)), cZa cZ (bd 12) 2 ms.2.2.2.2.2.1, cJa cJ (bd 13) 6 ms.2.2.2.2.2.2, cJa cJ (bd 14) 16 mo.2.2.1] := hD
                refine lv_iload hx hb dM_sample_177 (lv_at hl 0 rfl) ?_
                refine lv_if_eq (tgt := 240) hx hb dM_sample_179 (by decide) (fun h0 => absurd h0 (by decide)) (fun _ => ?_)
                refine lv_aload_n hx hb dM_sample_182 rfl (lv_at hl 2 rfl) ?_
                refine gfM_49 hx hb hts hown hN hK hP 0 rfl (v := .ref (bd 12)) rfl dM_sample_183 ?_
                refine lv_iload_n hx hb dM_sample_186 rfl (lv_at hl 3 rfl) ?_
                refine va_zald hx hb hK hP 12 0 rfl rfl (k_in01 hq1 h2) dM_sample_187 ?_
                refine lv_if_ne (tgt := 240) hx hb dM_sample_188 (by decide) (fun h24 => ?_) (fun h24 => ?_)
                · -- taken at 188
                  refine lv_iconst (v := (0 : Int32)) hx hb dM_sample_240 (by decide) ?_
                  exact k_zret hx hb hr hlk (zn_b (Or.inl rfl)) hP hD hS dM_sample_241 () (by simp only [fM_sample, hq1, if_neg h2, hq3, if_neg h4, if_neg h12, hq14, if_neg h15, hq17, if_pos h18, if_pos h19, if_pos h21, if_neg h24]) (by simp only [fM_sample, hq1, if_neg h2, hq3, if_neg h4, if_neg h12, hq14, if_neg h15, hq17, if_pos h18, if_pos h19, if_pos h21, if_neg h24])
                · -- not taken at 188
                  refine lv_aload_n hx hb dM_sample_191 rfl (lv_at hl 2 rfl) ?_
                  refine gfM_49 hx hb hts hown hN hK hP 0 rfl (v := .ref (bd 12)) rfl dM_sample_192 ?_
                  refine lv_iload_n hx hb dM_sample_195 rfl (lv_at hl 3 rfl) ?_
                  refine lv_iconst (v := (1 : Int32)) hx hb dM_sample_196 (by decide) ?_
                  refine va_zast hx hb hK hP hD hS 12 0 rfl rfl (k_in01 hq1 h2) dM_sample_197 (fun H locs hP hD hS => ?_)
                  rw [zn_nar (Or.inr rfl)] at hP hD
                  have hP : va_P D vwCl [cMd bd k mc mw me mo, cIa cI (bd 1) 128 mp, cZa cZ (bd 2) 30 me.1, cJa cJ (bd 3) 30 me.2.1, cIa cI (bd 4) 30 me.2.2.1, cZa cZ (bd 5) 6 mo.1, cZa cZ (bd 6) 6 mo.2.1, cZa cZ (bd 7) 2 (upd ms.1 se.toNatClampNeg (1 : Int32)), cIa cI (bd 8) 2 (upd ms.2.1 se.toNatClampNeg sv), cZa cZ (bd 9) 2 ms.2.2.1, cIa cI (bd 10) 2 ms.2.2.2.1, cIa cI (bd 11) 2 (upd ms.2.2.2.2.1 se.toNatClampNeg (6 : Int32)), cZa cZ (bd 12) 2 (upd ms.2.2.2.2.2.1 se.toNatClampNeg (1 : Int32)), cJa cJ (bd 13) 6 ms.2.2.2.2.2.2, cJa cJ (bd 14) 16 mo.2.2.1] H := hP
                  have hD : va_D A [cMd bd k mc mw me mo, cIa cI (bd 1) 128 mp, cZa cZ (bd 2) 30 me.1, cJa cJ (bd 3) 30 me.2.1, cIa cI (bd 4) 30 me.2.2.1, cZa cZ (bd 5) 6 mo.1, cZa cZ (bd 6) 6 mo.2.1, cZa cZ (bd 7) 2 (upd ms.1 se.toNatClampNeg (1 : Int32)), cIa cI (bd 8) 2 (upd ms.2.1 se.toNatClampNeg sv), cZa cZ (bd 9) 2 ms.2.2.1, cIa cI (bd 10) 2 ms.2.2.2.1, cIa cI (bd 11) 2 (upd ms.2.2.2.2.1 se.toNatClampNeg (6 : Int32)), cZa cZ (bd 12) 2 (upd ms.2.2.2.2.2.1 se.toNatClampNeg (1 : Int32)), cJa cJ (bd 13) 6 ms.2.2.2.2.2.2, cJa cJ (bd 14) 16 mo.2.2.1] := hD
                  refine lv_aload_n hx hb dM_sample_198 rfl (lv_at hl 2 rfl) ?_
                  refine gfM_52 hx hb hts hown hN hK hP 0 rfl (v := .ref (bd 13)) rfl dM_sample_199 ?_
                  refine lv_iconst (v := (3 : Int32)) hx hb dM_sample_202 (by decide) ?_
                  refine lv_iload_n hx hb dM_sample_203 rfl (lv_at hl 3 rfl) ?_
                  refine lv_imul hx hb dM_sample_204 ?_
                  refine lv_aload_n hx hb dM_sample_205 rfl (lv_at hl 2 rfl) ?_
                  refine gfM_111 hx hb hts hown hN hK hP 0 rfl (v := .long mw.1) rfl dM_sample_206 ?_
                  refine va_last hx hb hK hP hD hS 13 2 rfl rfl (k_s0 (k_in01 hq1 h2)) dM_sample_209 (fun H locs hP hD hS => ?_)
                  have hP : va_P D vwCl [cMd bd k mc mw me mo, cIa cI (bd 1) 128 mp, cZa cZ (bd 2) 30 me.1, cJa cJ (bd 3) 30 me.2.1, cIa cI (bd 4) 30 me.2.2.1, cZa cZ (bd 5) 6 mo.1, cZa cZ (bd 6) 6 mo.2.1, cZa cZ (bd 7) 2 (upd ms.1 se.toNatClampNeg (1 : Int32)), cIa cI (bd 8) 2 (upd ms.2.1 se.toNatClampNeg sv), cZa cZ (bd 9) 2 ms.2.2.1, cIa cI (bd 10) 2 ms.2.2.2.1, cIa cI (bd 11) 2 (upd ms.2.2.2.2.1 se.toNatClampNeg (6 : Int32)), cZa cZ (bd 12) 2 (upd ms.2.2.2.2.2.1 se.toNatClampNeg (1 : Int32)), cJa cJ (bd 13) 6 (vp_updL ms.2.2.2.2.2.2 (((3 : Int32) * se).toNatClampNeg) mw.1), cJa cJ (bd 14) 16 mo.2.2.1] H := hP
                  have hD : va_D A [cMd bd k mc mw me mo, cIa cI (bd 1) 128 mp, cZa cZ (bd 2) 30 me.1, cJa cJ (bd 3) 30 me.2.1, cIa cI (bd 4) 30 me.2.2.1, cZa cZ (bd 5) 6 mo.1, cZa cZ (bd 6) 6 mo.2.1, cZa cZ (bd 7) 2 (upd ms.1 se.toNatClampNeg (1 : Int32)), cIa cI (bd 8) 2 (upd ms.2.1 se.toNatClampNeg sv), cZa cZ (bd 9) 2 ms.2.2.1, cIa cI (bd 10) 2 ms.2.2.2.1, cIa cI (bd 11) 2 (upd ms.2.2.2.2.1 se.toNatClampNeg (6 : Int32)), cZa cZ (bd 12) 2 (upd ms.2.2.2.2.2.1 se.toNatClampNeg (1 : Int32)), cJa cJ (bd 13) 6 (vp_updL ms.2.2.2.2.2.2 (((3 : Int32) * se).toNatClampNeg) mw.1), cJa cJ (bd 14) 16 mo.2.2.1] := hD
                  refine lv_aload_n hx hb dM_sample_210 rfl (lv_at hl 2 rfl) ?_
                  refine gfM_52 hx hb hts hown hN hK hP 0 rfl (v := .ref (bd 13)) rfl dM_sample_211 ?_
                  refine lv_iconst (v := (3 : Int32)) hx hb dM_sample_214 (by decide) ?_
                  refine lv_iload_n hx hb dM_sample_215 rfl (lv_at hl 3 rfl) ?_
                  refine lv_imul hx hb dM_sample_216 ?_
                  refine lv_iconst (v := (1 : Int32)) hx hb dM_sample_217 (by decide) ?_
                  refine lv_iadd hx hb dM_sample_218 ?_
                  refine lv_aload_n hx hb dM_sample_219 rfl (lv_at hl 2 rfl) ?_
                  refine gfM_86 hx hb hts hown hN hK hP 0 rfl (v := .long mw.2.2.2.1) rfl dM_sample_220 ?_
                  refine va_last hx hb hK hP hD hS 13 2 rfl rfl (k_s1 (k_in01 hq1 h2)) dM_sample_223 (fun H locs hP hD hS => ?_)
                  have hP : va_P D vwCl [cMd bd k mc mw me mo, cIa cI (bd 1) 128 mp, cZa cZ (bd 2) 30 me.1, cJa cJ (bd 3) 30 me.2.1, cIa cI (bd 4) 30 me.2.2.1, cZa cZ (bd 5) 6 mo.1, cZa cZ (bd 6) 6 mo.2.1, cZa cZ (bd 7) 2 (upd ms.1 se.toNatClampNeg (1 : Int32)), cIa cI (bd 8) 2 (upd ms.2.1 se.toNatClampNeg sv), cZa cZ (bd 9) 2 ms.2.2.1, cIa cI (bd 10) 2 ms.2.2.2.1, cIa cI (bd 11) 2 (upd ms.2.2.2.2.1 se.toNatClampNeg (6 : Int32)), cZa cZ (bd 12) 2 (upd ms.2.2.2.2.2.1 se.toNatClampNeg (1 : Int32)), cJa cJ (bd 13) 6 (vp_updL (vp_updL ms.2.2.2.2.2.2 (((3 : Int32) * se).toNatClampNeg) mw.1) ((((3 : Int32) * se) + (1 : Int32)).toNatClampNeg) mw.2.2.2.1), cJa cJ (bd 14) 16 mo.2.2.1] H := hP
                  have hD : va_D A [cMd bd k mc mw me mo, cIa cI (bd 1) 128 mp, cZa cZ (bd 2) 30 me.1, cJa cJ (bd 3) 30 me.2.1, cIa cI (bd 4) 30 me.2.2.1, cZa cZ (bd 5) 6 mo.1, cZa cZ (bd 6) 6 mo.2.1, cZa cZ (bd 7) 2 (upd ms.1 se.toNatClampNeg (1 : Int32)), cIa cI (bd 8) 2 (upd ms.2.1 se.toNatClampNeg sv), cZa cZ (bd 9) 2 ms.2.2.1, cIa cI (bd 10) 2 ms.2.2.2.1, cIa cI (bd 11) 2 (upd ms.2.2.2.2.1 se.toNatClampNeg (6 : Int32)), cZa cZ (bd 12) 2 (upd ms.2.2.2.2.2.1 se.toNatClampNeg (1 : Int32)), cJa cJ (bd 13) 6 (vp_updL (vp_updL ms.2.2.2.2.2.2 (((3 : Int32) * se).toNatClampNeg) mw.1) ((((3 : Int32) * se) + (1 : Int32)).toNatClampNeg) mw.2.2.2.1), cJa cJ (bd 14) 16 mo.2.2.1] := hD
                  refine lv_aload_n hx hb dM_sample_224 rfl (lv_at hl 2 rfl) ?_
                  refine gfM_52 hx hb hts hown hN hK hP 0 rfl (v := .ref (bd 13)) rfl dM_sample_225 ?_
                  refine lv_iconst (v := (3 : Int32)) hx hb dM_sample_228 (by decide) ?_
                  refine lv_iload_n hx hb dM_sample_229 rfl (lv_at hl 3 rfl) ?_
                  refine lv_imul hx hb dM_sample_230 ?_
                  refine lv_iconst (v := (2 : Int32)) hx hb dM_sample_231 (by decide) ?_
                  refine lv_iadd hx hb dM_sample_232 ?_
                  refine lv_aload_n hx hb dM_sample_233 rfl (lv_at hl 2 rfl) ?_
                  refine lv_iconst (v := (0 : Int32)) hx hb dM_sample_234 (by decide) ?_
                  refine k_ca0 (wc := [cMd bd k mc mw me mo, cIa cI (bd 1) 128 mp, cZa cZ (bd 2) 30 me.1, cJa cJ (bd 3) 30 me.2.1, cIa cI (bd 4) 30 me.2.2.1, cZa cZ (bd 5) 6 mo.1, cZa cZ (bd 6) 6 mo.2.1, cZa cZ (bd 7) 2 (upd ms.1 se.toNatClampNeg (1 : Int32)), cIa cI (bd 8) 2 (upd ms.2.1 se.toNatClampNeg sv), cZa cZ (bd 9) 2 ms.2.2.1, cIa cI (bd 10) 2 ms.2.2.2.1, cIa cI (bd 11) 2 (upd ms.2.2.2.2.1 se.toNatClampNeg (6 : Int32)), cZa cZ (bd 12) 2 (upd ms.2.2.2.2.2.1 se.toNatClampNeg (1 : Int32)), cJa cJ (bd 13) 6 (vp_updL (vp_updL ms.2.2.2.2.2.2 (((3 : Int32) * se).toNatClampNeg) mw.1) ((((3 : Int32) * se) + (1 : Int32)).toNatClampNeg) mw.2.2.2.1), cJa cJ (bd 14) 16 mo.2.2.1]) (wr := []) (va_runV (As := [.int (nI 0)]) (rest := [.int (((3 : Int32) * se) + (2 : Int32)), .ref (bd 13)]) ⟨hx, hb, hml, hown, hts⟩ (ctM_valueOf l D cZ cI cJ tL tH H.size bd k mc mw mp me mo (upd ms.1 se.toNatClampNeg (1 : Int32), upd ms.2.1 se.toNatClampNeg sv, ms.2.2.1, ms.2.2.2.1, upd ms.2.2.2.2.1 se.toNatClampNeg (6 : Int32), upd ms.2.2.2.2.2.1 se.toNatClampNeg (1 : Int32), vp_updL (vp_updL ms.2.2.2.2.2.2 (((3 : Int32) * se).toNatClampNeg) mw.1) ((((3 : Int32) * se) + (1 : Int32)).toNatClampNeg) mw.2.2.2.1) 0 hk (by decide)) (cwM_92 hts hN rfl rfl ⟨Nat.le_of_ble_eq_true rfl, Nat.le_of_ble_eq_true rfl⟩) (k_preV hK hN hT hA hS hP hD [0, 1, 2, 3, 4, 5, 6, 7, 8, 9, 10, 11, 12, 13, 14] rfl (by decide) 0 rfl rfl) rfl rfl hl.1 rfl (lv_room (Nat.le_of_ble_eq_true rfl)) dM_sample_235 ⟨Nat.zero_le _, Nat.zero_le _⟩) hP hD hS hA [0, 1, 2, 3, 4, 5, 6, 7, 8, 9, 10, 11, 12, 13, 14] [] rfl rfl (by decide) (by decide) (fun _ H locs hP hD hS => ?_)
                  refine W.eq (g2 := F0 m 238 ls [.int (fM_valueOf k mc mw mp me mo (upd ms.1 se.toNatClampNeg (1 : Int32), upd ms.2.1 se.toNatClampNeg sv, ms.2.2.1, ms.2.2.2.1, upd ms.2.2.2.2.1 se.toNatClampNeg (6 : Int32), upd ms.2.2.2.2.2.1 se.toNatClampNeg (1 : Int32), vp_updL (vp_updL ms.2.2.2.2.2.2 (((3 : Int32) * se).toNatClampNeg) mw.1) ((((3 : Int32) * se) + (1 : Int32)).toNatClampNeg) mw.2.2.2.1) 0), .int (((3 : Int32) * se) + (2 : Int32)), .ref (bd 13)]) rfl ?_
                  have hP : va_P D vwCl [cMd bd k mc mw me mo, cIa cI (bd 1) 128 mp, cZa cZ (bd 2) 30 me.1, cJa cJ (bd 3) 30 me.2.1, cIa cI (bd 4) 30 me.2.2.1, cZa cZ (bd 5) 6 mo.1, cZa cZ (bd 6) 6 mo.2.1, cZa cZ (bd 7) 2 (upd ms.1 se.toNatClampNeg (1 : Int32)), cIa cI (bd 8) 2 (upd ms.2.1 se.toNatClampNeg sv), cZa cZ (bd 9) 2 ms.2.2.1, cIa cI (bd 10) 2 ms.2.2.2.1, cIa cI (bd 11) 2 (upd ms.2.2.2.2.1 se.toNatClampNeg (6 : Int32)), cZa cZ (bd 12) 2 (upd ms.2.2.2.2.2.1 se.toNatClampNeg (1 : Int32)), cJa cJ (bd 13) 6 (vp_updL (vp_updL ms.2.2.2.2.2.2 (((3 : Int32) * se).toNatClampNeg) mw.1) ((((3 : Int32) * se) + (1 : Int32)).toNatClampNeg) mw.2.2.2.1), cJa cJ (bd 14) 16 mo.2.2.1] H := hP
                  have hD : va_D A [cMd bd k mc mw me mo, cIa cI (bd 1) 128 mp, cZa cZ (bd 2) 30 me.1, cJa cJ (bd 3) 30 me.2.1, cIa cI (bd 4) 30 me.2.2.1, cZa cZ (bd 5) 6 mo.1, cZa cZ (bd 6) 6 mo.2.1, cZa cZ (bd 7) 2 (upd ms.1 se.toNatClampNeg (1 : Int32)), cIa cI (bd 8) 2 (upd ms.2.1 se.toNatClampNeg sv), cZa cZ (bd 9) 2 ms.2.2.1, cIa cI (bd 10) 2 ms.2.2.2.1, cIa cI (bd 11) 2 (upd ms.2.2.2.2.1 se.toNatClampNeg (6 : Int32)), cZa cZ (bd 12) 2 (upd ms.2.2.2.2.2.1 se.toNatClampNeg (1 : Int32)), cJa cJ (bd 13) 6 (vp_updL (vp_updL ms.2.2.2.2.2.2 (((3 : Int32) * se).toNatClampNeg) mw.1) ((((3 : Int32) * se) + (1 : Int32)).toNatClampNeg) mw.2.2.2.1), cJa cJ (bd 14) 16 mo.2.2.1] := hD
                  generalize hq25 : fM_valueOf k mc mw mp me mo (upd ms.1 se.toNatClampNeg (1 : Int32), upd ms.2.1 se.toNatClampNeg sv, ms.2.2.1, ms.2.2.2.1, upd ms.2.2.2.2.1 se.toNatClampNeg (6 : Int32), upd ms.2.2.2.2.2.1 se.toNatClampNeg (1 : Int32), vp_updL (vp_updL ms.2.2.2.2.2.2 (((3 : Int32) * se).toNatClampNeg) mw.1) ((((3 : Int32) * se) + (1 : Int32)).toNatClampNeg) mw.2.2.2.1) 0 = q25 at ⊢
                  refine lv_i2l hx hb dM_sample_238 rfl ?_
                  refine va_last hx hb hK hP hD hS 13 2 rfl rfl (k_s2 (k_in01 hq1 h2)) dM_sample_239 (fun H locs hP hD hS => ?_)
                  have hP : va_P D vwCl [cMd bd k mc mw me mo, cIa cI (bd 1) 128 mp, cZa cZ (bd 2) 30 me.1, cJa cJ (bd 3) 30 me.2.1, cIa cI (bd 4) 30 me.2.2.1, cZa cZ (bd 5) 6 mo.1, cZa cZ (bd 6) 6 mo.2.1, cZa cZ (bd 7) 2 (upd ms.1 se.toNatClampNeg (1 : Int32)), cIa cI (bd 8) 2 (upd ms.2.1 se.toNatClampNeg sv), cZa cZ (bd 9) 2 ms.2.2.1, cIa cI (bd 10) 2 ms.2.2.2.1, cIa cI (bd 11) 2 (upd ms.2.2.2.2.1 se.toNatClampNeg (6 : Int32)), cZa cZ (bd 12) 2 (upd ms.2.2.2.2.2.1 se.toNatClampNeg (1 : Int32)), cJa cJ (bd 13) 6 (vp_updL (vp_updL (vp_updL ms.2.2.2.2.2.2 (((3 : Int32) * se).toNatClampNeg) mw.1) ((((3 : Int32) * se) + (1 : Int32)).toNatClampNeg) mw.2.2.2.1) ((((3 : Int32) * se) + (2 : Int32)).toNatClampNeg) q25.toInt64), cJa cJ (bd 14) 16 mo.2.2.1] H := hP
                  have hD : va_D A [cMd bd k mc mw me mo, cIa cI (bd 1) 128 mp, cZa cZ (bd 2) 30 me.1, cJa cJ (bd 3) 30 me.2.1, cIa cI (bd 4) 30 me.2.2.1, cZa cZ (bd 5) 6 mo.1, cZa cZ (bd 6) 6 mo.2.1, cZa cZ (bd 7) 2 (upd ms.1 se.toNatClampNeg (1 : Int32)), cIa cI (bd 8) 2 (upd ms.2.1 se.toNatClampNeg sv), cZa cZ (bd 9) 2 ms.2.2.1, cIa cI (bd 10) 2 ms.2.2.2.1, cIa cI (bd 11) 2 (upd ms.2.2.2.2.1 se.toNatClampNeg (6 : Int32)), cZa cZ (bd 12) 2 (upd ms.2.2.2.2.2.1 se.toNatClampNeg (1 : Int32)), cJa cJ (bd 13) 6 (vp_updL (vp_updL (vp_updL ms.2.2.2.2.2.2 (((3 : Int32) * se).toNatClampNeg) mw.1) ((((3 : Int32) * se) + (1 : Int32)).toNatClampNeg) mw.2.2.2.1) ((((3 : Int32) * se) + (2 : Int32)).toNatClampNeg) q25.toInt64), cJa cJ (bd 14) 16 mo.2.2.1] := hD
                  refine lv_iconst (v := (0 : Int32)) hx hb dM_sample_240 (by decide) ?_
                  exact k_zret hx hb hr hlk (zn_b (Or.inl rfl)) hP hD hS dM_sample_241 () (by simp only [fM_sample, hq1, if_neg h2, hq3, if_neg h4, if_neg h12, hq14, if_neg h15, hq17, if_pos h18, if_pos h19, if_pos h21, if_pos h24, hq25]) (by simp only [fM_sample, hq1, if_neg h2, hq3, if_neg h4, if_neg h12, hq14, if_neg h15, hq17, if_pos h18, if_pos h19, if_pos h21, if_pos h24, hq25])
          · -- not taken at 84
            refine lv_aload_n hx hb dM_sample_87 rfl (lv_at hl 1 rfl) ?_
            refine gfM_40 hx hb hts hown hN hK hP 0 rfl (v := .ref (bd 9)) rfl dM_sample_88 ?_
            refine lv_iload_n hx hb dM_sample_91 rfl (lv_at hl 2 rfl) ?_
            refine lv_iconst (v := (1 : Int32)) hx hb dM_sample_92 (by decide) ?_
            refine va_zast hx hb hK hP hD hS 9 0 rfl rfl (k_in01 hq1 h2) dM_sample_93 (fun H locs hP hD hS => ?_)
            rw [zn_nar (Or.inr rfl)] at hP hD
            have hP : va_P D vwCl [cMd bd k mc mw me mo, cIa cI (bd 1) 128 mp, cZa cZ (bd 2) 30 me.1, cJa cJ (bd 3) 30 me.2.1, cIa cI (bd 4) 30 me.2.2.1, cZa cZ (bd 5) 6 mo.1, cZa cZ (bd 6) 6 mo.2.1, cZa cZ (bd 7) 2 (upd ms.1 se.toNatClampNeg (1 : Int32)), cIa cI (bd 8) 2 (upd ms.2.1 se.toNatClampNeg sv), cZa cZ (bd 9) 2 (upd ms.2.2.1 se.toNatClampNeg (1 : Int32)), cIa cI (bd 10) 2 ms.2.2.2.1, cIa cI (bd 11) 2 ms.2.2.2.2.1, cZa cZ (bd 12) 2 ms.2.2.2.2.2.1, cJa cJ (bd 13) 6 ms.2.2.2.2.2.2, cJa cJ (bd 14) 16 mo.2.2.1] H := hP
            have hD : va_D A [cMd bd k mc mw me mo, cIa cI (bd 1) 128 mp, cZa cZ (bd 2) 30 me.1, cJa cJ (bd 3) 30 me.2.1, cIa cI (bd 4) 30 me.2.2.1, cZa cZ (bd 5) 6 mo.1, cZa cZ (bd 6) 6 mo.2.1, cZa cZ (bd 7) 2 (upd ms.1 se.toNatClampNeg (1 : Int32)), cIa cI (bd 8) 2 (upd ms.2.1 se.toNatClampNeg sv), cZa cZ (bd 9) 2 (upd ms.2.2.1 se.toNatClampNeg (1 : Int32)), cIa cI (bd 10) 2 ms.2.2.2.1, cIa cI (bd 11) 2 ms.2.2.2.2.1, cZa cZ (bd 12) 2 ms.2.2.2.2.2.1, cJa cJ (bd 13) 6 ms.2.2.2.2.2.2, cJa cJ (bd 14) 16 mo.2.2.1] := hD
            refine lv_aload_n hx hb dM_sample_94 rfl (lv_at hl 1 rfl) ?_
            refine gfM_43 hx hb hts hown hN hK hP 0 rfl (v := .ref (bd 10)) rfl dM_sample_95 ?_
            refine lv_iload_n hx hb dM_sample_98 rfl (lv_at hl 2 rfl) ?_
            refine lv_iload_n hx hb dM_sample_99 rfl (lv_at hl 3 rfl) ?_
            refine va_iast hx hb hK hP hD hS 10 1 rfl rfl (k_in01 hq1 h2) dM_sample_100 (fun H locs hP hD hS => ?_)
            have hP : va_P D vwCl [cMd bd k mc mw me mo, cIa cI (bd 1) 128 mp, cZa cZ (bd 2) 30 me.1, cJa cJ (bd 3) 30 me.2.1, cIa cI (bd 4) 30 me.2.2.1, cZa cZ (bd 5) 6 mo.1, cZa cZ (bd 6) 6 mo.2.1, cZa cZ (bd 7) 2 (upd ms.1 se.toNatClampNeg (1 : Int32)), cIa cI (bd 8) 2 (upd ms.2.1 se.toNatClampNeg sv), cZa cZ (bd 9) 2 (upd ms.2.2.1 se.toNatClampNeg (1 : Int32)), cIa cI (bd 10) 2 (upd ms.2.2.2.1 se.toNatClampNeg sv), cIa cI (bd 11) 2 ms.2.2.2.2.1, cZa cZ (bd 12) 2 ms.2.2.2.2.2.1, cJa cJ (bd 13) 6 ms.2.2.2.2.2.2, cJa cJ (bd 14) 16 mo.2.2.1] H := hP
            have hD : va_D A [cMd bd k mc mw me mo, cIa cI (bd 1) 128 mp, cZa cZ (bd 2) 30 me.1, cJa cJ (bd 3) 30 me.2.1, cIa cI (bd 4) 30 me.2.2.1, cZa cZ (bd 5) 6 mo.1, cZa cZ (bd 6) 6 mo.2.1, cZa cZ (bd 7) 2 (upd ms.1 se.toNatClampNeg (1 : Int32)), cIa cI (bd 8) 2 (upd ms.2.1 se.toNatClampNeg sv), cZa cZ (bd 9) 2 (upd ms.2.2.1 se.toNatClampNeg (1 : Int32)), cIa cI (bd 10) 2 (upd ms.2.2.2.1 se.toNatClampNeg sv), cIa cI (bd 11) 2 ms.2.2.2.2.1, cZa cZ (bd 12) 2 ms.2.2.2.2.2.1, cJa cJ (bd 13) 6 ms.2.2.2.2.2.2, cJa cJ (bd 14) 16 mo.2.2.1] := hD
            refine lv_aload_n hx hb dM_sample_101 rfl (lv_at hl 1 rfl) ?_
            refine gfM_46 hx hb hts hown hN hK hP 0 rfl (v := .ref (bd 11)) rfl dM_sample_102 ?_
            refine lv_iload_n hx hb dM_sample_105 rfl (lv_at hl 2 rfl) ?_
            refine lv_aload_n hx hb dM_sample_106 rfl (lv_at hl 1 rfl) ?_
            refine gfM_46 hx hb hts hown hN hK hP 0 rfl (v := .ref (bd 11)) rfl dM_sample_107 ?_
            refine lv_iload_n hx hb dM_sample_110 rfl (lv_at hl 2 rfl) ?_
            refine va_iald hx hb hK hP 11 1 rfl rfl (k_in01 hq1 h2) dM_sample_111 ?_
            refine lv_if_ne (tgt := 119) hx hb dM_sample_112 (by decide) (fun h26 => ?_) (fun h26 => ?_)
            · -- taken at 112
              refine lv_aload_n hx hb dM_sample_119 rfl (lv_at hl 1 rfl) ?_
              refine gfM_46 hx hb hts hown hN hK hP 0 rfl (v := .ref (bd 11)) rfl dM_sample_120 ?_
              refine lv_iload_n hx hb dM_sample_123 rfl (lv_at hl 2 rfl) ?_
              refine va_iald hx hb hK hP 11 1 rfl rfl (k_in01 hq1 h2) dM_sample_124 ?_
              refine lv_iconst (v := (1 : Int32)) hx hb dM_sample_125 (by decide) ?_
              refine lv_isub hx hb dM_sample_126 ?_
              refine va_iast hx hb hK hP hD hS 11 1 rfl rfl (k_in01 hq1 h2) dM_sample_127 (fun H locs hP hD hS => ?_)
              have hP : va_P D vwCl [cMd bd k mc mw me mo, cIa cI (bd 1) 128 mp, cZa cZ (bd 2) 30 me.1, cJa cJ (bd 3) 30 me.2.1, cIa cI (bd 4) 30 me.2.2.1, cZa cZ (bd 5) 6 mo.1, cZa cZ (bd 6) 6 mo.2.1, cZa cZ (bd 7) 2 (upd ms.1 se.toNatClampNeg (1 : Int32)), cIa cI (bd 8) 2 (upd ms.2.1 se.toNatClampNeg sv), cZa cZ (bd 9) 2 (upd ms.2.2.1 se.toNatClampNeg (1 : Int32)), cIa cI (bd 10) 2 (upd ms.2.2.2.1 se.toNatClampNeg sv), cIa cI (bd 11) 2 (upd ms.2.2.2.2.1 se.toNatClampNeg ((ms.2.2.2.2.1 se.toNatClampNeg) - (1 : Int32))), cZa cZ (bd 12) 2 ms.2.2.2.2.2.1, cJa cJ (bd 13) 6 ms.2.2.2.2.2.2, cJa cJ (bd 14) 16 mo.2.2.1] H := hP
              have hD : va_D A [cMd bd k mc mw me mo, cIa cI (bd 1) 128 mp, cZa cZ (bd 2) 30 me.1, cJa cJ (bd 3) 30 me.2.1, cIa cI (bd 4) 30 me.2.2.1, cZa cZ (bd 5) 6 mo.1, cZa cZ (bd 6) 6 mo.2.1, cZa cZ (bd 7) 2 (upd ms.1 se.toNatClampNeg (1 : Int32)), cIa cI (bd 8) 2 (upd ms.2.1 se.toNatClampNeg sv), cZa cZ (bd 9) 2 (upd ms.2.2.1 se.toNatClampNeg (1 : Int32)), cIa cI (bd 10) 2 (upd ms.2.2.2.1 se.toNatClampNeg sv), cIa cI (bd 11) 2 (upd ms.2.2.2.2.1 se.toNatClampNeg ((ms.2.2.2.2.1 se.toNatClampNeg) - (1 : Int32))), cZa cZ (bd 12) 2 ms.2.2.2.2.2.1, cJa cJ (bd 13) 6 ms.2.2.2.2.2.2, cJa cJ (bd 14) 16 mo.2.2.1] := hD
              refine lv_iconst (v := (1 : Int32)) hx hb dM_sample_128 (by decide) ?_
              exact k_zret hx hb hr hlk (zn_b (Or.inr rfl)) hP hD hS dM_sample_129 () (by simp only [fM_sample, hq1, if_neg h2, hq3, if_neg h4, if_neg h12, hq14, if_neg h15, hq17, if_neg h18, if_neg h26]) (by simp only [fM_sample, hq1, if_neg h2, hq3, if_neg h4, if_neg h12, hq14, if_neg h15, hq17, if_neg h18, if_neg h26])
            · -- not taken at 112
              refine lv_iconst (v := (0 : Int32)) hx hb dM_sample_115 (by decide) ?_
              refine lv_goto (tgt := 127) hx hb dM_sample_116 (by decide) ?_
              refine va_iast hx hb hK hP hD hS 11 1 rfl rfl (k_in01 hq1 h2) dM_sample_127 (fun H locs hP hD hS => ?_)
              have hP : va_P D vwCl [cMd bd k mc mw me mo, cIa cI (bd 1) 128 mp, cZa cZ (bd 2) 30 me.1, cJa cJ (bd 3) 30 me.2.1, cIa cI (bd 4) 30 me.2.2.1, cZa cZ (bd 5) 6 mo.1, cZa cZ (bd 6) 6 mo.2.1, cZa cZ (bd 7) 2 (upd ms.1 se.toNatClampNeg (1 : Int32)), cIa cI (bd 8) 2 (upd ms.2.1 se.toNatClampNeg sv), cZa cZ (bd 9) 2 (upd ms.2.2.1 se.toNatClampNeg (1 : Int32)), cIa cI (bd 10) 2 (upd ms.2.2.2.1 se.toNatClampNeg sv), cIa cI (bd 11) 2 (upd ms.2.2.2.2.1 se.toNatClampNeg (0 : Int32)), cZa cZ (bd 12) 2 ms.2.2.2.2.2.1, cJa cJ (bd 13) 6 ms.2.2.2.2.2.2, cJa cJ (bd 14) 16 mo.2.2.1] H := hP
              have hD : va_D A [cMd bd k mc mw me mo, cIa cI (bd 1) 128 mp, cZa cZ (bd 2) 30 me.1, cJa cJ (bd 3) 30 me.2.1, cIa cI (bd 4) 30 me.2.2.1, cZa cZ (bd 5) 6 mo.1, cZa cZ (bd 6) 6 mo.2.1, cZa cZ (bd 7) 2 (upd ms.1 se.toNatClampNeg (1 : Int32)), cIa cI (bd 8) 2 (upd ms.2.1 se.toNatClampNeg sv), cZa cZ (bd 9) 2 (upd ms.2.2.1 se.toNatClampNeg (1 : Int32)), cIa cI (bd 10) 2 (upd ms.2.2.2.1 se.toNatClampNeg sv), cIa cI (bd 11) 2 (upd ms.2.2.2.2.1 se.toNatClampNeg (0 : Int32)), cZa cZ (bd 12) 2 ms.2.2.2.2.2.1, cJa cJ (bd 13) 6 ms.2.2.2.2.2.2, cJa cJ (bd 14) 16 mo.2.2.1] := hD
              refine lv_iconst (v := (1 : Int32)) hx hb dM_sample_128 (by decide) ?_
              exact k_zret hx hb hr hlk (zn_b (Or.inr rfl)) hP hD hS dM_sample_129 () (by simp only [fM_sample, hq1, if_neg h2, hq3, if_neg h4, if_neg h12, hq14, if_neg h15, hq17, if_neg h18, if_pos h26]) (by simp only [fM_sample, hq1, if_neg h2, hq3, if_neg h4, if_neg h12, hq14, if_neg h15, hq17, if_neg h18, if_pos h26])
  · -- not taken at 6
    refine lv_iconst (v := (0 : Int32)) hx hb dM_sample_9 (by decide) ?_
    exact k_zret hx hb hr hlk (zn_b (Or.inl rfl)) hP hD hS dM_sample_10 () (by simp only [fM_sample, hq1, if_pos h2]) (by simp only [fM_sample, hq1, if_pos h2])

def fM_frame (k : Nat) (mc : McT) (mw : MwT) (mp : MpT) (me : MeT) (mo : MoT) (ms : MsT) (se : Int32) (part : Int32) : Int64 :=
  let q1 := fM_in se (0 : Int32) (1 : Int32)
  if q1 = 0 then
    (-1 : Int64)
  else
    let q3 := fM_in part (0 : Int32) (2 : Int32)
    if q3 = 0 then
      (-1 : Int64)
    else
      if (ms.2.2.2.2.2.1 se.toNatClampNeg) = 0 then
        (-1 : Int64)
      else
        ms.2.2.2.2.2.2 ((((3 : Int32) * se) + part).toNatClampNeg)
set_option maxRecDepth 100000 in
set_option maxHeartbeats 4000000 in
theorem ctM_frame (l : Launch) (D : va_G) (cZ cI cJ : ClassId) (tL tH : Nat) (sz : Nat) (bd : Nat → Nat) (k : Nat) (mc : McT) (mw : MwT) (mp : MpT) (me : MeT) (mo : MoT) (ms : MsT) (se : Int32) (part : Int32)  (hk : 0 < k ∧ k ≤ 6) : Ct l yM_frame wM_frame ({ frames := 1, cells := 0, slots := 0, locals := 22 }) D (tyG cZ cI cJ) tL tH [.ref (bd 0), .int se, .int part] sz [cMd bd k mc mw me mo, cIa cI (bd 1) 128 mp, cZa cZ (bd 2) 30 me.1, cJa cJ (bd 3) 30 me.2.1, cIa cI (bd 4) 30 me.2.2.1, cZa cZ (bd 5) 6 mo.1, cZa cZ (bd 6) 6 mo.2.1, cZa cZ (bd 7) 2 ms.1, cIa cI (bd 8) 2 ms.2.1, cZa cZ (bd 9) 2 ms.2.2.1, cIa cI (bd 10) 2 ms.2.2.2.1, cIa cI (bd 11) 2 ms.2.2.2.2.1, cZa cZ (bd 12) 2 ms.2.2.2.2.2.1, cJa cJ (bd 13) 6 ms.2.2.2.2.2.2, cJa cJ (bd 14) 16 mo.2.2.1] (fun _ : Unit => some (.long (fM_frame k mc mw mp me mo ms se part))) (fun _ : Unit => [cMd bd k mc mw me mo, cIa cI (bd 1) 128 mp, cZa cZ (bd 2) 30 me.1, cJa cJ (bd 3) 30 me.2.1, cIa cI (bd 4) 30 me.2.2.1, cZa cZ (bd 5) 6 mo.1, cZa cZ (bd 6) 6 mo.2.1, cZa cZ (bd 7) 2 ms.1, cIa cI (bd 8) 2 ms.2.1, cZa cZ (bd 9) 2 ms.2.2.1, cIa cI (bd 10) 2 ms.2.2.2.1, cIa cI (bd 11) 2 ms.2.2.2.2.1, cZa cZ (bd 12) 2 ms.2.2.2.2.2.1, cJa cJ (bd 13) 6 ms.2.2.2.2.2.2, cJa cJ (bd 14) 16 mo.2.2.1]) 0 0 := by
  refine k_go (by decide +kernel) (Nat.le_of_ble_eq_true rfl) ?_
  intro p e s m args below meth c A ls H hx hb hr hml hts hown hlk hnm hK hN hT hA hS hP hD hl
  have hown : s.vm.findClass "ToothWheelTimerModel" = some m.cls := hown
  have hlk : meth.locks = false := hlk
  have hl : lv_has ls 3 [(0, .ref (bd 0)), (1, .int se), (2, .int part)] := hl
  refine lv_iload_n hx hb dM_frame_0 rfl (lv_at hl 1 rfl) ?_
  refine lv_iconst (v := (0 : Int32)) hx hb dM_frame_1 (by decide) ?_
  refine lv_iconst (v := (1 : Int32)) hx hb dM_frame_2 (by decide) ?_
  refine k_ca0 (wc := []) (wr := [cMd bd k mc mw me mo, cIa cI (bd 1) 128 mp, cZa cZ (bd 2) 30 me.1, cJa cJ (bd 3) 30 me.2.1, cIa cI (bd 4) 30 me.2.2.1, cZa cZ (bd 5) 6 mo.1, cZa cZ (bd 6) 6 mo.2.1, cZa cZ (bd 7) 2 ms.1, cIa cI (bd 8) 2 ms.2.1, cZa cZ (bd 9) 2 ms.2.2.1, cIa cI (bd 10) 2 ms.2.2.2.1, cIa cI (bd 11) 2 ms.2.2.2.2.1, cZa cZ (bd 12) 2 ms.2.2.2.2.2.1, cJa cJ (bd 13) 6 ms.2.2.2.2.2.2, cJa cJ (bd 14) 16 mo.2.2.1]) (va_runS (As := [.int se, .int (0 : Int32), .int (1 : Int32)]) (rest := []) ⟨hx, hb, hml, hown, hts⟩ (ctM_in l D cZ cI cJ tL tH H.size se (0 : Int32) (1 : Int32)) (cwM_78 hts hN rfl rfl ⟨Nat.le_of_ble_eq_true rfl, Nat.le_of_ble_eq_true rfl⟩) (k_pre hK hN hT hA hS hP hD [] rfl (by decide)) rfl rfl hl.1 rfl (lv_room (Nat.le_of_ble_eq_true rfl)) dM_frame_3 ⟨Nat.zero_le _, Nat.zero_le _⟩) hP hD hS hA [] [0, 1, 2, 3, 4, 5, 6, 7, 8, 9, 10, 11, 12, 13, 14] rfl rfl (by decide) (by decide) (fun _ H locs hP hD hS => ?_)
  refine W.eq (g2 := F0 m 6 ls [.int (fM_in se (0 : Int32) (1 : Int32))]) rfl ?_
  have hP : va_P D vwCl [cMd bd k mc mw me mo, cIa cI (bd 1) 128 mp, cZa cZ (bd 2) 30 me.1, cJa cJ (bd 3) 30 me.2.1, cIa cI (bd 4) 30 me.2.2.1, cZa cZ (bd 5) 6 mo.1, cZa cZ (bd 6) 6 mo.2.1, cZa cZ (bd 7) 2 ms.1, cIa cI (bd 8) 2 ms.2.1, cZa cZ (bd 9) 2 ms.2.2.1, cIa cI (bd 10) 2 ms.2.2.2.1, cIa cI (bd 11) 2 ms.2.2.2.2.1, cZa cZ (bd 12) 2 ms.2.2.2.2.2.1, cJa cJ (bd 13) 6 ms.2.2.2.2.2.2, cJa cJ (bd 14) 16 mo.2.2.1] H := hP
  have hD : va_D A [cMd bd k mc mw me mo, cIa cI (bd 1) 128 mp, cZa cZ (bd 2) 30 me.1, cJa cJ (bd 3) 30 me.2.1, cIa cI (bd 4) 30 me.2.2.1, cZa cZ (bd 5) 6 mo.1, cZa cZ (bd 6) 6 mo.2.1, cZa cZ (bd 7) 2 ms.1, cIa cI (bd 8) 2 ms.2.1, cZa cZ (bd 9) 2 ms.2.2.1, cIa cI (bd 10) 2 ms.2.2.2.1, cIa cI (bd 11) 2 ms.2.2.2.2.1, cZa cZ (bd 12) 2 ms.2.2.2.2.2.1, cJa cJ (bd 13) 6 ms.2.2.2.2.2.2, cJa cJ (bd 14) 16 mo.2.2.1] := hD
  generalize hq1 : fM_in se (0 : Int32) (1 : Int32) = q1 at ⊢
  refine lv_if_eq (tgt := 40) hx hb dM_frame_6 (by decide) (fun h2 => ?_) (fun h2 => ?_)
  · -- taken at 6
    refine lv_ldc2 (v := (-1 : Int64)) hx hb hown (hts _ (wg wd_675 rfl)) dM_frame_40 ?_
    exact k_lret hx hb hr hlk hP hD hS dM_frame_43 () (by simp only [fM_frame, hq1, if_pos h2]) rfl
  · -- not taken at 6
    refine lv_iload_n hx hb dM_frame_9 rfl (lv_at hl 2 rfl) ?_
    refine lv_iconst (v := (0 : Int32)) hx hb dM_frame_10 (by decide) ?_
    refine lv_iconst (v := (2 : Int32)) hx hb dM_frame_11 (by decide) ?_
    refine k_ca0 (wc := []) (wr := [cMd bd k mc mw me mo, cIa cI (bd 1) 128 mp, cZa cZ (bd 2) 30 me.1, cJa cJ (bd 3) 30 me.2.1, cIa cI (bd 4) 30 me.2.2.1, cZa cZ (bd 5) 6 mo.1, cZa cZ (bd 6) 6 mo.2.1, cZa cZ (bd 7) 2 ms.1, cIa cI (bd 8) 2 ms.2.1, cZa cZ (bd 9) 2 ms.2.2.1, cIa cI (bd 10) 2 ms.2.2.2.1, cIa cI (bd 11) 2 ms.2.2.2.2.1, cZa cZ (bd 12) 2 ms.2.2.2.2.2.1, cJa cJ (bd 13) 6 ms.2.2.2.2.2.2, cJa cJ (bd 14) 16 mo.2.2.1]) (va_runS (As := [.int part, .int (0 : Int32), .int (2 : Int32)]) (rest := []) ⟨hx, hb, hml, hown, hts⟩ (ctM_in l D cZ cI cJ tL tH H.size part (0 : Int32) (2 : Int32)) (cwM_78 hts hN rfl rfl ⟨Nat.le_of_ble_eq_true rfl, Nat.le_of_ble_eq_true rfl⟩) (k_pre hK hN hT hA hS hP hD [] rfl (by decide)) rfl rfl hl.1 rfl (lv_room (Nat.le_of_ble_eq_true rfl)) dM_frame_12 ⟨Nat.zero_le _, Nat.zero_le _⟩) hP hD hS hA [] [0, 1, 2, 3, 4, 5, 6, 7, 8, 9, 10, 11, 12, 13, 14] rfl rfl (by decide) (by decide) (fun _ H locs hP hD hS => ?_)
    refine W.eq (g2 := F0 m 15 ls [.int (fM_in part (0 : Int32) (2 : Int32))]) rfl ?_
    have hP : va_P D vwCl [cMd bd k mc mw me mo, cIa cI (bd 1) 128 mp, cZa cZ (bd 2) 30 me.1, cJa cJ (bd 3) 30 me.2.1, cIa cI (bd 4) 30 me.2.2.1, cZa cZ (bd 5) 6 mo.1, cZa cZ (bd 6) 6 mo.2.1, cZa cZ (bd 7) 2 ms.1, cIa cI (bd 8) 2 ms.2.1, cZa cZ (bd 9) 2 ms.2.2.1, cIa cI (bd 10) 2 ms.2.2.2.1, cIa cI (bd 11) 2 ms.2.2.2.2.1, cZa cZ (bd 12) 2 ms.2.2.2.2.2.1, cJa cJ (bd 13) 6 ms.2.2.2.2.2.2, cJa cJ (bd 14) 16 mo.2.2.1] H := hP
    have hD : va_D A [cMd bd k mc mw me mo, cIa cI (bd 1) 128 mp, cZa cZ (bd 2) 30 me.1, cJa cJ (bd 3) 30 me.2.1, cIa cI (bd 4) 30 me.2.2.1, cZa cZ (bd 5) 6 mo.1, cZa cZ (bd 6) 6 mo.2.1, cZa cZ (bd 7) 2 ms.1, cIa cI (bd 8) 2 ms.2.1, cZa cZ (bd 9) 2 ms.2.2.1, cIa cI (bd 10) 2 ms.2.2.2.1, cIa cI (bd 11) 2 ms.2.2.2.2.1, cZa cZ (bd 12) 2 ms.2.2.2.2.2.1, cJa cJ (bd 13) 6 ms.2.2.2.2.2.2, cJa cJ (bd 14) 16 mo.2.2.1] := hD
    generalize hq3 : fM_in part (0 : Int32) (2 : Int32) = q3 at ⊢
    refine lv_if_eq (tgt := 40) hx hb dM_frame_15 (by decide) (fun h4 => ?_) (fun h4 => ?_)
    · -- taken at 15
      refine lv_ldc2 (v := (-1 : Int64)) hx hb hown (hts _ (wg wd_675 rfl)) dM_frame_40 ?_
      exact k_lret hx hb hr hlk hP hD hS dM_frame_43 () (by simp only [fM_frame, hq1, if_neg h2, hq3, if_pos h4]) rfl
    · -- not taken at 15
      refine lv_aload_n hx hb dM_frame_18 rfl (lv_at hl 0 rfl) ?_
      refine gfM_49 hx hb hts hown hN hK hP 0 rfl (v := .ref (bd 12)) rfl dM_frame_19 ?_
      refine lv_iload_n hx hb dM_frame_22 rfl (lv_at hl 1 rfl) ?_
      refine va_zald hx hb hK hP 12 0 rfl rfl (k_in01 hq1 h2) dM_frame_23 ?_
      refine lv_if_eq (tgt := 40) hx hb dM_frame_24 (by decide) (fun h5 => ?_) (fun h5 => ?_)
      · -- taken at 24
        refine lv_ldc2 (v := (-1 : Int64)) hx hb hown (hts _ (wg wd_675 rfl)) dM_frame_40 ?_
        exact k_lret hx hb hr hlk hP hD hS dM_frame_43 () (by simp only [fM_frame, hq1, if_neg h2, hq3, if_neg h4, if_pos h5]) rfl
      · -- not taken at 24
        refine lv_aload_n hx hb dM_frame_27 rfl (lv_at hl 0 rfl) ?_
        refine gfM_52 hx hb hts hown hN hK hP 0 rfl (v := .ref (bd 13)) rfl dM_frame_28 ?_
        refine lv_iconst (v := (3 : Int32)) hx hb dM_frame_31 (by decide) ?_
        refine lv_iload_n hx hb dM_frame_32 rfl (lv_at hl 1 rfl) ?_
        refine lv_imul hx hb dM_frame_33 ?_
        refine lv_iload_n hx hb dM_frame_34 rfl (lv_at hl 2 rfl) ?_
        refine lv_iadd hx hb dM_frame_35 ?_
        refine va_lald hx hb hK hP 13 2 rfl rfl (k_sp (k_in01 hq1 h2) hq3 h4) dM_frame_36 ?_
        refine lv_goto (tgt := 43) hx hb dM_frame_37 (by decide) ?_
        exact k_lret hx hb hr hlk hP hD hS dM_frame_43 () (by simp only [fM_frame, hq1, if_neg h2, hq3, if_neg h4, if_neg h5]) rfl

def fM_clear (k : Nat) (mc : McT) (mw : MwT) (mp : MpT) (me : MeT) (mo : MoT) (ms : MsT) : Int32 × MsT :=
  if (ms.2.2.2.2.2.1 0) = 0 then
    if (ms.2.2.2.2.2.1 1) = 0 then
      ((0 : Int32) + (0 : Int32), (ms.1, ms.2.1, ms.2.2.1, ms.2.2.2.1, ms.2.2.2.2.1, upd (upd ms.2.2.2.2.2.1 0 (0 : Int32)) 1 (0 : Int32), ms.2.2.2.2.2.2))
    else
      ((0 : Int32) + (1 : Int32), (ms.1, ms.2.1, ms.2.2.1, ms.2.2.2.1, ms.2.2.2.2.1, upd (upd ms.2.2.2.2.2.1 0 (0 : Int32)) 1 (0 : Int32), ms.2.2.2.2.2.2))
  else
    if (ms.2.2.2.2.2.1 1) = 0 then
      ((1 : Int32) + (0 : Int32), (ms.1, ms.2.1, ms.2.2.1, ms.2.2.2.1, ms.2.2.2.2.1, upd (upd ms.2.2.2.2.2.1 0 (0 : Int32)) 1 (0 : Int32), ms.2.2.2.2.2.2))
    else
      ((1 : Int32) + (1 : Int32), (ms.1, ms.2.1, ms.2.2.1, ms.2.2.2.1, ms.2.2.2.2.1, upd (upd ms.2.2.2.2.2.1 0 (0 : Int32)) 1 (0 : Int32), ms.2.2.2.2.2.2))
set_option maxRecDepth 100000 in
set_option maxHeartbeats 4000000 in
theorem ctM_clear (l : Launch) (D : va_G) (cZ cI cJ : ClassId) (tL tH : Nat) (sz : Nat) (bd : Nat → Nat) (k : Nat) (mc : McT) (mw : MwT) (mp : MpT) (me : MeT) (mo : MoT) (ms : MsT)  (hk : 0 < k ∧ k ≤ 6) : Ct l yM_clear wM_clear ({ frames := 0, cells := 0, slots := 0, locals := 0 }) D (tyG cZ cI cJ) tL tH [.ref (bd 0)] sz [cMd bd k mc mw me mo, cIa cI (bd 1) 128 mp, cZa cZ (bd 2) 30 me.1, cJa cJ (bd 3) 30 me.2.1, cIa cI (bd 4) 30 me.2.2.1, cZa cZ (bd 5) 6 mo.1, cZa cZ (bd 6) 6 mo.2.1, cZa cZ (bd 7) 2 ms.1, cIa cI (bd 8) 2 ms.2.1, cZa cZ (bd 9) 2 ms.2.2.1, cIa cI (bd 10) 2 ms.2.2.2.1, cIa cI (bd 11) 2 ms.2.2.2.2.1, cZa cZ (bd 12) 2 ms.2.2.2.2.2.1, cJa cJ (bd 13) 6 ms.2.2.2.2.2.2, cJa cJ (bd 14) 16 mo.2.2.1] (fun _ : Unit => some (.int ((fM_clear k mc mw mp me mo ms).1))) (fun _ : Unit => [cMd bd k mc mw me mo, cIa cI (bd 1) 128 mp, cZa cZ (bd 2) 30 me.1, cJa cJ (bd 3) 30 me.2.1, cIa cI (bd 4) 30 me.2.2.1, cZa cZ (bd 5) 6 mo.1, cZa cZ (bd 6) 6 mo.2.1, cZa cZ (bd 7) 2 (((fM_clear k mc mw mp me mo ms).2).1), cIa cI (bd 8) 2 (((fM_clear k mc mw mp me mo ms).2).2.1), cZa cZ (bd 9) 2 (((fM_clear k mc mw mp me mo ms).2).2.2.1), cIa cI (bd 10) 2 (((fM_clear k mc mw mp me mo ms).2).2.2.2.1), cIa cI (bd 11) 2 (((fM_clear k mc mw mp me mo ms).2).2.2.2.2.1), cZa cZ (bd 12) 2 (((fM_clear k mc mw mp me mo ms).2).2.2.2.2.2.1), cJa cJ (bd 13) 6 (((fM_clear k mc mw mp me mo ms).2).2.2.2.2.2.2), cJa cJ (bd 14) 16 mo.2.2.1]) 0 0 := by
  refine k_go (by decide +kernel) (Nat.le_of_ble_eq_true rfl) ?_
  intro p e s m args below meth c A ls H hx hb hr hml hts hown hlk hnm hK hN hT hA hS hP hD hl
  have hown : s.vm.findClass "ToothWheelTimerModel" = some m.cls := hown
  have hlk : meth.locks = false := hlk
  have hl : lv_has ls 2 [(0, .ref (bd 0))] := hl
  refine lv_aload_n hx hb dM_clear_0 rfl (lv_at hl 0 rfl) ?_
  refine gfM_49 hx hb hts hown hN hK hP 0 rfl (v := .ref (bd 12)) rfl dM_clear_1 ?_
  refine lv_iconst (v := (0 : Int32)) hx hb dM_clear_4 (by decide) ?_
  refine va_zald hx hb hK hP 12 0 rfl rfl (vp_in_nI (n := 0) (N := 2) (by omega) (by omega)) dM_clear_5 ?_
  refine W.eq (g2 := F0 m 6 ls [.int (ms.2.2.2.2.2.1 0)]) (congrArg (fun z => F0 m 6 ls (.int (ms.2.2.2.2.2.1 z) :: [])) (nI_clamp (n := 0) (by omega))) ?_
  refine lv_if_eq (tgt := 13) hx hb dM_clear_6 (by decide) (fun h1 => ?_) (fun h1 => ?_)
  · -- taken at 6
    refine lv_iconst (v := (0 : Int32)) hx hb dM_clear_13 (by decide) ?_
    refine lv_aload_n hx hb dM_clear_14 rfl (lv_at hl 0 rfl) ?_
    refine gfM_49 hx hb hts hown hN hK hP 0 rfl (v := .ref (bd 12)) rfl dM_clear_15 ?_
    refine lv_iconst (v := (1 : Int32)) hx hb dM_clear_18 (by decide) ?_
    refine va_zald hx hb hK hP 12 0 rfl rfl (vp_in_nI (n := 1) (N := 2) (by omega) (by omega)) dM_clear_19 ?_
    refine W.eq (g2 := F0 m 20 ls [.int (ms.2.2.2.2.2.1 1), .int (0 : Int32)]) (congrArg (fun z => F0 m 20 ls (.int (ms.2.2.2.2.2.1 z) :: [.int (0 : Int32)])) (nI_clamp (n := 1) (by omega))) ?_
    refine lv_if_eq (tgt := 27) hx hb dM_clear_20 (by decide) (fun h2 => ?_) (fun h2 => ?_)
    · -- taken at 20
      refine lv_iconst (v := (0 : Int32)) hx hb dM_clear_27 (by decide) ?_
      refine lv_iadd hx hb dM_clear_28 ?_
      refine lv_istore_n (lv' := [(1, .int ((0 : Int32) + (0 : Int32))), (0, .ref (bd 0))]) hx hb dM_clear_29 rfl hl (by decide) rfl (fun ls hl => ?_)
      refine lv_aload_n hx hb dM_clear_30 rfl (lv_at hl 1 rfl) ?_
      refine gfM_49 hx hb hts hown hN hK hP 0 rfl (v := .ref (bd 12)) rfl dM_clear_31 ?_
      refine lv_iconst (v := (0 : Int32)) hx hb dM_clear_34 (by decide) ?_
      refine lv_iconst (v := (0 : Int32)) hx hb dM_clear_35 (by decide) ?_
      refine va_zast hx hb hK hP hD hS 12 0 rfl rfl (vp_in_nI (n := 0) (N := 2) (by omega) (by omega)) dM_clear_36 (fun H locs hP hD hS => ?_)
      rw [zn_nar (Or.inl rfl)] at hP hD
      have e9 : (0 : Int32).toNatClampNeg = 0 := (nI_clamp (n := 0) (by omega))
      rw [e9] at hP hD
      have hP : va_P D vwCl [cMd bd k mc mw me mo, cIa cI (bd 1) 128 mp, cZa cZ (bd 2) 30 me.1, cJa cJ (bd 3) 30 me.2.1, cIa cI (bd 4) 30 me.2.2.1, cZa cZ (bd 5) 6 mo.1, cZa cZ (bd 6) 6 mo.2.1, cZa cZ (bd 7) 2 ms.1, cIa cI (bd 8) 2 ms.2.1, cZa cZ (bd 9) 2 ms.2.2.1, cIa cI (bd 10) 2 ms.2.2.2.1, cIa cI (bd 11) 2 ms.2.2.2.2.1, cZa cZ (bd 12) 2 (upd ms.2.2.2.2.2.1 0 (0 : Int32)), cJa cJ (bd 13) 6 ms.2.2.2.2.2.2, cJa cJ (bd 14) 16 mo.2.2.1] H := hP
      have hD : va_D A [cMd bd k mc mw me mo, cIa cI (bd 1) 128 mp, cZa cZ (bd 2) 30 me.1, cJa cJ (bd 3) 30 me.2.1, cIa cI (bd 4) 30 me.2.2.1, cZa cZ (bd 5) 6 mo.1, cZa cZ (bd 6) 6 mo.2.1, cZa cZ (bd 7) 2 ms.1, cIa cI (bd 8) 2 ms.2.1, cZa cZ (bd 9) 2 ms.2.2.1, cIa cI (bd 10) 2 ms.2.2.2.1, cIa cI (bd 11) 2 ms.2.2.2.2.1, cZa cZ (bd 12) 2 (upd ms.2.2.2.2.2.1 0 (0 : Int32)), cJa cJ (bd 13) 6 ms.2.2.2.2.2.2, cJa cJ (bd 14) 16 mo.2.2.1] := hD
      refine lv_aload_n hx hb dM_clear_37 rfl (lv_at hl 1 rfl) ?_
      refine gfM_49 hx hb hts hown hN hK hP 0 rfl (v := .ref (bd 12)) rfl dM_clear_38 ?_
      refine lv_iconst (v := (1 : Int32)) hx hb dM_clear_41 (by decide) ?_
      refine lv_iconst (v := (0 : Int32)) hx hb dM_clear_42 (by decide) ?_
      refine va_zast hx hb hK hP hD hS 12 0 rfl rfl (vp_in_nI (n := 1) (N := 2) (by omega) (by omega)) dM_clear_43 (fun H locs hP hD hS => ?_)
      rw [zn_nar (Or.inl rfl)] at hP hD
      have e9 : (1 : Int32).toNatClampNeg = 1 := (nI_clamp (n := 1) (by omega))
      rw [e9] at hP hD
      have hP : va_P D vwCl [cMd bd k mc mw me mo, cIa cI (bd 1) 128 mp, cZa cZ (bd 2) 30 me.1, cJa cJ (bd 3) 30 me.2.1, cIa cI (bd 4) 30 me.2.2.1, cZa cZ (bd 5) 6 mo.1, cZa cZ (bd 6) 6 mo.2.1, cZa cZ (bd 7) 2 ms.1, cIa cI (bd 8) 2 ms.2.1, cZa cZ (bd 9) 2 ms.2.2.1, cIa cI (bd 10) 2 ms.2.2.2.1, cIa cI (bd 11) 2 ms.2.2.2.2.1, cZa cZ (bd 12) 2 (upd (upd ms.2.2.2.2.2.1 0 (0 : Int32)) 1 (0 : Int32)), cJa cJ (bd 13) 6 ms.2.2.2.2.2.2, cJa cJ (bd 14) 16 mo.2.2.1] H := hP
      have hD : va_D A [cMd bd k mc mw me mo, cIa cI (bd 1) 128 mp, cZa cZ (bd 2) 30 me.1, cJa cJ (bd 3) 30 me.2.1, cIa cI (bd 4) 30 me.2.2.1, cZa cZ (bd 5) 6 mo.1, cZa cZ (bd 6) 6 mo.2.1, cZa cZ (bd 7) 2 ms.1, cIa cI (bd 8) 2 ms.2.1, cZa cZ (bd 9) 2 ms.2.2.1, cIa cI (bd 10) 2 ms.2.2.2.1, cIa cI (bd 11) 2 ms.2.2.2.2.1, cZa cZ (bd 12) 2 (upd (upd ms.2.2.2.2.2.1 0 (0 : Int32)) 1 (0 : Int32)), cJa cJ (bd 13) 6 ms.2.2.2.2.2.2, cJa cJ (bd 14) 16 mo.2.2.1] := hD
      refine lv_iload_n hx hb dM_clear_44 rfl (lv_at hl 0 rfl) ?_
      exact k_iret hx hb hr hlk hP hD hS dM_clear_45 () (by simp only [fM_clear, if_pos h1, if_pos h2]) (by simp only [fM_clear, if_pos h1, if_pos h2])
    · -- not taken at 20
      refine lv_iconst (v := (1 : Int32)) hx hb dM_clear_23 (by decide) ?_
      refine lv_goto (tgt := 28) hx hb dM_clear_24 (by decide) ?_
      refine lv_iadd hx hb dM_clear_28 ?_
      refine lv_istore_n (lv' := [(1, .int ((0 : Int32) + (1 : Int32))), (0, .ref (bd 0))]) hx hb dM_clear_29 rfl hl (by decide) rfl (fun ls hl => ?_)
      refine lv_aload_n hx hb dM_clear_30 rfl (lv_at hl 1 rfl) ?_
      refine gfM_49 hx hb hts hown hN hK hP 0 rfl (v := .ref (bd 12)) rfl dM_clear_31 ?_
      refine lv_iconst (v := (0 : Int32)) hx hb dM_clear_34 (by decide) ?_
      refine lv_iconst (v := (0 : Int32)) hx hb dM_clear_35 (by decide) ?_
      refine va_zast hx hb hK hP hD hS 12 0 rfl rfl (vp_in_nI (n := 0) (N := 2) (by omega) (by omega)) dM_clear_36 (fun H locs hP hD hS => ?_)
      rw [zn_nar (Or.inl rfl)] at hP hD
      have e9 : (0 : Int32).toNatClampNeg = 0 := (nI_clamp (n := 0) (by omega))
      rw [e9] at hP hD
      have hP : va_P D vwCl [cMd bd k mc mw me mo, cIa cI (bd 1) 128 mp, cZa cZ (bd 2) 30 me.1, cJa cJ (bd 3) 30 me.2.1, cIa cI (bd 4) 30 me.2.2.1, cZa cZ (bd 5) 6 mo.1, cZa cZ (bd 6) 6 mo.2.1, cZa cZ (bd 7) 2 ms.1, cIa cI (bd 8) 2 ms.2.1, cZa cZ (bd 9) 2 ms.2.2.1, cIa cI (bd 10) 2 ms.2.2.2.1, cIa cI (bd 11) 2 ms.2.2.2.2.1, cZa cZ (bd 12) 2 (upd ms.2.2.2.2.2.1 0 (0 : Int32)), cJa cJ (bd 13) 6 ms.2.2.2.2.2.2, cJa cJ (bd 14) 16 mo.2.2.1] H := hP
      have hD : va_D A [cMd bd k mc mw me mo, cIa cI (bd 1) 128 mp, cZa cZ (bd 2) 30 me.1, cJa cJ (bd 3) 30 me.2.1, cIa cI (bd 4) 30 me.2.2.1, cZa cZ (bd 5) 6 mo.1, cZa cZ (bd 6) 6 mo.2.1, cZa cZ (bd 7) 2 ms.1, cIa cI (bd 8) 2 ms.2.1, cZa cZ (bd 9) 2 ms.2.2.1, cIa cI (bd 10) 2 ms.2.2.2.1, cIa cI (bd 11) 2 ms.2.2.2.2.1, cZa cZ (bd 12) 2 (upd ms.2.2.2.2.2.1 0 (0 : Int32)), cJa cJ (bd 13) 6 ms.2.2.2.2.2.2, cJa cJ (bd 14) 16 mo.2.2.1] := hD
      refine lv_aload_n hx hb dM_clear_37 rfl (lv_at hl 1 rfl) ?_
      refine gfM_49 hx hb hts hown hN hK hP 0 rfl (v := .ref (bd 12)) rfl dM_clear_38 ?_
      refine lv_iconst (v := (1 : Int32)) hx hb dM_clear_41 (by decide) ?_
      refine lv_iconst (v := (0 : Int32)) hx hb dM_clear_42 (by decide) ?_
      refine va_zast hx hb hK hP hD hS 12 0 rfl rfl (vp_in_nI (n := 1) (N := 2) (by omega) (by omega)) dM_clear_43 (fun H locs hP hD hS => ?_)
      rw [zn_nar (Or.inl rfl)] at hP hD
      have e9 : (1 : Int32).toNatClampNeg = 1 := (nI_clamp (n := 1) (by omega))
      rw [e9] at hP hD
      have hP : va_P D vwCl [cMd bd k mc mw me mo, cIa cI (bd 1) 128 mp, cZa cZ (bd 2) 30 me.1, cJa cJ (bd 3) 30 me.2.1, cIa cI (bd 4) 30 me.2.2.1, cZa cZ (bd 5) 6 mo.1, cZa cZ (bd 6) 6 mo.2.1, cZa cZ (bd 7) 2 ms.1, cIa cI (bd 8) 2 ms.2.1, cZa cZ (bd 9) 2 ms.2.2.1, cIa cI (bd 10) 2 ms.2.2.2.1, cIa cI (bd 11) 2 ms.2.2.2.2.1, cZa cZ (bd 12) 2 (upd (upd ms.2.2.2.2.2.1 0 (0 : Int32)) 1 (0 : Int32)), cJa cJ (bd 13) 6 ms.2.2.2.2.2.2, cJa cJ (bd 14) 16 mo.2.2.1] H := hP
      have hD : va_D A [cMd bd k mc mw me mo, cIa cI (bd 1) 128 mp, cZa cZ (bd 2) 30 me.1, cJa cJ (bd 3) 30 me.2.1, cIa cI (bd 4) 30 me.2.2.1, cZa cZ (bd 5) 6 mo.1, cZa cZ (bd 6) 6 mo.2.1, cZa cZ (bd 7) 2 ms.1, cIa cI (bd 8) 2 ms.2.1, cZa cZ (bd 9) 2 ms.2.2.1, cIa cI (bd 10) 2 ms.2.2.2.1, cIa cI (bd 11) 2 ms.2.2.2.2.1, cZa cZ (bd 12) 2 (upd (upd ms.2.2.2.2.2.1 0 (0 : Int32)) 1 (0 : Int32)), cJa cJ (bd 13) 6 ms.2.2.2.2.2.2, cJa cJ (bd 14) 16 mo.2.2.1] := hD
      refine lv_iload_n hx hb dM_clear_44 rfl (lv_at hl 0 rfl) ?_
      exact k_iret hx hb hr hlk hP hD hS dM_clear_45 () (by simp only [fM_clear, if_pos h1, if_neg h2]) (by simp only [fM_clear, if_pos h1, if_neg h2])
  · -- not taken at 6
    refine lv_iconst (v := (1 : Int32)) hx hb dM_clear_9 (by decide) ?_
    refine lv_goto (tgt := 14) hx hb dM_clear_10 (by decide) ?_
    refine lv_aload_n hx hb dM_clear_14 rfl (lv_at hl 0 rfl) ?_
    refine gfM_49 hx hb hts hown hN hK hP 0 rfl (v := .ref (bd 12)) rfl dM_clear_15 ?_
    refine lv_iconst (v := (1 : Int32)) hx hb dM_clear_18 (by decide) ?_
    refine va_zald hx hb hK hP 12 0 rfl rfl (vp_in_nI (n := 1) (N := 2) (by omega) (by omega)) dM_clear_19 ?_
    refine W.eq (g2 := F0 m 20 ls [.int (ms.2.2.2.2.2.1 1), .int (1 : Int32)]) (congrArg (fun z => F0 m 20 ls (.int (ms.2.2.2.2.2.1 z) :: [.int (1 : Int32)])) (nI_clamp (n := 1) (by omega))) ?_
    refine lv_if_eq (tgt := 27) hx hb dM_clear_20 (by decide) (fun h3 => ?_) (fun h3 => ?_)
    · -- taken at 20
      refine lv_iconst (v := (0 : Int32)) hx hb dM_clear_27 (by decide) ?_
      refine lv_iadd hx hb dM_clear_28 ?_
      refine lv_istore_n (lv' := [(1, .int ((1 : Int32) + (0 : Int32))), (0, .ref (bd 0))]) hx hb dM_clear_29 rfl hl (by decide) rfl (fun ls hl => ?_)
      refine lv_aload_n hx hb dM_clear_30 rfl (lv_at hl 1 rfl) ?_
      refine gfM_49 hx hb hts hown hN hK hP 0 rfl (v := .ref (bd 12)) rfl dM_clear_31 ?_
      refine lv_iconst (v := (0 : Int32)) hx hb dM_clear_34 (by decide) ?_
      refine lv_iconst (v := (0 : Int32)) hx hb dM_clear_35 (by decide) ?_
      refine va_zast hx hb hK hP hD hS 12 0 rfl rfl (vp_in_nI (n := 0) (N := 2) (by omega) (by omega)) dM_clear_36 (fun H locs hP hD hS => ?_)
      rw [zn_nar (Or.inl rfl)] at hP hD
      have e9 : (0 : Int32).toNatClampNeg = 0 := (nI_clamp (n := 0) (by omega))
      rw [e9] at hP hD
      have hP : va_P D vwCl [cMd bd k mc mw me mo, cIa cI (bd 1) 128 mp, cZa cZ (bd 2) 30 me.1, cJa cJ (bd 3) 30 me.2.1, cIa cI (bd 4) 30 me.2.2.1, cZa cZ (bd 5) 6 mo.1, cZa cZ (bd 6) 6 mo.2.1, cZa cZ (bd 7) 2 ms.1, cIa cI (bd 8) 2 ms.2.1, cZa cZ (bd 9) 2 ms.2.2.1, cIa cI (bd 10) 2 ms.2.2.2.1, cIa cI (bd 11) 2 ms.2.2.2.2.1, cZa cZ (bd 12) 2 (upd ms.2.2.2.2.2.1 0 (0 : Int32)), cJa cJ (bd 13) 6 ms.2.2.2.2.2.2, cJa cJ (bd 14) 16 mo.2.2.1] H := hP
      have hD : va_D A [cMd bd k mc mw me mo, cIa cI (bd 1) 128 mp, cZa cZ (bd 2) 30 me.1, cJa cJ (bd 3) 30 me.2.1, cIa cI (bd 4) 30 me.2.2.1, cZa cZ (bd 5) 6 mo.1, cZa cZ (bd 6) 6 mo.2.1, cZa cZ (bd 7) 2 ms.1, cIa cI (bd 8) 2 ms.2.1, cZa cZ (bd 9) 2 ms.2.2.1, cIa cI (bd 10) 2 ms.2.2.2.1, cIa cI (bd 11) 2 ms.2.2.2.2.1, cZa cZ (bd 12) 2 (upd ms.2.2.2.2.2.1 0 (0 : Int32)), cJa cJ (bd 13) 6 ms.2.2.2.2.2.2, cJa cJ (bd 14) 16 mo.2.2.1] := hD
      refine lv_aload_n hx hb dM_clear_37 rfl (lv_at hl 1 rfl) ?_
      refine gfM_49 hx hb hts hown hN hK hP 0 rfl (v := .ref (bd 12)) rfl dM_clear_38 ?_
      refine lv_iconst (v := (1 : Int32)) hx hb dM_clear_41 (by decide) ?_
      refine lv_iconst (v := (0 : Int32)) hx hb dM_clear_42 (by decide) ?_
      refine va_zast hx hb hK hP hD hS 12 0 rfl rfl (vp_in_nI (n := 1) (N := 2) (by omega) (by omega)) dM_clear_43 (fun H locs hP hD hS => ?_)
      rw [zn_nar (Or.inl rfl)] at hP hD
      have e9 : (1 : Int32).toNatClampNeg = 1 := (nI_clamp (n := 1) (by omega))
      rw [e9] at hP hD
      have hP : va_P D vwCl [cMd bd k mc mw me mo, cIa cI (bd 1) 128 mp, cZa cZ (bd 2) 30 me.1, cJa cJ (bd 3) 30 me.2.1, cIa cI (bd 4) 30 me.2.2.1, cZa cZ (bd 5) 6 mo.1, cZa cZ (bd 6) 6 mo.2.1, cZa cZ (bd 7) 2 ms.1, cIa cI (bd 8) 2 ms.2.1, cZa cZ (bd 9) 2 ms.2.2.1, cIa cI (bd 10) 2 ms.2.2.2.1, cIa cI (bd 11) 2 ms.2.2.2.2.1, cZa cZ (bd 12) 2 (upd (upd ms.2.2.2.2.2.1 0 (0 : Int32)) 1 (0 : Int32)), cJa cJ (bd 13) 6 ms.2.2.2.2.2.2, cJa cJ (bd 14) 16 mo.2.2.1] H := hP
      have hD : va_D A [cMd bd k mc mw me mo, cIa cI (bd 1) 128 mp, cZa cZ (bd 2) 30 me.1, cJa cJ (bd 3) 30 me.2.1, cIa cI (bd 4) 30 me.2.2.1, cZa cZ (bd 5) 6 mo.1, cZa cZ (bd 6) 6 mo.2.1, cZa cZ (bd 7) 2 ms.1, cIa cI (bd 8) 2 ms.2.1, cZa cZ (bd 9) 2 ms.2.2.1, cIa cI (bd 10) 2 ms.2.2.2.1, cIa cI (bd 11) 2 ms.2.2.2.2.1, cZa cZ (bd 12) 2 (upd (upd ms.2.2.2.2.2.1 0 (0 : Int32)) 1 (0 : Int32)), cJa cJ (bd 13) 6 ms.2.2.2.2.2.2, cJa cJ (bd 14) 16 mo.2.2.1] := hD
      refine lv_iload_n hx hb dM_clear_44 rfl (lv_at hl 0 rfl) ?_
      exact k_iret hx hb hr hlk hP hD hS dM_clear_45 () (by simp only [fM_clear, if_neg h1, if_pos h3]) (by simp only [fM_clear, if_neg h1, if_pos h3])
    · -- not taken at 20
      refine lv_iconst (v := (1 : Int32)) hx hb dM_clear_23 (by decide) ?_
      refine lv_goto (tgt := 28) hx hb dM_clear_24 (by decide) ?_
      refine lv_iadd hx hb dM_clear_28 ?_
      refine lv_istore_n (lv' := [(1, .int ((1 : Int32) + (1 : Int32))), (0, .ref (bd 0))]) hx hb dM_clear_29 rfl hl (by decide) rfl (fun ls hl => ?_)
      refine lv_aload_n hx hb dM_clear_30 rfl (lv_at hl 1 rfl) ?_
      refine gfM_49 hx hb hts hown hN hK hP 0 rfl (v := .ref (bd 12)) rfl dM_clear_31 ?_
      refine lv_iconst (v := (0 : Int32)) hx hb dM_clear_34 (by decide) ?_
      refine lv_iconst (v := (0 : Int32)) hx hb dM_clear_35 (by decide) ?_
      refine va_zast hx hb hK hP hD hS 12 0 rfl rfl (vp_in_nI (n := 0) (N := 2) (by omega) (by omega)) dM_clear_36 (fun H locs hP hD hS => ?_)
      rw [zn_nar (Or.inl rfl)] at hP hD
      have e9 : (0 : Int32).toNatClampNeg = 0 := (nI_clamp (n := 0) (by omega))
      rw [e9] at hP hD
      have hP : va_P D vwCl [cMd bd k mc mw me mo, cIa cI (bd 1) 128 mp, cZa cZ (bd 2) 30 me.1, cJa cJ (bd 3) 30 me.2.1, cIa cI (bd 4) 30 me.2.2.1, cZa cZ (bd 5) 6 mo.1, cZa cZ (bd 6) 6 mo.2.1, cZa cZ (bd 7) 2 ms.1, cIa cI (bd 8) 2 ms.2.1, cZa cZ (bd 9) 2 ms.2.2.1, cIa cI (bd 10) 2 ms.2.2.2.1, cIa cI (bd 11) 2 ms.2.2.2.2.1, cZa cZ (bd 12) 2 (upd ms.2.2.2.2.2.1 0 (0 : Int32)), cJa cJ (bd 13) 6 ms.2.2.2.2.2.2, cJa cJ (bd 14) 16 mo.2.2.1] H := hP
      have hD : va_D A [cMd bd k mc mw me mo, cIa cI (bd 1) 128 mp, cZa cZ (bd 2) 30 me.1, cJa cJ (bd 3) 30 me.2.1, cIa cI (bd 4) 30 me.2.2.1, cZa cZ (bd 5) 6 mo.1, cZa cZ (bd 6) 6 mo.2.1, cZa cZ (bd 7) 2 ms.1, cIa cI (bd 8) 2 ms.2.1, cZa cZ (bd 9) 2 ms.2.2.1, cIa cI (bd 10) 2 ms.2.2.2.1, cIa cI (bd 11) 2 ms.2.2.2.2.1, cZa cZ (bd 12) 2 (upd ms.2.2.2.2.2.1 0 (0 : Int32)), cJa cJ (bd 13) 6 ms.2.2.2.2.2.2, cJa cJ (bd 14) 16 mo.2.2.1] := hD
      refine lv_aload_n hx hb dM_clear_37 rfl (lv_at hl 1 rfl) ?_
      refine gfM_49 hx hb hts hown hN hK hP 0 rfl (v := .ref (bd 12)) rfl dM_clear_38 ?_
      refine lv_iconst (v := (1 : Int32)) hx hb dM_clear_41 (by decide) ?_
      refine lv_iconst (v := (0 : Int32)) hx hb dM_clear_42 (by decide) ?_
      refine va_zast hx hb hK hP hD hS 12 0 rfl rfl (vp_in_nI (n := 1) (N := 2) (by omega) (by omega)) dM_clear_43 (fun H locs hP hD hS => ?_)
      rw [zn_nar (Or.inl rfl)] at hP hD
      have e9 : (1 : Int32).toNatClampNeg = 1 := (nI_clamp (n := 1) (by omega))
      rw [e9] at hP hD
      have hP : va_P D vwCl [cMd bd k mc mw me mo, cIa cI (bd 1) 128 mp, cZa cZ (bd 2) 30 me.1, cJa cJ (bd 3) 30 me.2.1, cIa cI (bd 4) 30 me.2.2.1, cZa cZ (bd 5) 6 mo.1, cZa cZ (bd 6) 6 mo.2.1, cZa cZ (bd 7) 2 ms.1, cIa cI (bd 8) 2 ms.2.1, cZa cZ (bd 9) 2 ms.2.2.1, cIa cI (bd 10) 2 ms.2.2.2.1, cIa cI (bd 11) 2 ms.2.2.2.2.1, cZa cZ (bd 12) 2 (upd (upd ms.2.2.2.2.2.1 0 (0 : Int32)) 1 (0 : Int32)), cJa cJ (bd 13) 6 ms.2.2.2.2.2.2, cJa cJ (bd 14) 16 mo.2.2.1] H := hP
      have hD : va_D A [cMd bd k mc mw me mo, cIa cI (bd 1) 128 mp, cZa cZ (bd 2) 30 me.1, cJa cJ (bd 3) 30 me.2.1, cIa cI (bd 4) 30 me.2.2.1, cZa cZ (bd 5) 6 mo.1, cZa cZ (bd 6) 6 mo.2.1, cZa cZ (bd 7) 2 ms.1, cIa cI (bd 8) 2 ms.2.1, cZa cZ (bd 9) 2 ms.2.2.1, cIa cI (bd 10) 2 ms.2.2.2.1, cIa cI (bd 11) 2 ms.2.2.2.2.1, cZa cZ (bd 12) 2 (upd (upd ms.2.2.2.2.2.1 0 (0 : Int32)) 1 (0 : Int32)), cJa cJ (bd 13) 6 ms.2.2.2.2.2.2, cJa cJ (bd 14) 16 mo.2.2.1] := hD
      refine lv_iload_n hx hb dM_clear_44 rfl (lv_at hl 0 rfl) ?_
      exact k_iret hx hb hr hlk hP hD hS dM_clear_45 () (by simp only [fM_clear, if_neg h1, if_neg h3]) (by simp only [fM_clear, if_neg h1, if_neg h3])

def fM_plan (k : Nat) (mc : McT) (mw : MwT) (mp : MpT) (me : MeT) (mo : MoT) (ms : MsT) (ki : Nat) (cy : Nat) (time : Int64) : MeT :=
  (upd me.1 ((6 * ki) + cy) (1 : Int32), vp_updL me.2.1 ((6 * ki) + cy) time, upd me.2.2.1 ((6 * ki) + cy) (me.2.2.2 + (1 : Int32)), me.2.2.2 + (1 : Int32))
set_option maxRecDepth 100000 in
set_option maxHeartbeats 4000000 in
theorem ctM_plan (l : Launch) (D : va_G) (cZ cI cJ : ClassId) (tL tH : Nat) (sz : Nat) (bd : Nat → Nat) (k : Nat) (mc : McT) (mw : MwT) (mp : MpT) (me : MeT) (mo : MoT) (ms : MsT) (ki : Nat) (cy : Nat) (time : Int64)  (hk : 0 < k ∧ k ≤ 6) (hi : 6 * ki + cy < 30) : Ct l yM_plan wM_plan ({ frames := 0, cells := 0, slots := 0, locals := 0 }) D (tyG cZ cI cJ) tL tH [.ref (bd 0), .int (nI ki), .int (nI cy), .long time] sz [cMd bd k mc mw me mo, cIa cI (bd 1) 128 mp, cZa cZ (bd 2) 30 me.1, cJa cJ (bd 3) 30 me.2.1, cIa cI (bd 4) 30 me.2.2.1, cZa cZ (bd 5) 6 mo.1, cZa cZ (bd 6) 6 mo.2.1, cZa cZ (bd 7) 2 ms.1, cIa cI (bd 8) 2 ms.2.1, cZa cZ (bd 9) 2 ms.2.2.1, cIa cI (bd 10) 2 ms.2.2.2.1, cIa cI (bd 11) 2 ms.2.2.2.2.1, cZa cZ (bd 12) 2 ms.2.2.2.2.2.1, cJa cJ (bd 13) 6 ms.2.2.2.2.2.2, cJa cJ (bd 14) 16 mo.2.2.1] (fun _ : Unit => none) (fun _ : Unit => [cMd bd k mc mw (fM_plan k mc mw mp me mo ms ki cy time) mo, cIa cI (bd 1) 128 mp, cZa cZ (bd 2) 30 ((fM_plan k mc mw mp me mo ms ki cy time).1), cJa cJ (bd 3) 30 ((fM_plan k mc mw mp me mo ms ki cy time).2.1), cIa cI (bd 4) 30 ((fM_plan k mc mw mp me mo ms ki cy time).2.2.1), cZa cZ (bd 5) 6 mo.1, cZa cZ (bd 6) 6 mo.2.1, cZa cZ (bd 7) 2 ms.1, cIa cI (bd 8) 2 ms.2.1, cZa cZ (bd 9) 2 ms.2.2.1, cIa cI (bd 10) 2 ms.2.2.2.1, cIa cI (bd 11) 2 ms.2.2.2.2.1, cZa cZ (bd 12) 2 ms.2.2.2.2.2.1, cJa cJ (bd 13) 6 ms.2.2.2.2.2.2, cJa cJ (bd 14) 16 mo.2.2.1]) 0 0 := by
  refine k_go (by decide +kernel) (Nat.le_of_ble_eq_true rfl) ?_
  intro p e s m args below meth c A ls H hx hb hr hml hts hown hlk hnm hK hN hT hA hS hP hD hl
  have hown : s.vm.findClass "ToothWheelTimerModel" = some m.cls := hown
  have hlk : meth.locks = false := hlk
  have hl : lv_has ls 6 [(0, .ref (bd 0)), (1, .int (nI ki)), (2, .int (nI cy)), (3, .long time)] := hl
  refine lv_bipush (v := (6 : Int32)) hx hb dM_plan_0 (by decide) ?_
  refine lv_iload_n hx hb dM_plan_2 rfl (lv_at hl 1 rfl) ?_
  refine lv_imul hx hb dM_plan_3 ?_
  refine W.eq (g2 := F0 m 4 ls [.int (nI (6 * ki))]) (congrArg (fun z => F0 m 4 ls (.int z :: [])) (pk_mul 6 ki)) ?_
  refine lv_iload_n hx hb dM_plan_4 rfl (lv_at hl 2 rfl) ?_
  refine lv_iadd hx hb dM_plan_5 ?_
  refine W.eq (g2 := F0 m 6 ls [.int (nI ((6 * ki) + cy))]) (congrArg (fun z => F0 m 6 ls (.int z :: [])) (nI_add (6 * ki) cy)) ?_
  refine lv_istore (lv' := [(5, .int (nI ((6 * ki) + cy))), (0, .ref (bd 0)), (1, .int (nI ki)), (2, .int (nI cy)), (3, .long time)]) hx hb dM_plan_6 hl (by decide) rfl (fun ls hl => ?_)
  refine lv_aload_n hx hb dM_plan_8 rfl (lv_at hl 1 rfl) ?_
  refine gfM_17 hx hb hts hown hN hK hP 0 rfl (v := .ref (bd 2)) rfl dM_plan_9 ?_
  refine lv_iload hx hb dM_plan_12 (lv_at hl 0 rfl) ?_
  refine lv_iconst (v := (1 : Int32)) hx hb dM_plan_14 (by decide) ?_
  refine va_zast hx hb hK hP hD hS 2 0 rfl rfl (vp_in_nI (n := (6 * ki) + cy) (N := 30) (by omega) (by omega)) dM_plan_15 (fun H locs hP hD hS => ?_)
  rw [zn_nar (Or.inr rfl)] at hP hD
  have e9 : (nI ((6 * ki) + cy)).toNatClampNeg = (6 * ki) + cy := (nI_clamp (n := (6 * ki) + cy) (by omega))
  rw [e9] at hP hD
  have hP : va_P D vwCl [cMd bd k mc mw (upd me.1 ((6 * ki) + cy) (1 : Int32), me.2.1, me.2.2.1, me.2.2.2) mo, cIa cI (bd 1) 128 mp, cZa cZ (bd 2) 30 (upd me.1 ((6 * ki) + cy) (1 : Int32)), cJa cJ (bd 3) 30 me.2.1, cIa cI (bd 4) 30 me.2.2.1, cZa cZ (bd 5) 6 mo.1, cZa cZ (bd 6) 6 mo.2.1, cZa cZ (bd 7) 2 ms.1, cIa cI (bd 8) 2 ms.2.1, cZa cZ (bd 9) 2 ms.2.2.1, cIa cI (bd 10) 2 ms.2.2.2.1, cIa cI (bd 11) 2 ms.2.2.2.2.1, cZa cZ (bd 12) 2 ms.2.2.2.2.2.1, cJa cJ (bd 13) 6 ms.2.2.2.2.2.2, cJa cJ (bd 14) 16 mo.2.2.1] H := hP
  have hD : va_D A [cMd bd k mc mw (upd me.1 ((6 * ki) + cy) (1 : Int32), me.2.1, me.2.2.1, me.2.2.2) mo, cIa cI (bd 1) 128 mp, cZa cZ (bd 2) 30 (upd me.1 ((6 * ki) + cy) (1 : Int32)), cJa cJ (bd 3) 30 me.2.1, cIa cI (bd 4) 30 me.2.2.1, cZa cZ (bd 5) 6 mo.1, cZa cZ (bd 6) 6 mo.2.1, cZa cZ (bd 7) 2 ms.1, cIa cI (bd 8) 2 ms.2.1, cZa cZ (bd 9) 2 ms.2.2.1, cIa cI (bd 10) 2 ms.2.2.2.1, cIa cI (bd 11) 2 ms.2.2.2.2.1, cZa cZ (bd 12) 2 ms.2.2.2.2.2.1, cJa cJ (bd 13) 6 ms.2.2.2.2.2.2, cJa cJ (bd 14) 16 mo.2.2.1] := hD
  refine lv_aload_n hx hb dM_plan_16 rfl (lv_at hl 1 rfl) ?_
  refine gfM_21 hx hb hts hown hN hK hP 0 rfl (v := .ref (bd 3)) rfl dM_plan_17 ?_
  refine lv_iload hx hb dM_plan_20 (lv_at hl 0 rfl) ?_
  refine lv_lload_n hx hb dM_plan_22 rfl (lv_at hl 4 rfl) ?_
  refine va_last hx hb hK hP hD hS 3 2 rfl rfl (vp_in_nI (n := (6 * ki) + cy) (N := 30) (by omega) (by omega)) dM_plan_23 (fun H locs hP hD hS => ?_)
  have e9 : (nI ((6 * ki) + cy)).toNatClampNeg = (6 * ki) + cy := (nI_clamp (n := (6 * ki) + cy) (by omega))
  rw [e9] at hP hD
  have hP : va_P D vwCl [cMd bd k mc mw (upd me.1 ((6 * ki) + cy) (1 : Int32), vp_updL me.2.1 ((6 * ki) + cy) time, me.2.2.1, me.2.2.2) mo, cIa cI (bd 1) 128 mp, cZa cZ (bd 2) 30 (upd me.1 ((6 * ki) + cy) (1 : Int32)), cJa cJ (bd 3) 30 (vp_updL me.2.1 ((6 * ki) + cy) time), cIa cI (bd 4) 30 me.2.2.1, cZa cZ (bd 5) 6 mo.1, cZa cZ (bd 6) 6 mo.2.1, cZa cZ (bd 7) 2 ms.1, cIa cI (bd 8) 2 ms.2.1, cZa cZ (bd 9) 2 ms.2.2.1, cIa cI (bd 10) 2 ms.2.2.2.1, cIa cI (bd 11) 2 ms.2.2.2.2.1, cZa cZ (bd 12) 2 ms.2.2.2.2.2.1, cJa cJ (bd 13) 6 ms.2.2.2.2.2.2, cJa cJ (bd 14) 16 mo.2.2.1] H := hP
  have hD : va_D A [cMd bd k mc mw (upd me.1 ((6 * ki) + cy) (1 : Int32), vp_updL me.2.1 ((6 * ki) + cy) time, me.2.2.1, me.2.2.2) mo, cIa cI (bd 1) 128 mp, cZa cZ (bd 2) 30 (upd me.1 ((6 * ki) + cy) (1 : Int32)), cJa cJ (bd 3) 30 (vp_updL me.2.1 ((6 * ki) + cy) time), cIa cI (bd 4) 30 me.2.2.1, cZa cZ (bd 5) 6 mo.1, cZa cZ (bd 6) 6 mo.2.1, cZa cZ (bd 7) 2 ms.1, cIa cI (bd 8) 2 ms.2.1, cZa cZ (bd 9) 2 ms.2.2.1, cIa cI (bd 10) 2 ms.2.2.2.1, cIa cI (bd 11) 2 ms.2.2.2.2.1, cZa cZ (bd 12) 2 ms.2.2.2.2.2.1, cJa cJ (bd 13) 6 ms.2.2.2.2.2.2, cJa cJ (bd 14) 16 mo.2.2.1] := hD
  refine lv_aload_n hx hb dM_plan_24 rfl (lv_at hl 1 rfl) ?_
  refine lv_aload_n hx hb dM_plan_25 rfl (lv_at hl 1 rfl) ?_
  refine gfM_116 hx hb hts hown hN hK hP 0 rfl (v := .int me.2.2.2) rfl dM_plan_26 ?_
  refine lv_iconst (v := (1 : Int32)) hx hb dM_plan_29 (by decide) ?_
  refine lv_iadd hx hb dM_plan_30 ?_
  refine pfM_116 hx hb hts hown hN hK hP hD hS 0 rfl (v := .int (me.2.2.2 + (1 : Int32))) rfl rfl (Nat.le_of_ble_eq_true rfl) dM_plan_31 (fun H locs hP hD hS => ?_)
  have hP : va_P D vwCl [cMd bd k mc mw (upd me.1 ((6 * ki) + cy) (1 : Int32), vp_updL me.2.1 ((6 * ki) + cy) time, me.2.2.1, me.2.2.2 + (1 : Int32)) mo, cIa cI (bd 1) 128 mp, cZa cZ (bd 2) 30 (upd me.1 ((6 * ki) + cy) (1 : Int32)), cJa cJ (bd 3) 30 (vp_updL me.2.1 ((6 * ki) + cy) time), cIa cI (bd 4) 30 me.2.2.1, cZa cZ (bd 5) 6 mo.1, cZa cZ (bd 6) 6 mo.2.1, cZa cZ (bd 7) 2 ms.1, cIa cI (bd 8) 2 ms.2.1, cZa cZ (bd 9) 2 ms.2.2.1, cIa cI (bd 10) 2 ms.2.2.2.1, cIa cI (bd 11) 2 ms.2.2.2.2.1, cZa cZ (bd 12) 2 ms.2.2.2.2.2.1, cJa cJ (bd 13) 6 ms.2.2.2.2.2.2, cJa cJ (bd 14) 16 mo.2.2.1] H := hP
  have hD : va_D A [cMd bd k mc mw (upd me.1 ((6 * ki) + cy) (1 : Int32), vp_updL me.2.1 ((6 * ki) + cy) time, me.2.2.1, me.2.2.2 + (1 : Int32)) mo, cIa cI (bd 1) 128 mp, cZa cZ (bd 2) 30 (upd me.1 ((6 * ki) + cy) (1 : Int32)), cJa cJ (bd 3) 30 (vp_updL me.2.1 ((6 * ki) + cy) time), cIa cI (bd 4) 30 me.2.2.1, cZa cZ (bd 5) 6 mo.1, cZa cZ (bd 6) 6 mo.2.1, cZa cZ (bd 7) 2 ms.1, cIa cI (bd 8) 2 ms.2.1, cZa cZ (bd 9) 2 ms.2.2.1, cIa cI (bd 10) 2 ms.2.2.2.1, cIa cI (bd 11) 2 ms.2.2.2.2.1, cZa cZ (bd 12) 2 ms.2.2.2.2.2.1, cJa cJ (bd 13) 6 ms.2.2.2.2.2.2, cJa cJ (bd 14) 16 mo.2.2.1] := hD
  refine lv_aload_n hx hb dM_plan_34 rfl (lv_at hl 1 rfl) ?_
  refine gfM_25 hx hb hts hown hN hK hP 0 rfl (v := .ref (bd 4)) rfl dM_plan_35 ?_
  refine lv_iload hx hb dM_plan_38 (lv_at hl 0 rfl) ?_
  refine lv_aload_n hx hb dM_plan_40 rfl (lv_at hl 1 rfl) ?_
  refine gfM_116 hx hb hts hown hN hK hP 0 rfl (v := .int (me.2.2.2 + (1 : Int32))) rfl dM_plan_41 ?_
  refine va_iast hx hb hK hP hD hS 4 1 rfl rfl (vp_in_nI (n := (6 * ki) + cy) (N := 30) (by omega) (by omega)) dM_plan_44 (fun H locs hP hD hS => ?_)
  have e9 : (nI ((6 * ki) + cy)).toNatClampNeg = (6 * ki) + cy := (nI_clamp (n := (6 * ki) + cy) (by omega))
  rw [e9] at hP hD
  have hP : va_P D vwCl [cMd bd k mc mw (upd me.1 ((6 * ki) + cy) (1 : Int32), vp_updL me.2.1 ((6 * ki) + cy) time, upd me.2.2.1 ((6 * ki) + cy) (me.2.2.2 + (1 : Int32)), me.2.2.2 + (1 : Int32)) mo, cIa cI (bd 1) 128 mp, cZa cZ (bd 2) 30 (upd me.1 ((6 * ki) + cy) (1 : Int32)), cJa cJ (bd 3) 30 (vp_updL me.2.1 ((6 * ki) + cy) time), cIa cI (bd 4) 30 (upd me.2.2.1 ((6 * ki) + cy) (me.2.2.2 + (1 : Int32))), cZa cZ (bd 5) 6 mo.1, cZa cZ (bd 6) 6 mo.2.1, cZa cZ (bd 7) 2 ms.1, cIa cI (bd 8) 2 ms.2.1, cZa cZ (bd 9) 2 ms.2.2.1, cIa cI (bd 10) 2 ms.2.2.2.1, cIa cI (bd 11) 2 ms.2.2.2.2.1, cZa cZ (bd 12) 2 ms.2.2.2.2.2.1, cJa cJ (bd 13) 6 ms.2.2.2.2.2.2, cJa cJ (bd 14) 16 mo.2.2.1] H := hP
  have hD : va_D A [cMd bd k mc mw (upd me.1 ((6 * ki) + cy) (1 : Int32), vp_updL me.2.1 ((6 * ki) + cy) time, upd me.2.2.1 ((6 * ki) + cy) (me.2.2.2 + (1 : Int32)), me.2.2.2 + (1 : Int32)) mo, cIa cI (bd 1) 128 mp, cZa cZ (bd 2) 30 (upd me.1 ((6 * ki) + cy) (1 : Int32)), cJa cJ (bd 3) 30 (vp_updL me.2.1 ((6 * ki) + cy) time), cIa cI (bd 4) 30 (upd me.2.2.1 ((6 * ki) + cy) (me.2.2.2 + (1 : Int32))), cZa cZ (bd 5) 6 mo.1, cZa cZ (bd 6) 6 mo.2.1, cZa cZ (bd 7) 2 ms.1, cIa cI (bd 8) 2 ms.2.1, cZa cZ (bd 9) 2 ms.2.2.1, cIa cI (bd 10) 2 ms.2.2.2.1, cIa cI (bd 11) 2 ms.2.2.2.2.1, cZa cZ (bd 12) 2 ms.2.2.2.2.2.1, cJa cJ (bd 13) 6 ms.2.2.2.2.2.2, cJa cJ (bd 14) 16 mo.2.2.1] := hD
  exact k_vret hx hb hr hlk hP hD hS dM_plan_45 () rfl rfl


/-! pure: what an event does when it fires -/
theorem toInt32_1791 {v : Int64} (h1 : v ≤ (1791 : Int64)) (h2 : (1791 : Int64) ≤ v) : v.toInt32 = (1791 : Int32) := by
  have : v = (1791 : Int64) := Int64.le_antisymm h1 h2
  rw [this]; decide
/-- the speed, as both sides reckon it -/
theorem pres {ca cf : ChT} {mp : MpT} {sl sh : SnT} {ms : MsT} (hC : RCh ca cf mp) (hS : RSS sl sh ms) (k : Nat) (wc : WcT) (tc : TcT) (tm : TmT) (wh : WhT) (ag : AgT) (pn : PnT) (mc : McT) (mw : MwT) (me : MeT) (mo : MoT) (hp : wh.2.2.2.1 = mw.2.2.2.1) (h0 : ¬ mw.2.2.2.1 < 0) :
    fT_presentA k wc tc tm wh ag pn ca cf sl sh = fM_present k mc mw mp me mo ms (0 : Int32) ∧ fT_presentF k wc tc tm wh ag pn ca cf sl sh = fM_present k mc mw mp me mo ms (1 : Int32) := by
  have hv := val0 hS.1 k mc mw mp me mo
  have ha := fun x y => at_eq hC k mc mw me mo ms x y
  unfold fT_presentA fT_presentF fM_present fW_speed
  dsimp only
  rw [hp, hv]
  by_cases c0 : mw.2.2.2.1 = (0 : Int64)
  · have c1 : ¬ (0 : Int64) < mw.2.2.2.1 := by rw [c0]; decide
    rw [if_pos c0, if_pos c0, if_neg c1]
    have e : (0 : Int64).toInt32 = (0 : Int32) := by decide
    rw [e]
    exact ⟨(ha _ _).1, (ha _ _).2⟩
  · have c1 : (0 : Int64) < mw.2.2.2.1 := by
      rcases Int64.le_iff_lt_or_eq.mp (Int64.not_lt.mp h0) with h | h
      · exact h
      · exact absurd h.symm c0
    rw [if_neg c0, if_neg c0, if_pos c1]
    by_cases c2 : ((200000 : Int64) / mw.2.2.2.1) ≤ (1791 : Int64)
    · rw [if_pos c2, if_pos c2]
      by_cases c3 : (1791 : Int64) ≤ ((200000 : Int64) / mw.2.2.2.1)
      · rw [if_pos c3, toInt32_1791 c2 c3]
        exact ⟨(ha _ _).1, (ha _ _).2⟩
      · rw [if_neg c3]
        exact ⟨(ha _ _).1, (ha _ _).2⟩
    · have c3 : (1791 : Int64) ≤ ((200000 : Int64) / mw.2.2.2.1) := Int64.le_of_lt (Int64.not_le.mp c2)
      rw [if_neg c2, if_neg c2, if_pos c3]
      exact ⟨(ha _ _).1, (ha _ _).2⟩
theorem amount_eq {ca cf : ChT} {mp : MpT} {sl sh : SnT} {ms : MsT} (hC : RCh ca cf mp) (hS : RSS sl sh ms) (k : Nat) (wc : WcT) (tc : TcT) (tm : TmT) (wh : WhT) (ag ag' : AgT) (pn : PnT) (mc : McT) (mw : MwT) (me : MeT) (mo : MoT) (hp : wh.2.2.2.1 = mw.2.2.2.1) (h0 : ¬ mw.2.2.2.1 < 0) :
    fT_enriched k wc tc tm wh ag pn ca cf sl sh (fT_presentF k wc tc tm wh ag pn ca cf sl sh) = fM_amount k mc mw mp me mo ms := by
  have h1 := (pres hC hS k wc tc tm wh ag pn mc mw me mo hp h0).2
  have h2 := val1 hS.2 k mc mw mp me mo
  unfold fT_enriched fM_amount
  dsimp only
  rw [h1, h2]
theorem ws_0le (w : Nat → Nat) (f : Nat → Int32) {e : Nat} (n : Nat) (h : e < n) : ws w (upd f e (0 : Int32)) n ≤ ws w f n := by
  by_cases hf : f e = 0
  · rw [ws_0k w f hf n]; exact Nat.le_refl _
  · have := ws_0 w f hf n h; omega
/-- one firing, both sides -/
theorem fire_eq {k : Nat} {ca cf : ChT} {mp : MpT} {sl sh : SnT} {ms : MsT} {ag : AgT} {me : MeT} {pn : PnT} {mo : MoT} {r : Nat} {tm : TmT} {wh : WhT} {mw : MwT} {mc : McT} {tc : TcT} (wc : WcT)
    (hk0 : 0 < k) (hk : k ≤ 6) (hC : RCh ca cf mp) (hS : RSS sl sh ms) (hE : RE k ag me r) (hP : RP pn mo) (hp : wh.2.2.2.1 = mw.2.2.2.1) (h0 : ¬ mw.2.2.2.1 < 0) (hst : tm.2 = mo.2.2.2.2) (hd : tc.2 = mc.2.2.1)
    {i c : Nat} (hi : i < 5) (hc : c < k) (hne : ¬ me.1 (6 * i + c) = 0) (ht : ag.2.1 (i * k + c) = me.2.1 (6 * i + c)) (mw' : MwT) (hmw : mw' = (me.2.1 (6 * i + c), mw.2)) :
    ∃ r2, r2 ≤ r + 1 ∧ RE k (fT_fireAt k wc tc tm wh ag pn ca cf sl sh (i * k + c)).2.1 (fM_fire k mc mw' mp me mo ms (6 * i + c)).1 r2 ∧ RP (fT_fireAt k wc tc tm wh ag pn ca cf sl sh (i * k + c)).2.2 (fM_fire k mc mw' mp me mo ms (6 * i + c)).2 ∧ (fT_fireAt k wc tc tm wh ag pn ca cf sl sh (i * k + c)).1.1 = me.2.1 (6 * i + c) ∧ (fT_fireAt k wc tc tm wh ag pn ca cf sl sh (i * k + c)).1.2 = (fM_fire k mc mw' mp me mo ms (6 * i + c)).2.2.2.2.2 ∧ ws wp (fM_fire k mc mw' mp me mo ms (6 * i + c)).1.1 30 < ws wp me.1 30 := by
  have q1 : (i * k + c) / k = i := by rw [Nat.mul_comm, Nat.mul_add_div hk0, Nat.div_eq_of_lt hc]; omega
  have q2 : (i * k + c) % k = c := by rw [Nat.mul_comm, Nat.mul_add_mod, Nat.mod_eq_of_lt hc]
  have q3 : (6 * i + c) / 6 = i := by omega
  have q4 : (6 * i + c) % 6 = c := by omega
  have c6 : c < 6 := by omega
  have z0 : 0 + c = c := Nat.zero_add c
  have hE1 := hE.rem hk hi hc
  have w0 := ws_0 wp me.1 hne 30 (by omega)
  have mn : mw'.1 = me.2.1 (6 * i + c) := by rw [hmw]
  have mu : mw'.2.2.2.1 = mw.2.2.2.1 := by rw [hmw]
  unfold fT_fireAt fM_fire
  rw [q1, q2, q3, q4]
  dsimp only
  rw [ht]
  have key : ∀ (me2 : MeT) (hme : me2 = (upd me.1 (6 * i + c) (0 : Int32), me.2.1, me.2.2.1, me.2.2.2)), RE k (fA_remove k ag i c) me2 r := fun me2 hme => by rw [hme]; exact hE1
  rcases (show i = 0 ∨ i = 1 ∨ i = 2 ∨ i = 3 ∨ i = 4 by omega) with rfl | rfl | rfl | rfl | rfl
  · -- CHARGE
    have wpe : wp (6 * 0 + c) = 2 := by unfold wp; rw [if_pos (Or.inl (by omega))]
    rw [if_pos (show nI 0 = (0 : Int32) from rfl), if_pos (show nI 0 = 0 from rfl)]
    have e60 : 6 * 0 + c = c := by omega
    rw [e60] at hE1 w0 mn wpe ⊢
    unfold fT_chargeCoil
    dsimp only
    rw [z0]
    by_cases cc : mo.1 c = 0
    · rw [if_pos cc, if_pos ((on_coil hP c6).mpr cc)]
      dsimp only
      refine ⟨r + 1, Nat.le_refl _, ?_, ?_, rfl, ?_, ?_⟩
      · rw [mn, hd]; exact hE1.plan (ki := 2) hk (by decide) hc _ mc mw' mp _ ms
      · rw [← mn]; exact (hP.sw k mc mw' mp _ ms c6).1
      · rw [(sw_rest k mc mw' mp _ mo ms c6).1]; exact hst
      · have a1 := ws_le wp (upd me.1 c (0 : Int32)) (e := 6 * 2 + c) 30 (by omega)
        have a2 : wp (6 * 2 + c) = 1 := by unfold wp; rw [if_neg (by omega)]
        show ws wp (upd (upd me.1 c (0 : Int32)) (6 * 2 + c) (1 : Int32)) 30 < _
        omega
    · rw [if_neg cc, if_neg (fun z => cc ((on_coil hP c6).mp z))]
      refine ⟨r, by omega, hE1, hP, rfl, hst, ?_⟩
      show ws wp (upd me.1 c (0 : Int32)) 30 < _
      omega
  · -- FIRE
    have wpe : wp (6 * 1 + c) = 1 := by unfold wp; rw [if_neg (by omega)]
    rw [if_neg (show ¬ nI 1 = (0 : Int32) by decide), if_pos (show nI 1 = (1 : Int32) from rfl), if_neg (show ¬ nI 1 = 0 by decide), if_pos (show nI 1 = (1 : Int32) from rfl)]
    unfold fT_fireCoil
    dsimp only
    rw [z0]
    by_cases cc : mo.1 c = 0
    · rw [if_pos cc, if_pos ((on_coil hP c6).mpr cc)]
      refine ⟨r, by omega, hE1, hP, rfl, hst, ?_⟩
      show ws wp (upd me.1 (6 * 1 + c) (0 : Int32)) 30 < _
      omega
    · rw [if_neg cc, if_neg (fun z => cc ((on_coil hP c6).mp z))]
      dsimp only
      refine ⟨r, by omega, ?_, ?_, rfl, ?_, ?_⟩
      · exact hE1.rem (ki := 2) hk (by decide) hc
      · rw [← mn]; exact (hP.sw k mc mw' mp (upd me.1 (6 * 1 + c) (0 : Int32), me.2.1, me.2.2.1, me.2.2.2) ms c6).2.1
      · have e := (sw_rest k mc mw' mp (upd me.1 (6 * 1 + c) (0 : Int32), me.2.1, me.2.2.1, me.2.2.2) mo ms c6).2.1
        rw [e]
        show (tm.2.1 + (1 : Int32), tm.2.2.1, tm.2.2.2) = (mo.2.2.2.2.1 + (1 : Int32), mo.2.2.2.2.2.1, mo.2.2.2.2.2.2)
        rw [hst]
      · have a1 := ws_0le wp (upd me.1 (6 * 1 + c) (0 : Int32)) (e := 12 + c) 30 (by omega)
        show ws wp (upd (upd me.1 (6 * 1 + c) (0 : Int32)) (12 + c) (0 : Int32)) 30 < _
        omega
  · -- CUT
    have wpe : wp (6 * 2 + c) = 1 := by unfold wp; rw [if_neg (by omega)]
    rw [if_neg (show ¬ nI 2 = (0 : Int32) by decide), if_neg (show ¬ nI 2 = (1 : Int32) by decide), if_pos (show nI 2 = (2 : Int32) from rfl), if_neg (show ¬ nI 2 = 0 by decide), if_neg (show ¬ nI 2 = (1 : Int32) by decide), if_pos (show nI 2 = (2 : Int32) from rfl)]
    dsimp only
    rw [z0]
    refine ⟨r, by omega, hE1, ?_, rfl, ?_, ?_⟩
    · rw [← mn]; exact (hP.sw k mc mw' mp (upd me.1 (6 * 2 + c) (0 : Int32), me.2.1, me.2.2.1, me.2.2.2) ms c6).2.1
    · have e := (sw_rest k mc mw' mp (upd me.1 (6 * 2 + c) (0 : Int32), me.2.1, me.2.2.1, me.2.2.2) mo ms c6).2.1
      rw [e]
      show (tm.2.1, tm.2.2.1 + (1 : Int32), tm.2.2.2) = (mo.2.2.2.2.1, mo.2.2.2.2.2.1 + (1 : Int32), mo.2.2.2.2.2.2)
      rw [hst]
    · show ws wp (upd me.1 (6 * 2 + c) (0 : Int32)) 30 < _
      omega
  · -- OPEN
    have wpe : wp (6 * 3 + c) = 2 := by unfold wp; rw [if_pos (Or.inr (by omega))]
    rw [if_neg (show ¬ nI 3 = (0 : Int32) by decide), if_neg (show ¬ nI 3 = (1 : Int32) by decide), if_neg (show ¬ nI 3 = (2 : Int32) by decide), if_pos (show nI 3 = (3 : Int32) from rfl), if_neg (show ¬ nI 3 = 0 by decide), if_neg (show ¬ nI 3 = (1 : Int32) by decide), if_neg (show ¬ nI 3 = (2 : Int32) by decide), if_pos (show nI 3 = (3 : Int32) from rfl)]
    have ha := amount_eq hC hS k wc tc (me.2.1 (6 * 3 + c), tm.2.1, tm.2.2.1, tm.2.2.2) wh (fA_remove k ag 3 c) ag pn mc mw' (upd me.1 (6 * 3 + c) (0 : Int32), me.2.1, me.2.2.1, me.2.2.2) mo (by rw [mu]; exact hp) (by rw [mu]; exact h0)
    unfold fT_openInjector
    dsimp only
    rw [ha]
    by_cases cc : mo.2.1 c = 0
    · rw [if_pos cc, if_pos ((on_inj hP c6).mpr cc)]
      by_cases ca0 : fM_amount k mc mw' mp (upd me.1 (6 * 3 + c) (0 : Int32), me.2.1, me.2.2.1, me.2.2.2) mo ms = 0
      · rw [if_pos ca0, if_pos ca0]
        refine ⟨r, by omega, hE1, hP, rfl, hst, ?_⟩
        show ws wp (upd me.1 (6 * 3 + c) (0 : Int32)) 30 < _
        omega
      · rw [if_neg ca0, if_neg ca0]
        dsimp only
        refine ⟨r + 1, Nat.le_refl _, ?_, ?_, rfl, ?_, ?_⟩
        · rw [mn]; exact hE1.plan (ki := 4) hk (by decide) hc _ mc mw' mp _ ms
        · rw [← mn]; exact (hP.sw k mc mw' mp _ ms c6).2.2.1
        · rw [(sw_rest k mc mw' mp _ mo ms c6).2.2.1]; exact hst
        · have a1 := ws_le wp (upd me.1 (6 * 3 + c) (0 : Int32)) (e := 6 * 4 + c) 30 (by omega)
          have a2 : wp (6 * 4 + c) = 1 := by unfold wp; rw [if_neg (by omega)]
          show ws wp (upd (upd me.1 (6 * 3 + c) (0 : Int32)) (6 * 4 + c) (1 : Int32)) 30 < _
          omega
    · rw [if_neg cc, if_neg (fun z => cc ((on_inj hP c6).mp z))]
      refine ⟨r, by omega, hE1, hP, rfl, hst, ?_⟩
      show ws wp (upd me.1 (6 * 3 + c) (0 : Int32)) 30 < _
      omega
  · -- CLOSE
    have wpe : wp (6 * 4 + c) = 1 := by unfold wp; rw [if_neg (by omega)]
    rw [if_neg (show ¬ nI 4 = (0 : Int32) by decide), if_neg (show ¬ nI 4 = (1 : Int32) by decide), if_neg (show ¬ nI 4 = (2 : Int32) by decide), if_neg (show ¬ nI 4 = (3 : Int32) by decide), if_neg (show ¬ nI 4 = 0 by decide), if_neg (show ¬ nI 4 = (1 : Int32) by decide), if_neg (show ¬ nI 4 = (2 : Int32) by decide), if_neg (show ¬ nI 4 = (3 : Int32) by decide), if_pos (show nI 4 = (4 : Int32) from rfl)]
    dsimp only
    refine ⟨r, by omega, hE1, ?_, rfl, ?_, ?_⟩
    · rw [← mn]; exact (hP.sw k mc mw' mp _ ms c6).2.2.2
    · rw [(sw_rest k mc mw' mp (upd me.1 (6 * 4 + c) (0 : Int32), me.2.1, me.2.2.1, me.2.2.2) mo ms c6).2.2.2]; exact hst
    · show ws wp (upd me.1 (6 * 4 + c) (0 : Int32)) 30 < _
      omega

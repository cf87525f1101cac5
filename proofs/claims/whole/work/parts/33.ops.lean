/-! pure: the calls -/
theorem RT.up {k p B B2 r : Nat} {tm : TmT} {wh : WhT} {ag : AgT} {pn : PnT} {mw : MwT} {me : MeT} {mo : MoT} (h : RT k p B r tm wh ag pn mw me mo) (hB : B ≤ B2) : RT k p B2 r tm wh ag pn mw me mo := by
  obtain ⟨a1, a2, a3, ⟨a, b, u, t1, t2, t3, t4, t5, t6, t7, t8⟩, a5, a6, a7, a8⟩ := h
  exact ⟨a1, a2, a3, ⟨a, b, u, t1, t2, t3, t4, by omega, by omega, t7, t8⟩, a5, a6, a7, a8⟩
theorem can_in (af : Int32) : fT_canFollow af = fM_in af (1 : Int32) (1000000 : Int32) := rfl
theorem in_c1 (x : Int32) {N : Nat} (hN : N < 2 ^ 30) : ((x < (1 : Int32) ∨ nI N < x) ∧ fM_in x (1 : Int32) (nI N) = 0) ∨ (fM_in x (1 : Int32) (nI N) = 1 ∧ ¬ x < (1 : Int32) ∧ ¬ nI N < x ∧ ∃ a, 1 ≤ a ∧ a ≤ N ∧ x = nI a) := by
  rcases i_cases x hN with h | ⟨a, ha, rfl⟩
  · have h2 : x < (1 : Int32) ∨ nI N < x := h.imp (fun z => Int32.lt_trans z (by decide)) id
    exact Or.inl ⟨h2, in_neg h2⟩
  · rcases Nat.eq_zero_or_pos a with rfl | h0
    · have h2 : nI 0 < (1 : Int32) ∨ nI N < nI 0 := Or.inl (by decide)
      exact Or.inl ⟨h2, in_neg h2⟩
    · have n1 : ¬ nI a < (1 : Int32) := nI_nlt (a := a) (b := 1) h0 (by omega)
      have n2 : ¬ nI N < nI a := nI_nlt (a := N) (b := a) ha (by omega)
      exact Or.inr ⟨in_pos n1 n2, n1, n2, a, h0, ha, rfl⟩
section OPS
variable {k p B r : Nat} {wc : WcT} {tc : TcT} {mc : McT} {ca cf : ChT} {mp : MpT} {sl sh : SnT} {ms : MsT} {tm : TmT} {wh : WhT} {ag : AgT} {pn : PnT} {mw : MwT} {me : MeT} {mo : MoT}
theorem edge_eq (hco : CO p wc tc mc) (hk0 : 0 < k) (hk : k ≤ 6) (hC : RCh ca cf mp) (hB : CaB ca) (hS : RSS sl sh ms) (h : RT k p B r tm wh ag pn mw me mo) (af : Int32) (hB2 : B + 64000000 < 2 ^ 40) (hr : r + 10000 < 2 ^ 30) :
    (fT_edge k wc tc tm wh ag pn ca cf sl sh af).1 = (fM_edge k mc mw mp me mo ms af).1 ∧ ∃ r2, r2 ≤ r + 10000 ∧ RT k p (B + 64000000) r2 (fT_edge k wc tc tm wh ag pn ca cf sl sh af).2.1 (fT_edge k wc tc tm wh ag pn ca cf sl sh af).2.2.1 (fT_edge k wc tc tm wh ag pn ca cf sl sh af).2.2.2.1 (fT_edge k wc tc tm wh ag pn ca cf sl sh af).2.2.2.2 (fM_edge k mc mw mp me mo ms af).2.1 (fM_edge k mc mw mp me mo ms af).2.2.1 (fM_edge k mc mw mp me mo ms af).2.2.2 := by
  unfold fT_edge fM_edge
  dsimp only
  rw [can_in]
  rcases in_c1 af (N := 1000000) (by decide) with ⟨-, e⟩ | ⟨e, -, -, a, a1, a2, rfl⟩
  · have e : fM_in af (1 : Int32) (1000000 : Int32) = 0 := e
    rw [e, if_pos rfl, if_pos rfl]
    exact ⟨rfl, r, by omega, h.up (by omega)⟩
  · have e : fM_in (nI a) (1 : Int32) (1000000 : Int32) = 1 := e
    rw [e, if_neg one_ne0, if_neg one_ne0]
    obtain ⟨r2, d1, d2⟩ := edge1 hco hk0 hk hC hB hS h a1 a2 (by omega) (by omega)
    exact ⟨d2.2.2.1.2.2.2.1, r2, by omega, d2.up (by omega)⟩
theorem teeth_l_eq (hco : CO p wc tc mc) (hk0 : 0 < k) (hk : k ≤ 6) (hC : RCh ca cf mp) (hB : CaB ca) (hS : RSS sl sh ms) (n : Int32) {a : Nat} (a1 : 1 ≤ a) (a2 : a ≤ 1000000) : ∀ (fuel i B r : Nat) (tm : TmT) (wh : WhT) (ag : AgT) (pn : PnT) (mw : MwT) (me : MeT) (mo : MoT), RT k p B r tm wh ag pn mw me mo → B + fuel * 1000000 < 2 ^ 40 → r + fuel * 138 + 200 < 2 ^ 30 →
    (fT_teeth_l k wc tc ca cf sl sh n (nI a) fuel i tm wh ag pn).1 = (fM_teeth_l k mc mp ms n (nI a) fuel i mw me mo).1 ∧ ∃ r2, r2 ≤ r + fuel * 138 ∧ RT k p (B + fuel * 1000000) r2 (fT_teeth_l k wc tc ca cf sl sh n (nI a) fuel i tm wh ag pn).2.1 (fT_teeth_l k wc tc ca cf sl sh n (nI a) fuel i tm wh ag pn).2.2.1 (fT_teeth_l k wc tc ca cf sl sh n (nI a) fuel i tm wh ag pn).2.2.2.1 (fT_teeth_l k wc tc ca cf sl sh n (nI a) fuel i tm wh ag pn).2.2.2.2 (fM_teeth_l k mc mp ms n (nI a) fuel i mw me mo).2.1 (fM_teeth_l k mc mp ms n (nI a) fuel i mw me mo).2.2.1 (fM_teeth_l k mc mp ms n (nI a) fuel i mw me mo).2.2.2
  | 0, i, B, r, tm, wh, ag, pn, mw, me, mo, h, hB2, hr => by
    unfold fT_teeth_l fM_teeth_l
    exact ⟨h.2.2.1.2.2.2.1, r, by omega, h.up (by omega)⟩
  | fuel + 1, i, B, r, tm, wh, ag, pn, mw, me, mo, h, hB2, hr => by
    unfold fT_teeth_l fM_teeth_l
    dsimp only
    obtain ⟨r1, d1, d2⟩ := edge1 hco hk0 hk hC hB hS h a1 a2 (by omega) (by omega)
    obtain ⟨e1, r2, e2, e3⟩ := teeth_l_eq hco hk0 hk hC hB hS n a1 a2 fuel (i + 1) (B + 1000000) r1 _ _ _ _ _ _ _ d2 (by omega) (by omega)
    exact ⟨e1, r2, by omega, e3.up (by omega)⟩
theorem teeth_eq (hco : CO p wc tc mc) (hk0 : 0 < k) (hk : k ≤ 6) (hC : RCh ca cf mp) (hB : CaB ca) (hS : RSS sl sh ms) (h : RT k p B r tm wh ag pn mw me mo) (n af : Int32) (hB2 : B + 64000000 < 2 ^ 40) (hr : r + 10000 < 2 ^ 30) :
    (fT_teeth k wc tc tm wh ag pn ca cf sl sh n af).1 = (fM_teeth k mc mw mp me mo ms n af).1 ∧ ∃ r2, r2 ≤ r + 10000 ∧ RT k p (B + 64000000) r2 (fT_teeth k wc tc tm wh ag pn ca cf sl sh n af).2.1 (fT_teeth k wc tc tm wh ag pn ca cf sl sh n af).2.2.1 (fT_teeth k wc tc tm wh ag pn ca cf sl sh n af).2.2.2.1 (fT_teeth k wc tc tm wh ag pn ca cf sl sh n af).2.2.2.2 (fM_teeth k mc mw mp me mo ms n af).2.1 (fM_teeth k mc mw mp me mo ms n af).2.2.1 (fM_teeth k mc mw mp me mo ms n af).2.2.2 := by
  unfold fT_teeth fM_teeth
  dsimp only
  rw [can_in]
  rcases in_c1 n (N := 64) (by decide) with ⟨eo, e⟩ | ⟨e, n1, n2, c, c1, c2, rfl⟩
  · have e : fM_in n (1 : Int32) (64 : Int32) = 0 := e
    rw [e, if_pos rfl]
    by_cases z : n < (1 : Int32)
    · rw [if_pos z]
      exact ⟨rfl, r, by omega, h.up (by omega)⟩
    · have z2 : (64 : Int32) < n := eo.resolve_left z
      rw [if_neg z, if_pos z2]
      exact ⟨rfl, r, by omega, h.up (by omega)⟩
  · have e : fM_in (nI c) (1 : Int32) (64 : Int32) = 1 := e
    have n2 : ¬ (64 : Int32) < nI c := n2
    rw [e, if_neg one_ne0, if_neg n1, if_neg n2]
    rcases in_c1 af (N := 1000000) (by decide) with ⟨-, e⟩ | ⟨e, -, -, a, a1, a2, rfl⟩
    · have e : fM_in af (1 : Int32) (1000000 : Int32) = 0 := e
      rw [e, if_pos rfl, if_pos rfl]
      exact ⟨rfl, r, by omega, h.up (by omega)⟩
    · have e : fM_in (nI a) (1 : Int32) (1000000 : Int32) = 1 := e
      rw [e, if_neg one_ne0, if_neg one_ne0, nI_clamp (by omega)]
      obtain ⟨e1, r2, e2, e3⟩ := teeth_l_eq hco hk0 hk hC hB hS (nI c) a1 a2 c 0 B r _ _ _ _ _ _ _ h (by omega) (by omega)
      exact ⟨e1, r2, by omega, e3.up (by omega)⟩
theorem rest_eq (hco : CO p wc tc mc) (hk0 : 0 < k) (hk : k ≤ 6) (hC : RCh ca cf mp) (hS : RSS sl sh ms) (h : RT k p B r tm wh ag pn mw me mo) (n : Int32) (hB2 : B + 64000000 < 2 ^ 40) (hr : r + 10000 < 2 ^ 30) :
    (fT_rest k wc tc tm wh ag pn ca cf sl sh n).1 = (fM_rest k mc mw mp me mo ms n).1 ∧ ∃ r2, r2 ≤ r + 10000 ∧ RT k p (B + 64000000) r2 (fT_rest k wc tc tm wh ag pn ca cf sl sh n).2.1 (fT_rest k wc tc tm wh ag pn ca cf sl sh n).2.2.1 (fT_rest k wc tc tm wh ag pn ca cf sl sh n).2.2.2.1 (fT_rest k wc tc tm wh ag pn ca cf sl sh n).2.2.2.2 (fM_rest k mc mw mp me mo ms n).2.1 (fM_rest k mc mw mp me mo ms n).2.2.1 (fM_rest k mc mw mp me mo ms n).2.2.2 := by
  unfold fT_rest fM_rest
  dsimp only
  rcases i_cases n (N := 10000000) (by decide) with eo | ⟨a, a2, rfl⟩
  · have e : fM_in n (0 : Int32) (10000000 : Int32) = 0 := in_neg eo
    rw [e, if_pos rfl]
    by_cases z : n < 0
    · rw [if_pos z]
      exact ⟨rfl, r, by omega, h.up (by omega)⟩
    · have z2 : (10000000 : Int32) < n := eo.resolve_left z
      rw [if_neg z, if_neg (fun y => Int32.not_lt.mpr y z2)]
      exact ⟨rfl, r, by omega, h.up (by omega)⟩
  · have n1 : ¬ nI a < (0 : Int32) := nI_pos (by omega)
    have n2 : ¬ (10000000 : Int32) < nI a := nI_nlt (a := 10000000) (b := a) a2 (by decide)
    have n3 : nI a ≤ (10000000 : Int32) := nI_le (a := a) (b := 10000000) a2 (by decide)
    rw [in_pos n1 n2, if_neg one_ne0, if_neg n1, if_pos n3]
    obtain ⟨a1, a2', a3, a4, a5, a6, a7, a8⟩ := id h
    obtain ⟨x, b, u, t1, t2, t3, t4, t5, t6, t7, t8⟩ := id a4
    have e1 : tm.1 + (nI a).toInt64 = lN (b + a) := by rw [a1, t2, add_af (by omega)]
    have e2 : mw.1 + (nI a).toInt64 = lN (b + a) := by rw [t2, add_af (by omega)]
    rw [e1, e2]
    obtain ⟨r1, g0, G, -, -⟩ := RT.go hco hk0 hk hC hS a2' a3 a4 a5 a6 a7 (b := b) (b2 := b + a) (B2 := B + 64000000) t2 (by omega) (by omega) (by omega) hB2 (by omega)
    refine ⟨?_, r1, by omega, G⟩
    rw [G.2.2.2.2.2.1.2.1, a6.2.1]
theorem cam_eq (h : RT k p B r tm wh ag pn mw me mo) (hk : k ≤ 6) : (fT_cam k wc tc tm wh ag pn ca cf sl sh).1 = (fM_cam k mc mw mp me mo ms).1 ∧ RT k p B r tm (fT_cam k wc tc tm wh ag pn ca cf sl sh).2 ag pn (fM_cam k mc mw mp me mo ms).2 me mo := by
  obtain ⟨a1, a2, a3, a4, a5, a6, a7, a8⟩ := id h
  obtain ⟨w1, w2, w3, w4, w5, w6, w7, w8, w9, w10, w11, w12, w13⟩ := id a3
  unfold fT_cam fM_cam fW_meetCam
  dsimp only
  by_cases c : wh.1 = (3 : Int32)
  · have c' : mw.2.2.2.2.1 = (3 : Int32) := w4.symm.trans c
    rw [if_pos c, if_pos c']
    by_cases c2 : wh.2.2.2.2.2.1 = (1 : Int32)
    · have c2' : mw.2.2.2.2.2.2.1 = (1 : Int32) := w5.symm.trans c2
      rw [if_pos c2, if_pos c2']
      dsimp only
      rw [if_pos c]
      refine ⟨rfl, a1, a2, ?_, a4, a5, a6, a7, a8⟩
      exact ⟨w1, w2, w3, w4, rfl, w6, w7, w8, w9, fun _ => rfl, Or.inl rfl, fun z => absurd z n_m0, w13⟩
    · have c2' : ¬ mw.2.2.2.2.2.2.1 = (1 : Int32) := fun z => c2 (w5.trans z)
      rw [if_neg c2, if_neg c2']
      dsimp only
      rw [if_pos c]
      refine ⟨rfl, a1, a2, ?_, a4, a5, a6, a7, a8⟩
      exact ⟨w1, w2, w3, w4, rfl, w6, w7, w8, w9, fun z => absurd c z, Or.inr (Or.inl rfl), fun _ => ⟨fun z => absurd z n_10, fun z => absurd z n_10⟩, w13⟩
  · have c' : ¬ mw.2.2.2.2.1 = (3 : Int32) := fun z => c (w4.trans z)
    rw [if_neg c, if_neg c, if_neg c']
    exact ⟨rfl, h⟩
theorem foretell_eq (hco : CO p wc tc mc) (h : RT k p B r tm wh ag pn mw me mo) (an : Int32) : fT_foretell k wc tc tm wh ag pn ca cf sl sh an = fM_foretell k mc mw mp me mo ms an := by
  obtain ⟨a1, a2, a3, a4, a5, a6, a7, a8⟩ := id h
  obtain ⟨w1, w2, w3, w4, w5, w6, w7, w8, w9, w10, w11, w12, w13⟩ := id a3
  obtain ⟨p1, p2, p3, p4, p5, p6, p7, p8⟩ := id hco
  unfold fT_foretell fM_foretell
  dsimp only
  by_cases c : wh.2.2.2.2.2.1 = (-1 : Int32)
  · rw [if_pos c]
    by_cases c2 : mw.2.2.2.2.1 = (3 : Int32)
    · rw [if_pos c2, if_pos (by rw [← w5, c]; exact neg_m1)]
    · rw [if_neg c2]
  · have ph : wh.1 = (3 : Int32) := Classical.byContradiction (fun z => c (w10 z))
    have tn : ¬ mw.2.2.2.2.2.2.1 < 0 := by
      rw [← w5]
      rcases w11 with h | h | h
      · exact absurd h c
      · rw [h]; decide
      · rw [h]; decide
    have ph' : mw.2.2.2.2.1 = (3 : Int32) := w4.symm.trans ph
    rw [if_neg c, if_pos ph', if_neg tn]
    have ec : mc.2.2.2 - (1 : Int32) = nI (128 * p - 1) := by
      rw [p5]; exact pk_sub (b := 1) (by omega)
    have ew : wc.2.2 = nI (128 * p) := by rw [p3]
    rw [ec, ew]
    rcases i_cases an (N := 128 * p - 1) (by omega) with eo | ⟨a, a2, rfl⟩
    · rw [in_neg eo, if_pos rfl]
      by_cases z : an < 0
      · rw [if_pos z]
      · have z2 : nI (128 * p - 1) < an := eo.resolve_left z
        rw [if_neg z, if_neg]
        intro y
        have t1 : (nI (128 * p)).toInt = (128 * p : Nat) := nI_toInt (by omega)
        have t2 : (nI (128 * p - 1)).toInt = (128 * p - 1 : Nat) := nI_toInt (by omega)
        rw [Int32.lt_iff_toInt_lt] at y z2
        omega
    · have n1 : ¬ nI a < (0 : Int32) := nI_pos (by omega)
      have n2 : ¬ nI (128 * p - 1) < nI a := nI_nlt (a := 128 * p - 1) (b := a) a2 (by omega)
      have n3 : nI a < nI (128 * p) := nI_lt (by omega) (by omega)
      rw [in_pos n1 n2, if_neg one_ne0, if_neg n1, if_pos n3]
      have hρ : ∃ ρ, ρ ≤ 1 ∧ wh.2.2.2.2.2.1 = nI ρ := by
        rcases w11 with h | h | h
        · exact absurd h c
        · exact ⟨0, by decide, h⟩
        · exact ⟨1, by decide, h⟩
      obtain ⟨ρ, r1, r2⟩ := hρ
      obtain ⟨t, t1, t2, t3⟩ := w8 (Or.inr ph)
      obtain ⟨s1, -⟩ := steps_eq hco r1 t1 r2 t2 (w5.symm.trans r2) t3 k mp me mo ms (an := nI a) (v := a) (nI_toInt (by omega)) (by omega) (by omega)
      unfold fW_timeOver
      rw [s1, w2, w3]
end OPS

/-! pure: edge, teeth, rest, cam, foretell -/
theorem add_af {b a : Nat} (ha : a < 2 ^ 31) : lN b + (nI a).toInt64 = lN (b + a) := by rw [nI_l ha, lN_add]
set_option maxHeartbeats 1000000 in
theorem edge1 {k p B r : Nat} {wc : WcT} {tc : TcT} {mc : McT} (hco : CO p wc tc mc) (hk0 : 0 < k) (hk : k ≤ 6) {ca cf : ChT} {mp : MpT} {sl sh : SnT} {ms : MsT} (hC : RCh ca cf mp) (hB : CaB ca) (hS : RSS sl sh ms) {tm : TmT} {wh : WhT} {ag : AgT} {pn : PnT} {mw : MwT} {me : MeT} {mo : MoT} (h : RT k p B r tm wh ag pn mw me mo) {af : Nat} (h1 : 1 ≤ af) (h2 : af ≤ 1000000) (hB2 : B + 1000000 < 2 ^ 40) (hr : r + 200 < 2 ^ 30) :
    ∃ r2, r2 ≤ r + 138 ∧ RT k p (B + 1000000) r2 (fT_meetEdge k wc tc tm wh ag pn ca cf sl sh (nI af)).1 (fT_meetEdge k wc tc tm wh ag pn ca cf sl sh (nI af)).2.1 (fT_meetEdge k wc tc tm wh ag pn ca cf sl sh (nI af)).2.2.1 (fT_meetEdge k wc tc tm wh ag pn ca cf sl sh (nI af)).2.2.2 (fM_oneEdge k mc mw mp me mo ms (nI af)).1 (fM_oneEdge k mc mw mp me mo ms (nI af)).2.1 (fM_oneEdge k mc mw mp me mo ms (nI af)).2.2 := by
  obtain ⟨a1, a2, a3, a4, a5, a6, a7, a8⟩ := id h
  obtain ⟨a, b, u, t1, t2, t3, t4, t5, t6, t7, t8⟩ := id a4
  obtain ⟨r1, g0, G, g1, g2⟩ := RT.go hco hk0 hk hC hS a2 a3 a4 a5 a6 a7 (b := b) (b2 := b + af) (B2 := B + 1000000) t2 (by omega) (by omega) (by omega) hB2 (by omega)
  have et : tm.1 + (nI af).toInt64 = lN (b + af) := by rw [a1, t2, add_af (by omega)]
  have em : mw.1 + (nI af).toInt64 = lN (b + af) := by rw [t2, add_af (by omega)]
  unfold fT_meetEdge fM_oneEdge
  dsimp only
  rw [et, em]
  generalize fT_goOnTo k wc tc tm wh ag pn ca cf sl sh (lN (b + af)) = X at G g1 g2 ⊢
  generalize fM_advance k mc mw mp me mo ms (lN (b + af)) = Y at G ⊢
  obtain ⟨tm1, wh1, ag1, pn1⟩ := X
  obtain ⟨mw1, me1, mo1⟩ := Y
  dsimp only at *
  obtain ⟨b1, b2, b3, b4, b5, b6, b7, b8⟩ := id G
  obtain ⟨w1, w2, w3, w4, w5, w6, w7, w8, w9, w10, w11, w12, w13⟩ := id b3
  have hnow : mw1.1 = lN (b + af) := by rw [← b1]; exact g1
  have hlat : wh1.2.2.1 = lN a := by rw [g2]; exact t1
  by_cases c0 : mw1.2.1 = 0
  · -- the first edge
    have ph0 : wh1.1 = 0 := w7 (by rw [w1]; exact c0)
    have hrd : wh1.2.2.2.2.2.1 = (-1 : Int32) := w10 (by rw [ph0]; exact n_03)
    rw [if_pos c0, if_neg (by rw [ph0]; exact n_03)]
    have hm : fW_meetTooth wc wh1 tm1.1 = (wh1.1, (1 : Int32), tm1.1, wh1.2.2.2.1, wh1.2.2.2.2.1, wh1.2.2.2.2.2.1, wh1.2.2.2.2.2.2) := by
      unfold fW_meetTooth
      rw [if_pos (by rw [w1]; exact c0)]
    rw [hm]
    dsimp only
    rw [if_pos hrd]
    refine ⟨r1, by omega, G.stay _ (mw1.1, (1 : Int32), mw1.1, mw1.2.2.2.1, mw1.2.2.2.2.1, mw1.2.2.2.2.2.1, mw1.2.2.2.2.2.2.1, mw1.2.2.2.2.2.2.2) rfl ?_ ?_ (fun z => z)⟩
    · refine ⟨rfl, b1, w3, w4, w5, w6, fun z => absurd z n_10, w8, w9, w10, w11, w12, Or.inr rfl⟩
    · obtain ⟨x, y, z, z1, z2, z3, z4, z5, z6, z7, z8⟩ := b4
      exact ⟨y, y, z, by show tm1.1 = lN y; rw [b1, z2], z2, z3, Nat.le_refl _, z5, z6, z7, z8⟩
  · rw [if_neg c0]
    have hek : wh1.2.1 = (1 : Int32) := w13.resolve_left (by rw [w1]; exact c0)
    by_cases c1 : mw1.2.2.2.2.1 = 0
    · -- the second
      have ph0 : wh1.1 = 0 := by rw [w4]; exact c1
      have hrd : wh1.2.2.2.2.2.1 = (-1 : Int32) := w10 (by rw [ph0]; exact n_03)
      have hno : wh1.2.2.2.2.1 = (-1 : Int32) := w9 (Or.inl ph0)
      rw [if_pos c1, if_neg (by rw [ph0]; exact n_03)]
      have hm : fW_meetTooth wc wh1 tm1.1 = ((1 : Int32), (1 : Int32), tm1.1, tm1.1 - wh1.2.2.1, wh1.2.2.2.2.1, wh1.2.2.2.2.2.1, wh1.2.2.2.2.2.2) := by
        unfold fW_meetTooth fW_measure
        dsimp only
        rw [if_neg (by rw [hek]; exact n_10), if_pos ph0]
      rw [hm]
      dsimp only
      rw [if_pos hrd]
      refine ⟨r1, by omega, G.stay _ (mw1.1, mw1.2.1, mw1.1, mw1.1 - mw1.2.2.1, (1 : Int32), mw1.2.2.2.2.2.1, mw1.2.2.2.2.2.2.1, mw1.2.2.2.2.2.2.2) rfl ?_ ?_ (fun _ => by rw [ph0]; exact n_03)⟩
      · refine ⟨hek.symm.trans w1, b1, by show tm1.1 - wh1.2.2.1 = mw1.1 - mw1.2.2.1; rw [b1, w2], rfl, w5, Or.inr (Or.inl rfl), fun z => absurd z n_10, ?_, fun _ => hno, fun _ => hrd, w11, w12, Or.inr rfl⟩
        rintro (z | z)
        · exact absurd z n_12
        · exact absurd z n_13
      · refine ⟨b + af, b + af, b + af - a, ?_, hnow, ?_, Nat.le_refl _, by omega, by omega, fun z => absurd z n_10, fun _ => by omega⟩
        · show tm1.1 = _; rw [b1, hnow]
        · show tm1.1 - wh1.2.2.1 = _; rw [b1, hnow, hlat, lN_sub (by omega)]
    · rw [if_neg c1]
      have ph0 : ¬ wh1.1 = 0 := by rw [w4]; exact c1
      obtain ⟨Z, hZ⟩ : ∃ Z : MwT × MeT × MoT, Z = if (mw1.1 - mw1.2.2.1) < ((2 : Int64) * mw1.2.2.2.1) then (if ((2 : Int64) * (mw1.1 - mw1.2.2.1)) ≤ mw1.2.2.2.1 then fM_lose k mc (mw1.1, mw1.2.1, mw1.1, mw1.2.2.2.1, mw1.2.2.2.2.1, mw1.2.2.2.2.2.1, mw1.2.2.2.2.2.2.1, mw1.2.2.2.2.2.2.2) mp me1 mo1 ms (1 : Int32) else fM_plainInterval k mc (mw1.1, mw1.2.1, mw1.1, mw1.2.2.2.1, mw1.2.2.2.2.1, mw1.2.2.2.2.2.1, mw1.2.2.2.2.2.2.1, mw1.2.2.2.2.2.2.2) mp me1 mo1 ms (mw1.1 - mw1.2.2.1)) else fM_longInterval k mc (mw1.1, mw1.2.1, mw1.1, mw1.2.2.2.1, mw1.2.2.2.2.1, mw1.2.2.2.2.2.1, mw1.2.2.2.2.2.2.1, mw1.2.2.2.2.2.2.2) mp me1 mo1 ms (mw1.1 - mw1.2.2.1) := ⟨_, rfl⟩
      obtain ⟨wh2, hw2⟩ : ∃ w, w = fW_meetTooth wc wh1 tm1.1 := ⟨_, rfl⟩
      obtain ⟨T3, hT3⟩ : ∃ T3 : TmT × AgT × PnT, T3 = if wh1.1 = (3 : Int32) ∧ ¬ wh2.1 = (3 : Int32) then fT_shutDown k wc tc tm1 wh2 ag1 pn1 ca cf sl sh else (tm1, ag1, pn1) := ⟨_, rfl⟩
      obtain ⟨q1, q2⟩ := tooth_eq hco hk G ca cf sl sh hnow hlat (by omega) (by omega) hB2 c0 ph0 hw2 hT3 hZ
      have key := fun X hX Y hY => RT.fin hco hk0 hk hC hB hS q1 q2 hB2 (by omega) (X := X) (Y := Y) hX hY
      rw [← hw2]
      -- the class's form
      have FX : (if wh1.1 = (3 : Int32) then
          if wh2.1 = (3 : Int32) then
            if wh2.2.2.2.2.2.1 = (-1 : Int32) then (tm1, wh2, ag1, pn1)
            else ((fT_goOnTo k wc tc tm1 wh2 (fT_planAll k wc tc tm1 wh2 ag1 pn1 ca cf sl sh) pn1 ca cf sl sh tm1.1).1, (fT_goOnTo k wc tc tm1 wh2 (fT_planAll k wc tc tm1 wh2 ag1 pn1 ca cf sl sh) pn1 ca cf sl sh tm1.1).2.1, (fT_goOnTo k wc tc tm1 wh2 (fT_planAll k wc tc tm1 wh2 ag1 pn1 ca cf sl sh) pn1 ca cf sl sh tm1.1).2.2.1, (fT_goOnTo k wc tc tm1 wh2 (fT_planAll k wc tc tm1 wh2 ag1 pn1 ca cf sl sh) pn1 ca cf sl sh tm1.1).2.2.2)
          else
            if wh2.2.2.2.2.2.1 = (-1 : Int32) then ((fT_shutDown k wc tc tm1 wh2 ag1 pn1 ca cf sl sh).1, wh2, (fT_shutDown k wc tc tm1 wh2 ag1 pn1 ca cf sl sh).2.1, (fT_shutDown k wc tc tm1 wh2 ag1 pn1 ca cf sl sh).2.2)
            else ((fT_goOnTo k wc tc (fT_shutDown k wc tc tm1 wh2 ag1 pn1 ca cf sl sh).1 wh2 (fT_planAll k wc tc (fT_shutDown k wc tc tm1 wh2 ag1 pn1 ca cf sl sh).1 wh2 (fT_shutDown k wc tc tm1 wh2 ag1 pn1 ca cf sl sh).2.1 (fT_shutDown k wc tc tm1 wh2 ag1 pn1 ca cf sl sh).2.2 ca cf sl sh) (fT_shutDown k wc tc tm1 wh2 ag1 pn1 ca cf sl sh).2.2 ca cf sl sh (fT_shutDown k wc tc tm1 wh2 ag1 pn1 ca cf sl sh).1.1).1, (fT_goOnTo k wc tc (fT_shutDown k wc tc tm1 wh2 ag1 pn1 ca cf sl sh).1 wh2 (fT_planAll k wc tc (fT_shutDown k wc tc tm1 wh2 ag1 pn1 ca cf sl sh).1 wh2 (fT_shutDown k wc tc tm1 wh2 ag1 pn1 ca cf sl sh).2.1 (fT_shutDown k wc tc tm1 wh2 ag1 pn1 ca cf sl sh).2.2 ca cf sl sh) (fT_shutDown k wc tc tm1 wh2 ag1 pn1 ca cf sl sh).2.2 ca cf sl sh (fT_shutDown k wc tc tm1 wh2 ag1 pn1 ca cf sl sh).1.1).2.1, (fT_goOnTo k wc tc (fT_shutDown k wc tc tm1 wh2 ag1 pn1 ca cf sl sh).1 wh2 (fT_planAll k wc tc (fT_shutDown k wc tc tm1 wh2 ag1 pn1 ca cf sl sh).1 wh2 (fT_shutDown k wc tc tm1 wh2 ag1 pn1 ca cf sl sh).2.1 (fT_shutDown k wc tc tm1 wh2 ag1 pn1 ca cf sl sh).2.2 ca cf sl sh) (fT_shutDown k wc tc tm1 wh2 ag1 pn1 ca cf sl sh).2.2 ca cf sl sh (fT_shutDown k wc tc tm1 wh2 ag1 pn1 ca cf sl sh).1.1).2.2.1, (fT_goOnTo k wc tc (fT_shutDown k wc tc tm1 wh2 ag1 pn1 ca cf sl sh).1 wh2 (fT_planAll k wc tc (fT_shutDown k wc tc tm1 wh2 ag1 pn1 ca cf sl sh).1 wh2 (fT_shutDown k wc tc tm1 wh2 ag1 pn1 ca cf sl sh).2.1 (fT_shutDown k wc tc tm1 wh2 ag1 pn1 ca cf sl sh).2.2 ca cf sl sh) (fT_shutDown k wc tc tm1 wh2 ag1 pn1 ca cf sl sh).2.2 ca cf sl sh (fT_shutDown k wc tc tm1 wh2 ag1 pn1 ca cf sl sh).1.1).2.2.2)
        else
          if wh2.2.2.2.2.2.1 = (-1 : Int32) then (tm1, wh2, ag1, pn1)
          else ((fT_goOnTo k wc tc tm1 wh2 (fT_planAll k wc tc tm1 wh2 ag1 pn1 ca cf sl sh) pn1 ca cf sl sh tm1.1).1, (fT_goOnTo k wc tc tm1 wh2 (fT_planAll k wc tc tm1 wh2 ag1 pn1 ca cf sl sh) pn1 ca cf sl sh tm1.1).2.1, (fT_goOnTo k wc tc tm1 wh2 (fT_planAll k wc tc tm1 wh2 ag1 pn1 ca cf sl sh) pn1 ca cf sl sh tm1.1).2.2.1, (fT_goOnTo k wc tc tm1 wh2 (fT_planAll k wc tc tm1 wh2 ag1 pn1 ca cf sl sh) pn1 ca cf sl sh tm1.1).2.2.2)) = (if wh2.2.2.2.2.2.1 = (-1 : Int32) then (T3.1, wh2, T3.2.1, T3.2.2) else fT_goOnTo k wc tc T3.1 wh2 (fT_planAll k wc tc T3.1 wh2 T3.2.1 T3.2.2 ca cf sl sh) T3.2.2 ca cf sl sh T3.1.1) := by
        by_cases c3 : wh1.1 = (3 : Int32)
        · by_cases c4 : wh2.1 = (3 : Int32)
          · have hn : ¬ (wh1.1 = (3 : Int32) ∧ ¬ wh2.1 = (3 : Int32)) := fun z => z.2 c4
            rw [if_neg hn] at hT3
            rw [hT3, if_pos c3, if_pos c4]
          · have hn : wh1.1 = (3 : Int32) ∧ ¬ wh2.1 = (3 : Int32) := ⟨c3, c4⟩
            rw [if_pos hn] at hT3
            rw [hT3, if_pos c3, if_neg c4]
        · have hn : ¬ (wh1.1 = (3 : Int32) ∧ ¬ wh2.1 = (3 : Int32)) := fun z => c3 z.1
          rw [if_neg hn] at hT3
          rw [hT3, if_neg c3]
      have FY : (if (mw1.1 - mw1.2.2.1) < ((2 : Int64) * mw1.2.2.2.1) then
          if ((2 : Int64) * (mw1.1 - mw1.2.2.1)) ≤ mw1.2.2.2.1 then
            (fun q6 : MwT × MeT × MoT => if q6.1.2.2.2.2.1 = (3 : Int32) then if q6.1.2.2.2.2.2.2.1 < 0 then fM_advance k mc q6.1 mp q6.2.1 q6.2.2 ms q6.1.1 else fM_advance k mc q6.1 mp (fM_planAll k mc q6.1 mp q6.2.1 q6.2.2 ms) q6.2.2 ms q6.1.1 else fM_advance k mc q6.1 mp q6.2.1 q6.2.2 ms q6.1.1) (fM_lose k mc (mw1.1, mw1.2.1, mw1.1, mw1.2.2.2.1, mw1.2.2.2.2.1, mw1.2.2.2.2.2.1, mw1.2.2.2.2.2.2.1, mw1.2.2.2.2.2.2.2) mp me1 mo1 ms (1 : Int32))
          else
            (fun q6 : MwT × MeT × MoT => if q6.1.2.2.2.2.1 = (3 : Int32) then if q6.1.2.2.2.2.2.2.1 < 0 then fM_advance k mc q6.1 mp q6.2.1 q6.2.2 ms q6.1.1 else fM_advance k mc q6.1 mp (fM_planAll k mc q6.1 mp q6.2.1 q6.2.2 ms) q6.2.2 ms q6.1.1 else fM_advance k mc q6.1 mp q6.2.1 q6.2.2 ms q6.1.1) (fM_plainInterval k mc (mw1.1, mw1.2.1, mw1.1, mw1.2.2.2.1, mw1.2.2.2.2.1, mw1.2.2.2.2.2.1, mw1.2.2.2.2.2.2.1, mw1.2.2.2.2.2.2.2) mp me1 mo1 ms (mw1.1 - mw1.2.2.1))
        else
          (fun q6 : MwT × MeT × MoT => if q6.1.2.2.2.2.1 = (3 : Int32) then if q6.1.2.2.2.2.2.2.1 < 0 then fM_advance k mc q6.1 mp q6.2.1 q6.2.2 ms q6.1.1 else fM_advance k mc q6.1 mp (fM_planAll k mc q6.1 mp q6.2.1 q6.2.2 ms) q6.2.2 ms q6.1.1 else fM_advance k mc q6.1 mp q6.2.1 q6.2.2 ms q6.1.1) (fM_longInterval k mc (mw1.1, mw1.2.1, mw1.1, mw1.2.2.2.1, mw1.2.2.2.2.1, mw1.2.2.2.2.2.1, mw1.2.2.2.2.2.2.1, mw1.2.2.2.2.2.2.2) mp me1 mo1 ms (mw1.1 - mw1.2.2.1))) = (if Z.1.2.2.2.2.1 = (3 : Int32) then if Z.1.2.2.2.2.2.2.1 < 0 then fM_advance k mc Z.1 mp Z.2.1 Z.2.2 ms Z.1.1 else fM_advance k mc Z.1 mp (fM_planAll k mc Z.1 mp Z.2.1 Z.2.2 ms) Z.2.2 ms Z.1.1 else fM_advance k mc Z.1 mp Z.2.1 Z.2.2 ms Z.1.1) := by
        rw [hZ]
        by_cases c3 : (mw1.1 - mw1.2.2.1) < ((2 : Int64) * mw1.2.2.2.1)
        · rw [if_pos c3, if_pos c3]
          by_cases c4 : ((2 : Int64) * (mw1.1 - mw1.2.2.1)) ≤ mw1.2.2.2.1
          · rw [if_pos c4, if_pos c4]
          · rw [if_neg c4, if_neg c4]
        · rw [if_neg c3, if_neg c3]
      obtain ⟨r2, d1, d2⟩ := key _ FX _ FY
      exact ⟨r2, by omega, d2⟩

/-! pure: what a tooth makes of the wheel -/
theorem n_01 : ¬ (0 : Int32) = (1 : Int32) := by decide
theorem n_02 : ¬ (0 : Int32) = (2 : Int32) := by decide
theorem n_03 : ¬ (0 : Int32) = (3 : Int32) := by decide
theorem n_10 : ¬ (1 : Int32) = (0 : Int32) := by decide
theorem n_12 : ¬ (1 : Int32) = (2 : Int32) := by decide
theorem n_13 : ¬ (1 : Int32) = (3 : Int32) := by decide
theorem n_20 : ¬ (2 : Int32) = (0 : Int32) := by decide
theorem n_21 : ¬ (2 : Int32) = (1 : Int32) := by decide
theorem n_23 : ¬ (2 : Int32) = (3 : Int32) := by decide
theorem n_30 : ¬ (3 : Int32) = (0 : Int32) := by decide
theorem n_31 : ¬ (3 : Int32) = (1 : Int32) := by decide
theorem n_32 : ¬ (3 : Int32) = (2 : Int32) := by decide
theorem n_m0 : ¬ (-1 : Int32) = (0 : Int32) := by decide
theorem n_m1 : ¬ (-1 : Int32) = (1 : Int32) := by decide
/-- wheels that have lost or seek -/
theorem RWh.low {p : Nat} {ph : Int32} (hph : ph = 0 ∨ ph = (1 : Int32)) (lat un : Int64) (to_ cm cs : Int32) : RWh p (ph, (1 : Int32), lat, un, (-1 : Int32), (-1 : Int32), cm) ((1 : Int32), lat, un, ph, to_, (-1 : Int32), cs) := by
  refine ⟨rfl, rfl, rfl, rfl, rfl, ?_, fun z => absurd z n_10, ?_, fun _ => rfl, fun _ => rfl, Or.inl rfl, fun z => absurd z n_m0, Or.inr rfl⟩
  · rcases hph with rfl | rfl
    · exact Or.inl rfl
    · exact Or.inr (Or.inl rfl)
  · rcases hph with rfl | rfl
    · rintro (z | z)
      · exact absurd z n_02
      · exact absurd z n_03
    · rintro (z | z)
      · exact absurd z n_12
      · exact absurd z n_13
theorem RWh.high {p : Nat} {ph : Int32} (hph : ph = (2 : Int32) ∨ ph = (3 : Int32)) (lat un : Int64) {t : Nat} (ht : t ≤ p - 3) (rd cm cs : Int32) (h1 : ¬ ph = (3 : Int32) → rd = (-1 : Int32)) (h2 : rd = (-1 : Int32) ∨ rd = 0 ∨ rd = (1 : Int32)) (h3 : rd = 0 → (cm = 0 ↔ cs = 0)) : RWh p (ph, (1 : Int32), lat, un, nI t, rd, cm) ((1 : Int32), lat, un, ph, nI t, rd, cs) := by
  refine ⟨rfl, rfl, rfl, rfl, rfl, ?_, fun z => absurd z n_10, fun _ => ⟨t, ht, rfl, rfl⟩, ?_, h1, h2, h3, Or.inr rfl⟩
  · rcases hph with rfl | rfl
    · exact Or.inr (Or.inr (Or.inl rfl))
    · exact Or.inr (Or.inr (Or.inr rfl))
  · rcases hph with rfl | rfl
    · rintro (z | z)
      · exact absurd z n_20
      · exact absurd z n_21
    · rintro (z | z)
      · exact absurd z n_30
      · exact absurd z n_31
set_option maxHeartbeats 2000000 in
theorem tooth_eq {k p B r : Nat} {wc : WcT} {tc : TcT} {mc : McT} (hco : CO p wc tc mc) (hk : k ≤ 6) {mp : MpT} {ms : MsT} {tm : TmT} {wh : WhT} {ag : AgT} {pn : PnT} {mw : MwT} {me : MeT} {mo : MoT} (h : RT k p B r tm wh ag pn mw me mo) (ca cf : ChT) (sl sh : SnT) {a b : Nat} (hb : mw.1 = lN b) (ha : wh.2.2.1 = lN a) (hab : a < b) (hbB : b ≤ B) (hB : B < 2 ^ 40) (hek : ¬ mw.2.1 = 0) (hph0 : ¬ wh.1 = 0) {wh2 : WhT} (hw2 : wh2 = fW_meetTooth wc wh tm.1) {T3 : TmT × AgT × PnT} (hT3 : T3 = if wh.1 = (3 : Int32) ∧ ¬ wh2.1 = (3 : Int32) then fT_shutDown k wc tc tm wh2 ag pn ca cf sl sh else (tm, ag, pn)) {Z : MwT × MeT × MoT}
    (hZ : Z = if (mw.1 - mw.2.2.1) < ((2 : Int64) * mw.2.2.2.1) then (if ((2 : Int64) * (mw.1 - mw.2.2.1)) ≤ mw.2.2.2.1 then fM_lose k mc (mw.1, mw.2.1, mw.1, mw.2.2.2.1, mw.2.2.2.2.1, mw.2.2.2.2.2.1, mw.2.2.2.2.2.2.1, mw.2.2.2.2.2.2.2) mp me mo ms (1 : Int32) else fM_plainInterval k mc (mw.1, mw.2.1, mw.1, mw.2.2.2.1, mw.2.2.2.2.1, mw.2.2.2.2.2.1, mw.2.2.2.2.2.2.1, mw.2.2.2.2.2.2.2) mp me mo ms (mw.1 - mw.2.2.1)) else fM_longInterval k mc (mw.1, mw.2.1, mw.1, mw.2.2.2.1, mw.2.2.2.2.1, mw.2.2.2.2.2.1, mw.2.2.2.2.2.2.1, mw.2.2.2.2.2.2.2) mp me mo ms (mw.1 - mw.2.2.1)) :
    RT k p B r T3.1 wh2 T3.2.1 T3.2.2 Z.1 Z.2.1 Z.2.2 ∧ wh2.2.2.1 = Z.1.1 := by
  obtain ⟨a1, a2, a3, a4, a5, a6, a7, a8⟩ := id h
  obtain ⟨w1, w2, w3, w4, w5, w6, w7, w8, w9, w10, w11, w12, w13⟩ := id a3
  obtain ⟨p1, p2, e1, e2, e3, -⟩ := hco
  obtain ⟨ph, ek, lat, pc, no, rd, cm⟩ := wh
  obtain ⟨now, any, lat2, un, st, to_, tu, cs⟩ := mw
  dsimp only at *
  subst w1 w2 w3 w4 w5
  have ek1 : ek = 1 := w13.resolve_left hek
  subst ek1
  have hg : now - lat = lN (b - a) := by rw [hb, ha, lN_sub (by omega)]
  have hd1 : 1 ≤ b - a := by omega
  have hgt : tm.1 - lat = lN (b - a) := by rw [a1]; exact hg
  unfold fW_meetTooth at hw2
  dsimp only at hw2
  rw [if_neg n_10, hgt, a1] at hw2
  unfold fW_measure at hw2
  dsimp only at hw2
  rw [if_neg hph0] at hw2
  rw [hg] at hZ
  by_cases c1 : lN (b - a) < (2 : Int64) * pc
  · rw [if_pos c1] at hw2 hZ
    by_cases c2 : (2 : Int64) * lN (b - a) ≤ pc
    · rw [if_pos c2] at hw2 hZ
      -- lost
      have hw2 : wh2 = ((0 : Int32), (1 : Int32), now, (0 : Int64), (-1 : Int32), (-1 : Int32), cm) := hw2
      have hW : RWh p wh2 ((1 : Int32), now, (0 : Int64), (0 : Int32), to_, (-1 : Int32), cs) := by rw [hw2]; exact RWh.low (Or.inl rfl) _ _ _ _ _
      have hT : RTm B now wh2 := by rw [hw2]; exact ⟨b, b, 0, hb, hb, rfl, Nat.le_refl _, hbB, by omega, fun _ => rfl, fun z => absurd rfl z⟩
      have hn3 : ¬ wh2.1 = (3 : Int32) := by rw [hw2]; exact n_03
      unfold fM_lose at hZ
      dsimp only at hZ
      by_cases c3 : ph = (3 : Int32)
      · rw [if_pos c3] at hZ
        rw [if_pos ⟨c3, hn3⟩] at hT3
        rw [hT3, hZ]
        exact ⟨h.cease hk wh2 (now, (1 : Int32), now, (0 : Int64), (0 : Int32), to_, (-1 : Int32), cs) rfl hW hT mc mp ms wc tc ca cf sl sh, by rw [hw2]⟩
      · rw [if_neg c3] at hZ
        rw [if_neg (fun z => c3 z.1)] at hT3
        rw [hT3, hZ]
        exact ⟨h.stay wh2 (now, (1 : Int32), now, (0 : Int64), (0 : Int32), to_, (-1 : Int32), cs) rfl hW hT (fun _ => c3), by rw [hw2]⟩
    · rw [if_neg c2] at hw2 hZ
      -- plain
      unfold fW_passPlain at hw2
      dsimp only at hw2
      unfold fM_plainInterval at hZ
      dsimp only at hZ
      have hTm : ∀ (q : Int32) (no2 rd2 cm2 : Int32), ¬ q = 0 → RTm B now (q, (1 : Int32), now, lN (b - a), no2, rd2, cm2) := fun q no2 rd2 cm2 hq => ⟨b, b, b - a, hb, hb, rfl, Nat.le_refl _, hbB, by omega, fun z => absurd z hq, fun _ => hd1⟩
      by_cases c3 : ph = (1 : Int32)
      · rw [if_pos c3] at hw2 hZ
        subst c3
        have hno := w9 (Or.inr rfl)
        have hrd := w10 n_13
        subst hno
        subst hrd
        have hw2 : wh2 = ((1 : Int32), (1 : Int32), now, lN (b - a), (-1 : Int32), (-1 : Int32), cm) := hw2
        rw [if_neg (fun z => n_13 z.1)] at hT3
        rw [hT3, hZ, hw2]
        exact ⟨h.stay _ (now, (1 : Int32), now, lN (b - a), (1 : Int32), to_, (-1 : Int32), cs) rfl (RWh.low (Or.inr rfl) _ _ _ _ _) (hTm _ _ _ _ n_10) (fun _ => n_13), rfl⟩
      · rw [if_neg c3] at hw2 hZ
        have hph : ph = (2 : Int32) ∨ ph = (3 : Int32) := by
          rcases w6 with z | z | z | z
          · exact absurd z hph0
          · exact absurd z c3
          · exact Or.inl z
          · exact Or.inr z
        obtain ⟨t, t1, t2, t3⟩ := w8 hph
        subst t2
        subst t3
        rw [e1] at hw2
        rw [e2] at hZ
        dsimp only at hw2
        by_cases c4 : nI (p - 3) ≤ nI t
        · rw [if_pos c4] at hw2 hZ
          have hw2 : wh2 = ((1 : Int32), (1 : Int32), now, lN (b - a), (-1 : Int32), (-1 : Int32), cm) := hw2
          have hn3 : ¬ wh2.1 = (3 : Int32) := by rw [hw2]; exact n_13
          by_cases c5 : ph = (3 : Int32)
          · rw [if_pos c5] at hZ
            rw [if_pos ⟨c5, hn3⟩] at hT3
            rw [hT3, hZ]
            exact ⟨h.cease hk wh2 (now, (1 : Int32), now, lN (b - a), (1 : Int32), nI t, (-1 : Int32), cs) rfl (by rw [hw2]; exact RWh.low (Or.inr rfl) _ _ _ _ _) (by rw [hw2]; exact hTm _ _ _ _ n_10) mc mp ms wc tc ca cf sl sh, by rw [hw2]⟩
          · rw [if_neg c5] at hZ
            rw [if_neg (fun z => c5 z.1)] at hT3
            rw [hT3, hZ, hw2]
            exact ⟨h.stay _ (now, (1 : Int32), now, lN (b - a), (1 : Int32), nI t, (-1 : Int32), cs) rfl (RWh.low (Or.inr rfl) _ _ _ _ _) (hTm _ _ _ _ n_10) (fun _ => c5), rfl⟩
        · rw [if_neg c4] at hw2 hZ
          have hlt : t + 1 ≤ p - 3 := by
            rcases Nat.lt_or_ge t (p - 3) with z | z
            · exact z
            · exact absurd (nI_le z (by omega)) c4
          rw [nI_1] at hw2 hZ
          have hw2 : wh2 = (ph, (1 : Int32), now, lN (b - a), nI (t + 1), rd, cm) := hw2
          have h3 : ¬ (ph = (3 : Int32) ∧ ¬ wh2.1 = (3 : Int32)) := by rw [hw2]; exact fun z => z.2 z.1
          rw [if_neg h3] at hT3
          rw [hT3, hZ, hw2]
          exact ⟨h.stay _ (now, (1 : Int32), now, lN (b - a), ph, nI (t + 1), rd, cs) rfl (RWh.high hph _ _ hlt _ _ _ w10 w11 w12) (hTm _ _ _ _ hph0) (fun z => z), rfl⟩
  · rw [if_neg c1] at hw2 hZ
    -- a gap
    obtain ⟨u, u1, u2, u3⟩ := mx3_val (d := b - a) (B := B) hd1 (by omega) (by omega)
    obtain ⟨v1, v2, v3, v4⟩ := long_val k mc mp me mo ms now (1 : Int32) now pc ph to_ rd cs (lN (b - a))
    rw [u3] at v1 v2 v3 v4
    unfold fW_passGap at hw2
    dsimp only at hw2
    rw [u3, e1] at hw2
    dsimp only at hw2
    have hTm : ∀ (q : Int32) (no2 rd2 cm2 : Int32), ¬ q = 0 → RTm B now (q, (1 : Int32), now, lN u, no2, rd2, cm2) := fun q no2 rd2 cm2 hq => ⟨b, b, u, hb, hb, rfl, Nat.le_refl _, hbB, u2, fun z => absurd z hq, fun _ => u1⟩
    have hz0 : (0 : Int32) = nI 0 := rfl
    by_cases c3 : ph = (1 : Int32)
    · subst c3
      have hno := w9 (Or.inr rfl)
      subst hno
      have hne : ¬ (-1 : Int32) = nI (p - 3) := by
        intro z
        have : ¬ nI (p - 3) < 0 := nI_pos (by omega)
        rw [← z] at this
        exact this (by decide)
      rw [if_neg hne] at hw2
      have hw2 : wh2 = ((2 : Int32), (1 : Int32), now, lN u, (0 : Int32), (-1 : Int32), (0 : Int32)) := hw2
      rw [v4 (Or.inl rfl)] at hZ
      rw [if_neg (fun z => n_13 z.1)] at hT3
      rw [hT3, hZ, hw2]
      exact ⟨h.stay _ (now, (1 : Int32), now, lN u, (2 : Int32), (0 : Int32), (-1 : Int32), cs) rfl (RWh.high (t := 0) (Or.inl rfl) _ _ (by omega) _ _ _ (fun _ => rfl) (Or.inl rfl) (fun z => absurd z n_m0)) (hTm _ _ _ _ n_20) (fun _ => n_13), rfl⟩
    · have hph : ph = (2 : Int32) ∨ ph = (3 : Int32) := by
        rcases w6 with z | z | z | z
        · exact absurd z hph0
        · exact absurd z c3
        · exact Or.inl z
        · exact Or.inr z
      obtain ⟨t, t1, t2, t3⟩ := w8 hph
      subst t2
      subst t3
      by_cases c4 : nI t = nI (p - 3)
      · rw [if_pos c4] at hw2
        have c4m : nI t = mc.1 := by rw [e2]; exact c4
        unfold fW_roundAfterGap at hw2
        dsimp only at hw2
        rcases hph with rfl | rfl
        · have hrd := w10 n_23
          subst hrd
          rw [if_pos rfl] at hw2
          have hw2 : wh2 = ((3 : Int32), (1 : Int32), now, lN u, (0 : Int32), (-1 : Int32), (0 : Int32)) := hw2
          rw [v3 rfl c4m] at hZ
          rw [if_neg (fun z => n_23 z.1)] at hT3
          rw [hT3, hZ, hw2]
          exact ⟨h.stay _ (now, (1 : Int32), now, lN u, (3 : Int32), (0 : Int32), (-1 : Int32), cs) rfl (RWh.high (t := 0) (Or.inr rfl) _ _ (by omega) _ _ _ (fun _ => rfl) (Or.inl rfl) (fun z => absurd z n_m0)) (hTm _ _ _ _ n_30) (fun _ => n_23), rfl⟩
        · rw [v1 rfl c4m] at hZ
          have fin : ∀ rd2 cs2 : Int32, wh2 = ((3 : Int32), (1 : Int32), now, lN u, (0 : Int32), rd2, (0 : Int32)) → Z = ((now, (1 : Int32), now, lN u, (3 : Int32), (0 : Int32), rd2, cs2), me, mo) → (rd2 = (-1 : Int32) ∨ rd2 = 0 ∨ rd2 = (1 : Int32)) → (rd2 = 0 → cs2 = 0) → RT k p B r T3.1 wh2 T3.2.1 T3.2.2 Z.1 Z.2.1 Z.2.2 ∧ wh2.2.2.1 = Z.1.1 := by
            intro rd2 cs2 q1 q2 q3 q4
            have h3 : ¬ ((3 : Int32) = (3 : Int32) ∧ ¬ wh2.1 = (3 : Int32)) := by rw [q1]; exact fun z => z.2 z.1
            rw [if_neg h3] at hT3
            rw [hT3, q2, q1]
            exact ⟨h.stay _ (now, (1 : Int32), now, lN u, (3 : Int32), (0 : Int32), rd2, cs2) rfl (RWh.high (t := 0) (Or.inr rfl) _ _ (by omega) _ _ _ (fun z => absurd rfl z) q3 (fun z => ⟨fun _ => q4 z, fun _ => rfl⟩)) (hTm _ _ _ _ n_30) (fun z => z), rfl⟩
          rcases w11 with rfl | rfl | rfl
          · rw [if_pos rfl] at hw2
            simp only [if_neg n_m1, if_neg n_m0] at hZ
            exact fin _ _ hw2 hZ (Or.inl rfl) (fun z => absurd z n_m0)
          · rw [if_neg (show ¬ (0 : Int32) = (-1 : Int32) by decide), if_pos rfl] at hw2
            simp only [if_neg n_01, if_true] at hZ
            by_cases c5 : cm = 0
            · rw [if_pos c5] at hw2
              simp only [if_pos ((w12 rfl).mp c5)] at hZ
              exact fin _ _ hw2 hZ (Or.inl rfl) (fun z => absurd z n_m0)
            · rw [if_neg c5] at hw2
              simp only [if_neg (fun z => c5 ((w12 rfl).mpr z))] at hZ
              exact fin _ _ hw2 hZ (Or.inr (Or.inr rfl)) (fun z => absurd z n_10)
          · rw [if_neg (show ¬ (1 : Int32) = (-1 : Int32) by decide), if_neg n_10] at hw2
            simp only [if_true] at hZ
            exact fin _ _ hw2 hZ (Or.inr (Or.inl rfl)) (fun _ => rfl)
      · rw [if_neg c4] at hw2
        have c4m : ¬ nI t = mc.1 := by rw [e2]; exact c4
        have hw2 : wh2 = ((2 : Int32), (1 : Int32), now, lN u, (0 : Int32), (-1 : Int32), (0 : Int32)) := hw2
        have hW : RWh p wh2 ((1 : Int32), now, lN u, (2 : Int32), (0 : Int32), (-1 : Int32), cs) := by
          rw [hw2]
          exact RWh.high (t := 0) (Or.inl rfl) _ _ (by omega) _ _ _ (fun _ => rfl) (Or.inl rfl) (fun z => absurd z n_m0)
        have hn3 : ¬ wh2.1 = (3 : Int32) := by rw [hw2]; exact n_23
        rcases hph with rfl | rfl
        · rw [v4 (Or.inr ⟨rfl, c4m⟩)] at hZ
          rw [if_neg (fun z => n_23 z.1)] at hT3
          rw [hT3, hZ]
          exact ⟨h.stay _ (now, (1 : Int32), now, lN u, (2 : Int32), (0 : Int32), (-1 : Int32), cs) rfl hW (by rw [hw2]; exact hTm _ _ _ _ n_20) (fun _ => n_23), by rw [hw2]⟩
        · rw [v2 rfl c4m] at hZ
          rw [if_pos ⟨rfl, hn3⟩] at hT3
          rw [hT3, hZ]
          exact ⟨h.cease hk wh2 (now, (1 : Int32), now, lN u, (2 : Int32), (0 : Int32), (-1 : Int32), cs) rfl hW (by rw [hw2]; exact hTm _ _ _ _ n_20) mc mp ms wc tc ca cf sl sh, by rw [hw2]⟩

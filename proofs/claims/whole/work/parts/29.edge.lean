/-! pure: the whole relation, and an edge -/
abbrev WrT : Type := Int32 × Int64 × Int64 × Int32 × Int32 × Int32 × Int32
def CaB (ca : ChT) : Prop := ∀ i, i < 64 → ∃ v, v ≤ 2047 ∧ ca i = nI v
def RWh (p : Nat) (wh : WhT) (wr : WrT) : Prop :=
  wh.2.1 = wr.1 ∧ wh.2.2.1 = wr.2.1 ∧ wh.2.2.2.1 = wr.2.2.1 ∧ wh.1 = wr.2.2.2.1 ∧ wh.2.2.2.2.2.1 = wr.2.2.2.2.2.1 ∧
  (wh.1 = 0 ∨ wh.1 = (1 : Int32) ∨ wh.1 = (2 : Int32) ∨ wh.1 = (3 : Int32)) ∧ (wh.2.1 = 0 → wh.1 = 0) ∧
  ((wh.1 = (2 : Int32) ∨ wh.1 = (3 : Int32)) → ∃ t, t ≤ p - 3 ∧ wh.2.2.2.2.1 = nI t ∧ wr.2.2.2.2.1 = nI t) ∧
  ((wh.1 = 0 ∨ wh.1 = (1 : Int32)) → wh.2.2.2.2.1 = (-1 : Int32)) ∧
  (¬ wh.1 = (3 : Int32) → wh.2.2.2.2.2.1 = (-1 : Int32)) ∧
  (wh.2.2.2.2.2.1 = (-1 : Int32) ∨ wh.2.2.2.2.2.1 = 0 ∨ wh.2.2.2.2.2.1 = (1 : Int32)) ∧
  (wh.2.2.2.2.2.1 = 0 → (wh.2.2.2.2.2.2 = 0 ↔ wr.2.2.2.2.2.2 = 0)) ∧ (wh.2.1 = 0 ∨ wh.2.1 = (1 : Int32))
def RTm (B : Nat) (now : Int64) (wh : WhT) : Prop := ∃ a b u : Nat, wh.2.2.1 = lN a ∧ now = lN b ∧ wh.2.2.2.1 = lN u ∧ a ≤ b ∧ b ≤ B ∧ u ≤ B ∧ (wh.1 = 0 → u = 0) ∧ (¬ wh.1 = 0 → 1 ≤ u)
def RT (k p B r : Nat) (tm : TmT) (wh : WhT) (ag : AgT) (pn : PnT) (mw : MwT) (me : MeT) (mo : MoT) : Prop :=
  tm.1 = mw.1 ∧ tm.2 = mo.2.2.2.2 ∧ RWh p wh mw.2 ∧ RTm B mw.1 wh ∧ RE k ag me r ∧ RP pn mo ∧ (¬ wh.1 = (3 : Int32) → ∀ e, e < 30 → me.1 e = 0) ∧ (∀ e, e < 30 → ¬ me.1 e = 0 → mw.1 < me.2.1 e)
theorem limit_eq {sl sh : SnT} {ms : MsT} (hS : RSS sl sh ms) (k : Nat) (wc : WcT) (tc : TcT) (tm : TmT) (wh : WhT) (ag : AgT) (pn : PnT) (ca cf : ChT) (mc : McT) (mw : MwT) (mp : MpT) (me : MeT) (mo : MoT) : fM_planAll k mc mw mp me mo ms = fM_planAll_j k mc mw mp me mo ms (fT_paceLimit k wc tc tm wh ag pn ca cf sl sh) (fM_present k mc mw mp me mo ms (0 : Int32)) := by
  have h1 := hS.1.2.2.2.1
  have h2 := hS.2.2.2.2.1
  have h3 := val1 hS.2 k mc mw mp me mo
  unfold fM_planAll fT_paceLimit
  dsimp only
  rw [h1, h2, h3]
  by_cases c1 : ms.2.2.2.2.2.1 0 = 0
  · rw [if_pos c1, if_pos c1]
    by_cases c2 : ms.2.2.2.2.2.1 1 = 0
    · rw [if_pos c2, if_pos c2]
      by_cases c3 : fM_valueOf k mc mw mp me mo ms 1 ≤ (110 : Int32)
      · rw [if_pos c3, if_pos c3]
      · rw [if_neg c3, if_neg c3]
    · rw [if_neg c2, if_neg c2]
  · rw [if_neg c1, if_neg c1]
theorem lN_nneg {u : Nat} (h : u < 2 ^ 62) : ¬ lN u < 0 := by
  intro z
  have z : lN u < lN 0 := z
  rw [pk_lLT (by omega) (by omega)] at z
  omega
theorem planAll_eq {k p : Nat} {wc : WcT} {tc : TcT} {mc : McT} (hco : CO p wc tc mc) (hk0 : 0 < k) (hk : k ≤ 6) {ca cf : ChT} {mp : MpT} {sl sh : SnT} {ms : MsT} (hC : RCh ca cf mp) (hB : CaB ca) (hS : RSS sl sh ms) {tm : TmT} {wh : WhT} {mw : MwT} (h6 : tm.1 = mw.1) (hW : RWh p wh mw.2) (h0 : ¬ mw.2.2.2.1 < 0) (hr : ¬ wh.2.2.2.2.2.1 = (-1 : Int32)) {ag : AgT} {me : MeT} {r : Nat} (hE : RE k ag me r) (pn : PnT) (mo : MoT) : ∃ r2, r2 ≤ r + 18 ∧ RE k (fT_planAll k wc tc tm wh ag pn ca cf sl sh) (fM_planAll k mc mw mp me mo ms) r2 := by
  obtain ⟨w1, w2, w3, w4, w5, w6, w7, w8, w9, w10, w11, w12, w13⟩ := hW
  have ph : wh.1 = (3 : Int32) := Classical.byContradiction (fun z => hr (w10 z))
  obtain ⟨t, t1, t2, t3⟩ := w8 (Or.inr ph)
  have hρ : ∃ ρ, ρ ≤ 1 ∧ wh.2.2.2.2.2.1 = nI ρ := by
    rcases w11 with h | h | h
    · exact absurd h hr
    · exact ⟨0, by decide, h⟩
    · exact ⟨1, by decide, h⟩
  obtain ⟨ρ, r1, r2⟩ := hρ
  have pr := (pres hC hS k wc tc tm wh ag pn mc mw me mo w3 h0).1
  obtain ⟨v, v1, v2, v3⟩ := at_small hB (2047 : Int32) (fW_speed wc wh) (((7 : Int32) * (fS_reading lc (400 : Int32) sl)) / (4 : Int32))
  have v4 : (fM_present k mc mw mp me mo ms (0 : Int32)).toInt = v := by rw [← pr]; exact v3
  rw [limit_eq hS k wc tc tm wh ag pn ca cf mc mw mp me mo]
  unfold fT_planAll fM_planAll_j
  dsimp only
  rw [pr, w3]
  have key := fun slow => planl_eq hco r1 t1 r2 t2 (w5 ▸ r2) t3 w3 h6 hk0 hk pn ca cf sl sh mp mo ms v4 v1 v2 slow k 0 ag me r (by omega) hE
  by_cases c : mw.2.2.2.1 < (fT_paceLimit k wc tc tm wh ag pn ca cf sl sh).toInt64
  · rw [if_pos c, if_pos c]
    obtain ⟨r3, a1, a2⟩ := key 0
    exact ⟨r3, by omega, a2⟩
  · rw [if_neg c, if_neg c]
    obtain ⟨r3, a1, a2⟩ := key 1
    exact ⟨r3, by omega, a2⟩
/-- time goes on, in the words of the whole relation -/
theorem RT.go {k p B r : Nat} {wc : WcT} {tc : TcT} {mc : McT} (hco : CO p wc tc mc) (hk0 : 0 < k) (hk : k ≤ 6) {ca cf : ChT} {mp : MpT} {sl sh : SnT} {ms : MsT} (hC : RCh ca cf mp) (hS : RSS sl sh ms) {tm : TmT} {wh : WhT} {ag : AgT} {pn : PnT} {mw : MwT} {me : MeT} {mo : MoT} (hts : tm.2 = mo.2.2.2.2) (hW : RWh p wh mw.2) (hT : RTm B mw.1 wh) (hE : RE k ag me r) (hP : RP pn mo) (hun : ¬ wh.1 = (3 : Int32) → ∀ e, e < 30 → me.1 e = 0) {b b2 B2 : Nat} (hb : mw.1 = lN b) (hbb : b ≤ b2) (hB : b2 ≤ B2) (hBB : B ≤ B2) (hB2 : B2 < 2 ^ 40) (hr : r + 70 < 2 ^ 30) :
    ∃ r2, r2 ≤ r + 60 ∧ RT k p B2 r2 (fT_goOnTo k wc tc tm wh ag pn ca cf sl sh (lN b2)).1 (fT_goOnTo k wc tc tm wh ag pn ca cf sl sh (lN b2)).2.1 (fT_goOnTo k wc tc tm wh ag pn ca cf sl sh (lN b2)).2.2.1 (fT_goOnTo k wc tc tm wh ag pn ca cf sl sh (lN b2)).2.2.2 (fM_advance k mc mw mp me mo ms (lN b2)).1 (fM_advance k mc mw mp me mo ms (lN b2)).2.1 (fM_advance k mc mw mp me mo ms (lN b2)).2.2 ∧ (fT_goOnTo k wc tc tm wh ag pn ca cf sl sh (lN b2)).1.1 = lN b2 ∧ (fT_goOnTo k wc tc tm wh ag pn ca cf sl sh (lN b2)).2.1.2.2.1 = wh.2.2.1 := by
  obtain ⟨a, b', u, t1, t2, t3, t4, t5, t6, t7, t8⟩ := hT
  have ebb : b' = b := by
    have : lN b' = lN b := by rw [← t2, hb]
    rwa [pk_lEQ (by omega) (by omega)] at this
  subst ebb
  obtain ⟨w1, w2, w3, w4, w5, w6, w7, w8, w9, w10, w11, w12, w13⟩ := id hW
  have h0 : ¬ mw.2.2.2.1 < 0 := by rw [← w3, t3]; exact lN_nneg (by omega)
  obtain ⟨r2, stl, g0, -, g1, g2, g3, g4, g5, g6, g7⟩ := go_eq wc (wr := mw.2) (lN b2) hk0 hk hC hS w2 w3 h0 w4 hco.2.2.2.2.2.2.1 tm ag pn mw.1 me mo r hts hE hP hun hr
  have em : fM_advance k mc (mw.1, mw.2) mp me mo ms (lN b2) = fM_advance k mc mw mp me mo ms (lN b2) := rfl
  rw [em] at g2 g3 g4 g5 g6 g7
  rcases g7 with ⟨s1, s2, s3⟩ | ⟨s1, s2, s3⟩
  · refine ⟨r2, g0, ⟨?_, g2, ?_, ?_, g3, g4, ?_, ?_⟩, g1, by rw [s2]⟩
    · rw [g1, s3]
    · rw [s2, s3]; exact hW
    · rw [s2, s3]; exact ⟨a, b2, u, t1, rfl, t3, by omega, hB, by omega, t7, t8⟩
    · rw [s2]; exact fun z => g6 (Or.inl z)
    · rw [s3]; exact g5
  · have all0 := g6 (Or.inr s1)
    refine ⟨r2, g0, ⟨?_, g2, ?_, ?_, g3, g4, fun _ => all0, fun e he hne => absurd (all0 e he) hne⟩, g1, by rw [s2]; rfl⟩
    · rw [g1, s3]
    · rw [s2, s3]
      refine ⟨rfl, w2, rfl, rfl, rfl, Or.inl rfl, fun _ => rfl, ?_, fun _ => rfl, fun _ => rfl, Or.inl rfl, ?_, Or.inl rfl⟩
      · rintro (z | z)
        · exact absurd (show (0 : Int32) = (2 : Int32) from z) (by decide)
        · exact absurd (show (0 : Int32) = (3 : Int32) from z) (by decide)
      · intro z; exact absurd (show (-1 : Int32) = (0 : Int32) from z) (by decide)
    · rw [s2, s3]
      exact ⟨a, b2, 0, t1, rfl, rfl, by omega, hB, by omega, fun _ => rfl, fun z => absurd rfl z⟩
/-- a tooth's end: what is planned, and what fires at once -/
theorem RT.fin {k p B r : Nat} {wc : WcT} {tc : TcT} {mc : McT} (hco : CO p wc tc mc) (hk0 : 0 < k) (hk : k ≤ 6) {ca cf : ChT} {mp : MpT} {sl sh : SnT} {ms : MsT} (hC : RCh ca cf mp) (hB : CaB ca) (hS : RSS sl sh ms) {tm : TmT} {wh : WhT} {ag : AgT} {pn : PnT} {mw : MwT} {me : MeT} {mo : MoT} (h : RT k p B r tm wh ag pn mw me mo) (hln : wh.2.2.1 = mw.1) (hB2 : B < 2 ^ 40) (hr : r + 100 < 2 ^ 30) {X : TmT × WhT × AgT × PnT} {Y : MwT × MeT × MoT}
    (hX : X = if wh.2.2.2.2.2.1 = (-1 : Int32) then (tm, wh, ag, pn) else fT_goOnTo k wc tc tm wh (fT_planAll k wc tc tm wh ag pn ca cf sl sh) pn ca cf sl sh tm.1)
    (hY : Y = if mw.2.2.2.2.1 = (3 : Int32) then (if mw.2.2.2.2.2.2.1 < 0 then fM_advance k mc mw mp me mo ms mw.1 else fM_advance k mc mw mp (fM_planAll k mc mw mp me mo ms) mo ms mw.1) else fM_advance k mc mw mp me mo ms mw.1) :
    ∃ r2, r2 ≤ r + 78 ∧ RT k p B r2 X.1 X.2.1 X.2.2.1 X.2.2.2 Y.1 Y.2.1 Y.2.2 := by
  obtain ⟨a1, a2, a3, a4, a5, a6, a7, a8⟩ := id h
  obtain ⟨w1, w2, w3, w4, w5, w6, w7, w8, w9, w10, w11, w12, w13⟩ := id a3
  obtain ⟨a, b, u, t1, t2, t3, t4, t5, t6, t7, t8⟩ := id a4
  have h0 : ¬ mw.2.2.2.1 < 0 := by rw [← w3, t3]; exact lN_nneg (by omega)
  by_cases c : wh.2.2.2.2.2.1 = (-1 : Int32)
  · rw [if_pos c] at hX
    have hY2 : Y = fM_advance k mc mw mp me mo ms mw.1 := by
      rw [hY]
      by_cases c1 : mw.2.2.2.2.1 = (3 : Int32)
      · rw [if_pos c1, if_pos (by rw [← w5, c]; exact neg_m1)]
      · rw [if_neg c1]
    have hn : fM_nextEvent k mc mw mp me mo ms < 0 ∨ ∃ e, e < 30 ∧ fM_nextEvent k mc mw mp me mo ms = nI e ∧ mw.1 < me.2.1 e := by
      rcases next_eq a5 (by omega) hk0 hk mw.1 mc mw mp mo ms with ⟨b1, b2, b3⟩ | ⟨i, c, b1, b2, b3, b4, b5, b6, b7⟩
      · rcases b3 with h | ⟨e, h1, h2, h3⟩
        · exact Or.inl h
        · exact Or.inr ⟨e, h1, h2, a8 e h1 h3⟩
      · exact Or.inr ⟨6 * i + c, by omega, b4, a8 _ (by omega) b5⟩
    have hst : mw.2.2.2.1 ≤ (0 : Int64) ∨ mw.1 < stv mw.2 := by
      by_cases ph : wh.1 = 0
      · left; rw [← w3, t3, t7 ph]; decide
      · right
        have hu := t8 ph
        show mw.1 < mw.2.2.1 + ((5 : Int64) * mw.2.2.2.1)
        rw [← w2, ← w3, hln, t3, t2, show (5 : Int64) = lN 5 from rfl, lN_mul, lN_add, pk_lLT (by omega) (by omega)]
        omega
    have e : fM_advance k mc mw mp me mo ms mw.1 = ((mw.1, mw.2), me, mo) := adv_stop k mc mp ms mw.1 999 0 mw.1 mw.2 me mo hst hn
    rw [hX, hY2, e]
    exact ⟨r, by omega, h⟩
  · rw [if_neg c] at hX
    have ph : wh.1 = (3 : Int32) := Classical.byContradiction (fun z => c (w10 z))
    have tn : ¬ mw.2.2.2.2.2.2.1 < 0 := by
      rw [← w5]
      rcases w11 with h | h | h
      · exact absurd h c
      · rw [h]; decide
      · rw [h]; decide
    rw [if_pos (w4 ▸ ph), if_neg tn] at hY
    obtain ⟨r1, b1, b2⟩ := planAll_eq hco hk0 hk hC hB hS a1 a3 h0 c a5 pn mo
    obtain ⟨r2, d1, d2, -, -⟩ := RT.go hco hk0 hk hC hS a2 a3 a4 b2 a6 (fun z => absurd ph z) (b := b) (b2 := b) (B2 := B) t2 (Nat.le_refl _) t5 (Nat.le_refl _) hB2 (by omega)
    rw [← t2] at d2
    rw [hX, hY, a1]
    exact ⟨r2, by omega, d2⟩

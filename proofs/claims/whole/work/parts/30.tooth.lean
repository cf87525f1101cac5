/-! pure: a tooth, case by case -/
theorem mx3 (g : Int64) : ((1 : Int64) ≤ g / (3 : Int64) → fJ_maxJ (1 : Int64) (g / (3 : Int64)) = g / (3 : Int64)) ∧ (¬ (1 : Int64) ≤ g / (3 : Int64) → fJ_maxJ (1 : Int64) (g / (3 : Int64)) = (1 : Int64)) := by
  unfold fJ_maxJ
  constructor
  · intro h
    by_cases c : (1 : Int64) < g / (3 : Int64)
    · rw [if_pos c]
    · rw [if_neg c]; exact Int64.le_antisymm h (Int64.not_lt.mp c)
  · intro h
    rw [if_neg (fun z => h (Int64.le_of_lt z))]
theorem mx3_val {d B : Nat} (h1 : 1 ≤ d) (h2 : d ≤ B) (hB : B < 2 ^ 41) : ∃ u, 1 ≤ u ∧ u ≤ B ∧ fJ_maxJ (1 : Int64) (lN d / (3 : Int64)) = lN u := by
  have e : lN d / (3 : Int64) = lN (d / 3) := lN_div (b := 3) (by omega) (by decide) (by decide)
  unfold fJ_maxJ
  rw [e]
  by_cases c : (1 : Int64) < lN (d / 3)
  · rw [if_pos c]
    have c : lN 1 < lN (d / 3) := c
    rw [pk_lLT (by omega) (by omega)] at c
    exact ⟨d / 3, by omega, by omega, rfl⟩
  · rw [if_neg c]; exact ⟨1, by omega, by omega, rfl⟩
/-- a long interval, in the reference -/
theorem long_val (k : Nat) (mc : McT) (mp : MpT) (me : MeT) (mo : MoT) (ms : MsT) (now : Int64) (any : Int32) (lat un : Int64) (st tooth turn cam : Int32) (g : Int64) :
    (st = (3 : Int32) → tooth = mc.1 → fM_longInterval k mc (now, any, lat, un, st, tooth, turn, cam) mp me mo ms g = ((now, any, lat, fJ_maxJ (1 : Int64) (g / (3 : Int64)), (3 : Int32), (0 : Int32), if turn = (1 : Int32) then (0 : Int32) else if turn = 0 then (if cam = 0 then (-1 : Int32) else (1 : Int32)) else turn, if turn = (1 : Int32) then (0 : Int32) else cam), me, mo)) ∧
    (st = (3 : Int32) → ¬ tooth = mc.1 → fM_longInterval k mc (now, any, lat, un, st, tooth, turn, cam) mp me mo ms g = ((now, any, lat, fJ_maxJ (1 : Int64) (g / (3 : Int64)), (2 : Int32), (0 : Int32), (-1 : Int32), cam), (fM_cease k mc (now, any, lat, fJ_maxJ (1 : Int64) (g / (3 : Int64)), (2 : Int32), (0 : Int32), (-1 : Int32), cam) mp me mo ms).1, (fM_cease k mc (now, any, lat, fJ_maxJ (1 : Int64) (g / (3 : Int64)), (2 : Int32), (0 : Int32), (-1 : Int32), cam) mp me mo ms).2)) ∧
    (st = (2 : Int32) → tooth = mc.1 → fM_longInterval k mc (now, any, lat, un, st, tooth, turn, cam) mp me mo ms g = ((now, any, lat, fJ_maxJ (1 : Int64) (g / (3 : Int64)), (3 : Int32), (0 : Int32), (-1 : Int32), cam), me, mo)) ∧
    ((st = (1 : Int32) ∨ (st = (2 : Int32) ∧ ¬ tooth = mc.1)) → fM_longInterval k mc (now, any, lat, un, st, tooth, turn, cam) mp me mo ms g = ((now, any, lat, fJ_maxJ (1 : Int64) (g / (3 : Int64)), (2 : Int32), (0 : Int32), (-1 : Int32), cam), me, mo)) := by
  have n31 : ¬ (3 : Int32) = (1 : Int32) := by decide
  have n23 : ¬ (2 : Int32) = (3 : Int32) := by decide
  have n21 : ¬ (2 : Int32) = (1 : Int32) := by decide
  have n13 : ¬ (1 : Int32) = (3 : Int32) := by decide
  have m := mx3 g
  refine ⟨?_, ?_, ?_, ?_⟩
  · rintro rfl rfl
    unfold fM_longInterval
    simp only [if_true, if_neg n31]
    by_cases c : (1 : Int64) ≤ g / (3 : Int64)
    · rw [m.1 c]
      simp only [if_pos c]
      by_cases c1 : turn = (1 : Int32)
      · simp only [if_pos c1]
      · simp only [if_neg c1]
        by_cases c2 : turn = 0
        · simp only [if_pos c2]
          by_cases c3 : cam = 0
          · simp only [if_pos c3]
          · simp only [if_neg c3]
        · simp only [if_neg c2]
    · rw [m.2 c]
      simp only [if_neg c]
      by_cases c1 : turn = (1 : Int32)
      · simp only [if_pos c1]
      · simp only [if_neg c1]
        by_cases c2 : turn = 0
        · simp only [if_pos c2]
          by_cases c3 : cam = 0
          · simp only [if_pos c3]
          · simp only [if_neg c3]
        · simp only [if_neg c2]
  · rintro rfl ht
    unfold fM_longInterval
    simp only [if_true, if_neg n31, if_neg ht]
    by_cases c : (1 : Int64) ≤ g / (3 : Int64)
    · rw [m.1 c]; simp only [if_pos c]
    · rw [m.2 c]; simp only [if_neg c]
  · rintro rfl rfl
    unfold fM_longInterval
    simp only [if_true, if_neg n23, if_neg n21]
    by_cases c : (1 : Int64) ≤ g / (3 : Int64)
    · rw [m.1 c]; simp only [if_pos c]
    · rw [m.2 c]; simp only [if_neg c]
  · rintro (rfl | ⟨rfl, ht⟩)
    · unfold fM_longInterval
      simp only [if_true, if_neg n13]
      by_cases c : (1 : Int64) ≤ g / (3 : Int64)
      · rw [m.1 c]; simp only [if_pos c]
      · rw [m.2 c]; simp only [if_neg c]
    · unfold fM_longInterval
      simp only [if_neg n23, if_neg n21, if_neg ht]
      by_cases c : (1 : Int64) ≤ g / (3 : Int64)
      · rw [m.1 c]; simp only [if_pos c]
      · rw [m.2 c]; simp only [if_neg c]
/-- shutting down, in the words of the relation -/
theorem RT.cease {k p B B2 r : Nat} {tm : TmT} {wh : WhT} {ag : AgT} {pn : PnT} {mw : MwT} {me : MeT} {mo : MoT} (h : RT k p B r tm wh ag pn mw me mo) (hk : k ≤ 6) (wh2 : WhT) (mw2 : MwT) (hn : mw2.1 = mw.1) (hW : RWh p wh2 mw2.2) (hT : RTm B2 mw2.1 wh2) (mc : McT) (mp : MpT) (ms : MsT) (wc : WcT) (tc : TcT) (ca cf : ChT) (sl sh : SnT) :
    RT k p B2 r (fT_shutDown k wc tc tm wh2 ag pn ca cf sl sh).1 wh2 (fT_shutDown k wc tc tm wh2 ag pn ca cf sl sh).2.1 (fT_shutDown k wc tc tm wh2 ag pn ca cf sl sh).2.2 mw2 (fM_cease k mc mw2 mp me mo ms).1 (fM_cease k mc mw2 mp me mo ms).2 := by
  obtain ⟨a1, a2, a3, a4, a5, a6, a7, a8⟩ := h
  obtain ⟨g1, g2, g3, g4⟩ := cease_eq a5 a6 hk mc mw2 mp ms
  unfold fT_shutDown
  dsimp only
  rw [a1, ← hn]
  refine ⟨rfl, ?_, hW, hT, g1, g2, fun _ => g4, fun e he hne => absurd (g4 e he) hne⟩
  show (tm.2.1, tm.2.2.1, tm.2.2.2 + (1 : Int32)) = _
  rw [g3, a2]
theorem RT.stay {k p B B2 r : Nat} {tm : TmT} {wh : WhT} {ag : AgT} {pn : PnT} {mw : MwT} {me : MeT} {mo : MoT} (h : RT k p B r tm wh ag pn mw me mo) (wh2 : WhT) (mw2 : MwT) (hn : mw2.1 = mw.1) (hW : RWh p wh2 mw2.2) (hT : RTm B2 mw2.1 wh2) (hp : ¬ wh2.1 = (3 : Int32) → ¬ wh.1 = (3 : Int32)) : RT k p B2 r tm wh2 ag pn mw2 me mo := by
  obtain ⟨a1, a2, a3, a4, a5, a6, a7, a8⟩ := h
  exact ⟨a1.trans hn.symm, a2, hW, hT, a5, a6, fun z => a7 (hp z), fun e he hne => by rw [hn]; exact a8 e he hne⟩

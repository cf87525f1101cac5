/-! pure: time goes on -/
def stv (wr : Int32 × Int64 × Int64 × Int32 × Int32 × Int32 × Int32) : Int64 := wr.2.1 + ((5 : Int64) * wr.2.2.1)
def lost (wr : Int32 × Int64 × Int64 × Int32 × Int32 × Int32 × Int32) : Int32 × Int64 × Int64 × Int32 × Int32 × Int32 × Int32 := (0, wr.2.1, 0, 0, wr.2.2.2.2.1, (-1 : Int32), wr.2.2.2.2.2.2)
theorem adv_more0 (k : Nat) (mc : McT) (mp : MpT) (ms : MsT) (en : Int64) (fuel j : Nat) (mw : MwT) (me : MeT) (mo : MoT) : fM_advance_l k mc mp ms en fuel j (0 : Int32) mw me mo = ((en, mw.2), me, mo) := by
  cases fuel with
  | zero => rfl
  | succ n => rw [fM_advance_l, if_pos rfl]
/-- nothing is due, nothing stalls: the reference's loop ends -/
theorem adv_stop (k : Nat) (mc : McT) (mp : MpT) (ms : MsT) (en : Int64) (fuel j : Nat) (t : Int64) (wr : Int32 × Int64 × Int64 × Int32 × Int32 × Int32 × Int32) (me : MeT) (mo : MoT) (hst : wr.2.2.1 ≤ (0 : Int64) ∨ en < stv wr) (hn : fM_nextEvent k mc (t, wr) mp me mo ms < 0 ∨ ∃ e, e < 30 ∧ fM_nextEvent k mc (t, wr) mp me mo ms = nI e ∧ en < me.2.1 e) : fM_advance_l k mc mp ms en (fuel + 1) j (1 : Int32) (t, wr) me mo = ((en, wr), me, mo) := by
  rw [fM_advance_l, if_neg one_ne0]
  dsimp only
  have key : ∀ X : MwT × MeT × MoT, (if fM_nextEvent k mc (t, wr) mp me mo ms < 0 then ((en, wr), me, mo) else if en < me.2.1 (fM_nextEvent k mc (t, wr) mp me mo ms).toNatClampNeg then ((en, wr), me, mo) else X) = ((en, wr), me, mo) := by
    intro X
    rcases hn with h | ⟨e, he, h1, h2⟩
    · rw [if_pos h]
    · by_cases c : fM_nextEvent k mc (t, wr) mp me mo ms < 0
      · rw [if_pos c]
      · rw [if_neg c, h1, nI_clamp (by omega), if_pos h2]
  by_cases c1 : wr.2.2.1 ≤ (0 : Int64)
  · rw [if_pos c1, adv_more0]; exact key _
  · rw [if_neg c1]
    have c2 : en < wr.2.1 + ((5 : Int64) * wr.2.2.1) := hst.resolve_left c1
    rw [if_pos c2, adv_more0]; exact key _
/-- nothing is due up to the stall: the reference loses -/
theorem adv_lose (k : Nat) (mc : McT) (mp : MpT) (ms : MsT) (en : Int64) (fuel j : Nat) (t : Int64) (wr : Int32 × Int64 × Int64 × Int32 × Int32 × Int32 × Int32) (me : MeT) (mo : MoT) (h1 : ¬ wr.2.2.1 ≤ (0 : Int64)) (h2 : ¬ en < stv wr) (hn : fM_nextEvent k mc (t, wr) mp me mo ms < 0 ∨ ∃ e, e < 30 ∧ fM_nextEvent k mc (t, wr) mp me mo ms = nI e ∧ stv wr < me.2.1 e) : fM_advance_l k mc mp ms en (fuel + 1) j (1 : Int32) (t, wr) me mo = fM_advance_l k mc mp ms en fuel (j + 1) (1 : Int32) (fM_lose k mc (stv wr, wr) mp me mo ms (0 : Int32)).1 (fM_lose k mc (stv wr, wr) mp me mo ms (0 : Int32)).2.1 (fM_lose k mc (stv wr, wr) mp me mo ms (0 : Int32)).2.2 := by
  rw [fM_advance_l, if_neg one_ne0]
  dsimp only
  have h2' : ¬ en < wr.2.1 + ((5 : Int64) * wr.2.2.1) := h2
  rw [if_neg h1, if_neg h2']
  rcases hn with h | ⟨e, he, g1, g2⟩
  · rw [if_pos h]; rfl
  · have c : ¬ fM_nextEvent k mc (t, wr) mp me mo ms < 0 := by rw [g1]; exact nI_pos (by omega)
    rw [if_neg c, g1, nI_clamp (by omega)]
    by_cases c2 : en < me.2.1 e
    · rw [if_pos c2]; rfl
    · rw [if_neg c2, if_pos (show wr.2.1 + ((5 : Int64) * wr.2.2.1) < me.2.1 e from g2)]; rfl
theorem adv_fire (k : Nat) (mc : McT) (mp : MpT) (ms : MsT) (en last : Int64) (fuel j : Nat) (t : Int64) (wr : Int32 × Int64 × Int64 × Int32 × Int32 × Int32 × Int32) (me : MeT) (mo : MoT) (hst : (last = en ∧ (wr.2.2.1 ≤ (0 : Int64) ∨ en < stv wr)) ∨ (last = stv wr ∧ ¬ wr.2.2.1 ≤ (0 : Int64) ∧ ¬ en < stv wr)) {e : Nat} (he : e < 30) (hn : fM_nextEvent k mc (t, wr) mp me mo ms = nI e) (hd : ¬ last < me.2.1 e) : fM_advance_l k mc mp ms en (fuel + 1) j (1 : Int32) (t, wr) me mo = fM_advance_l k mc mp ms en fuel (j + 1) (1 : Int32) (me.2.1 e, wr) (fM_fire k mc (me.2.1 e, wr) mp me mo ms e).1 (fM_fire k mc (me.2.1 e, wr) mp me mo ms e).2 := by
  rw [fM_advance_l, if_neg one_ne0]
  dsimp only
  have c : ¬ fM_nextEvent k mc (t, wr) mp me mo ms < 0 := by rw [hn]; exact nI_pos (by omega)
  rw [hn] at c ⊢
  have ec : (nI e).toNatClampNeg = e := nI_clamp (by omega)
  simp only [ec, if_neg c]
  rcases hst with ⟨h1, h2⟩ | ⟨h1, h2, h3⟩
  · rw [h1] at hd
    simp only [if_neg hd]
    by_cases c1 : wr.2.2.1 ≤ (0 : Int64)
    · rw [if_pos c1]
    · rw [if_neg c1, if_pos (show en < wr.2.1 + ((5 : Int64) * wr.2.2.1) from h2.resolve_left c1)]
  · rw [h1] at hd
    have hd2 : ¬ en < me.2.1 e := by
      intro z
      apply hd
      rw [Int64.lt_iff_toInt_lt] at *
      omega
    rw [if_neg h2, if_neg (show ¬ en < wr.2.1 + ((5 : Int64) * wr.2.2.1) from h3), if_neg hd2, if_neg (show ¬ wr.2.1 + ((5 : Int64) * wr.2.2.1) < me.2.1 e from hd)]
def gPost (k : Nat) (wc : WcT) (wh : WhT) (wr : Int32 × Int64 × Int64 × Int32 × Int32 × Int32 × Int32) (stl : Int32) (en : Int64) (r2 : Nat) (X : TmT × WhT × AgT × PnT) (Y : MwT × MeT × MoT) : Prop :=
  X.1.1 = en ∧ X.1.2 = Y.2.2.2.2.2.2 ∧ RE k X.2.2.1 Y.2.1 r2 ∧ RP X.2.2.2 Y.2.2 ∧ (∀ e, e < 30 → ¬ Y.2.1.1 e = 0 → en < Y.2.1.2.1 e) ∧ (¬ wh.1 = (3 : Int32) ∨ ¬ stl = 0 → ∀ e, e < 30 → Y.2.1.1 e = 0) ∧
  ((stl = 0 ∧ X.2.1 = wh ∧ Y.1 = (en, wr)) ∨ (¬ stl = 0 ∧ X.2.1 = fW_stand wc wh ∧ Y.1 = (en, lost wr)))
theorem none_all (k : Nat) (mc : McT) (mw : MwT) (mp : MpT) (me : MeT) (mo : MoT) (ms : MsT) (h : ∀ e, e < 30 → me.1 e = 0) : fM_nextEvent k mc mw mp me mo ms < 0 := by
  have hM := nx_l k mc mw mp me mo ms 30 0 (-1 : Int32) rfl (Or.inl ⟨rfl, fun e he => by omega⟩)
  have hM : (fM_nextEvent k mc mw mp me mo ms = (-1 : Int32) ∧ ∀ e, e < 30 → me.1 e = 0) ∨ ∃ b, fM_nextEvent k mc mw mp me mo ms = nI b ∧ Fst (fun e => ¬ me.1 e = 0) (Ls me.2.1 me.2.2.1) 30 b := hM
  rcases hM with ⟨h1, -⟩ | ⟨b, -, h2⟩
  · rw [h1]; exact neg_m1
  · exact absurd (h b h2.1) h2.2.1
theorem lose_val (k : Nat) (mc : McT) (mp : MpT) (ms : MsT) (wr : Int32 × Int64 × Int64 × Int32 × Int32 × Int32 × Int32) (me : MeT) (mo : MoT) : (wr.2.2.2.1 = (3 : Int32) → fM_lose k mc (stv wr, wr) mp me mo ms (0 : Int32) = ((stv wr, lost wr), (fM_cease k mc (stv wr, lost wr) mp me mo ms).1, (fM_cease k mc (stv wr, lost wr) mp me mo ms).2)) ∧ (¬ wr.2.2.2.1 = (3 : Int32) → fM_lose k mc (stv wr, wr) mp me mo ms (0 : Int32) = ((stv wr, lost wr), me, mo)) := by
  constructor
  · intro h
    unfold fM_lose
    rw [if_pos (show (stv wr, wr).2.2.2.2.1 = (3 : Int32) from h)]; rfl
  · intro h
    unfold fM_lose
    rw [if_neg (show ¬ (stv wr, wr).2.2.2.2.1 = (3 : Int32) from h)]; rfl
theorem loop_end {k : Nat} {ca cf : ChT} {mp : MpT} {sl sh : SnT} {ms : MsT} {wh : WhT} {mc : McT} {tc : TcT} (wc : WcT) {wr : Int32 × Int64 × Int64 × Int32 × Int32 × Int32 × Int32} {en last : Int64} {stl : Int32}
    (hk : k ≤ 6) (hph : wh.1 = wr.2.2.2.1)
    (hst : (stl = 0 ∧ last = en ∧ (wr.2.2.1 ≤ (0 : Int64) ∨ en < stv wr)) ∨ (¬ stl = 0 ∧ last = stv wr ∧ ¬ wr.2.2.1 ≤ (0 : Int64) ∧ ¬ en < stv wr))
    (tm : TmT) (ag : AgT) (pn : PnT) (t : Int64) (me : MeT) (mo : MoT) (r : Nat) (hts : tm.2 = mo.2.2.2.2) (hE : RE k ag me r) (hP : RP pn mo) (hun : ¬ wh.1 = (3 : Int32) → ∀ e, e < 30 → me.1 e = 0)
    (hF : fA_firstUntil k ag last = (-1 : Int32)) (hW : ∀ e, e < 30 → ¬ me.1 e = 0 → last < me.2.1 e) (hn : fM_nextEvent k mc (t, wr) mp me mo ms < 0 ∨ ∃ e, e < 30 ∧ fM_nextEvent k mc (t, wr) mp me mo ms = nI e ∧ ¬ me.1 e = 0) (fT fM iT iM : Nat) :
    gPost k wc wh wr stl en r (fT_goOnTo_l k wc tc wh ca cf sl sh en (fT + 1) iT stl last tm ag pn) (fM_advance_l k mc mp ms en (fM + 3) iM (1 : Int32) (t, wr) me mo) := by
  have hn2 : fM_nextEvent k mc (t, wr) mp me mo ms < 0 ∨ ∃ e, e < 30 ∧ fM_nextEvent k mc (t, wr) mp me mo ms = nI e ∧ last < me.2.1 e := by
    rcases hn with h | ⟨e, h1, h2, h3⟩
    · exact Or.inl h
    · exact Or.inr ⟨e, h1, h2, hW e h1 h3⟩
  rw [fT_goOnTo_l]
  dsimp only
  rw [if_pos hF]
  rcases hst with ⟨s1, s2, s3⟩ | ⟨s1, s2, s3, s4⟩
  · rw [if_pos s1]
    rw [s2] at hW hn2
    rw [adv_stop k mc mp ms en (fM + 2) iM t wr me mo s3 hn2]
    exact ⟨rfl, hts, hE, hP, hW, fun h => h.elim hun (fun z => absurd s1 z), Or.inl ⟨s1, rfl, rfl⟩⟩
  · rw [if_neg s1]
    rw [s2] at hn2 ⊢
    rw [adv_lose k mc mp ms en (fM + 2) iM t wr me mo s3 s4 hn2]
    obtain ⟨l1, l2⟩ := lose_val k mc mp ms wr me mo
    by_cases c : wh.1 = (3 : Int32)
    · rw [l1 (hph ▸ c)]
      obtain ⟨g1, g2, g3, g4⟩ := cease_eq hE hP hk mc (stv wr, lost wr) mp ms
      rw [adv_stop k mc mp ms en (fM + 1) (iM + 1) (stv wr) (lost wr) _ _ (Or.inl (by show (0 : Int64) ≤ 0; decide)) (Or.inl (none_all k mc _ mp _ _ ms g4))]
      unfold fT_stall
      rw [if_pos c]
      unfold fT_shutDown
      refine ⟨rfl, ?_, g1, g2, fun e he hne => absurd (g4 e he) hne, fun _ => g4, Or.inr ⟨s1, rfl, rfl⟩⟩
      show (tm.2.1, tm.2.2.1, tm.2.2.2 + (1 : Int32)) = (fM_cease k mc (stv wr, lost wr) mp me mo ms).2.2.2.2.2
      rw [g3, hts]
    · rw [l2 (fun z => c (hph.trans z))]
      rw [adv_stop k mc mp ms en (fM + 1) (iM + 1) (stv wr) (lost wr) _ _ (Or.inl (by show (0 : Int64) ≤ 0; decide)) (Or.inl (none_all k mc _ mp _ _ ms (hun c)))]
      unfold fT_stall
      rw [if_neg c]
      exact ⟨rfl, hts, hE, hP, fun e he hne => absurd (hun c e he) hne, fun _ => hun c, Or.inr ⟨s1, rfl, rfl⟩⟩
set_option maxHeartbeats 1000000 in
theorem loop_eq {k : Nat} {ca cf : ChT} {mp : MpT} {sl sh : SnT} {ms : MsT} {wh : WhT} {mc : McT} {tc : TcT} (wc : WcT) {wr : Int32 × Int64 × Int64 × Int32 × Int32 × Int32 × Int32} {en last : Int64} {stl : Int32}
    (hk0 : 0 < k) (hk : k ≤ 6) (hC : RCh ca cf mp) (hS : RSS sl sh ms) (hp : wh.2.2.2.1 = wr.2.2.1) (h0 : ¬ wr.2.2.1 < 0) (hph : wh.1 = wr.2.2.2.1) (hd : tc.2 = mc.2.2.1)
    (hst : (stl = 0 ∧ last = en ∧ (wr.2.2.1 ≤ (0 : Int64) ∨ en < stv wr)) ∨ (¬ stl = 0 ∧ last = stv wr ∧ ¬ wr.2.2.1 ≤ (0 : Int64) ∧ ¬ en < stv wr)) :
    ∀ (n : Nat) (tm : TmT) (ag : AgT) (pn : PnT) (t : Int64) (me : MeT) (mo : MoT) (r : Nat), tm.2 = mo.2.2.2.2 → RE k ag me r → RP pn mo → (¬ wh.1 = (3 : Int32) → ∀ e, e < 30 → me.1 e = 0) → ws wp me.1 30 ≤ n → r + n + 2 < 2 ^ 30 → ∀ (fT fM iT iM : Nat), n < fT → n + 3 ≤ fM →
      ∃ r2, r2 ≤ r + n ∧ gPost k wc wh wr stl en r2 (fT_goOnTo_l k wc tc wh ca cf sl sh en fT iT stl last tm ag pn) (fM_advance_l k mc mp ms en fM iM (1 : Int32) (t, wr) me mo) := by
  have hst2 : (last = en ∧ (wr.2.2.1 ≤ (0 : Int64) ∨ en < stv wr)) ∨ (last = stv wr ∧ ¬ wr.2.2.1 ≤ (0 : Int64) ∧ ¬ en < stv wr) := by
    rcases hst with ⟨-, s2, s3⟩ | ⟨-, s2, s3, s4⟩
    · exact Or.inl ⟨s2, s3⟩
    · exact Or.inr ⟨s2, s3, s4⟩
  intro n
  induction n with
  | zero =>
    intro tm ag pn t me mo r hts hE hP hun hw hr fT fM iT iM hfT hfM
    obtain ⟨fT, rfl⟩ : ∃ f, fT = f + 1 := ⟨fT - 1, by omega⟩
    obtain ⟨fM, rfl⟩ : ∃ f, fM = f + 3 := ⟨fM - 3, by omega⟩
    rcases next_eq hE (by omega) hk0 hk last mc (t, wr) mp mo ms with ⟨a1, a2, a3⟩ | ⟨i, c, a1, a2, a3, a4, a5, a6, a7⟩
    · exact ⟨r, by omega, loop_end wc hk hph hst tm ag pn t me mo r hts hE hP hun a1 a2 a3 fT fM iT iM⟩
    · exfalso
      have hz : ws wp me.1 30 = 0 := by omega
      exact a5 (ws_z wp me.1 (fun e => by unfold wp; split <;> decide) 30 hz _ (by omega))
  | succ n ih =>
    intro tm ag pn t me mo r hts hE hP hun hw hr fT fM iT iM hfT hfM
    obtain ⟨fT, rfl⟩ : ∃ f, fT = f + 1 := ⟨fT - 1, by omega⟩
    rcases next_eq hE (by omega) hk0 hk last mc (t, wr) mp mo ms with ⟨a1, a2, a3⟩ | ⟨i, c, a1, a2, a3, a4, a5, a6, a7⟩
    · obtain ⟨fM, rfl⟩ : ∃ f, fM = f + 3 := ⟨fM - 3, by omega⟩
      exact ⟨r, by omega, loop_end wc hk hph hst tm ag pn t me mo r hts hE hP hun a1 a2 a3 fT fM iT iM⟩
    · obtain ⟨fM, rfl⟩ : ∃ f, fM = f + 1 := ⟨fM - 1, by omega⟩
      have plt := pl_lt a1 a2
      rw [adv_fire k mc mp ms en last fM iM t wr me mo hst2 (e := 6 * i + c) (by omega) a4 a7]
      rw [fT_goOnTo_l]
      dsimp only
      have hne : ¬ nI (i * k + c) = (-1 : Int32) := k_neg1 (nI_pos (by omega))
      rw [a3, if_neg hne, nI_clamp (by omega)]
      obtain ⟨r2, b1, b2, b3, b4, b5, b6⟩ := fire_eq (tm := tm) (mw := (t, wr)) (tc := tc) (mc := mc) (wh := wh) wc hk0 hk hC hS hE hP hp h0 hts hd a1 a2 a5 a6 (me.2.1 (6 * i + c), wr) rfl
      obtain ⟨r3, d1, d2⟩ := ih _ _ _ (me.2.1 (6 * i + c)) _ _ r2 b5 b2 b3 (fun z => absurd (hun z _ (by omega)) a5) (by omega) (by omega) fT fM (iT + 1) (iM + 1) (by omega) (by omega)
      exact ⟨r3, by omega, d2⟩

/-- time goes on, both sides -/
theorem go_eq {k : Nat} {ca cf : ChT} {mp : MpT} {sl sh : SnT} {ms : MsT} {wh : WhT} {mc : McT} {tc : TcT} (wc : WcT) {wr : Int32 × Int64 × Int64 × Int32 × Int32 × Int32 × Int32} (en : Int64)
    (hk0 : 0 < k) (hk : k ≤ 6) (hC : RCh ca cf mp) (hS : RSS sl sh ms) (hl : wh.2.2.1 = wr.2.1) (hp : wh.2.2.2.1 = wr.2.2.1) (h0 : ¬ wr.2.2.1 < 0) (hph : wh.1 = wr.2.2.2.1) (hd : tc.2 = mc.2.2.1)
    (tm : TmT) (ag : AgT) (pn : PnT) (t : Int64) (me : MeT) (mo : MoT) (r : Nat) (hts : tm.2 = mo.2.2.2.2) (hE : RE k ag me r) (hP : RP pn mo) (hun : ¬ wh.1 = (3 : Int32) → ∀ e, e < 30 → me.1 e = 0) (hr : r + 70 < 2 ^ 30) :
    ∃ r2 stl, r2 ≤ r + 60 ∧ (stl = 0 ∨ ¬ en < stv wr) ∧ gPost k wc wh wr stl en r2 (fT_goOnTo k wc tc tm wh ag pn ca cf sl sh en) (fM_advance k mc (t, wr) mp me mo ms en) := by
  have hw : ws wp me.1 30 ≤ 60 := by
    have := ws_bnd wp me.1 2 (fun e => by unfold wp; split <;> omega) 30
    omega
  have hs : fW_stallTime wc wh = stv wr := by unfold fW_stallTime stv; rw [hl, hp]
  unfold fT_goOnTo fM_advance
  dsimp only
  by_cases c : fW_stallsBy wc wh en = 0
  · rw [if_pos c, c]
    have hst : (wr.2.2.1 ≤ (0 : Int64) ∨ en < stv wr) := by
      unfold fW_stallsBy at c
      rw [hp, hs] at c
      by_cases c1 : wr.2.2.1 ≤ (0 : Int64)
      · exact Or.inl c1
      · right
        rw [if_neg c1] at c
        dsimp only at c
        refine Classical.byContradiction (fun z => ?_)
        rw [if_neg z] at c
        exact absurd c (by decide)
    obtain ⟨r2, d1, d2⟩ := loop_eq wc hk0 hk hC hS hp h0 hph hd (stl := 0) (last := en) (Or.inl ⟨rfl, rfl, hst⟩) 60 tm ag pn t me mo r hts hE hP hun hw (by omega) 1000 1000 0 0 (by omega) (by omega)
    exact ⟨r2, 0, d1, Or.inl rfl, d2⟩
  · rw [if_neg c, hs]
    have hst : ¬ wr.2.2.1 ≤ (0 : Int64) ∧ ¬ en < stv wr := by
      unfold fW_stallsBy at c
      rw [hp, hs] at c
      by_cases c1 : wr.2.2.1 ≤ (0 : Int64)
      · rw [if_pos c1] at c; exact absurd rfl c
      · rw [if_neg c1] at c
        dsimp only at c
        refine ⟨c1, fun z => ?_⟩
        rw [if_pos z] at c
        exact absurd rfl c
    obtain ⟨r2, d1, d2⟩ := loop_eq wc hk0 hk hC hS hp h0 hph hd (stl := fW_stallsBy wc wh en) (last := stv wr) (Or.inr ⟨c, rfl, hst.1, hst.2⟩) 60 tm ag pn t me mo r hts hE hP hun hw (by omega) 1000 1000 0 0 (by omega) (by omega)
    exact ⟨r2, _, d1, Or.inr hst.2, d2⟩

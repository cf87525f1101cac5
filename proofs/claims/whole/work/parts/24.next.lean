/-! pure: which event is next -/
def Fst (S : Nat → Prop) (L : Nat → Nat → Prop) (n b : Nat) : Prop := b < n ∧ S b ∧ (∀ e, e < b → S e → L b e) ∧ (∀ e, b < e → e < n → S e → ¬ L e b)
def Ls (T : Nat → Int64) (N : Nat → Int32) (a b : Nat) : Prop := T a < T b ∨ (T a = T b ∧ N a < N b)
theorem Ls_i {T : Nat → Int64} {N : Nat → Int32} {a b : Nat} : Ls T N a b ↔ (T a).toInt < (T b).toInt ∨ ((T a).toInt = (T b).toInt ∧ (N a).toInt < (N b).toInt) := by
  unfold Ls
  rw [Int64.lt_iff_toInt_lt, Int32.lt_iff_toInt_lt]
  constructor
  · rintro (h | ⟨h1, h2⟩)
    · exact Or.inl h
    · exact Or.inr ⟨by rw [h1], h2⟩
  · rintro (h | ⟨h1, h2⟩)
    · exact Or.inl h
    · exact Or.inr ⟨Int64.toInt_inj.mp h1, h2⟩
theorem Ls_t {T : Nat → Int64} {N : Nat → Int32} {i b e : Nat} (h1 : Ls T N i b) (h2 : Ls T N b e) : Ls T N i e := by
  rw [Ls_i] at *
  omega
theorem Ls_t2 {T : Nat → Int64} {N : Nat → Int32} {i b e : Nat} (h1 : Ls T N i b) (h2 : ¬ Ls T N e b) : Ls T N i e := by
  rw [Ls_i] at *
  omega
theorem Fst.uniq {S : Nat → Prop} {L : Nat → Nat → Prop} {n a b : Nat} (h1 : Fst S L n a) (h2 : Fst S L n b) : a = b := by
  rcases Nat.lt_trichotomy a b with h | h | h
  · exact absurd (h2.2.2.1 a h h1.2.1) (h1.2.2.2 b h h2.1 h2.2.1)
  · exact h
  · exact absurd (h1.2.2.1 b h h2.2.1) (h2.2.2.2 a h h1.1 h1.2.1)
theorem Fst.new0 {S : Nat → Prop} {L : Nat → Nat → Prop} {i : Nat} (h : ∀ e, e < i → ¬ S e) (hi : S i) : Fst S L (i + 1) i :=
  ⟨by omega, hi, fun e he hs => absurd hs (h e he), fun e h1 h2 => by omega⟩
theorem Fst.skip {S : Nat → Prop} {L : Nat → Nat → Prop} {i b : Nat} (h : Fst S L i b) (hi : ¬ S i) : Fst S L (i + 1) b :=
  ⟨by have := h.1; omega, h.2.1, h.2.2.1, fun e h1 h2 hs => by
    by_cases e1 : e = i
    · subst e1; exact absurd hs hi
    · exact h.2.2.2 e h1 (by omega) hs⟩
theorem Fst.keep {S : Nat → Prop} {L : Nat → Nat → Prop} {i b : Nat} (h : Fst S L i b) (hi : ¬ L i b) : Fst S L (i + 1) b :=
  ⟨by have := h.1; omega, h.2.1, h.2.2.1, fun e h1 h2 hs => by
    by_cases e1 : e = i
    · subst e1; exact hi
    · exact h.2.2.2 e h1 (by omega) hs⟩
theorem Fst.new {S : Nat → Prop} {T : Nat → Int64} {N : Nat → Int32} {i b : Nat} (h : Fst S (Ls T N) i b) (hs : S i) (hi : Ls T N i b) : Fst S (Ls T N) (i + 1) i :=
  ⟨by omega, hs, fun e he hse => by
    rcases Nat.lt_trichotomy e b with g | g | g
    · exact Ls_t hi (h.2.2.1 e g hse)
    · subst g; exact hi
    · exact Ls_t2 hi (h.2.2.2 e g he hse), fun e h1 h2 => by omega⟩
theorem neg_m1 : (-1 : Int32) < 0 := by decide
theorem nx_l (k : Nat) (mc : McT) (mw : MwT) (mp : MpT) (me : MeT) (mo : MoT) (ms : MsT) : ∀ (fuel i : Nat) (best : Int32), fuel + i = 30 → ((best = (-1 : Int32) ∧ ∀ e, e < i → me.1 e = 0) ∨ ∃ b, best = nI b ∧ Fst (fun e => ¬ me.1 e = 0) (Ls me.2.1 me.2.2.1) i b) → ((fM_nextEvent_l k mc mw mp me mo ms fuel i best = (-1 : Int32) ∧ ∀ e, e < 30 → me.1 e = 0) ∨ ∃ b, fM_nextEvent_l k mc mw mp me mo ms fuel i best = nI b ∧ Fst (fun e => ¬ me.1 e = 0) (Ls me.2.1 me.2.2.1) 30 b) := by
  intro fuel
  induction fuel with
  | zero =>
    intro i best hm h
    have e : i = 30 := by omega
    subst e
    exact h
  | succ n ih =>
    intro i best hm h
    rw [fM_nextEvent_l]
    by_cases c : me.1 i = 0
    · rw [if_pos c]
      refine ih (i + 1) best (by omega) ?_
      rcases h with ⟨h1, h2⟩ | ⟨b, h1, h2⟩
      · exact Or.inl ⟨h1, fun e he => by
          by_cases e1 : e = i
          · subst e1; exact c
          · exact h2 e (by omega)⟩
      · exact Or.inr ⟨b, h1, h2.skip (fun z => z c)⟩
    · rw [if_neg c]
      rcases h with ⟨h1, h2⟩ | ⟨b, h1, h2⟩
      · rw [h1, if_pos neg_m1]
        exact ih (i + 1) _ (by omega) (Or.inr ⟨i, rfl, Fst.new0 (fun e he z => z (h2 e he)) c⟩)
      · have hb := h2.1
        rw [h1, if_neg (nI_pos (by omega)), nI_clamp (by omega)]
        by_cases c1 : me.2.1 i < me.2.1 b
        · rw [if_pos c1]
          exact ih (i + 1) _ (by omega) (Or.inr ⟨i, rfl, h2.new c (Or.inl c1)⟩)
        · rw [if_neg c1]
          by_cases c2 : me.2.1 i = me.2.1 b
          · rw [if_pos c2]
            by_cases c3 : me.2.2.1 b ≤ me.2.2.1 i
            · rw [if_pos c3]
              exact ih (i + 1) _ (by omega) (Or.inr ⟨b, rfl, h2.keep (fun z => by
                rcases z with z | z
                · exact c1 z
                · exact (Int32.not_lt.mpr c3) z.2)⟩)
            · rw [if_neg c3]
              exact ih (i + 1) _ (by omega) (Or.inr ⟨i, rfl, h2.new c (Or.inr ⟨c2, Int32.not_le.mp c3⟩)⟩)
          · rw [if_neg c2]
            exact ih (i + 1) _ (by omega) (Or.inr ⟨b, rfl, h2.keep (fun z => by
                rcases z with z | z
                · exact c1 z
                · exact c2 z.1)⟩)
theorem fu_l (k : Nat) (ag : AgT) (en : Int64) (hk : k ≤ 6) (hs : ¬ ag.2.2.2.2 ≤ 0) : ∀ (fuel i : Nat) (first : Int32), fuel + i = 5 * k → ((first = (-1 : Int32) ∧ ∀ e, e < i → ¬ (¬ ag.1 e = 0 ∧ ¬ en < ag.2.1 e)) ∨ ∃ b, first = nI b ∧ Fst (fun e => ¬ ag.1 e = 0 ∧ ¬ en < ag.2.1 e) (Ls ag.2.1 ag.2.2.1) i b) → ((fA_firstUntil_l k ag en fuel i first = (-1 : Int32) ∧ ∀ e, e < 5 * k → ¬ (¬ ag.1 e = 0 ∧ ¬ en < ag.2.1 e)) ∨ ∃ b, fA_firstUntil_l k ag en fuel i first = nI b ∧ Fst (fun e => ¬ ag.1 e = 0 ∧ ¬ en < ag.2.1 e) (Ls ag.2.1 ag.2.2.1) (5 * k) b) := by
  intro fuel
  induction fuel with
  | zero =>
    intro i first hm h
    have e : i = 5 * k := by omega
    subst e
    rw [fA_firstUntil_l, if_neg hs]
    exact h
  | succ n ih =>
    intro i first hm h
    rw [fA_firstUntil_l, if_neg hs]
    by_cases c : ¬ ag.1 i = 0 ∧ ¬ en < ag.2.1 i
    · rw [if_neg c.1, if_neg c.2]
      rcases h with ⟨h1, h2⟩ | ⟨b, h1, h2⟩
      · rw [h1, if_pos rfl]
        exact ih (i + 1) _ (by omega) (Or.inr ⟨i, rfl, Fst.new0 h2 c⟩)
      · have hb := h2.1
        have hne : ¬ nI b = (-1 : Int32) := k_neg1 (nI_pos (by omega))
        rw [h1, if_neg hne]
        dsimp only
        unfold fA_isBefore
        rw [nI_clamp (show i < 2 ^ 31 by omega), nI_clamp (show b < 2 ^ 31 by omega)]
        by_cases c1 : ag.2.1 i < ag.2.1 b
        · rw [if_pos c1, if_neg one_ne0]
          exact ih (i + 1) _ (by omega) (Or.inr ⟨i, rfl, h2.new c (Or.inl c1)⟩)
        · rw [if_neg c1]
          by_cases c2 : ag.2.1 i = ag.2.1 b
          · rw [if_pos c2]
            by_cases c3 : ag.2.2.1 b ≤ ag.2.2.1 i
            · rw [if_pos c3, if_pos rfl]
              exact ih (i + 1) _ (by omega) (Or.inr ⟨b, rfl, h2.keep (fun z => by
                rcases z with z | z
                · exact c1 z
                · exact (Int32.not_lt.mpr c3) z.2)⟩)
            · rw [if_neg c3, if_neg one_ne0]
              exact ih (i + 1) _ (by omega) (Or.inr ⟨i, rfl, h2.new c (Or.inr ⟨c2, Int32.not_le.mp c3⟩)⟩)
          · rw [if_neg c2, if_pos rfl]
            exact ih (i + 1) _ (by omega) (Or.inr ⟨b, rfl, h2.keep (fun z => by
                rcases z with z | z
                · exact c1 z
                · exact c2 z.1)⟩)
    · have g : (if ag.1 i = 0 then fA_firstUntil_l k ag en n (i + 1) first else if en < ag.2.1 i then fA_firstUntil_l k ag en n (i + 1) first else if first = (-1 : Int32) then fA_firstUntil_l k ag en n (i + 1) (nI i) else let q1005 := fA_isBefore k ag (nI i) first
            if q1005 = 0 then fA_firstUntil_l k ag en n (i + 1) first else fA_firstUntil_l k ag en n (i + 1) (nI i)) = fA_firstUntil_l k ag en n (i + 1) first := by
        by_cases c1 : ag.1 i = 0
        · rw [if_pos c1]
        · rw [if_neg c1]
          by_cases c2 : en < ag.2.1 i
          · rw [if_pos c2]
          · exact absurd ⟨c1, c2⟩ c
      rw [g]
      refine ih (i + 1) first (by omega) ?_
      rcases h with ⟨h1, h2⟩ | ⟨b, h1, h2⟩
      · exact Or.inl ⟨h1, fun e he => by
          by_cases e1 : e = i
          · subst e1; exact c
          · exact h2 e (by omega)⟩
      · exact Or.inr ⟨b, h1, h2.skip c⟩
theorem fu_0 (k : Nat) (ag : AgT) (en : Int64) (hs : ag.2.2.2.2 ≤ 0) : fA_firstUntil k ag en = (-1 : Int32) := by
  unfold fA_firstUntil
  cases h : 5 * k with
  | zero => rw [fA_firstUntil_l, if_pos hs]
  | succ n => rw [fA_firstUntil_l, if_pos hs]
/-- the next event, both sides -/
theorem next_eq {k : Nat} {ag : AgT} {me : MeT} {r : Nat} (h : RE k ag me r) (hr : r < 2 ^ 30) (hk0 : 0 < k) (hk : k ≤ 6) (en : Int64) (mc : McT) (mw : MwT) (mp : MpT) (mo : MoT) (ms : MsT) :
    (fA_firstUntil k ag en = (-1 : Int32) ∧ (∀ e, e < 30 → ¬ me.1 e = 0 → en < me.2.1 e) ∧ ((fM_nextEvent k mc mw mp me mo ms) < 0 ∨ ∃ e, e < 30 ∧ fM_nextEvent k mc mw mp me mo ms = nI e ∧ ¬ me.1 e = 0)) ∨
    (∃ i c, i < 5 ∧ c < k ∧ fA_firstUntil k ag en = nI (i * k + c) ∧ fM_nextEvent k mc mw mp me mo ms = nI (6 * i + c) ∧ ¬ me.1 (6 * i + c) = 0 ∧ ag.2.1 (i * k + c) = me.2.1 (6 * i + c) ∧ ¬ en < me.2.1 (6 * i + c)) := by
  obtain ⟨h1, h2, h3, h4, h5⟩ := h
  have hM := nx_l k mc mw mp me mo ms 30 0 (-1 : Int32) rfl (Or.inl ⟨rfl, fun e he => by omega⟩)
  have hM : (fM_nextEvent k mc mw mp me mo ms = (-1 : Int32) ∧ ∀ e, e < 30 → me.1 e = 0) ∨ ∃ b, fM_nextEvent k mc mw mp me mo ms = nI b ∧ Fst (fun e => ¬ me.1 e = 0) (Ls me.2.1 me.2.2.1) 30 b := hM
  have hw : ws w1 me.1 30 ≤ 30 := by
    have := ws_bnd w1 me.1 1 (fun _ => Nat.le_refl 1) 30
    omega
  have nx : (fM_nextEvent k mc mw mp me mo ms) < 0 ∨ ∃ e, e < 30 ∧ fM_nextEvent k mc mw mp me mo ms = nI e ∧ ¬ me.1 e = 0 := by
    rcases hM with ⟨g1, g2⟩ | ⟨b, g1, g2⟩
    · exact Or.inl (by rw [g1]; exact neg_m1)
    · exact Or.inr ⟨b, g2.1, g1, g2.2.1⟩
  -- a waiting event's place
  have pl : ∀ e, e < 30 → ¬ me.1 e = 0 → e / 6 < 5 ∧ e % 6 < k ∧ 6 * (e / 6) + e % 6 = e := by
    intro e he hne
    refine ⟨by omega, ?_, by omega⟩
    refine Classical.byContradiction (fun z => hne ?_)
    have := h2 (e / 6) (e % 6) (by omega) (by omega) (by omega)
    rw [show 6 * (e / 6) + e % 6 = e by omega] at this
    exact this
  by_cases hs : ag.2.2.2.2 ≤ 0
  · left
    have hz : ws w1 me.1 30 = 0 := by
      refine Classical.byContradiction (fun z => ?_)
      rw [h5] at hs
      exact (nI_nle (by omega) (by omega)) hs
    have all0 := ws_z w1 me.1 (fun _ => Nat.zero_lt_one) 30 hz
    exact ⟨fu_0 k ag en hs, fun e he hne => absurd (all0 e he) hne, nx⟩
  · have hF := fu_l k ag en hk hs (5 * k) 0 (-1 : Int32) rfl (Or.inl ⟨rfl, fun e he => by omega⟩)
    have hF : (fA_firstUntil k ag en = (-1 : Int32) ∧ ∀ e, e < 5 * k → ¬ (¬ ag.1 e = 0 ∧ ¬ en < ag.2.1 e)) ∨ ∃ b, fA_firstUntil k ag en = nI b ∧ Fst (fun e => ¬ ag.1 e = 0 ∧ ¬ en < ag.2.1 e) (Ls ag.2.1 ag.2.2.1) (5 * k) b := hF
    rcases hF with ⟨g1, g2⟩ | ⟨b, g1, g2⟩
    · left
      refine ⟨g1, fun e he hne => ?_, nx⟩
      obtain ⟨p1, p2, p3⟩ := pl e he hne
      have hb := h1 (e / 6) (e % 6) p1 p2
      rw [p3] at hb
      refine Classical.byContradiction (fun z => g2 (e / 6 * k + e % 6) (pl_lt p1 p2) ⟨fun y => hne (hb.1.mp y), ?_⟩)
      rw [(hb.2 hne).1]; exact z
    · right
      have hbk : b / k < 5 := by
        rw [Nat.div_lt_iff_lt_mul hk0]; exact g2.1
      have hck : b % k < k := Nat.mod_lt _ hk0
      have hbe : b / k * k + b % k = b := by
        have := Nat.div_add_mod b k
        rw [Nat.mul_comm] at this
        exact this
      have hb := h1 (b / k) (b % k) hbk hck
      rw [hbe] at hb
      have hne : ¬ me.1 (6 * (b / k) + b % k) = 0 := fun y => g2.2.1.1 (hb.1.mpr y)
      obtain ⟨t1, x, x1, x2, x3⟩ := hb.2 hne
      have hle : ¬ en < me.2.1 (6 * (b / k) + b % k) := by rw [← t1]; exact g2.2.1.2
      refine ⟨b / k, b % k, hbk, hck, by rw [hbe]; exact g1, ?_, hne, by rw [hbe]; exact t1, hle⟩
      have hmine : Fst (fun e => ¬ me.1 e = 0) (Ls me.2.1 me.2.2.1) 30 (6 * (b / k) + b % k) := by
        -- another waiting event e, at place e'
        have cmp : ∀ e, e < 30 → ¬ me.1 e = 0 → ∃ e', e' < 5 * k ∧ ¬ ag.1 e' = 0 ∧ (e' < b ↔ e < 6 * (b / k) + b % k) ∧ (b < e' ↔ 6 * (b / k) + b % k < e) ∧ (Ls ag.2.1 ag.2.2.1 b e' ↔ Ls me.2.1 me.2.2.1 (6 * (b / k) + b % k) e) ∧ (Ls ag.2.1 ag.2.2.1 e' b ↔ Ls me.2.1 me.2.2.1 e (6 * (b / k) + b % k)) ∧ ag.2.1 e' = me.2.1 e := by
          intro e he hne2
          obtain ⟨p1, p2, p3⟩ := pl e he hne2
          have hb2 := h1 (e / 6) (e % 6) p1 p2
          rw [p3] at hb2
          obtain ⟨u1, y, y1, y2, y3⟩ := hb2.2 hne2
          have nlt : ∀ u v : Nat, u < 2 ^ 30 → v < 2 ^ 30 → (nI u < nI v ↔ nI (u + 1) < nI (v + 1)) := by
            intro u v hu hv
            rw [nI_ltI (by omega) (by omega), nI_ltI (by omega) (by omega)]
            omega
          have ord : ∀ i c i2 c2 : Nat, c < k → c2 < k → (i * k + c < i2 * k + c2 ↔ 6 * i + c < 6 * i2 + c2) := by
            intro i c i2 c2 hc hc2
            rcases Nat.lt_trichotomy i i2 with g | g | g
            · have : (i + 1) * k ≤ i2 * k := Nat.mul_le_mul_right k g
              rw [Nat.succ_mul] at this
              constructor <;> intro <;> omega
            · subst g; constructor <;> intro <;> omega
            · have : (i2 + 1) * k ≤ i * k := Nat.mul_le_mul_right k g
              rw [Nat.succ_mul] at this
              constructor <;> intro <;> omega
          refine ⟨e / 6 * k + e % 6, pl_lt p1 p2, fun z => hne2 (hb2.1.mp z), ?_, ?_, ?_, ?_, u1⟩
          · have := ord (e / 6) (e % 6) (b / k) (b % k) p2 hck
            rw [hbe, p3] at this; exact this
          · have := ord (b / k) (b % k) (e / 6) (e % 6) hck p2
            rw [hbe, p3] at this; exact this
          · unfold Ls
            rw [t1, u1, x2, x3, y2, y3, nlt x y (by omega) (by omega)]
          · unfold Ls
            rw [t1, u1, x2, x3, y2, y3, nlt y x (by omega) (by omega)]
        refine ⟨by omega, hne, fun e he hs2 => ?_, fun e he1 he2 hs2 => ?_⟩
        · obtain ⟨e', a1, a2, a3, a4, a5, a6, a7⟩ := cmp e (by omega) hs2
          rw [← a5]
          by_cases c : en < ag.2.1 e'
          · refine Or.inl ?_
            have := g2.2.1.2
            rw [Int64.lt_iff_toInt_lt] at *
            omega
          · exact g2.2.2.1 e' (a3.mpr he) ⟨a2, c⟩
        · obtain ⟨e', a1, a2, a3, a4, a5, a6, a7⟩ := cmp e he2 hs2
          rw [← a6]
          by_cases c : en < ag.2.1 e'
          · intro z
            have := g2.2.1.2
            rw [Ls_i] at z
            rw [Int64.lt_iff_toInt_lt] at *
            omega
          · exact g2.2.2.2 e' (a4.mpr he1) a1 ⟨a2, c⟩
      rcases hM with ⟨m1, m2⟩ | ⟨b2, m1, m2⟩
      · exact absurd (m2 _ (by omega)) hne
      · rw [m1, Fst.uniq m2 hmine]

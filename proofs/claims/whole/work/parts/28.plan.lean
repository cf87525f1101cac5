/-! pure: planning -/
/-- the constants of an object, both sides -/
def CO (p : Nat) (wc : WcT) (tc : TcT) (mc : McT) : Prop := 12 ≤ p ∧ p ≤ 60 ∧ wc = (nI (p - 3), nI p, nI (128 * p)) ∧ mc.1 = nI (p - 3) ∧ mc.2.2.2 = nI (128 * p) ∧ tc.1 = mc.2.1 ∧ tc.2 = mc.2.2.1 ∧ ∃ g, g ≤ 512 ∧ tc.1 = nI g
theorem lN_div {a b : Nat} (ha : a < 2 ^ 62) (hb0 : 0 < b) (hb : b < 2 ^ 62) : lN a / lN b = lN (a / b) := pk_lDiv (by omega) hb0 (by omega)
/-- what is read of the chart of advance is small -/
theorem lkv_small {P : Nat → Int32} (h : ∀ i, i < 64 → ∃ v, v ≤ 2047 ∧ P i = nI v) {a b : Nat} (ha : a ≤ 1791) (hb : b ≤ 1791) : ∃ v, v ≤ 2047 ∧ lkv P a b = nI v := by
  obtain ⟨v0, l0, e0⟩ := h (8 * (a / 256) + b / 256) (by omega)
  obtain ⟨v1, l1, e1⟩ := h (8 * (a / 256) + b / 256 + 1) (by omega)
  obtain ⟨v2, l2, e2⟩ := h (8 * (a / 256) + b / 256 + 8) (by omega)
  obtain ⟨v3, l3, e3⟩ := h (8 * (a / 256) + b / 256 + 9) (by omega)
  unfold lkv
  rw [e0, e1, e2, e3, nI_l (by omega), nI_l (by omega), nI_l (by omega), nI_l (by omega), ← s_look2 (by omega), ← s_look2 (by omega)]
  have g1 : b % 256 < 256 := Nat.mod_lt _ (by decide)
  have f1 : a % 256 < 256 := Nat.mod_lt _ (by decide)
  generalize b % 256 = g at g1
  generalize a % 256 = f at f1
  rw [lN_mul, lN_mul, lN_mul, lN_mul, lN_add, lN_add, lN_mul, lN_mul, lN_add, show (32768 : Int64) = lN 32768 from rfl, lN_add, show (65536 : Int64) = lN 65536 from rfl]
  have near : ∀ x y : Nat, x ≤ 2047 → y ≤ 2047 → x * (256 - g) + y * g ≤ 2047 * 256 := by
    intro x y hx hy
    have q1 : x * (256 - g) ≤ 2047 * (256 - g) := Nat.mul_le_mul_right _ hx
    have q2 : y * g ≤ 2047 * g := Nat.mul_le_mul_right _ hy
    omega
  have n1 := near v0 v1 l0 l1
  have n2 := near v2 v3 l2 l3
  generalize v0 * (256 - g) + v1 * g = A at n1
  generalize v2 * (256 - g) + v3 * g = B at n2
  have q1 : A * (256 - f) ≤ 2047 * 256 * (256 - f) := Nat.mul_le_mul_right _ n1
  have q2 : B * f ≤ 2047 * 256 * f := Nat.mul_le_mul_right _ n2
  generalize A * (256 - f) = AA at q1
  generalize B * f = BB at q2
  rw [lN_div (by omega) (by decide) (by decide), lN_i]
  exact ⟨(AA + BB + 32768) / 65536, by omega, rfl⟩
theorem at_small {ca : ChT} (h : ∀ i, i < 64 → ∃ v, v ≤ 2047 ∧ ca i = nI v) (mx x y : Int32) : ∃ v : Int, -1 ≤ v ∧ v ≤ 2047 ∧ (fC_at mx ca x y).toInt = v := by
  rcases i_cases x (N := 1791) (by decide) with hx | ⟨a, ha, rfl⟩
  · rw [at_bad _ _ (Or.inl hx)]; exact ⟨-1, by omega, by omega, by decide⟩
  · rcases i_cases y (N := 1791) (by decide) with hy | ⟨b, hb, rfl⟩
    · rw [at_bad _ _ (Or.inr hy)]; exact ⟨-1, by omega, by omega, by decide⟩
    · rw [at_val _ _ ha hb]
      obtain ⟨v, h1, h2⟩ := lkv_small h ha hb
      exact ⟨v, by omega, by omega, by rw [h2, nI_toInt (by omega)]⟩
/-- where the wheel stands, as an angle -/
theorem steps_eq {p : Nat} {wc : WcT} {tc : TcT} {mc : McT} (hco : CO p wc tc mc) {wh : WhT} {mw : MwT} {ρ t : Nat} (hρ : ρ ≤ 1) (ht : t ≤ p - 3) (h1 : wh.2.2.2.2.2.1 = nI ρ) (h2 : wh.2.2.2.2.1 = nI t) (h3 : mw.2.2.2.2.2.2.1 = nI ρ) (h4 : mw.2.2.2.2.2.1 = nI t) (k : Nat) (mp : MpT) (me : MeT) (mo : MoT) (ms : MsT) {an : Int32} {v : Int} (hv : an.toInt = v) (hv1 : -5000 ≤ v) (hv2 : v ≤ 2 * (128 * p)) :
    fW_stepsTo wc wh an = fM_far k mc mw mp me mo ms an ∧ ∃ s : Nat, s < 128 * p ∧ fM_far k mc mw mp me mo ms an = nI s := by
  obtain ⟨p1, p2, e1, e2, e3, -⟩ := hco
  have hh : ρ * p + t < 2 * p := by
    rcases (show ρ = 0 ∨ ρ = 1 by omega) with rfl | rfl <;> omega
  have a1 : ((wh.2.2.2.2.2.1 * wc.2.1) + wh.2.2.2.2.1) * (64 : Int32) = nI ((ρ * p + t) * 64) := by
    rw [h1, h2, e1]
    show (nI ρ * nI p + nI t) * (64 : Int32) = _
    rw [pk_mul, nI_add]; exact pk_mul _ 64
  have a2 : (64 : Int32) * ((mw.2.2.2.2.2.2.1 * (mc.1 + (3 : Int32))) + mw.2.2.2.2.2.1) = nI ((ρ * p + t) * 64) := by
    rw [h3, h4, e2, show nI (p - 3) + (3 : Int32) = nI (p - 3 + 3) from nI_add _ 3, show p - 3 + 3 = p by omega, pk_mul, nI_add, Nat.mul_comm (ρ * p + t) 64]
    exact pk_mul 64 _
  have ht2 : (nI ((ρ * p + t) * 64)).toInt = (((ρ * p + t) * 64 : Nat) : Int) := nI_toInt (by omega)
  have hs := t_sub hv ht2 (by omega) (by omega)
  have f1 : fW_stepsTo wc wh an = nI ((v - (((ρ * p + t) * 64 : Nat) : Int)) % ((128 * p : Nat) : Int)).toNat := by
    unfold fW_stepsTo
    dsimp only
    rw [a1, e1]
    exact fmod_val hs (by omega) (by omega) (by omega) (by omega)
  have f2 : fM_far k mc mw mp me mo ms an = nI ((v - (((ρ * p + t) * 64 : Nat) : Int)) % ((128 * p : Nat) : Int)).toNat := by
    unfold fM_far fM_angle
    dsimp only
    rw [a2]
    exact far1 k mc mw mp me mo ms an (by omega) (by omega) e3 10 0 _ _ hs (by omega) (by omega) (by omega) (by omega)
  refine ⟨by rw [f1, f2], _, ?_, f2⟩
  have m1 := Int.emod_nonneg (v - (((ρ * p + t) * 64 : Nat) : Int)) (show ((128 * p : Nat) : Int) ≠ 0 by omega)
  have m2 := Int.emod_lt_of_pos (v - (((ρ * p + t) * 64 : Nat) : Int)) (show (0 : Int) < ((128 * p : Nat) : Int) by omega)
  omega
theorem near_eq {p : Nat} {wc : WcT} {tc : TcT} {mc : McT} (hco : CO p wc tc mc) {wh : WhT} {mw : MwT} {tm : TmT} {ρ t : Nat} (hρ : ρ ≤ 1) (ht : t ≤ p - 3) (h1 : wh.2.2.2.2.2.1 = nI ρ) (h2 : wh.2.2.2.2.1 = nI t) (h3 : mw.2.2.2.2.2.2.1 = nI ρ) (h4 : mw.2.2.2.2.2.1 = nI t) (h5 : wh.2.2.2.1 = mw.2.2.2.1) (h6 : tm.1 = mw.1) {k : Nat} (hk : k ≤ 6) {ag : AgT} {me : MeT} {r : Nat} (hE : RE k ag me r) {ki cy : Nat} (hi : ki < 5) (hc : cy < k) (pn : PnT) (ca cf : ChT) (sl sh : SnT) (mp : MpT) (mo : MoT) (ms : MsT) {an : Int32} {v : Int} (hv : an.toInt = v) (hv1 : -5000 ≤ v) (hv2 : v ≤ 2 * (128 * p)) :
    ∃ r2, r2 ≤ r + 1 ∧ RE k (fT_planNear k wc tc tm wh ag pn ca cf sl sh ki cy an) (fM_planIfNear k mc mw mp me mo ms ki cy an) r2 := by
  obtain ⟨s1, -⟩ := steps_eq hco hρ ht h1 h2 h3 h4 k mp me mo ms hv hv1 hv2
  obtain ⟨p1, p2, e1, e2, -⟩ := hco
  unfold fT_planNear fM_planIfNear fW_stepsToNextTooth fW_timeOver
  dsimp only
  rw [s1, h2, h4, h5, h6, e1, e2]
  dsimp only
  by_cases c : nI t = nI (p - 3)
  · rw [if_pos c, if_pos c]
    by_cases c2 : (192 : Int32) ≤ fM_far k mc mw mp me mo ms an
    · rw [if_pos c2, if_pos c2]; exact ⟨r, by omega, hE⟩
    · rw [if_neg c2, if_neg c2]; exact ⟨r + 1, by omega, hE.plan hk hi hc _ mc mw mp mo ms⟩
  · rw [if_neg c, if_neg c]
    by_cases c2 : (64 : Int32) ≤ fM_far k mc mw mp me mo ms an
    · rw [if_pos c2, if_pos c2]; exact ⟨r, by omega, hE⟩
    · rw [if_neg c2, if_neg c2]; exact ⟨r + 1, by omega, hE.plan hk hi hc _ mc mw mp mo ms⟩
theorem planl_eq {p : Nat} {wc : WcT} {tc : TcT} {mc : McT} (hco : CO p wc tc mc) {wh : WhT} {mw : MwT} {tm : TmT} {ρ t : Nat} (hρ : ρ ≤ 1) (ht : t ≤ p - 3) (h1 : wh.2.2.2.2.2.1 = nI ρ) (h2 : wh.2.2.2.2.1 = nI t) (h3 : mw.2.2.2.2.2.2.1 = nI ρ) (h4 : mw.2.2.2.2.2.1 = nI t) (h5 : wh.2.2.2.1 = mw.2.2.2.1) (h6 : tm.1 = mw.1) {k : Nat} (hk0 : 0 < k) (hk : k ≤ 6) (pn : PnT) (ca cf : ChT) (sl sh : SnT) (mp : MpT) (mo : MoT) (ms : MsT) {lead : Int32} {v : Int} (hl : lead.toInt = v) (hl1 : -1 ≤ v) (hl2 : v ≤ 2047) (slow : Int32) :
    ∀ (fuel i : Nat) (ag : AgT) (me : MeT) (r : Nat), fuel + i = k → RE k ag me r → ∃ r2, r2 ≤ r + 3 * fuel ∧ RE k (fT_planAll_l k wc tc tm wh pn ca cf sl sh fuel i lead slow ag) (fM_planAll_l k mc mw mp mo ms fuel i lead slow me) r2 := by
  obtain ⟨p1, p2, e1, e2, e3, e4, -, g, g1, g2⟩ := id hco
  intro fuel
  induction fuel with
  | zero => intro i ag me r _ hE; exact ⟨r, by omega, hE⟩
  | succ n ih =>
    intro i ag me r hm hE
    have hi : i < k := by omega
    have top : (nI i * wc.2.2) / nI k = nI (i * (128 * p) / k) ∧ (nI i * mc.2.2.2) / nI k = nI (i * (128 * p) / k) := by
      rw [e1, e3]
      have hb : i * (128 * p) ≤ 5 * (128 * p) := Nat.mul_le_mul_right _ (by omega)
      exact ⟨by show nI i * nI (128 * p) / nI k = _; rw [pk_mul, pk_div (by omega) hk0 (by omega)], by rw [pk_mul, pk_div (by omega) hk0 (by omega)]⟩
    have tb : i * (128 * p) / k ≤ 128 * p := by
      apply Nat.div_le_of_le_mul
      exact Nat.mul_le_mul_right _ (by omega)
    rw [fT_planAll_l, fM_planAll_l]
    dsimp only
    rw [top.1, top.2, ← e4, g2]
    have tt : (nI (i * (128 * p) / k)).toInt = ((i * (128 * p) / k : Nat) : Int) := nI_toInt (by omega)
    generalize i * (128 * p) / k = q at tb tt
    have a1 := t_sub tt hl (by omega) (by omega)
    have a2 := t_sub a1 (nI_toInt (n := g) (by omega)) (by omega) (by omega)
    have hd2 : wc.2.2 / (2 : Int32) = nI (64 * p) ∧ mc.2.2.2 / (2 : Int32) = nI (64 * p) := by
      have : nI (128 * p) / (2 : Int32) = nI (128 * p / 2) := pk_div (a := 128 * p) (d := 2) (by omega) (by decide) (by decide)
      rw [e1, e3]
      rw [show 128 * p / 2 = 64 * p by omega] at this
      exact ⟨this, this⟩
    rw [hd2.1, hd2.2]
    have a3 := t_add tt (nI_toInt (n := 64 * p) (by omega)) (by omega) (by omega)
    by_cases c : slow = 0
    · rw [if_pos c, if_pos c]
      obtain ⟨r1, b1, b2⟩ := near_eq hco hρ ht h1 h2 h3 h4 h5 h6 hk hE (ki := 1) (by decide) hi pn ca cf sl sh mp mo ms a1 (by omega) (by omega)
      obtain ⟨r2, b3, b4⟩ := ih (i + 1) _ _ r1 (by omega) b2
      exact ⟨r2, by omega, b4⟩
    · rw [if_neg c, if_neg c]
      obtain ⟨r1, b1, b2⟩ := near_eq hco hρ ht h1 h2 h3 h4 h5 h6 hk hE (ki := 0) (by decide) hi pn ca cf sl sh mp mo ms a2 (by omega) (by omega)
      obtain ⟨r2, b3, b4⟩ := near_eq hco hρ ht h1 h2 h3 h4 h5 h6 hk b2 (ki := 1) (by decide) hi pn ca cf sl sh mp mo ms a1 (by omega) (by omega)
      obtain ⟨r3, b5, b6⟩ := near_eq hco hρ ht h1 h2 h3 h4 h5 h6 hk b4 (ki := 3) (by decide) hi pn ca cf sl sh mp mo ms a3 (by omega) (by omega)
      obtain ⟨r4, b7, b8⟩ := ih (i + 1) _ _ r3 (by omega) b6
      exact ⟨r4, by omega, b8⟩

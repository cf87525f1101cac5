/-! pure: the events that wait -/
def ws (w : Nat → Nat) (f : Nat → Int32) : Nat → Nat
  | 0 => 0
  | n + 1 => ws w f n + (if f n = 0 then 0 else w n)
theorem ws_out (w : Nat → Nat) (f : Nat → Int32) (e : Nat) (v : Int32) : ∀ n, n ≤ e → ws w (upd f e v) n = ws w f n := by
  intro n
  induction n with
  | zero => intro _; rfl
  | succ n ih =>
    intro h
    rw [ws, ws, ih (by omega), up_n (show n ≠ e by omega)]
theorem ws_0 (w : Nat → Nat) (f : Nat → Int32) {e : Nat} (hf : ¬ f e = 0) : ∀ n, e < n → ws w (upd f e (0 : Int32)) n + w e = ws w f n := by
  intro n
  induction n with
  | zero => intro h; omega
  | succ n ih =>
    intro h
    rw [ws, ws]
    by_cases e1 : n = e
    · subst e1
      rw [ws_out w f n _ n (Nat.le_refl n), up_s, if_pos rfl, if_neg hf]
      omega
    · have := ih (by omega)
      rw [up_n e1]
      omega
theorem ws_1 (w : Nat → Nat) (f : Nat → Int32) {e : Nat} (hf : f e = 0) : ∀ n, e < n → ws w (upd f e (1 : Int32)) n = ws w f n + w e := by
  have n1 : ¬ (1 : Int32) = 0 := by decide
  intro n
  induction n with
  | zero => intro h; omega
  | succ n ih =>
    intro h
    rw [ws, ws]
    by_cases e1 : n = e
    · subst e1
      rw [ws_out w f n _ n (Nat.le_refl n), up_s, if_neg n1, if_pos hf]; rfl
    · have := ih (by omega)
      rw [up_n e1]
      omega
theorem ws_1k (w : Nat → Nat) (f : Nat → Int32) {e : Nat} (hf : ¬ f e = 0) : ∀ n, ws w (upd f e (1 : Int32)) n = ws w f n := by
  have n1 : ¬ (1 : Int32) = 0 := by decide
  intro n
  induction n with
  | zero => rfl
  | succ n ih =>
    rw [ws, ws, ih]
    by_cases e1 : n = e
    · subst e1; rw [up_s, if_neg n1, if_neg hf]
    · rw [up_n e1]
theorem ws_0k (w : Nat → Nat) (f : Nat → Int32) {e : Nat} (hf : f e = 0) : ∀ n, ws w (upd f e (0 : Int32)) n = ws w f n := by
  intro n
  induction n with
  | zero => rfl
  | succ n ih =>
    rw [ws, ws, ih]
    by_cases e1 : n = e
    · subst e1; rw [up_s, if_pos rfl, if_pos hf]
    · rw [up_n e1]
theorem ws_le (w : Nat → Nat) (f : Nat → Int32) {e : Nat} (n : Nat) (h : e < n) : ws w (upd f e (1 : Int32)) n ≤ ws w f n + w e := by
  by_cases hf : f e = 0
  · rw [ws_1 w f hf n h]; exact Nat.le_refl _
  · rw [ws_1k w f hf n]; omega
theorem ws_bnd (w : Nat → Nat) (f : Nat → Int32) (m : Nat) (hw : ∀ e, w e ≤ m) : ∀ n, ws w f n ≤ m * n := by
  intro n
  induction n with
  | zero => exact Nat.le_refl _
  | succ n ih =>
    rw [ws, Nat.mul_succ]
    have := hw n
    split <;> omega
theorem ws_z (w : Nat → Nat) (f : Nat → Int32) (hw : ∀ e, 0 < w e) : ∀ n, ws w f n = 0 → ∀ e, e < n → f e = 0 := by
  intro n
  induction n with
  | zero => intro _ e h; omega
  | succ n ih =>
    intro h e he
    rw [ws] at h
    by_cases e1 : e = n
    · subst e1
      refine Classical.byContradiction (fun z => ?_)
      rw [if_neg z] at h
      have := hw e
      omega
    · exact ih (by omega) e (by omega)
theorem ws_all0 (w : Nat → Nat) (f : Nat → Int32) : ∀ n, (∀ e, e < n → f e = 0) → ws w f n = 0 := by
  intro n
  induction n with
  | zero => intro _; rfl
  | succ n ih =>
    intro h
    rw [ws, ih (fun e he => h e (by omega)), if_pos (h n (by omega))]
def w1 : Nat → Nat := fun _ => 1
/-- how much an event can still bring about -/
def wp : Nat → Nat := fun e => if e / 6 = 0 ∨ e / 6 = 3 then 2 else 1
def RE (k : Nat) (ag : AgT) (me : MeT) (r : Nat) : Prop :=
  (∀ i c, i < 5 → c < k → (ag.1 (i * k + c) = 0 ↔ me.1 (6 * i + c) = 0) ∧ (¬ me.1 (6 * i + c) = 0 → ag.2.1 (i * k + c) = me.2.1 (6 * i + c) ∧ ∃ x, x < r ∧ ag.2.2.1 (i * k + c) = nI x ∧ me.2.2.1 (6 * i + c) = nI (x + 1))) ∧
  (∀ i c, i < 5 → k ≤ c → c < 6 → me.1 (6 * i + c) = 0) ∧
  ag.2.2.2.1 = nI r ∧ me.2.2.2 = nI r ∧ ag.2.2.2.2 = nI (ws w1 me.1 30)
theorem pl_inj {k i c i2 c2 : Nat} (hc : c < k) (hc2 : c2 < k) (h : i * k + c = i2 * k + c2) : i = i2 ∧ c = c2 := by
  have h1 : (i * k + c) / k = i := by rw [Nat.mul_comm, Nat.mul_add_div (by omega), Nat.div_eq_of_lt hc]; omega
  have h2 : (i2 * k + c2) / k = i2 := by rw [Nat.mul_comm, Nat.mul_add_div (by omega), Nat.div_eq_of_lt hc2]; omega
  have h3 : i = i2 := by rw [← h1, ← h2, h]
  subst h3
  exact ⟨rfl, by omega⟩
theorem upL_s {f : Nat → Int64} {k : Nat} {x : Int64} : vp_updL f k x k = x := pk_uLs
theorem upL_n {f : Nat → Int64} {k j : Nat} {x : Int64} (h : j ≠ k) : vp_updL f k x j = f j := pk_uLn h
theorem RE.plan {k : Nat} {ag : AgT} {me : MeT} {r : Nat} (h : RE k ag me r) (hk : k ≤ 6) {ki cy : Nat} (hi : ki < 5) (hc : cy < k) (t : Int64) (mc : McT) (mw : MwT) (mp : MpT) (mo : MoT) (ms : MsT) : RE k (fA_plan k ag ki cy t) (fM_plan k mc mw mp me mo ms ki cy t) (r + 1) := by
  obtain ⟨h1, h2, h3, h4, h5⟩ := h
  have n1 : ¬ (1 : Int32) = 0 := by decide
  have hb := h1 ki cy hi hc
  have key : ∀ (tk : Nat → Int32) (sz : Int32), (∀ i c, i < 5 → c < k → (tk (i * k + c) = 0 ↔ upd me.1 (6 * ki + cy) (1 : Int32) (6 * i + c) = 0)) → sz = nI (ws w1 (upd me.1 (6 * ki + cy) (1 : Int32)) 30) → RE k (tk, vp_updL ag.2.1 (ki * k + cy) t, upd ag.2.2.1 (ki * k + cy) ag.2.2.2.1, ag.2.2.2.1 + (1 : Int32), sz) (fM_plan k mc mw mp me mo ms ki cy t) (r + 1) := by
    intro tk sz ht hs
    refine ⟨fun i c hi2 hc2 => ⟨ht i c hi2 hc2, ?_⟩, ?_, ?_, ?_, hs⟩
    · intro hne
      have hne : ¬ upd me.1 (6 * ki + cy) (1 : Int32) (6 * i + c) = 0 := hne
      show vp_updL ag.2.1 (ki * k + cy) t (i * k + c) = vp_updL me.2.1 (6 * ki + cy) t (6 * i + c) ∧ ∃ x, x < r + 1 ∧ upd ag.2.2.1 (ki * k + cy) ag.2.2.2.1 (i * k + c) = nI x ∧ upd me.2.2.1 (6 * ki + cy) (me.2.2.2 + (1 : Int32)) (6 * i + c) = nI (x + 1)
      by_cases e : i = ki ∧ c = cy
      · obtain ⟨rfl, rfl⟩ := e
        rw [upL_s, upL_s, up_s, up_s]
        exact ⟨rfl, r, by omega, h3, by rw [h4, nI_1]⟩
      · have e1 : i * k + c ≠ ki * k + cy := fun z => e (pl_inj hc2 hc z)
        have e2 : 6 * i + c ≠ 6 * ki + cy := by
          intro z
          apply e
          omega
        rw [upL_n e1, upL_n e2, up_n e1, up_n e2]
        rw [up_n e2] at hne
        obtain ⟨g1, x, g2, g3, g4⟩ := (h1 i c hi2 hc2).2 hne
        exact ⟨g1, x, by omega, g3, g4⟩
    · intro i c hi2 hk2 hc2
      show upd me.1 (6 * ki + cy) (1 : Int32) (6 * i + c) = 0
      rw [up_n (show 6 * i + c ≠ 6 * ki + cy by omega)]
      exact h2 i c hi2 hk2 hc2
    · show ag.2.2.2.1 + (1 : Int32) = nI (r + 1)
      rw [h3, nI_1]
    · show me.2.2.2 + (1 : Int32) = nI (r + 1)
      rw [h4, nI_1]
  unfold fA_plan
  by_cases c0 : ag.1 (ki * k + cy) = 0
  · rw [if_pos c0]
    apply key
    · intro i c hi2 hc2
      by_cases e : i = ki ∧ c = cy
      · obtain ⟨rfl, rfl⟩ := e; rw [up_s, up_s]
      · have e1 : i * k + c ≠ ki * k + cy := fun z => e (pl_inj hc2 hc z)
        have e2 : 6 * i + c ≠ 6 * ki + cy := by
          intro z
          apply e
          omega
        rw [up_n e1, up_n e2]; exact (h1 i c hi2 hc2).1
    · rw [ws_1 w1 me.1 (hb.1.mp c0) 30 (by omega), h5, nI_1]; rfl
  · rw [if_neg c0]
    have c1 : ¬ me.1 (6 * ki + cy) = 0 := fun z => c0 (hb.1.mpr z)
    apply key
    · intro i c hi2 hc2
      by_cases e : i = ki ∧ c = cy
      · obtain ⟨rfl, rfl⟩ := e; rw [up_s]; exact ⟨fun z => absurd z c0, fun z => absurd z n1⟩
      · have e2 : 6 * i + c ≠ 6 * ki + cy := by
          intro z
          apply e
          omega
        rw [up_n e2]; exact (h1 i c hi2 hc2).1
    · rw [ws_1k w1 me.1 c1 30, h5]
theorem RE.rem {k : Nat} {ag : AgT} {me : MeT} {r : Nat} (h : RE k ag me r) (hk : k ≤ 6) {ki cy : Nat} (hi : ki < 5) (hc : cy < k) : RE k (fA_remove k ag ki cy) (upd me.1 (6 * ki + cy) (0 : Int32), me.2.1, me.2.2.1, me.2.2.2) r := by
  obtain ⟨h1, h2, h3, h4, h5⟩ := h
  have hb := h1 ki cy hi hc
  have key : ∀ (tk : Nat → Int32) (sz : Int32), (∀ i c, i < 5 → c < k → (tk (i * k + c) = 0 ↔ upd me.1 (6 * ki + cy) (0 : Int32) (6 * i + c) = 0)) → sz = nI (ws w1 (upd me.1 (6 * ki + cy) (0 : Int32)) 30) → RE k (tk, ag.2.1, ag.2.2.1, ag.2.2.2.1, sz) (upd me.1 (6 * ki + cy) (0 : Int32), me.2.1, me.2.2.1, me.2.2.2) r := by
    intro tk sz ht hs
    refine ⟨fun i c hi2 hc2 => ⟨ht i c hi2 hc2, ?_⟩, ?_, h3, h4, hs⟩
    · intro hne
      have hne : ¬ upd me.1 (6 * ki + cy) (0 : Int32) (6 * i + c) = 0 := hne
      by_cases e2 : 6 * i + c = 6 * ki + cy
      · rw [e2, up_s] at hne; exact absurd rfl hne
      · rw [up_n e2] at hne
        exact (h1 i c hi2 hc2).2 hne
    · intro i c hi2 hk2 hc2
      show upd me.1 (6 * ki + cy) (0 : Int32) (6 * i + c) = 0
      by_cases e2 : 6 * i + c = 6 * ki + cy
      · rw [e2, up_s]
      · rw [up_n e2]; exact h2 i c hi2 hk2 hc2
  unfold fA_remove
  by_cases c0 : ag.1 (ki * k + cy) = 0
  · rw [if_pos c0]
    have c1 := hb.1.mp c0
    have := key ag.1 ag.2.2.2.2 (fun i c hi2 hc2 => by
      by_cases e2 : 6 * i + c = 6 * ki + cy
      · rw [e2, up_s]
        have : i = ki ∧ c = cy := by omega
        obtain ⟨rfl, rfl⟩ := this
        exact ⟨fun _ => rfl, fun _ => c0⟩
      · rw [up_n e2]; exact (h1 i c hi2 hc2).1) (by rw [ws_0k w1 me.1 c1 30, h5])
    exact this
  · rw [if_neg c0]
    have c1 : ¬ me.1 (6 * ki + cy) = 0 := fun z => c0 (hb.1.mpr z)
    apply key
    · intro i c hi2 hc2
      by_cases e : i = ki ∧ c = cy
      · obtain ⟨rfl, rfl⟩ := e; rw [up_s, up_s]
      · have e1 : i * k + c ≠ ki * k + cy := fun z => e (pl_inj hc2 hc z)
        have e2 : 6 * i + c ≠ 6 * ki + cy := by
          intro z
          apply e
          omega
        rw [up_n e1, up_n e2]; exact (h1 i c hi2 hc2).1
    · have e := ws_0 w1 me.1 c1 30 (by omega)
      have e' : ws w1 (upd me.1 (6 * ki + cy) (0 : Int32)) 30 + 1 = ws w1 me.1 30 := e
      rw [h5, ← e']
      exact nI_pred _
theorem remAll_l (k : Nat) : ∀ (fuel i : Nat) (ag : AgT), (∀ p, p < i → ag.1 p = 0) → (∀ p, p < fuel + i → (fA_removeAll_l k fuel i ag).1 p = 0) ∧ (fA_removeAll_l k fuel i ag).2.1 = ag.2.1 ∧ (fA_removeAll_l k fuel i ag).2.2.1 = ag.2.2.1 ∧ (fA_removeAll_l k fuel i ag).2.2.2.1 = ag.2.2.2.1 ∧ (fA_removeAll_l k fuel i ag).2.2.2.2 = 0 := by
  intro fuel
  induction fuel with
  | zero =>
    intro i ag h
    exact ⟨fun p hp => h p (by omega), rfl, rfl, rfl, rfl⟩
  | succ n ih =>
    intro i ag h
    have := ih (i + 1) (upd ag.1 i (0 : Int32), ag.2.1, ag.2.2.1, ag.2.2.2.1, ag.2.2.2.2) (fun p hp => by
      show upd ag.1 i (0 : Int32) p = 0
      by_cases e : p = i
      · subst e; rw [up_s]
      · rw [up_n e]; exact h p (by omega))
    refine ⟨fun p hp => this.1 p (by omega), this.2.1, this.2.2.1, this.2.2.2.1, this.2.2.2.2⟩
theorem pl_lt {k i c : Nat} (hi : i < 5) (hc : c < k) : i * k + c < 5 * k := by
  have : i * k ≤ 4 * k := Nat.mul_le_mul_right k (by omega)
  omega
theorem RE.all {k : Nat} {ag : AgT} {me me' : MeT} {r : Nat} (h : RE k ag me r) (h0 : ∀ e, e < 30 → me'.1 e = 0) (h9 : me'.2.2.2 = me.2.2.2) (hk : k ≤ 6) : RE k (fA_removeAll k ag) me' r := by
  obtain ⟨-, -, h3, h4, -⟩ := h
  obtain ⟨g1, g2, g3, g4, g5⟩ := remAll_l k (5 * k) 0 ag (fun p hp => by omega)
  refine ⟨fun i c hi hc => ⟨⟨fun _ => h0 _ (by omega), fun _ => ?_⟩, fun z => absurd (h0 _ (by omega)) z⟩, fun i c hi _ hc => h0 _ (by omega), ?_, ?_, ?_⟩
  · exact g1 _ (by have := pl_lt hi hc; omega)
  · show (fA_removeAll k ag).2.2.2.1 = nI r
    unfold fA_removeAll
    rw [g4, h3]
  · rw [h9, h4]
  · show (fA_removeAll k ag).2.2.2.2 = _
    unfold fA_removeAll
    rw [g5, ws_all0 w1 me'.1 30 h0]; rfl
theorem wait_l (k : Nat) (mc : McT) (mw : MwT) (mp : MpT) (me : MeT) (mo : MoT) (ms : MsT) : ∀ (fuel i : Nat) (n : Int32), fuel + i = 30 → n = nI (ws w1 me.1 i) → fM_waiting_l k mc mw mp me mo ms fuel i n = nI (ws w1 me.1 30) := by
  intro fuel
  induction fuel with
  | zero =>
    intro i n hm hn
    have e : i = 30 := by omega
    subst e
    rw [hn]; rfl
  | succ f ih =>
    intro i n hm hn
    rw [fM_waiting_l]
    by_cases c : me.1 i = 0
    · rw [if_pos c]
      exact ih (i + 1) n (by omega) (by rw [hn, ws, if_pos c]; rfl)
    · rw [if_neg c]
      exact ih (i + 1) _ (by omega) (by rw [hn, nI_1, ws, if_neg c]; rfl)
theorem waiting_eq (k : Nat) (wc : WcT) (tc : TcT) (tm : TmT) (wh : WhT) (ag : AgT) (pn : PnT) (ca cf : ChT) (sl sh : SnT) (mc : McT) (mw : MwT) (mp : MpT) (me : MeT) (mo : MoT) (ms : MsT) {r : Nat} (h : RE k ag me r) : fT_waiting k wc tc tm wh ag pn ca cf sl sh = fM_waiting k mc mw mp me mo ms := by
  unfold fT_waiting fM_waiting
  rw [wait_l k mc mw mp me mo ms 30 0 0 rfl rfl]
  exact h.2.2.2.2
/-- cease's first loop -/
theorem cease_1 (k : Nat) (mc : McT) (mw : MwT) (mp : MpT) (ms : MsT) (mo : MoT) : ∀ (fuel i : Nat) (me : MeT), fuel + i = 30 → (∀ p, p < i → me.1 p = 0) → ∃ me', fM_cease_l1 k mc mw mp ms fuel i me mo = fM_cease_l2 k mc mw mp ms 6 0 me' mo ∧ (∀ p, p < 30 → me'.1 p = 0) ∧ me'.2.2.2 = me.2.2.2 := by
  intro fuel
  induction fuel with
  | zero =>
    intro i me hm h
    exact ⟨me, rfl, fun p hp => h p (by omega), rfl⟩
  | succ n ih =>
    intro i me hm h
    obtain ⟨me', g1, g2, g3⟩ := ih (i + 1) (upd me.1 i (0 : Int32), me.2.1, me.2.2.1, me.2.2.2) (by omega) (fun p hp => by
      show upd me.1 i (0 : Int32) p = 0
      by_cases e : p = i
      · subst e; rw [up_s]
      · rw [up_n e]; exact h p (by omega))
    exact ⟨me', g1, g2, g3⟩
/-- shutting down, both sides -/
theorem cease_eq {k : Nat} {ag : AgT} {me : MeT} {pn : PnT} {mo : MoT} {r : Nat} (h : RE k ag me r) (hp : RP pn mo) (hk : k ≤ 6) (mc : McT) (mw : MwT) (mp : MpT) (ms : MsT) : RE k (fA_removeAll k ag) (fM_cease k mc mw mp me mo ms).1 r ∧ RP (fP_switchAllOff pn mw.1) (fM_cease k mc mw mp me mo ms).2 ∧ (fM_cease k mc mw mp me mo ms).2.2.2.2.2 = (mo.2.2.2.2.1, mo.2.2.2.2.2.1, mo.2.2.2.2.2.2 + (1 : Int32)) ∧ (∀ e, e < 30 → (fM_cease k mc mw mp me mo ms).1.1 e = 0) := by
  unfold fM_cease
  obtain ⟨me', g1, g2, g3⟩ := cease_1 k mc mw mp ms (mo.1, mo.2.1, mo.2.2.1, mo.2.2.2.1, mo.2.2.2.2.1, mo.2.2.2.2.2.1, mo.2.2.2.2.2.2 + (1 : Int32)) 30 0 me rfl (fun p hp => by omega)
  obtain ⟨mo2, k1, k2, k3⟩ := off_eq k mc mw mp ms me' pn (mo.1, mo.2.1, mo.2.2.1, mo.2.2.2.1, mo.2.2.2.2.1, mo.2.2.2.2.2.1, mo.2.2.2.2.2.2 + (1 : Int32)) hp
  rw [g1, k1]
  exact ⟨h.all g2 g3 hk, k2, k3, g2⟩

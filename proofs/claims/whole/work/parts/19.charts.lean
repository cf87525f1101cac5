/-! pure: the charts -/
def RCh (ca cf : ChT) (mp : MpT) : Prop := ∀ i, i < 64 → mp i = ca i ∧ mp (64 + i) = cf i
theorem in_neg {v lo hi : Int32} (h : v < lo ∨ hi < v) : fM_in v lo hi = 0 := by
  unfold fM_in
  rcases h with h | h
  · rw [if_pos h]
  · by_cases h1 : v < lo
    · rw [if_pos h1]
    · rw [if_neg h1, if_pos h]
theorem in_pos {v lo hi : Int32} (h1 : ¬ v < lo) (h2 : ¬ hi < v) : fM_in v lo hi = 1 := by
  unfold fM_in
  rw [if_neg h1, if_neg h2]
theorem one_ne0 : ¬ (1 : Int32) = 0 := by decide
/-- an int is out of 0 .. N, or one of them -/
theorem i_cases (x : Int32) {N : Nat} (hN : N < 2 ^ 30) : (x < 0 ∨ nI N < x) ∨ ∃ a : Nat, a ≤ N ∧ x = nI a := by
  by_cases h1 : x < 0
  · exact Or.inl (Or.inl h1)
  · by_cases h2 : nI N < x
    · exact Or.inl (Or.inr h2)
    · exact Or.inr (k_nat2 h1 h2 hN)
theorem inN_pos {a N : Nat} (h : a ≤ N) (hN : N < 2 ^ 30) : fM_in (nI a) (0 : Int32) (nI N) = 1 :=
  in_pos (nI_pos (by omega)) (nI_nlt h (by omega))
theorem ch_pos {N : Nat} {a : Nat} (h : a ≤ N) (hN : N < 2 ^ 30) : ¬ (nI a < 0) ∧ ¬ nI N < nI a := ⟨nI_pos (by omega), nI_nlt h (by omega)⟩
theorem le_of_succ {x : Int32} {N : Nat} (hN : N < 2 ^ 30) (h : nI N < x) : nI (N + 1) ≤ x := by
  have h1 := Int32.lt_iff_toInt_lt.mp h
  rw [nI_toInt (by omega)] at h1
  apply Int32.le_iff_toInt_le.mpr
  rw [nI_toInt (by omega)]
  omega
theorem put_bad {mx : Int32} {ch : ChT} {i j v : Int32} (h : (i < 0 ∨ nI 7 < i) ∨ (j < 0 ∨ nI 7 < j) ∨ (v < 0 ∨ mx < v)) : fC_put mx ch i j v = (0, ch) := by
  unfold fC_put
  by_cases h1 : i < 0
  · rw [if_pos h1]
  rw [if_neg h1]
  by_cases h2 : (8 : Int32) ≤ i
  · rw [if_pos h2]
  rw [if_neg h2]
  by_cases h3 : j < 0
  · rw [if_pos h3]
  rw [if_neg h3]
  by_cases h4 : (8 : Int32) ≤ j
  · rw [if_pos h4]
  rw [if_neg h4]
  by_cases h5 : v < 0
  · rw [if_pos h5]
  rw [if_neg h5]
  by_cases h6 : v ≤ mx
  · exfalso
    rcases h with (h | h) | (h | h) | (h | h)
    · exact h1 h
    · exact h2 (le_of_succ (N := 7) (by decide) h)
    · exact h3 h
    · exact h4 (le_of_succ (N := 7) (by decide) h)
    · exact h5 h
    · exact (Int32.not_lt.mpr h6) h
  · rw [if_neg h6]
theorem put_ok {mx : Int32} {ch : ChT} {a b : Nat} {v : Int32} (ha : a ≤ 7) (hb : b ≤ 7) (h1 : ¬ v < 0) (h2 : ¬ mx < v) : fC_put mx ch (nI a) (nI b) v = (1, upd ch (8 * a + b) v) := by
  unfold fC_put
  rw [if_neg (nI_pos (by omega)), if_neg (show ¬ (8 : Int32) ≤ nI a from nI_ge (a := a) (b := 8) (by omega) (by decide)), if_neg (nI_pos (by omega)), if_neg (show ¬ (8 : Int32) ≤ nI b from nI_ge (a := b) (b := 8) (by omega) (by decide)), if_neg h1, if_pos (Int32.not_lt.mp h2)]
  have e : nI a * (8 : Int32) + nI b = nI (8 * a + b) := by
    rw [Nat.mul_comm 8 a, ← nI_add, ← pk_mul]; rfl
  rw [e, nI_clamp (by omega)]
theorem set_ix {a b c : Nat} (ha : a ≤ 1) (hb : b ≤ 7) (hc : c ≤ 7) : ((((64 : Int32) * nI a) + ((8 : Int32) * nI b)) + nI c).toNatClampNeg = 64 * a + (8 * b + c) := by
  have e : (64 : Int32) * nI a + (8 : Int32) * nI b + nI c = nI (64 * a + 8 * b + c) := by rw [← nI_add, ← nI_add, ← pk_mul, ← pk_mul]; rfl
  rw [e, nI_clamp (by omega)]
  omega
theorem RCh.put0 {ca cf : ChT} {mp : MpT} (h : RCh ca cf mp) {i : Nat} (hi : i < 64) (v : Int32) : RCh (upd ca i v) cf (upd mp i v) := by
  intro j hj
  have := h j hj
  refine ⟨?_, ?_⟩
  · unfold upd
    by_cases e : j = i
    · rw [if_pos e, if_pos e]
    · rw [if_neg e, if_neg e]; exact this.1
  · unfold upd
    rw [if_neg (show ¬ 64 + j = i by omega)]; exact this.2
theorem RCh.put1 {ca cf : ChT} {mp : MpT} (h : RCh ca cf mp) {i : Nat} (hi : i < 64) (v : Int32) : RCh ca (upd cf i v) (upd mp (64 + i) v) := by
  intro j hj
  have := h j hj
  refine ⟨?_, ?_⟩
  · unfold upd
    rw [if_neg (show ¬ j = 64 + i by omega)]; exact this.1
  · unfold upd
    by_cases e : j = i
    · rw [if_pos (show 64 + j = 64 + i by omega), if_pos e]
    · rw [if_neg (show ¬ 64 + j = 64 + i by omega), if_neg e]; exact this.2
set_option maxHeartbeats 1000000 in
theorem set_eq (k : Nat) (wc : WcT) (tc : TcT) (tm : TmT) (wh : WhT) (ag : AgT) (pn : PnT) (ca cf : ChT) (sl sh : SnT) (mc : McT) (mw : MwT) (mp : MpT) (me : MeT) (mo : MoT) (ms : MsT) (ch i j v : Int32) (h : RCh ca cf mp) :
    (fT_set k wc tc tm wh ag pn ca cf sl sh ch i j v).1 = (fM_set k mc mw mp me mo ms ch i j v).1 ∧ RCh (fT_set k wc tc tm wh ag pn ca cf sl sh ch i j v).2.1 (fT_set k wc tc tm wh ag pn ca cf sl sh ch i j v).2.2 (fM_set k mc mw mp me mo ms ch i j v).2 := by
  rcases i_cases ch (N := 1) (by decide) with hc | ⟨a, ha, rfl⟩
  · have e1 : ¬ ch = 0 := by
      intro e; subst e
      rcases hc with hc | hc <;> exact absurd hc (by decide)
    have e2 : ¬ ch = (1 : Int32) := by
      intro e; subst e
      rcases hc with hc | hc <;> exact absurd hc (by decide)
    have e3 : fM_in ch (0 : Int32) (1 : Int32) = 0 := in_neg hc
    unfold fT_set fM_set
    simp only [if_neg e1, if_neg e2, e3, if_true]
    exact ⟨trivial, h⟩
  · have e3 : fM_in (nI a) (0 : Int32) (1 : Int32) = 1 := inN_pos (N := 1) ha (by decide)
    rcases i_cases i (N := 7) (by decide) with hi | ⟨b, hb, rfl⟩
    · have p1 : fC_put (2047 : Int32) ca i j v = (0, ca) := put_bad (Or.inl hi)
      have p2 : fC_put (32000 : Int32) cf i j v = (0, cf) := put_bad (Or.inl hi)
      have e4 : fM_in i (0 : Int32) (7 : Int32) = 0 := in_neg hi
      unfold fT_set fM_set
      simp only [p1, p2, e3, e4, if_neg one_ne0, if_true, ite_self]
      exact ⟨trivial, h⟩
    · have e4 : fM_in (nI b) (0 : Int32) (7 : Int32) = 1 := inN_pos (N := 7) hb (by decide)
      rcases i_cases j (N := 7) (by decide) with hj | ⟨c, hcc, rfl⟩
      · have p1 : fC_put (2047 : Int32) ca (nI b) j v = (0, ca) := put_bad (Or.inr (Or.inl hj))
        have p2 : fC_put (32000 : Int32) cf (nI b) j v = (0, cf) := put_bad (Or.inr (Or.inl hj))
        have e5 : fM_in j (0 : Int32) (7 : Int32) = 0 := in_neg hj
        unfold fT_set fM_set
        simp only [p1, p2, e3, e4, e5, if_neg one_ne0, if_true, ite_self]
        exact ⟨trivial, h⟩
      · have e5 : fM_in (nI c) (0 : Int32) (7 : Int32) = 1 := inN_pos (N := 7) hcc (by decide)
        have hx := set_ix ha hb hcc
        have hcase : a = 0 ∨ a = 1 := by omega
        rcases hcase with rfl | rfl
        · have z0 : nI 0 = 0 := rfl
          rw [z0] at hx
          by_cases hv : v < 0 ∨ (2047 : Int32) < v
          · have p1 : fC_put (2047 : Int32) ca (nI b) (nI c) v = (0, ca) := put_bad (Or.inr (Or.inr hv))
            have e6 : fM_in v (0 : Int32) (2047 : Int32) = 0 := in_neg hv
            unfold fT_set fM_set
            simp only [z0] at e3 ⊢
            simp only [p1, e3, e4, e5, e6, if_neg one_ne0, if_true]
            exact ⟨trivial, h⟩
          · have hv1 : ¬ v < 0 := fun z => hv (Or.inl z)
            have hv2 : ¬ (2047 : Int32) < v := fun z => hv (Or.inr z)
            have p1 := put_ok (mx := (2047 : Int32)) (ch := ca) hb hcc hv1 hv2
            have e6 : fM_in v (0 : Int32) (2047 : Int32) = 1 := in_pos hv1 hv2
            unfold fT_set fM_set
            simp only [z0] at e3 ⊢
            simp only [p1, e3, e4, e5, e6, if_neg one_ne0, if_true, hx]
            refine ⟨trivial, ?_⟩
            have := h.put0 (i := 8 * b + c) (by omega) v
            simpa using this
        · have z1 : nI 1 = 1 := rfl
          rw [z1] at hx
          have n1 : ¬ (1 : Int32) = 0 := by decide
          by_cases hv : v < 0 ∨ (32000 : Int32) < v
          · have p1 : fC_put (32000 : Int32) cf (nI b) (nI c) v = (0, cf) := put_bad (Or.inr (Or.inr hv))
            have e6 : fM_in v (0 : Int32) (32000 : Int32) = 0 := in_neg hv
            unfold fT_set fM_set
            simp only [z1] at e3 ⊢
            simp only [p1, e3, e4, e5, e6, if_neg n1, if_true]
            exact ⟨trivial, h⟩
          · have hv1 : ¬ v < 0 := fun z => hv (Or.inl z)
            have hv2 : ¬ (32000 : Int32) < v := fun z => hv (Or.inr z)
            have p1 := put_ok (mx := (32000 : Int32)) (ch := cf) hb hcc hv1 hv2
            have e6 : fM_in v (0 : Int32) (32000 : Int32) = 1 := in_pos hv1 hv2
            unfold fT_set fM_set
            simp only [z1] at e3 ⊢
            simp only [p1, e3, e4, e5, e6, if_neg n1, if_true, hx]
            refine ⟨trivial, ?_⟩
            exact h.put1 (i := 8 * b + c) (by omega) v

theorem rem256 {a : Nat} (ha : a ≤ 1791) : nI a - nI a / (256 : Int32) * (256 : Int32) = nI (a % 256) := pk_rem (a := a) (d := 256) (by omega) (by decide) (by decide)
theorem div256 {a : Nat} (ha : a ≤ 1791) : nI a / (256 : Int32) = nI (a / 256) := pk_div (a := a) (d := 256) (by omega) (by decide) (by decide)
/-- what is read at a place of a chart, in 64 bits -/
def lkv (P : Nat → Int32) (a b : Nat) : Int32 :=
  (((((P (8 * (a / 256) + b / 256)).toInt64 * ((256 : Int64) - lN (b % 256)) + (P (8 * (a / 256) + b / 256 + 1)).toInt64 * lN (b % 256)) * ((256 : Int64) - lN (a % 256)) + ((P (8 * (a / 256) + b / 256 + 8)).toInt64 * ((256 : Int64) - lN (b % 256)) + (P (8 * (a / 256) + b / 256 + 9)).toInt64 * lN (b % 256)) * lN (a % 256)) + (32768 : Int64)) / (65536 : Int64)).toInt32
theorem ix_at {a b : Nat} (ha : a ≤ 1791) (hb : b ≤ 1791) : (nI (a / 256) * (8 : Int32) + nI (b / 256)) = nI (8 * (a / 256) + b / 256) := by
  rw [Nat.mul_comm 8 (a / 256), ← nI_add, ← pk_mul]; rfl
theorem at_val (mx : Int32) (ch : ChT) {a b : Nat} (ha : a ≤ 1791) (hb : b ≤ 1791) : fC_at mx ch (nI a) (nI b) = lkv ch a b := by
  unfold fC_at
  rw [if_neg (nI_pos (by omega)), if_neg (show ¬ (1791 : Int32) < nI a from nI_nlt (a := 1791) (b := a) ha (by decide)), if_neg (nI_pos (by omega)), if_pos (show nI b ≤ (1791 : Int32) from nI_le (a := b) (b := 1791) hb (by decide))]
  rw [rem256 ha, rem256 hb, div256 ha, div256 hb, ix_at ha hb, nI_1, show nI (8 * (a / 256) + b / 256) + (8 : Int32) = nI (8 * (a / 256) + b / 256 + 8) from nI_add _ 8, nI_1, nI_clamp (by omega), nI_clamp (by omega), nI_clamp (by omega), nI_clamp (by omega), nI_l (by omega), nI_l (by omega)]
  rfl
theorem at_bad (mx : Int32) (ch : ChT) {x y : Int32} (h : (x < 0 ∨ (1791 : Int32) < x) ∨ (y < 0 ∨ (1791 : Int32) < y)) : fC_at mx ch x y = (-1 : Int32) := by
  unfold fC_at
  by_cases h1 : x < 0
  · rw [if_pos h1]
  rw [if_neg h1]
  by_cases h2 : (1791 : Int32) < x
  · rw [if_pos h2]
  rw [if_neg h2]
  by_cases h3 : y < 0
  · rw [if_pos h3]
  rw [if_neg h3]
  by_cases h4 : y ≤ (1791 : Int32)
  · exfalso
    rcases h with (h | h) | (h | h)
    · exact h1 h
    · exact h2 h
    · exact h3 h
    · exact (Int32.not_lt.mpr h4) h
  · rw [if_neg h4]
theorem ix_look {c a b : Nat} (hc : c ≤ 1) (ha : a ≤ 1791) (hb : b ≤ 1791) {i : Nat} (hi : i < 4) : ((((64 : Int32) * nI c) + ((8 : Int32) * (nI (a / 256) + nI (i % 2)))) + (nI (b / 256) + nI (i / 2))).toNatClampNeg = 64 * c + (8 * (a / 256) + b / 256 + (8 * (i % 2) + i / 2)) := by
  have e : (64 : Int32) * nI c + (8 : Int32) * (nI (a / 256) + nI (i % 2)) + (nI (b / 256) + nI (i / 2)) = nI (64 * c + 8 * (a / 256 + i % 2) + (b / 256 + i / 2)) := by
    rw [← nI_add, ← nI_add, ← pk_mul, ← pk_mul, ← nI_add, ← nI_add]; rfl
  rw [e, nI_clamp (by omega)]
  omega
theorem w_look {f g : Nat} (hf : f ≤ 256) (hg : g ≤ 256) : (nI f * nI g).toInt64 = lN f * lN g := by
  rw [pk_mul, lN_mul, nI_l]
  have := Nat.mul_le_mul hf hg
  omega
theorem s_look {f : Nat} (hf : f ≤ 256) : (256 : Int32) - nI f = nI (256 - f) := pk_sub (a := 256) (b := f) hf
theorem s_look2 {f : Nat} (hf : f ≤ 256) : lN (256 - f) = (256 : Int64) - lN f := (lN_sub (a := 256) (b := f) hf).symm
set_option maxHeartbeats 1000000 in
theorem look_val (k : Nat) (mc : McT) (mw : MwT) (mp : MpT) (me : MeT) (mo : MoT) (ms : MsT) {c a b : Nat} (hc : c ≤ 1) (ha : a ≤ 1791) (hb : b ≤ 1791) : fM_look k mc mw mp me mo ms (nI c) (nI a) (nI b) = lkv (fun i => mp (64 * c + i)) a b := by
  have e1 : fM_in (nI c) (0 : Int32) (1 : Int32) = 1 := inN_pos (N := 1) hc (by decide)
  have e2 : fM_in (nI a) (0 : Int32) (1791 : Int32) = 1 := inN_pos (N := 1791) ha (by decide)
  have e3 : fM_in (nI b) (0 : Int32) (1791 : Int32) = 1 := inN_pos (N := 1791) hb (by decide)
  unfold fM_look
  simp only [e1, e2, e3, if_neg one_ne0]
  rw [fM_look_l, if_pos (show nI (0 % 2) = 0 from rfl), if_pos (show nI (0 / 2) = 0 from rfl)]
  rw [fM_look_l, if_neg (show ¬ nI ((0 + 1) % 2) = 0 by decide), if_pos (show nI ((0 + 1) / 2) = 0 from rfl)]
  rw [fM_look_l, if_pos (show nI ((0 + 1 + 1) % 2) = 0 from rfl), if_neg (show ¬ nI ((0 + 1 + 1) / 2) = 0 by decide)]
  rw [fM_look_l, if_neg (show ¬ nI ((0 + 1 + 1 + 1) % 2) = 0 by decide), if_neg (show ¬ nI ((0 + 1 + 1 + 1) / 2) = 0 by decide)]
  rw [fM_look_l]
  have hf : a % 256 ≤ 256 := by omega
  have hg : b % 256 ≤ 256 := by omega
  rw [rem256 ha, rem256 hb, div256 ha, div256 hb, ix_look hc ha hb (i := 0) (by decide), ix_look hc ha hb (i := 0 + 1) (by decide), ix_look hc ha hb (i := 0 + 1 + 1) (by decide), ix_look hc ha hb (i := 0 + 1 + 1 + 1) (by decide)]
  rw [s_look hf, s_look hg, w_look (by omega) (by omega), w_look hf (by omega), w_look (by omega) hg, w_look hf hg, s_look2 hf, s_look2 hg]
  unfold lkv
  generalize lN (a % 256) = F
  generalize lN (b % 256) = G
  simp only [show 64 * c + (8 * (a / 256) + b / 256 + (8 * (0 % 2) + 0 / 2)) = 64 * c + (8 * (a / 256) + b / 256) by omega, show 64 * c + (8 * (a / 256) + b / 256 + (8 * ((0 + 1) % 2) + (0 + 1) / 2)) = 64 * c + (8 * (a / 256) + b / 256 + 8) by omega, show 64 * c + (8 * (a / 256) + b / 256 + (8 * ((0 + 1 + 1) % 2) + (0 + 1 + 1) / 2)) = 64 * c + (8 * (a / 256) + b / 256 + 1) by omega, show 64 * c + (8 * (a / 256) + b / 256 + (8 * ((0 + 1 + 1 + 1) % 2) + (0 + 1 + 1 + 1) / 2)) = 64 * c + (8 * (a / 256) + b / 256 + 9) by omega]
  generalize (mp (64 * c + (8 * (a / 256) + b / 256))).toInt64 = p0
  generalize (mp (64 * c + (8 * (a / 256) + b / 256 + 1))).toInt64 = p1
  generalize (mp (64 * c + (8 * (a / 256) + b / 256 + 8))).toInt64 = p2
  generalize (mp (64 * c + (8 * (a / 256) + b / 256 + 9))).toInt64 = p3
  refine congrArg (fun z : Int64 => (z / (65536 : Int64)).toInt32) ?_
  grind
theorem lkv_congr {P Q : Nat → Int32} (h : ∀ i, i < 64 → P i = Q i) {a b : Nat} (ha : a ≤ 1791) (hb : b ≤ 1791) : lkv P a b = lkv Q a b := by
  unfold lkv
  rw [h (8 * (a / 256) + b / 256) (by omega), h (8 * (a / 256) + b / 256 + 1) (by omega), h (8 * (a / 256) + b / 256 + 8) (by omega), h (8 * (a / 256) + b / 256 + 9) (by omega)]
theorem look_bad (k : Nat) (mc : McT) (mw : MwT) (mp : MpT) (me : MeT) (mo : MoT) (ms : MsT) {ch x y : Int32} (h : (ch < 0 ∨ (1 : Int32) < ch) ∨ (x < 0 ∨ (1791 : Int32) < x) ∨ (y < 0 ∨ (1791 : Int32) < y)) : fM_look k mc mw mp me mo ms ch x y = (-1 : Int32) := by
  unfold fM_look
  dsimp only
  rcases h with h | h | h
  · rw [in_neg h, if_pos rfl]
  · by_cases h1 : fM_in ch (0 : Int32) (1 : Int32) = 0
    · rw [if_pos h1]
    · rw [if_neg h1, in_neg h, if_pos rfl]
  · by_cases h1 : fM_in ch (0 : Int32) (1 : Int32) = 0
    · rw [if_pos h1]
    · rw [if_neg h1]
      by_cases h2 : fM_in x (0 : Int32) (1791 : Int32) = 0
      · rw [if_pos h2]
      · rw [if_neg h2, in_neg h, if_pos rfl]
/-- the charts' answers are one -/
theorem at_eq {ca cf : ChT} {mp : MpT} (h : RCh ca cf mp) (k : Nat) (mc : McT) (mw : MwT) (me : MeT) (mo : MoT) (ms : MsT) (x y : Int32) : fC_at (2047 : Int32) ca x y = fM_look k mc mw mp me mo ms (0 : Int32) x y ∧ fC_at (32000 : Int32) cf x y = fM_look k mc mw mp me mo ms (1 : Int32) x y := by
  rcases i_cases x (N := 1791) (by decide) with hx | ⟨a, ha, rfl⟩
  · rw [at_bad _ _ (Or.inl hx), at_bad _ _ (Or.inl hx), look_bad _ _ _ _ _ _ _ (Or.inr (Or.inl hx)), look_bad _ _ _ _ _ _ _ (Or.inr (Or.inl hx))]
    exact ⟨rfl, rfl⟩
  · rcases i_cases y (N := 1791) (by decide) with hy | ⟨b, hb, rfl⟩
    · rw [at_bad _ _ (Or.inr hy), at_bad _ _ (Or.inr hy), look_bad _ _ _ _ _ _ _ (Or.inr (Or.inr hy)), look_bad _ _ _ _ _ _ _ (Or.inr (Or.inr hy))]
      exact ⟨rfl, rfl⟩
    · rw [at_val _ _ ha hb, at_val _ _ ha hb]
      have l0 : fM_look k mc mw mp me mo ms (0 : Int32) (nI a) (nI b) = _ := look_val k mc mw mp me mo ms (c := 0) (by decide) ha hb
      have l1 : fM_look k mc mw mp me mo ms (1 : Int32) (nI a) (nI b) = _ := look_val k mc mw mp me mo ms (c := 1) (by decide) ha hb
      rw [l0, l1]
      exact ⟨lkv_congr (fun i hi => by rw [Nat.mul_zero, Nat.zero_add]; exact (h i hi).1.symm) ha hb, lkv_congr (fun i hi => (h i hi).2.symm) ha hb⟩
theorem look_eq {ca cf : ChT} {mp : MpT} (h : RCh ca cf mp) (k : Nat) (wc : WcT) (tc : TcT) (tm : TmT) (wh : WhT) (ag : AgT) (pn : PnT) (sl sh : SnT) (mc : McT) (mw : MwT) (me : MeT) (mo : MoT) (ms : MsT) (ch x y : Int32) : fT_look k wc tc tm wh ag pn ca cf sl sh ch x y = fM_look k mc mw mp me mo ms ch x y := by
  unfold fT_look
  dsimp only
  by_cases h0 : ch = 0
  · rw [if_pos h0, h0]; exact (at_eq h k mc mw me mo ms x y).1
  · rw [if_neg h0]
    by_cases h1 : ch = (1 : Int32)
    · rw [if_pos h1, h1]; exact (at_eq h k mc mw me mo ms x y).2
    · rw [if_neg h1]
      rcases i_cases ch (N := 1) (by decide) with hc | ⟨a, ha, rfl⟩
      · exact (look_bad _ _ _ _ _ _ _ (Or.inl hc)).symm
      · exfalso
        rcases (show a = 0 ∨ a = 1 by omega) with rfl | rfl
        · exact h0 rfl
        · exact h1 rfl

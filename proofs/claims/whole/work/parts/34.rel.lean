/-! pure: the relation of every call -/
theorem put_B {ca : ChT} (h : CaB ca) (i j v : Int32) : CaB (fC_put (2047 : Int32) ca i j v).2 := by
  unfold fC_put
  by_cases c1 : i < 0
  · rw [if_pos c1]; exact h
  · rw [if_neg c1]
    by_cases c2 : (8 : Int32) ≤ i
    · rw [if_pos c2]; exact h
    · rw [if_neg c2]
      by_cases c3 : j < 0
      · rw [if_pos c3]; exact h
      · rw [if_neg c3]
        by_cases c4 : (8 : Int32) ≤ j
        · rw [if_pos c4]; exact h
        · rw [if_neg c4]
          by_cases c5 : v < 0
          · rw [if_pos c5]; exact h
          · rw [if_neg c5]
            by_cases c6 : v ≤ (2047 : Int32)
            · rw [if_pos c6]
              intro q hq
              show ∃ w, w ≤ 2047 ∧ upd ca (((i * (8 : Int32)) + j).toNatClampNeg) v q = nI w
              unfold upd
              by_cases c7 : q = ((i * (8 : Int32)) + j).toNatClampNeg
              · rw [if_pos c7]
                rcases i_cases v (N := 2047) (by decide) with (z | z) | ⟨a, a1, a2⟩
                · exact absurd z c5
                · exact absurd z (Int32.not_lt.mpr c6)
                · exact ⟨a, a1, a2⟩
              · rw [if_neg c7]; exact h q hq
            · rw [if_neg c6]; exact h
theorem set_B {ca : ChT} (h : CaB ca) (k : Nat) (wc : WcT) (tc : TcT) (tm : TmT) (wh : WhT) (ag : AgT) (pn : PnT) (cf : ChT) (sl sh : SnT) (ch i j v : Int32) : CaB (fT_set k wc tc tm wh ag pn ca cf sl sh ch i j v).2.1 := by
  have hp := put_B h i j v
  unfold fT_set
  dsimp only
  by_cases c1 : ch = 0
  · rw [if_pos c1]
    by_cases c2 : (fC_put (2047 : Int32) ca i j v).1 = 0
    · rw [if_pos c2]; exact hp
    · rw [if_neg c2]; exact hp
  · rw [if_neg c1]
    by_cases c2 : ch = (1 : Int32)
    · rw [if_pos c2]
      by_cases c3 : (fC_put (32000 : Int32) cf i j v).1 = 0
      · rw [if_pos c3]; exact h
      · rw [if_neg c3]; exact h
    · rw [if_neg c2]; exact h
theorem bound_within (x : Int32) {lo hi : Int32} (h : lo ≤ hi) : fM_bound x lo hi = fT_within x lo hi := by
  unfold fM_bound fT_within fJ_maxI fJ_min
  dsimp only
  repeat' split
  all_goals first | rfl | (apply Int32.toInt_inj.mp; simp only [Int32.lt_iff_toInt_lt, Int32.le_iff_toInt_le] at *; omega)
theorem within_val (x : Int32) {lo hi : Nat} (h : lo ≤ hi) (hh : hi < 2 ^ 30) : ∃ a, lo ≤ a ∧ a ≤ hi ∧ fT_within x (nI lo) (nI hi) = nI a := by
  have t1 : (nI lo).toInt = lo := nI_toInt (by omega)
  have t6 : (nI hi).toInt = hi := nI_toInt (by omega)
  have e : ¬ fT_within x (nI lo) (nI hi) < nI lo ∧ ¬ nI hi < fT_within x (nI lo) (nI hi) := by
    unfold fT_within fJ_maxI fJ_min
    dsimp only
    constructor
    · repeat' split
      all_goals (simp only [Int32.lt_iff_toInt_lt, Int32.le_iff_toInt_le] at *; omega)
    · repeat' split
      all_goals (simp only [Int32.lt_iff_toInt_lt, Int32.le_iff_toInt_le] at *; omega)
  rcases i_cases (fT_within x (nI lo) (nI hi)) (N := hi) hh with (z | z) | ⟨a, a1, a2⟩
  · exact absurd (Int32.lt_of_lt_of_le z (nI_pos' (by omega))) e.1
  · exact absurd z e.2
  · refine ⟨a, ?_, a1, a2⟩
    rw [a2] at e
    rcases Nat.lt_or_ge a lo with h4 | h4
    · exact absurd (nI_lt h4 (by omega)) e.1
    · exact h4
theorem CO_all (po cg dw : Int32) : ∃ p, CO p (wcI po) (tcI cg dw) (mcI po cg dw) := by
  obtain ⟨a, a1, a2, a3⟩ := within_val po (lo := 12) (hi := 60) (by decide) (by decide)
  obtain ⟨g, g1, g2, g3⟩ := within_val cg (lo := 1) (hi := 8) (by decide) (by decide)
  have a3 : fT_within po (12 : Int32) (60 : Int32) = nI a := a3
  have g3 : fT_within cg (1 : Int32) (8 : Int32) = nI g := g3
  have e1 : fM_bound po (12 : Int32) (60 : Int32) = nI a := by rw [bound_within po (by decide), a3]
  have e2 : fM_bound cg (1 : Int32) (8 : Int32) = nI g := by rw [bound_within cg (by decide), g3]
  have e3 : fM_bound dw (1 : Int32) (100000 : Int32) = fT_within dw (1 : Int32) (100000 : Int32) := bound_within dw (by decide)
  have s3 : nI a - (3 : Int32) = nI (a - 3) := pk_sub (b := 3) (by omega)
  have m1 : (2 : Int32) * nI a * (64 : Int32) = nI (128 * a) := by
    have : 128 * a = 2 * a * 64 := by omega
    rw [this, ← pk_mul, ← pk_mul]; rfl
  have m2 : (128 : Int32) * nI a = nI (128 * a) := by rw [← pk_mul]; rfl
  have m3 : (64 : Int32) * nI g = nI (64 * g) := by rw [← pk_mul]; rfl
  refine ⟨a, a1, a2, ?_, ?_, ?_, ?_, ?_, 64 * g, by omega, ?_⟩
  · show (_, _, _) = _
    rw [a3, s3, m1]
  · show fM_bound po (12 : Int32) (60 : Int32) - (3 : Int32) = _
    rw [e1, s3]
  · show (128 : Int32) * fM_bound po (12 : Int32) (60 : Int32) = _
    rw [e1, m2]
  · show (64 : Int32) * fT_within cg (1 : Int32) (8 : Int32) = (64 : Int32) * fM_bound cg (1 : Int32) (8 : Int32)
    rw [g3, e2]
  · exact e3.symm
  · show (64 : Int32) * fT_within cg (1 : Int32) (8 : Int32) = _
    rw [g3, m3]
def Rl (po cy cg dw : Int32) (n : Nat) (tm : TmT) (wh : WhT) (ag : AgT) (pn : PnT) (ca : ChT) (cf : ChT) (sl : SnT) (sh : SnT) (mw : MwT) (mp : MpT) (me : MeT) (mo : MoT) (ms : MsT) : Prop :=
  ∃ p r : Nat, CO p (wcI po) (tcI cg dw) (mcI po cg dw) ∧ r ≤ 10000 * n ∧ RT (kOf cy) p (64000000 * n) r tm wh ag pn mw me mo ∧ RCh ca cf mp ∧ CaB ca ∧ RSS sl sh ms
theorem Rl_0 (po cy cg dw : Int32) : Rl po cy cg dw 0 tmI whI agI pnI chI chI slI shI mwI mpI meI moI msI := by
  obtain ⟨p, hco⟩ := CO_all po cg dw
  refine ⟨p, 0, hco, by omega, ⟨rfl, rfl, ?_, ?_, ?_, ?_, fun _ _ _ => rfl, fun e he hne => absurd rfl hne⟩, fun _ _ => ⟨rfl, rfl⟩, fun _ _ => ⟨0, by decide, rfl⟩, ?_, ?_⟩
  · refine ⟨rfl, rfl, rfl, rfl, rfl, Or.inl rfl, fun _ => rfl, ?_, fun _ => rfl, fun _ => rfl, Or.inl rfl, fun z => absurd z n_m0, Or.inl rfl⟩
    rintro (z | z)
    · exact absurd z n_02
    · exact absurd z n_03
  · exact ⟨0, 0, 0, rfl, rfl, rfl, Nat.le_refl _, Nat.zero_le _, Nat.zero_le _, fun _ => rfl, fun z => absurd rfl z⟩
  · refine ⟨fun i c _ _ => ⟨⟨fun _ => rfl, fun _ => rfl⟩, fun z => absurd rfl z⟩, fun _ _ _ _ _ => rfl, rfl, rfl, ?_⟩
    decide +kernel
  · refine ⟨?_, rfl, fun _ _ => rfl⟩
    intro i hi
    have e : onB moI i = false := by simp [onB]
    rw [e]
    show (0 : Int32).toBitVec.getLsbD i = false
    simp
  · exact ⟨Or.inl ⟨rfl, rfl⟩, Or.inl ⟨rfl, rfl⟩, ⟨0, by decide, rfl, rfl⟩, rfl, fun _ _ => rfl⟩
  · exact ⟨Or.inl ⟨rfl, rfl⟩, Or.inl ⟨rfl, rfl⟩, ⟨0, by decide, rfl, rfl⟩, rfl, fun _ _ => rfl⟩
theorem Rl_skip {po cy cg dw : Int32} {n : Nat} {tm : TmT} {wh : WhT} {ag : AgT} {pn : PnT} {ca : ChT} {cf : ChT} {sl : SnT} {sh : SnT} {mw : MwT} {mp : MpT} {me : MeT} {mo : MoT} {ms : MsT} (h : Rl po cy cg dw n tm wh ag pn ca cf sl sh mw mp me mo ms) : Rl po cy cg dw (n + 1) tm wh ag pn ca cf sl sh mw mp me mo ms := by
  obtain ⟨p, r, h1, h2, h3, h4⟩ := h
  exact ⟨p, r, h1, by omega, h3.up (by omega), h4⟩
section QS
variable {k p B r : Nat} {wc : WcT} {tc : TcT} {mc : McT} {ca cf : ChT} {mp : MpT} {sl sh : SnT} {ms : MsT} {tm : TmT} {wh : WhT} {ag : AgT} {pn : PnT} {mw : MwT} {me : MeT} {mo : MoT}
theorem tooth_q (h : RT k p B r tm wh ag pn mw me mo) : fT_tooth k wc tc tm wh ag pn ca cf sl sh = fM_tooth k mc mw mp me mo ms := by
  obtain ⟨w1, w2, w3, w4, w5, w6, w7, w8, w9, w10, w11, w12, w13⟩ := h.2.2.1
  unfold fT_tooth fM_tooth
  have w4 : wh.1 = mw.2.2.2.2.1 := w4
  rw [← w4]
  rcases w6 with h | h | h | h
  · rw [if_pos (by rw [h]; decide)]; exact w9 (Or.inl h)
  · rw [if_pos (by rw [h]; decide)]; exact w9 (Or.inr h)
  · rw [if_neg (by rw [h]; decide)]
    obtain ⟨t, t1, t2, t3⟩ := w8 (Or.inl h)
    rw [t2]; exact t3.symm
  · rw [if_neg (by rw [h]; decide)]
    obtain ⟨t, t1, t2, t3⟩ := w8 (Or.inr h)
    rw [t2]; exact t3.symm
theorem turn_q (h : RT k p B r tm wh ag pn mw me mo) : fT_turn k wc tc tm wh ag pn ca cf sl sh = fM_turn k mc mw mp me mo ms := by
  obtain ⟨w1, w2, w3, w4, w5, w6, w7, w8, w9, w10, w11, w12, w13⟩ := h.2.2.1
  unfold fT_turn fM_turn
  have w4 : wh.1 = mw.2.2.2.2.1 := w4
  rw [← w4]
  by_cases c : wh.1 = (3 : Int32)
  · rw [if_pos c]; exact w5
  · rw [if_neg c]; exact w10 c
theorem tally_q (h : RT k p B r tm wh ag pn mw me mo) (i : Int32) : fT_tally k wc tc tm wh ag pn ca cf sl sh i = fM_tally k mc mw mp me mo ms i := by
  have e1 := h.2.1
  have e2 := h.2.2.2.2.2.1.2.1
  unfold fT_tally fM_tally
  rw [e1, e2]
end QS

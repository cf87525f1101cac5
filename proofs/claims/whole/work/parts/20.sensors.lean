/-! pure: the sensors -/
def hvl (s : Int32) : Int32 := fM_corner (s / (256 : Int32)) + fM_down ((fM_corner (s / (256 : Int32) + (1 : Int32)) - fM_corner (s / (256 : Int32))) * (s - s / (256 : Int32) * (256 : Int32))) (256 : Int32)
def RS (e : Nat) (fst : Int32) (val : Int32 → Int32) (sn : SnT) (ms : MsT) : Prop :=
  ((ms.1 e = 0 ∧ sn.2.1 = (-1 : Int32)) ∨ (¬ ms.1 e = 0 ∧ sn.2.1 = ms.2.1 e)) ∧
  ((ms.2.2.1 e = 0 ∧ sn.1 = fst) ∨ (¬ ms.2.2.1 e = 0 ∧ ∃ a : Nat, 16 ≤ a ∧ a ≤ 1007 ∧ ms.2.2.2.1 e = nI a ∧ sn.1 = val (nI a))) ∧
  (∃ f : Nat, f ≤ 6 ∧ ms.2.2.2.2.1 e = nI f ∧ sn.2.2.1 = nI f) ∧
  sn.2.2.2.1 = ms.2.2.2.2.2.1 e ∧ (∀ j, j < 3 → sn.2.2.2.2 j = ms.2.2.2.2.2.2 (3 * e + j))
theorem onL : ∀ a, a < 1008 → fS_onCurve lc 0 (0, 0, 0, 0, fun _ => 0) (nI a) = nI a := by decide +kernel
theorem onH : ∀ a, a < 1008 → fS_onCurve hc 0 (0, 0, 0, 0, fun _ => 0) (nI a) = hvl (nI a) := by decide +kernel
theorem on_any (fc : Nat → Int32) (sb : Int32) (sn : SnT) (sv : Int32) : fS_onCurve fc sb sn sv = fS_onCurve fc 0 (0, 0, 0, 0, fun _ => 0) sv := rfl
theorem val0 {sn : SnT} {ms : MsT} (h : RS 0 512 id sn ms) (k : Nat) (mc : McT) (mw : MwT) (mp : MpT) (me : MeT) (mo : MoT) : fS_reading lc (400 : Int32) sn = fM_valueOf k mc mw mp me mo ms 0 := by
  obtain ⟨-, h2, ⟨f, hf, f1, f2⟩, -, -⟩ := h
  unfold fS_reading fM_valueOf
  rw [f1, f2]
  by_cases h3 : nI f < (3 : Int32)
  · rw [if_pos h3, if_pos h3]
    rcases h2 with ⟨g1, g2⟩ | ⟨g1, a, -, -, g3, g4⟩
    · rw [if_pos g1, if_pos (show nI 0 = 0 from rfl), g2]
    · rw [if_neg g1, if_pos (show nI 0 = 0 from rfl), g3, g4]; rfl
  · rw [if_neg h3, if_neg h3, if_pos (show nI 0 = 0 from rfl)]
theorem val1 {sn : SnT} {ms : MsT} (h : RS 1 60 hvl sn ms) (k : Nat) (mc : McT) (mw : MwT) (mp : MpT) (me : MeT) (mo : MoT) : fS_reading hc (80 : Int32) sn = fM_valueOf k mc mw mp me mo ms 1 := by
  obtain ⟨-, h2, ⟨f, hf, f1, f2⟩, -, -⟩ := h
  have n1 : ¬ nI 1 = 0 := by decide
  unfold fS_reading fM_valueOf
  rw [f1, f2]
  by_cases h3 : nI f < (3 : Int32)
  · rw [if_pos h3, if_pos h3]
    rcases h2 with ⟨g1, g2⟩ | ⟨g1, a, -, -, g3, g4⟩
    · rw [if_pos g1, if_neg n1, g2]
    · rw [if_neg g1, if_neg n1, g3, g4]; rfl
  · rw [if_neg h3, if_neg h3, if_neg n1]
def fineT (sn : SnT) (sv : Int32) : Prop := ¬ fS_inRange sv = 0 ∧ (fS_inRange sn.2.1 = 0 ∨ ¬ (256 : Int32) < fJ_abs (sv - sn.2.1))
def fineM (ms : MsT) (e : Nat) (sv : Int32) : Prop := ¬ fM_in sv (16 : Int32) (1007 : Int32) = 0 ∧ (ms.1 e = 0 ∨ fM_in (ms.2.1 e) (16 : Int32) (1007 : Int32) = 0 ∨ ¬ fM_in (ms.2.1 e - sv) (-256 : Int32) (256 : Int32) = 0)
theorem take_fine {fc : Nat → Int32} {sb : Int32} {sn : SnT} {sv : Int32} (h : fineT sn sv) : fS_take fc sb sn sv = (1, (fS_onCurve fc 0 (0, 0, 0, 0, fun _ => 0) sv, sv, fJ_maxI (0 : Int32) (sn.2.2.1 - (1 : Int32)), sn.2.2.2.1, sn.2.2.2.2)) := by
  obtain ⟨h1, h2⟩ := h
  unfold fS_take
  simp only [if_neg h1]
  by_cases h3 : fS_inRange sn.2.1 = 0
  · simp only [if_pos h3]; rfl
  · have h4 := h2.resolve_left h3
    simp only [if_neg h3, if_neg h4]; rfl
theorem take_bad {fc : Nat → Int32} {sb : Int32} {sn : SnT} {sv : Int32} (h : ¬ fineT sn sv) : fS_take fc sb sn sv = (0, (sn.1, sv, fJ_min (6 : Int32) (sn.2.2.1 + (1 : Int32)), sn.2.2.2.1, sn.2.2.2.2)) := by
  unfold fS_take
  by_cases h1 : fS_inRange sv = 0
  · simp only [if_pos h1]
  · simp only [if_neg h1]
    by_cases h3 : fS_inRange sn.2.1 = 0
    · exact absurd ⟨h1, Or.inl h3⟩ h
    · simp only [if_neg h3]
      by_cases h4 : (256 : Int32) < fJ_abs (sv - sn.2.1)
      · simp only [if_pos h4]
      · exact absurd ⟨h1, Or.inr h4⟩ h
def msF (ms : MsT) (e : Nat) (sv : Int32) : MsT := (upd ms.1 e (1 : Int32), upd ms.2.1 e sv, upd ms.2.2.1 e (1 : Int32), upd ms.2.2.2.1 e sv, upd ms.2.2.2.2.1 e (if ms.2.2.2.2.1 e = 0 then 0 else ms.2.2.2.2.1 e - (1 : Int32)), ms.2.2.2.2.2.1, ms.2.2.2.2.2.2)
def msB (ms : MsT) (e : Nat) (sv : Int32) : MsT := (upd ms.1 e (1 : Int32), upd ms.2.1 e sv, ms.2.2.1, ms.2.2.2.1, upd ms.2.2.2.2.1 e (if ms.2.2.2.2.1 e = (6 : Int32) then 6 else ms.2.2.2.2.1 e + (1 : Int32)), ms.2.2.2.2.2.1, ms.2.2.2.2.2.2)
def msC (ms : MsT) (e : Nat) (sv : Int32) (a b : Int64) (v : Int32) : MsT := (upd ms.1 e (1 : Int32), upd ms.2.1 e sv, ms.2.2.1, ms.2.2.2.1, upd ms.2.2.2.2.1 e (ms.2.2.2.2.1 e + (1 : Int32)), upd ms.2.2.2.2.2.1 e (1 : Int32), vp_updL (vp_updL (vp_updL ms.2.2.2.2.2.2 (3 * e) a) (3 * e + 1) b) (3 * e + 2) v.toInt64)
def msD (ms : MsT) (e : Nat) (sv : Int32) (a b : Int64) : MsT := (upd ms.1 e (1 : Int32), upd ms.2.1 e sv, ms.2.2.1, ms.2.2.2.1, upd ms.2.2.2.2.1 e (ms.2.2.2.2.1 e + (1 : Int32)), upd ms.2.2.2.2.2.1 e (1 : Int32), vp_updL (vp_updL ms.2.2.2.2.2.2 (3 * e) a) (3 * e + 1) b)
theorem sh_ix {e : Nat} (he : e ≤ 1) : ((3 : Int32) * nI e).toNatClampNeg = 3 * e ∧ ((3 : Int32) * nI e + (1 : Int32)).toNatClampNeg = 3 * e + 1 ∧ ((3 : Int32) * nI e + (2 : Int32)).toNatClampNeg = 3 * e + 2 := by
  rcases (show e = 0 ∨ e = 1 by omega) with rfl | rfl <;> decide
theorem smp_fine {ms : MsT} {e : Nat} {sv : Int32} (he : e ≤ 1) (h : fineM ms e sv) (k : Nat) (mc : McT) (mw : MwT) (mp : MpT) (me : MeT) (mo : MoT) : fM_sample k mc mw mp me mo ms (nI e) sv = (1, msF ms e sv) := by
  have e1 : fM_in (nI e) (0 : Int32) (1 : Int32) = 1 := inN_pos (N := 1) he (by decide)
  have ec : (nI e).toNatClampNeg = e := nI_clamp (by omega)
  obtain ⟨h1, h2⟩ := h
  unfold fM_sample msF
  simp only [e1, if_neg one_ne0, if_neg h1, ec]
  by_cases h3 : ms.1 e = 0
  · simp only [if_pos h3]
    by_cases h6 : ms.2.2.2.2.1 e = 0
    · simp only [if_pos h6]
    · simp only [if_neg h6]
  · simp only [if_neg h3]
    by_cases h4 : fM_in (ms.2.1 e) (16 : Int32) (1007 : Int32) = 0
    · simp only [if_pos h4]
      by_cases h6 : ms.2.2.2.2.1 e = 0
      · simp only [if_pos h6]
      · simp only [if_neg h6]
    · have h5 := (h2.resolve_left h3).resolve_left h4
      simp only [if_neg h4, if_neg h5]
      by_cases h6 : ms.2.2.2.2.1 e = 0
      · simp only [if_pos h6]
      · simp only [if_neg h6]
theorem smp_bad {ms : MsT} {e : Nat} {sv : Int32} (he : e ≤ 1) (h : ¬ fineM ms e sv) (k : Nat) (mc : McT) (mw : MwT) (mp : MpT) (me : MeT) (mo : MoT) : fM_sample k mc mw mp me mo ms (nI e) sv = (0, if ms.2.2.2.2.1 e = (2 : Int32) ∧ ms.2.2.2.2.2.1 e = 0 then msC ms e sv mw.1 mw.2.2.2.1 (fM_valueOf k mc mw mp me mo (msD ms e sv mw.1 mw.2.2.2.1) 0) else msB ms e sv) := by
  have e1 : fM_in (nI e) (0 : Int32) (1 : Int32) = 1 := inN_pos (N := 1) he (by decide)
  have ec : (nI e).toNatClampNeg = e := nI_clamp (by omega)
  obtain ⟨x0, x1, x2⟩ := sh_ix he
  have n26 : ¬ (2 : Int32) = (6 : Int32) := by decide
  have key : ∀ (X : Int32 × MsT), X = (if ms.2.2.2.2.1 e = (2 : Int32) then
        if ms.2.2.2.2.1 e = (6 : Int32) then
          if ms.2.2.2.2.2.1 e = 0 then
            ((0 : Int32), (upd ms.1 e (1 : Int32), upd ms.2.1 e sv, ms.2.2.1, ms.2.2.2.1, upd ms.2.2.2.2.1 e (6 : Int32), upd ms.2.2.2.2.2.1 e (1 : Int32), vp_updL (vp_updL (vp_updL ms.2.2.2.2.2.2 (3 * e) mw.1) (3 * e + 1) mw.2.2.2.1) (3 * e + 2) (fM_valueOf k mc mw mp me mo (upd ms.1 e (1 : Int32), upd ms.2.1 e sv, ms.2.2.1, ms.2.2.2.1, upd ms.2.2.2.2.1 e (6 : Int32), upd ms.2.2.2.2.2.1 e (1 : Int32), vp_updL (vp_updL ms.2.2.2.2.2.2 (3 * e) mw.1) (3 * e + 1) mw.2.2.2.1) 0).toInt64))
          else ((0 : Int32), (upd ms.1 e (1 : Int32), upd ms.2.1 e sv, ms.2.2.1, ms.2.2.2.1, upd ms.2.2.2.2.1 e (6 : Int32), ms.2.2.2.2.2.1, ms.2.2.2.2.2.2))
        else
          if ms.2.2.2.2.2.1 e = 0 then
            ((0 : Int32), (upd ms.1 e (1 : Int32), upd ms.2.1 e sv, ms.2.2.1, ms.2.2.2.1, upd ms.2.2.2.2.1 e (ms.2.2.2.2.1 e + (1 : Int32)), upd ms.2.2.2.2.2.1 e (1 : Int32), vp_updL (vp_updL (vp_updL ms.2.2.2.2.2.2 (3 * e) mw.1) (3 * e + 1) mw.2.2.2.1) (3 * e + 2) (fM_valueOf k mc mw mp me mo (upd ms.1 e (1 : Int32), upd ms.2.1 e sv, ms.2.2.1, ms.2.2.2.1, upd ms.2.2.2.2.1 e (ms.2.2.2.2.1 e + (1 : Int32)), upd ms.2.2.2.2.2.1 e (1 : Int32), vp_updL (vp_updL ms.2.2.2.2.2.2 (3 * e) mw.1) (3 * e + 1) mw.2.2.2.1) 0).toInt64))
          else ((0 : Int32), (upd ms.1 e (1 : Int32), upd ms.2.1 e sv, ms.2.2.1, ms.2.2.2.1, upd ms.2.2.2.2.1 e (ms.2.2.2.2.1 e + (1 : Int32)), ms.2.2.2.2.2.1, ms.2.2.2.2.2.2))
      else
        if ms.2.2.2.2.1 e = (6 : Int32) then
          ((0 : Int32), (upd ms.1 e (1 : Int32), upd ms.2.1 e sv, ms.2.2.1, ms.2.2.2.1, upd ms.2.2.2.2.1 e (6 : Int32), ms.2.2.2.2.2.1, ms.2.2.2.2.2.2))
        else
          ((0 : Int32), (upd ms.1 e (1 : Int32), upd ms.2.1 e sv, ms.2.2.1, ms.2.2.2.1, upd ms.2.2.2.2.1 e (ms.2.2.2.2.1 e + (1 : Int32)), ms.2.2.2.2.2.1, ms.2.2.2.2.2.2))) →
      X = (0, if ms.2.2.2.2.1 e = (2 : Int32) ∧ ms.2.2.2.2.2.1 e = 0 then msC ms e sv mw.1 mw.2.2.2.1 (fM_valueOf k mc mw mp me mo (msD ms e sv mw.1 mw.2.2.2.1) 0) else msB ms e sv) := by
    intro X hX
    rw [hX]
    by_cases h2 : ms.2.2.2.2.1 e = (2 : Int32)
    · have h6 : ¬ ms.2.2.2.2.1 e = (6 : Int32) := by rw [h2]; exact n26
      by_cases h3 : ms.2.2.2.2.2.1 e = 0
      · rw [if_pos h2, if_neg h6, if_pos h3, if_pos ⟨h2, h3⟩]; rfl
      · rw [if_pos h2, if_neg h6, if_neg h3, if_neg (fun z => h3 z.2)]
        unfold msB
        rw [if_neg h6]
    · have hn : ¬ (ms.2.2.2.2.1 e = (2 : Int32) ∧ ms.2.2.2.2.2.1 e = 0) := fun z => h2 z.1
      rw [if_neg h2, if_neg hn]
      unfold msB
      by_cases h6 : ms.2.2.2.2.1 e = (6 : Int32)
      · rw [if_pos h6, if_pos h6]
      · rw [if_neg h6, if_neg h6]
  apply key
  unfold fM_sample
  by_cases h1 : fM_in sv (16 : Int32) (1007 : Int32) = 0
  · simp only [e1, if_neg one_ne0, if_pos h1, ec, x0, x1, x2]
  · have h3 : ¬ ms.1 e = 0 := fun z => h ⟨h1, Or.inl z⟩
    have h4 : ¬ fM_in (ms.2.1 e) (16 : Int32) (1007 : Int32) = 0 := fun z => h ⟨h1, Or.inr (Or.inl z)⟩
    have h5 : fM_in (ms.2.1 e - sv) (-256 : Int32) (256 : Int32) = 0 := Classical.byContradiction (fun z => h ⟨h1, Or.inr (Or.inr z)⟩)
    simp only [e1, if_neg one_ne0, if_neg h1, ec, x0, x1, x2, if_neg h3, if_neg h4, if_pos h5]

theorem inr_nat {v : Int32} (h : ¬ fM_in v (16 : Int32) (1007 : Int32) = 0) : ∃ a : Nat, 16 ≤ a ∧ a ≤ 1007 ∧ v = nI a := k_inrN (sv := v) rfl h
theorem leap {a b : Nat} (ha : a ≤ 1007) (hb : b ≤ 1007) : (256 : Int32) < fJ_abs (nI a - nI b) ↔ fM_in (nI b - nI a) (-256 : Int32) (256 : Int32) = 0 := by
  have t1 : (nI a - nI b).toInt = (a : Int) - b := pk_sub_toInt (by omega) (by omega)
  have t2 : (nI b - nI a).toInt = (b : Int) - a := pk_sub_toInt (by omega) (by omega)
  have t3 : (256 : Int32).toInt = 256 := by decide
  have t4 : (-256 : Int32).toInt = -256 := by decide
  have t5 : (0 : Int32).toInt = 0 := by decide
  have e : -(nI a - nI b) = nI b - nI a := by grind
  unfold fJ_abs fM_in
  rw [e]
  simp only [Int32.lt_iff_toInt_lt, Int32.le_iff_toInt_le, t3, t4, t5, t1, t2]
  have n1 : ¬ (1 : Int32) = 0 := by decide
  repeat' split
  all_goals (try simp only [t1, t2] at *)
  all_goals first | (simp [n1]; omega) | (simp; omega)
theorem fine_iff {e : Nat} {fst : Int32} {val : Int32 → Int32} {sn : SnT} {ms : MsT} (h : RS e fst val sn ms) (sv : Int32) : fineT sn sv ↔ fineM ms e sv := by
  obtain ⟨h1, -⟩ := h
  have r1 : ∀ v, fS_inRange v = fM_in v (16 : Int32) (1007 : Int32) := fun v => rfl
  unfold fineT fineM
  rw [r1, r1]
  constructor
  · rintro ⟨g1, g2⟩
    refine ⟨g1, ?_⟩
    rcases h1 with ⟨z1, z2⟩ | ⟨z1, z2⟩
    · exact Or.inl z1
    · rw [z2] at g2
      refine Or.inr ?_
      by_cases g3 : fM_in (ms.2.1 e) (16 : Int32) (1007 : Int32) = 0
      · exact Or.inl g3
      · refine Or.inr ?_
        obtain ⟨a, -, ha, ea⟩ := inr_nat g1
        obtain ⟨b, -, hb, eb⟩ := inr_nat g3
        have g4 := g2.resolve_left g3
        rw [ea, eb] at g4 ⊢
        exact fun z => g4 ((leap ha hb).mpr z)
  · rintro ⟨g1, g2⟩
    refine ⟨g1, ?_⟩
    rcases h1 with ⟨z1, z2⟩ | ⟨z1, z2⟩
    · rw [z2]; exact Or.inl (by decide)
    · rw [z2]
      have g2 := g2.resolve_left z1
      by_cases g3 : fM_in (ms.2.1 e) (16 : Int32) (1007 : Int32) = 0
      · exact Or.inl g3
      · refine Or.inr ?_
        obtain ⟨a, -, ha, ea⟩ := inr_nat g1
        obtain ⟨b, -, hb, eb⟩ := inr_nat g3
        have g4 := g2.resolve_left g3
        rw [ea, eb] at g4 ⊢
        exact fun z => g4 ((leap ha hb).mp z)
theorem up_s {f : Nat → Int32} {k : Nat} {x : Int32} : upd f k x k = x := pk_us
theorem up_n {f : Nat → Int32} {k j : Nat} {x : Int32} (h : j ≠ k) : upd f k x j = f j := pk_un h
theorem flt_dn : ∀ f, f ≤ 6 → fJ_maxI (0 : Int32) (nI f - (1 : Int32)) = nI (f - 1) ∧ (if nI f = 0 then (0 : Int32) else nI f - (1 : Int32)) = nI (f - 1) := by decide +kernel
theorem flt_up : ∀ f, f ≤ 6 → fJ_min (6 : Int32) (nI f + (1 : Int32)) = nI (min 6 (f + 1)) ∧ (if nI f = (6 : Int32) then (6 : Int32) else nI f + (1 : Int32)) = nI (min 6 (f + 1)) := by decide +kernel
theorem flt_3 : ∀ f, f ≤ 6 → (nI (min 6 (f + 1)) = (3 : Int32) ↔ nI f = (2 : Int32)) := by decide +kernel
/-- a sample that is fine -/
theorem RS.fine {e : Nat} {fst : Int32} {val : Int32 → Int32} {sn : SnT} {ms : MsT} (h : RS e fst val sn ms) {a : Nat} (h1 : 16 ≤ a) (h2 : a ≤ 1007) : RS e fst val (val (nI a), nI a, fJ_maxI (0 : Int32) (sn.2.2.1 - (1 : Int32)), sn.2.2.2.1, sn.2.2.2.2) (msF ms e (nI a)) := by
  obtain ⟨-, -, ⟨f, hf, f1, f2⟩, h4, h5⟩ := h
  refine ⟨Or.inr ⟨?_, ?_⟩, Or.inr ⟨?_, a, h1, h2, ?_, rfl⟩, ⟨f - 1, by omega, ?_, ?_⟩, h4, h5⟩
  · show ¬ upd ms.1 e (1 : Int32) e = 0
    rw [up_s]; decide
  · show nI a = upd ms.2.1 e (nI a) e
    rw [up_s]
  · show ¬ upd ms.2.2.1 e (1 : Int32) e = 0
    rw [up_s]; decide
  · show upd ms.2.2.2.1 e (nI a) e = nI a
    rw [up_s]
  · show upd ms.2.2.2.2.1 e (if ms.2.2.2.2.1 e = 0 then 0 else ms.2.2.2.2.1 e - (1 : Int32)) e = nI (f - 1)
    rw [up_s, f1]; exact (flt_dn f hf).2
  · show fJ_maxI (0 : Int32) (sn.2.2.1 - (1 : Int32)) = nI (f - 1)
    rw [f2]; exact (flt_dn f hf).1
theorem RS.bad {e : Nat} {fst : Int32} {val : Int32 → Int32} {sn : SnT} {ms : MsT} (h : RS e fst val sn ms) (sv : Int32) : RS e fst val (sn.1, sv, fJ_min (6 : Int32) (sn.2.2.1 + (1 : Int32)), sn.2.2.2.1, sn.2.2.2.2) (msB ms e sv) := by
  obtain ⟨-, h2, ⟨f, hf, f1, f2⟩, h4, h5⟩ := h
  refine ⟨Or.inr ⟨?_, ?_⟩, h2, ⟨min 6 (f + 1), by omega, ?_, ?_⟩, h4, h5⟩
  · show ¬ upd ms.1 e (1 : Int32) e = 0
    rw [up_s]; decide
  · show sv = upd ms.2.1 e sv e
    rw [up_s]
  · show upd ms.2.2.2.2.1 e (if ms.2.2.2.2.1 e = (6 : Int32) then 6 else ms.2.2.2.2.1 e + (1 : Int32)) e = nI (min 6 (f + 1))
    rw [up_s, f1]; exact (flt_up f hf).2
  · show fJ_min (6 : Int32) (sn.2.2.1 + (1 : Int32)) = nI (min 6 (f + 1))
    rw [f2]; exact (flt_up f hf).1
theorem RS.code {e : Nat} {fst : Int32} {val : Int32 → Int32} {sn : SnT} {ms : MsT} (h : RS e fst val sn ms) (sv : Int32) (a b : Int64) (v : Int32) (h2 : ms.2.2.2.2.1 e = (2 : Int32)) (fc : Nat → Int32) (sb : Int32) : RS e fst val (fS_storeCode fc sb (sn.1, sv, fJ_min (6 : Int32) (sn.2.2.1 + (1 : Int32)), sn.2.2.2.1, sn.2.2.2.2) a b v) (msC ms e sv a b v) := by
  obtain ⟨g1, g2, ⟨f, hf, f1, f2⟩, g4, g5⟩ := (h.bad sv)
  have e6 : ¬ ms.2.2.2.2.1 e = (6 : Int32) := by rw [h2]; decide
  refine ⟨g1, g2, ⟨f, hf, ?_, f2⟩, ?_, ?_⟩
  · have : upd ms.2.2.2.2.1 e (if ms.2.2.2.2.1 e = (6 : Int32) then 6 else ms.2.2.2.2.1 e + (1 : Int32)) e = nI f := f1
    rw [if_neg e6] at this
    exact this
  · show (1 : Int32) = upd ms.2.2.2.2.2.1 e (1 : Int32) e
    rw [up_s]
  · intro j hj
    show vp_updL (vp_updL (vp_updL sn.2.2.2.2 0 a) 1 b) 2 v.toInt64 j = vp_updL (vp_updL (vp_updL ms.2.2.2.2.2.2 (3 * e) a) (3 * e + 1) b) (3 * e + 2) v.toInt64 (3 * e + j)
    unfold vp_updL
    rcases (show j = 0 ∨ j = 1 ∨ j = 2 by omega) with rfl | rfl | rfl
    · rw [if_neg (by decide), if_neg (by decide), if_pos rfl, if_neg (by omega), if_neg (by omega), if_pos (by omega)]
    · rw [if_neg (by decide), if_pos rfl, if_neg (by omega), if_pos rfl]
    · rw [if_pos rfl, if_pos rfl]
/-- the other sensor's share stays -/
theorem RS.other {e e2 : Nat} {fst : Int32} {val : Int32 → Int32} {sn : SnT} {ms ms' : MsT} (h : RS e fst val sn ms) (h1 : ms'.1 e = ms.1 e) (h2 : ms'.2.1 e = ms.2.1 e) (h3 : ms'.2.2.1 e = ms.2.2.1 e) (h4 : ms'.2.2.2.1 e = ms.2.2.2.1 e) (h5 : ms'.2.2.2.2.1 e = ms.2.2.2.2.1 e) (h6 : ms'.2.2.2.2.2.1 e = ms.2.2.2.2.2.1 e) (h7 : ∀ j, j < 3 → ms'.2.2.2.2.2.2 (3 * e + j) = ms.2.2.2.2.2.2 (3 * e + j)) : RS e fst val sn ms' := by
  obtain ⟨g1, g2, g3, g4, g5⟩ := h
  refine ⟨?_, ?_, ?_, ?_, ?_⟩
  · rw [h1, h2]; exact g1
  · rw [h3, h4]; exact g2
  · rw [h5]; exact g3
  · rw [h6]; exact g4
  · intro j hj; rw [h7 j hj]; exact g5 j hj
theorem RS.oF {e e2 : Nat} (hne : e ≠ e2) {fst : Int32} {val : Int32 → Int32} {sn : SnT} {ms : MsT} (h : RS e fst val sn ms) (sv : Int32) : RS e fst val sn (msF ms e2 sv) := h.other (e2 := e2) (up_n hne) (up_n hne) (up_n hne) (up_n hne) (up_n hne) rfl (fun _ _ => rfl)
theorem RS.oB {e e2 : Nat} (hne : e ≠ e2) {fst : Int32} {val : Int32 → Int32} {sn : SnT} {ms : MsT} (h : RS e fst val sn ms) (sv : Int32) : RS e fst val sn (msB ms e2 sv) := h.other (e2 := e2) (up_n hne) (up_n hne) rfl rfl (up_n hne) rfl (fun _ _ => rfl)
theorem RS.oC {e e2 : Nat} (hne : e ≠ e2) (h1 : e ≤ 1) (h2 : e2 ≤ 1) {fst : Int32} {val : Int32 → Int32} {sn : SnT} {ms : MsT} (h : RS e fst val sn ms) (sv : Int32) (a b : Int64) (v : Int32) : RS e fst val sn (msC ms e2 sv a b v) := h.other (e2 := e2) (up_n hne) (up_n hne) rfl rfl (up_n hne) (up_n hne) (fun j hj => by
  show vp_updL (vp_updL (vp_updL ms.2.2.2.2.2.2 (3 * e2) a) (3 * e2 + 1) b) (3 * e2 + 2) v.toInt64 (3 * e + j) = _
  unfold vp_updL
  rw [if_neg (by omega), if_neg (by omega), if_neg (by omega)])

/-! pure: sample, value, count, frame, clear -/
def RSS (sl sh : SnT) (ms : MsT) : Prop := RS 0 512 id sl ms ∧ RS 1 60 hvl sh ms
theorem valueOf_congr {ms ms' : MsT} {e : Nat} (h1 : ms.2.2.1 e = ms'.2.2.1 e) (h2 : ms.2.2.2.1 e = ms'.2.2.2.1 e) (h3 : ms.2.2.2.2.1 e = ms'.2.2.2.2.1 e) (k : Nat) (mc : McT) (mw : MwT) (mp : MpT) (me : MeT) (mo : MoT) : fM_valueOf k mc mw mp me mo ms e = fM_valueOf k mc mw mp me mo ms' e := by
  unfold fM_valueOf
  rw [h1, h2, h3]
theorem se_cases (se : Int32) : se = 0 ∨ se = (1 : Int32) ∨ (¬ se = 0 ∧ ¬ se = (1 : Int32) ∧ (se < 0 ∨ (1 : Int32) < se)) := by
  rcases i_cases se (N := 1) (by decide) with h | ⟨a, ha, rfl⟩
  · refine Or.inr (Or.inr ⟨?_, ?_, h⟩)
    · intro z; subst z; rcases h with h | h <;> exact absurd h (by decide)
    · intro z; subst z; rcases h with h | h <;> exact absurd h (by decide)
  · rcases (show a = 0 ∨ a = 1 by omega) with rfl | rfl
    · exact Or.inl rfl
    · exact Or.inr (Or.inl rfl)
theorem want_iff {e : Nat} {fst : Int32} {val : Int32 → Int32} {sn : SnT} {ms : MsT} (h : RS e fst val sn ms) (sv : Int32) (fc : Nat → Int32) (sb : Int32) : (fS_wantsCode fc sb (sn.1, sv, fJ_min (6 : Int32) (sn.2.2.1 + (1 : Int32)), sn.2.2.2.1, sn.2.2.2.2) = 0) ↔ ¬ (ms.2.2.2.2.1 e = (2 : Int32) ∧ ms.2.2.2.2.2.1 e = 0) := by
  obtain ⟨-, -, ⟨f, hf, f1, f2⟩, h4, -⟩ := h
  have g := flt_3 f hf
  unfold fS_wantsCode
  dsimp only
  rw [f2, (flt_up f hf).1, h4, f1]
  by_cases h1 : nI f = (2 : Int32)
  · rw [if_pos (g.mpr h1)]
    by_cases h2 : ms.2.2.2.2.2.1 e = 0
    · rw [if_pos h2]
      exact ⟨fun z => absurd z (by decide), fun z => absurd ⟨h1, h2⟩ z⟩
    · rw [if_neg h2]
      exact ⟨fun _ z => h2 z.2, fun _ => rfl⟩
  · rw [if_neg (fun z => h1 (g.mp z))]
    exact ⟨fun _ z => h1 z.1, fun _ => rfl⟩
set_option maxHeartbeats 1000000 in
theorem sample_eq (k : Nat) (wc : WcT) (tc : TcT) (tm : TmT) (wh : WhT) (ag : AgT) (pn : PnT) (ca cf : ChT) (sl sh : SnT) (mc : McT) (mw : MwT) (mp : MpT) (me : MeT) (mo : MoT) (ms : MsT) (se sv : Int32) (h : RSS sl sh ms) (hn : tm.1 = mw.1) (hu : wh.2.2.2.1 = mw.2.2.2.1) :
    (fT_sample k wc tc tm wh ag pn ca cf sl sh se sv).1 = (fM_sample k mc mw mp me mo ms se sv).1 ∧ RSS (fT_sample k wc tc tm wh ag pn ca cf sl sh se sv).2.1 (fT_sample k wc tc tm wh ag pn ca cf sl sh se sv).2.2 (fM_sample k mc mw mp me mo ms se sv).2 := by
  obtain ⟨h0, h1⟩ := h
  have n1 : ¬ (1 : Int32) = 0 := by decide
  rcases se_cases se with rfl | rfl | ⟨e0, e1, eo⟩
  · by_cases hf : fineM ms 0 sv
    · have hfT := (fine_iff h0 sv).mpr hf
      obtain ⟨a, a1, a2, rfl⟩ := inr_nat hf.1
      have eM : fM_sample k mc mw mp me mo ms (0 : Int32) (nI a) = (1, msF ms 0 (nI a)) := smp_fine (e := 0) (by decide) hf k mc mw mp me mo
      have eT := take_fine (fc := lc) (sb := (400 : Int32)) hfT
      rw [eM]
      unfold fT_sample
      simp only [eT, if_neg n1, if_true]
      refine ⟨trivial, ?_, h1.oF (by decide) (nI a)⟩
      rw [onL a (by omega)]
      exact h0.fine a1 a2
    · have hfT : ¬ fineT sl sv := fun z => hf ((fine_iff h0 sv).mp z)
      have eM : fM_sample k mc mw mp me mo ms (0 : Int32) sv = _ := smp_bad (e := 0) (by decide) hf k mc mw mp me mo
      have eT := take_bad (fc := lc) (sb := (400 : Int32)) hfT
      have hw := want_iff h0 sv lc (400 : Int32)
      rw [eM]
      unfold fT_sample
      simp only [eT, if_true]
      by_cases hq : fS_wantsCode lc (400 : Int32) (sl.1, sv, fJ_min (6 : Int32) (sl.2.2.1 + (1 : Int32)), sl.2.2.2.1, sl.2.2.2.2) = 0
      · simp only [if_pos hq, if_neg (hw.mp hq)]
        exact ⟨trivial, h0.bad sv, h1.oB (by decide) sv⟩
      · have hq2 : ms.2.2.2.2.1 0 = (2 : Int32) ∧ ms.2.2.2.2.2.1 0 = 0 := Classical.byContradiction (fun z => hq (hw.mpr z))
        simp only [if_neg hq, if_pos hq2]
        have ev : fS_reading lc (400 : Int32) (sl.1, sv, fJ_min (6 : Int32) (sl.2.2.1 + (1 : Int32)), sl.2.2.2.1, sl.2.2.2.2) = fM_valueOf k mc mw mp me mo (msD ms 0 sv mw.1 mw.2.2.2.1) 0 := by
          rw [val0 (h0.bad sv) k mc mw mp me mo]
          refine valueOf_congr (ms := msB ms 0 sv) (ms' := msD ms 0 sv mw.1 mw.2.2.2.1) rfl rfl ?_ k mc mw mp me mo
          show upd ms.2.2.2.2.1 0 (if ms.2.2.2.2.1 0 = (6 : Int32) then 6 else ms.2.2.2.2.1 0 + (1 : Int32)) 0 = upd ms.2.2.2.2.1 0 (ms.2.2.2.2.1 0 + (1 : Int32)) 0
          rw [if_neg (by rw [hq2.1]; decide)]
        rw [ev, hn, hu]
        exact ⟨trivial, h0.code sv _ _ _ hq2.1 _ _, h1.oC (by decide) (by decide) (by decide) sv _ _ _⟩
  · by_cases hf : fineM ms 1 sv
    · have hfT := (fine_iff h1 sv).mpr hf
      obtain ⟨a, a1, a2, rfl⟩ := inr_nat hf.1
      have eM : fM_sample k mc mw mp me mo ms (1 : Int32) (nI a) = (1, msF ms 1 (nI a)) := smp_fine (e := 1) (by decide) hf k mc mw mp me mo
      have eT := take_fine (fc := hc) (sb := (80 : Int32)) hfT
      rw [eM]
      unfold fT_sample
      simp only [eT, if_neg n1, if_true]
      refine ⟨trivial, h0.oF (by decide) (nI a), ?_⟩
      rw [onH a (by omega)]
      exact h1.fine a1 a2
    · have hfT : ¬ fineT sh sv := fun z => hf ((fine_iff h1 sv).mp z)
      have eM : fM_sample k mc mw mp me mo ms (1 : Int32) sv = _ := smp_bad (e := 1) (by decide) hf k mc mw mp me mo
      have eT := take_bad (fc := hc) (sb := (80 : Int32)) hfT
      have hw := want_iff h1 sv hc (80 : Int32)
      rw [eM]
      unfold fT_sample
      simp only [eT, if_neg n1, if_true]
      by_cases hq : fS_wantsCode hc (80 : Int32) (sh.1, sv, fJ_min (6 : Int32) (sh.2.2.1 + (1 : Int32)), sh.2.2.2.1, sh.2.2.2.2) = 0
      · simp only [if_pos hq, if_neg (hw.mp hq)]
        exact ⟨trivial, h0.oB (by decide) sv, h1.bad sv⟩
      · have hq2 : ms.2.2.2.2.1 1 = (2 : Int32) ∧ ms.2.2.2.2.2.1 1 = 0 := Classical.byContradiction (fun z => hq (hw.mpr z))
        simp only [if_neg hq, if_pos hq2]
        have ev : fS_reading lc (400 : Int32) sl = fM_valueOf k mc mw mp me mo (msD ms 1 sv mw.1 mw.2.2.2.1) 0 := by
          rw [val0 h0 k mc mw mp me mo]
          refine valueOf_congr (ms := ms) (ms' := msD ms 1 sv mw.1 mw.2.2.2.1) rfl rfl ?_ k mc mw mp me mo
          show ms.2.2.2.2.1 0 = upd ms.2.2.2.2.1 1 (ms.2.2.2.2.1 1 + (1 : Int32)) 0
          rw [up_n (by decide)]
        rw [ev, hn, hu]
        exact ⟨trivial, h0.oC (by decide) (by decide) (by decide) sv _ _ _, h1.code sv _ _ _ hq2.1 _ _⟩
  · have eM : fM_sample k mc mw mp me mo ms se sv = (0, ms) := by
      unfold fM_sample
      simp only [in_neg eo, if_true]
    rw [eM]
    unfold fT_sample
    simp only [if_neg e0, if_neg e1]
    exact ⟨trivial, h0, h1⟩
theorem value_eq (k : Nat) (wc : WcT) (tc : TcT) (tm : TmT) (wh : WhT) (ag : AgT) (pn : PnT) (ca cf : ChT) (sl sh : SnT) (mc : McT) (mw : MwT) (mp : MpT) (me : MeT) (mo : MoT) (ms : MsT) (se : Int32) (h : RSS sl sh ms) : fT_value k wc tc tm wh ag pn ca cf sl sh se = fM_value k mc mw mp me mo ms se := by
  obtain ⟨h0, h1⟩ := h
  have n1 : ¬ (1 : Int32) = 0 := by decide
  rcases se_cases se with rfl | rfl | ⟨e0, e1, eo⟩
  · unfold fT_value fM_value
    simp only [if_true, show fM_in (0 : Int32) (0 : Int32) (1 : Int32) = 1 from rfl, if_neg n1]
    exact val0 h0 k mc mw mp me mo
  · unfold fT_value fM_value
    simp only [if_true, show fM_in (1 : Int32) (0 : Int32) (1 : Int32) = 1 from rfl, if_neg n1]
    exact val1 h1 k mc mw mp me mo
  · unfold fT_value fM_value
    simp only [if_neg e0, if_neg e1, in_neg eo, if_true]
theorem count_eq (k : Nat) (wc : WcT) (tc : TcT) (tm : TmT) (wh : WhT) (ag : AgT) (pn : PnT) (ca cf : ChT) (sl sh : SnT) (mc : McT) (mw : MwT) (mp : MpT) (me : MeT) (mo : MoT) (ms : MsT) (se : Int32) (h : RSS sl sh ms) : fT_count k wc tc tm wh ag pn ca cf sl sh se = fM_count k mc mw mp me mo ms se := by
  obtain ⟨⟨-, -, ⟨f, -, f1, f2⟩, -⟩, ⟨-, -, ⟨g, -, g1, g2⟩, -⟩⟩ := h
  have n1 : ¬ (1 : Int32) = 0 := by decide
  rcases se_cases se with rfl | rfl | ⟨e0, e1, eo⟩
  · unfold fT_count fM_count
    simp only [if_true, show fM_in (0 : Int32) (0 : Int32) (1 : Int32) = 1 from rfl, if_neg n1]
    rw [f2]; exact f1.symm
  · unfold fT_count fM_count
    simp only [if_true, show fM_in (1 : Int32) (0 : Int32) (1 : Int32) = 1 from rfl, if_neg n1]
    rw [g2]; exact g1.symm
  · unfold fT_count fM_count
    simp only [if_neg e0, if_neg e1, in_neg eo, if_true]
theorem part_ok {e : Nat} {fst : Int32} {val : Int32 → Int32} {sn : SnT} {ms : MsT} (he : e ≤ 1) (h : RS e fst val sn ms) (fc : Nat → Int32) (sb : Int32) (part : Int32) (k : Nat) (mc : McT) (mw : MwT) (mp : MpT) (me : MeT) (mo : MoT) : fS_codePart fc sb sn part = fM_frame k mc mw mp me mo ms (nI e) part := by
  obtain ⟨-, -, -, h4, h5⟩ := h
  have n1 : ¬ (1 : Int32) = 0 := by decide
  have e1 : fM_in (nI e) (0 : Int32) (1 : Int32) = 1 := inN_pos (N := 1) he (by decide)
  have ec : (nI e).toNatClampNeg = e := nI_clamp (by omega)
  unfold fS_codePart fM_frame
  simp only [e1, if_neg n1, ec, h4]
  rcases i_cases part (N := 2) (by decide) with hp | ⟨b, hb, rfl⟩
  · have e2 : fM_in part (0 : Int32) (2 : Int32) = 0 := in_neg hp
    simp only [e2, if_true]
    by_cases h1 : ms.2.2.2.2.2.1 e = 0
    · rw [if_pos h1]
    · rw [if_neg h1]
      rcases hp with hp | hp
      · rw [if_pos hp]
      · by_cases h2 : part < 0
        · rw [if_pos h2]
        · rw [if_neg h2, if_pos (show (3 : Int32) ≤ part from le_of_succ (N := 2) (by decide) hp)]
  · have e2 : fM_in (nI b) (0 : Int32) (2 : Int32) = 1 := inN_pos (N := 2) hb (by decide)
    simp only [e2, if_neg n1]
    by_cases h1 : ms.2.2.2.2.2.1 e = 0
    · rw [if_pos h1, if_pos h1]
    · rw [if_neg h1, if_neg h1, if_neg (nI_pos (by omega)), if_neg (show ¬ (3 : Int32) ≤ nI b from nI_ge (a := b) (b := 3) (by omega) (by decide)), nI_clamp (by omega), h5 b (by omega)]
      have e3 : (3 : Int32) * nI e + nI b = nI (3 * e + b) := by rw [← nI_add, ← pk_mul]; rfl
      rw [e3, nI_clamp (by omega)]
theorem frame_eq (k : Nat) (wc : WcT) (tc : TcT) (tm : TmT) (wh : WhT) (ag : AgT) (pn : PnT) (ca cf : ChT) (sl sh : SnT) (mc : McT) (mw : MwT) (mp : MpT) (me : MeT) (mo : MoT) (ms : MsT) (se part : Int32) (h : RSS sl sh ms) : fT_frame k wc tc tm wh ag pn ca cf sl sh se part = fM_frame k mc mw mp me mo ms se part := by
  obtain ⟨h0, h1⟩ := h
  have n1 : ¬ (1 : Int32) = 0 := by decide
  rcases se_cases se with rfl | rfl | ⟨e0, e1, eo⟩
  · unfold fT_frame
    simp only [if_true]
    exact part_ok (e := 0) (by decide) h0 _ _ part k mc mw mp me mo
  · unfold fT_frame
    simp only [if_true, if_neg n1]
    exact part_ok (e := 1) (by decide) h1 _ _ part k mc mw mp me mo
  · unfold fT_frame fM_frame
    simp only [if_neg e0, if_neg e1, in_neg eo, if_true]
theorem clear_eq (k : Nat) (wc : WcT) (tc : TcT) (tm : TmT) (wh : WhT) (ag : AgT) (pn : PnT) (ca cf : ChT) (sl sh : SnT) (mc : McT) (mw : MwT) (mp : MpT) (me : MeT) (mo : MoT) (ms : MsT) (h : RSS sl sh ms) :
    (fT_clear k wc tc tm wh ag pn ca cf sl sh).1 = (fM_clear k mc mw mp me mo ms).1 ∧ RSS (fT_clear k wc tc tm wh ag pn ca cf sl sh).2.1 (fT_clear k wc tc tm wh ag pn ca cf sl sh).2.2 (fM_clear k mc mw mp me mo ms).2 := by
  obtain ⟨⟨a1, a2, a3, a4, a5⟩, ⟨b1, b2, b3, b4, b5⟩⟩ := h
  have key : (fM_clear k mc mw mp me mo ms).2 = (ms.1, ms.2.1, ms.2.2.1, ms.2.2.2.1, ms.2.2.2.2.1, upd (upd ms.2.2.2.2.2.1 0 (0 : Int32)) 1 (0 : Int32), ms.2.2.2.2.2.2) := by
    unfold fM_clear
    repeat' split
    all_goals rfl
  have kl : (fT_clear k wc tc tm wh ag pn ca cf sl sh).2 = ((sl.1, sl.2.1, sl.2.2.1, (0 : Int32), sl.2.2.2.2), (sh.1, sh.2.1, sh.2.2.1, (0 : Int32), sh.2.2.2.2)) := by
    unfold fT_clear fS_dropCode
    repeat' split
    all_goals rfl
  rw [key, kl]
  refine ⟨?_, ⟨a1, a2, a3, ?_, a5⟩, ⟨b1, b2, b3, ?_, b5⟩⟩
  · unfold fT_clear fS_dropCode fM_clear
    rw [a4, b4]
    repeat' split
    all_goals first | rfl | (exfalso; simp_all; done)
  · show (0 : Int32) = upd (upd ms.2.2.2.2.2.1 0 (0 : Int32)) 1 (0 : Int32) 0
    rw [up_n (by decide), up_s]
  · show (0 : Int32) = upd (upd ms.2.2.2.2.2.1 0 (0 : Int32)) 1 (0 : Int32) 1
    rw [up_s]

/-! pure: the panel -/
def bb (x : Int32) (i : Nat) : Bool := x.toBitVec.getLsbD i
theorem bb_ext {x y : Int32} (h : ∀ i, i < 32 → bb x i = bb y i) : x = y := Int32.toBitVec_inj.mp (BitVec.eq_of_getLsbD_eq (fun i hi => h i hi))
theorem bb_or (x y : Int32) (i : Nat) : bb (x ||| y) i = (bb x i || bb y i) := by unfold bb; rw [Int32.toBitVec_or, BitVec.getLsbD_or]
theorem bb_and (x y : Int32) (i : Nat) : bb (x &&& y) i = (bb x i && bb y i) := by unfold bb; rw [Int32.toBitVec_and, BitVec.getLsbD_and]
theorem bb_0 (i : Nat) : bb 0 i = false := BitVec.getLsbD_zero
theorem bb_one : ∀ n, n < 16 → ∀ i, i < 32 → bb ((1 : Int32) <<< (nI n &&& 31)) i = decide (i = n) := by decide +kernel
theorem bb_256 : ∀ n, n < 6 → ∀ i, i < 32 → bb ((256 : Int32) <<< (nI n &&& 31)) i = decide (i = 8 + n) := by decide +kernel
theorem bb_not : ∀ n, n < 16 → ∀ i, i < 32 → bb (((1 : Int32) <<< (nI n &&& 31)) ^^^ (-1 : Int32)) i = !decide (i = n) := by decide +kernel
theorem bb_add {x y : Int32} (h : x &&& y = 0) : x + y = x ||| y := by
  apply Int32.toBitVec_inj.mp
  rw [Int32.toBitVec_add, Int32.toBitVec_or]
  apply BitVec.add_eq_or_of_and_eq_zero
  rw [← Int32.toBitVec_and, h]
  rfl
def onB (mo : MoT) (i : Nat) : Bool := (decide (i < 6) && !decide (mo.1 i = 0)) || (decide (8 ≤ i) && decide (i < 14) && !decide (mo.2.1 (i - 8) = 0))
def lgi (ch : Int32) (j : Nat) : Nat := (ch.toBitVec.toNat + 15 - j) % 16
def RP (pn : PnT) (mo : MoT) : Prop := (∀ i, i < 32 → bb pn.2.1 i = onB mo i) ∧ pn.2.2 = mo.2.2.2.1 ∧ (∀ j, j < 16 → mo.2.2.1 j = pn.1 (lgi pn.2.2 j))
theorem isOn_iff (pn : PnT) {n : Nat} (hn : n < 16) : fP_isOn pn (nI n) = 0 ↔ bb pn.2.1 n = false := by
  unfold fP_isOn
  have key : (pn.2.1 &&& ((1 : Int32) <<< (nI n &&& 31))) = 0 ↔ bb pn.2.1 n = false := by
    constructor
    · intro h
      have h1 := bb_and pn.2.1 ((1 : Int32) <<< (nI n &&& 31)) n
      rw [h, bb_0, bb_one n hn n (by omega)] at h1
      simpa using h1.symm
    · intro h
      apply bb_ext
      intro i hi
      rw [bb_and, bb_one n hn i hi, bb_0]
      by_cases e : i = n
      · subst e; rw [h]; rfl
      · rw [decide_eq_false e, Bool.and_false]
  by_cases h : (pn.2.1 &&& ((1 : Int32) <<< (nI n &&& 31))) = 0
  · rw [if_pos h]; exact ⟨fun _ => key.mp h, fun _ => rfl⟩
  · rw [if_neg h]; exact ⟨fun z => absurd z (by decide), fun z => absurd (key.mpr z) h⟩
theorem and15 (x : Int32) : (x &&& (15 : Int32)).toNatClampNeg = x.toBitVec.toNat % 16 := by
  have h := pk_and x (m := (15 : Int32)) 4 (by decide)
  rw [h, nI_clamp]
  omega
theorem succ32 (x : Int32) : (x + (1 : Int32)).toBitVec.toNat % 16 = (x.toBitVec.toNat + 1) % 16 := by
  rw [Int32.toBitVec_add, BitVec.toNat_add]
  have : (1 : Int32).toBitVec.toNat = 1 := by decide
  rw [this]
  omega
theorem lgi_0 (x : Int32) : lgi (x + (1 : Int32)) 0 = x.toBitVec.toNat % 16 := by
  have h := succ32 x
  unfold lgi
  omega
theorem lgi_s (x : Int32) {j : Nat} (hj : j < 15) : lgi (x + (1 : Int32)) (j + 1) = lgi x j ∧ lgi x j ≠ x.toBitVec.toNat % 16 := by
  have h := succ32 x
  unfold lgi
  constructor <;> omega
theorem sub32 (x : Int32) {i : Nat} (hi : i < 16) : (((x - (1 : Int32)) - nI i) &&& (15 : Int32)).toNatClampNeg = lgi x i := by
  rw [and15, Int32.toBitVec_sub, Int32.toBitVec_sub, BitVec.toNat_sub, BitVec.toNat_sub]
  have h1 : (1 : Int32).toBitVec.toNat = 1 := by decide
  have h2 : (nI i).toBitVec.toNat = i := pk_tn (by omega)
  rw [h1, h2]
  unfold lgi
  have := x.toBitVec.isLt
  omega
theorem output_eq (k : Nat) (wc : WcT) (tc : TcT) (tm : TmT) (wh : WhT) (ag : AgT) (pn : PnT) (ca cf : ChT) (sl sh : SnT) (mc : McT) (mw : MwT) (mp : MpT) (me : MeT) (mo : MoT) (ms : MsT) (i : Int32) (h : RP pn mo) : fT_output k wc tc tm wh ag pn ca cf sl sh i = fM_output k mc mw mp me mo ms i := by
  obtain ⟨-, h2, h3⟩ := h
  have n1 : ¬ (1 : Int32) = 0 := by decide
  unfold fT_output fP_logged fM_output
  dsimp only
  rcases i_cases i (N := 15) (by decide) with hi | ⟨a, ha, rfl⟩
  · have e2 : fM_in i (0 : Int32) (15 : Int32) = 0 := in_neg hi
    rw [e2, if_pos rfl]
    rcases hi with hi | hi
    · rw [if_pos hi]
    · by_cases h4 : i < 0
      · rw [if_pos h4]
      · rw [if_neg h4, if_pos (show (16 : Int32) ≤ i from le_of_succ (N := 15) (by decide) hi)]
  · have e2 : fM_in (nI a) (0 : Int32) (15 : Int32) = 1 := inN_pos (N := 15) ha (by decide)
    rw [e2, if_neg n1, if_neg (nI_pos (by omega)), if_neg (show ¬ (16 : Int32) ≤ nI a from nI_ge (a := a) (b := 16) (by omega) (by decide)), ← h2]
    by_cases h4 : nI a < pn.2.2
    · rw [if_pos h4, if_neg (Int32.not_le.mpr h4), sub32 _ (by omega), nI_clamp (by omega), h3 a (by omega)]
    · rw [if_neg h4, if_pos (Int32.not_lt.mp h4)]
def shf (n : Nat) (f : Nat → Int64) : Nat → Int64 := fun x => if 0 < x ∧ x ≤ n then f (x - 1) else f x
theorem shf_0 (f : Nat → Int64) : shf 0 f = f := by
  funext x; unfold shf; rw [if_neg (by omega)]
theorem shf_s (n : Nat) (f : Nat → Int64) : shf n (vp_updL f (n + 1) (f n)) = shf (n + 1) f := by
  funext x
  unfold shf vp_updL
  by_cases h1 : 0 < x ∧ x ≤ n
  · rw [if_pos h1, if_neg (by omega), if_pos (by omega)]
  · rw [if_neg h1]
    by_cases h2 : x = n + 1
    · rw [if_pos h2, if_pos (by omega)]; subst h2; rfl
    · rw [if_neg h2, if_neg (by omega)]
theorem sw_l (k : Nat) (mc : McT) (mw : MwT) (mp : MpT) (me : MeT) (ms : MsT) (isI : Int32) (cy : Nat) (on : Int32) : ∀ (fuel j : Nat) (mo : MoT), fM_switched_l k mc mw mp me ms isI cy on fuel j mo = fM_switched_l k mc mw mp me ms isI cy on 0 0 (mo.1, mo.2.1, shf fuel mo.2.2.1, mo.2.2.2.1, mo.2.2.2.2.1, mo.2.2.2.2.2.1, mo.2.2.2.2.2.2) := by
  intro fuel
  induction fuel with
  | zero => intro j mo; rw [shf_0]; rfl
  | succ n ih =>
    intro j mo
    have h := ih n (mo.1, mo.2.1, vp_updL mo.2.2.1 (n + 1) (mo.2.2.1 n), mo.2.2.2.1, mo.2.2.2.2.1, mo.2.2.2.2.2.1, mo.2.2.2.2.2.2)
    simp only [shf_s] at h
    exact h
theorem swv {t : Int64} {cy : Nat} (hc : cy < 6) (o : Int64) : ((((t * (32 : Int64)) + (0 : Int64)) + ((nI (2 * cy)).toInt64)) + o = ((t * (32 : Int64)) + (((2 : Int32) * nI cy).toInt64)) + o) ∧ ((((t * (32 : Int64)) + (16 : Int64)) + ((nI (2 * cy)).toInt64)) + o = ((t * (32 : Int64)) + (((2 : Int32) * nI (8 + cy)).toInt64)) + o) := by
  have e1 : (2 : Int32) * nI cy = nI (2 * cy) := pk_mul 2 cy
  have e2 : (2 : Int32) * nI (8 + cy) = nI (2 * (8 + cy)) := pk_mul 2 (8 + cy)
  have e3 : lN (2 * (8 + cy)) = (16 : Int64) + lN (2 * cy) := by
    rw [show 2 * (8 + cy) = 16 + 2 * cy by omega, ← lN_add]; rfl
  rw [e1, e2, nI_l (by omega), nI_l (by omega), e3]
  constructor <;> grind
/-- what a switching does to the reference's panel -/
def moS (mo : MoT) (isI : Bool) (cy : Nat) (on : Int32) (v : Int64) : MoT := (if isI then mo.1 else upd mo.1 cy on, if isI then upd mo.2.1 cy on else mo.2.1, vp_updL (shf 15 mo.2.2.1) 0 v, mo.2.2.2.1 + (1 : Int32), mo.2.2.2.2.1, mo.2.2.2.2.2.1, mo.2.2.2.2.2.2)
theorem sw_c (k : Nat) (mc : McT) (mw : MwT) (mp : MpT) (me : MeT) (mo : MoT) (ms : MsT) {cy : Nat} (hc : cy < 6) : fM_switched k mc mw mp me mo ms (0 : Int32) cy (1 : Int32) = moS mo false cy 1 (((mw.1 * (32 : Int64)) + (((2 : Int32) * nI cy).toInt64)) + (1 : Int64)) ∧ fM_switched k mc mw mp me mo ms (0 : Int32) cy (0 : Int32) = moS mo false cy 0 (((mw.1 * (32 : Int64)) + (((2 : Int32) * nI cy).toInt64)) + (0 : Int64)) := by
  have n1 : ¬ (1 : Int32) = 0 := by decide
  constructor
  · unfold fM_switched; rw [sw_l, ← (swv hc 1).1, fM_switched_l, if_pos rfl, if_neg n1]; rfl
  · unfold fM_switched; rw [sw_l, ← (swv hc 0).1, fM_switched_l, if_pos rfl, if_pos rfl]; rfl
theorem sw_i (k : Nat) (mc : McT) (mw : MwT) (mp : MpT) (me : MeT) (mo : MoT) (ms : MsT) {cy : Nat} (hc : cy < 6) : fM_switched k mc mw mp me mo ms (1 : Int32) cy (1 : Int32) = moS mo true cy 1 (((mw.1 * (32 : Int64)) + (((2 : Int32) * nI (8 + cy)).toInt64)) + (1 : Int64)) ∧ fM_switched k mc mw mp me mo ms (1 : Int32) cy (0 : Int32) = moS mo true cy 0 (((mw.1 * (32 : Int64)) + (((2 : Int32) * nI (8 + cy)).toInt64)) + (0 : Int64)) := by
  have n1 : ¬ (1 : Int32) = 0 := by decide
  constructor
  · unfold fM_switched; rw [sw_l, ← (swv hc 1).2, fM_switched_l, if_neg n1, if_neg n1]; rfl
  · unfold fM_switched; rw [sw_l, ← (swv hc 0).2, fM_switched_l, if_neg n1, if_pos rfl]; rfl
theorem RP.log {pn : PnT} {mo : MoT} (h : RP pn mo) (v : Int64) : ∀ j, j < 16 → vp_updL (shf 15 mo.2.2.1) 0 v j = vp_updL pn.1 ((pn.2.2 &&& (15 : Int32)).toNatClampNeg) v (lgi (pn.2.2 + (1 : Int32)) j) := by
  obtain ⟨-, h2, h3⟩ := h
  intro j hj
  rw [and15]
  unfold vp_updL shf
  cases j with
  | zero => rw [if_pos rfl, lgi_0, if_pos rfl]
  | succ j =>
    obtain ⟨e1, e2⟩ := lgi_s pn.2.2 (j := j) (by omega)
    rw [if_neg (by omega), if_pos (by omega), e1, if_neg e2]
    exact h3 j (by omega)
theorem onB_c (mo : MoT) {cy : Nat} (hc : cy < 6) (on : Int32) (v : Int64) (i : Nat) : onB (moS mo false cy on v) i = if i = cy then !decide (on = 0) else onB mo i := by
  unfold onB moS upd
  by_cases e : i = cy
  · subst e; simp [hc]; omega
  · simp [e]
theorem onB_i (mo : MoT) {cy : Nat} (hc : cy < 6) (on : Int32) (v : Int64) (i : Nat) : onB (moS mo true cy on v) i = if i = 8 + cy then !decide (on = 0) else onB mo i := by
  unfold onB moS upd
  by_cases e : i = 8 + cy
  · subst e
    have e1 : 8 + cy - 8 = cy := by omega
    have e2 : ¬ 8 + cy < 6 := by omega
    have e3 : 8 + cy < 14 := by omega
    simp [e1, e2, e3]
  · by_cases e8 : 8 ≤ i
    · have : ¬ i - 8 = cy := by omega
      simp [e, this]
    · simp [e, e8]
theorem to_bits (pn : PnT) {n : Nat} (hn : n < 16) (t : Int64) {i : Nat} (hi : i < 32) : bb (fP_switchTo pn (nI n) (1 : Int32) t).2.1 i = (if i = n then true else bb pn.2.1 i) ∧ bb (fP_switchTo pn (nI n) (0 : Int32) t).2.1 i = (if i = n then false else bb pn.2.1 i) := by
  have n1 : ¬ (1 : Int32) = 0 := by decide
  unfold fP_switchTo
  rw [if_neg n1, if_pos rfl]
  dsimp only
  rw [bb_or, bb_and, bb_one n hn i hi, bb_not n hn i hi]
  by_cases e : i = n
  · simp [e]
  · simp [e]
/-- one switching, both sides -/
theorem RP.sw {pn : PnT} {mo : MoT} (h : RP pn mo) (k : Nat) (mc : McT) (mw : MwT) (mp : MpT) (me : MeT) (ms : MsT) {cy : Nat} (hc : cy < 6) :
    (RP (fP_switchTo pn (nI cy) (1 : Int32) mw.1) (fM_switched k mc mw mp me mo ms (0 : Int32) cy (1 : Int32))) ∧
    (RP (fP_switchTo pn (nI cy) (0 : Int32) mw.1) (fM_switched k mc mw mp me mo ms (0 : Int32) cy (0 : Int32))) ∧
    (RP (fP_switchTo pn (nI (8 + cy)) (1 : Int32) mw.1) (fM_switched k mc mw mp me mo ms (1 : Int32) cy (1 : Int32))) ∧
    (RP (fP_switchTo pn (nI (8 + cy)) (0 : Int32) mw.1) (fM_switched k mc mw mp me mo ms (1 : Int32) cy (0 : Int32))) := by
  have n1 : ¬ (1 : Int32) = 0 := by decide
  have h1 := h.1
  have h2 := h.2.1
  rw [(sw_c k mc mw mp me mo ms hc).1, (sw_c k mc mw mp me mo ms hc).2, (sw_i k mc mw mp me mo ms hc).1, (sw_i k mc mw mp me mo ms hc).2]
  refine ⟨⟨?_, ?_, ?_⟩, ⟨?_, ?_, ?_⟩, ⟨?_, ?_, ?_⟩, ⟨?_, ?_, ?_⟩⟩
  · intro i hi; rw [(to_bits pn (by omega) _ hi).1, onB_c mo hc, h1 i hi]; rfl
  · unfold fP_switchTo; rw [if_neg n1]; show pn.2.2 + (1 : Int32) = mo.2.2.2.1 + (1 : Int32); rw [h2]
  · unfold fP_switchTo; rw [if_neg n1]; exact h.log _
  · intro i hi; rw [(to_bits pn (by omega) _ hi).2, onB_c mo hc, h1 i hi]; rfl
  · unfold fP_switchTo; rw [if_pos rfl]; show pn.2.2 + (1 : Int32) = mo.2.2.2.1 + (1 : Int32); rw [h2]
  · unfold fP_switchTo; rw [if_pos rfl]; exact h.log _
  · intro i hi; rw [(to_bits pn (by omega) _ hi).1, onB_i mo hc, h1 i hi]; rfl
  · unfold fP_switchTo; rw [if_neg n1]; show pn.2.2 + (1 : Int32) = mo.2.2.2.1 + (1 : Int32); rw [h2]
  · unfold fP_switchTo; rw [if_neg n1]; exact h.log _
  · intro i hi; rw [(to_bits pn (by omega) _ hi).2, onB_i mo hc, h1 i hi]; rfl
  · unfold fP_switchTo; rw [if_pos rfl]; show pn.2.2 + (1 : Int32) = mo.2.2.2.1 + (1 : Int32); rw [h2]
  · unfold fP_switchTo; rw [if_pos rfl]; exact h.log _

/-- the reference's own sum of what runs -/
theorem run_l (k : Nat) (mc : McT) (mw : MwT) (mp : MpT) (me : MeT) (mo : MoT) (ms : MsT) : ∀ (fuel i : Nat) (sum : Int32), fuel + i = 6 → (∀ b, b < 32 → bb sum b = ((decide (b < i) && !decide (mo.1 b = 0)) || (decide (8 ≤ b) && decide (b < 8 + i) && !decide (mo.2.1 (b - 8) = 0)))) → ∀ b, b < 32 → bb (fM_running_l k mc mw mp me mo ms fuel i sum) b = onB mo b := by
  intro fuel
  induction fuel with
  | zero =>
    intro i sum hm h b hb
    have e : i = 6 := by omega
    subst e
    exact h b hb
  | succ n ih =>
    intro i sum hm h b hb
    have hi : i < 6 := by omega
    have z1 : sum &&& ((1 : Int32) <<< (nI i &&& 31)) = 0 := by
      apply bb_ext
      intro j hj
      rw [bb_and, bb_one i (by omega) j hj, bb_0, h j hj]
      by_cases e : j = i
      · subst e
        have : ¬ 8 ≤ j := by omega
        simp [this]
      · simp [e]
    have z2 : ∀ x : Int32, (∀ j, j < 32 → bb x j = (bb sum j || (decide (j = i) && !decide (mo.1 i = 0)))) → x &&& ((256 : Int32) <<< (nI i &&& 31)) = 0 := by
      intro x hx
      apply bb_ext
      intro j hj
      rw [bb_and, bb_256 i hi j hj, bb_0, hx j hj, h j hj]
      by_cases e : j = 8 + i
      · subst e
        have a1 : ¬ 8 + i < i := by omega
        have a2 : ¬ 8 + i = i := by omega
        simp [a1, a2]
      · simp [e]
    have s0 : ∀ x : Int32, x + (0 : Int32) = x := fun x => by grind
    have fin : ∀ y : Int32, (∀ j, j < 32 → bb y j = (bb sum j || (decide (j = i) && !decide (mo.1 i = 0)) || (decide (j = 8 + i) && !decide (mo.2.1 i = 0)))) → bb (fM_running_l k mc mw mp me mo ms n (i + 1) y) b = onB mo b := by
      intro y hy
      refine ih (i + 1) y (by omega) (fun j hj => ?_) b hb
      rw [hy j hj, h j hj]
      by_cases e : j = i
      · subst e
        have a1 : ¬ 8 ≤ j := by omega
        have a2 : ¬ j = 8 + j := by omega
        simp [a1, a2]
      · by_cases e2 : j = 8 + i
        · subst e2
          have a1 : ¬ 8 + i < i := by omega
          have a2 : ¬ 8 + i < i + 1 := by omega
          have a3 : 8 + i < 8 + (i + 1) := by omega
          have a4 : 8 + i - 8 = i := by omega
          have a5 : ¬ 8 + i = i := by omega
          simp [a1, a2, a3, a4, a5]
        · have a1 : (j < i + 1) = (j < i) := by apply propext; constructor <;> omega
          have a2 : (j < 8 + (i + 1)) = (j < 8 + i) := by apply propext; constructor <;> omega
          simp [e, e2, a1, a2]
    rw [fM_running_l]
    by_cases c1 : mo.1 i = 0
    · rw [if_pos c1]
      by_cases c2 : mo.2.1 i = 0
      · rw [if_pos c2]
        apply fin
        intro j hj
        rw [s0, s0]; simp [c1, c2]
      · rw [if_neg c2]
        apply fin
        intro j hj
        rw [s0, bb_add (z2 sum (fun j hj => by simp [c1])), bb_or, bb_256 i hi j hj]
        simp [c1, c2]
    · rw [if_neg c1]
      by_cases c2 : mo.2.1 i = 0
      · rw [if_pos c2]
        apply fin
        intro j hj
        rw [s0, bb_add z1, bb_or, bb_one i (by omega) j hj]
        simp [c1, c2]
      · rw [if_neg c2]
        apply fin
        intro j hj
        rw [bb_add z1, bb_add (z2 _ (fun j hj => by rw [bb_or, bb_one i (by omega) j hj]; simp [c1])), bb_or, bb_or, bb_one i (by omega) j hj, bb_256 i hi j hj]
        simp [c1, c2]
theorem running_eq (k : Nat) (wc : WcT) (tc : TcT) (tm : TmT) (wh : WhT) (ag : AgT) (pn : PnT) (ca cf : ChT) (sl sh : SnT) (mc : McT) (mw : MwT) (mp : MpT) (me : MeT) (mo : MoT) (ms : MsT) (h : RP pn mo) : fT_running k wc tc tm wh ag pn ca cf sl sh = fM_running k mc mw mp me mo ms := by
  unfold fT_running fM_running
  apply bb_ext
  intro i hi
  have h0 : ∀ b, b < 32 → bb (0 : Int32) b = ((decide (b < 0) && !decide (mo.1 b = 0)) || (decide (8 ≤ b) && decide (b < 8 + 0) && !decide (mo.2.1 (b - 8) = 0))) := by
    intro b hb
    rw [bb_0]
    by_cases h8 : 8 ≤ b
    · have : ¬ b < 8 := by omega
      simp [this]
    · simp [h8]
  rw [h.1 i hi, run_l k mc mw mp me mo ms 6 0 0 rfl h0 i hi]
/-- what a switching leaves alone -/
theorem sw_rest (k : Nat) (mc : McT) (mw : MwT) (mp : MpT) (me : MeT) (mo : MoT) (ms : MsT) {cy : Nat} (hc : cy < 6) : (fM_switched k mc mw mp me mo ms (0 : Int32) cy (1 : Int32)).2.2.2.2 = mo.2.2.2.2 ∧ (fM_switched k mc mw mp me mo ms (0 : Int32) cy (0 : Int32)).2.2.2.2 = mo.2.2.2.2 ∧ (fM_switched k mc mw mp me mo ms (1 : Int32) cy (1 : Int32)).2.2.2.2 = mo.2.2.2.2 ∧ (fM_switched k mc mw mp me mo ms (1 : Int32) cy (0 : Int32)).2.2.2.2 = mo.2.2.2.2 := by
  rw [(sw_c k mc mw mp me mo ms hc).1, (sw_c k mc mw mp me mo ms hc).2, (sw_i k mc mw mp me mo ms hc).1, (sw_i k mc mw mp me mo ms hc).2]
  exact ⟨rfl, rfl, rfl, rfl⟩
theorem onB_coil (mo : MoT) {c : Nat} (hc : c < 6) : onB mo c = !decide (mo.1 c = 0) := by
  have : ¬ 8 ≤ c := by omega
  unfold onB
  simp [hc, this]
theorem onB_inj (mo : MoT) {c : Nat} (hc : c < 6) : onB mo (8 + c) = !decide (mo.2.1 c = 0) := by
  have a1 : ¬ 8 + c < 6 := by omega
  have a2 : 8 + c < 14 := by omega
  have a3 : 8 + c - 8 = c := by omega
  unfold onB
  simp [a1, a2, a3]
theorem on_coil {pn : PnT} {mo : MoT} (h : RP pn mo) {c : Nat} (hc : c < 6) : fP_isOn pn (nI c) = 0 ↔ mo.1 c = 0 := by
  rw [isOn_iff pn (by omega), h.1 c (by omega), onB_coil mo hc]
  simp
theorem on_inj {pn : PnT} {mo : MoT} (h : RP pn mo) {c : Nat} (hc : c < 6) : fP_isOn pn (nI (8 + c)) = 0 ↔ mo.2.1 c = 0 := by
  rw [isOn_iff pn (by omega), h.1 (8 + c) (by omega), onB_inj mo hc]
  simp
theorem off_l2 (k : Nat) (mc : McT) (mw : MwT) (mp : MpT) (ms : MsT) (me : MeT) : ∀ (m i : Nat) (pn : PnT) (mo : MoT), m + i = 6 → RP pn mo → ∃ pn2 mo2, fP_switchAllOff_l mw.1 (10 + m) i pn = fP_switchAllOff_l mw.1 10 6 pn2 ∧ fM_cease_l2 k mc mw mp ms m i me mo = fM_cease_l3 k mc mw mp ms 6 0 me mo2 ∧ RP pn2 mo2 ∧ mo2.2.2.2.2 = mo.2.2.2.2 := by
  intro m
  induction m with
  | zero =>
    intro i pn mo hm h
    have e : i = 6 := by omega
    subst e
    exact ⟨pn, mo, rfl, rfl, h, rfl⟩
  | succ m ih =>
    intro i pn mo hm h
    have hi : i < 6 := by omega
    rw [show 10 + (m + 1) = (10 + m) + 1 by omega, fP_switchAllOff_l, fM_cease_l2]
    dsimp only
    by_cases c : mo.1 i = 0
    · rw [if_pos ((on_coil h hi).mpr c), if_pos c]
      exact ih (i + 1) pn mo (by omega) h
    · rw [if_neg (fun z => c ((on_coil h hi).mp z)), if_neg c]
      obtain ⟨pn2, mo2, g1, g2, g3, g4⟩ := ih (i + 1) _ _ (by omega) (h.sw k mc mw mp me ms hi).2.1
      exact ⟨pn2, mo2, g1, g2, g3, g4.trans (sw_rest k mc mw mp me mo ms hi).2.1⟩
theorem off_l3 (k : Nat) (mc : McT) (mw : MwT) (mp : MpT) (ms : MsT) (me : MeT) : ∀ (m i : Nat) (pn : PnT) (mo : MoT), m + i = 6 → RP pn mo → ∃ pn2 mo2, fP_switchAllOff_l mw.1 (2 + m) (8 + i) pn = fP_switchAllOff_l mw.1 2 14 pn2 ∧ fM_cease_l3 k mc mw mp ms m i me mo = (me, mo2) ∧ RP pn2 mo2 ∧ mo2.2.2.2.2 = mo.2.2.2.2 := by
  intro m
  induction m with
  | zero =>
    intro i pn mo hm h
    have e : i = 6 := by omega
    subst e
    exact ⟨pn, mo, rfl, rfl, h, rfl⟩
  | succ m ih =>
    intro i pn mo hm h
    have hi : i < 6 := by omega
    rw [show 2 + (m + 1) = (2 + m) + 1 by omega, fP_switchAllOff_l, fM_cease_l3]
    dsimp only
    by_cases c : mo.2.1 i = 0
    · rw [if_pos ((on_inj h hi).mpr c), if_pos c]
      exact ih (i + 1) pn mo (by omega) h
    · rw [if_neg (fun z => c ((on_inj h hi).mp z)), if_neg c]
      obtain ⟨pn2, mo2, g1, g2, g3, g4⟩ := ih (i + 1) _ _ (by omega) (h.sw k mc mw mp me ms hi).2.2.2
      exact ⟨pn2, mo2, g1, g2, g3, g4.trans (sw_rest k mc mw mp me mo ms hi).2.2.2⟩
theorem off_none {pn : PnT} {mo : MoT} (h : RP pn mo) {n : Nat} (hn : n = 6 ∨ n = 7 ∨ n = 14 ∨ n = 15) : fP_isOn pn (nI n) = 0 := by
  rw [isOn_iff pn (by omega), h.1 n (by omega)]
  unfold onB
  have a1 : ¬ n < 6 := by omega
  have a2 : ¬ (8 ≤ n ∧ n < 14) := by omega
  by_cases h8 : 8 ≤ n
  · have a3 : ¬ n < 14 := by omega
    simp [a1, a3]
  · simp [a1, h8]
/-- all is switched off, both sides -/
theorem off_eq (k : Nat) (mc : McT) (mw : MwT) (mp : MpT) (ms : MsT) (me : MeT) (pn : PnT) (mo : MoT) (h : RP pn mo) : ∃ mo2, fM_cease_l2 k mc mw mp ms 6 0 me mo = (me, mo2) ∧ RP (fP_switchAllOff pn mw.1) mo2 ∧ mo2.2.2.2.2 = mo.2.2.2.2 := by
  obtain ⟨pn2, mo2, g1, g2, g3, g4⟩ := off_l2 k mc mw mp ms me 6 0 pn mo rfl h
  obtain ⟨pn3, mo3, k1, k2, k3, k4⟩ := off_l3 k mc mw mp ms me 6 0 pn2 mo2 rfl g3
  refine ⟨mo3, by rw [g2, k2], ?_, k4.trans g4⟩
  have e1 : fP_switchAllOff pn mw.1 = fP_switchAllOff_l mw.1 10 6 pn2 := g1
  have e2 : fP_switchAllOff_l mw.1 10 6 pn2 = fP_switchAllOff_l mw.1 8 8 pn2 := by
    rw [fP_switchAllOff_l]
    dsimp only
    rw [if_pos (off_none g3 (Or.inl rfl)), fP_switchAllOff_l]
    dsimp only
    rw [if_pos (off_none g3 (Or.inr (Or.inl rfl)))]
  have e3 : fP_switchAllOff_l mw.1 2 14 pn3 = pn3 := by
    rw [fP_switchAllOff_l]
    dsimp only
    rw [if_pos (off_none k3 (Or.inr (Or.inr (Or.inl rfl)))), fP_switchAllOff_l]
    dsimp only
    rw [if_pos (off_none k3 (Or.inr (Or.inr (Or.inr rfl)))), fP_switchAllOff_l]
  rw [e1, e2, show fP_switchAllOff_l mw.1 8 8 pn2 = fP_switchAllOff_l mw.1 2 14 pn3 from k1, e3]
  exact k3

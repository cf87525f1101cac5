/-! pure: angles -/
theorem t_small {x : Int32} {v : Int} (h : x.toInt = v) (h1 : 0 ≤ v) : x = nI v.toNat ∧ (nI v.toNat).toInt = v := by
  have hx := Int32.toInt_lt x
  have e : (nI v.toNat).toInt = v := by
    rw [nI_toInt (by omega)]; omega
  exact ⟨Int32.toInt_inj.mp (by rw [e, h]), e⟩
theorem t_add {x y : Int32} {a b : Int} (hx : x.toInt = a) (hy : y.toInt = b) (h1 : -1000000000 ≤ a + b) (h2 : a + b ≤ 1000000000) : (x + y).toInt = a + b := by
  rw [Int32.toInt_add, hx, hy]
  exact Int.bmod_eq_of_le (by omega) (by omega)
theorem t_sub {x y : Int32} {a b : Int} (hx : x.toInt = a) (hy : y.toInt = b) (h1 : -1000000000 ≤ a - b) (h2 : a - b ≤ 1000000000) : (x - y).toInt = a - b := by
  rw [Int32.toInt_sub, hx, hy]
  exact Int.bmod_eq_of_le (by omega) (by omega)
theorem t_mul {x y : Int32} {a b : Int} (hx : x.toInt = a) (hy : y.toInt = b) (h1 : -1000000000 ≤ a * b) (h2 : a * b ≤ 1000000000) : (x * y).toInt = a * b := by
  rw [Int32.toInt_mul, hx, hy]
  exact Int.bmod_eq_of_le (by omega) (by omega)
theorem t_div {x y : Int32} {a b : Int} (hx : x.toInt = a) (hy : y.toInt = b) (h1 : -1000000000 ≤ a.tdiv b) (h2 : a.tdiv b ≤ 1000000000) : (x / y).toInt = a.tdiv b := by
  rw [Int32.toInt_div, hx, hy]
  exact Int.bmod_eq_of_le (by omega) (by omega)
theorem xor_sign {x y : Int32} (hy : ¬ y < 0) : (0 ≤ x ^^^ y) ↔ 0 ≤ x := by
  have m : ∀ z : Int32, (0 ≤ z) ↔ z.toBitVec.msb = false := by
    intro z
    rw [Int32.le_iff_toInt_le, BitVec.msb_eq_toInt]
    have : (0 : Int32).toInt = 0 := by decide
    rw [this]
    show _ ↔ decide (z.toInt < 0) = false
    rw [decide_eq_false_iff_not]
    omega
  have hy' : y.toBitVec.msb = false := (m y).mp (Int32.not_lt.mp hy)
  rw [m, m, Int32.toBitVec_xor, BitVec.msb_xor, hy', Bool.xor_false]
/-- floorMod by a positive number -/
theorem fmod_val {x : Int32} {v : Int} {c : Nat} (hx : x.toInt = v) (h1 : -1000000 ≤ v) (h2 : v ≤ 1000000) (hc : 0 < c) (hc2 : c ≤ 10000) : fJ_floorMod x (nI c) = nI (v % (c : Int)).toNat := by
  have hct : (nI c).toInt = (c : Int) := nI_toInt (by omega)
  have hcp : ¬ nI c < 0 := nI_pos (by omega)
  have cpos : (0 : Int) < c := by omega
  have q0 : v = c * (v / c) + v % c := (Int.mul_ediv_add_emod v c).symm
  have m1 := Int.emod_nonneg v (show (c : Int) ≠ 0 by omega)
  have m2 := Int.emod_lt_of_pos v cpos
  unfold fJ_floorMod
  by_cases s : 0 ≤ x
  · have hv : 0 ≤ v := by
      have := Int32.le_iff_toInt_le.mp s
      have z : (0 : Int32).toInt = 0 := by decide
      rw [z, hx] at this; exact this
    rw [if_pos ((xor_sign hcp).mpr s)]
    obtain ⟨e1, -⟩ := t_small hx hv
    rw [e1, pk_rem (by omega) (by omega) (by omega)]
    have hvm : v % (c : Int) = ((v.toNat % c : Nat) : Int) := by
      rw [Int.natCast_emod]
      congr 1
      omega
    rw [hvm, Int.toNat_natCast]
  · have hv : v < 0 := by
      have z : (0 : Int32).toInt = 0 := by decide
      have : ¬ (0 : Int32).toInt ≤ x.toInt := fun y => s (Int32.le_iff_toInt_le.mpr y)
      rw [z, hx] at this; omega
    rw [if_neg (fun z => s ((xor_sign hcp).mp z))]
    have td : v.tdiv c = -((-v) / c) := by
      rw [show v = -(-v) by omega, Int.neg_tdiv, Int.tdiv_eq_ediv_of_nonneg (by omega)]
      simp
    have b0 : 0 ≤ (-v) / (c : Int) := Int.ediv_nonneg (by omega) (by omega)
    have b1 : (-v) / (c : Int) ≤ -v := Int.ediv_le_self _ (by omega)
    have e1 : (x / nI c).toInt = v.tdiv c := t_div hx hct (by rw [td]; omega) (by rw [td]; omega)
    have q1 := (Int.mul_ediv_add_emod (-v) c).symm
    have n1 := Int.emod_nonneg (-v) (show (c : Int) ≠ 0 by omega)
    have n2 := Int.emod_lt_of_pos (-v) cpos
    have e2 : (x / nI c * nI c).toInt = v.tdiv c * c := by
      apply t_mul e1 hct
      · rw [td, Int.neg_mul, Int.mul_comm]; omega
      · rw [td, Int.neg_mul, Int.mul_comm]; omega
    have e3 : (x - x / nI c * nI c).toInt = v - v.tdiv c * c := by
      apply t_sub hx e2
      · rw [td, Int.neg_mul, Int.mul_comm]; omega
      · rw [td, Int.neg_mul, Int.mul_comm]; omega
    have e4 : v - v.tdiv c * c = -((-v) % c) := by
      rw [td, Int.neg_mul, Int.mul_comm]; omega
    rw [e4] at e3
    have em : v % c = if (-v) % c = 0 then 0 else c - (-v) % c := by
      by_cases z : (-v) % (c : Int) = 0
      · rw [if_pos z]
        have : (c : Int) ∣ v := by
          have := Int.dvd_of_emod_eq_zero z
          exact (Int.dvd_neg).mp this
        exact Int.emod_eq_zero_of_dvd this
      · rw [if_neg z]
        have h9 : v = (c - (-v) % c) + c * (-((-v) / c) - 1) := by
          rw [Int.mul_sub, Int.mul_neg]; omega
        rw [h9, Int.add_mul_emod_self_left]
        rw [← h9]
        exact Int.emod_eq_of_lt (by omega) (by omega)
    by_cases z : (-v) % (c : Int) = 0
    · have e5 : x - x / nI c * nI c = 0 := Int32.toInt_inj.mp (by rw [e3, z]; decide)
      rw [if_pos e5, e5, em, if_pos z]; rfl
    · have e5 : ¬ x - x / nI c * nI c = 0 := by
        intro y
        rw [y] at e3
        have z0 : (0 : Int32).toInt = 0 := by decide
        rw [z0] at e3
        omega
      rw [if_neg e5]
      have e6 := t_add e3 hct (by omega) (by omega)
      have e7 : (x - x / nI c * nI c + nI c).toInt = v % c := by rw [e6, em, if_neg z]; omega
      exact (t_small e7 m1).1
theorem far2 (k : Nat) (mc : McT) (mw : MwT) (mp : MpT) (me : MeT) (mo : MoT) (ms : MsT) (an : Int32) {c : Nat} (hc : 0 < c) (hc2 : c ≤ 10000) (hm : mc.2.2.2 = nI c) : ∀ (fuel j : Nat) (de : Int32) (v : Int), de.toInt = v → 0 ≤ v → v < (fuel + 1) * c → v ≤ 1000000 → fM_far_l2 k mc mw mp me mo ms an fuel j de = nI (v % (c : Int)).toNat := by
  have hct : (nI c).toInt = (c : Int) := nI_toInt (by omega)
  intro fuel
  induction fuel with
  | zero =>
    intro j de v h1 h2 h3 h4
    rw [fM_far_l2, Int.emod_eq_of_lt h2 (by omega)]
    exact (t_small h1 h2).1
  | succ n ih =>
    intro j de v h1 h2 h3 h4
    rw [fM_far_l2, hm]
    by_cases s : de < nI c
    · rw [if_pos s]
      have := Int32.lt_iff_toInt_lt.mp s
      rw [h1, hct] at this
      rw [Int.emod_eq_of_lt h2 this]
      exact (t_small h1 h2).1
    · rw [if_neg s]
      have h5 : (c : Int) ≤ v := by
        have : ¬ de.toInt < (nI c).toInt := fun z => s (Int32.lt_iff_toInt_lt.mpr z)
        rw [h1, hct] at this; omega
      have e := t_sub h1 hct (by omega) (by omega)
      rw [ih (j + 1) _ (v - c) e (by omega) (by push_cast at h3; rw [Int.add_mul ((n : Int) + 1), Int.one_mul] at h3; omega) (by omega), Int.sub_emod_right]
theorem far1 (k : Nat) (mc : McT) (mw : MwT) (mp : MpT) (me : MeT) (mo : MoT) (ms : MsT) (an : Int32) {c : Nat} (hc : 0 < c) (hc2 : c ≤ 10000) (hm : mc.2.2.2 = nI c) : ∀ (fuel i : Nat) (dd : Int32) (v : Int), dd.toInt = v → -(fuel * c) ≤ v → v < 11 * c → -1000000 ≤ v → v ≤ 1000000 → fM_far_l1 k mc mw mp me mo ms an fuel i dd = nI (v % (c : Int)).toNat := by
  have hct : (nI c).toInt = (c : Int) := nI_toInt (by omega)
  intro fuel
  induction fuel with
  | zero =>
    intro i dd v h1 h2 h3 h4 h5
    rw [fM_far_l1]
    exact far2 k mc mw mp me mo ms an hc hc2 hm 10 0 dd v h1 (by omega) (by omega) h5
  | succ n ih =>
    intro i dd v h1 h2 h3 h4 h5
    rw [fM_far_l1, hm]
    have z0 : (0 : Int32).toInt = 0 := by decide
    by_cases s : 0 ≤ dd
    · rw [if_pos s]
      have := Int32.le_iff_toInt_le.mp s
      rw [h1, z0] at this
      exact far2 k mc mw mp me mo ms an hc hc2 hm 10 0 dd v h1 this (by omega) h5
    · rw [if_neg s]
      have h6 : v < 0 := by
        have : ¬ (0 : Int32).toInt ≤ dd.toInt := fun y => s (Int32.le_iff_toInt_le.mpr y)
        rw [z0, h1] at this; omega
      have e := t_add h1 hct (by omega) (by omega)
      rw [ih (i + 1) _ (v + c) e (by rw [Int.natCast_add, Int.add_mul] at h2; omega) (by omega) (by omega) (by omega), Int.add_emod_right]

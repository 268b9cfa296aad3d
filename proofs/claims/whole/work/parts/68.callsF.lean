/-! ways; the class -/
/-- one step: a turn, or a turn back -/
def stp (n : Nat) (t : Nat → Nat → Nat) (v : Int32) (x : Nat) : Nat := if 0 < v then t (v.toNatClampNeg - 1) x else iv (t ((-v).toNatClampNeg - 1)) n x
def stpOk (k : Nat) (v : Int32) : Prop := ¬ v = 0 ∧ ¬ nI k < v ∧ -(nI k) ≤ v
def lfx (n : Nat) (t : Nat → Nat → Nat) (f : Nat → Int32) (x : Nat) : Nat → Nat
  | 0 => x
  | m + 1 => stp n t (f m) (lfx n t f x m)
theorem stp_of {k : Nat} {v : Int32} (hk : k ≤ 8) (h : stpOk k v) : (∃ j, j < k ∧ v = nI (j + 1)) ∨ ∃ j, j < k ∧ v = -(nI (j + 1)) := by
  obtain ⟨h1, h2, h3⟩ := h
  have e0 : (0 : Int32).toInt = 0 := rfl
  have ek := nI_toInt (n := k) (by omega)
  have hv1 : ¬ v.toInt = 0 := fun q => h1 (Int32.toInt_inj.mp (q.trans e0.symm))
  have hv2 : v.toInt ≤ k := by rw [Int32.lt_iff_toInt_lt, ek] at h2; omega
  have hneg : (-(nI k)).toInt = -(k : Int) := by
    rcases (show k = 0 ∨ k = 1 ∨ k = 2 ∨ k = 3 ∨ k = 4 ∨ k = 5 ∨ k = 6 ∨ k = 7 ∨ k = 8 by omega) with e | e | e | e | e | e | e | e | e <;> subst e <;> rfl
  have hv3 : -(k : Int) ≤ v.toInt := by rw [Int32.le_iff_toInt_le, hneg] at h3; exact h3
  rcases Int.lt_or_gt_of_ne hv1 with w | w
  · right
    refine ⟨(-v.toInt).toNat - 1, by omega, ?_⟩
    apply Int32.toInt_inj.mp
    generalize hj : (-v.toInt).toNat - 1 = j
    have hj8 : j < 8 := by omega
    have : (-(nI (j + 1))).toInt = -((j : Int) + 1) := by
      rcases (show j = 0 ∨ j = 1 ∨ j = 2 ∨ j = 3 ∨ j = 4 ∨ j = 5 ∨ j = 6 ∨ j = 7 by omega) with e | e | e | e | e | e | e | e <;> subst e <;> rfl
    rw [this]
    omega
  · left
    refine ⟨v.toInt.toNat - 1, by omega, ?_⟩
    apply Int32.toInt_inj.mp
    rw [nI_toInt (by omega)]
    omega

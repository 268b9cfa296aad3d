/-! ways; the class -/
/-- one step: a turn, or a turn back -/
def stp (n : Nat) (t : Nat → Nat → Nat) (v : Int32) (x : Nat) : Nat := if 0 < v then t (v.toNatClampNeg - 1) x else iv (t ((-v).toNatClampNeg - 1)) n x
def stpOk (k : Nat) (v : Int32) : Prop := ¬ v = 0 ∧ ¬ nI k < v ∧ -(nI k) ≤ v
def lfx (n : Nat) (t : Nat → Nat → Nat) (f : Nat → Int32) (x : Nat) : Nat → Nat
  | 0 => x
  | m + 1 => stp n t (f m) (lfx n t f x m)
theorem stp_of {k : Nat} {v : Int32} (hk : k ≤ 8) (h : stpOk k v) : (∃ j, j < k ∧ v = nI (j + 1)) ∨ ∃ j, j < k ∧ v = -(nI (j + 1)) := by
  obtain ⟨h1, h2, h3⟩ := h
  have e0 : (0 : Int32).toInt = 0 := rfl
  have ek := nI_toInt (n := k) (by omega)
  have hv1 : ¬ v.toInt = 0 := fun q => h1 (Int32.toInt_inj.mp (q.trans e0.symm))
  have hv2 : v.toInt ≤ k := by rw [Int32.lt_iff_toInt_lt, ek] at h2; omega
  have hneg : (-(nI k)).toInt = -(k : Int) := by
    rcases (show k = 0 ∨ k = 1 ∨ k = 2 ∨ k = 3 ∨ k = 4 ∨ k = 5 ∨ k = 6 ∨ k = 7 ∨ k = 8 by omega) with e | e | e | e | e | e | e | e | e <;> subst e <;> rfl
  have hv3 : -(k : Int) ≤ v.toInt := by rw [Int32.le_iff_toInt_le, hneg] at h3; exact h3
  rcases Int.lt_or_gt_of_ne hv1 with w | w
  · right
    refine ⟨(-v.toInt).toNat - 1, by omega, ?_⟩
    apply Int32.toInt_inj.mp
    generalize hj : (-v.toInt).toNat - 1 = j
    have hj8 : j < 8 := by omega
    have : (-(nI (j + 1))).toInt = -((j : Int) + 1) := by
      rcases (show j = 0 ∨ j = 1 ∨ j = 2 ∨ j = 3 ∨ j = 4 ∨ j = 5 ∨ j = 6 ∨ j = 7 by omega) with e | e | e | e | e | e | e | e <;> subst e <;> rfl
    rw [this]
    omega
  · left
    refine ⟨v.toInt.toNat - 1, by omega, ?_⟩
    apply Int32.toInt_inj.mp
    rw [nI_toInt (by omega)]
    omega
noncomputable def opLift (st : AS) (x r i m s : Int32) : Int32 × AS := match ixI x 10 with
  | none => badO st
  | some p => match ixI r 8 with
    | none => badO st
    | some u => if m < 0 ∨ ¬ m ≤ 96 then badO st else match st.2.1 p with
      | none => fndO st 1
      | some c => if (st.1 u).1 = -1 then fndO st 1 else match hlI (st.1 u).2.1 i m with
        | none => fndO st 2
        | some q => match ixI s c.1 with
          | none => badO st
          | some z => @ite _ (∀ e, e < q.2 → stpOk c.2.1 ((st.1 u).2.2 (q.1 + e))) (Classical.propDecidable _) (finO (nI (lfx c.1 c.2.2 (fun e => (st.1 u).2.2 (q.1 + e)) z q.2)) st) (badO st)
section CallsF
variable {d : Nat} {h : mH} {st : AS} {K : Option Value → mH → Prop}
theorem stp_ev {a ta ci n k pr x : Nat} {t : Nat → Nat → Nat} {v : Int32} (c : CO h a ta ci n k t pr) (hv : stpOk k v) (hx : x < n) (hK : K (some (.int (nI (stp n t v x)))) h) : Ev (d + 2) (0, 0) MX1_stepped [.ref a, .int v, .int (nI x)] h K := by
  have hk := c.k8
  rcases stp_of hk hv with ⟨j, hj, e⟩ | ⟨j, hj, e⟩
  · subst e
    have e : stp n t (nI (j + 1)) x = t j x := by
      unfold stp
      rw [if_pos (show (0 : Int32) < nI (j + 1) from lt_t (a := 0) (b := j + 1) (by omega) (by omega)), nI_clamp (by omega)]
      rfl
    rw [e] at hK
    exact stepF_ev c hj hx hK
  · subst e
    have e : stp n t (-(nI (j + 1))) x = iv (t j) n x := by
      unfold stp
      have h1 : ¬ 0 < -(nI (j + 1)) := by
        rcases (show j = 0 ∨ j = 1 ∨ j = 2 ∨ j = 3 ∨ j = 4 ∨ j = 5 ∨ j = 6 ∨ j = 7 by omega) with e | e | e | e | e | e | e | e <;> subst e <;> decide
      rw [if_neg h1, Int32.neg_neg, nI_clamp (by omega)]
      rfl
    rw [e] at hK
    exact stepB_ev c hj hx hK
theorem stp_lt {n k x : Nat} {t : Nat → Nat → Nat} {v : Int32} (hk : k ≤ 8) (hp : ∀ j, j < k → pm n (t j)) (hv : stpOk k v) (hx : x < n) : stp n t v x < n := by
  rcases stp_of hk hv with ⟨j, hj, e⟩ | ⟨j, hj, e⟩
  · subst e
    unfold stp
    rw [if_pos (show (0 : Int32) < nI (j + 1) from lt_t (a := 0) (b := j + 1) (by omega) (by omega)), nI_clamp (by omega)]
    exact (hp j hj).1 x hx
  · subst e
    unfold stp
    have h1 : ¬ 0 < -(nI (j + 1)) := by
      rcases (show j = 0 ∨ j = 1 ∨ j = 2 ∨ j = 3 ∨ j = 4 ∨ j = 5 ∨ j = 6 ∨ j = 7 by omega) with e | e | e | e | e | e | e | e <;> subst e <;> decide
    rw [if_neg h1, Int32.neg_neg, nI_clamp (by omega)]
    exact (pm_iv (hp j hj) hx).2
end CallsF

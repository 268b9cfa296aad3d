/-! ways; the class -/
/-- one step: a turn, or a turn back -/
def stp (n : Nat) (t : Nat → Nat → Nat) (v : Int32) (x : Nat) : Nat := if 0 < v then t (v.toNatClampNeg - 1) x else iv (t ((-v).toNatClampNeg - 1)) n x
def stpOk (k : Nat) (v : Int32) : Prop := ¬ v = 0 ∧ ¬ nI k < v ∧ -(nI k) ≤ v
def lfx (n : Nat) (t : Nat → Nat → Nat) (f : Nat → Int32) (x : Nat) : Nat → Nat
  | 0 => x
  | m + 1 => stp n t (f m) (lfx n t f x m)
theorem stp_of {k : Nat} {v : Int32} (hk : k ≤ 8) (h : stpOk k v) : (∃ j, j < k ∧ v = nI (j + 1)) ∨ ∃ j, j < k ∧ v = -(nI (j + 1)) := by
  obtain ⟨h1, h2, h3⟩ := h
  have e0 : (0 : Int32).toInt = 0 := rfl
  have ek := nI_toInt (n := k) (by omega)
  have hv1 : ¬ v.toInt = 0 := fun q => h1 (Int32.toInt_inj.mp (q.trans e0.symm))
  have hv2 : v.toInt ≤ k := by rw [Int32.lt_iff_toInt_lt, ek] at h2; omega
  have hneg : (-(nI k)).toInt = -(k : Int) := by
    rcases (show k = 0 ∨ k = 1 ∨ k = 2 ∨ k = 3 ∨ k = 4 ∨ k = 5 ∨ k = 6 ∨ k = 7 ∨ k = 8 by omega) with e | e | e | e | e | e | e | e | e <;> subst e <;> rfl
  have hv3 : -(k : Int) ≤ v.toInt := by rw [Int32.le_iff_toInt_le, hneg] at h3; exact h3
  rcases Int.lt_or_gt_of_ne hv1 with w | w
  · right
    refine ⟨(-v.toInt).toNat - 1, by omega, ?_⟩
    apply Int32.toInt_inj.mp
    generalize hj : (-v.toInt).toNat - 1 = j
    have hj8 : j < 8 := by omega
    have : (-(nI (j + 1))).toInt = -((j : Int) + 1) := by
      rcases (show j = 0 ∨ j = 1 ∨ j = 2 ∨ j = 3 ∨ j = 4 ∨ j = 5 ∨ j = 6 ∨ j = 7 by omega) with e | e | e | e | e | e | e | e <;> subst e <;> rfl
    rw [this]
    omega
  · left
    refine ⟨v.toInt.toNat - 1, by omega, ?_⟩
    apply Int32.toInt_inj.mp
    rw [nI_toInt (by omega)]
    omega
noncomputable def opLift (st : AS) (x r i m s : Int32) : Int32 × AS := match ixI x 10 with
  | none => badO st
  | some p => match ixI r 8 with
    | none => badO st
    | some u => if m < 0 ∨ ¬ m ≤ 96 then badO st else match st.2.1 p with
      | none => fndO st 1
      | some c => if (st.1 u).1 = -1 then fndO st 1 else match hlI (st.1 u).2.1 i m with
        | none => fndO st 2
        | some q => match ixI s c.1 with
          | none => badO st
          | some z => @ite _ (∀ e, e < q.2 → stpOk c.2.1 ((st.1 u).2.2 (q.1 + e))) (Classical.propDecidable _) (finO (nI (lfx c.1 c.2.2 (fun e => (st.1 u).2.2 (q.1 + e)) z q.2)) st) (badO st)
section CallsF
variable {d : Nat} {h : mH} {st : AS} {K : Option Value → mH → Prop}
theorem stp_ev {a ta ci n k pr x : Nat} {t : Nat → Nat → Nat} {v : Int32} (c : CO h a ta ci n k t pr) (hv : stpOk k v) (hx : x < n) (hK : K (some (.int (nI (stp n t v x)))) h) : Ev (d + 2) (0, 0) MX1_stepped [.ref a, .int v, .int (nI x)] h K := by
  have hk := c.k8
  rcases stp_of hk hv with ⟨j, hj, e⟩ | ⟨j, hj, e⟩
  · subst e
    have e : stp n t (nI (j + 1)) x = t j x := by
      unfold stp
      rw [if_pos (show (0 : Int32) < nI (j + 1) from lt_t (a := 0) (b := j + 1) (by omega) (by omega)), nI_clamp (by omega)]
      rfl
    rw [e] at hK
    exact stepF_ev c hj hx hK
  · subst e
    have e : stp n t (-(nI (j + 1))) x = iv (t j) n x := by
      unfold stp
      have h1 : ¬ 0 < -(nI (j + 1)) := by
        rcases (show j = 0 ∨ j = 1 ∨ j = 2 ∨ j = 3 ∨ j = 4 ∨ j = 5 ∨ j = 6 ∨ j = 7 by omega) with e | e | e | e | e | e | e | e <;> subst e <;> decide
      rw [if_neg h1, Int32.neg_neg, nI_clamp (by omega)]
      rfl
    rw [e] at hK
    exact stepB_ev c hj hx hK
theorem stp_lt {n k x : Nat} {t : Nat → Nat → Nat} {v : Int32} (hk : k ≤ 8) (hp : ∀ j, j < k → pm n (t j)) (hv : stpOk k v) (hx : x < n) : stp n t v x < n := by
  rcases stp_of hk hv with ⟨j, hj, e⟩ | ⟨j, hj, e⟩
  · subst e
    unfold stp
    rw [if_pos (show (0 : Int32) < nI (j + 1) from lt_t (a := 0) (b := j + 1) (by omega) (by omega)), nI_clamp (by omega)]
    exact (hp j hj).1 x hx
  · subst e
    unfold stp
    have h1 : ¬ 0 < -(nI (j + 1)) := by
      rcases (show j = 0 ∨ j = 1 ∨ j = 2 ∨ j = 3 ∨ j = 4 ∨ j = 5 ∨ j = 6 ∨ j = 7 by omega) with e | e | e | e | e | e | e | e <;> subst e <;> decide
    rw [if_neg h1, Int32.neg_neg, nI_clamp (by omega)]
    exact (pm_iv (hp j hj) hx).2
theorem lfx_lt {n k x : Nat} {t : Nat → Nat → Nat} {f : Nat → Int32} (hk : k ≤ 8) (hp : ∀ j, j < k → pm n (t j)) (hx : x < n) : ∀ m, (∀ e, e < m → stpOk k (f e)) → lfx n t f x m < n
  | 0, _ => hx
  | m + 1, q => stp_lt hk hp (q m (by omega)) (lfx_lt hk hp hx m (fun e he => q e (by omega)))
theorem lfx_congr {n x : Nat} {t : Nat → Nat → Nat} {f g : Nat → Int32} : ∀ m, (∀ e, e < m → f e = g e) → lfx n t f x m = lfx n t g x m
  | 0, _ => rfl
  | m + 1, q => by
    show stp n t (f m) (lfx n t f x m) = stp n t (g m) (lfx n t g x m)
    rw [q m (by omega), lfx_congr m (fun e he => q e (by omega))]
theorem c_lift {x r i m s : Int32} (c : CLs h st) (hK : ∀ h', CLs h' (opLift st x r i m s).2 → FC h h' → h'.2 = h.2 → K (some (.int (opLift st x r i m s).1)) h') : Ev (d + 3) (0, 0) MX11_lift [.ref 1, .int x, .int r, .int i, .int m, .int s] h K := by
  refine en_X11_lift (bk_X11_lift_0 _ _ _ _ _ _ ?_)
  have bad : opLift st x r i m s = badO st → h.1 0 = h.1 0 ∧ K (some (.int (-1000001))) h := fun e => by
    rw [e] at hK
    exact ⟨rfl, hK h c FC.rf rfl⟩
  have fnd' : ∀ {z : Int32}, opLift st x r i m s = fndO st z → Ev (d + 2) (0, 0) MX11_found [.ref 1, .int z] h (fun r h' => ∃ y : Int32, r = some (.int y) ∧ (h'.1 0 = h.1 0 ∧ K (some (.int y)) h')) := fun e => by
    rw [e] at hK
    exact found_ev c (fun h16 c16 fc16 f16 => ⟨_, rfl, f16.z (by decide), hK h16 c16 fc16 f16.1⟩)
  refine noPlace_ev (fun q => ⟨_, rfl, fun _ => bad ?_, fun w => absurd w (by decide)⟩) (fun p hp e => ⟨_, rfl, fun w => absurd rfl w, fun _ => ?_⟩)
  · unfold opLift; rw [ixI_n q]
  subst e
  refine noRow_ev (fun q => ⟨_, rfl, fun _ => bad ?_, fun w => absurd w (by decide)⟩) (fun u hu e => ⟨_, rfl, fun w => absurd rfl w, fun _ => ?_⟩)
  · unfold opLift; rw [ixI_s hp (by decide), ixI_n q]
  subst e
  have unf : opLift st (nI p) (nI u) i m s = if m < 0 ∨ ¬ m ≤ 96 then badO st else match st.2.1 p with
      | none => fndO st 1
      | some c => if (st.1 u).1 = -1 then fndO st 1 else match hlI (st.1 u).2.1 i m with
        | none => fndO st 2
        | some q => match ixI s c.1 with
          | none => badO st
          | some z => @ite _ (∀ e, e < q.2 → stpOk c.2.1 ((st.1 u).2.2 (q.1 + e))) (Classical.propDecidable _) (finO (nI (lfx c.1 c.2.2 (fun e => (st.1 u).2.2 (q.1 + e)) z q.2)) st) (badO st) := by
    unfold opLift
    rw [ixI_s hp (by decide), ixI_s hu (by decide)]
  refine ⟨fun w => bad (by rw [unf, if_pos (Or.inl w)]), fun w1 => ⟨fun w2 => ⟨_, c.f1, ?_⟩, fun w => bad (by rw [unf, if_pos (Or.inr w)])⟩⟩
  rw [if_neg (fun q => q.elim w1 (fun q => q w2))] at unf
  cases hc : st.2.1 p with
  | none =>
    rw [hc] at unf
    obtain ⟨g, o, hg⟩ := c.ro hu
    exact Or.inl ⟨c.no hp hc, _, c.f0, Or.inr ⟨_, c.rw' hu, _, c.1, fnd' unf⟩⟩
  | some v =>
    obtain ⟨n, k, t⟩ := v
    rw [hc] at unf
    simp only at unf
    obtain ⟨a, ta, q, g1, g2, g3, g4, co⟩ := c.cv hp hc
    obtain ⟨g, o, hg⟩ := c.ro hu
    have hn := co.n12
    have hk := co.k8
    refine Or.inr ⟨a, q, _, c.f0, Or.inr ⟨_, c.rw' hu, _, o.1, ?_⟩⟩
    refine missing_ev o (fun w => ⟨_, rfl, fun w => absurd w (by decide), fun _ => ⟨_, c.1, fnd' (by rw [unf, if_pos w])⟩⟩) (fun w => ⟨_, rfl, fun _ => ⟨_, o.1, ?_⟩, fun w => absurd rfl w⟩)
    rw [if_neg w] at unf
    have o96 := o.2.2.1
    refine holds_ev o (fun i' m' e1 e2 e3 => ⟨_, rfl, fun _ => ⟨_, _, co.1, co.2.2.1, ?_⟩, fun w => absurd w (by decide)⟩) (fun hno => ⟨_, rfl, fun w => absurd rfl w, fun _ => ⟨_, c.1, fnd' (by rw [unf, hlI_n hno])⟩⟩)
    subst e1
    subst e2
    rw [hlI_s e3 (by omega)] at unf
    simp only at unf
    refine noSheet_ev co (fun w => ⟨_, rfl, fun w => absurd w (by decide), fun _ => bad (by rw [unf, ixI_n w])⟩) (fun w3 w4 => ⟨_, rfl, fun _ => ?_, fun w => absurd rfl w⟩)
    obtain ⟨z, hz, e⟩ := ixI_of (by omega) w3 w4
    subst e
    rw [ixI_s hz (by omega)] at unf
    simp only at unf
    have key : ∀ r e, e + r = m' → (∀ e', e' < e → stpOk k ((st.1 u).2.2 (i' + e'))) → Wm (d + 2 + 1) (0, 0) JX11_lift 101 [some (.ref 1), none, none, some (.int (nI i')), some (.int (nI m')), none, some (.ref a), some (.ref (3 + 2 * u)), some (.int (nI (lfx n t (fun e => (st.1 u).2.2 (i' + e)) z e))), some (.int (nI e)), none] [] h (fun r h' => h'.1 0 = h.1 0 ∧ K r h') := by
      intro r
      induction r with
      | zero =>
        intro e he hq
        have e0 : e = m' := by omega
        subst e0
        rw [if_pos hq] at unf
        rw [unf] at hK
        refine bk_X11_lift_101 _ _ _ _ _ _ _ ⟨fun _ => ⟨_, c.1, fine_ev c (fun h16 c16 fc16 f16 => ⟨_, rfl, f16.z (by decide), hK h16 c16 fc16 f16.1⟩)⟩, fun w => absurd (le_t (Nat.le_refl _) (by omega)) w⟩
      | succ r ih =>
        intro e he hq
        refine bk_X11_lift_101 _ _ _ _ _ _ _ ⟨fun w => absurd w (le_f (by omega) (by omega)), fun _ => ⟨_, o.1, ?_⟩⟩
        rw [nI_add]
        refine item_ev o (by omega) ⟨_, rfl, _, _, co.1, co.2.2.1, ?_⟩
        rw [hg _ (by omega)]
        have hlx := lfx_lt (n := n) (t := t) (x := z) (f := fun e => (st.1 u).2.2 (i' + e)) hk co.prm hz e hq
        refine noStep_ev co (fun w => ⟨_, rfl, fun w => absurd w (by decide), fun _ => bad ?_⟩) (fun v1 v2 v3 => ⟨_, rfl, fun _ => ⟨_, _, co.1, co.2.2.1, ?_⟩, fun w => absurd rfl w⟩)
        · rw [unf, if_neg (fun q => by
            obtain ⟨y1, y2, y3⟩ := q e (by omega)
            rcases w with w | w | w
            · exact y1 w
            · exact y2 w
            · exact w y3)]
        · refine stp_ev co ⟨v1, v2, v3⟩ hlx ⟨_, rfl, ?_⟩
          rw [nI_1]
          refine ih (e + 1) (by omega) (fun e' he' => ?_)
          by_cases w : e' = e
          · rw [w]; exact ⟨v1, v2, v3⟩
          · exact hq e' (by omega)
    exact key m' 0 (by omega) (fun e' he' => absurd he' (by omega))
end CallsF

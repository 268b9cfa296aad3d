/-! the reference: what is told of a cover -/
section RefTold
variable {d : Nat} {h : mH} {r : rst} {st : AS} {K : Option Value → mH → Prop}
theorem gt5 {y : Int32} : (5 < y ↔ ¬ y ≤ 5) := by
  rw [Int32.lt_iff_toInt_lt, Int32.le_iff_toInt_le]
  omega
theorem r_told {x y : Int32} (F : RFs h st) (w : wfS st) (hK : ∀ h', RFs h' (opTold st x y).2 → FR h h' → K (some (.int (opTold st x y).1)) h') : Ev (d + 3) (0, 0) MX12_told [.ref 34, .int x, .int y] h K := by
  obtain ⟨r, o, s⟩ := F
  obtain ⟨h1, e1, f1, o1⟩ := o.p0 (x := 0)
  have s1 : rfS (w0 r 0) st := s.kp w kp.w0 s.1
  refine en_X12_told (bk_X12_told_0 _ _ _ ⟨h1, e1, ?_⟩)
  have bad0 : opTold st x y = badO st → h1.1 0 = h.1 0 ∧ K (some (.int (-1000001))) h1 := fun e => by
    rw [e] at hK
    exact ⟨f1.z, hK h1 ⟨_, o1, s1⟩ f1⟩
  refine isPlace_ev (fun q => ⟨_, rfl, fun _ => bad0 (by unfold opTold; rw [q]), fun z => absurd rfl z⟩) (fun p hp e qp => ⟨_, rfl, fun z => absurd z (by decide), fun _ => ?_⟩)
  subst e
  have unf : opTold st (nI p) y = if y < 0 ∨ ¬ y ≤ 5 then badO st else match st.2.1 p with
    | none => fndO st 1
    | some c => if (y = 3 ∨ y = 4) ∧ ¬ pn c.1 c.2.1 c.2.2 = 1 then fndO st 3 else finO (tlV y c.1 c.2.1 c.2.2) st := by unfold opTold; rw [qp]; rfl
  refine rin_ev (lo := 0) (hi := 5) (by decide) (by decide) (fun z => ⟨_, rfl, fun z => absurd rfl z, fun _ => bad0 (by rw [unf, if_pos (z.elim Or.inl (fun z => Or.inr (gt5.mp z)))])⟩) (fun v1 v2 => ⟨_, rfl, fun _ => ?_, fun z => absurd z (by decide)⟩)
  have v3 : y ≤ 5 := Classical.byContradiction fun z => v2 (gt5.mpr z)
  rw [if_neg (fun z => z.elim v1 (fun z => z v3))] at unf
  have main : ∀ u : Int32, ((y = 3 ∨ y = 4) → u = 1) → (¬ (y = 3 ∨ y = 4) → u = 0) → Wm (d + 2 + 1) (0, 0) JX12_told 44 [some (.ref 34), some (.int (nI p)), some (.int y), none, none, none, none] [.int u, .int (nI p), .ref 34] h1 (fun r h' => h'.1 0 = h.1 0 ∧ K r h') := by
    intro u hu1 hu0
    refine bk_X12_told_44 _ _ _ _ _ _ ⟨_, o1.1, ?_⟩
    refine rlook_ev o1 hp (s1.2.2.1 p hp) (w.2.1 p hp) (fun hv h' r' f' o' k' t' => ⟨_, rfl, fun z => absurd z (by decide), fun _ => ⟨(f1.tr f').z, ?_⟩⟩) (fun n k t hv hw h' r' f' o' k' t' => ⟨_, rfl, fun _ => ⟨_, o'.f5, _, o'.il 38 13 (by decide) (by omega), ?_⟩, fun z => absurd (by decide) z⟩) (fun n k t hv hun nw h' r' f' o' k' t' => ⟨_, rfl, fun z => absurd z (by decide), fun _ => ⟨(f1.tr f').z, ?_⟩⟩)
    · rw [hv] at unf
      rw [unf] at hK
      exact hK h' ⟨r', o', s1.kp w k' t'⟩ (f1.tr f')
    · rw [hv] at unf
      simp only at unf
      have hwh : (y = 3 ∨ y = 4) → pn n k t = 1 := fun q => hw.resolve_left (by rw [hu1 q]; decide)
      rw [if_neg (fun q => q.2 (hwh q.1))] at unf
      rw [unf] at hK
      obtain ⟨w1', w2', w3', w4', w5'⟩ := w.2.1 p hp n k t hv
      have hL := s1.2.2.1 p hp
      rw [hv] at hL
      have hL : LC (w0 r 0) p n k t := hL
      have L' : LC r' p n k t := kp.LC k' hp w2' w4' hL
      have F' := f1.tr f'
      rw [L'.1]
      have fin : ∀ h2 r2, FR h' h2 → RR h2 r2 → kp r' r2 → r2.1.2.1 = 0 → h2.1 0 = h.1 0 ∧ K (some (.int (tlV y n k t))) h2 := fun h2 r2 f2 o2 k2 t2 => ⟨(F'.tr f2).z, hK h2 ⟨r2, o2, s1.kp w (k'.tr k2) t2⟩ (F'.tr f2)⟩
      refine ⟨fun y3 => ⟨fun y0 => ⟨fun y1 => ⟨fun y2 => ⟨fun y4 => ⟨_, o'.1, ?_⟩, fun y4 => ⟨_, o'.1, ?_⟩⟩, fun y2 => ⟨_, o'.1, ?_⟩⟩, fun y1 => ⟨_, o'.f6, _, o'.il 39 13 (by decide) (by omega), ?_⟩⟩, fun y0 => ?_⟩, fun y3 => ?_⟩
      · refine rheap_ev (d := d + 1) o' L' (by omega) w2' w4' w5' (fun h2 r2 f2 o2 x2 => ⟨_, rfl, ?_⟩)
        have e : tlV y n k t = nI (hpr n k t n) := by unfold tlV; rw [if_neg y0, if_neg y1, if_neg y2, if_neg y3, if_neg y4]
        rw [← e]
        exact fin h2 r2 f2 o2 (x2.kp (by simp)) (by rw [x2.1]; exact t')
      · have hw1 := hwh (Or.inr y4)
        have hwl := whe_whl w5' ((pn_one w1' (fun j hj => (w5' j hj).1)).mp hw1)
        refine rleast_ev (q := 10) o' L' (by omega) (by omega) (by omega) (by omega) (by omega) w1' w2' w4' w5' hwl (fun h2 r2 f2 o2 x2 L2 a2 b2 _ => ⟨_, rfl, ?_⟩)
        have e : tlV y n k t = nI (fnd n k t n).2 := by unfold tlV; rw [if_neg y0, if_neg y1, if_neg y2, if_neg y3, if_pos y4]
        rw [← e]
        exact fin h2 r2 f2 o2 (kp_of2 (by omega) x2 a2 b2) (by rw [x2.1]; exact t')
      · refine rparts_ev (d := d + 1) o' L' (by omega) w2' w4' w5' (fun h2 r2 f2 o2 x2 _ => ⟨_, rfl, ?_⟩)
        have e : tlV y n k t = nI (pn n k t) := by unfold tlV; rw [if_neg y0, if_neg y1, if_pos y2]
        rw [← e]
        exact fin h2 r2 f2 o2 (x2.kp (by simp)) (by rw [x2.1]; exact t')
      · rw [L'.2.1]
        have e : tlV y n k t = nI k := by unfold tlV; rw [if_neg y0, if_pos y1]
        rw [← e]
        exact fin h' r' FR.rf o' kp.rf t'
      · have e : tlV y n k t = nI n := by unfold tlV; rw [if_pos y0]
        rw [← e]
        exact fin h' r' FR.rf o' kp.rf t'
      · have e : tlV y n k t = hsum n t k / 2 := by subst y3; rfl
        rw [e] at fin
        have key : ∀ c j h2 r2, j + c = k → FR h' h2 → RR h2 r2 → ex [41, 42] r' r2 → Wm (d + 2 + 1) (0, 0) JX12_told 78 [some (.ref 34), some (.int (nI p)), none, none, some (.int (nI n)), some (.int (hsum n t j)), some (.int (nI j))] [] h2 (fun r h' => h'.1 0 = h.1 0 ∧ K r h') := by
          intro c
          induction c with
          | zero =>
            intro j h2 r2 hj f2 o2 x2
            have hj : j = k := by omega
            subst hj
            have L2 := L'.ex x2 (by simp) (by simp) (by simp)
            refine bk_X12_told_78 _ _ _ _ _ ⟨_, o2.f6, _, o2.il 39 13 (by decide) (by omega), ?_⟩
            rw [L2.2.1]
            exact ⟨fun _ => fin h2 r2 f2 o2 (x2.kp (by simp)) (by rw [x2.1]; exact t'), fun z => absurd (le_t (Nat.le_refl _) (by omega)) z⟩
          | succ c ih =>
            intro j h2 r2 hj f2 o2 x2
            have L2 := L'.ex x2 (by simp) (by simp) (by simp)
            refine bk_X12_told_78 _ _ _ _ _ ⟨_, o2.f6, _, o2.il 39 13 (by decide) (by omega), ?_⟩
            rw [L2.2.1]
            refine ⟨fun z => absurd z (le_f (by omega) (by omega)), fun _ => ⟨_, o2.1, ?_⟩⟩
            refine rrn_ev (d := d + 1) o2 L2 (by omega) w4' w2' (by omega) (w5' j (by omega)) (fun h3 r3 f3 o3 x3 => ⟨_, rfl, ?_⟩)
            rw [nI_1]
            exact ih (j + 1) h3 r3 (by omega) (f2.tr f3) o3 (x2.tr x3)
        exact key k 0 h' r' (by omega) FR.rf o' ex.rf
    · rw [hv] at unf
      simp only at unf
      have hy : y = 3 ∨ y = 4 := Classical.byContradiction fun q => hun (hu0 q)
      rw [if_pos ⟨hy, nw⟩] at unf
      rw [unf] at hK
      exact hK h' ⟨r', o', s1.kp w k' t'⟩ (f1.tr f')
  refine ⟨fun e => main 1 (fun _ => rfl) (fun q => absurd (Or.inl e) q), fun e3 => ⟨fun e4 => main 0 (fun q => by rcases q with q | q; exact absurd q e3; exact absurd q e4) (fun _ => rfl), fun e => main 1 (fun _ => rfl) (fun q => absurd (Or.inr e) q)⟩⟩
end RefTold

/-! the reference: covers are laid; ways -/
theorem kp_wr40 {r : rst} {i : Nat} {v : Int32} (h : 960 ≤ i) : kp r (wr r 40 i v) := by
  refine ⟨rfl, ⟨wr_n (by decide), wr_n (by decide), wr_n (by decide), wr_n (by decide)⟩, fun p _ => ⟨by rw [wr_n (by decide)], by rw [wr_n (by decide)]⟩, fun j hj => wr_i (by omega)⟩
theorem kp_wr38 {r : rst} {i : Nat} {v : Int32} (h : 10 ≤ i) : kp r (wr r 38 i v) := by
  refine ⟨rfl, ⟨wr_n (by decide), wr_n (by decide), wr_n (by decide), wr_n (by decide)⟩, fun p hp => ⟨wr_i (by omega), by rw [wr_n (by decide)]⟩, fun j hj => by rw [wr_n (by decide)]⟩
theorem kp_wr39 {r : rst} {i : Nat} {v : Int32} (h : 10 ≤ i) : kp r (wr r 39 i v) := by
  refine ⟨rfl, ⟨wr_n (by decide), wr_n (by decide), wr_n (by decide), wr_n (by decide)⟩, fun p hp => ⟨by rw [wr_n (by decide)], wr_i (by omega)⟩, fun j hj => by rw [wr_n (by decide)]⟩
theorem kp_wrx {r : rst} {a i : Nat} {v : Int32} (h : 41 ≤ a ∧ a ≠ 52) : kp r (wr r a i v) := ex.kp (S := [a]) (ex.wr (by simp)) (by simp; exact h)
section RefLay
variable {d : Nat} {h : mH} {r : rst} {st : AS} {K : Option Value → mH → Prop}
theorem rlay_ev {p n k : Nat} {t : Nat → Nat → Nat} {x : Int32} (o : RR h r) (s : rfS r (stS st x)) (w : wfS st) (hp : p < 10) (L : LC r 10 n k t) (w1' : 1 ≤ n) (w2' : n ≤ 12) (w3' : 1 ≤ k) (w4' : k ≤ 8) (w5' : ∀ j, j < k → pm n (t j)) (hK : ∀ h', RFs h' (shvO st p n k t).2 → FR h h' → K (some (.int (shvO st p n k t).1)) h') : Ev (d + 3) (0, 0) MX12_lay [.ref 34, .int (nI p)] h K := by
  obtain ⟨h1, e1, f1, o1⟩ := o.p1 (x := 0)
  refine en_X12_lay (bk_X12_lay_0 _ _ ⟨h1, e1, _, o1.1, ?_⟩)
  refine become_ev (q := 10) o1 (by omega) (by omega) (fun h2 r2 f2 o2 x2 a38 a39 a40 a40' => ⟨rfl, _, o2.1, ?_⟩)
  have L2 : LC r2 p n k t := by
    refine ⟨by rw [a38, if_pos rfl]; exact L.1, by rw [a39, if_pos rfl]; exact L.2.1, fun j hj x hx => ?_⟩
    have := a40 (12 * j + x)
    rw [if_pos (by omega), ← Nat.add_assoc, ← Nat.add_assoc] at this
    rw [this]
    exact L.2.2 j hj x hx
  refine rkindOf_ev o2 L2 (by omega) w1' w2' w3' w4' w5' (fun h3 r3 f3 o3 x3 => ⟨_, rfl, ((f1.tr f2).tr f3).z, hK h3 ⟨r3, o3, ?_⟩ ((f1.tr f2).tr f3)⟩)
  have k3 := x3.kp (by simp)
  obtain ⟨s1, s2, s3, s4, s5⟩ := s
  refine ⟨by rw [x3.1, x2.1]; rfl, fun i hi => ?_, fun p' hp' => ?_, by rw [x3.1, x2.1]; exact s4, fun i hi => ?_⟩
  · show r3.2.1 35 i = _ ∧ (_ → r3.2.1 36 i = _) ∧ ∀ x, x < 96 → r3.2.1 37 _ = _
    rw [k3.2.1.1, k3.2.1.2.1, k3.2.1.2.2.1, x2.2.2 35 (by simp), x2.2.2 36 (by simp), x2.2.2 37 (by simp)]
    exact s2 i hi
  · show rfC r3 p' (if p' = p then some (n, k, t) else st.2.1 p')
    by_cases e : p' = p
    · rw [if_pos e, e]
      exact L2.ex x3 (by simp) (by simp) (by simp)
    · rw [if_neg e]
      have := s3 p' hp'
      have hw := w.2.1 p' hp'
      have this : rfC r p' (st.2.1 p') := this
      cases hc : st.2.1 p' with
      | none =>
        rw [hc] at this
        have this : r.2.1 38 p' = 0 := this
        show r3.2.1 38 p' = 0
        rw [(k3.2.2.1 p' hp').1, a38, if_neg e]
        exact this
      | some v =>
        rw [hc] at this
        obtain ⟨n', k', t'⟩ := v
        obtain ⟨v1, v2, v3, v4, v5⟩ := hw n' k' t' hc
        have this : LC r p' n' k' t' := this
        refine kp.LC k3 hp' v2 v4 ⟨by rw [a38, if_neg e]; exact this.1, by rw [a39, if_neg e]; exact this.2.1, fun j hj x hx => ?_⟩
        have hj : j < k' := hj
        have hx : x < n' := hx
        rw [← this.2.2 j hj x hx]
        rcases Nat.lt_or_ge p' p with q | q
        · exact a40' _ (by omega)
        · have := a40 (96 * (p' - p) + 12 * j + x)
          rw [if_neg (by omega)] at this
          rw [show 96 * p' + 12 * j + x = 96 * p + (96 * (p' - p) + 12 * j + x) by omega]
          exact this
  · show r3.2.1 52 i = _
    rw [k3.2.1.2.2.2, x2.2.2 52 (by simp)]
    exact s5 i hi
theorem stp_val {n k x : Nat} {t : Nat → Nat → Nat} {v : Int32} (hk : k ≤ 8) (hv : stpOk k v) : (∃ j, j < k ∧ v = nI (j + 1) ∧ stp n t v x = t j x) ∨ ∃ j, j < k ∧ v = -(nI (j + 1)) ∧ stp n t v x = iv (t j) n x := by
  rcases stp_of hk hv with ⟨j, hj, e⟩ | ⟨j, hj, e⟩
  · refine Or.inl ⟨j, hj, e, ?_⟩
    subst e
    unfold stp
    rw [if_pos (show (0 : Int32) < nI (j + 1) from lt_t (a := 0) (b := j + 1) (by omega) (by omega)), nI_clamp (by omega)]
    rfl
  · refine Or.inr ⟨j, hj, e, ?_⟩
    subst e
    unfold stp
    have h1 : ¬ 0 < -(nI (j + 1)) := by
      rcases (show j = 0 ∨ j = 1 ∨ j = 2 ∨ j = 3 ∨ j = 4 ∨ j = 5 ∨ j = 6 ∨ j = 7 by omega) with e | e | e | e | e | e | e | e <;> subst e <;> decide
    rw [if_neg h1, Int32.neg_neg, nI_clamp (by omega)]
    rfl
theorem lt96 {y : Int32} : (96 < y ↔ ¬ y ≤ 96) := by
  rw [Int32.lt_iff_toInt_lt, Int32.le_iff_toInt_le]
  omega
theorem n96s (s i e : Nat) : (96 : Int32) * nI s + nI i + nI e = nI (96 * s + (i + e)) := by rw [n96, nI_add, Nat.add_assoc]
theorem r_lift {x u i m s' : Int32} (F : RFs h st) (w : wfS st) (hK : ∀ h', RFs h' (opLift st x u i m s').2 → FR h h' → K (some (.int (opLift st x u i m s').1)) h') : Ev (d + 3) (0, 0) MX12_lift [.ref 34, .int x, .int u, .int i, .int m, .int s'] h K := by
  obtain ⟨r, o, s⟩ := F
  obtain ⟨h1, e1, f1, o1⟩ := o.p0 (x := 0)
  have s1 : rfS (w0 r 0) st := s.kp w kp.w0 s.1
  refine en_X12_lift (bk_X12_lift_0 _ _ _ _ _ _ ⟨h1, e1, ?_⟩)
  have bad0 : opLift st x u i m s' = badO st → h1.1 0 = h.1 0 ∧ K (some (.int (-1000001))) h1 := fun e => by
    rw [e] at hK
    exact ⟨f1.z, hK h1 ⟨_, o1, s1⟩ f1⟩
  refine isPlace_ev (fun q => ⟨_, rfl, fun _ => bad0 (by unfold opLift; rw [q]), fun z => absurd rfl z⟩) (fun p hp e qp => ⟨_, rfl, fun z => absurd z (by decide), fun _ => ?_⟩)
  subst e
  refine isRow_ev (fun q => ⟨_, rfl, fun _ => bad0 (by unfold opLift; rw [qp, q]), fun z => absurd rfl z⟩) (fun v hv e qv => ⟨_, rfl, fun z => absurd z (by decide), fun _ => ?_⟩)
  subst e
  have unf : opLift st (nI p) (nI v) i m s' = if m < 0 ∨ ¬ m ≤ 96 then badO st else match st.2.1 p with
      | none => fndO st 1
      | some c => if (st.1 v).1 = -1 then fndO st 1 else match hlI (st.1 v).2.1 i m with
        | none => fndO st 2
        | some q => match ixI s' c.1 with
          | none => badO st
          | some z => @ite _ (∀ e, e < q.2 → stpOk c.2.1 ((st.1 v).2.2 (q.1 + e))) (Classical.propDecidable _) (finO (nI (lfx c.1 c.2.2 (fun e => (st.1 v).2.2 (q.1 + e)) z q.2)) st) (badO st) := by
    unfold opLift
    rw [qp, qv]
    rfl
  refine rin_ev (lo := 0) (hi := 96) (by decide) (by decide) (fun z => ⟨_, rfl, fun z => absurd rfl z, fun _ => bad0 (by rw [unf, if_pos (z.elim Or.inl (fun z => Or.inr (lt96.mp z)))])⟩) (fun v1 v2 => ⟨_, rfl, fun _ => ⟨_, o1.f1, _, o1.1, ?_⟩, fun z => absurd z (by decide)⟩)
  have v3 : m ≤ 96 := Classical.byContradiction fun z => v2 (lt96.mpr z)
  rw [if_neg (fun z => z.elim v1 (fun z => z v3))] at unf
  refine rlook_ev o1 hp (s1.2.2.1 p hp) (w.2.1 p hp) (fun hv' h' r' f' o' k' t' => ⟨_, rfl, fun z => absurd z (by decide), fun _ => ⟨(f1.tr f').z, ?_⟩⟩) (fun n k t hv' _ h' r' f' o' k' t' => ⟨_, rfl, fun _ => ⟨_, o'.f2, _, o'.il 35 8 (by decide) hv, ?_⟩, fun z => absurd (by decide) z⟩) (fun n k t hv z => absurd rfl z)
  · rw [hv'] at unf
    rw [unf] at hK
    exact hK h' ⟨r', o', s1.kp w k' t'⟩ (f1.tr f')
  rw [hv'] at unf
  simp only at unf
  obtain ⟨w1', w2', w3', w4', w5'⟩ := w.2.1 p hp n k t hv'
  have hL := s1.2.2.1 p hp
  rw [hv'] at hL
  have L' : LC r' p n k t := kp.LC k' hp w2' w4' hL
  have F' := f1.tr f'
  obtain ⟨su1, su2, su3⟩ := s1.2.1 v hv
  obtain ⟨wu1, wu2⟩ := w.1 v hv
  have lnn := ln_neg wu1
  have a35 : r'.2.1 35 v = (st.1 v).1 := by rw [k'.2.1.1]; exact su1
  have a37 : ∀ y, y < 96 → r'.2.1 37 (96 * v + y) = (st.1 v).2.2 y := fun y hy => by rw [k'.2.1.2.2.1]; exact su3 y hy
  have fnd' : ∀ {z : Int32}, opLift st (nI p) (nI v) i m s' = fndO st z → ∃ fs : List Value, h'.1 34 = .inr (11, fs) ∧ Ev (d + 2) (0, 0) MX12_found [.ref 34, .int z] h' (fun r h' => ∃ y : Int32, r = some (.int y) ∧ (h'.1 0 = h.1 0 ∧ K (some (.int y)) h')) := fun e => by
    rw [e] at hK
    exact ⟨_, o'.1, rfound_ev o' (fun h9 f9 o9 => ⟨_, rfl, (F'.tr f9).z, hK h9 ⟨_, o9, s1.kp w (k'.tr kp.w1) rfl⟩ (F'.tr f9)⟩)⟩
  have bad : opLift st (nI p) (nI v) i m s' = badO st → ∃ h2, m_put h' 34 11 1 (.int (w0 r 0).1.2.1) = some h2 ∧ (h2.1 0 = h.1 0 ∧ K (some (.int (-1000001))) h2) := fun e => by
    obtain ⟨h2, e2, f2, o2⟩ := o'.p1 (x := (w0 r 0).1.2.1)
    rw [e] at hK
    exact ⟨h2, e2, (F'.tr f2).z, hK h2 ⟨_, o2, s1.kp w (k'.tr kp.w1) s1.1⟩ (F'.tr f2)⟩
  rw [a35]
  refine ⟨fun z => ?_, fun z => fnd' (by rw [unf, if_pos (Classical.byContradiction fun q => z (lnn.2.mpr q))])⟩
  have nm : ¬ (st.1 v).1 = -1 := lnn.2.mp z
  rw [if_neg nm] at unf
  refine ⟨fun y => fnd' (by rw [unf, hlI_neg (Or.inl y)]), fun y1 => ⟨_, o'.f3, _, o'.il 36 8 (by decide) hv, ?_⟩⟩
  obtain ⟨i', m', hi', hm', ei, em, hc1⟩ := hlI_cases (st.1 v).2.1 i m y1 v1
  subst ei
  subst em
  have hm96 : m' ≤ 96 := (nI_leI (b := 96) (by omega) (by decide)).mp v3
  rw [show r'.2.1 36 v = nI (st.1 v).2.1 by rw [k'.2.1.2.1]; exact su2 nm]
  have l1 := lsum (i := i') (m := m') (s := (st.1 v).2.1) hi' hm' (by omega)
  rw [hc1] at unf
  refine ⟨fun y => ⟨_, o'.1, ?_⟩, fun y => fnd' (by rw [unf, if_neg (fun q => y (l1.2.mpr q))])⟩
  have b1 : i' + m' ≤ (st.1 v).2.1 := l1.2.mp y
  rw [if_pos b1] at unf
  simp only at unf
  obtain ⟨g, eg⟩ : ∃ g : Nat → Int32, g = fun e => (st.1 v).2.2 (i' + e) := ⟨_, rfl⟩
  have ag : ∀ e, e < m' → r'.2.1 37 (96 * v + (i' + e)) = g e := fun e he => by rw [a37 _ (by omega), eg]
  -- the way
  have go : ∀ z, z < n → (∀ e, e < m' → stpOk k (g e)) → opLift st (nI p) (nI v) (nI i') (nI m') s' = finO (nI (lfx n t g z m')) st → ∀ c e, e + c = m' → Wm (d + 2 + 1) (0, 0) JX12_lift 202 [some (.ref 34), some (.int (nI p)), some (.int (nI v)), some (.int (nI i')), some (.int (nI m')), none, none, none, none, some (.int (nI (lfx n t g z e))), some (.int (nI e)), none] [] h' (fun r h' => h'.1 0 = h.1 0 ∧ K r h') := by
    intro z hz hok e0 c
    induction c with
    | zero =>
      intro e he
      have he : e = m' := by omega
      subst he
      rw [e0] at hK
      exact bk_X12_lift_202 _ _ _ _ _ _ _ ⟨fun _ => ⟨F'.z, hK h' ⟨r', o', s1.kp w k' t'⟩ F'⟩, fun q => absurd (le_t (Nat.le_refl _) hm') q⟩
    | succ c ih =>
      intro e he
      have hlx := lfx_lt (n := n) (t := t) (x := z) (f := g) w4' w5' hz e (fun e' he' => hok e' (by omega))
      have ih := ih (e + 1) (by omega)
      have es : lfx n t g z (e + 1) = stp n t (g e) (lfx n t g z e) := rfl
      rw [es] at ih
      refine bk_X12_lift_202 _ _ _ _ _ _ _ ⟨fun q => absurd q (le_f (by omega) hm'), fun _ => ⟨_, o'.f4, ?_⟩⟩
      rw [n96s]
      refine ⟨_, o'.il 37 768 (by decide) (by omega), ?_⟩
      rw [ag e (by omega)]
      rcases stp_val (n := n) (t := t) (x := lfx n t g z e) w4' (hok e (by omega)) with ⟨j, hj, ev, es2⟩ | ⟨j, hj, ev, es2⟩
      · rw [es2] at ih
        rw [ev]
        refine ⟨fun q => absurd q (nI_nle (by omega) (by omega)), fun _ => ⟨_, o'.1, ?_⟩⟩
        rw [show nI (j + 1) - 1 = nI j from nI_pred j]
        refine ratL_ev o' L' (by omega) w4' w2' hj hlx ⟨_, rfl, ?_⟩
        rw [nI_1]
        exact ih
      · rw [es2] at ih
        rw [ev]
        have neg : -(nI (j + 1)) ≤ 0 := by
          rcases (show j = 0 ∨ j = 1 ∨ j = 2 ∨ j = 3 ∨ j = 4 ∨ j = 5 ∨ j = 6 ∨ j = 7 by omega) with e | e | e | e | e | e | e | e <;> subst e <;> decide
        refine ⟨fun _ => ⟨_, o'.1, ?_⟩, fun q => absurd neg q⟩
        rw [Int32.neg_neg, show nI (j + 1) - 1 = nI j from nI_pred j]
        refine backAt_ev o' L' (by omega) w4' w2' hj (w5' j hj) hlx ⟨_, rfl, ?_⟩
        rw [nI_1]
        exact ih
  -- whether it is one
  have chk : ∀ (y0 : Int32) (P : Prop), (P → ∃ z, z < n ∧ s' = nI z ∧ ixI s' n = some z) → (¬ P → ixI s' n = none) → ∀ c e (y : Int32), e + c = m' → (y = @ite _ (P ∧ ∀ e', e' < e → stpOk k (g e')) (Classical.propDecidable _) 1 0) → Wm (d + 2 + 1) (0, 0) JX12_lift 111 [some (.ref 34), some (.int (nI p)), some (.int (nI v)), some (.int (nI i')), some (.int (nI m')), some (.int s'), some (.int (w0 r 0).1.2.1), none, some (.int y), some (.int (nI e)), none, none] [] h' (fun r h' => h'.1 0 = h.1 0 ∧ K r h') := by
    intro y0 P hP hN c
    induction c with
    | zero =>
      intro e y he hy
      have he : e = m' := by omega
      subst he
      refine bk_X12_lift_111 _ _ _ _ _ _ _ _ _ ⟨fun _ => ⟨fun q => ?_, fun q => ?_⟩, fun q => absurd (le_t (Nat.le_refl _) hm') q⟩
      · have ok : P ∧ ∀ e', e' < e → stpOk k (g e') := Classical.byContradiction fun z => by rw [if_neg z] at hy; exact q hy
        obtain ⟨z, hz, es, ez⟩ := hP ok.1
        rw [ez] at unf
        simp only at unf
        rw [if_pos (fun e' he' => by have := ok.2 e' he'; rw [eg] at this; exact this), ← eg] at unf
        subst es
        exact go z hz ok.2 unf e 0 (by omega)
      · have no : ¬ (P ∧ ∀ e', e' < e → stpOk k (g e')) := fun z => by rw [if_pos z] at hy; rw [hy] at q; exact absurd q (by decide)
        refine bad ?_
        by_cases b : P
        · obtain ⟨z, hz, es, ez⟩ := hP b
          rw [unf, ez]
          simp only
          rw [if_neg (fun z => no ⟨b, fun e' he' => by rw [eg]; exact z e' he'⟩)]
        · rw [unf, hN b]
    | succ c ih =>
      intro e y he hy
      have ih := fun y => ih (e + 1) y (by omega)
      have no0 : ¬ (P ∧ ∀ e', e' < e + 1 → stpOk k (g e')) → (0 : Int32) = @ite _ (P ∧ ∀ e', e' < e + 1 → stpOk k (g e')) (Classical.propDecidable _) 1 0 := fun z => by rw [if_neg z]
      refine bk_X12_lift_111 _ _ _ _ _ _ _ _ _ ⟨fun q => absurd q (le_f (by omega) hm'), fun _ => ⟨_, o'.f4, ?_⟩⟩
      rw [n96s]
      refine ⟨_, o'.il 37 768 (by decide) (by omega), ?_⟩
      rw [ag e (by omega), nI_1]
      refine ⟨fun q => ih 0 (no0 (fun z => ?_)), fun q => ⟨fun q2 => ih 0 (no0 (fun z => (z.2 e (by omega)).1 q2)), fun q2 => ⟨_, o'.f6, _, o'.il 39 13 (by decide) (by omega), _, o'.f6, _, o'.il 39 13 (by decide) (by omega), ?_⟩⟩⟩
      · rw [if_pos ⟨z.1, fun e' he' => z.2 e' (by omega)⟩] at hy
        rw [hy] at q
        exact absurd q (by decide)
      · rw [L'.2.1]
        have ok : P ∧ ∀ e', e' < e → stpOk k (g e') := Classical.byContradiction fun z => by rw [if_neg z] at hy; exact q hy
        refine rin_ev (lo := -(nI k)) (hi := nI k) rfl rfl (fun z => ⟨_, rfl, fun _ => ih 0 (no0 (fun y => ?_)), fun z => absurd rfl z⟩) (fun z1 z2 => ⟨_, rfl, fun z => absurd z (by decide), fun _ => ih 1 ?_⟩)
        · obtain ⟨y1, y2, y3⟩ := y.2 e (by omega)
          rcases z with z | z
          · rw [Int32.lt_iff_toInt_lt] at z
            rw [Int32.le_iff_toInt_le] at y3
            omega
          · exact y2 z
        · rw [if_pos ⟨ok.1, fun e' he' => by
            by_cases b : e' = e
            · rw [b]
              refine ⟨q2, z2, ?_⟩
              rw [Int32.lt_iff_toInt_lt] at z1
              rw [Int32.le_iff_toInt_le]
              omega
            · exact ok.2 e' (by omega)⟩]
  refine isSheet_ev o' (by omega) L'.1 w2' (fun q3 => ⟨_, rfl, ?_⟩) (fun z hz e q3 => ⟨_, rfl, ?_⟩)
  · exact chk 0 False (fun z => absurd z id) (fun _ => q3) m' 0 0 (by omega) (by rw [if_neg (fun z => z.1)])
  · exact chk 0 True (fun _ => ⟨z, hz, e, q3⟩) (fun y => absurd trivial y) m' 0 1 (by omega) (by rw [if_pos ⟨trivial, fun e' he' => absurd he' (by omega)⟩])
end RefLay

/-! the reference: looking at a place, and calls that only tell -/
def ofB (x y : Int32) : Bool := decide (y = 0) || decide (x = y) || (decide (y = 3) && decide (x = 4)) || (decide (y = 2) && (decide (x = 3) || decide (x = 4)))
theorem ofB_isK : ∀ ci ∈ [0, 1, 4, 8, 9], ∀ y, y < 5 → ofB (knd ci) (nI y) = isK ci (nI y) := by decide
/-- rows and covers are as they were -/
def kq (r r' : rst) : Prop := (r'.2.1 35 = r.2.1 35 ∧ r'.2.1 36 = r.2.1 36 ∧ r'.2.1 37 = r.2.1 37) ∧ (∀ p, p < 10 → r'.2.1 38 p = r.2.1 38 p ∧ r'.2.1 39 p = r.2.1 39 p) ∧ ∀ i, i < 960 → r'.2.1 40 i = r.2.1 40 i
theorem kp.kq {r r' : rst} (e : kp r r') : kq r r' := ⟨⟨e.2.1.1, e.2.1.2.1, e.2.1.2.2.1⟩, e.2.2.1, e.2.2.2⟩
theorem kq.tr {r r1 r2 : rst} (f : kq r r1) (g : kq r1 r2) : kq r r2 := ⟨⟨g.1.1.trans f.1.1, g.1.2.1.trans f.1.2.1, g.1.2.2.trans f.1.2.2⟩, fun p hp => ⟨(g.2.1 p hp).1.trans (f.2.1 p hp).1, (g.2.1 p hp).2.trans (f.2.1 p hp).2⟩, fun i hi => (g.2.2 i hi).trans (f.2.2 i hi)⟩
theorem kq.LC {r r' : rst} {p n k : Nat} {t : Nat → Nat → Nat} (e : kq r r') (hp : p < 10) (hn : n ≤ 12) (hk : k ≤ 8) (L : LC r p n k t) : LC r' p n k t := ⟨((e.2.1 p hp).1).trans L.1, ((e.2.1 p hp).2).trans L.2.1, fun j hj x hx => (e.2.2 _ (by omega)).trans (L.2.2 j hj x hx)⟩
def TQ (r : rst) (tr : trc) : Prop := r.1.2.2.1 = nI tr.1 ∧ tr.1 ≤ 16 ∧ ∀ x, x < tr.1 → r.2.1 52 x = tr.2 x
theorem TQ.kp {r r' : rst} {tr : trc} (q : TQ r tr) (e : kp r r') : TQ r' tr := ⟨e.1.trans q.1, q.2.1, fun x hx => by rw [e.2.1.2.2.2]; exact q.2.2 x hx⟩
theorem rfS.kq {r r' : rst} {st : AS} {x : Int32} {tr : trc} (s : rfS r st) (w : wfS st) (e : kq r r') (q : TQ r' tr) (hx : r'.1.2.1 = x) : rfS r' (stS (trS st tr) x) := by
  obtain ⟨s1, s2, s3, s4, s5⟩ := s
  refine ⟨hx, fun i hi => ?_, fun p hp => ?_, q.1, q.2.2⟩
  · show r'.2.1 35 i = _ ∧ (_ → r'.2.1 36 i = _) ∧ ∀ x, x < 96 → r'.2.1 37 _ = _
    rw [e.1.1, e.1.2.1, e.1.2.2]
    exact s2 i hi
  · have := s3 p hp
    have hw := w.2.1 p hp
    show rfC r' p (st.2.1 p)
    cases hc : st.2.1 p with
    | none =>
      rw [hc] at this
      exact ((e.2.1 p hp).1).trans this
    | some v =>
      rw [hc] at this
      obtain ⟨n, k, t⟩ := v
      obtain ⟨w1, w2, w3, w4, w5⟩ := hw n k t hc
      exact kq.LC e hp w2 w4 this
section RefTell
variable {d : Nat} {h : mH} {r : rst} {st : AS} {K : Option Value → mH → Prop}
theorem isOf_ev {x y : Int32} (hK : K (some (.int (if ofB x y = true then 1 else 0))) h) : Ev d (0, 0) MX12_isOf [.int x, .int y] h K := by
  have lf : ∀ b : Bool, ofB x y = b → h.1 0 = h.1 0 ∧ K (some (.int (if b = true then 1 else 0))) h := fun b e => by
    rw [e] at hK
    exact ⟨rfl, hK⟩
  refine en_X12_isOf (bk_X12_isOf_0 _ _ ⟨fun a => lf true (by simp [ofB, a]), fun a => ⟨fun b => lf true (by simp [ofB, b]), fun b => ⟨fun c => ⟨fun e => lf false (by simp [ofB, a, b, c, e]), fun e => ⟨fun f => lf true (by simp [ofB, e, f]), fun f => ⟨fun g => lf false (by subst e; simp [ofB, b, f, g]), fun g => lf true (by simp [ofB, e, g])⟩⟩⟩, fun c => ⟨fun e => lf true (by simp [ofB, c, e]), fun e => ⟨fun f => lf false (by subst c; simp [ofB, b, e]), fun f => ⟨fun g => lf true (by simp [ofB, f, g]), fun g => ⟨fun i => lf false (by subst f; simp [ofB, b, g, i]), fun i => lf true (by simp [ofB, f, i])⟩⟩⟩⟩⟩⟩⟩)
theorem isOfK_ev {ci : Nat} {y : Int32} (hc : ci ∈ [0, 1, 4, 8, 9]) (hy0 : ¬ y < 0) (hy : y < 5) (hK : K (some (.int (if isK ci y = true then 1 else 0))) h) : Ev d (0, 0) MX12_isOf [.int (knd ci), .int y] h K := by
  obtain ⟨j, hj, e⟩ := ixI_of (N := 5) (by decide) hy0 hy
  subst e
  rw [← ofB_isK ci hc j hj] at hK
  exact isOf_ev hK
theorem rlook_ev {p : Nat} {c : cvT} {w : Int32} (o : RR h r) (hp : p < 10) (hc : rfC r p c) (hw : wfC c)
    (h0 : c = none → ∀ h' r', FR h h' → RR h' r' → kp r r' → r'.1.2.1 = 1 → K (some (.int (-1000010 - 1))) h')
    (h1 : ∀ n k t, c = some (n, k, t) → (w = 0 ∨ pn n k t = 1) → ∀ h' r', FR h h' → RR h' r' → kp r r' → r'.1.2.1 = 0 → K (some (.int 0)) h')
    (h3 : ∀ n k t, c = some (n, k, t) → ¬ w = 0 → ¬ pn n k t = 1 → ∀ h' r', FR h h' → RR h' r' → kp r r' → r'.1.2.1 = 3 → K (some (.int (-1000010 - 3))) h') : Ev (d + 2) (0, 0) MX12_look [.ref 34, .int (nI p), .int w] h K := by
  obtain ⟨h2, e2, f2, o2⟩ := o.p1 (x := 0)
  refine en_X12_look (bk_X12_look_0 _ _ _ ⟨h2, e2, _, o2.f5, _, o2.il 38 13 (by decide) (by omega), ?_⟩)
  have e38 : (w1 r 0).2.1 38 p = r.2.1 38 p := rfl
  rw [e38]
  cases c with
  | none =>
    have hc : r.2.1 38 p = 0 := hc
    rw [hc]
    refine ⟨fun q => absurd rfl q, fun _ => ⟨_, o2.1, ?_⟩⟩
    exact rfound_ev o2 (fun h9 f9 o9 => ⟨_, rfl, (f2.tr f9).z, h0 rfl h9 _ (f2.tr f9) o9 (kp.w1.tr kp.w1) rfl⟩)
  | some v =>
    obtain ⟨n, k, t⟩ := v
    have L : LC r p n k t := hc
    obtain ⟨w1', w2', w3', w4', w5'⟩ := hw n k t rfl
    have L2 : LC (w1 r 0) p n k t := L
    rw [L.1]
    refine ⟨fun _ => ⟨fun q => ⟨f2.z, h1 n k t rfl (Or.inl q) h2 _ f2 o2 kp.w1 rfl⟩, fun q => ⟨_, o2.1, ?_⟩⟩, fun q => absurd q (nI_ne0 (by omega) (by omega))⟩
    have hpn := pn_le n k t
    have pos : 1 ≤ pn n k t := by
      have h0 : cn (fun z => ltj n t k z == z) 1 ≤ cn (fun z => ltj n t k z == z) n := cn_mono w1'
      have e0 : ltj n t k 0 = 0 := by
        have := ((ltj_mnl (fun j hj => (w5' j hj).1)).1 0 (by omega)).1
        omega
      rw [cn_succ, if_pos (by simp [e0])] at h0
      unfold pn
      omega
    refine rparts_ev o2 L2 (by omega) w2' w4' w5' (fun h4 r4 f4 o4 x4 v4 => ⟨_, rfl, fun z => ⟨(f2.tr f4).z, ?_⟩, fun z => ⟨_, o4.1, ?_⟩⟩)
    · have z := (nI_leI (b := 1) (by omega) (by decide)).mp z
      exact h1 n k t rfl (Or.inr (by omega)) h4 r4 (f2.tr f4) o4 (kp.w1.tr (x4.kp (by simp))) (by rw [x4.1]; rfl)
    · exact rfound_ev o4 (fun h9 f9 o9 => ⟨_, rfl, ((f2.tr f4).tr f9).z, h3 n k t rfl q (fun e => z (by rw [e]; exact le_t (a := 1) (b := 1) (by decide) (by decide))) h9 _ ((f2.tr f4).tr f9) o9 ((kp.w1.tr (x4.kp (by simp))).tr kp.w1) rfl⟩)
theorem r_clear {x : Int32} (F : RFs h st) (w : wfS st) (hK : ∀ h', RFs h' (opClear st x).2 → FR h h' → K (some (.int (opClear st x).1)) h') : Ev (d + 2) (0, 0) MX12_clear [.ref 34, .int x] h K := by
  obtain ⟨r, o, s⟩ := F
  obtain ⟨h1, e1, f1, o1⟩ := o.p0 (x := 0)
  have s1 : rfS (w0 r 0) st := s.kp w kp.w0 s.1
  refine en_X12_clear (bk_X12_clear_0 _ _ ⟨h1, e1, ?_⟩)
  refine isPlace_ev (fun q => ⟨_, rfl, fun z => absurd rfl z, fun _ => ⟨f1.z, ?_⟩⟩) (fun p hp e q => ⟨_, rfl, fun _ => ⟨_, o1.f5, ?_⟩, fun z => absurd z (by decide)⟩)
  · have e : opClear st x = badO st := by unfold opClear; rw [q]
    rw [e] at hK
    exact hK h1 ⟨_, o1, s1⟩ f1
  subst e
  have unf : opClear st (nI p) = (match st.2.1 p with
    | none => 0
    | some _ => 1, cvS st p none) := by unfold opClear; rw [q]; rfl
  obtain ⟨h2, e2, f2, o2⟩ := o1.is (x := 0) (j := p) 38 13 (by decide) (by omega)
  have s2 : rfS (wr (w0 r 0) 38 p 0) (cvS st p none) := by
    obtain ⟨a1, a2, a3, a4, a5⟩ := s1
    have n35 : (wr (w0 r 0) 38 p 0).2.1 35 = (w0 r 0).2.1 35 := wr_n (by decide)
    have n36 : (wr (w0 r 0) 38 p 0).2.1 36 = (w0 r 0).2.1 36 := wr_n (by decide)
    have n37 : (wr (w0 r 0) 38 p 0).2.1 37 = (w0 r 0).2.1 37 := wr_n (by decide)
    have n39 : (wr (w0 r 0) 38 p 0).2.1 39 = (w0 r 0).2.1 39 := wr_n (by decide)
    have n40 : (wr (w0 r 0) 38 p 0).2.1 40 = (w0 r 0).2.1 40 := wr_n (by decide)
    have n52 : (wr (w0 r 0) 38 p 0).2.1 52 = (w0 r 0).2.1 52 := wr_n (by decide)
    refine ⟨a1, fun i hi => by rw [n35, n36, n37]; exact a2 i hi, fun p' hp' => ?_, a4, fun i hi => by rw [n52]; exact a5 i hi⟩
    show rfC _ p' (if p' = p then none else st.2.1 p')
    by_cases e : p' = p
    · rw [if_pos e, e]
      exact wr_j
    · rw [if_neg e]
      have := a3 p' hp'
      cases hc : st.2.1 p' with
      | none =>
        rw [hc] at this
        exact (wr_i e).trans this
      | some v =>
        rw [hc] at this
        exact ⟨(wr_i e).trans this.1, by rw [n39]; exact this.2.1, fun j hj x hx => by rw [n40]; exact this.2.2 j hj x hx⟩
  refine ⟨_, o1.il 38 13 (by decide) (by omega), ?_⟩
  have hc := s1.2.2.1 p hp
  have e38 : (w0 r 0).2.1 38 p = r.2.1 38 p := rfl
  cases hv : st.2.1 p with
  | none =>
    rw [hv] at unf hc
    have hc : r.2.1 38 p = 0 := hc
    rw [e38, hc]
    rw [unf] at hK
    exact ⟨fun _ => ⟨_, o1.f5, h2, e2, (f1.tr f2).z, hK h2 ⟨_, o2, s2⟩ (f1.tr f2)⟩, fun z => absurd (by decide) z⟩
  | some v =>
    rw [hv] at unf hc
    obtain ⟨n, k, t⟩ := v
    obtain ⟨w1', w2', -⟩ := w.2.1 p hp n k t hv
    rw [e38, show r.2.1 38 p = nI n from hc.1]
    rw [unf] at hK
    exact ⟨fun z => absurd z (nI_nle (by omega) (by omega)), fun _ => ⟨_, o1.f5, h2, e2, (f1.tr f2).z, hK h2 ⟨_, o2, s2⟩ (f1.tr f2)⟩⟩
theorem r_kind {x : Int32} (F : RFs h st) (w : wfS st) (hK : ∀ h', RFs h' (opKind st x).2 → FR h h' → K (some (.int (opKind st x).1)) h') : Ev (d + 3) (0, 0) MX12_kind [.ref 34, .int x] h K := by
  obtain ⟨r, o, s⟩ := F
  obtain ⟨h1, e1, f1, o1⟩ := o.p0 (x := 0)
  have s1 : rfS (w0 r 0) st := s.kp w kp.w0 s.1
  refine en_X12_kind (bk_X12_kind_0 _ _ ⟨h1, e1, ?_⟩)
  refine isPlace_ev (fun q => ⟨_, rfl, fun z => absurd rfl z, fun _ => ⟨f1.z, ?_⟩⟩) (fun p hp e q => ⟨_, rfl, fun _ => ⟨_, o1.1, ?_⟩, fun z => absurd z (by decide)⟩)
  · have e : opKind st x = badO st := by unfold opKind; rw [q]
    rw [e] at hK
    exact hK h1 ⟨_, o1, s1⟩ f1
  subst e
  have unf : opKind st (nI p) = match st.2.1 p with
    | none => fndO st 1
    | some c => finO (knd (kcl c.1 c.2.1 c.2.2)) st := by unfold opKind; rw [q]; rfl
  refine rlook_ev o1 hp (s1.2.2.1 p hp) (w.2.1 p hp) (fun hv h' r' f' o' k' t' => ⟨_, rfl, fun z => absurd z (by decide), fun _ => ⟨(f1.tr f').z, ?_⟩⟩) (fun n k t hv _ h' r' f' o' k' t' => ⟨_, rfl, fun _ => ⟨_, o'.1, ?_⟩, fun z => absurd (by decide) z⟩) (fun n k t hv z => absurd rfl z)
  · rw [hv] at unf
    rw [unf] at hK
    exact hK h' ⟨r', o', s1.kp w k' t'⟩ (f1.tr f')
  · rw [hv] at unf
    simp only at unf
    obtain ⟨w1', w2', w3', w4', w5'⟩ := w.2.1 p hp n k t hv
    have hL := s1.2.2.1 p hp
    rw [hv] at hL
    have L' : LC r' p n k t := kp.LC k' hp w2' w4' hL
    rw [unf] at hK
    exact rkindOf_ev o' L' (by omega) w1' w2' w3' w4' w5' (fun h2 r2 f2 o2 x2 => ⟨_, rfl, ((f1.tr f').tr f2).z, hK h2 ⟨r2, o2, s1.kp w (k'.tr (x2.kp (by simp))) (by rw [x2.1]; exact t')⟩ ((f1.tr f').tr f2)⟩)
theorem lt5 {y : Int32} : (4 < y ↔ ¬ y < 5) := by
  rw [Int32.lt_iff_toInt_lt, Int32.lt_iff_toInt_lt]
  have e4 : (4 : Int32).toInt = 4 := rfl
  have e5 : (5 : Int32).toInt = 5 := rfl
  rw [e4, e5]
  omega
theorem r_is {x y : Int32} (F : RFs h st) (w : wfS st) (hK : ∀ h', RFs h' (opIs st x y).2 → FR h h' → K (some (.int (opIs st x y).1)) h') : Ev (d + 3) (0, 0) MX12_is [.ref 34, .int x, .int y] h K := by
  obtain ⟨r, o, s⟩ := F
  obtain ⟨h1, e1, f1, o1⟩ := o.p0 (x := 0)
  have s1 : rfS (w0 r 0) st := s.kp w kp.w0 s.1
  refine en_X12_is (bk_X12_is_0 _ _ _ ⟨h1, e1, ?_⟩)
  have bad : opIs st x y = badO st → h1.1 0 = h.1 0 ∧ K (some (.int (-1000001))) h1 := fun e => by
    rw [e] at hK
    exact ⟨f1.z, hK h1 ⟨_, o1, s1⟩ f1⟩
  refine isPlace_ev (fun q => ⟨_, rfl, fun _ => bad (by unfold opIs; rw [q]), fun z => absurd rfl z⟩) (fun p hp e q => ⟨_, rfl, fun z => absurd z (by decide), fun _ => ?_⟩)
  subst e
  have unf : opIs st (nI p) y = if y < 0 ∨ ¬ y < 5 then badO st else match st.2.1 p with
    | none => (0, st)
    | some c => (if isK (kcl c.1 c.2.1 c.2.2) y = true then 1 else 0, st) := by unfold opIs; rw [q]; rfl
  refine rin_ev (lo := 0) (hi := 4) (by decide) (by decide) (fun z => ⟨_, rfl, fun z => absurd rfl z, fun _ => bad (by rw [unf, if_pos (z.elim Or.inl (fun z => Or.inr (lt5.mp z)))])⟩) (fun v1 v2 => ⟨_, rfl, fun _ => ⟨_, o1.f5, _, o1.il 38 13 (by decide) (by omega), ?_⟩, fun z => absurd z (by decide)⟩)
  have v3 : y < 5 := Classical.byContradiction fun z => v2 (lt5.mpr z)
  rw [if_neg (fun z => z.elim v1 (fun z => z v3))] at unf
  have hc := s1.2.2.1 p hp
  have e38 : (w0 r 0).2.1 38 p = r.2.1 38 p := rfl
  cases hv : st.2.1 p with
  | none =>
    rw [hv] at unf hc
    have hc : r.2.1 38 p = 0 := hc
    rw [e38, hc]
    rw [unf] at hK
    exact ⟨fun _ => ⟨f1.z, hK h1 ⟨_, o1, s1⟩ f1⟩, fun z => absurd (by decide) z⟩
  | some v =>
    obtain ⟨n, k, t⟩ := v
    rw [hv] at unf hc
    simp only at unf
    obtain ⟨w1', w2', w3', w4', w5'⟩ := w.2.1 p hp n k t hv
    have L : LC (w0 r 0) p n k t := hc
    rw [e38, show r.2.1 38 p = nI n from hc.1]
    rw [unf] at hK
    refine ⟨fun z => absurd z (nI_nle (by omega) (by omega)), fun _ => ⟨_, o1.1, ?_⟩⟩
    refine rkindOf_ev o1 L (by omega) w1' w2' w3' w4' w5' (fun h2 r2 f2 o2 x2 => ⟨_, rfl, ?_⟩)
    refine isOfK_ev (kcl_in n k t) v1 v3 ⟨_, rfl, fun z => ?_, fun z => ?_⟩
    · have kk := hK h2 ⟨r2, o2, s1.kp w (x2.kp (by simp)) (by rw [x2.1]; exact s1.1)⟩ (f1.tr f2)
      rw [z] at kk
      exact ⟨(f1.tr f2).z, kk⟩
    · have kk := hK h2 ⟨r2, o2, s1.kp w (x2.kp (by simp)) (by rw [x2.1]; exact s1.1)⟩ (f1.tr f2)
      have : (if isK (kcl n k t) y = true then (1 : Int32) else 0) = 1 := by
        by_cases b : isK (kcl n k t) y = true
        · rw [if_pos b]
        · rw [if_neg b] at z; exact absurd rfl z
      rw [this] at kk
      exact ⟨(f1.tr f2).z, kk⟩
theorem r_as {x y : Int32} (F : RFs h st) (w : wfS st) (hK : ∀ h', RFs h' (opAs st x y).2 → FR h h' → K (some (.int (opAs st x y).1)) h') : Ev (d + 3) (0, 0) MX12_as [.ref 34, .int x, .int y] h K := by
  obtain ⟨r, o, s⟩ := F
  obtain ⟨h1, e1, f1, o1⟩ := o.p0 (x := 0)
  have s1 : rfS (w0 r 0) st := s.kp w kp.w0 s.1
  refine en_X12_as (bk_X12_as_0 _ _ _ ⟨h1, e1, ?_⟩)
  have bad : opAs st x y = badO st → h1.1 0 = h.1 0 ∧ K (some (.int (-1000001))) h1 := fun e => by
    rw [e] at hK
    exact ⟨f1.z, hK h1 ⟨_, o1, s1⟩ f1⟩
  refine isPlace_ev (fun q => ⟨_, rfl, fun _ => bad (by unfold opAs; rw [q]), fun z => absurd rfl z⟩) (fun p hp e q => ⟨_, rfl, fun z => absurd z (by decide), fun _ => ?_⟩)
  subst e
  have unf : opAs st (nI p) y = if y < 0 ∨ ¬ y < 5 then badO st else match st.2.1 p with
    | none => fndO st 1
    | some c => if isK (kcl c.1 c.2.1 c.2.2) y = true then finO (nI c.1) st else fndO st 3 := by unfold opAs; rw [q]; rfl
  refine rin_ev (lo := 0) (hi := 4) (by decide) (by decide) (fun z => ⟨_, rfl, fun z => absurd rfl z, fun _ => bad (by rw [unf, if_pos (z.elim Or.inl (fun z => Or.inr (lt5.mp z)))])⟩) (fun v1 v2 => ⟨_, rfl, fun _ => ⟨_, o1.1, ?_⟩, fun z => absurd z (by decide)⟩)
  have v3 : y < 5 := Classical.byContradiction fun z => v2 (lt5.mpr z)
  rw [if_neg (fun z => z.elim v1 (fun z => z v3))] at unf
  refine rlook_ev o1 hp (s1.2.2.1 p hp) (w.2.1 p hp) (fun hv h' r' f' o' k' t' => ⟨_, rfl, fun z => absurd z (by decide), fun _ => ⟨(f1.tr f').z, ?_⟩⟩) (fun n k t hv _ h' r' f' o' k' t' => ⟨_, rfl, fun _ => ⟨_, o'.1, ?_⟩, fun z => absurd (by decide) z⟩) (fun n k t hv z => absurd rfl z)
  · rw [hv] at unf
    rw [unf] at hK
    exact hK h' ⟨r', o', s1.kp w k' t'⟩ (f1.tr f')
  · rw [hv] at unf
    simp only at unf
    obtain ⟨w1', w2', w3', w4', w5'⟩ := w.2.1 p hp n k t hv
    have hL := s1.2.2.1 p hp
    rw [hv] at hL
    have L' : LC r' p n k t := kp.LC k' hp w2' w4' hL
    refine rkindOf_ev o' L' (by omega) w1' w2' w3' w4' w5' (fun h2 r2 f2 o2 x2 => ⟨_, rfl, ?_⟩)
    have F2 := (f1.tr f').tr f2
    have k2 := k'.tr (x2.kp (by simp))
    refine isOfK_ev (kcl_in n k t) v1 v3 ⟨_, rfl, fun z => ⟨_, o2.1, ?_⟩, fun z => ⟨_, o2.f5, _, o2.il 38 13 (by decide) (by omega), F2.z, ?_⟩⟩
    · have nb : ¬ isK (kcl n k t) y = true := fun b => by rw [if_pos b] at z; exact absurd z (by decide)
      rw [if_neg nb] at unf
      rw [unf] at hK
      exact rfound_ev o2 (fun h9 f9 o9 => ⟨_, rfl, (F2.tr f9).z, hK h9 ⟨_, o9, s1.kp w (k2.tr kp.w1) rfl⟩ (F2.tr f9)⟩)
    · have b : isK (kcl n k t) y = true := Classical.byContradiction fun b => by rw [if_neg b] at z; exact z rfl
      rw [if_pos b] at unf
      rw [unf] at hK
      rw [x2.at p (by simp), L'.1]
      exact hK h2 ⟨r2, o2, s1.kp w k2 (by rw [x2.1]; exact t')⟩ F2
theorem r_status (F : RFs h st) (w : wfS st) (hK : ∀ h', RFs h' (opStatus st).2 → FR h h' → K (some (.int (opStatus st).1)) h') : Ev d (0, 0) MX12_status [.ref 34] h K := by
  obtain ⟨r, o, s⟩ := F
  obtain ⟨h1, e1, f1, o1⟩ := o.p0 (x := 0)
  have s1 : rfS (w0 r 0) st := s.kp w kp.w0 s.1
  refine en_X12_status (bk_X12_status_0 _ ⟨h1, e1, _, o1.f1, f1.z, ?_⟩)
  rw [s1.1]
  exact hK h1 ⟨_, o1, s1⟩ f1
theorem r_trace {x : Int32} (F : RFs h st) (w : wfS st) (hK : ∀ h', RFs h' (opTrace st x).2 → FR h h' → K (some (.int (opTrace st x).1)) h') : Ev (d + 1) (0, 0) MX12_trace [.ref 34, .int x] h K := by
  obtain ⟨r, o, s⟩ := F
  obtain ⟨h1, e1, f1, o1⟩ := o.p0 (x := 0)
  have s1 : rfS (w0 r 0) st := s.kp w kp.w0 s.1
  refine en_X12_trace (bk_X12_trace_0 _ _ ⟨h1, e1, _, o1.f20, ?_⟩)
  rw [s1.2.2.2.1]
  have h16 := w.2.2
  refine rin0_ev (N := st.2.2.1.1) (by omega) rfl (fun q => ⟨_, rfl, fun _ => ⟨f1.z, ?_⟩, fun z => absurd rfl z⟩) (fun i hi e q => ⟨_, rfl, fun z => absurd z (by decide), fun _ => ?_⟩)
  · have e : opTrace st x = (-1000000, st) := by unfold opTrace; rw [q]
    rw [e] at hK
    exact hK h1 ⟨_, o1, s1⟩ f1
  · have e' : opTrace st x = (st.2.2.1.2 i, st) := by unfold opTrace; rw [q]
    rw [e'] at hK
    subst e
    refine ⟨_, o1.f19, _, o1.il 52 16 (by decide) (by omega), f1.z, ?_⟩
    rw [s1.2.2.2.2 i hi]
    exact hK h1 ⟨_, o1, s1⟩ f1
theorem r_leads {x y z : Int32} (F : RFs h st) (w : wfS st) (hK : ∀ h', RFs h' (opLeads st x y z).2 → FR h h' → K (some (.int (opLeads st x y z).1)) h') : Ev (d + 3) (0, 0) MX12_leads [.ref 34, .int x, .int y, .int z] h K := by
  obtain ⟨r, o, s⟩ := F
  obtain ⟨h1, e1, f1, o1⟩ := o.p0 (x := 0)
  have s1 : rfS (w0 r 0) st := s.kp w kp.w0 s.1
  refine en_X12_leads (bk_X12_leads_0 _ _ _ _ ⟨h1, e1, ?_⟩)
  refine isPlace_ev (fun q => ⟨_, rfl, fun z => absurd rfl z, fun _ => ⟨f1.z, ?_⟩⟩) (fun p hp e q => ⟨_, rfl, fun _ => ⟨_, o1.f1, _, o1.1, ?_⟩, fun z => absurd z (by decide)⟩)
  · have e : opLeads st x y z = badO st := by unfold opLeads; rw [q]
    rw [e] at hK
    exact hK h1 ⟨_, o1, s1⟩ f1
  subst e
  have unf : opLeads st (nI p) y z = match st.2.1 p with
    | none => fndO st 1
    | some c => match ixI y c.2.1 with
      | none => badO st
      | some j => match ixI z c.1 with
        | none => badO st
        | some i => finO (nI (c.2.2 j i)) st := by unfold opLeads; rw [q]; rfl
  refine rlook_ev o1 hp (s1.2.2.1 p hp) (w.2.1 p hp) (fun hv h' r' f' o' k' t' => ⟨_, rfl, fun z => absurd z (by decide), fun _ => ⟨(f1.tr f').z, ?_⟩⟩) (fun n k t hv _ h' r' f' o' k' t' => ⟨_, rfl, fun _ => ⟨_, o'.f6, _, o'.il 39 13 (by decide) (by omega), ?_⟩, fun z => absurd (by decide) z⟩) (fun n k t hv z => absurd rfl z)
  · rw [hv] at unf
    rw [unf] at hK
    exact hK h' ⟨r', o', s1.kp w k' t'⟩ (f1.tr f')
  · rw [hv] at unf
    simp only at unf
    obtain ⟨w1', w2', w3', w4', w5'⟩ := w.2.1 p hp n k t hv
    have hL := s1.2.2.1 p hp
    rw [hv] at hL
    have L' : LC r' p n k t := kp.LC k' hp w2' w4' hL
    have F' := f1.tr f'
    have bad : opLeads st (nI p) y z = badO st → ∃ h2, m_put h' 34 11 1 (.int (w0 r 0).1.2.1) = some h2 ∧ (h2.1 0 = h.1 0 ∧ K (some (.int (-1000001))) h2) := fun e => by
      obtain ⟨h2, e2, f2, o2⟩ := o'.p1 (x := (w0 r 0).1.2.1)
      rw [e] at hK
      exact ⟨h2, e2, (F'.tr f2).z, hK h2 ⟨_, o2, s1.kp w (k'.tr kp.w1) s1.1⟩ (F'.tr f2)⟩
    rw [L'.2.1]
    refine rin0_ev (N := k) (by omega) rfl (fun q2 => ⟨_, rfl, fun _ => bad (by rw [unf, q2]), fun z => absurd rfl z⟩) (fun j hj e q2 => ⟨_, rfl, fun z => absurd z (by decide), fun _ => ⟨_, o'.1, ?_⟩⟩)
    subst e
    rw [q2] at unf
    simp only at unf
    refine isSheet_ev o' (by omega) L'.1 w2' (fun q3 => ⟨_, rfl, fun z => absurd rfl z, fun _ => bad (by rw [unf, q3])⟩) (fun i hi e q3 => ⟨_, rfl, fun _ => ⟨_, o'.1, ?_⟩, fun z => absurd z (by decide)⟩)
    subst e
    rw [q3] at unf
    rw [unf] at hK
    exact ratL_ev o' L' (by omega) w4' w2' hj hi ⟨_, rfl, F'.z, hK h' ⟨r', o', s1.kp w k' t'⟩ F'⟩
theorem r_shape {x y z : Int32} (F : RFs h st) (w : wfS st) (hK : ∀ h', RFs h' (opShape st x y z).2 → FR h h' → K (some (.int (opShape st x y z).1)) h') : Ev (d + 3) (0, 0) MX12_shape [.ref 34, .int x, .int y, .int z] h K := by
  obtain ⟨r, o, s⟩ := F
  obtain ⟨h1, e1, f1, o1⟩ := o.p0 (x := 0)
  have s1 : rfS (w0 r 0) st := s.kp w kp.w0 s.1
  refine en_X12_shape (bk_X12_shape_0 _ _ _ _ ⟨h1, e1, ?_⟩)
  refine isPlace_ev (fun q => ⟨_, rfl, fun z => absurd rfl z, fun _ => ⟨f1.z, ?_⟩⟩) (fun p hp e q => ⟨_, rfl, fun _ => ⟨_, o1.f1, _, o1.1, ?_⟩, fun z => absurd z (by decide)⟩)
  · have e : opShape st x y z = badO st := by unfold opShape; rw [q]
    rw [e] at hK
    exact hK h1 ⟨_, o1, s1⟩ f1
  subst e
  have unf : opShape st (nI p) y z = match st.2.1 p with
    | none => fndO st 1
    | some c => match ixI y c.2.1 with
      | none => badO st
      | some j => finO (lnA (LT c.1 (c.2.2 j)) z) st := by unfold opShape; rw [q]; rfl
  refine rlook_ev o1 hp (s1.2.2.1 p hp) (w.2.1 p hp) (fun hv h' r' f' o' k' t' => ⟨_, rfl, fun z => absurd z (by decide), fun _ => ⟨(f1.tr f').z, ?_⟩⟩) (fun n k t hv _ h' r' f' o' k' t' => ⟨_, rfl, fun _ => ⟨_, o'.f6, _, o'.il 39 13 (by decide) (by omega), ?_⟩, fun z => absurd (by decide) z⟩) (fun n k t hv z => absurd rfl z)
  · rw [hv] at unf
    rw [unf] at hK
    exact hK h' ⟨r', o', s1.kp w k' t'⟩ (f1.tr f')
  · rw [hv] at unf
    simp only at unf
    obtain ⟨w1', w2', w3', w4', w5'⟩ := w.2.1 p hp n k t hv
    have hL := s1.2.2.1 p hp
    rw [hv] at hL
    have L' : LC r' p n k t := kp.LC k' hp w2' w4' hL
    have F' := f1.tr f'
    rw [L'.2.1]
    refine rin0_ev (N := k) (by omega) rfl (fun q2 => ⟨_, rfl, fun z => absurd rfl z, fun _ => ?_⟩) (fun j hj e q2 => ⟨_, rfl, fun _ => ⟨_, o'.1, ?_⟩, fun z => absurd z (by decide)⟩)
    · obtain ⟨h2, e2, f2, o2⟩ := o'.p1 (x := (w0 r 0).1.2.1)
      rw [unf, q2] at hK
      exact ⟨h2, e2, (F'.tr f2).z, hK h2 ⟨_, o2, s1.kp w (k'.tr kp.w1) s1.1⟩ (F'.tr f2)⟩
    subst e
    rw [q2] at unf
    simp only at unf
    rw [unf] at hK
    have hpm := w5' j hj
    have hel : ∀ l, l ∈ cyl (t j) n n → 1 ≤ l ∧ l ≤ 12 := fun l hl => by have := cyl_el hpm l hl; omega
    have hlen := cyl_len (t j) n n
    refine rrounds_ev o' L' (by omega) w4' w2' hj hpm (fun h2 r2 S f2 o2 x2 sS aS => ⟨_, rfl, ?_⟩)
    have R2 : RFs h2 (stS st 0) := ⟨r2, o2, s1.kp w (k'.tr (x2.kp (by simp))) (by rw [x2.1]; exact t')⟩
    have F2 := F'.tr f2
    have kk := hK h2 R2 F2
    refine rin0_ev (N := (cyl (t j) n n).length) (by omega) rfl (fun q3 => ⟨_, rfl, fun _ => ⟨F2.z, ?_⟩, fun z => absurd rfl z⟩) (fun i hi e q3 => ⟨_, rfl, fun z => absurd z (by decide), fun _ => ⟨_, o2.f9, ?_⟩⟩)
    · have e : lnA (LT n (t j)) z = -1000000 := by
        unfold lnA
        by_cases b : 0 ≤ z
        · rw [if_neg (fun q => q b)]
          have b0 : ¬ z < 0 := fun q => by rw [Int32.lt_iff_toInt_lt] at q; rw [Int32.le_iff_toInt_le] at b; omega
          obtain ⟨m, hm, rfl⟩ := nI_of b0
          rw [nI_clamp hm]
          have := laR_srd sS hel m
          rw [if_neg (fun q => by rw [ixI_s q (by omega)] at q3; exact absurd q3 (by simp))] at this
          exact this
        · rw [if_pos b]
      have e : (finO (lnA (LT n (t j)) z) st).1 = -1000000 := e
      rw [e] at kk
      exact kk
    · subst e
      have e : lnA (LT n (t j)) (nI i) = nI (S i) := by
        unfold lnA
        rw [if_neg (fun q => q (nI_pos' (by omega))), nI_clamp (by omega)]
        have := laR_srd sS hel i
        rw [if_pos hi] at this
        exact this
      refine ⟨_, o2.il 42 12 (by decide) (by omega), F2.z, ?_⟩
      rw [aS i hi, ← e]
      exact kk
end RefTell

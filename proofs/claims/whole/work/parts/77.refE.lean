/-! the reference: asks, counts, ways -/
section RefAsk
variable {d : Nat} {h : mH} {r : rst} {st : AS} {K : Option Value → mH → Prop}
theorem began_ev {v : Int32} {tr : trc} (o : RR h r) (q : TQ r tr) (hK : ∀ h' r', FR h h' → RR h' r' → kq r r' → r'.1.2.1 = r.1.2.1 → TQ r' (tad tr v) → K none h') : Ev d (0, 0) MX12_began [.ref 34, .int v] h K := by
  obtain ⟨q1, q2, q3⟩ := q
  refine en_X12_began (bk_X12_began_0 _ _ ⟨_, o.f20, ?_⟩)
  rw [q1]
  by_cases w : tr.1 < 16
  · refine ⟨fun z => absurd z (le_f (a := 16) (b := tr.1) w (by decide)), fun _ => ?_⟩
    obtain ⟨h2, e2, f2, o2⟩ := o.is (x := v) (j := tr.1) 52 16 (by decide) w
    obtain ⟨h3, e3, f3, o3⟩ := o2.p20 (x := nI (tr.1 + 1))
    refine ⟨_, o.f19, _, o.f20, ?_⟩
    rw [q1]
    refine ⟨h2, e2, _, o2.f20, ?_⟩
    rw [show (wr r 52 tr.1 v).1.2.2.1 = nI tr.1 from q1, nI_1]
    refine ⟨h3, e3, (f2.tr f3).z, hK h3 _ (f2.tr f3) o3 ?_ rfl ?_⟩
    · refine ⟨⟨wr_n (r := r) (by decide), wr_n (r := r) (by decide), wr_n (r := r) (by decide)⟩, fun p _ => ⟨?_, ?_⟩, fun i _ => ?_⟩
      · show (wr r 52 tr.1 v).2.1 38 p = _; rw [wr_n (by decide)]
      · show (wr r 52 tr.1 v).2.1 39 p = _; rw [wr_n (by decide)]
      · show (wr r 52 tr.1 v).2.1 40 i = _; rw [wr_n (by decide)]
    · unfold tad
      rw [if_pos w]
      refine ⟨rfl, by show tr.1 + 1 ≤ 16; omega, fun x hx => ?_⟩
      have hx : x < tr.1 + 1 := hx
      show (wr r 52 tr.1 v).2.1 52 x = upd tr.2 tr.1 v x
      by_cases e : x = tr.1
      · rw [e, wr_j]; simp [upd]
      · rw [wr_i e]
        simp only [upd, e, if_false]
        exact q3 x (by omega)
  · refine ⟨fun _ => ⟨rfl, hK h r FR.rf o kp.rf.kq rfl ?_⟩, fun z => absurd (le_t (a := 16) (b := tr.1) (by omega) (by omega)) z⟩
    unfold tad
    rw [if_neg w]
    exact ⟨q1, q2, q3⟩
theorem of2 : ∀ ci ∈ [0, 1, 4, 8, 9], ofB (knd ci) 2 = (ci == 0 || ci == 4 || ci == 9) ∧ ofB (knd ci) 3 = (ci == 0 || ci == 4) ∧ (knd ci = 4 ↔ ci = 4) ∧ (knd ci = 1 ↔ ci = 8) := by decide
theorem marked_ev {p n k : Nat} {t : Nat → Nat → Nat} {tr : trc} (o : RR h r) (L : LC r p n k t) (hp : p < 10) (w1' : 1 ≤ n) (w2' : n ≤ 12) (w3' : 1 ≤ k) (w4' : k ≤ 8) (w5' : ∀ j, j < k → pm n (t j)) (q : TQ r tr) (hK : ∀ h' r', FR h h' → RR h' r' → kq r r' → r'.1.2.1 = r.1.2.1 → TQ r' (mkT (kcl n k t) tr) → K (some (.int (mkV (kcl n k t) n k t))) h') : Ev (d + 3) (0, 0) MX12_marked [.ref 34, .int (nI p)] h K := by
  have hc := kcl_in n k t
  have hk3 : kcl n k t = 4 → k = 3 := fun e => kcl_k (n := n) (k := k) (t := t) (Or.inr (Or.inl e))
  -- its end
  have fin : ∀ {ci : Nat}, ci = kcl n k t → ∀ tr0 h1 r1, FR h h1 → RR h1 r1 → kq r r1 → r1.1.2.1 = r.1.2.1 → TQ r1 tr0 → tad tr0 20 = mkT ci tr → Wm (d + 2 + 1) (0, 0) JX12_marked 31 [some (.ref 34), some (.int (nI p)), some (.int (knd ci))] [] h1 (fun r h' => h'.1 0 = h.1 0 ∧ K r h') := by
    intro ci eci tr0 h1 r1 f1 o1 k1 t1 q1 et
    obtain ⟨m1, m2, m3, m4⟩ := of2 ci (by rw [eci]; exact hc)
    refine bk_X12_marked_31 _ _ _ ⟨_, o1.1, ?_⟩
    refine began_ev (d := d + 2) o1 q1 (fun h2 r2 f2 o2 k2 t2 q2 => ⟨rfl, _, o2.1, ?_⟩)
    have L2 := kq.LC (k1.tr k2) hp w2' w4' L
    refine rparts_ev o2 L2 (by omega) w2' w4' w5' (fun h3 r3 f3 o3 x3 v3 => ⟨_, rfl, ?_⟩)
    have F3 := (f1.tr f2).tr f3
    have K3 := (k1.tr k2).tr (x3.kp (by simp)).kq
    have Q3 : TQ r3 (mkT ci tr) := by rw [← et]; exact q2.kp (x3.kp (by simp))
    have T3 : r3.1.2.1 = r.1.2.1 := by rw [x3.1, t2, t1]
    refine isOf_ev ⟨_, rfl, ?_⟩
    rw [m1]
    have L3 := kq.LC K3 hp w2' w4' L
    refine ⟨fun z => ⟨fun z4 => ⟨F3.z, ?_⟩, fun z4 => ?_⟩, fun z => ⟨fun z4 => ⟨F3.z, ?_⟩, fun z4 => ⟨_, o3.1, ?_⟩⟩⟩
    · have kk := hK h3 r3 F3 o3 K3 T3 (by rw [← eci]; exact Q3)
      have e : mkV (kcl n k t) n k t = nI (pn n k t) := by
        rw [← eci]
        unfold mkV
        rw [if_neg (fun e => by subst e; exact absurd z (by decide)), if_neg (fun e => by rcases e with e | e <;> (subst e; exact absurd z (by decide)))]
      rw [e] at kk
      rw [Int32.add_zero, Int32.add_zero]
      exact kk
    · have := m3.mp z4
      subst this
      exact absurd z (by decide)
    · have kk := hK h3 r3 F3 o3 K3 T3 (by rw [← eci]; exact Q3)
      have n4 : ¬ ci = 4 := fun e => z4 (m3.mpr e)
      have b09 : ci = 0 ∨ ci = 9 := by
        apply Classical.byContradiction
        intro e
        have e0 : ¬ ci = 0 := fun q => e (Or.inl q)
        have e9 : ¬ ci = 9 := fun q => e (Or.inr q)
        apply z
        simp [e0, e9, n4]
      have e : mkV (kcl n k t) n k t = nI (pn n k t) + 100 := by
        rw [← eci]
        unfold mkV
        rw [if_neg n4, if_pos b09]
      rw [e] at kk
      rw [Int32.add_zero]
      exact kk
    · have e4 := m3.mp z4
      have k3 := hk3 (by rw [← eci]; exact e4)
      refine rrn_ev (j := 2) o3 L3 (by omega) w4' w2' (by omega) (w5' 2 (by omega)) (fun h4 r4 f4 o4 x4 => ⟨_, rfl, (F3.tr f4).z, ?_⟩)
      have kk := hK h4 r4 (F3.tr f4) o4 (K3.tr (x4.kp (by simp)).kq) (by rw [x4.1, T3]) (by rw [← eci]; exact Q3.kp (x4.kp (by simp)))
      have e : mkV (kcl n k t) n k t = nI (pn n k t) + 100 + nI (rdn n (t 2)) := by
        rw [← eci]
        unfold mkV
        rw [if_pos e4]
      rw [e] at kk
      exact kk
  refine en_X12_marked (bk_X12_marked_0 _ _ ⟨_, o.1, ?_⟩)
  refine rkindOf_ev o L (by omega) w1' w2' w3' w4' w5' (fun h1 r1 f1 o1 x1 => ⟨_, rfl, ?_⟩)
  obtain ⟨ci, eci⟩ : ∃ ci, ci = kcl n k t := ⟨_, rfl⟩
  rw [← eci]
  obtain ⟨m1, m2, m3, m4⟩ := of2 ci (by rw [eci]; exact hc)
  have k1 : kq r r1 := (x1.kp (by simp)).kq
  have t1 : r1.1.2.1 = r.1.2.1 := by rw [x1.1]
  have q1 : TQ r1 tr := q.kp (x1.kp (by simp))
  refine ⟨fun z4 => ?_, fun z4 => ⟨_, o1.1, ?_⟩⟩
  · have n4 : ¬ ci = 4 := fun e => z4 (m3.mpr e)
    refine isOf_ev ⟨_, rfl, ?_⟩
    rw [m1]
    refine ⟨fun z => fin eci tr h1 r1 f1 o1 k1 t1 q1 ?_, fun z => ⟨_, o1.1, ?_⟩⟩
    · unfold mkT
      rw [if_neg n4, if_neg (fun e => by rcases e with e | e <;> (subst e; exact absurd z (by decide)))]
    · refine began_ev (d := d + 2) o1 q1 (fun h2 r2 f2 o2 k2 t2 q2 => ⟨rfl, fin eci _ h2 r2 (f1.tr f2) o2 (k1.tr k2) (t2.trans t1) q2 ?_⟩)
      have b09 : ci = 0 ∨ ci = 9 := by
        apply Classical.byContradiction
        intro e
        have e0 : ¬ ci = 0 := fun q => e (Or.inl q)
        have e9 : ¬ ci = 9 := fun q => e (Or.inr q)
        apply z
        simp [e0, e9, n4]
      unfold mkT
      rw [if_neg n4, if_pos b09]
  · have e4 := m3.mp z4
    refine began_ev (d := d + 2) o1 q1 (fun h2 r2 f2 o2 k2 t2 q2 => ⟨rfl, ?_⟩)
    refine isOf_ev ⟨_, rfl, ?_⟩
    rw [m1]
    refine ⟨fun z => absurd z (by rw [e4]; decide), fun z => ⟨_, o2.1, ?_⟩⟩
    refine began_ev (d := d + 2) o2 q2 (fun h3 r3 f3 o3 k3 t3 q3 => ⟨rfl, fin eci _ h3 r3 ((f1.tr f2).tr f3) o3 ((k1.tr k2).tr k3) (t3.trans (t2.trans t1)) q3 ?_⟩)
    unfold mkT
    rw [if_pos e4]
theorem sized_ev {p n k : Nat} {t : Nat → Nat → Nat} {tr : trc} (o : RR h r) (L : LC r p n k t) (hp : p < 10) (w1' : 1 ≤ n) (w2' : n ≤ 12) (w3' : 1 ≤ k) (w4' : k ≤ 8) (w5' : ∀ j, j < k → pm n (t j)) (q : TQ r tr) (hK : ∀ h' r', FR h h' → RR h' r' → kq r r' → r'.1.2.1 = r.1.2.1 → TQ r' (szT (kcl n k t) tr) → K (some (.int (szV (kcl n k t) n k t))) h') : Ev (d + 4) (0, 0) MX12_sized [.ref 34, .int (nI p)] h K := by
  have hc := kcl_in n k t
  have hL : ∀ r1, kq r r1 → LC r1 p n k t := fun r1 k1 => kq.LC k1 hp w2' w4' L
  refine en_X12_sized (bk_X12_sized_0 _ _ ⟨_, o.1, ?_⟩)
  refine rkindOf_ev o L (by omega) w1' w2' w3' w4' w5' (fun h1 r1 f1 o1 x1 => ⟨_, rfl, ?_⟩)
  have k1 : kq r r1 := (x1.kp (by simp)).kq
  have t1 : r1.1.2.1 = r.1.2.1 := by rw [x1.1]
  have q1 : TQ r1 tr := q.kp (x1.kp (by simp))
  obtain ⟨ci, eci⟩ : ∃ ci, ci = kcl n k t := ⟨_, rfl⟩
  rw [← eci]
  rw [← eci] at hc
  have hK := fun h' r' a b c e f => hK h' r' a b c e (by rw [← eci]; exact f)
  rw [← eci] at hK
  simp only [List.mem_cons, List.not_mem_nil, or_false] at hc
  rcases hc with e | e | e | e | e <;> subst e
  · -- MAP
    refine ⟨fun _ => ⟨fun _ => ?_, fun z => absurd z (by decide)⟩, fun z => absurd z (by decide)⟩
    refine isOf_ev ⟨_, rfl, fun z => absurd z (by decide), fun _ => ⟨_, o1.1, ?_⟩⟩
    refine began_ev (d := d + 3) o1 q1 (fun h2 r2 f2 o2 k2 t2 q2 => ⟨rfl, ?_⟩)
    refine isOf_ev ⟨_, rfl, fun z => absurd z (by decide), fun _ => ⟨_, o2.1, ?_⟩⟩
    refine began_ev (d := d + 3) o2 q2 (fun h3 r3 f3 o3 k3 t3 q3 => ⟨rfl, ?_⟩)
    refine bk_X12_sized_76 _ _ _ ⟨_, o3.1, ?_⟩
    refine began_ev (d := d + 3) o3 q3 (fun h4 r4 f4 o4 k4 t4 q4 => ⟨rfl, _, o4.f5, _, o4.il 38 13 (by decide) (by omega), ?_⟩)
    have K4 := ((k1.tr k2).tr k3).tr k4
    have F4 := ((f1.tr f2).tr f3).tr f4
    rw [(hL r4 K4).1]
    refine isOf_ev ⟨_, rfl, fun z => absurd z (by decide), fun _ => ⟨_, o4.1, ?_⟩⟩
    refine rrn_ev (j := 0) o4 (hL r4 K4) (by omega) w4' w2' (by omega) (w5' 0 (by omega)) (fun h5 r5 f5 o5 x5 => ⟨_, rfl, ?_⟩)
    refine isOf_ev ⟨_, rfl, fun z => absurd z (by decide), fun _ => ⟨fun _ => ⟨(F4.tr f5).z, ?_⟩, fun z => absurd z (by decide)⟩⟩
    exact hK h5 r5 (F4.tr f5) o5 (K4.tr (x5.kp (by simp)).kq) (by rw [x5.1, t4, t3, t2, t1]) (q4.kp (x5.kp (by simp)))
  · -- COVER
    refine ⟨fun _ => ⟨fun _ => ?_, fun z => absurd z (by decide)⟩, fun z => absurd z (by decide)⟩
    refine isOf_ev ⟨_, rfl, fun _ => ?_, fun z => absurd (by decide) z⟩
    refine isOf_ev ⟨_, rfl, fun _ => ?_, fun z => absurd (by decide) z⟩
    refine bk_X12_sized_76 _ _ _ ⟨_, o1.1, ?_⟩
    refine began_ev (d := d + 3) o1 q1 (fun h4 r4 f4 o4 k4 t4 q4 => ⟨rfl, _, o4.f5, _, o4.il 38 13 (by decide) (by omega), ?_⟩)
    have K4 := k1.tr k4
    have F4 := f1.tr f4
    rw [(hL r4 K4).1]
    refine isOf_ev ⟨_, rfl, fun _ => ?_, fun z => absurd (by decide) z⟩
    refine isOf_ev ⟨_, rfl, fun _ => ⟨fun _ => ⟨F4.z, ?_⟩, fun z => absurd z (by decide)⟩, fun z => absurd (by decide) z⟩
    rw [Int32.add_zero]
    exact hK h4 r4 F4 o4 K4 (by rw [t4, t1]) q4
  · -- ONE
    have k3' := kcl_k (n := n) (k := k) (t := t) (Or.inr (Or.inl eci.symm))
    refine ⟨fun _ => ⟨fun z => absurd rfl z, fun _ => ⟨_, o1.1, ?_⟩⟩, fun z => absurd z (by decide)⟩
    refine began_ev (d := d + 3) o1 q1 (fun h2 r2 f2 o2 k2 t2 q2 => ⟨rfl, ?_⟩)
    refine isOf_ev ⟨_, rfl, fun z => absurd z (by decide), fun _ => ⟨_, o2.1, ?_⟩⟩
    refine began_ev (d := d + 3) o2 q2 (fun h3 r3 f3 o3 k3 t3 q3 => ⟨rfl, ?_⟩)
    refine isOf_ev ⟨_, rfl, fun z => absurd z (by decide), fun _ => ⟨_, o3.1, ?_⟩⟩
    refine began_ev (d := d + 3) o3 q3 (fun h4 r4 f4 o4 k4 t4 q4 => ⟨rfl, ?_⟩)
    refine bk_X12_sized_76 _ _ _ ⟨_, o4.1, ?_⟩
    refine began_ev (d := d + 3) o4 q4 (fun h5 r5 f5 o5 k5 t5 q5 => ⟨rfl, _, o5.f5, _, o5.il 38 13 (by decide) (by omega), ?_⟩)
    have K5 := (((k1.tr k2).tr k3).tr k4).tr k5
    have F5 := (((f1.tr f2).tr f3).tr f4).tr f5
    rw [(hL r5 K5).1]
    refine isOf_ev ⟨_, rfl, fun z => absurd z (by decide), fun _ => ⟨_, o5.1, ?_⟩⟩
    refine rrn_ev (j := 0) o5 (hL r5 K5) (by omega) w4' w2' (by omega) (w5' 0 (by omega)) (fun h6 r6 f6 o6 x6 => ⟨_, rfl, ?_⟩)
    have K6 := K5.tr (x6.kp (by simp)).kq
    have F6 := F5.tr f6
    refine isOf_ev ⟨_, rfl, fun z => absurd z (by decide), fun _ => ⟨fun z => absurd rfl z, fun _ => ⟨_, o6.1, ?_⟩⟩⟩
    refine marked_ev o6 (hL r6 K6) hp w1' w2' w3' w4' w5' (q5.kp (x6.kp (by simp))) (fun h7 r7 f7 o7 k7 t7 q7 => ⟨_, rfl, (F6.tr f7).z, ?_⟩)
    rw [← eci] at q7 ⊢
    exact hK h7 r7 (F6.tr f7) o7 (K6.tr k7) (by rw [t7, x6.1, t5, t4, t3, t2, t1]) q7
  · -- SIMPLE
    refine ⟨fun z => absurd rfl z, fun _ => ⟨_, o1.1, ?_⟩⟩
    refine began_ev (d := d + 3) o1 q1 (fun h2 r2 f2 o2 k2 t2 q2 => ⟨rfl, _, o2.1, ?_⟩)
    refine began_ev (d := d + 3) o2 q2 (fun h3 r3 f3 o3 k3 t3 q3 => ⟨rfl, _, o3.f5, _, o3.il 38 13 (by decide) (by omega), _, o3.f6, _, o3.il 39 13 (by decide) (by omega), ?_⟩)
    have K3 := (k1.tr k2).tr k3
    have F3 := (f1.tr f2).tr f3
    rw [(hL r3 K3).1, (hL r3 K3).2.1]
    exact ⟨F3.z, hK h3 r3 F3 o3 K3 (by rw [t3, t2, t1]) q3⟩
  · -- THREE
    refine ⟨fun _ => ⟨fun _ => ?_, fun z => absurd z (by decide)⟩, fun z => absurd z (by decide)⟩
    refine isOf_ev ⟨_, rfl, fun _ => ?_, fun z => absurd (by decide) z⟩
    refine isOf_ev ⟨_, rfl, fun z => absurd z (by decide), fun _ => ⟨_, o1.1, ?_⟩⟩
    refine began_ev (d := d + 3) o1 q1 (fun h3 r3 f3 o3 k3 t3 q3 => ⟨rfl, ?_⟩)
    refine bk_X12_sized_76 _ _ _ ⟨_, o3.1, ?_⟩
    refine began_ev (d := d + 3) o3 q3 (fun h4 r4 f4 o4 k4 t4 q4 => ⟨rfl, _, o4.f5, _, o4.il 38 13 (by decide) (by omega), ?_⟩)
    have K4 := (k1.tr k3).tr k4
    have F4 := (f1.tr f3).tr f4
    rw [(hL r4 K4).1]
    refine isOf_ev ⟨_, rfl, fun z => absurd z (by decide), fun _ => ⟨_, o4.1, ?_⟩⟩
    refine rrn_ev (j := 0) o4 (hL r4 K4) (by omega) w4' w2' (by omega) (w5' 0 (by omega)) (fun h5 r5 f5 o5 x5 => ⟨_, rfl, ?_⟩)
    refine isOf_ev ⟨_, rfl, fun _ => ⟨fun _ => ⟨(F4.tr f5).z, ?_⟩, fun z => absurd z (by decide)⟩, fun z => absurd (by decide) z⟩
    exact hK h5 r5 (F4.tr f5) o5 (K4.tr (x5.kp (by simp)).kq) (by rw [x5.1, t4, t3, t1]) (q4.kp (x5.kp (by simp)))
theorem lt1 {y : Int32} : (1 < y ↔ ¬ y ≤ 1) := by
  rw [Int32.lt_iff_toInt_lt, Int32.le_iff_toInt_le]
  omega
theorem kq_w20 {r : rst} {x : Int32} : kq r (w20 r x) := ⟨⟨rfl, rfl, rfl⟩, fun _ _ => ⟨rfl, rfl⟩, fun _ _ => rfl⟩
theorem r_ask {x y : Int32} (F : RFs h st) (w : wfS st) (hK : ∀ h', RFs h' (opAsk st x y).2 → FR h h' → K (some (.int (opAsk st x y).1)) h') : Ev (d + 5) (0, 0) MX12_ask [.ref 34, .int x, .int y] h K := by
  obtain ⟨r, o, s⟩ := F
  obtain ⟨h1, e1, f1, o1⟩ := o.p0 (x := 0)
  have s1 : rfS (w0 r 0) st := s.kp w kp.w0 s.1
  refine en_X12_ask (bk_X12_ask_0 _ _ _ ⟨h1, e1, ?_⟩)
  have bad : opAsk st x y = badO st → h1.1 0 = h.1 0 ∧ K (some (.int (-1000001))) h1 := fun e => by
    rw [e] at hK
    exact ⟨f1.z, hK h1 ⟨_, o1, s1⟩ f1⟩
  refine isPlace_ev (fun q => ⟨_, rfl, fun _ => bad (by unfold opAsk; rw [q]), fun z => absurd rfl z⟩) (fun p hp e q => ⟨_, rfl, fun z => absurd z (by decide), fun _ => ?_⟩)
  subst e
  have unf : opAsk st (nI p) y = if y < 0 ∨ ¬ y ≤ 1 then badO st else match st.2.1 p with
    | none => fndO (trS st tr0) 1
    | some c => if y = 0 then finO (szV (kcl c.1 c.2.1 c.2.2) c.1 c.2.1 c.2.2) (trS st (szT (kcl c.1 c.2.1 c.2.2) tr0)) else finO (mkV (kcl c.1 c.2.1 c.2.2) c.1 c.2.1 c.2.2) (trS st (mkT (kcl c.1 c.2.1 c.2.2) tr0)) := by unfold opAsk; rw [q]; rfl
  refine rin_ev (lo := 0) (hi := 1) (by decide) (by decide) (fun z => ⟨_, rfl, fun z => absurd rfl z, fun _ => bad (by rw [unf, if_pos (z.elim Or.inl (fun z => Or.inr (lt1.mp z)))])⟩) (fun v1 v2 => ⟨_, rfl, fun _ => ?_, fun z => absurd z (by decide)⟩)
  have v3 : y ≤ 1 := Classical.byContradiction fun z => v2 (lt1.mpr z)
  rw [if_neg (fun z => z.elim v1 (fun z => z v3))] at unf
  obtain ⟨h2, e2, f2, o2⟩ := o1.p20 (x := 0)
  refine ⟨h2, e2, _, o2.1, ?_⟩
  have f12 := f1.tr f2
  have q2 : TQ (w20 (w0 r 0) 0) tr0 := ⟨rfl, by decide, fun x hx => absurd hx (by show ¬ x < 0; omega)⟩
  refine rlook_ev o2 hp (show rfC (w20 (w0 r 0) 0) p (st.2.1 p) from s1.2.2.1 p hp) (w.2.1 p hp) (fun hv h' r' f' o' k' t' => ⟨_, rfl, fun z => absurd z (by decide), fun _ => ⟨(f12.tr f').z, ?_⟩⟩) (fun n k t hv _ h' r' f' o' k' t' => ⟨_, rfl, fun _ => ?_, fun z => absurd (by decide) z⟩) (fun n k t hv z => absurd rfl z)
  · rw [hv] at unf
    rw [unf] at hK
    exact hK h' ⟨r', o', s1.kq w (kq_w20.tr k'.kq) (q2.kp k') t'⟩ (f12.tr f')
  · rw [hv] at unf
    simp only at unf
    obtain ⟨w1', w2', w3', w4', w5'⟩ := w.2.1 p hp n k t hv
    have hL := s1.2.2.1 p hp
    rw [hv] at hL
    have L' : LC r' p n k t := kq.LC (kq_w20.tr k'.kq) hp w2' w4' hL
    refine ⟨fun z => ⟨_, o'.1, ?_⟩, fun z => ⟨_, o'.1, ?_⟩⟩
    · rw [unf, if_neg z] at hK
      exact marked_ev (d := d + 1) o' L' hp w1' w2' w3' w4' w5' (q2.kp k') (fun h3 r3 f3 o3 k3 t3 q3 => ⟨_, rfl, ((f12.tr f').tr f3).z, hK h3 ⟨r3, o3, s1.kq w ((kq_w20.tr k'.kq).tr k3) q3 (t3.trans t')⟩ ((f12.tr f').tr f3)⟩)
    · rw [unf, if_pos z] at hK
      exact sized_ev o' L' hp w1' w2' w3' w4' w5' (q2.kp k') (fun h3 r3 f3 o3 k3 t3 q3 => ⟨_, rfl, ((f12.tr f').tr f3).z, hK h3 ⟨r3, o3, s1.kq w ((kq_w20.tr k'.kq).tr k3) q3 (t3.trans t')⟩ ((f12.tr f').tr f3)⟩)
theorem r_count {x : Int32} (F : RFs h st) (w : wfS st) (hK : ∀ h', RFs h' (opCount st x).2 → FR h h' → K (some (.int (opCount st x).1)) h') : Ev (d + 3) (0, 0) MX12_count [.ref 34, .int x] h K := by
  obtain ⟨r, o, s⟩ := F
  obtain ⟨h1, e1, f1, o1⟩ := o.p0 (x := 0)
  have s1 : rfS (w0 r 0) st := s.kp w kp.w0 s.1
  -- places, told by kind
  have kinds : ∀ j, 1 ≤ j → j ≤ 5 → x = nI j → Wm (d + 2 + 1) (0, 0) JX12_count 87 [some (.ref 34), some (.int x), some (.int 0), some (.int 0)] [] h1 (fun r h' => h'.1 0 = h.1 0 ∧ K r h') := by
    intro j j1 j5 ex
    have unf : opCount st x = (nI (cn (cntC st x) 10), st) := by
      subst ex
      rcases (show j = 1 ∨ j = 2 ∨ j = 3 ∨ j = 4 ∨ j = 5 by omega) with e | e | e | e | e <;> subst e <;> rfl
    have hcnt : ∀ p n k t, st.2.1 p = some (n, k, t) → cntC st x p = isK (kcl n k t) (nI (j - 1)) := fun p n k t e => by
      unfold cntC
      rw [e]
      subst ex
      rcases (show j = 1 ∨ j = 2 ∨ j = 3 ∨ j = 4 ∨ j = 5 by omega) with e | e | e | e | e <;> subst e <;> rfl
    have hcn0 : ∀ p, st.2.1 p = none → cntC st x p = false := fun p e => by unfold cntC; rw [e]
    have key : ∀ m p h' r', p + m = 10 → FR h h' → RR h' r' → kp (w0 r 0) r' → r'.1.2.1 = st.2.2.2 → Wm (d + 2 + 1) (0, 0) JX12_count 87 [some (.ref 34), some (.int x), some (.int (nI (cn (cntC st x) p))), some (.int (nI p))] [] h' (fun r h' => h'.1 0 = h.1 0 ∧ K r h') := by
      intro m
      induction m with
      | zero =>
        intro p h' r' hp f' o' k' t'
        have hp : p = 10 := by omega
        subst hp
        rw [unf] at hK
        exact bk_X12_count_87 _ _ _ _ ⟨fun _ => ⟨f'.z, hK h' ⟨r', o', s1.kp w k' t'⟩ f'⟩, fun z => absurd (le_t (a := 10) (b := 10) (by decide) (by decide)) z⟩
      | succ m ih =>
        intro p h' r' hp f' o' k' t'
        have hp10 : p < 10 := by omega
        have nx := fun h' r' => ih (p + 1) h' r' (by omega)
        rw [cn_succ] at nx
        refine bk_X12_count_87 _ _ _ _ ⟨fun z => absurd z (le_f (a := 10) (b := p) hp10 (by decide)), fun _ => ⟨_, o'.f5, _, o'.il 38 13 (by decide) (by omega), ?_⟩⟩
        rw [(k'.2.2.1 p hp10).1]
        have hc := s1.2.2.1 p hp10
        cases hv : st.2.1 p with
        | none =>
          rw [hv] at hc
          have hc : (w0 r 0).2.1 38 p = 0 := hc
          rw [hcn0 p hv] at nx
          rw [hc]
          refine ⟨fun _ => ?_, fun z => absurd (by decide) z⟩
          rw [Int32.add_zero, nI_1]
          exact nx h' r' f' o' k' t'
        | some v =>
          obtain ⟨n, k, t⟩ := v
          rw [hv] at hc
          obtain ⟨w1', w2', w3', w4', w5'⟩ := w.2.1 p hp10 n k t hv
          have L : LC r' p n k t := kp.LC k' hp10 w2' w4' hc
          rw [show (w0 r 0).2.1 38 p = nI n from hc.1]
          rw [hcnt p n k t hv] at nx
          refine ⟨fun z => absurd z (nI_nle (by omega) (by omega)), fun _ => ⟨_, o'.1, ?_⟩⟩
          refine rkindOf_ev o' L (by omega) w1' w2' w3' w4' w5' (fun h2 r2 f2 o2 x2 => ⟨_, rfl, ?_⟩)
          have nx2 := nx h2 r2 (f'.tr f2) o2 (k'.tr (x2.kp (by simp))) (by rw [x2.1]; exact t')
          rw [ex, nI_m1 (by omega)]
          refine isOfK_ev (kcl_in n k t) (nI_pos (by omega)) (lt_t (b := 5) (by omega) (by decide)) ⟨_, rfl, fun z => ?_, fun z => ?_⟩
          · have nb : ¬ isK (kcl n k t) (nI (j - 1)) = true := fun b => by rw [if_pos b] at z; exact absurd z (by decide)
            rw [if_neg nb] at nx2
            rw [Int32.add_zero, nI_1, ← ex]
            exact nx2
          · have b : isK (kcl n k t) (nI (j - 1)) = true := Classical.byContradiction fun b => by rw [if_neg b] at z; exact z rfl
            rw [if_pos b] at nx2
            rw [nI_1, nI_1, ← ex]
            exact nx2
    exact key 10 0 h1 _ (by omega) f1 o1 kp.rf s1.1
  refine en_X12_count (bk_X12_count_0 _ _ ⟨h1, e1, fun e => ?_, fun e => kinds 1 (by omega) (by omega) e, fun e => kinds 2 (by omega) (by omega) e, fun e => kinds 3 (by omega) (by omega) e, fun e => kinds 4 (by omega) (by omega) e, fun e => kinds 5 (by omega) (by omega) e, fun e => ?_, fun z0 z1 z2 z3 z4 z5 z6 => ⟨f1.z, ?_⟩⟩)
  · have unf : opCount st x = (nI (cn (fun i => !((st.1 i).1 == -1)) 8), st) := by subst e; rfl
    rw [unf] at hK
    refine dn (n := 8) (fun p => Wm (d + 2 + 1) (0, 0) JX12_count 54 [some (.ref 34), none, some (.int (nI (cn (fun i => !((st.1 i).1 == -1)) p))), some (.int (nI p))] [] h1 (fun r h' => h'.1 0 = h.1 0 ∧ K r h')) ?_ ?_ 0 (by omega)
    · exact bk_X12_count_54 _ _ _ ⟨fun _ => ⟨f1.z, hK h1 ⟨_, o1, s1⟩ f1⟩, fun z => absurd (le_t (a := 8) (b := 8) (by decide) (by decide)) z⟩
    · intro p hp ih
      rw [cn_succ] at ih
      have lnn := ln_neg (w.1 p hp).1
      refine bk_X12_count_54 _ _ _ ⟨fun z => absurd z (le_f (a := 8) (b := p) hp (by decide)), fun _ => ⟨_, o1.f2, _, o1.il 35 8 (by decide) hp, ?_⟩⟩
      rw [(s1.2.1 p hp).1]
      refine ⟨fun z => ?_, fun z => ?_⟩
      · rw [if_neg (by simp [lnn.1.mp z])] at ih
        rw [Int32.add_zero, nI_1]
        exact ih
      · rw [if_pos (by simp; exact fun q => z (lnn.1.mpr q))] at ih
        rw [nI_1, nI_1]
        exact ih
  · have unf : opCount st x = (nI (cn (cntC st x) 10), st) := by subst e; rfl
    have hcnt : ∀ p n k t, st.2.1 p = some (n, k, t) → cntC st x p = (pn n k t == 1) := fun p n k t e2 => by
      unfold cntC
      rw [e2]
      subst e
      rfl
    have hcn0 : ∀ p, st.2.1 p = none → cntC st x p = false := fun p e => by unfold cntC; rw [e]
    have key : ∀ m p h' r', p + m = 10 → FR h h' → RR h' r' → kp (w0 r 0) r' → r'.1.2.1 = st.2.2.2 → Wm (d + 2 + 1) (0, 0) JX12_count 134 [some (.ref 34), none, some (.int (nI (cn (cntC st x) p))), some (.int (nI p))] [] h' (fun r h' => h'.1 0 = h.1 0 ∧ K r h') := by
      intro m
      induction m with
      | zero =>
        intro p h' r' hp f' o' k' t'
        have hp : p = 10 := by omega
        subst hp
        rw [unf] at hK
        exact bk_X12_count_134 _ _ _ ⟨fun _ => ⟨f'.z, hK h' ⟨r', o', s1.kp w k' t'⟩ f'⟩, fun z => absurd (le_t (a := 10) (b := 10) (by decide) (by decide)) z⟩
      | succ m ih =>
        intro p h' r' hp f' o' k' t'
        have hp10 : p < 10 := by omega
        have nx := fun h' r' => ih (p + 1) h' r' (by omega)
        rw [cn_succ] at nx
        refine bk_X12_count_134 _ _ _ ⟨fun z => absurd z (le_f (a := 10) (b := p) hp10 (by decide)), fun _ => ⟨_, o'.f5, _, o'.il 38 13 (by decide) (by omega), ?_⟩⟩
        rw [(k'.2.2.1 p hp10).1]
        have hc := s1.2.2.1 p hp10
        cases hv : st.2.1 p with
        | none =>
          rw [hv] at hc
          have hc : (w0 r 0).2.1 38 p = 0 := hc
          rw [hcn0 p hv] at nx
          rw [hc]
          refine ⟨fun _ => ?_, fun z => absurd (by decide) z⟩
          rw [Int32.add_zero, nI_1]
          exact nx h' r' f' o' k' t'
        | some v =>
          obtain ⟨n, k, t⟩ := v
          rw [hv] at hc
          obtain ⟨w1', w2', w3', w4', w5'⟩ := w.2.1 p hp10 n k t hv
          have L : LC r' p n k t := kp.LC k' hp10 w2' w4' hc
          have hpn := pn_le n k t
          rw [show (w0 r 0).2.1 38 p = nI n from hc.1]
          rw [hcnt p n k t hv] at nx
          refine ⟨fun z => absurd z (nI_nle (by omega) (by omega)), fun _ => ⟨_, o'.1, ?_⟩⟩
          refine rparts_ev o' L (by omega) w2' w4' w5' (fun h2 r2 f2 o2 x2 _ => ⟨_, rfl, fun z => ?_, fun z => ?_⟩)
          · have nx2 := nx h2 r2 (f'.tr f2) o2 (k'.tr (x2.kp (by simp))) (by rw [x2.1]; exact t')
            rw [if_neg (by simp; exact fun q => z (by rw [q]; rfl))] at nx2
            rw [Int32.add_zero, nI_1]
            exact nx2
          · have nx2 := nx h2 r2 (f'.tr f2) o2 (k'.tr (x2.kp (by simp))) (by rw [x2.1]; exact t')
            have z : pn n k t = 1 := nI_inj (b := 1) (by omega) (by decide) z
            rw [if_pos (by simp [z])] at nx2
            rw [nI_1, nI_1]
            exact nx2
    exact key 10 0 h1 _ (by omega) f1 o1 kp.rf s1.1
  · have e : opCount st x = badO st := by
      unfold opCount
      rw [if_pos]
      apply Classical.byContradiction
      intro q
      have a1 : ¬ x < 0 := fun z => q (Or.inl z)
      have a2 : x ≤ 6 := Classical.byContradiction fun z => q (Or.inr z)
      obtain ⟨j, hj, rfl⟩ := nI_of a1
      have := (nI_leI (b := 6) (by omega) (by decide)).mp a2
      rcases (show j = 0 ∨ j = 1 ∨ j = 2 ∨ j = 3 ∨ j = 4 ∨ j = 5 ∨ j = 6 by omega) with e | e | e | e | e | e | e <;> subst e
      · exact z0 rfl
      · exact z1 rfl
      · exact z2 rfl
      · exact z3 rfl
      · exact z4 rfl
      · exact z5 rfl
      · exact z6 rfl
    rw [e] at hK
    exact hK h1 ⟨_, o1, s1⟩ f1
end RefAsk

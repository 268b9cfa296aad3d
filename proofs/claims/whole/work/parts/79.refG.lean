/-! the reference: covers out of rows, parts -/
section RefCover
variable {d : Nat} {h : mH} {r : rst} {st : AS} {K : Option Value → mH → Prop}
/-- numbers below n, each once, so far -/
def opx (n : Nat) (g : Nat → Int32) (x : Nat) : Prop := (∀ y, y < x → ∃ z, z < n ∧ g y = nI z) ∧ ∀ y y', y < x → y' < x → g y = g y' → y = y'
theorem opx_ords {n : Nat} {g : Nat → Int32} (hn : n ≤ 12) (h : opx n g n) : ords n g := by
  have e : ∀ y, y < n → (g y).toNatClampNeg < n ∧ g y = nI (g y).toNatClampNeg := fun y hy => by
    obtain ⟨z, hz, e⟩ := h.1 y hy
    rw [e, nI_clamp (by omega)]
    exact ⟨hz, rfl⟩
  refine ⟨fun y => (g y).toNatClampNeg, ⟨fun i hi => (e i hi).1, fun i j hi hj q => h.2 i j hi hj ?_⟩, fun i hi => (e i hi).2⟩
  rw [(e i hi).2, (e j hj).2]
  exact congrArg nI q
theorem n96t (s i t n x : Nat) : (96 : Int32) * nI s + nI i + nI t * nI n + nI x = nI (96 * s + (i + t * n + x)) := by rw [n96, pk_mul, nI_add, nI_add, Nat.add_assoc, Nat.add_assoc, Nat.add_assoc]
theorem r_cover {x u i n k : Int32} (F : RFs h st) (w : wfS st) (hK : ∀ h', RFs h' (opCover st x u i n k).2 → FR h h' → K (some (.int (opCover st x u i n k).1)) h') : Ev (d + 4) (0, 0) MX12_cover [.ref 34, .int x, .int u, .int i, .int n, .int k] h K := by
  obtain ⟨r, o, s⟩ := F
  obtain ⟨h1, e1, f1, o1⟩ := o.p0 (x := 0)
  have s1 : rfS (w0 r 0) st := s.kp w kp.w0 s.1
  refine en_X12_cover (bk_X12_cover_0 _ _ _ _ _ _ ⟨h1, e1, ?_⟩)
  have bad : opCover st x u i n k = badO st → h1.1 0 = h.1 0 ∧ K (some (.int (-1000001))) h1 := fun e => by
    rw [e] at hK
    exact ⟨f1.z, hK h1 ⟨_, o1, s1⟩ f1⟩
  refine isPlace_ev (fun q => ⟨_, rfl, fun _ => bad (by unfold opCover; rw [q]), fun z => absurd rfl z⟩) (fun p hp e qp => ⟨_, rfl, fun z => absurd z (by decide), fun _ => ?_⟩)
  subst e
  refine isRow_ev (fun q => ⟨_, rfl, fun _ => bad (by unfold opCover; rw [qp, q]), fun z => absurd rfl z⟩) (fun v hv e qv => ⟨_, rfl, fun z => absurd z (by decide), fun _ => ?_⟩)
  subst e
  have unf : opCover st (nI p) (nI v) i n k = if n < 1 ∨ 12 < n ∨ k < 1 ∨ ¬ k ≤ 8 then badO st else if (st.1 v).1 = -1 then fndO st 1 else match hlI (st.1 v).2.1 i (n * (k - 1)) with
      | none => fndO st 2
      | some q => @ite _ (∀ j, j < k.toNatClampNeg - 1 → ords n.toNatClampNeg (fun x => (st.1 v).2.2 (q.1 + j * n.toNatClampNeg + x))) (Classical.propDecidable _) (shvO st p n.toNatClampNeg k.toNatClampNeg (cvt n.toNatClampNeg k.toNatClampNeg (tin n.toNatClampNeg (st.1 v).2.2 q.1))) (badO st) := by
    unfold opCover
    rw [qp, qv]
    rfl
  have lt8 : 8 < k ↔ ¬ k ≤ 8 := by rw [Int32.lt_iff_toInt_lt, Int32.le_iff_toInt_le]; omega
  refine rin_ev (lo := 1) (hi := 12) (by decide) (by decide) (fun z => ⟨_, rfl, fun _ => bad (by rw [unf, if_pos (z.elim Or.inl (fun z => Or.inr (Or.inl z)))]), fun z => absurd rfl z⟩) (fun v1 v2 => ⟨_, rfl, fun z => absurd z (by decide), fun _ => ?_⟩)
  refine rin_ev (lo := 1) (hi := 8) (by decide) (by decide) (fun z => ⟨_, rfl, fun z => absurd rfl z, fun _ => bad (by rw [unf, if_pos (z.elim (fun z => Or.inr (Or.inr (Or.inl z))) (fun z => Or.inr (Or.inr (Or.inr (lt8.mp z)))))])⟩) (fun v3 v4 => ⟨_, rfl, fun _ => ⟨_, o1.f2, _, o1.il 35 8 (by decide) hv, ?_⟩, fun z => absurd z (by decide)⟩)
  have v5 : k ≤ 8 := Classical.byContradiction fun z => v4 (lt8.mpr z)
  rw [if_neg (fun q => q.elim v1 (fun q => q.elim v2 (fun q => q.elim v3 (fun q => q v5))))] at unf
  have z1 : ∀ {y : Int32}, ¬ y < 1 → ¬ y < 0 := fun {y} w q => w (by rw [Int32.lt_iff_toInt_lt] at q ⊢; have : (0 : Int32).toInt = 0 := rfl; have : (1 : Int32).toInt = 1 := rfl; omega)
  obtain ⟨N, hN31, eN⟩ := nI_of (z1 v1)
  obtain ⟨M, hM31, eM⟩ := nI_of (z1 v3)
  subst eN
  subst eM
  have N1 : 1 ≤ N := by
    rcases Nat.lt_or_ge N 1 with q | q
    · exact absurd (lt_t (b := 1) q (by decide)) v1
    · exact q
  have N12 : N ≤ 12 := by
    rcases Nat.lt_or_ge 12 N with q | q
    · exact absurd (lt_t (a := 12) q (by omega)) v2
    · exact q
  have M1 : 1 ≤ M := by
    rcases Nat.lt_or_ge M 1 with q | q
    · exact absurd (lt_t (b := 1) q (by decide)) v3
    · exact q
  have M8 : M ≤ 8 := (nI_leI (b := 8) (by omega) (by decide)).mp v5
  have hNM : N * (M - 1) ≤ 12 * 7 := Nat.mul_le_mul N12 (by omega)
  rw [nI_m1 M1, pk_mul, nI_clamp hN31, nI_clamp hM31] at unf
  rw [nI_m1 M1, pk_mul, Nat.mul_comm (M - 1) N]
  obtain ⟨su1, su2, su3⟩ := s1.2.1 v hv
  obtain ⟨wu1, wu2⟩ := w.1 v hv
  have lnn := ln_neg wu1
  have fnd' : ∀ {z : Int32}, opCover st (nI p) (nI v) i (nI N) (nI M) = fndO st z → ∃ fs : List Value, h1.1 34 = .inr (11, fs) ∧ Ev (d + 3) (0, 0) MX12_found [.ref 34, .int z] h1 (fun r h' => ∃ y : Int32, r = some (.int y) ∧ (h'.1 0 = h.1 0 ∧ K (some (.int y)) h')) := fun e => by
    rw [e] at hK
    exact ⟨_, o1.1, rfound_ev o1 (fun h9 f9 o9 => ⟨_, rfl, (f1.tr f9).z, hK h9 ⟨_, o9, s1.kp w kp.w1 rfl⟩ (f1.tr f9)⟩)⟩
  rw [su1]
  refine ⟨fun z => ?_, fun z => fnd' (by rw [unf, if_pos (Classical.byContradiction fun q => z (lnn.2.mpr q))])⟩
  have nm : ¬ (st.1 v).1 = -1 := lnn.2.mp z
  rw [if_neg nm] at unf
  refine ⟨fun y => fnd' (by rw [unf, hlI_neg (Or.inl y)]), fun y1 => ⟨_, o1.f3, _, o1.il 36 8 (by decide) hv, ?_⟩⟩
  obtain ⟨i', m', hi', hm', ei, em, hc1⟩ := hlI_cases (st.1 v).2.1 i (nI (N * (M - 1))) y1 (nI_pos (by omega))
  subst ei
  have em := nI_inj (by omega) hm' em
  subst em
  rw [su2 nm]
  have l1 := lsum (i := i') (m := N * (M - 1)) (s := (st.1 v).2.1) hi' (by omega) (by omega)
  rw [hc1] at unf
  refine ⟨fun y => ?_, fun y => fnd' (by rw [unf, if_neg (fun q => y (l1.2.mpr q))])⟩
  have b1 : i' + N * (M - 1) ≤ (st.1 v).2.1 := l1.2.mp y
  rw [if_pos b1] at unf
  simp only at unf
  obtain ⟨g, eg⟩ : ∃ g : Nat → Int32, g = (st.1 v).2.2 := ⟨_, rfl⟩
  rw [← eg] at unf
  have idx : ∀ t x, t < M - 1 → x < N → i' + t * N + x < 96 := fun t x ht hx => by
    have h1 : (t + 1) * N ≤ (M - 1) * N := Nat.mul_le_mul_right _ (by omega)
    rw [Nat.add_mul, Nat.one_mul] at h1
    rw [Nat.mul_comm N] at b1
    omega
  have ag : ∀ t x, t < M - 1 → x < N → (w0 r 0).2.1 37 (96 * v + (i' + t * N + x)) = g (i' + t * N + x) := fun t x ht hx => by rw [eg]; exact su3 _ (idx t x ht hx)
  obtain ⟨T, eT⟩ : ∃ T, T = tin N g i' := ⟨_, rfl⟩
  rw [← eT] at unf
  -- the building
  have bld : (∀ j, j < M - 1 → ords N (fun x => g (i' + j * N + x))) → ∀ h2, FR h h2 → RR h2 (wr (wr (w0 r 0) 38 10 (nI N)) 39 10 (nI M)) → Wm (d + 3 + 1) (0, 0) JX12_cover 213 [some (.ref 34), some (.int (nI p)), some (.int (nI v)), some (.int (nI i')), some (.int (nI N)), some (.int (nI M)), some (.int 0), none, none, none] [] h2 (fun r h' => h'.1 0 = h.1 0 ∧ K r h') := by
    intro hok h2 f2 o2
    have pmT : ∀ j, j < M - 1 → pm N (T j) := fun j hj => by rw [eT]; exact (ords_tin N12 (hok j hj)).1
    have aT : ∀ t x, t < M - 1 → x < N → g (i' + t * N + x) = nI (T t x) := fun t x ht hx => by rw [eT]; exact (ords_tin N12 (hok t ht)).2 x hx
    have pmP : ∀ j, j ≤ M - 1 → pm N (prd T j) := fun j hj => prd_pm j (fun i hi => pmT i (by omega))
    have pmc : ∀ e, e < M → pm N (cvt N M T e) := fun e he => by
      unfold cvt ut
      split
      · exact pm_inv (pmP (M - 1) (Nat.le_refl _))
      · exact pmT e (by omega)
    rw [if_pos hok] at unf
    have outer : ∀ c x h3 r3, x + c = N → FR h h3 → RR h3 r3 → ex [40] (wr (wr (w0 r 0) 38 10 (nI N)) 39 10 (nI M)) r3 → (∀ q, q < 960 → r3.2.1 40 q = r.2.1 40 q) → (∀ t, t < M - 1 → ∀ x', x' < x → r3.2.1 40 (960 + 12 * t + x') = nI (T t x')) → (∀ x', x' < x → r3.2.1 40 (960 + 12 * (M - 1) + prd T (M - 1) x') = nI x') → Wm (d + 3 + 1) (0, 0) JX12_cover 213 [some (.ref 34), some (.int (nI p)), some (.int (nI v)), some (.int (nI i')), some (.int (nI N)), some (.int (nI M)), some (.int (nI x)), none, none, none] [] h3 (fun r h' => h'.1 0 = h.1 0 ∧ K r h') := by
      intro c
      induction c with
      | zero =>
        intro x h3 r3 hx f3 o3 x3 q3 a3 b3
        have hx : x = N := by omega
        subst hx
        refine bk_X12_cover_213 _ _ _ _ _ _ _ ⟨fun _ => ⟨_, o3.1, ?_⟩, fun q => absurd (le_t (Nat.le_refl _) (by omega)) q⟩
        rw [unf] at hK
        have k3 : kp (w0 r 0) r3 := by
          have ka : kp (w0 r 0) (wr (wr (w0 r 0) 38 10 (nI x)) 39 10 (nI M)) := (kp_wr38 (by omega)).tr (kp_wr39 (by omega))
          refine ⟨by rw [x3.1]; rfl, ⟨by rw [x3.2.2 35 (by simp)]; exact ka.2.1.1, by rw [x3.2.2 36 (by simp)]; exact ka.2.1.2.1, by rw [x3.2.2 37 (by simp)]; exact ka.2.1.2.2.1, by rw [x3.2.2 52 (by simp)]; exact ka.2.1.2.2.2⟩, fun p hp => ⟨by rw [x3.2.2 38 (by simp)]; exact (ka.2.2.1 p hp).1, by rw [x3.2.2 39 (by simp)]; exact (ka.2.2.1 p hp).2⟩, fun i hi => q3 i hi⟩
        have s3 : rfS r3 (stS st st.2.2.2) := s1.kp w k3 (by rw [x3.1]; exact s1.1)
        have L3 : LC r3 10 x M (cvt x M T) := by
          refine ⟨by rw [x3.2.2 38 (by simp), wr_n (by decide), wr_j], by rw [x3.2.2 39 (by simp), wr_j], fun t ht y hy => ?_⟩
          by_cases e : t = M - 1
          · subst e
            obtain ⟨z, hz, ez⟩ := pm_surj x _ (pmP (M - 1) (Nat.le_refl _)) y hy
            have : cvt x M T (M - 1) y = z := by
              unfold cvt ut
              rw [if_pos rfl, ← ez, iv_at (pmP (M - 1) (Nat.le_refl _)).2 hz]
            rw [this, ← ez]
            exact b3 z hz
          · have : cvt x M T t y = T t y := by unfold cvt ut; rw [if_neg e]
            rw [this]
            exact a3 t (by omega) y hy
        exact rlay_ev o3 s3 w hp L3 N1 N12 M1 M8 pmc (fun h4 R4 f4 => ⟨_, rfl, (f3.tr f4).z, hK h4 R4 (f3.tr f4)⟩)
      | succ c ih =>
        intro x h3 r3 hx f3 o3 x3 q3 a3 b3
        have hxN : x < N := by omega
        refine bk_X12_cover_213 _ _ _ _ _ _ _ ⟨fun q => absurd q (le_f hxN (by omega)), fun _ => ?_⟩
        have inner : ∀ c t h4 r4, t + c = M - 1 → FR h h4 → RR h4 r4 → ex [40] (wr (wr (w0 r 0) 38 10 (nI N)) 39 10 (nI M)) r4 → (∀ q, q < 960 → r4.2.1 40 q = r.2.1 40 q) → (∀ t, t < M - 1 → ∀ x', x' < x → r4.2.1 40 (960 + 12 * t + x') = nI (T t x')) → (∀ x', x' < x → r4.2.1 40 (960 + 12 * (M - 1) + prd T (M - 1) x') = nI x') → (∀ t', t' < t → r4.2.1 40 (960 + 12 * t' + x) = nI (T t' x)) → Wm (d + 3 + 1) (0, 0) JX12_cover 227 [some (.ref 34), some (.int (nI p)), some (.int (nI v)), some (.int (nI i')), some (.int (nI N)), some (.int (nI M)), some (.int (nI x)), some (.int (nI (prd T t x))), some (.int (nI t)), none] [] h4 (fun r h' => h'.1 0 = h.1 0 ∧ K r h') := by
          intro c
          induction c with
          | zero =>
            intro t h4 r4 ht f4 o4 x4 q4 a4 b4 c4
            have ht : t = M - 1 := by omega
            subst ht
            have hy := (pmP (M - 1) (Nat.le_refl _)).1 x hxN
            refine bk_X12_cover_227 _ _ _ _ _ _ _ _ _ ⟨fun _ => ⟨_, o4.1, ?_⟩, fun q => absurd (by rw [nI_1]; exact le_t (by omega) (by omega)) q⟩
            rw [nI_m1 M1]
            refine rput_ev (p := 10) o4 (by omega) (fun h5 f5 o5 => ⟨rfl, ?_⟩)
            rw [nI_1]
            refine ih (x + 1) h5 _ (by omega) (f4.tr f5) o5 (x4.tr (ex.wr (by simp))) (fun q hq => by rw [wr_i (by omega)]; exact q4 q hq) (fun t ht x' hx' => ?_) (fun x' hx' => ?_)
            · rw [wr_i (by omega)]
              by_cases e : x' = x
              · rw [e]; exact c4 t ht
              · exact a4 t ht x' (by omega)
            · by_cases e : x' = x
              · rw [e, show 960 + 12 * (M - 1) + prd T (M - 1) x = 96 * 10 + 12 * (M - 1) + prd T (M - 1) x by omega, wr_j]
              · have ne : ¬ prd T (M - 1) x' = prd T (M - 1) x := fun q => e ((pmP (M - 1) (Nat.le_refl _)).2 x' x (by omega) hxN q)
                rw [wr_i (by omega)]
                exact b4 x' (by omega)
          | succ c ihc =>
            intro t h4 r4 ht f4 o4 x4 q4 a4 b4 c4
            have hy := (pmP t (by omega)).1 x hxN
            have hTx := (pmT t (by omega)).1 x hxN
            have r37 : ∀ z, r4.2.1 37 z = (w0 r 0).2.1 37 z := fun z => by rw [x4.at z (by simp), wr_n (by decide), wr_n (by decide)]
            refine bk_X12_cover_227 _ _ _ _ _ _ _ _ _ ⟨fun q => absurd (by rw [nI_1] at q; exact q) (le_f (by omega) (by omega)), fun _ => ⟨_, o4.f4, ?_⟩⟩
            have i1 := idx t x (by omega) hxN
            have i2 := idx t _ (by omega) hy
            rw [n96t, n96t]
            have g1 : r4.2.1 37 (96 * v + (i' + t * N + x)) = nI (T t x) := by rw [r37, ag t x (by omega) hxN, aT t x (by omega) hxN]
            have g2 : r4.2.1 37 (96 * v + (i' + t * N + prd T t x)) = nI (T t (prd T t x)) := by rw [r37, ag t _ (by omega) hy, aT t _ (by omega) hy]
            refine ⟨_, o4.il 37 768 (by decide) (by omega), _, o4.1, ?_⟩
            rw [g1]
            refine rput_ev (p := 10) o4 (by omega) (fun h5 f5 o5 => ⟨rfl, _, o5.f4, _, o5.il 37 768 (by decide) (by omega), ?_⟩)
            rw [wr_n (by decide), g2, nI_1]
            refine ihc (t + 1) h5 _ (by omega) (f4.tr f5) o5 (x4.tr (ex.wr (by simp))) (fun q hq => by rw [wr_i (by omega)]; exact q4 q hq) (fun t ht x' hx' => ?_) (fun x' hx' => ?_) (fun t' ht' => ?_)
            · rw [wr_i (by omega)]
              exact a4 t ht x' hx'
            · have := (pmP (M - 1) (Nat.le_refl _)).1 x' (by omega)
              rw [wr_i (by omega)]
              exact b4 x' hx'
            · by_cases e : t' = t
              · rw [e, show 960 + 12 * t + x = 96 * 10 + 12 * t + x by omega, wr_j]
              · rw [wr_i (by omega)]
                exact c4 t' (by omega)
        exact inner (M - 1) 0 h3 r3 (by omega) f3 o3 x3 q3 a3 b3 (fun t' ht' => absurd ht' (by omega))
    exact outer N 0 h2 _ (by omega) f2 o2 ex.rf (fun q hq => by rw [wr_n (by decide), wr_n (by decide)]; rfl) (fun t ht x' hx' => absurd hx' (by omega)) (fun x' hx' => absurd hx' (by omega))
  -- the trying
  have chk : ∀ c t, t + c = M - 1 → (∀ j, j < t → ords N (fun x => g (i' + j * N + x))) → Wm (d + 3 + 1) (0, 0) JX12_cover 98 [some (.ref 34), some (.int (nI p)), some (.int (nI v)), some (.int (nI i')), some (.int (nI N)), some (.int (nI M)), some (.int (nI t)), none, none, none] [] h1 (fun r h' => h'.1 0 = h.1 0 ∧ K r h') := by
    intro c
    induction c with
    | zero =>
      intro t ht hok
      have ht : t = M - 1 := by omega
      subst ht
      obtain ⟨h2, e2, f2, o2⟩ := o1.is (x := nI N) (j := 10) 38 13 (by decide) (by decide)
      obtain ⟨h3, e3, f3, o3⟩ := o2.is (x := nI M) (j := 10) 39 13 (by decide) (by decide)
      refine bk_X12_cover_98 _ _ _ _ _ _ _ ⟨fun _ => ⟨_, o1.f5, h2, e2, _, o2.f6, h3, e3, bld hok h3 ((f1.tr f2).tr f3) o3⟩, fun q => absurd (by rw [nI_1]; exact le_t (by omega) (by omega)) q⟩
    | succ c ih =>
      intro t ht hok
      refine bk_X12_cover_98 _ _ _ _ _ _ _ ⟨fun q => absurd (by rw [nI_1] at q; exact q) (le_f (by omega) (by omega)), fun _ => ?_⟩
      have nok : ¬ ords N (fun x => g (i' + t * N + x)) → h1.1 0 = h.1 0 ∧ K (some (.int (-1000001))) h1 := fun z => bad (by rw [unf, if_neg (fun q => z (q t (by omega)))])
      have inner : ∀ c x met, x + c = N → met < 4096 → opx N (fun x => g (i' + t * N + x)) x → (∀ z, met.testBit z = true ↔ ∃ y, y < x ∧ g (i' + t * N + y) = nI z ∧ z < N) → Wm (d + 3 + 1) (0, 0) JX12_cover 113 [some (.ref 34), some (.int (nI p)), some (.int (nI v)), some (.int (nI i')), some (.int (nI N)), some (.int (nI M)), some (.int (nI t)), some (.int (nI met)), some (.int (nI x)), none] [] h1 (fun r h' => h'.1 0 = h.1 0 ∧ K r h') := by
        intro c
        induction c with
        | zero =>
          intro x met hx hm op hb
          have hx : x = N := by omega
          subst hx
          refine bk_X12_cover_113 _ _ _ _ _ _ _ _ _ ⟨fun _ => ?_, fun q => absurd (le_t (Nat.le_refl _) (by omega)) q⟩
          rw [nI_1]
          refine ih (t + 1) (by omega) (fun j hj => ?_)
          by_cases e : j = t
          · rw [e]; exact opx_ords N12 op
          · exact hok j (by omega)
        | succ c ihc =>
          intro x met hx hm op hb
          have i1 := idx t x (by omega) (by omega)
          refine bk_X12_cover_113 _ _ _ _ _ _ _ _ _ ⟨fun q => absurd q (le_f (by omega) (by omega)), fun _ => ⟨_, o1.f4, ?_⟩⟩
          rw [n96t]
          refine ⟨_, o1.il 37 768 (by decide) (by omega), ?_⟩
          rw [ag t x (by omega) (by omega)]
          refine rin0_ev (N := N) (by omega) rfl (fun q2 => ⟨_, rfl, fun _ => nok ?_, fun z => absurd rfl z⟩) (fun z hz e q2 => ⟨_, rfl, fun z => absurd z (by decide), fun _ => ?_⟩)
          · rintro ⟨P, p1, p2⟩
            have e := p2 x (by omega)
            have e : g (i' + t * N + x) = nI (P x) := e
            rw [e, ixI_s (p1.1 x (by omega)) (by omega)] at q2
            exact absurd q2 (by simp)
          · rw [e, get_bit (by omega) (by omega)]
            by_cases tb : met.testBit z = true
            · rw [if_pos tb]
              refine ⟨fun q => absurd rfl q, fun _ => nok ?_⟩
              obtain ⟨y, hy, ey, -⟩ := (hb z).mp tb
              rintro ⟨P, p1, p2⟩
              have e1 : g (i' + t * N + x) = nI (P x) := p2 x (by omega)
              have e2 : g (i' + t * N + y) = nI (P y) := p2 y (by omega)
              have l1 := p1.1 x (by omega)
              have l2 := p1.1 y (by omega)
              have := p1.2 x y (by omega) (by omega) (nI_inj (by omega) (by omega) (by rw [← e1, ← e2, e, ey]))
              omega
            · rw [if_neg tb]
              refine ⟨fun _ => ?_, fun q => absurd q (by decide)⟩
              rw [set_bit (by omega), nI_1]
              refine ihc (x + 1) (met ||| 2 ^ z) (by omega) (or_lt (k := 12) hm (by omega)) ⟨fun y hy => ?_, fun y y' hy hy' q => ?_⟩ (fun z' => ?_)
              · by_cases b : y = x
                · rw [b]; exact ⟨z, hz, e⟩
                · exact op.1 y (by omega)
              · have ne : ∀ y, y < x → g (i' + t * N + y) ≠ g (i' + t * N + x) := fun y hy q => tb ((hb z).mpr ⟨y, hy, by rw [q, e], hz⟩)
                by_cases b : y = x
                · by_cases b' : y' = x
                  · omega
                  · rw [b] at q
                    exact absurd q.symm (ne y' (by omega))
                · by_cases b' : y' = x
                  · rw [b'] at q
                    exact absurd q (ne y (by omega))
                  · exact op.2 y y' (by omega) (by omega) q
              · rw [tb_or, Bool.or_eq_true, decide_eq_true_eq, hb z']
                constructor
                · rintro (⟨y, hy, ey⟩ | q)
                  · exact ⟨y, by omega, ey⟩
                  · exact ⟨x, by omega, by rw [← q]; exact e, by omega⟩
                · rintro ⟨y, hy, ey, lz⟩
                  by_cases b : y = x
                  · right
                    rw [b, e] at ey
                    exact nI_inj (by omega) (by omega) ey
                  · exact Or.inl ⟨y, by omega, ey, lz⟩
      exact inner N 0 0 (by omega) (by decide) ⟨fun y hy => absurd hy (by omega), fun y y' hy => absurd hy (by omega)⟩ (fun z => ⟨fun q => absurd q (by simp), fun ⟨y, hy, _⟩ => absurd hy (by omega)⟩)
  exact chk (M - 1) 0 (by omega) (fun j hj => absurd hj (by omega))
end RefCover

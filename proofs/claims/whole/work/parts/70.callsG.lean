/-! calls that lay covers; the class -/
def tin (N : Nat) (f : Nat → Int32) (i : Nat) : Nat → Nat → Nat := fun j x => (f (i + j * N + x)).toNatClampNeg
def prd (t : Nat → Nat → Nat) : Nat → Nat → Nat
  | 0 => fun x => x
  | j + 1 => fun x => t j (prd t j x)
/-- the last one closes -/
def cvt (N K : Nat) (t : Nat → Nat → Nat) : Nat → Nat → Nat := ut t (K - 1) (iv (prd t (K - 1)) N)
noncomputable def opCover (st : AS) (x r i n k : Int32) : Int32 × AS := match ixI x 10 with
  | none => badO st
  | some p => match ixI r 8 with
    | none => badO st
    | some u => if n < 1 ∨ 12 < n ∨ k < 1 ∨ ¬ k ≤ 8 then badO st else if (st.1 u).1 = -1 then fndO st 1 else match hlI (st.1 u).2.1 i (n * (k - 1)) with
      | none => fndO st 2
      | some q => @ite _ (∀ j, j < k.toNatClampNeg - 1 → ords n.toNatClampNeg (fun x => (st.1 u).2.2 (q.1 + j * n.toNatClampNeg + x))) (Classical.propDecidable _) (shvO st p n.toNatClampNeg k.toNatClampNeg (cvt n.toNatClampNeg k.toNatClampNeg (tin n.toNatClampNeg (st.1 u).2.2 q.1))) (badO st)
def opPart (st : AS) (x y z : Int32) : Int32 × AS := match ixI x 10 with
  | none => badO st
  | some p => match ixI y 10 with
    | none => badO st
    | some q => match st.2.1 q with
      | none => fndO st 1
      | some c => match ixI z (pn c.1 c.2.1 c.2.2) with
        | none => badO st
        | some i => shvO st p (rk (pms c.1 c.2.1 c.2.2 i) c.1) c.2.1 (nrw c.1 (pms c.1 c.2.1 c.2.2 i) (fun i => i) c.2.2)
noncomputable def opName (st : AS) (x y : Int32) : Int32 × AS := match ixI x 10 with
  | none => badO st
  | some p => match ixI y 10 with
    | none => badO st
    | some q => match st.2.1 q with
      | none => fndO st 1
      | some c => if ¬ pn c.1 c.2.1 c.2.2 = 1 then fndO st 3 else shvO st p c.1 c.2.1 (fnd c.1 c.2.1 c.2.2 c.1).1
def opBetween (st : AS) (x y a b : Int32) : Int32 × AS := match ixI x 10 with
  | none => badO st
  | some p => match ixI y 10 with
    | none => badO st
    | some q => match st.2.1 q with
      | none => fndO st 1
      | some c => if ¬ pn c.1 c.2.1 c.2.2 = 1 then fndO st 3 else match ixI a c.1 with
        | none => badO st
        | some u => match ixI b c.1 with
          | none => badO st
          | some v => shvO st p (rk (bms c.1 (blk c.1 c.2.1 c.2.2 u v)) c.1) c.2.1 (nrw c.1 (bms c.1 (blk c.1 c.2.1 c.2.2 u v)) (blk c.1 c.2.1 c.2.2 u v) c.2.2)
def opBraid (st : AS) (x y j w : Int32) : Int32 × AS := match ixI x 10 with
  | none => badO st
  | some p => match ixI y 10 with
    | none => badO st
    | some q => if w < 0 ∨ ¬ w ≤ 1 then badO st else match st.2.1 q with
      | none => fndO st 1
      | some c => match ixI j (c.2.1 - 1) with
        | none => badO st
        | some i => shvO st p c.1 c.2.1 (if w = 0 then lfw c.1 c.2.2 i else lbk c.1 c.2.2 i)
def opTurn (st : AS) (x y w : Int32) : Int32 × AS := match ixI x 10 with
  | none => badO st
  | some p => match ixI y 10 with
    | none => badO st
    | some q => if w < 0 ∨ ¬ w ≤ 1 then badO st else match st.2.1 q with
      | none => fndO st 1
      | some c => if w = 0 then shvO st p c.1 c.2.1 (mir c.1 c.2.1 c.2.2) else if c.2.1 = 3 then shvO st p c.1 c.2.1 (lfw c.1 c.2.2 0) else fndO st 3
def opOver (st : AS) (x y z : Int32) : Int32 × AS := match ixI x 10 with
  | none => badO st
  | some p => match ixI y 10 with
    | none => badO st
    | some q => match ixI z 10 with
      | none => badO st
      | some r => match st.2.1 q with
        | none => fndO st 1
        | some c => match st.2.1 r with
          | none => fndO st 1
          | some e => if ¬ c.2.1 = e.2.1 then badO st else if ¬ c.1 * e.1 ≤ 12 then (-1000003, st) else shvO st p (c.1 * e.1) c.2.1 (ovr e.1 c.2.2 e.2.2)
theorem ords_congr {n : Nat} {f g : Nat → Int32} (h : ∀ x, x < n → f x = g x) (o : ords n f) : ords n g := by
  obtain ⟨p, h1, h2⟩ := o
  exact ⟨p, h1, fun i hi => by rw [← h i hi]; exact h2 i hi⟩
theorem ords_tin {n : Nat} {f : Nat → Int32} (hn : n ≤ 12) (o : ords n f) : pm n (fun x => (f x).toNatClampNeg) ∧ ∀ x, x < n → f x = nI (f x).toNatClampNeg := by
  obtain ⟨p, h1, h2⟩ := o
  have e : ∀ x, x < n → (f x).toNatClampNeg = p x := fun x hx => by
    have := h1.1 x hx
    rw [h2 x hx, nI_clamp (by omega)]
  exact ⟨pm_congr (fun i hi => (e i hi).symm) h1, fun x hx => by rw [e x hx]; exact h2 x hx⟩
theorem prd_pm {n : Nat} {t : Nat → Nat → Nat} : ∀ j, (∀ i, i < j → pm n (t i)) → pm n (prd t j)
  | 0, _ => pm_id n
  | j + 1, h => pm_comp (f := prd t j) (g := t j) (prd_pm j (fun i hi => h i (by omega))) (h j (by omega))
theorem mir_pm {n k : Nat} {t : Nat → Nat → Nat} (hk : 1 ≤ k) (hp : ∀ j, j < k → pm n (t j)) : ∀ j, j < k → pm n (mir n k t j) := fun j hj => pm_inv (hp _ (by omega))
theorem PK_m1 {n : Nat} {p : Nat → Nat} (hp : ∀ i, i < n → p i < 16) : ¬ PK n p = -1 := by
  intro e
  have h1 : pk (rs n p) < 281474976710656 := pq_lt (rs_lt (by decide) hp)
  have h2 : (lN (pk (rs n p))).toInt = (-1 : Int64).toInt := congrArg Int64.toInt e
  rw [pk_lT (by omega)] at h2
  have h3 : (-1 : Int64).toInt = -1 := by decide
  rw [h3] at h2
  omega
section CallsG
variable {d : Nat} {h : mH} {st : AS} {K : Option Value → mH → Prop} {b : Nat × Nat}
theorem CLs.ag0 {h' : mH} (c : CLs h st) (g : ag [] h h') : CLs h' st := c.en g (by simp) (c.2.2.2.2.1.ag g (by simp) c.2.2.2.2.2)
theorem nA_ag {k : Nat} {F : Nat → Int64} : ag [] h (nA h k F) := ⟨by show h.2 ≤ h.2 + 1; omega, fun x hx _ => nA_n (by omega)⟩
theorem shelve_nc {h0 h1 : mH} {p n k : Nat} {t : Nat → Nat → Nat} (c : CLs h st) (hN : NC h h1 n k t) (hp : p < 10) (n1 : 1 ≤ n) (n12 : n ≤ 12) (k1 : 1 ≤ k) (k8 : k ≤ 8) (prm : ∀ j, j < k → pm n (t j)) (hz : h.1 0 = h0.1 0) (hF : FC h0 h) (hs : h.2 = h0.2) (hK : ∀ h', CLs h' (shvO st p n k t).2 → FC h0 h' → h'.2 ≤ h0.2 + 2 → K (some (.int (shvO st p n k t).1)) h') : ∃ fs : List Value, h1.1 1 = .inr (10, fs) ∧ Ev (d + 1) (0, 0) MX11_shelve [.ref 1, .int (nI p), .ref (h.2 + 1)] h1 (fun r h' => ∃ x : Int32, r = some (.int x) ∧ (h'.1 0 = h0.1 0 ∧ K (some (.int x)) h')) := by
  have h57 := c.2.2.2.2.2
  have g := hN.ag
  have c1 := c.ag0 g
  refine ⟨_, c1.1, ?_⟩
  have s1 : h1.2 = h.2 + 2 := hN.1
  refine shelve_ev (a := h.2 + 1) (ta := h.2) c1 hp (by omega) (by omega) (by omega) (by omega) ⟨hN.2.2.2, hN.2.2.1, kcl_in n k t, n1, n12, k1, k8, prm⟩ (fun h' c' fc' f' => ⟨_, rfl, ?_, hK h' c' ((hF.tr (g.fc (by simp) h57)).tr fc') (by rw [f'.1]; omega)⟩)
  exact (f'.z (by decide)).trans ((hN.2.1 0 (by omega)).trans hz)
theorem c_cover {x r i n k : Int32} (c : CLs h st) (hb1 : 2 ≤ b.1) (hb2 : 11 ≤ b.2) (hK : ∀ h', CLs h' (opCover st x r i n k).2 → FC h h' → h'.2 ≤ h.2 + 2 → K (some (.int (opCover st x r i n k).1)) h') : Ev (d + 6) b MX11_cover [.ref 1, .int x, .int r, .int i, .int n, .int k] h K := by
  have h57 := c.2.2.2.2.2
  refine en_X11_cover (bk_X11_cover_0 _ _ _ _ _ _ ?_)
  have bad : opCover st x r i n k = badO st → h.1 0 = h.1 0 ∧ K (some (.int (-1000001))) h := fun e => by
    rw [e] at hK
    exact ⟨rfl, hK h c FC.rf (by omega)⟩
  have fnd' : ∀ {z : Int32}, opCover st x r i n k = fndO st z → Ev (d + 5) (0, 0) MX11_found [.ref 1, .int z] h (fun r h' => ∃ y : Int32, r = some (.int y) ∧ (h'.1 0 = h.1 0 ∧ K (some (.int y)) h')) := fun e => by
    rw [e] at hK
    exact found_ev c (fun h16 c16 fc16 f16 => ⟨_, rfl, f16.z (by decide), hK h16 c16 fc16 (by rw [f16.1]; omega)⟩)
  refine noPlace_ev (fun q => ⟨_, rfl, fun _ => bad ?_, fun w => absurd w (by decide)⟩) (fun p hp e => ⟨_, rfl, fun w => absurd rfl w, fun _ => ?_⟩)
  · unfold opCover; rw [ixI_n q]
  subst e
  refine noRow_ev (fun q => ⟨_, rfl, fun _ => bad ?_, fun w => absurd w (by decide)⟩) (fun u hu e => ⟨_, rfl, fun w => absurd rfl w, fun _ => ?_⟩)
  · unfold opCover; rw [ixI_s hp (by decide), ixI_n q]
  subst e
  have unf : opCover st (nI p) (nI u) i n k = if n < 1 ∨ 12 < n ∨ k < 1 ∨ ¬ k ≤ 8 then badO st else if (st.1 u).1 = -1 then fndO st 1 else match hlI (st.1 u).2.1 i (n * (k - 1)) with
      | none => fndO st 2
      | some q => @ite _ (∀ j, j < k.toNatClampNeg - 1 → ords n.toNatClampNeg (fun x => (st.1 u).2.2 (q.1 + j * n.toNatClampNeg + x))) (Classical.propDecidable _) (shvO st p n.toNatClampNeg k.toNatClampNeg (cvt n.toNatClampNeg k.toNatClampNeg (tin n.toNatClampNeg (st.1 u).2.2 q.1))) (badO st) := by
    unfold opCover
    rw [ixI_s hp (by decide), ixI_s hu (by decide)]
  refine ⟨fun w => bad (by rw [unf, if_pos (Or.inl w)]), fun w1 => ⟨fun w => bad (by rw [unf, if_pos (Or.inr (Or.inl w))]), fun w2 => ⟨fun w => bad (by rw [unf, if_pos (Or.inr (Or.inr (Or.inl w)))]), fun w3 => ⟨fun w4 => ⟨_, c.f0, Or.inr ⟨_, c.rw' hu, ?_⟩⟩, fun w => bad (by rw [unf, if_pos (Or.inr (Or.inr (Or.inr w)))])⟩⟩⟩⟩
  rw [if_neg (fun q => q.elim w1 (fun q => q.elim w2 (fun q => q.elim w3 (fun q => q w4))))] at unf
  have z1 : ∀ {y : Int32}, ¬ y < 1 → ¬ y < 0 := fun {y} w q => w (by rw [Int32.lt_iff_toInt_lt] at q ⊢; have : (0 : Int32).toInt = 0 := rfl; have : (1 : Int32).toInt = 1 := rfl; omega)
  obtain ⟨N, hN31, eN⟩ := nI_of (z1 w1)
  obtain ⟨M, hM31, eM⟩ := nI_of (z1 w3)
  subst eN
  subst eM
  have N1 : 1 ≤ N := by
    rcases Nat.lt_or_ge N 1 with q | q
    · exact absurd (lt_t (b := 1) q (by decide)) w1
    · exact q
  have N12 : N ≤ 12 := by
    rcases Nat.lt_or_ge 12 N with q | q
    · exact absurd (lt_t (a := 12) q (by omega)) w2
    · exact q
  have M1 : 1 ≤ M := by
    rcases Nat.lt_or_ge M 1 with q | q
    · exact absurd (lt_t (b := 1) q (by decide)) w3
    · exact q
  have M8 : M ≤ 8 := (nI_leI (b := 8) (by omega) (by decide)).mp w4
  rw [nI_m1 M1, pk_mul, nI_clamp hN31, nI_clamp hM31] at unf
  rw [nI_m1 M1, pk_mul]
  obtain ⟨g, o, hg⟩ := c.ro hu
  refine ⟨_, o.1, ?_⟩
  refine missing_ev o (fun w => ⟨_, rfl, fun w => absurd w (by decide), fun _ => ⟨_, c.1, fnd' (by rw [unf, if_pos w])⟩⟩) (fun w => ⟨_, rfl, fun _ => ⟨_, o.1, ?_⟩, fun w => absurd rfl w⟩)
  rw [if_neg w] at unf
  have o96 := o.2.2.1
  refine holds_ev o (fun i' m' e1 e2 e3 => ⟨_, rfl, fun _ => ⟨M, nI_pos (by omega), nI_clamp (by omega), by omega, by omega, by omega, fun h19 e19 => ?_⟩, fun w => absurd w (by decide)⟩) (fun hno => ⟨_, rfl, fun w => absurd rfl w, fun _ => ⟨_, c.1, fnd' (by rw [unf, hlI_n hno])⟩⟩)
  subst e1
  have hNM : N * (M - 1) ≤ 12 * 7 := Nat.mul_le_mul N12 (by omega)
  have e2 := nI_inj (by omega) (by omega) e2
  subst e2
  rw [hlI_s e3 (by omega)] at unf
  simp only at unf
  have e19 : h19 = nA h M (fun _ => 0) := e19
  subst e19
  refine still_ev N12 ⟨_, rfl, ?_⟩
  obtain ⟨t, ht⟩ : ∃ t, t = tin N (st.1 u).2.2 i' := ⟨_, rfl⟩
  rw [← ht] at unf
  have key : ∀ r j F, j + r = M - 1 → (∀ e, e < j → ords N (fun x => (st.1 u).2.2 (i' + e * N + x))) → (∀ e, e < j → F e = PK N (t e)) → Wm (d + 5 + 1) (b.1 - 1, b.2 - M) JX11_cover 103 [some (.ref 1), some (.int (nI p)), none, some (.int (nI i')), some (.int (nI N)), some (.int (nI M)), some (.ref (3 + 2 * u)), some (.ref h.2), some (.long (PK N (prd t j))), none, some (.int (nI j))] [] (nA h M F) (fun r h' => h'.1 0 = h.1 0 ∧ K r h') := by
    intro r
    induction r with
    | zero =>
      intro j F hj hq hF
      have ej : j = M - 1 := by omega
      subst ej
      have pmt : ∀ e, e < M - 1 → pm N (t e) := fun e he => by rw [ht]; exact (ords_tin N12 (hq e he)).1
      have pmc : ∀ e, e < M → pm N (cvt N M t e) := fun e he => by
        unfold cvt ut
        split
        · exact pm_inv (prd_pm (M - 1) pmt)
        · exact pmt e (by omega)
      refine bk_X11_cover_103 _ _ _ _ _ _ _ _ _ ⟨fun _ => ?_, fun w => absurd ?_ w⟩
      · rw [nI_m1 M1]
        refine inverse_ev N12 (prd_pm (M - 1) pmt) ⟨_, rfl, _, nA_ls (by omega) (by omega), (1, 3), by show 1 ≤ b.1 - 1; omega, by show 3 ≤ b.2 - M; omega, ?_⟩
        refine of_nA (t := cvt N M t) (by omega) N1 N12 M8 (fun e he => ?_) (fun e he => (pmc e he).1) (fun h' hNC => ⟨_, rfl, ?_⟩)
        · by_cases w : e = M - 1
          · simp [vp_updL, w, cvt, ut]
          · simp [vp_updL, w, cvt, ut, hF e (by omega)]
        · rw [if_pos hq] at unf
          rw [unf] at hK
          exact shelve_nc c hNC hp N1 N12 M1 M8 pmc rfl FC.rf rfl hK
      · rw [nI_m1 M1]
        exact le_t (Nat.le_refl _) (by omega)
    | succ r ih =>
      intro j F hj hq hF
      have hjN : j * N + N ≤ N * (M - 1) := by
        have : (j + 1) * N ≤ (M - 1) * N := Nat.mul_le_mul_right _ (by omega)
        rw [Nat.add_mul, Nat.one_mul] at this
        rw [Nat.mul_comm N]
        exact this
      have oA : RO (nA h M F) (3 + 2 * u) (4 + 2 * u) (st.1 u).1 (st.1 u).2.1 g 96 := ⟨(nA_n (by omega)).trans o.1, (nA_n (by omega)).trans o.2.1, o.2.2⟩
      refine bk_X11_cover_103 _ _ _ _ _ _ _ _ _ ⟨fun w => absurd w ?_, fun _ => ⟨_, oA.1, ?_⟩⟩
      · rw [nI_m1 M1]
        exact le_f (by omega) (by omega)
      rw [pk_mul, nI_add]
      have cg : ∀ x, x < N → g (i' + j * N + x) = (st.1 u).2.2 (i' + j * N + x) := fun x hx => hg _ (by omega)
      refine orderFrom_ev N12 oA (by omega) (fun q pq eq => ⟨_, rfl, _, nA_ls (by omega) (by omega), _, ll_at nA_s (by omega) (by omega), ?_⟩) (fun hno => ⟨_, rfl, _, nA_ls (by omega) (by omega), _, ll_at nA_s (by omega) (by omega), fun w => absurd ?_ w, fun _ => ⟨nA_n (by omega), ?_⟩⟩)
      · rw [pk_uLs]
        have q16 : ∀ i, i < N → q i < 16 := fun i hi => by have := pq.1 i hi; omega
        have pmt : ∀ e, e < j → pm N (t e) := fun e he => by rw [ht]; exact (ords_tin N12 (hq e he)).1
        refine ⟨fun _ => ⟨_, ll_at nA_s (by omega) (by omega), ?_⟩, fun w => absurd (cmp_z.mp w) (PK_m1 q16)⟩
        rw [pk_uLs]
        refine behind_ev N12 (prd_pm j pmt).1 q16 ⟨_, rfl, ?_⟩
        have etq : ∀ x, x < N → q x = t j x := fun x hx => by
          have := pq.1 x hx
          rw [ht]
          show q x = ((st.1 u).2.2 (i' + j * N + x)).toNatClampNeg
          rw [← cg x hx, eq x hx, nI_clamp (by omega)]
        rw [nI_1, show PK N (fun i => q (prd t j i)) = PK N (prd t (j + 1)) from PK_congr (fun i hi => etq _ ((prd_pm j pmt).1 i hi))]
        refine ih (j + 1) _ (by omega) (fun e he => ?_) (fun e he => ?_)
        · by_cases w : e = j
          · rw [w]
            exact ⟨q, pq, fun x hx => (cg x hx).symm.trans (eq x hx)⟩
          · exact hq e (by omega)
        · by_cases w : e = j
          · rw [w, pk_uLs]
            exact PK_congr etq
          · rw [pk_uLn w]
            exact hF e (by omega)
      · rw [pk_uLs]
        exact cmp_z.mpr rfl
      · rw [unf, if_neg (fun q => hno (ords_congr (fun x hx => (cg x hx).symm) (q j (by omega))))] at hK
        exact hK _ (c.ag0 nA_ag) (nA_ag.fc (by simp) h57) (by show h.2 + 1 ≤ _; omega)
  exact key (M - 1) 0 _ (by omega) (fun e he => absurd he (by omega)) (fun e he => absurd he (by omega))
theorem c_part {x y z : Int32} (c : CLs h st) (hb1 : 2 ≤ b.1) (hb2 : 11 ≤ b.2) (hK : ∀ h', CLs h' (opPart st x y z).2 → FC h h' → h'.2 ≤ h.2 + 2 → K (some (.int (opPart st x y z).1)) h') : Ev (d + 7) b MX11_part [.ref 1, .int x, .int y, .int z] h K := by
  have h57 := c.2.2.2.2.2
  refine en_X11_part (bk_X11_part_0 _ _ _ _ ?_)
  have bad : opPart st x y z = badO st → h.1 0 = h.1 0 ∧ K (some (.int (-1000001))) h := fun e => by
    rw [e] at hK
    exact ⟨rfl, hK h c FC.rf (by omega)⟩
  refine noPlace_ev (fun q => ⟨_, rfl, fun _ => bad ?_, fun w => absurd w (by decide)⟩) (fun p hp e => ⟨_, rfl, fun w => absurd rfl w, fun _ => ?_⟩)
  · unfold opPart; rw [ixI_n q]
  subst e
  refine noPlace_ev (fun q => ⟨_, rfl, fun w => absurd w (by decide), fun _ => bad ?_⟩) (fun p' hp' e => ⟨_, rfl, fun _ => ⟨_, c.f1, ?_⟩, fun w => absurd rfl w⟩)
  · unfold opPart; rw [ixI_s hp (by decide), ixI_n q]
  subst e
  have unf : opPart st (nI p) (nI p') z = match st.2.1 p' with
      | none => fndO st 1
      | some c => match ixI z (pn c.1 c.2.1 c.2.2) with
        | none => badO st
        | some i => shvO st p (rk (pms c.1 c.2.1 c.2.2 i) c.1) c.2.1 (nrw c.1 (pms c.1 c.2.1 c.2.2 i) (fun i => i) c.2.2) := by
    unfold opPart
    rw [ixI_s hp (by decide), ixI_s hp' (by decide)]
  cases hc : st.2.1 p' with
  | none =>
    rw [hc] at unf
    rw [unf] at hK
    exact Or.inl ⟨c.no hp' hc, _, c.1, found_ev c (fun h16 c16 fc16 f16 => ⟨_, rfl, f16.z (by decide), hK h16 c16 fc16 (by rw [f16.1]; omega)⟩)⟩
  | some v =>
    obtain ⟨n, k, t⟩ := v
    rw [hc] at unf
    simp only at unf
    obtain ⟨a, ta, q, g1, g2, g3, g4, co⟩ := c.cv hp' hc
    have hn := co.n12
    have hk := co.k8
    have hpn := pn_le n k t
    refine Or.inr ⟨a, q, fun w => bad (by rw [unf, ixI_n (Or.inl w)]), fun w1 => ⟨_, co.fp, fun w2 => ?_, fun w => bad (by rw [unf, ixI_n (Or.inr w)])⟩⟩
    obtain ⟨i, hi, e⟩ := ixI_of (by omega) w1 w2
    subst e
    rw [ixI_s hi (by omega)] at unf
    rw [unf] at hK
    obtain ⟨ok1, ok2⟩ := part_ok co.prm (p := i)
    refine ⟨b, Nat.le_refl _, Nat.le_refl _, _, _, co.1, co.2.2.1, ?_⟩
    refine partAlone_ev co g2 g4 (by omega) hb1 (by omega) (ok1 hi) (fun j hj => (ok2 j hj).1) (fun h' hN => ⟨_, rfl, ?_⟩)
    exact shelve_nc c hN hp (ok1 hi) (Nat.le_trans (cn_le _ _) hn) co.k1 hk ok2 rfl FC.rf rfl hK
theorem c_name {x y : Int32} (c : CLs h st) (hb1 : 2 ≤ b.1) (hb2 : 11 ≤ b.2) (hK : ∀ h', CLs h' (opName st x y).2 → FC h h' → h'.2 ≤ h.2 + 2 → K (some (.int (opName st x y).1)) h') : Ev (d + 7) b MX11_name [.ref 1, .int x, .int y] h K := by
  have h57 := c.2.2.2.2.2
  refine en_X11_name (bk_X11_name_0 _ _ _ ?_)
  have bad : opName st x y = badO st → h.1 0 = h.1 0 ∧ K (some (.int (-1000001))) h := fun e => by
    rw [e] at hK
    exact ⟨rfl, hK h c FC.rf (by omega)⟩
  have fnd' : ∀ {z : Int32}, opName st x y = fndO st z → Ev (d + 6) (0, 0) MX11_found [.ref 1, .int z] h (fun r h' => ∃ y : Int32, r = some (.int y) ∧ (h'.1 0 = h.1 0 ∧ K (some (.int y)) h')) := fun e => by
    rw [e] at hK
    exact found_ev c (fun h16 c16 fc16 f16 => ⟨_, rfl, f16.z (by decide), hK h16 c16 fc16 (by rw [f16.1]; omega)⟩)
  refine noPlace_ev (fun q => ⟨_, rfl, fun _ => bad ?_, fun w => absurd w (by decide)⟩) (fun p hp e => ⟨_, rfl, fun w => absurd rfl w, fun _ => ?_⟩)
  · unfold opName; rw [ixI_n q]
  subst e
  refine noPlace_ev (fun q => ⟨_, rfl, fun w => absurd w (by decide), fun _ => bad ?_⟩) (fun p' hp' e => ⟨_, rfl, fun _ => ⟨_, c.f1, ?_⟩, fun w => absurd rfl w⟩)
  · unfold opName; rw [ixI_s hp (by decide), ixI_n q]
  subst e
  have unf : opName st (nI p) (nI p') = match st.2.1 p' with
      | none => fndO st 1
      | some c => if ¬ pn c.1 c.2.1 c.2.2 = 1 then fndO st 3 else shvO st p c.1 c.2.1 (fnd c.1 c.2.1 c.2.2 c.1).1 := by
    unfold opName
    rw [ixI_s hp (by decide), ixI_s hp' (by decide)]
  cases hc : st.2.1 p' with
  | none =>
    rw [hc] at unf
    exact Or.inl ⟨c.no hp' hc, _, c.1, fnd' unf⟩
  | some v =>
    obtain ⟨n, k, t⟩ := v
    rw [hc] at unf
    simp only at unf
    obtain ⟨a, ta, q, g1, g2, g3, g4, co⟩ := c.cv hp' hc
    have hn := co.n12
    have hk := co.k8
    have hpn := pn_le n k t
    refine Or.inr ⟨a, q, _, _, co.1, co.2.2.1, ?_⟩
    refine whole_ev co (fun w => ⟨_, rfl, fun w => absurd rfl w, fun _ => ⟨_, c.1, fnd' (by rw [unf, if_pos (fun e => w (by rw [e]; rfl))])⟩⟩) (fun w => ⟨_, rfl, fun _ => ⟨_, c.f3, _, co.ft, _, co.fn, ?_⟩, fun w => absurd w (by decide)⟩)
    have w : pn n k t = 1 := nI_inj (b := 1) (by omega) (by decide) w
    rw [if_neg (fun q => q w)] at unf
    rw [unf] at hK
    have hw := whe_whl co.prm ((pn_one co.n1 co.lt).mp w)
    obtain ⟨⟨lk, nw, od, lf, oN, oL⟩, -⟩ := c.2.2.2.2.1
    refine ⟨_, oN, ?_⟩
    refine find_ev (d := d + 2) (by decide) (by decide) (by decide) (by omega) (by omega) co.n1 hn co.k1 hk co.prm hw co.2.1 oN oL (fun h1 f1 n1 => ⟨rfl, ?_⟩)
    obtain ⟨nw1, od1, lf1, oN1, oL1, e1⟩ := n1
    have c1 : CLs h1 st := c.nam f1.ag (by simp) ⟨_, _, _, _, oN1, oL1⟩
    have co1 : CO h1 a ta (kcl n k t) n k t (pn n k t) := co.fr f1 (nm_ge (by decide) g1) (nm_ge (by decide) g3)
    have h1s : h1.2 = h.2 := f1.1
    refine ⟨_, co1.fn, _, c1.f3, _, oN1.fe, _, co1.ft, _, co1.2.1.len, (1, k), by show 1 ≤ b.1; omega, by show k ≤ b.2; omega, ?_⟩
    refine copyOf_ev (d := d + 5) (m := 8) (by omega) (by omega) oL1 hk (by decide) (Nat.le_refl _) (Nat.le_refl _) (fun F hF => ⟨_, rfl, (1, 3), by show 1 ≤ b.1 - 1; omega, by show 3 ≤ b.2 - k; omega, ?_⟩)
    have pmf := fnd_pm (s := n) co.n1 (Nat.le_refl _) co.prm hw
    refine of_nA (d := d + 1) (t := (fnd n k t n).1) (by omega) co.n1 hn hk (fun j hj => by rw [hF j hj, e1 j hj]) (fun j hj => (pmf j hj).1) (fun h' hNC => ⟨_, rfl, ?_⟩)
    exact shelve_nc (h0 := h) c1 hNC hp co.n1 hn co.k1 hk pmf (f1.z (by decide)) (f1.ag.fc (by simp) h57) h1s hK
theorem c_between {x y u v : Int32} (c : CLs h st) (hb1 : 2 ≤ b.1) (hb2 : 11 ≤ b.2) (hK : ∀ h', CLs h' (opBetween st x y u v).2 → FC h h' → h'.2 ≤ h.2 + 2 → K (some (.int (opBetween st x y u v).1)) h') : Ev (d + 7) b MX11_between [.ref 1, .int x, .int y, .int u, .int v] h K := by
  have h57 := c.2.2.2.2.2
  refine en_X11_between (bk_X11_between_0 _ _ _ _ _ ?_)
  have bad : opBetween st x y u v = badO st → h.1 0 = h.1 0 ∧ K (some (.int (-1000001))) h := fun e => by
    rw [e] at hK
    exact ⟨rfl, hK h c FC.rf (by omega)⟩
  have fnd' : ∀ {z : Int32}, opBetween st x y u v = fndO st z → Ev (d + 6) (0, 0) MX11_found [.ref 1, .int z] h (fun r h' => ∃ y : Int32, r = some (.int y) ∧ (h'.1 0 = h.1 0 ∧ K (some (.int y)) h')) := fun e => by
    rw [e] at hK
    exact found_ev c (fun h16 c16 fc16 f16 => ⟨_, rfl, f16.z (by decide), hK h16 c16 fc16 (by rw [f16.1]; omega)⟩)
  refine noPlace_ev (fun q => ⟨_, rfl, fun _ => bad ?_, fun w => absurd w (by decide)⟩) (fun p hp e => ⟨_, rfl, fun w => absurd rfl w, fun _ => ?_⟩)
  · unfold opBetween; rw [ixI_n q]
  subst e
  refine noPlace_ev (fun q => ⟨_, rfl, fun w => absurd w (by decide), fun _ => bad ?_⟩) (fun p' hp' e => ⟨_, rfl, fun _ => ⟨_, c.f1, ?_⟩, fun w => absurd rfl w⟩)
  · unfold opBetween; rw [ixI_s hp (by decide), ixI_n q]
  subst e
  have unf : opBetween st (nI p) (nI p') u v = match st.2.1 p' with
      | none => fndO st 1
      | some c => if ¬ pn c.1 c.2.1 c.2.2 = 1 then fndO st 3 else match ixI u c.1 with
        | none => badO st
        | some u => match ixI v c.1 with
          | none => badO st
          | some v => shvO st p (rk (bms c.1 (blk c.1 c.2.1 c.2.2 u v)) c.1) c.2.1 (nrw c.1 (bms c.1 (blk c.1 c.2.1 c.2.2 u v)) (blk c.1 c.2.1 c.2.2 u v) c.2.2) := by
    unfold opBetween
    rw [ixI_s hp (by decide), ixI_s hp' (by decide)]
  cases hc : st.2.1 p' with
  | none =>
    rw [hc] at unf
    exact Or.inl ⟨c.no hp' hc, _, c.1, fnd' unf⟩
  | some v' =>
    obtain ⟨n, k, t⟩ := v'
    rw [hc] at unf
    simp only at unf
    obtain ⟨a, ta, q, g1, g2, g3, g4, co⟩ := c.cv hp' hc
    have hn := co.n12
    have hk := co.k8
    have hpn := pn_le n k t
    refine Or.inr ⟨a, q, _, _, co.1, co.2.2.1, ?_⟩
    refine whole_ev co (fun w => ⟨_, rfl, fun w => absurd rfl w, fun _ => ⟨_, c.1, fnd' (by rw [unf, if_pos (fun e => w (by rw [e]; rfl))])⟩⟩) (fun w => ⟨_, rfl, fun _ => ⟨_, _, co.1, co.2.2.1, ?_⟩, fun w => absurd w (by decide)⟩)
    have w : pn n k t = 1 := nI_inj (b := 1) (by omega) (by decide) w
    rw [if_neg (fun q => q w)] at unf
    refine noSheet_ev co (fun w => ⟨_, rfl, fun _ => bad (by rw [unf, ixI_n w]), fun w => absurd w (by decide)⟩) (fun w3 w4 => ⟨_, rfl, fun w => absurd rfl w, fun _ => ⟨_, _, co.1, co.2.2.1, ?_⟩⟩)
    obtain ⟨u', hu, e⟩ := ixI_of (by omega) w3 w4
    subst e
    rw [ixI_s hu (by omega)] at unf
    simp only at unf
    refine noSheet_ev co (fun w => ⟨_, rfl, fun w => absurd w (by decide), fun _ => bad (by rw [unf, ixI_n w])⟩) (fun w5 w6 => ⟨_, rfl, fun _ => ⟨b, Nat.le_refl _, Nat.le_refl _, _, _, co.1, co.2.2.1, ?_⟩, fun w => absurd rfl w⟩)
    obtain ⟨v', hv, e⟩ := ixI_of (by omega) w5 w6
    subst e
    rw [ixI_s hv (by omega)] at unf
    rw [unf] at hK
    obtain ⟨ok1, ok2⟩ := blk_ok co.prm hu hv
    refine ofBlocks_ev co g2 g4 hu hv hb1 (by omega) ok1 (fun j hj => (ok2 j hj).1) (fun h' hN => ⟨_, rfl, ?_⟩)
    exact shelve_nc c hN hp ok1 (Nat.le_trans (cn_le _ _) hn) co.k1 hk ok2 rfl FC.rf rfl hK
theorem c_braid {x y j w : Int32} (c : CLs h st) (hb1 : 2 ≤ b.1) (hb2 : 11 ≤ b.2) (hK : ∀ h', CLs h' (opBraid st x y j w).2 → FC h h' → h'.2 ≤ h.2 + 2 → K (some (.int (opBraid st x y j w).1)) h') : Ev (d + 7) b MX11_braid [.ref 1, .int x, .int y, .int j, .int w] h K := by
  have h57 := c.2.2.2.2.2
  refine en_X11_braid (bk_X11_braid_0 _ _ _ _ _ ?_)
  have bad : opBraid st x y j w = badO st → h.1 0 = h.1 0 ∧ K (some (.int (-1000001))) h := fun e => by
    rw [e] at hK
    exact ⟨rfl, hK h c FC.rf (by omega)⟩
  refine noPlace_ev (fun q => ⟨_, rfl, fun _ => bad ?_, fun w => absurd w (by decide)⟩) (fun p hp e => ⟨_, rfl, fun w => absurd rfl w, fun _ => ?_⟩)
  · unfold opBraid; rw [ixI_n q]
  subst e
  refine noPlace_ev (fun q => ⟨_, rfl, fun _ => bad ?_, fun w => absurd w (by decide)⟩) (fun p' hp' e => ⟨_, rfl, fun w => absurd rfl w, fun _ => ?_⟩)
  · unfold opBraid; rw [ixI_s hp (by decide), ixI_n q]
  subst e
  have unf : opBraid st (nI p) (nI p') j w = if w < 0 ∨ ¬ w ≤ 1 then badO st else match st.2.1 p' with
      | none => fndO st 1
      | some c => match ixI j (c.2.1 - 1) with
        | none => badO st
        | some i => shvO st p c.1 c.2.1 (if w = 0 then lfw c.1 c.2.2 i else lbk c.1 c.2.2 i) := by
    unfold opBraid
    rw [ixI_s hp (by decide), ixI_s hp' (by decide)]
  refine ⟨fun q => bad (by rw [unf, if_pos (Or.inl q)]), fun w1 => ⟨fun w2 => ⟨_, c.f1, ?_⟩, fun q => bad (by rw [unf, if_pos (Or.inr q)])⟩⟩
  rw [if_neg (fun q => q.elim w1 (fun q => q w2))] at unf
  cases hc : st.2.1 p' with
  | none =>
    rw [hc] at unf
    rw [unf] at hK
    exact Or.inl ⟨c.no hp' hc, _, c.1, found_ev c (fun h16 c16 fc16 f16 => ⟨_, rfl, f16.z (by decide), hK h16 c16 fc16 (by rw [f16.1]; omega)⟩)⟩
  | some v =>
    obtain ⟨n, k, t⟩ := v
    rw [hc] at unf
    simp only at unf
    obtain ⟨a, ta, q, g1, g2, g3, g4, co⟩ := c.cv hp' hc
    have hn := co.n12
    have hk := co.k8
    refine Or.inr ⟨a, q, fun w => bad (by rw [unf, ixI_n (Or.inl w)]), fun w3 => ⟨_, co.ft, _, co.2.1.len, ?_⟩⟩
    rw [nI_m1 co.k1]
    refine ⟨fun w4 => ?_, fun w => bad (by rw [unf, ixI_n (Or.inr w)])⟩
    obtain ⟨i, hi, e⟩ := ixI_of (by omega) w3 w4
    subst e
    rw [ixI_s hi (by omega)] at unf
    simp only at unf
    rw [unf] at hK
    refine ⟨fun w5 => ⟨b, Nat.le_refl _, Nat.le_refl _, _, _, co.1, co.2.2.1, ?_⟩, fun w5 => ⟨b, Nat.le_refl _, Nat.le_refl _, _, _, co.1, co.2.2.1, ?_⟩⟩
    · rw [if_neg w5] at hK
      refine ledPast_ev (u := lbk n t i) co g2 g4 (by omega) hb1 (by omega) (by rw [if_pos rfl]) (fun h' hN => ⟨_, rfl, ?_⟩)
      exact shelve_nc c hN hp co.n1 hn co.k1 hk (lbk_pm co.prm (by omega)) rfl FC.rf rfl hK
    · rw [if_pos w5] at hK
      refine ledPast_ev (u := lfw n t i) co g2 g4 (by omega) hb1 (by omega) (by rw [if_neg (by decide)]) (fun h' hN => ⟨_, rfl, ?_⟩)
      exact shelve_nc c hN hp co.n1 hn co.k1 hk (lfw_pm co.prm (by omega)) rfl FC.rf rfl hK
theorem isa3 {n k : Nat} {t : Nat → Nat → Nat} : m_isa (kcl n k t) 9 = true ↔ k = 3 := by
  have h := kcl_in n k t
  simp only [List.mem_cons, List.not_mem_nil, or_false] at h
  rcases h with e | e | e | e | e
  · have := kcl_k (n := n) (k := k) (t := t) (Or.inl e)
    rw [e]
    exact ⟨fun _ => this, fun _ => by decide⟩
  · have := kcl_k8 (n := n) (k := k) (t := t) (Or.inl e)
    rw [e]
    exact ⟨fun q => absurd q (by decide), fun q => absurd q this⟩
  · have := kcl_k (n := n) (k := k) (t := t) (Or.inr (Or.inl e))
    rw [e]
    exact ⟨fun _ => this, fun _ => by decide⟩
  · have := kcl_k8 (n := n) (k := k) (t := t) (Or.inr e)
    rw [e]
    exact ⟨fun q => absurd q (by decide), fun q => absurd q this⟩
  · have := kcl_k (n := n) (k := k) (t := t) (Or.inr (Or.inr e))
    rw [e]
    exact ⟨fun _ => this, fun _ => by decide⟩
theorem c_turn {x y w : Int32} (c : CLs h st) (hb1 : 2 ≤ b.1) (hb2 : 11 ≤ b.2) (hK : ∀ h', CLs h' (opTurn st x y w).2 → FC h h' → h'.2 ≤ h.2 + 2 → K (some (.int (opTurn st x y w).1)) h') : Ev (d + 7) b MX11_turn [.ref 1, .int x, .int y, .int w] h K := by
  have h57 := c.2.2.2.2.2
  refine en_X11_turn (bk_X11_turn_0 _ _ _ _ ?_)
  have bad : opTurn st x y w = badO st → h.1 0 = h.1 0 ∧ K (some (.int (-1000001))) h := fun e => by
    rw [e] at hK
    exact ⟨rfl, hK h c FC.rf (by omega)⟩
  have fnd' : ∀ {z : Int32}, opTurn st x y w = fndO st z → Ev (d + 6) (0, 0) MX11_found [.ref 1, .int z] h (fun r h' => ∃ y : Int32, r = some (.int y) ∧ (h'.1 0 = h.1 0 ∧ K (some (.int y)) h')) := fun e => by
    rw [e] at hK
    exact found_ev c (fun h16 c16 fc16 f16 => ⟨_, rfl, f16.z (by decide), hK h16 c16 fc16 (by rw [f16.1]; omega)⟩)
  refine noPlace_ev (fun q => ⟨_, rfl, fun _ => bad ?_, fun w => absurd w (by decide)⟩) (fun p hp e => ⟨_, rfl, fun w => absurd rfl w, fun _ => ?_⟩)
  · unfold opTurn; rw [ixI_n q]
  subst e
  refine noPlace_ev (fun q => ⟨_, rfl, fun _ => bad ?_, fun w => absurd w (by decide)⟩) (fun p' hp' e => ⟨_, rfl, fun w => absurd rfl w, fun _ => ?_⟩)
  · unfold opTurn; rw [ixI_s hp (by decide), ixI_n q]
  subst e
  have unf : opTurn st (nI p) (nI p') w = if w < 0 ∨ ¬ w ≤ 1 then badO st else match st.2.1 p' with
      | none => fndO st 1
      | some c => if w = 0 then shvO st p c.1 c.2.1 (mir c.1 c.2.1 c.2.2) else if c.2.1 = 3 then shvO st p c.1 c.2.1 (lfw c.1 c.2.2 0) else fndO st 3 := by
    unfold opTurn
    rw [ixI_s hp (by decide), ixI_s hp' (by decide)]
  refine ⟨fun q => bad (by rw [unf, if_pos (Or.inl q)]), fun w1 => ⟨fun w2 => ⟨_, c.f1, ?_⟩, fun q => bad (by rw [unf, if_pos (Or.inr q)])⟩⟩
  rw [if_neg (fun q => q.elim w1 (fun q => q w2))] at unf
  cases hc : st.2.1 p' with
  | none =>
    rw [hc] at unf
    exact Or.inl ⟨c.no hp' hc, _, c.1, fnd' unf⟩
  | some v =>
    obtain ⟨n, k, t⟩ := v
    rw [hc] at unf
    simp only at unf
    obtain ⟨a, ta, q, g1, g2, g3, g4, co⟩ := c.cv hp' hc
    have hn := co.n12
    have hk := co.k8
    refine Or.inr ⟨a, q, fun w5 => ⟨_, _, co.1, co.2.2.1, fun w6 => ?_, fun w6 => ?_⟩, fun w5 => ⟨b, Nat.le_refl _, Nat.le_refl _, _, _, co.1, co.2.2.1, ?_⟩⟩
    · rw [if_neg w5] at unf
      have k3 : k = 3 := by
        apply isa3.mp
        apply Classical.byContradiction
        intro q
        rw [if_neg q] at w6
        exact w6 rfl
      rw [if_pos k3] at unf
      rw [unf] at hK
      refine ⟨b, Nat.le_refl _, Nat.le_refl _, _, _, co.1, co.2.2.1, ?_⟩
      refine ledPast_ev (j := 0) (u := lfw n t 0) co g2 g4 (by omega) hb1 (by omega) (by rw [if_neg (by decide)]) (fun h' hN => ⟨_, rfl, ?_⟩)
      exact shelve_nc c hN hp co.n1 hn co.k1 hk (lfw_pm co.prm (by omega)) rfl FC.rf rfl hK
    · rw [if_neg w5] at unf
      have k3 : ¬ k = 3 := by
        intro q
        rw [if_pos (isa3.mpr q)] at w6
        exact absurd w6 (by decide)
      rw [if_neg k3] at unf
      exact ⟨_, c.1, fnd' unf⟩
    · rw [if_pos w5] at unf
      rw [unf] at hK
      refine mirror_ev co g2 g4 hb1 (by omega) (fun h' hN => ⟨_, rfl, ?_⟩)
      exact shelve_nc c hN hp co.n1 hn co.k1 hk (mir_pm co.k1 co.prm) rfl FC.rf rfl hK
theorem c_over {x y z : Int32} (c : CLs h st) (hb1 : 2 ≤ b.1) (hb2 : 11 ≤ b.2) (hK : ∀ h', CLs h' (opOver st x y z).2 → FC h h' → h'.2 ≤ h.2 + 2 → K (some (.int (opOver st x y z).1)) h') : Ev (d + 7) b MX11_over [.ref 1, .int x, .int y, .int z] h K := by
  have h57 := c.2.2.2.2.2
  refine en_X11_over (bk_X11_over_0 _ _ _ _ ?_)
  have bad : opOver st x y z = badO st → h.1 0 = h.1 0 ∧ K (some (.int (-1000001))) h := fun e => by
    rw [e] at hK
    exact ⟨rfl, hK h c FC.rf (by omega)⟩
  have fnd' : ∀ {w : Int32}, opOver st x y z = fndO st w → Ev (d + 6) (0, 0) MX11_found [.ref 1, .int w] h (fun r h' => ∃ y : Int32, r = some (.int y) ∧ (h'.1 0 = h.1 0 ∧ K (some (.int y)) h')) := fun e => by
    rw [e] at hK
    exact found_ev c (fun h16 c16 fc16 f16 => ⟨_, rfl, f16.z (by decide), hK h16 c16 fc16 (by rw [f16.1]; omega)⟩)
  refine noPlace_ev (fun q => ⟨_, rfl, fun _ => bad ?_, fun w => absurd w (by decide)⟩) (fun p hp e => ⟨_, rfl, fun w => absurd rfl w, fun _ => ?_⟩)
  · unfold opOver; rw [ixI_n q]
  subst e
  refine noPlace_ev (fun q => ⟨_, rfl, fun _ => bad ?_, fun w => absurd w (by decide)⟩) (fun p' hp' e => ⟨_, rfl, fun w => absurd rfl w, fun _ => ?_⟩)
  · unfold opOver; rw [ixI_s hp (by decide), ixI_n q]
  subst e
  refine noPlace_ev (fun q => ⟨_, rfl, fun w => absurd w (by decide), fun _ => bad ?_⟩) (fun p2 hp2 e => ⟨_, rfl, fun _ => ⟨_, c.f1, ?_⟩, fun w => absurd rfl w⟩)
  · unfold opOver; rw [ixI_s hp (by decide), ixI_s hp' (by decide), ixI_n q]
  subst e
  have unf : opOver st (nI p) (nI p') (nI p2) = match st.2.1 p' with
        | none => fndO st 1
        | some c => match st.2.1 p2 with
          | none => fndO st 1
          | some e => if ¬ c.2.1 = e.2.1 then badO st else if ¬ c.1 * e.1 ≤ 12 then (-1000003, st) else shvO st p (c.1 * e.1) c.2.1 (ovr e.1 c.2.2 e.2.2) := by
    unfold opOver
    rw [ixI_s hp (by decide), ixI_s hp' (by decide), ixI_s hp2 (by decide)]
  cases hc : st.2.1 p' with
  | none =>
    rw [hc] at unf
    refine Or.inl ⟨c.no hp' hc, _, c.f1, ?_⟩
    cases hc2 : st.2.1 p2 with
    | none => exact Or.inl ⟨c.no hp2 hc2, _, c.1, fnd' unf⟩
    | some v =>
      obtain ⟨n', k', t'⟩ := v
      obtain ⟨a', ta', q', -⟩ := c.cv hp2 hc2
      exact Or.inr ⟨a', q', _, c.1, fnd' unf⟩
  | some v =>
    obtain ⟨n, k, t⟩ := v
    rw [hc] at unf
    simp only at unf
    obtain ⟨a, ta, q, g1, g2, g3, g4, co⟩ := c.cv hp' hc
    have hn := co.n12
    have hk := co.k8
    refine Or.inr ⟨a, q, _, c.f1, ?_⟩
    cases hc2 : st.2.1 p2 with
    | none =>
      rw [hc2] at unf
      exact Or.inl ⟨c.no hp2 hc2, _, c.1, fnd' unf⟩
    | some v' =>
      obtain ⟨n', k', t'⟩ := v'
      rw [hc2] at unf
      simp only at unf
      obtain ⟨a', ta', q', g1', g2', g3', g4', co'⟩ := c.cv hp2 hc2
      have hn' := co'.n12
      have hk' := co'.k8
      refine Or.inr ⟨a', q', _, co.ft, _, co.2.1.len, _, co'.ft, _, co'.2.1.len, fun w => ⟨_, co.fn, _, co'.fn, ?_⟩, fun w => bad (by rw [unf, if_pos (fun e => w (by rw [e]))])⟩
      have ek : k = k' := nI_inj (by omega) (by omega) w
      subst ek
      rw [if_neg (fun q => q rfl)] at unf
      have hnn : n * n' ≤ 12 * 12 := Nat.mul_le_mul hn hn'
      rw [pk_mul]
      refine ⟨fun w2 => ⟨b, Nat.le_refl _, Nat.le_refl _, _, _, co.1, co.2.2.1, ?_⟩, fun w2 => ⟨rfl, ?_⟩⟩
      · have w2 : n * n' ≤ 12 := (nI_leI (b := 12) (by omega) (by decide)).mp w2
        rw [if_neg (fun q => q w2)] at unf
        rw [unf] at hK
        have pos : 1 ≤ n * n' := Nat.mul_le_mul co.n1 co'.n1
        refine laidOver_ev co co' g2 g4 g2' g4' w2 hb1 (by omega) (fun h' hN => ⟨_, rfl, ?_⟩)
        exact shelve_nc c hN hp pos w2 co.k1 hk (ovr_pm co'.n1 co.prm co'.prm) rfl FC.rf rfl hK
      · rw [if_pos (fun q => w2 (le_t (b := 12) q (by decide)))] at unf
        rw [unf] at hK
        exact hK h c FC.rf (by omega)
end CallsG

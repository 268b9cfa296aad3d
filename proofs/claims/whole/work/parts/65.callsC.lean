/-! what is told of covers; the class -/
def lnA (c : Nat → Nat) (i : Int32) : Int32 := if ¬ 0 ≤ i then -1000000 else laR c i.toNatClampNeg 12
def opLeads (st : AS) (x y z : Int32) : Int32 × AS := match ixI x 10 with
  | none => badO st
  | some p => match st.2.1 p with
    | none => fndO st 1
    | some c => match ixI y c.2.1 with
      | none => badO st
      | some j => match ixI z c.1 with
        | none => badO st
        | some i => finO (nI (c.2.2 j i)) st
def opShape (st : AS) (x y z : Int32) : Int32 × AS := match ixI x 10 with
  | none => badO st
  | some p => match st.2.1 p with
    | none => fndO st 1
    | some c => match ixI y c.2.1 with
      | none => badO st
      | some j => finO (lnA (LT c.1 (c.2.2 j)) z) st
noncomputable def tlV (y : Int32) (n k : Nat) (t : Nat → Nat → Nat) : Int32 := if y = 0 then nI n else if y = 1 then nI k else if y = 2 then nI (pn n k t) else if y = 3 then hsum n t k / 2 else if y = 4 then nI (fnd n k t n).2 else nI (hpr n k t n)
noncomputable def opTold (st : AS) (x y : Int32) : Int32 × AS := match ixI x 10 with
  | none => badO st
  | some p => if y < 0 ∨ ¬ y ≤ 5 then badO st else match st.2.1 p with
    | none => fndO st 1
    | some c => if (y = 3 ∨ y = 4) ∧ ¬ pn c.1 c.2.1 c.2.2 = 1 then fndO st 3 else finO (tlV y c.1 c.2.1 c.2.2) st
noncomputable def opRing (st : AS) (x : Int32) : Int32 × AS := match ixI x 10 with
  | none => badO st
  | some p => match st.2.1 p with
    | none => fndO st 1
    | some c => if ¬ pn c.1 c.2.1 c.2.2 = 1 then fndO st 3 else if rgr c.1 c.2.1 c.2.2 = -1 then (-1000003, st) else finO (rgr c.1 c.2.1 c.2.2) st
section CallsC
variable {d : Nat} {h : mH} {st : AS} {K : Option Value → mH → Prop}
theorem lengthAtI_ev {c : Nat → Nat} {i : Int32} (hc : ∀ l, c l < 16) (hK : K (some (.int (lnA c i))) h) : Ev (d + 1) (0, 0) MX8_lengthAt [.long (SH c), .int i] h K := by
  unfold lnA at hK
  by_cases w : 0 ≤ i
  · rw [if_neg (fun q => q w)] at hK
    have w5 : ¬ i < 0 := fun q => by rw [Int32.lt_iff_toInt_lt] at q; rw [Int32.le_iff_toInt_le] at w; omega
    obtain ⟨m, hm, rfl⟩ := nI_of w5
    rw [nI_clamp (by omega)] at hK
    exact lengthAt_ev hc (by omega) hK
  · rw [if_pos w] at hK
    exact lengthAt_neg w hK
theorem c_leads {x y z : Int32} (c : CLs h st) (hK : ∀ h', CLs h' (opLeads st x y z).2 → FC h h' → K (some (.int (opLeads st x y z).1)) h') : Ev (d + 2) (0, 0) MX11_leads [.ref 1, .int x, .int y, .int z] h K := by
  refine en_X11_leads (bk_X11_leads_0 _ _ _ _ ?_)
  have bad : opLeads st x y z = badO st → h.1 0 = h.1 0 ∧ K (some (.int (-1000001))) h := fun e => by
    rw [e] at hK
    exact ⟨rfl, hK h c FC.rf⟩
  refine noPlace_ev (fun q => ⟨_, rfl, fun w => absurd w (by decide), fun _ => bad ?_⟩) (fun p hp e => ⟨_, rfl, fun _ => ⟨_, c.f1, ?_⟩, fun w => absurd rfl w⟩)
  · unfold opLeads; rw [ixI_n q]
  subst e
  cases hc : st.2.1 p with
  | none =>
    have unf : opLeads st (nI p) y z = fndO st 1 := by unfold opLeads; rw [ixI_s hp (by decide)]; simp only; rw [hc]
    rw [unf] at hK
    exact Or.inl ⟨c.no hp hc, _, c.1, found_ev c (fun h16 c16 fc16 f16 => ⟨_, rfl, f16.z (by decide), hK h16 c16 fc16⟩)⟩
  | some v =>
    obtain ⟨n, k, t⟩ := v
    have unf : opLeads st (nI p) y z = match ixI y k with
      | none => badO st
      | some j => match ixI z n with
        | none => badO st
        | some i => finO (nI (t j i)) st := by unfold opLeads; rw [ixI_s hp (by decide)]; simp only; rw [hc]
    obtain ⟨a, ta, q, -, -, -, -, co⟩ := c.cv hp hc
    have hn := co.n12
    have hk := co.k8
    refine Or.inr ⟨a, q, _, _, co.1, co.2.2.1, ?_⟩
    refine noTurn_ev co (fun w => ⟨_, rfl, fun _ => bad (by rw [unf, ixI_n w]), fun w => absurd w (by decide)⟩) (fun w1 w2 => ⟨_, rfl, fun w => absurd rfl w, fun _ => ⟨_, _, co.1, co.2.2.1, ?_⟩⟩)
    obtain ⟨j, hj, e⟩ := ixI_of (by omega) w1 w2
    subst e
    rw [ixI_s hj (by omega)] at unf
    refine noSheet_ev co (fun w => ⟨_, rfl, fun w => absurd w (by decide), fun _ => bad (by rw [unf]; simp only; rw [ixI_n w])⟩) (fun w3 w4 => ⟨_, rfl, fun _ => ⟨_, _, co.1, co.2.2.1, ?_⟩, fun w => absurd rfl w⟩)
    obtain ⟨i, hi, e⟩ := ixI_of (by omega) w3 w4
    subst e
    simp only at unf
    rw [ixI_s hi (by omega)] at unf
    rw [unf] at hK
    refine turnAt_ev co hj ⟨_, rfl, ?_⟩
    refine at_ev hn hi (fun i hi => by have := co.lt j hj i hi; omega) ⟨_, rfl, _, c.1, ?_⟩
    exact fine_ev c (fun h16 c16 fc16 f16 => ⟨_, rfl, f16.z (by decide), hK h16 c16 fc16⟩)
theorem c_shape {x y z : Int32} (c : CLs h st) (hK : ∀ h', CLs h' (opShape st x y z).2 → FC h h' → K (some (.int (opShape st x y z).1)) h') : Ev (d + 2) (0, 0) MX11_shape [.ref 1, .int x, .int y, .int z] h K := by
  refine en_X11_shape (bk_X11_shape_0 _ _ _ _ ?_)
  have bad : opShape st x y z = badO st → h.1 0 = h.1 0 ∧ K (some (.int (-1000001))) h := fun e => by
    rw [e] at hK
    exact ⟨rfl, hK h c FC.rf⟩
  refine noPlace_ev (fun q => ⟨_, rfl, fun w => absurd w (by decide), fun _ => bad ?_⟩) (fun p hp e => ⟨_, rfl, fun _ => ⟨_, c.f1, ?_⟩, fun w => absurd rfl w⟩)
  · unfold opShape; rw [ixI_n q]
  subst e
  cases hc : st.2.1 p with
  | none =>
    have unf : opShape st (nI p) y z = fndO st 1 := by unfold opShape; rw [ixI_s hp (by decide)]; simp only; rw [hc]
    rw [unf] at hK
    exact Or.inl ⟨c.no hp hc, _, c.1, found_ev c (fun h16 c16 fc16 f16 => ⟨_, rfl, f16.z (by decide), hK h16 c16 fc16⟩)⟩
  | some v =>
    obtain ⟨n, k, t⟩ := v
    have unf : opShape st (nI p) y z = match ixI y k with
      | none => badO st
      | some j => finO (lnA (LT n (t j)) z) st := by unfold opShape; rw [ixI_s hp (by decide)]; simp only; rw [hc]
    obtain ⟨a, ta, q, -, -, -, -, co⟩ := c.cv hp hc
    have hn := co.n12
    have hk := co.k8
    refine Or.inr ⟨a, q, _, _, co.1, co.2.2.1, ?_⟩
    refine noTurn_ev co (fun w => ⟨_, rfl, fun w => absurd w (by decide), fun _ => bad (by rw [unf, ixI_n w])⟩) (fun w1 w2 => ⟨_, rfl, fun _ => ⟨_, _, co.1, co.2.2.1, ?_⟩, fun w => absurd rfl w⟩)
    obtain ⟨j, hj, e⟩ := ixI_of (by omega) w1 w2
    subst e
    rw [ixI_s hj (by omega)] at unf
    rw [unf] at hK
    refine turnAt_ev co hj ⟨_, rfl, _, co.fn, ?_⟩
    refine lengthsOf_evL hn (co.lt j hj) ⟨_, rfl, ?_⟩
    refine lengthAtI_ev (LT_lt hn _) ⟨_, rfl, _, c.1, ?_⟩
    exact fine_ev c (fun h16 c16 fc16 f16 => ⟨_, rfl, f16.z (by decide), hK h16 c16 fc16⟩)
theorem c_ring {x : Int32} {b : Nat × Nat} (c : CLs h st) (hb1 : 1 ≤ b.1) (hb2 : 8 ≤ b.2) (hK : ∀ h', CLs h' (opRing st x).2 → FC h h' → h'.2 ≤ h.2 + 1 → K (some (.int (opRing st x).1)) h') : Ev (d + 6) b MX11_ring [.ref 1, .int x] h K := by
  have h57 := c.2.2.2.2.2
  refine en_X11_ring (bk_X11_ring_0 _ _ ?_)
  refine noPlace_ev (fun q => ⟨_, rfl, fun w => absurd w (by decide), fun _ => ?_⟩) (fun p hp e => ⟨_, rfl, fun _ => ⟨_, c.f1, ?_⟩, fun w => absurd rfl w⟩)
  · have e : opRing st x = badO st := by unfold opRing; rw [ixI_n q]
    rw [e] at hK
    exact ⟨rfl, hK h c FC.rf (by omega)⟩
  subst e
  cases hc : st.2.1 p with
  | none =>
    have unf : opRing st (nI p) = fndO st 1 := by unfold opRing; rw [ixI_s hp (by decide)]; simp only; rw [hc]
    rw [unf] at hK
    exact Or.inl ⟨c.no hp hc, _, c.1, found_ev c (fun h16 c16 fc16 f16 => ⟨_, rfl, f16.z (by decide), hK h16 c16 fc16 (by rw [f16.1]; omega)⟩)⟩
  | some v =>
    obtain ⟨n, k, t⟩ := v
    have unf : opRing st (nI p) = if ¬ pn n k t = 1 then fndO st 3 else if rgr n k t = -1 then (-1000003, st) else finO (rgr n k t) st := by unfold opRing; rw [ixI_s hp (by decide)]; simp only; rw [hc]
    obtain ⟨a, ta, q, g1, g2, g3, g4, co⟩ := c.cv hp hc
    have hn := co.n12
    have hk := co.k8
    have hpn := pn_le n k t
    refine Or.inr ⟨a, q, _, _, co.1, co.2.2.1, ?_⟩
    refine whole_ev co (fun w => ⟨_, rfl, fun w => absurd rfl w, fun _ => ⟨_, c.1, ?_⟩⟩) (fun w => ⟨_, rfl, fun _ => ⟨_, c.f4, b, Nat.le_refl _, Nat.le_refl _, ?_⟩, fun w => absurd w (by decide)⟩)
    · have w : ¬ pn n k t = 1 := fun e => w (by rw [e]; rfl)
      rw [unf, if_pos w] at hK
      exact found_ev c (fun h16 c16 fc16 f16 => ⟨_, rfl, f16.z (by decide), hK h16 c16 fc16 (by rw [f16.1]; omega)⟩)
    · have w : pn n k t = 1 := nI_inj (b := 1) (by omega) (by decide) w
      rw [if_neg (fun q => q w)] at unf
      have hw := whe_whl co.prm ((pn_one co.n1 co.lt).mp w)
      obtain ⟨e1, e2, e3, e4⟩ := c.2.2.2.2.1
      obtain ⟨x5, o24⟩ := e2.1
      refine ⟨_, o24, ?_⟩
      refine walk_ev co hw g1 g2 g3 g4 e2 hb1 (by omega) (fun h' q1 q2 q3 => ⟨_, rfl, ?_⟩)
      have ga : ag [24, 25, 26, 27] h h' := ⟨by omega, q2⟩
      have c' : CLs h' st := c.en ga (by simp) ⟨e1.ag ga (by omega) (by omega) (by simp) (by simp), q3, e3.ag ga (by simp) h57, by obtain ⟨nf, e4⟩ := e4; exact ⟨nf, e4.ag ga (by simp) h57⟩⟩
      have F' : FC h h' := ga.fc (by simp) h57
      have z' : h'.1 0 = h.1 0 := q2 0 (by omega) (by simp)
      rw [unf] at hK
      generalize rgr n k t = R at hK ⊢
      refine ⟨fun w2 => ⟨_, c'.1, ?_⟩, fun w2 => ⟨z', ?_⟩⟩
      · rw [if_neg w2] at hK
        exact fine_ev c' (fun h16 c16 fc16 f16 => ⟨_, rfl, (f16.z (by decide)).trans z', hK h16 c16 (F'.tr fc16) (by rw [f16.1]; omega)⟩)
      · rw [if_pos w2] at hK
        exact hK h' c' F' (by omega)
theorem tellOf_ev {p n k a ta : Nat} {t : Nat → Nat → Nat} {y : Int32} (c : CLs h st) (h1 : 57 ≤ a) (h3 : 57 ≤ ta) (h2 : a < h.2) (h4 : ta < h.2) (co : CO h a ta (kcl n k t) n k t (pn n k t)) (hy1 : ¬ y < 0) (hy2 : y ≤ 5) (hw : (y = 3 ∨ y = 4) → pn n k t = 1) (hK : ∀ h', CLs h' st → FC h h' → h'.2 = h.2 → h'.1 0 = h.1 0 → K (some (.int (tlV y n k t))) h') : Ev (d + 5) (0, 0) MX11_tellOf [.ref 1, .ref a, .int y] h K := by
  have h57 := c.2.2.2.2.2
  have hk := co.k8
  refine en_X11_tellOf (bk_X11_tellOf_0 _ _ _ ⟨fun e => ⟨_, co.fn, rfl, ?_⟩, fun e => ⟨_, co.ft, _, co.2.1.len, rfl, ?_⟩, fun e => ⟨_, co.fp, rfl, ?_⟩, fun e => ⟨_, _, co.1, co.2.2.1, ?_⟩, fun e => ⟨_, c.f3, _, co.ft, _, co.fn, ?_⟩, fun e0 e1 e2 e3 e4 => ⟨_, c.f5, ?_⟩⟩)
  · subst e; exact hK h c FC.rf rfl rfl
  · subst e; exact hK h c FC.rf rfl rfl
  · subst e; exact hK h c FC.rf rfl rfl
  · subst e
    exact holes_ev co ⟨_, rfl, rfl, hK h c FC.rf rfl rfl⟩
  · subst e
    have w := hw (Or.inr rfl)
    have hwl := whe_whl co.prm ((pn_one co.n1 co.lt).mp w)
    obtain ⟨e1, e2, e3, e4⟩ := c.2.2.2.2.1
    obtain ⟨lk, nw, od, lf, oN, oL⟩ := e1
    refine ⟨_, oN, ?_⟩
    refine find_ev (by decide) (by decide) (by decide) (by omega) (by omega) co.n1 co.n12 co.k1 co.k8 co.prm hwl co.2.1 oN oL (fun h' f' n' => ⟨rfl, ?_⟩)
    obtain ⟨nw', od', lf', oN', oL', -⟩ := n'
    have ga := f'.ag
    have c' : CLs h' st := c.en ga (by simp) ⟨⟨_, _, _, _, oN', oL'⟩, e2.ag ga (by simp) h57, e3.ag ga (by simp) h57, by obtain ⟨nf, e4⟩ := e4; exact ⟨nf, e4.ag ga (by simp) h57⟩⟩
    refine ⟨_, c'.f3, _, oN'.fk, f'.z (by decide), ?_⟩
    exact hK h' c' (ga.fc (by simp) h57) f'.1 (f'.z (by decide))
  · obtain ⟨q1, q2, q3, q4⟩ := c.2.2.2.2.1
    obtain ⟨x0, F0, G0, o28, o29, o30⟩ := id q3
    refine ⟨_, o28, ?_⟩
    refine orders_ev (d := d + 1) co h1 h3 q3 (fun h' f' o' => ⟨_, rfl, f'.z (by decide), ?_⟩)
    have ga := f'.ag
    have c' : CLs h' st := c.en ga (by simp) ⟨q1.ag ga (by omega) (by omega) (by simp) (by simp), q2.ag ga (by simp) h57, o', by obtain ⟨nf, q4⟩ := q4; exact ⟨nf, q4.ag ga (by simp) h57⟩⟩
    have e : tlV y n k t = nI (hpr n k t n) := by
      unfold tlV
      rw [if_neg e0, if_neg e1, if_neg e2, if_neg e3, if_neg e4]
    rw [← e]
    exact hK h' c' (ga.fc (by simp) h57) f'.1 (f'.z (by decide))
theorem c_told {x y : Int32} (c : CLs h st) (hK : ∀ h', CLs h' (opTold st x y).2 → FC h h' → h'.2 = h.2 → K (some (.int (opTold st x y).1)) h') : Ev (d + 6) (0, 0) MX11_told [.ref 1, .int x, .int y] h K := by
  have h57 := c.2.2.2.2.2
  refine en_X11_told (bk_X11_told_0 _ _ _ ?_)
  have bad : opTold st x y = badO st → h.1 0 = h.1 0 ∧ K (some (.int (-1000001))) h := fun e => by
    rw [e] at hK
    exact ⟨rfl, hK h c FC.rf rfl⟩
  refine noPlace_ev (fun q => ⟨_, rfl, fun _ => bad ?_, fun w => absurd w (by decide)⟩) (fun p hp e => ⟨_, rfl, fun w => absurd rfl w, fun _ => ?_⟩)
  · unfold opTold; rw [ixI_n q]
  subst e
  have unf : opTold st (nI p) y = if y < 0 ∨ ¬ y ≤ 5 then badO st else match st.2.1 p with
    | none => fndO st 1
    | some c => if (y = 3 ∨ y = 4) ∧ ¬ pn c.1 c.2.1 c.2.2 = 1 then fndO st 3 else finO (tlV y c.1 c.2.1 c.2.2) st := by unfold opTold; rw [ixI_s hp (by decide)]
  refine ⟨fun w => bad (by rw [unf, if_pos (Or.inl w)]), fun w => ⟨fun w2 => ⟨_, c.f1, ?_⟩, fun w2 => bad (by rw [unf, if_pos (Or.inr w2)])⟩⟩
  rw [if_neg (fun q => q.elim w (fun q => q w2))] at unf
  cases hc : st.2.1 p with
  | none =>
    rw [hc] at unf
    rw [unf] at hK
    exact Or.inl ⟨c.no hp hc, _, c.1, found_ev c (fun h16 c16 fc16 f16 => ⟨_, rfl, f16.z (by decide), hK h16 c16 fc16 f16.1⟩)⟩
  | some v =>
    obtain ⟨n, k, t⟩ := v
    rw [hc] at unf
    simp only at unf
    obtain ⟨a, ta, q, g1, g2, g3, g4, co⟩ := c.cv hp hc
    have hn := co.n12
    have hpn := pn_le n k t
    have tell : ((y = 3 ∨ y = 4) → pn n k t = 1) → ∃ fs : List Value, h.1 1 = .inr (10, fs) ∧ Ev (d + 5) (0, 0) MX11_tellOf [.ref 1, .ref a, .int y] h (fun r13 h14 => ∃ x15 : Int32, r13 = some (.int x15) ∧ (∃ fs19 : List Value, (h14).1 1 = .inr (10, fs19) ∧ Ev (d + 5) (0, 0) MX11_fine [.ref 1, .int x15] h14 (fun r16 h17 => ∃ x18 : Int32, r16 = some (.int x18) ∧ (h17.1 0 = h.1 0 ∧ K (some (.int x18)) h17)))) := by
      intro hw
      rw [unf, if_neg (fun q => q.2 (hw q.1))] at hK
      refine ⟨_, c.1, ?_⟩
      refine tellOf_ev (p := p) c g1 g3 g2 g4 co w w2 hw (fun h' c' F' e' z' => ⟨_, rfl, _, c'.1, ?_⟩)
      generalize tlV y n k t = R at hK ⊢
      exact fine_ev c' (fun h16 c16 fc16 f16 => ⟨_, rfl, (f16.z (by decide)).trans z', hK h16 c16 (F'.tr fc16) (f16.1.trans e')⟩)
    have nowhole : (y = 3 ∨ y = 4) → ¬ pn n k t = 1 → ∃ fs : List Value, h.1 1 = .inr (10, fs) ∧ Ev (d + 5) (0, 0) MX11_found [.ref 1, .int 3] h (fun r21 h22 => ∃ x23 : Int32, r21 = some (.int x23) ∧ (h22.1 0 = h.1 0 ∧ K (some (.int x23)) h22)) := by
      intro hy hw
      rw [unf, if_pos ⟨hy, hw⟩] at hK
      exact ⟨_, c.1, found_ev c (fun h16 c16 fc16 f16 => ⟨_, rfl, f16.z (by decide), hK h16 c16 fc16 f16.1⟩)⟩
    have whl' : (y = 3 ∨ y = 4) → ∃ (c25 : Nat) (fs26 : List Value), h.1 a = .inr (c25, fs26) ∧ c25 ∈ [0, 1, 4, 8, 9] ∧ Ev (d + 5) (0, 0) MX1_whole [.ref a] h (fun r10 h11 => ∃ x12 : Int32, r10 = some (.int x12) ∧ ((¬ x12 = 0 → ∃ fs : List Value, h11.1 1 = .inr (10, fs) ∧ Ev (d + 5) (0, 0) MX11_tellOf [.ref 1, .ref a, .int y] h11 (fun r13 h14 => ∃ x15 : Int32, r13 = some (.int x15) ∧ (∃ fs19 : List Value, (h14).1 1 = .inr (10, fs19) ∧ Ev (d + 5) (0, 0) MX11_fine [.ref 1, .int x15] h14 (fun r16 h17 => ∃ x18 : Int32, r16 = some (.int x18) ∧ (h17.1 0 = h.1 0 ∧ K (some (.int x18)) h17))))) ∧ (x12 = 0 → ∃ fs : List Value, h11.1 1 = .inr (10, fs) ∧ Ev (d + 5) (0, 0) MX11_found [.ref 1, .int 3] h11 (fun r21 h22 => ∃ x23 : Int32, r21 = some (.int x23) ∧ (h22.1 0 = h.1 0 ∧ K (some (.int x23)) h22))))) := by
      intro hy
      refine ⟨_, _, co.1, co.2.2.1, whole_ev co (fun z => ⟨_, rfl, fun q => absurd rfl q, fun _ => nowhole hy (fun e => z (by rw [e]; rfl))⟩) (fun z => ⟨_, rfl, fun _ => tell (fun _ => nI_inj (b := 1) (by omega) (by decide) z), fun q => absurd q (by decide)⟩)⟩
    exact Or.inr ⟨a, q, fun e => whl' (Or.inl e), fun e3 => ⟨fun e4 => tell (fun q => q.elim (fun q => absurd q e3) (fun q => absurd q e4)), fun e => whl' (Or.inr e)⟩⟩
end CallsC

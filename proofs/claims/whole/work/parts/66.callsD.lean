/-! counted, and ways; the class -/
def opJoins (x y z : Int32) : Int64 := if x < 2 ∨ 10 < x ∨ y < 0 ∨ ¬ y ≤ 9 then -1000001 else match ixI z (pT x.toNatClampNeg).length with
  | none => -1000001
  | some s => lN (wA x.toNatClampNeg y.toNatClampNeg s)
def opShapes (x y z : Int32) : Int32 := if x < 1 ∨ ¬ x ≤ 10 then -1000001 else if y = -1000000 then nI (pT x.toNatClampNeg).length else match ixI y (pT x.toNatClampNeg).length with
  | none => -1000001
  | some s => lnA (ct (pA x.toNatClampNeg s)) z
def opBlock (st : AS) (x a b s : Int32) : Int32 × AS := match ixI x 10 with
  | none => badO st
  | some p => match st.2.1 p with
    | none => fndO st 1
    | some c => if ¬ pn c.1 c.2.1 c.2.2 = 1 then fndO st 3 else match ixI a c.1 with
      | none => badO st
      | some u => match ixI b c.1 with
        | none => badO st
        | some v => if s = -1 then finO (nI (cn (fun z => blk c.1 c.2.1 c.2.2 u v z == z) c.1)) st else match ixI s c.1 with
          | none => badO st
          | some i => finO (nI (cn (fun z => blk c.1 c.2.1 c.2.2 u v z == z) (blk c.1 c.2.1 c.2.2 u v i))) st
section CallsD
variable {d : Nat} {h : mH} {st : AS} {K : Option Value → mH → Prop}
theorem CLs.prep {n : Nat} (c : CLs h st) (hn1 : 1 ≤ n) (hn : n < 11) (hK : ∀ h', CLs h' st → SPS h' n → FC h h' → Fr [31, 32, 33] h h' → K none h') : ∃ fs : List Value, h.1 31 = .inr (7, fs) ∧ Ev (d + 4) (0, 0) MX8_prepare [.ref 31, .int (nI n)] h K := by
  have h57 := c.2.2.2.2.2
  obtain ⟨q1, q2, q3, nf, q4⟩ := c.2.2.2.2.1
  refine ⟨_, q4.2.1, prepare_ev hn1 hn q4 (fun h' f' o' => ?_)⟩
  have ga := f'.ag
  exact hK h' (c.en ga (by simp) ⟨q1.ag ga (by omega) (by omega) (by simp) (by simp), q2.ag ga (by simp) h57, q3.ag ga (by simp) h57, n, o'⟩) o' (ga.fc (by simp) h57) f'
theorem c_joins {x y z : Int32} (c : CLs h st) (hK : ∀ h', CLs h' st → FC h h' → h'.2 = h.2 → K (some (.long (opJoins x y z))) h') : Ev (d + 5) (0, 0) MX11_joins [.ref 1, .int x, .int y, .int z] h K := by
  refine en_X11_joins (bk_X11_joins_0 _ _ _ _ ?_)
  have bad : (x < 2 ∨ 10 < x ∨ y < 0 ∨ ¬ y ≤ 9) → h.1 0 = h.1 0 ∧ K (some (.long (-1000001))) h := fun e => by
    have := hK h c FC.rf rfl
    unfold opJoins at this
    rw [if_pos e] at this
    exact ⟨rfl, this⟩
  refine ⟨fun w => bad (Or.inl w), fun w1 => ⟨fun w => bad (Or.inr (Or.inl w)), fun w2 => ⟨fun w => bad (Or.inr (Or.inr (Or.inl w))), fun w3 => ⟨fun w4 => ⟨_, c.f6, ?_⟩, fun w => bad (Or.inr (Or.inr (Or.inr w)))⟩⟩⟩⟩
  have w0 : ¬ x < 0 := fun q => w1 (by rw [Int32.lt_iff_toInt_lt] at q ⊢; have : (0 : Int32).toInt = 0 := rfl; have : (2 : Int32).toInt = 2 := rfl; omega)
  obtain ⟨n, hn, rfl⟩ := nI_of w0
  obtain ⟨m, hm, rfl⟩ := nI_of w3
  have n2 : 2 ≤ n := by
    rcases Nat.lt_or_ge n 2 with q | q
    · exact absurd (lt_t (b := 2) q (by decide)) w1
    · exact q
  have n10 : n ≤ 10 := by
    rcases Nat.lt_or_ge 10 n with q | q
    · exact absurd (lt_t (a := 10) q (by omega)) w2
    · exact q
  have m9 : m ≤ 9 := (nI_leI (b := 9) (by omega) (by decide)).mp w4
  have unf : opJoins (nI n) (nI m) z = match ixI z (pT n).length with
      | none => -1000001
      | some s => lN (wA n m s) := by
    unfold opJoins
    rw [if_neg (fun q => q.elim w1 (fun q => q.elim w2 (fun q => q.elim w3 (fun q => q w4)))), nI_clamp (by omega), nI_clamp (by omega)]
  have l42 := (tb_len n (by omega)).2.1
  refine c.prep (d := d) (by omega) (by omega) (fun h3 c3 s3 F3 f3 => ⟨rfl, _, c3.f6, _, s3.2.1, ?_⟩)
  refine lacks_ev s3.2.1 (fun q => ⟨_, rfl, fun w => absurd w (by decide), fun _ => ⟨f3.z (by decide), ?_⟩⟩) (fun q1 q2 => ⟨_, rfl, fun _ => ⟨_, c3.f6, _, s3.2.1, ?_⟩, fun w => absurd rfl w⟩)
  · rw [ixI_n q] at unf
    have := hK h3 c3 F3 f3.1
    rw [unf] at this
    exact this
  · obtain ⟨s, hs, rfl⟩ := ixI_of (by omega) q1 q2
    rw [ixI_s hs (by omega)] at unf
    have hk := hK h3 c3 F3 f3.1
    rw [unf] at hk
    have hk : K (some (.long (lN (wA n m s)))) h3 := hk
    -- the row of ways itself
    refine en_X8_rowsOf (bk_X8_rowsOf_0 _ _ _ ⟨_, s3.2.1, ?_⟩)
    refine lacks_ev s3.2.1 (fun q => absurd q2 (q.resolve_left q1)) (fun _ _ => ⟨_, rfl, fun c => absurd rfl c, fun _ => ⟨fun c => absurd c (lt_f (a := m) (b := 0) (by omega) (by omega)), fun _ => ⟨fun _ => ?_, fun c => absurd (le_t (b := 9) (by omega) (by decide)) c⟩⟩⟩)
    obtain ⟨G, hG, hGq⟩ := s3.2.2.2
    refine ⟨_, s3.2.1.f1, _, by rw [n42]; exact ll_at hG (by omega) (by decide), rfl, _, rfl, f3.z (by decide), ?_⟩
    rw [hGq m (by omega) s hs]
    exact hk
theorem c_shapes {x y z : Int32} (c : CLs h st) (hK : ∀ h', CLs h' st → FC h h' → h'.2 = h.2 → K (some (.int (opShapes x y z))) h') : Ev (d + 5) (0, 0) MX11_shapes [.ref 1, .int x, .int y, .int z] h K := by
  refine en_X11_shapes (bk_X11_shapes_0 _ _ _ _ ?_)
  have bad : (x < 1 ∨ ¬ x ≤ 10) → h.1 0 = h.1 0 ∧ K (some (.int (-1000001))) h := fun e => by
    have := hK h c FC.rf rfl
    unfold opShapes at this
    rw [if_pos e] at this
    exact ⟨rfl, this⟩
  refine ⟨fun w => bad (Or.inl w), fun w1 => ⟨fun w2 => ⟨_, c.f6, ?_⟩, fun w => bad (Or.inr w)⟩⟩
  have w0 : ¬ x < 0 := fun q => w1 (by rw [Int32.lt_iff_toInt_lt] at q ⊢; have : (0 : Int32).toInt = 0 := rfl; have : (1 : Int32).toInt = 1 := rfl; omega)
  obtain ⟨n, hn, rfl⟩ := nI_of w0
  have n1 : 1 ≤ n := by
    rcases Nat.lt_or_ge n 1 with q | q
    · exact absurd (lt_t (b := 1) q (by decide)) w1
    · exact q
  have n10 : n ≤ 10 := (nI_leI (b := 10) (by omega) (by decide)).mp w2
  have unf : opShapes (nI n) y z = if y = -1000000 then nI (pT n).length else match ixI y (pT n).length with
      | none => -1000001
      | some s => lnA (ct (pA n s)) z := by
    unfold opShapes
    rw [if_neg (fun q => q.elim w1 (fun q => q w2)), nI_clamp (by omega)]
  have l42 := (tb_len n (by omega)).2.1
  refine c.prep (d := d) (by omega) (by omega) (fun h3 c3 s3 F3 f3 => ⟨rfl, fun e => ⟨_, c3.f6, _, s3.2.1, ?_⟩, fun e => ⟨_, c3.f6, _, s3.2.1.f3, f3.z (by decide), ?_⟩⟩)
  · rw [if_neg e] at unf
    refine lacks_ev s3.2.1 (fun q => ⟨_, rfl, fun w => absurd w (by decide), fun _ => ⟨f3.z (by decide), ?_⟩⟩) (fun q1 q2 => ⟨_, rfl, fun _ => ⟨_, c3.f6, _, s3.2.1, ?_⟩, fun w => absurd rfl w⟩)
    · rw [ixI_n q] at unf
      have := hK h3 c3 F3 f3.1
      rw [unf] at this
      exact this
    · obtain ⟨s, hs, rfl⟩ := ixI_of (by omega) q1 q2
      rw [ixI_s hs (by omega)] at unf
      have hk := hK h3 c3 F3 f3.1
      rw [unf] at hk
      refine lengthsAt_ev (d := d + 3) (by omega) s3.2.1 s3.2.2.1 hs ⟨_, rfl, ?_⟩
      have := (tb_enc n (by omega) s hs).2.2
      exact lengthAtI_ev (ct_lt (by omega)) ⟨_, rfl, f3.z (by decide), hk⟩
  · rw [if_pos e] at unf
    have := hK h3 c3 F3 f3.1
    rw [unf] at this
    exact this
theorem c_block {x a b s : Int32} (c : CLs h st) (hK : ∀ h', CLs h' (opBlock st x a b s).2 → FC h h' → h'.2 = h.2 → K (some (.int (opBlock st x a b s).1)) h') : Ev (d + 4) (0, 0) MX11_block [.ref 1, .int x, .int a, .int b, .int s] h K := by
  refine en_X11_block (bk_X11_block_0 _ _ _ _ _ ?_)
  have bad : opBlock st x a b s = badO st → h.1 0 = h.1 0 ∧ K (some (.int (-1000001))) h := fun e => by
    rw [e] at hK
    exact ⟨rfl, hK h c FC.rf rfl⟩
  have fnd' : ∀ {y : Int32}, opBlock st x a b s = fndO st y → Ev (d + 3) (0, 0) MX11_found [.ref 1, .int y] h (fun r h' => ∃ y : Int32, r = some (.int y) ∧ (h'.1 0 = h.1 0 ∧ K (some (.int y)) h')) := fun e => by
    rw [e] at hK
    exact found_ev c (fun h16 c16 fc16 f16 => ⟨_, rfl, f16.z (by decide), hK h16 c16 fc16 f16.1⟩)
  have fin' : ∀ {y : Int32}, opBlock st x a b s = finO y st → Ev (d + 3) (0, 0) MX11_fine [.ref 1, .int y] h (fun r h' => ∃ y : Int32, r = some (.int y) ∧ (h'.1 0 = h.1 0 ∧ K (some (.int y)) h')) := fun e => by
    rw [e] at hK
    exact fine_ev c (fun h16 c16 fc16 f16 => ⟨_, rfl, f16.z (by decide), hK h16 c16 fc16 f16.1⟩)
  refine noPlace_ev (fun q => ⟨_, rfl, fun w => absurd w (by decide), fun _ => bad ?_⟩) (fun p hp e => ⟨_, rfl, fun _ => ⟨_, c.f1, ?_⟩, fun w => absurd rfl w⟩)
  · unfold opBlock; rw [ixI_n q]
  subst e
  cases hc : st.2.1 p with
  | none => exact Or.inl ⟨c.no hp hc, _, c.1, fnd' (by unfold opBlock; rw [ixI_s hp (by decide)]; simp only; rw [hc])⟩
  | some v =>
    obtain ⟨n, k, t⟩ := v
    have unf : opBlock st (nI p) a b s = if ¬ pn n k t = 1 then fndO st 3 else match ixI a n with
      | none => badO st
      | some u => match ixI b n with
        | none => badO st
        | some v => if s = -1 then finO (nI (cn (fun z => blk n k t u v z == z) n)) st else match ixI s n with
          | none => badO st
          | some i => finO (nI (cn (fun z => blk n k t u v z == z) (blk n k t u v i))) st := by unfold opBlock; rw [ixI_s hp (by decide)]; simp only; rw [hc]
    obtain ⟨q, ta, q0, g1, g2, g3, g4, co⟩ := c.cv hp hc
    have hn := co.n12
    have hpn := pn_le n k t
    refine Or.inr ⟨q, q0, _, _, co.1, co.2.2.1, ?_⟩
    refine whole_ev co (fun w => ⟨_, rfl, fun w => absurd rfl w, fun _ => ⟨_, c.1, fnd' (by rw [unf, if_pos (fun e => w (by rw [e]; rfl))])⟩⟩) (fun w => ⟨_, rfl, fun _ => ⟨_, _, co.1, co.2.2.1, ?_⟩, fun w => absurd w (by decide)⟩)
    have w : pn n k t = 1 := nI_inj (b := 1) (by omega) (by decide) w
    rw [if_neg (fun q => q w)] at unf
    refine noSheet_ev co (fun w => ⟨_, rfl, fun _ => bad (by rw [unf, ixI_n w]), fun w => absurd w (by decide)⟩) (fun w1 w2 => ⟨_, rfl, fun w => absurd rfl w, fun _ => ⟨_, _, co.1, co.2.2.1, ?_⟩⟩)
    obtain ⟨u, hu, rfl⟩ := ixI_of (by omega) w1 w2
    rw [ixI_s hu (by omega)] at unf
    refine noSheet_ev co (fun w => ⟨_, rfl, fun _ => bad (by rw [unf]; simp only; rw [ixI_n w]), fun w => absurd w (by decide)⟩) (fun w3 w4 => ⟨_, rfl, fun w => absurd rfl w, fun _ => ?_⟩)
    obtain ⟨v, hv, rfl⟩ := ixI_of (by omega) w3 w4
    simp only at unf
    rw [ixI_s hv (by omega)] at unf
    simp only at unf
    have bl := blk_lt (u := u) (v := v) co.lt hu hv
    refine ⟨fun e => ⟨_, _, co.1, co.2.2.1, ?_⟩, fun e => ⟨_, _, co.1, co.2.2.1, ?_⟩⟩
    · rw [if_pos e] at unf
      refine blockLabels_ev co hu hv ⟨_, rfl, fun q => absurd e q, fun _ => ⟨_, co.fn, ?_⟩⟩
      exact groups_ev (d := d + 1) hn (Nat.le_refl _) (fun i hi => by have := bl i hi; omega) ⟨_, rfl, _, c.1, fin' unf⟩
    · rw [if_neg e] at unf
      refine noSheet_ev co (fun w => ⟨_, rfl, fun w => absurd w (by decide), fun _ => bad (by rw [unf, ixI_n w])⟩) (fun w5 w6 => ⟨_, rfl, fun _ => ⟨_, _, co.1, co.2.2.1, ?_⟩, fun w => absurd rfl w⟩)
      obtain ⟨i, hi, rfl⟩ := ixI_of (by omega) w5 w6
      rw [ixI_s hi (by omega)] at unf
      refine blockLabels_ev co hu hv ⟨_, rfl, fun _ => ?_, fun q => absurd q e⟩
      refine at_ev hn hi (fun i hi => by have := bl i hi; omega) ⟨_, rfl, ?_⟩
      exact groups_ev (d := d + 1) hn (by have := bl i hi; omega) (fun i hi => by have := bl i hi; omega) ⟨_, rfl, _, c.1, fin' unf⟩
end CallsD

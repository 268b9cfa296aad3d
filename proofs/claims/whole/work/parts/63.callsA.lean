/-! calls on rows, as both answer them; the class -/
def opRow (st : AS) (x l n : Int32) : Int32 × AS := match ixI x 8 with
  | none => badO st
  | some s => if l < 0 ∨ 2 < l ∨ ¬ n ≤ 96 then badO st else if ¬ 0 ≤ n then fndO st 4 else finO n (rwS st s (l, n.toNatClampNeg, fun _ => 0))
def opSet (st : AS) (x i v : Int32) : Int32 × AS := match ixI x 8 with
  | none => badO st
  | some s => if (st.1 s).1 = -1 then fndO st 1 else match ixI i (st.1 s).2.1 with
    | none => fndO st 2
    | some j => finO (lnv (st.1 s).1 v) (rwS st s ((st.1 s).1, (st.1 s).2.1, upd (st.1 s).2.2 j (lnv (st.1 s).1 v)))
/-- n items from i on, if the row has them -/
def hlI (s : Nat) (x y : Int32) : Option (Nat × Nat) := if ¬ x < 0 ∧ ¬ y < 0 ∧ x.toNatClampNeg + y.toNatClampNeg ≤ s then some (x.toNatClampNeg, y.toNatClampNeg) else none
theorem hlI_s {s i m : Nat} (h : i + m ≤ s) (hs : s < 2147483648) : hlI s (nI i) (nI m) = some (i, m) := by
  unfold hlI
  rw [nI_clamp (by omega), nI_clamp (by omega), if_pos ⟨lt_f (a := i) (b := 0) (by omega) (by omega), lt_f (a := m) (b := 0) (by omega) (by omega), h⟩]
theorem hlI_n {s : Nat} {x y : Int32} (h : ¬ hld s x y) : hlI s x y = none := by
  unfold hlI
  rw [if_neg]
  rintro ⟨h1, h2, h3⟩
  obtain ⟨i, hi, rfl⟩ := nI_of h1
  obtain ⟨m, hm, rfl⟩ := nI_of h2
  rw [nI_clamp (by omega), nI_clamp (by omega)] at h3
  exact h ⟨i, m, rfl, rfl, h3⟩
def opCopy (st : AS) (a i b j n : Int32) : Int32 × AS := match ixI a 8 with
  | none => badO st
  | some s => match ixI b 8 with
    | none => badO st
    | some u => if (st.1 s).1 = -1 ∨ (st.1 u).1 = -1 then fndO st 1 else if ¬ (st.1 s).1 = (st.1 u).1 then fndO st 5 else match hlI (st.1 s).2.1 i n with
      | none => fndO st 2
      | some p => match hlI (st.1 u).2.1 j n with
        | none => fndO st 2
        | some q => finO n (rwS st u ((st.1 u).1, (st.1 u).2.1, va_cpy (st.1 s).2.2 (st.1 u).2.2 p.1 q.1 q.2))
def opDrop (st : AS) (x : Int32) : Int32 × AS := match ixI x 8 with
  | none => badO st
  | some s => if (st.1 s).1 = -1 then fndO st 1 else finO (nI (st.1 s).2.1) (rwS st s (-1, 0, (st.1 s).2.2))
theorem ln_ok {l : Int32} (h1 : ¬ l < 0) (h2 : ¬ 2 < l) : l = -1 ∨ l = 0 ∨ l = 1 ∨ l = 2 := by
  obtain ⟨i, hi, rfl⟩ := nI_of h1
  have : ¬ nI 2 < nI i := h2
  have h3 : i ≤ 2 := by
    rcases Nat.lt_or_ge 2 i with w | w
    · exact absurd (lt_t w (by omega)) this
    · exact w
  right
  rcases (show i = 0 ∨ i = 1 ∨ i = 2 by omega) with e | e | e <;> subst e
  · exact Or.inl rfl
  · exact Or.inr (Or.inl rfl)
  · exact Or.inr (Or.inr rfl)
section CallsA
variable {d : Nat} {h : mH} {st : AS} {K : Option Value → mH → Prop}
theorem c_row {x l n : Int32} (c : CLs h st) (hK : ∀ h', CLs h' (opRow st x l n).2 → FC h h' → K (some (.int (opRow st x l n).1)) h') : Ev (d + 2) (0, 0) MX11_row [.ref 1, .int x, .int l, .int n] h K := by
  refine en_X11_row (bk_X11_row_0 _ _ _ _ ?_)
  have bad : opRow st x l n = badO st → h.1 0 = h.1 0 ∧ K (some (.int (-1000001))) h := fun e => by
    rw [e] at hK
    exact ⟨rfl, hK h c FC.rf⟩
  refine noRow_ev (fun q => ⟨_, rfl, fun _ => bad ?_, fun w => absurd w (by decide)⟩) (fun i hi e => ⟨_, rfl, fun w => absurd rfl w, fun _ => ?_⟩)
  · unfold opRow
    rw [ixI_n q]
  · subst e
    have unf : opRow st (nI i) l n = if l < 0 ∨ 2 < l ∨ ¬ n ≤ 96 then badO st else if ¬ 0 ≤ n then fndO st 4 else finO n (rwS st i (l, n.toNatClampNeg, fun _ => 0)) := by
      unfold opRow
      rw [ixI_s hi (by decide)]
    refine ⟨fun w => bad (by rw [unf, if_pos (Or.inl w)]), fun w1 => ⟨fun w => bad (by rw [unf, if_pos (Or.inr (Or.inl w))]), fun w2 => ⟨fun w3 => ?_, fun w => bad (by rw [unf, if_pos (Or.inr (Or.inr w))])⟩⟩⟩
    have hno : ¬ (l < 0 ∨ 2 < l ∨ ¬ n ≤ 96) := fun q => q.elim w1 (fun q => q.elim w2 (fun q => q w3))
    rw [if_neg hno] at unf
    refine ⟨fun w4 => ⟨_, c.f0, Or.inr ⟨_, c.rw' hi, ?_⟩⟩, fun w4 => ⟨_, c.1, ?_⟩⟩
    · rw [if_neg (fun q => q w4)] at unf
      obtain ⟨g, o, hg⟩ := c.ro hi
      have w5 : ¬ n < 0 := fun q => by rw [Int32.lt_iff_toInt_lt] at q; rw [Int32.le_iff_toInt_le] at w4; omega
      obtain ⟨m, hm, rfl⟩ := nI_of w5
      have hm96 : m ≤ 96 := (nI_leI (b := 96) (by omega) (by decide)).mp w3
      refine ⟨_, o.1, ?_⟩
      refine begin_ev (by omega) (by omega) (by omega) o hm96 (fun h9 g9 f9 o9 z9 => ⟨rfl, ?_⟩)
      have c9 : CLs h9 (rwS st i (l, m, fun _ => 0)) := c.row' hi f9 (by simp) o9 z9 (ln_ok w1 w2)
      refine ⟨_, c9.1, ?_⟩
      refine fine_ev c9 (fun h11 c11 fc11 f11 => ⟨_, rfl, ?_⟩)
      have F9 : FC h h9 := f9.ag.fc (by simp; omega) c.2.2.2.2.2
      rw [unf, nI_clamp (by omega)] at hK
      exact ⟨(f11.z (by decide)).trans (f9.z (by simp; omega)), hK h11 c11 (F9.tr fc11)⟩
    · rw [if_pos w4] at unf
      rw [unf] at hK
      exact found_ev c (fun h16 c16 fc16 f16 => ⟨_, rfl, f16.z (by decide), hK h16 c16 fc16⟩)
theorem c_set {x i v : Int32} (c : CLs h st) (hK : ∀ h', CLs h' (opSet st x i v).2 → FC h h' → K (some (.int (opSet st x i v).1)) h') : Ev (d + 2) (0, 0) MX11_set [.ref 1, .int x, .int i, .int v] h K := by
  refine en_X11_set (bk_X11_set_0 _ _ _ _ ?_)
  refine noRow_ev (fun q => ⟨_, rfl, fun w => absurd w (by decide), fun _ => ?_⟩) (fun s hs e => ⟨_, rfl, fun _ => ?_, fun w => absurd rfl w⟩)
  · have e : opSet st x i v = badO st := by unfold opSet; rw [ixI_n q]
    rw [e] at hK
    exact ⟨rfl, hK h c FC.rf⟩
  · subst e
    obtain ⟨g, o, hg⟩ := c.ro hs
    refine ⟨_, c.f0, Or.inr ⟨_, c.rw' hs, _, o.1, ?_⟩⟩
    refine missing_ev o (fun w => ⟨_, rfl, fun w => absurd w (by decide), fun _ => ⟨_, c.1, ?_⟩⟩) (fun w => ⟨_, rfl, fun _ => ⟨_, o.1, ?_⟩, fun w => absurd rfl w⟩)
    · have e : opSet st (nI s) i v = fndO st 1 := by unfold opSet; rw [ixI_s hs (by decide)]; simp only; rw [if_pos w]
      rw [e] at hK
      exact found_ev c (fun h16 c16 fc16 f16 => ⟨_, rfl, f16.z (by decide), hK h16 c16 fc16⟩)
    · have o96 := o.2.2.1
      refine holds_ev o (fun j m e1 e2 e3 => ⟨_, rfl, fun _ => ⟨_, o.1, ?_⟩, fun w => absurd w (by decide)⟩) (fun hno => ⟨_, rfl, fun w => absurd rfl w, fun _ => ⟨_, c.1, ?_⟩⟩)
      · subst e1
        have hm : m = 1 := (nI_inj (a := 1) (by decide) (by omega) e2).symm
        subst hm
        have e : opSet st (nI s) (nI j) v = finO (lnv (st.1 s).1 v) (rwS st s ((st.1 s).1, (st.1 s).2.1, upd (st.1 s).2.2 j (lnv (st.1 s).1 v))) := by
          unfold opSet; rw [ixI_s hs (by decide)]; simp only; rw [if_neg w, ixI_s (by omega) (by omega)]
        rw [e] at hK
        refine put_ev (by omega) (by omega) o (by omega) (fun h9 f9 o9 => ⟨_, rfl, ?_⟩)
        have c9 : CLs h9 (rwS st s ((st.1 s).1, (st.1 s).2.1, upd (st.1 s).2.2 j (lnv (st.1 s).1 v))) := c.row' hs f9 (by simp) o9 (fun y hy => by
          by_cases e : y = j
          · simp [upd, e]
          · simp [upd, e, hg y hy]) (c.2.1.2 s hs).2
        refine ⟨_, c9.1, ?_⟩
        refine fine_ev c9 (fun h11 c11 fc11 f11 => ⟨_, rfl, ?_⟩)
        have F9 : FC h h9 := f9.ag.fc (by simp; omega) c.2.2.2.2.2
        exact ⟨(f11.z (by decide)).trans (f9.z (by simp; omega)), hK h11 c11 (F9.tr fc11)⟩
      · have e : opSet st (nI s) i v = fndO st 2 := by
          unfold opSet; rw [ixI_s hs (by decide)]; simp only; rw [if_neg w, ixI_n]
          apply Classical.byContradiction
          intro q
          have q1 : ¬ i < 0 := fun z => q (Or.inl z)
          have q2 : i < nI (st.1 s).2.1 := Classical.byContradiction fun z => q (Or.inr z)
          obtain ⟨j, hj, e⟩ := ixI_of (by omega) q1 q2
          exact hno ⟨j, 1, e, rfl, by omega⟩
        rw [e] at hK
        exact found_ev c (fun h16 c16 fc16 f16 => ⟨_, rfl, f16.z (by decide), hK h16 c16 fc16⟩)
theorem c_drop {x : Int32} (c : CLs h st) (hK : ∀ h', CLs h' (opDrop st x).2 → FC h h' → K (some (.int (opDrop st x).1)) h') : Ev (d + 2) (0, 0) MX11_drop [.ref 1, .int x] h K := by
  refine en_X11_drop (bk_X11_drop_0 _ _ ?_)
  refine noRow_ev (fun q => ⟨_, rfl, fun w => absurd w (by decide), fun _ => ?_⟩) (fun s hs e => ⟨_, rfl, fun _ => ?_, fun w => absurd rfl w⟩)
  · have e : opDrop st x = badO st := by unfold opDrop; rw [ixI_n q]
    rw [e] at hK
    exact ⟨rfl, hK h c FC.rf⟩
  · subst e
    obtain ⟨g, o, hg⟩ := c.ro hs
    refine ⟨_, c.f0, Or.inr ⟨_, c.rw' hs, _, o.1, ?_⟩⟩
    refine missing_ev o (fun w => ⟨_, rfl, fun w => absurd w (by decide), fun _ => ⟨_, c.1, ?_⟩⟩) (fun w => ⟨_, rfl, fun _ => ⟨_, o.fs, _, o.1, ?_⟩, fun w => absurd rfl w⟩)
    · have e : opDrop st (nI s) = fndO st 1 := by unfold opDrop; rw [ixI_s hs (by decide)]; simp only; rw [if_pos w]
      rw [e] at hK
      exact found_ev c (fun h16 c16 fc16 f16 => ⟨_, rfl, f16.z (by decide), hK h16 c16 fc16⟩)
    · have e : opDrop st (nI s) = finO (nI (st.1 s).2.1) (rwS st s (-1, 0, (st.1 s).2.2)) := by unfold opDrop; rw [ixI_s hs (by decide)]; simp only; rw [if_neg w]
      rw [e] at hK
      refine end_ev (by omega) (by omega) o (fun h9 f9 o9 => ⟨rfl, ?_⟩)
      have c9 : CLs h9 (rwS st s (-1, 0, (st.1 s).2.2)) := c.row' hs f9 (by simp) o9 hg (Or.inl rfl)
      refine ⟨_, c9.1, ?_⟩
      refine fine_ev c9 (fun h11 c11 fc11 f11 => ⟨_, rfl, ?_⟩)
      have F9 : FC h h9 := f9.ag.fc (by simp; omega) c.2.2.2.2.2
      exact ⟨(f11.z (by decide)).trans (f9.z (by simp; omega)), hK h11 c11 (F9.tr fc11)⟩
theorem c_copy {a i b j n : Int32} (c : CLs h st) (hK : ∀ h', CLs h' (opCopy st a i b j n).2 → FC h h' → K (some (.int (opCopy st a i b j n).1)) h') : Ev (d + 2) (0, 0) MX11_copy [.ref 1, .int a, .int i, .int b, .int j, .int n] h K := by
  refine en_X11_copy (bk_X11_copy_0 _ _ _ _ _ _ ?_)
  refine noRow_ev (fun q => ⟨_, rfl, fun _ => ?_, fun w => absurd w (by decide)⟩) (fun s hs e => ⟨_, rfl, fun w => absurd rfl w, fun _ => ?_⟩)
  · have e : opCopy st a i b j n = badO st := by unfold opCopy; rw [ixI_n q]
    rw [e] at hK
    exact ⟨rfl, hK h c FC.rf⟩
  subst e
  refine noRow_ev (fun q => ⟨_, rfl, fun w => absurd w (by decide), fun _ => ?_⟩) (fun u hu e => ⟨_, rfl, fun _ => ?_, fun w => absurd rfl w⟩)
  · have e : opCopy st (nI s) i b j n = badO st := by unfold opCopy; rw [ixI_s hs (by decide), ixI_n q]
    rw [e] at hK
    exact ⟨rfl, hK h c FC.rf⟩
  subst e
  have unf : opCopy st (nI s) i (nI u) j n = if (st.1 s).1 = -1 ∨ (st.1 u).1 = -1 then fndO st 1 else if ¬ (st.1 s).1 = (st.1 u).1 then fndO st 5 else match hlI (st.1 s).2.1 i n with
      | none => fndO st 2
      | some p => match hlI (st.1 u).2.1 j n with
        | none => fndO st 2
        | some q => finO n (rwS st u ((st.1 u).1, (st.1 u).2.1, va_cpy (st.1 s).2.2 (st.1 u).2.2 p.1 q.1 q.2)) := by
    unfold opCopy
    rw [ixI_s hs (by decide), ixI_s hu (by decide)]
  obtain ⟨g, o, hg⟩ := c.ro hs
  obtain ⟨g2, o2, hg2⟩ := c.ro hu
  have fnd : ∀ {x : Int32}, opCopy st (nI s) i (nI u) j n = fndO st x → Ev (d + 1) (0, 0) MX11_found [.ref 1, .int x] h (fun r h' => ∃ y : Int32, r = some (.int y) ∧ (h'.1 0 = h.1 0 ∧ K (some (.int y)) h')) := fun e => by
    rw [e] at hK
    exact found_ev c (fun h16 c16 fc16 f16 => ⟨_, rfl, f16.z (by decide), hK h16 c16 fc16⟩)
  refine ⟨_, c.f0, Or.inr ⟨_, c.rw' hs, _, c.f0, Or.inr ⟨_, c.rw' hu, _, o.1, ?_⟩⟩⟩
  refine missing_ev o (fun w => ⟨_, rfl, fun _ => ⟨_, c.1, fnd (by rw [unf, if_pos (Or.inl w)])⟩, fun w => absurd w (by decide)⟩) (fun w => ⟨_, rfl, fun w => absurd rfl w, fun _ => ⟨_, o2.1, ?_⟩⟩)
  refine missing_ev o2 (fun w2 => ⟨_, rfl, fun w => absurd w (by decide), fun _ => ⟨_, c.1, fnd (by rw [unf, if_pos (Or.inr w2)])⟩⟩) (fun w2 => ⟨_, rfl, fun _ => ⟨_, o.fl, _, o2.fl, fun w3 => ⟨_, o.1, ?_⟩, fun w3 => ⟨_, c.1, fnd (by rw [unf, if_neg (fun q => q.elim w w2), if_pos w3])⟩⟩, fun w => absurd rfl w⟩)
  rw [if_neg (fun q => q.elim w w2), if_neg (fun q => q w3)] at unf
  have o96 := o.2.2.1
  have o296 := o2.2.2.1
  refine holds_ev o (fun i' m e1 e2 e3 => ⟨_, rfl, fun w => absurd w (by decide), fun _ => ⟨_, o2.1, ?_⟩⟩) (fun hno => ⟨_, rfl, fun _ => ⟨_, c.1, fnd (by rw [unf, hlI_n hno])⟩, fun w => absurd rfl w⟩)
  subst e1
  subst e2
  rw [hlI_s e3 (by omega)] at unf
  refine holds_ev o2 (fun j' m' e1 e2 e4 => ⟨_, rfl, fun _ => ⟨_, o2.1, ?_⟩, fun w => absurd w (by decide)⟩) (fun hno => ⟨_, rfl, fun w => absurd rfl w, fun _ => ⟨_, c.1, fnd (by rw [unf, hlI_n hno])⟩⟩)
  subst e1
  have := nI_inj (by omega) (by omega) e2
  subst this
  rw [hlI_s e4 (by omega)] at unf
  refine take_ev (by omega) (by omega) o2 o (by omega) (by omega) (fun h9 f9 o9 => ⟨rfl, ?_⟩)
  have c9 : CLs h9 (rwS st u ((st.1 u).1, (st.1 u).2.1, va_cpy (st.1 s).2.2 (st.1 u).2.2 i' j' m)) := c.row' hu f9 (by simp) o9 (fun y hy => by
    unfold va_cpy
    split
    · exact hg _ (by omega)
    · exact hg2 y hy) (c.2.1.2 u hu).2
  refine ⟨_, c9.1, ?_⟩
  refine fine_ev c9 (fun h11 c11 fc11 f11 => ⟨_, rfl, ?_⟩)
  have F9 : FC h h9 := f9.ag.fc (by simp; omega) c.2.2.2.2.2
  rw [unf] at hK
  exact ⟨(f11.z (by decide)).trans (f9.z (by simp; omega)), hK h11 c11 (F9.tr fc11)⟩
end CallsA

/-! calls on what lies on the shelf, first those that make nothing; the class -/
def isK (ci : Nat) (x : Int32) : Bool := if x = 1 then ci == 8 else if x = 2 then (ci == 0 || ci == 4 || ci == 9) else if x = 3 then (ci == 0 || ci == 4) else if x = 4 then ci == 4 else true
def opClear (st : AS) (x : Int32) : Int32 × AS := match ixI x 10 with
  | none => badO st
  | some p => (match st.2.1 p with
    | none => 0
    | some _ => 1, cvS st p none)
def opKind (st : AS) (x : Int32) : Int32 × AS := match ixI x 10 with
  | none => badO st
  | some p => match st.2.1 p with
    | none => fndO st 1
    | some c => finO (knd (kcl c.1 c.2.1 c.2.2)) st
def opIs (st : AS) (x y : Int32) : Int32 × AS := match ixI x 10 with
  | none => badO st
  | some p => if y < 0 ∨ ¬ y < 5 then badO st else match st.2.1 p with
    | none => (0, st)
    | some c => (if isK (kcl c.1 c.2.1 c.2.2) y = true then 1 else 0, st)
def opAs (st : AS) (x y : Int32) : Int32 × AS := match ixI x 10 with
  | none => badO st
  | some p => if y < 0 ∨ ¬ y < 5 then badO st else match st.2.1 p with
    | none => fndO st 1
    | some c => if isK (kcl c.1 c.2.1 c.2.2) y = true then finO (nI c.1) st else fndO st 3
def opTrace (st : AS) (x : Int32) : Int32 × AS := match ixI x st.2.2.1.1 with
  | none => (-1000000, st)
  | some i => (st.2.2.1.2 i, st)
def opStatus (st : AS) : Int32 × AS := (st.2.2.2, st)
def tr0 : trc := (0, fun _ => 0)
def opAsk (st : AS) (x y : Int32) : Int32 × AS := match ixI x 10 with
  | none => badO st
  | some p => if y < 0 ∨ ¬ y ≤ 1 then badO st else match st.2.1 p with
    | none => fndO (trS st tr0) 1
    | some c => if y = 0 then finO (szV (kcl c.1 c.2.1 c.2.2) c.1 c.2.1 c.2.2) (trS st (szT (kcl c.1 c.2.1 c.2.2) tr0)) else finO (mkV (kcl c.1 c.2.1 c.2.2) c.1 c.2.1 c.2.2) (trS st (mkT (kcl c.1 c.2.1 c.2.2) tr0))
def cntC (st : AS) (x : Int32) (p : Nat) : Bool := match st.2.1 p with
  | none => false
  | some c => if x = 6 then pn c.1 c.2.1 c.2.2 == 1 else isK (kcl c.1 c.2.1 c.2.2) (x - 1)
def opCount (st : AS) (x : Int32) : Int32 × AS := if x < 0 ∨ ¬ x ≤ 6 then badO st else if x = 0 then (nI (cn (fun i => !((st.1 i).1 == -1)) 8), st) else (nI (cn (cntC st x) 10), st)
theorem isa_K : ∀ ci ∈ [0, 1, 4, 8, 9], m_isa ci 8 = isK ci 1 ∧ m_isa ci 9 = isK ci 2 ∧ m_isa ci 0 = isK ci 3 ∧ m_isa ci 4 = isK ci 4 := by decide
section CallsB
variable {d : Nat} {h : mH} {st : AS} {K : Option Value → mH → Prop}
theorem ofKind_ev {a ta ci n k pr : Nat} {t : Nat → Nat → Nat} {x : Int32} (c : CO h a ta ci n k t pr) (hK : K (some (.int (if isK ci x = true then 1 else 0))) h) : Ev d (0, 0) MX11_ofKind [.ref a, .int x] h K := by
  obtain ⟨k1, k2, k3, k4⟩ := isa_K ci c.2.2.1
  have two : ∀ b : Bool, (if b = true then (1 : Int32) else 0) = 0 ∨ (if b = true then (1 : Int32) else 0) = 1 := by decide
  refine en_X11_ofKind (bk_X11_ofKind_0 _ _ ⟨fun e => ⟨_, _, c.1, c.2.2.1, two _, rfl, ?_⟩, fun e => ⟨_, _, c.1, c.2.2.1, two _, rfl, ?_⟩, fun e => ⟨_, _, c.1, c.2.2.1, two _, rfl, ?_⟩, fun e => ⟨_, _, c.1, c.2.2.1, two _, rfl, ?_⟩, fun e1 e2 e3 e4 => ⟨rfl, ?_⟩⟩)
  · subst e; rw [k1]; exact hK
  · subst e; rw [k2]; exact hK
  · subst e; rw [k3]; exact hK
  · subst e; rw [k4]; exact hK
  · have : isK ci x = true := by unfold isK; rw [if_neg e1, if_neg e2, if_neg e3, if_neg e4]
    rw [this] at hK
    exact hK
theorem c_status (c : CLs h st) (hK : K (some (.int (opStatus st).1)) h) : Ev d (0, 0) MX11_status [.ref 1] h K := en_X11_status (bk_X11_status_0 _ ⟨_, c.f7, rfl, hK⟩)
theorem c_clear {x : Int32} (c : CLs h st) (hK : ∀ h', CLs h' (opClear st x).2 → FC h h' → K (some (.int (opClear st x).1)) h') : Ev (d + 1) (0, 0) MX11_clear [.ref 1, .int x] h K := by
  have h57 := c.2.2.2.2.2
  refine en_X11_clear (bk_X11_clear_0 _ _ ?_)
  refine noPlace_ev (fun q => ⟨_, rfl, fun w => absurd w (by decide), fun _ => ?_⟩) (fun p hp e => ⟨_, rfl, fun _ => ⟨_, c.f1, ?_⟩, fun w => absurd rfl w⟩)
  · have e : opClear st x = badO st := by unfold opClear; rw [ixI_n q]
    rw [e] at hK
    exact ⟨rfl, hK h c FC.rf⟩
  subst e
  obtain ⟨F, e1, e2⟩ := c.2.2.1
  have put : ∃ h7, m_rs h 19 (nI p) .null = some h7 ∧ Fr [19] h h7 ∧ CLs h7 (cvS st p none) := by
    refine ⟨_, rs_N e1 hp (by decide), Fr.up (List.mem_singleton.mpr rfl), ?_⟩
    have f5 : Fr [19] h (m_up h.1 19 (.inl (4, 10, .inr (.inr (.inr (.inr (va_up F p none)))))), h.2) := Fr.up (List.mem_singleton.mpr rfl)
    have g := f5.ag
    refine ⟨c.1.ag g (by simp) h57, c.2.1.ag g (by simp) h57, ⟨va_up F p none, up_s, fun q hq => ?_⟩, c.2.2.2.1.ag g (by simp) h57, c.2.2.2.2.1.ag g (by simp) h57, h57⟩
    show CLp _ (va_up F p none q) (if q = p then none else st.2.1 q)
    by_cases w : q = p
    · rw [if_pos w]
      exact Or.inl ⟨rfl, by simp [va_up, w]⟩
    · rw [if_neg w]
      have : va_up F p none q = F q := by simp [va_up, w]
      rw [this]
      exact (e2 q hq).ag g (by simp)
  obtain ⟨h7, r7, f7, c7⟩ := put
  have unf : opClear st (nI p) = (match st.2.1 p with
    | none => 0
    | some _ => 1, cvS st p none) := by unfold opClear; rw [ixI_s hp (by decide)]
  cases hc : st.2.1 p with
  | none =>
    rw [hc] at unf
    rw [unf] at hK
    exact Or.inl ⟨c.no hp hc, _, c.f1, h7, r7, f7.z (by decide), hK h7 c7 (f7.ag.fc (by simp) h57)⟩
  | some v =>
    rw [hc] at unf
    rw [unf] at hK
    obtain ⟨a, ta, q, -⟩ := c.cv hp (n := v.1) (k := v.2.1) (t := v.2.2) hc
    exact Or.inr ⟨a, q, _, c.f1, h7, r7, f7.z (by decide), hK h7 c7 (f7.ag.fc (by simp) h57)⟩
theorem c_kind {x : Int32} (c : CLs h st) (hK : ∀ h', CLs h' (opKind st x).2 → FC h h' → K (some (.int (opKind st x).1)) h') : Ev (d + 1) (0, 0) MX11_kind [.ref 1, .int x] h K := by
  refine en_X11_kind (bk_X11_kind_0 _ _ ?_)
  refine noPlace_ev (fun q => ⟨_, rfl, fun w => absurd w (by decide), fun _ => ?_⟩) (fun p hp e => ⟨_, rfl, fun _ => ⟨_, c.f1, ?_⟩, fun w => absurd rfl w⟩)
  · have e : opKind st x = badO st := by unfold opKind; rw [ixI_n q]
    rw [e] at hK
    exact ⟨rfl, hK h c FC.rf⟩
  subst e
  cases hc : st.2.1 p with
  | none =>
    have unf : opKind st (nI p) = fndO st 1 := by unfold opKind; rw [ixI_s hp (by decide)]; simp only; rw [hc]
    rw [unf] at hK
    exact Or.inl ⟨c.no hp hc, _, c.1, found_ev c (fun h16 c16 fc16 f16 => ⟨_, rfl, f16.z (by decide), hK h16 c16 fc16⟩)⟩
  | some v =>
    have unf : opKind st (nI p) = finO (knd (kcl v.1 v.2.1 v.2.2)) st := by unfold opKind; rw [ixI_s hp (by decide)]; simp only; rw [hc]
    rw [unf] at hK
    obtain ⟨a, ta, q, -, -, -, -, co⟩ := c.cv hp (n := v.1) (k := v.2.1) (t := v.2.2) hc
    exact Or.inr ⟨a, q, _, _, co.1, co.2.2.1, kindNumber_ev co.2.2.1 ⟨_, rfl, _, c.1, fine_ev c (fun h16 c16 fc16 f16 => ⟨_, rfl, f16.z (by decide), hK h16 c16 fc16⟩)⟩⟩
theorem c_is {x y : Int32} (c : CLs h st) (hK : K (some (.int (opIs st x y).1)) h) : Ev (d + 1) (0, 0) MX11_is [.ref 1, .int x, .int y] h K := by
  refine en_X11_is (bk_X11_is_0 _ _ _ ?_)
  refine noPlace_ev (fun q => ⟨_, rfl, fun _ => ?_, fun w => absurd w (by decide)⟩) (fun p hp e => ⟨_, rfl, fun w => absurd rfl w, fun _ => ?_⟩)
  · have e : opIs st x y = badO st := by unfold opIs; rw [ixI_n q]
    rw [e] at hK
    exact ⟨rfl, hK⟩
  subst e
  have unf : opIs st (nI p) y = if y < 0 ∨ ¬ y < 5 then badO st else match st.2.1 p with
    | none => (0, st)
    | some c => (if isK (kcl c.1 c.2.1 c.2.2) y = true then 1 else 0, st) := by unfold opIs; rw [ixI_s hp (by decide)]
  refine ⟨fun w => ⟨rfl, ?_⟩, fun w => ⟨fun w2 => ⟨_, c.f1, ?_⟩, fun w2 => ⟨rfl, ?_⟩⟩⟩
  · rw [unf, if_pos (Or.inl w)] at hK; exact hK
  · rw [if_neg (fun q => q.elim w (fun q => q w2))] at unf
    cases hc : st.2.1 p with
    | none =>
      rw [hc] at unf
      rw [unf] at hK
      refine Or.inl ⟨c.no hp hc, ?_⟩
      have z : ∃ x8 : Int32, (some (.int 0) : Option Value) = some (.int x8) ∧ ((x8 = 0 → h.1 0 = h.1 0 ∧ K (some (.int 0)) h) ∧ (¬ (x8 = 0) → h.1 0 = h.1 0 ∧ K (some (.int 1)) h)) := ⟨0, rfl, fun _ => ⟨rfl, hK⟩, fun q => absurd rfl q⟩
      exact en_X11_ofKindn (bk_X11_ofKind_0n _ ⟨fun _ => ⟨rfl, z⟩, fun _ => ⟨rfl, z⟩, fun _ => ⟨rfl, z⟩, fun _ => ⟨rfl, z⟩, fun _ _ _ _ => ⟨rfl, z⟩⟩)
    | some v =>
      rw [hc] at unf
      rw [unf] at hK
      have hK : K (some (.int (if isK (kcl v.1 v.2.1 v.2.2) y = true then 1 else 0))) h := hK
      obtain ⟨a, ta, q, -, -, -, -, co⟩ := c.cv hp (n := v.1) (k := v.2.1) (t := v.2.2) hc
      refine Or.inr ⟨a, q, ofKind_ev co ⟨_, rfl, fun z => ⟨rfl, ?_⟩, fun z => ⟨rfl, ?_⟩⟩⟩
      · by_cases e : isK (kcl v.1 v.2.1 v.2.2) y = true
        · rw [if_pos e] at z; exact absurd z (by decide)
        · rw [if_neg e] at hK; exact hK
      · by_cases e : isK (kcl v.1 v.2.1 v.2.2) y = true
        · rw [if_pos e] at hK; exact hK
        · rw [if_neg e] at z; exact absurd rfl z
  · rw [unf, if_pos (Or.inr w2)] at hK; exact hK
theorem c_as {x y : Int32} (c : CLs h st) (hK : ∀ h', CLs h' (opAs st x y).2 → FC h h' → K (some (.int (opAs st x y).1)) h') : Ev (d + 1) (0, 0) MX11_as [.ref 1, .int x, .int y] h K := by
  refine en_X11_as (bk_X11_as_0 _ _ _ ?_)
  have bad : opAs st x y = badO st → h.1 0 = h.1 0 ∧ K (some (.int (-1000001))) h := fun e => by
    rw [e] at hK
    exact ⟨rfl, hK h c FC.rf⟩
  refine noPlace_ev (fun q => ⟨_, rfl, fun _ => bad ?_, fun w => absurd w (by decide)⟩) (fun p hp e => ⟨_, rfl, fun w => absurd rfl w, fun _ => ?_⟩)
  · unfold opAs; rw [ixI_n q]
  subst e
  have unf : opAs st (nI p) y = if y < 0 ∨ ¬ y < 5 then badO st else match st.2.1 p with
    | none => fndO st 1
    | some c => if isK (kcl c.1 c.2.1 c.2.2) y = true then finO (nI c.1) st else fndO st 3 := by unfold opAs; rw [ixI_s hp (by decide)]
  refine ⟨fun w => bad (by rw [unf, if_pos (Or.inl w)]), fun w => ⟨fun w2 => ⟨_, c.f1, ?_⟩, fun w2 => bad (by rw [unf, if_pos (Or.inr w2)])⟩⟩
  rw [if_neg (fun q => q.elim w (fun q => q w2))] at unf
  cases hc : st.2.1 p with
  | none =>
    rw [hc] at unf
    rw [unf] at hK
    exact Or.inl ⟨c.no hp hc, _, c.1, found_ev c (fun h16 c16 fc16 f16 => ⟨_, rfl, f16.z (by decide), hK h16 c16 fc16⟩)⟩
  | some v =>
    rw [hc] at unf
    simp only at unf
    obtain ⟨a, ta, q, -, -, -, -, co⟩ := c.cv hp (n := v.1) (k := v.2.1) (t := v.2.2) hc
    refine Or.inr ⟨a, q, ofKind_ev co ⟨_, rfl, fun z => ⟨_, c.1, ?_⟩, fun z => ⟨_, co.fn, _, c.1, ?_⟩⟩⟩
    · have e : ¬ isK (kcl v.1 v.2.1 v.2.2) y = true := fun e => by rw [if_pos e] at z; exact absurd z (by decide)
      rw [unf, if_neg e] at hK
      exact found_ev c (fun h16 c16 fc16 f16 => ⟨_, rfl, f16.z (by decide), hK h16 c16 fc16⟩)
    · have e : isK (kcl v.1 v.2.1 v.2.2) y = true := Classical.byContradiction fun e => by rw [if_neg e] at z; exact absurd rfl z
      rw [unf, if_pos e] at hK
      exact fine_ev c (fun h16 c16 fc16 f16 => ⟨_, rfl, f16.z (by decide), hK h16 c16 fc16⟩)
theorem c_trace {x : Int32} (c : CLs h st) (hK : K (some (.int (opTrace st x).1)) h) : Ev (d + 2) (0, 0) MX11_trace [.ref 1, .int x] h K := by
  obtain ⟨g, o, e1, e2⟩ := c.2.2.2.1
  refine en_X11_trace (bk_X11_trace_0 _ _ ⟨_, c.f2, _, o.1, ?_⟩)
  have o16 := o.2.2.1
  refine holds_ev o (fun j m q1 q2 q3 => ⟨_, rfl, fun w => absurd w (by decide), fun _ => ⟨_, c.f2, _, o.1, ?_⟩⟩) (fun hno => ⟨_, rfl, fun _ => ⟨rfl, ?_⟩, fun w => absurd rfl w⟩)
  · subst q1
    have hm : m = 1 := (nI_inj (a := 1) (by decide) (by omega) q2).symm
    subst hm
    refine item_ev o (by omega) ⟨_, rfl, rfl, ?_⟩
    have unf : opTrace st (nI j) = (st.2.2.1.2 j, st) := by unfold opTrace; rw [ixI_s (by omega) (by omega)]
    rw [unf] at hK
    rw [e2 j (by omega)]
    exact hK
  · have unf : opTrace st x = (-1000000, st) := by
      unfold opTrace
      rw [ixI_n]
      apply Classical.byContradiction
      intro q
      have q1 : ¬ x < 0 := fun z => q (Or.inl z)
      have q2 : x < nI st.2.2.1.1 := Classical.byContradiction fun z => q (Or.inr z)
      obtain ⟨j, hj, e⟩ := ixI_of (by omega) q1 q2
      exact hno ⟨j, 1, e, rfl, by omega⟩
    rw [unf] at hK
    exact hK
theorem c_ask {x y : Int32} (c : CLs h st) (hK : ∀ h', CLs h' (opAsk st x y).2 → FC h h' → K (some (.int (opAsk st x y).1)) h') : Ev (d + 6) (0, 0) MX11_ask [.ref 1, .int x, .int y] h K := by
  have h57 := c.2.2.2.2.2
  refine en_X11_ask (bk_X11_ask_0 _ _ _ ?_)
  have bad : opAsk st x y = badO st → h.1 0 = h.1 0 ∧ K (some (.int (-1000001))) h := fun e => by
    rw [e] at hK
    exact ⟨rfl, hK h c FC.rf⟩
  refine noPlace_ev (fun q => ⟨_, rfl, fun _ => bad ?_, fun w => absurd w (by decide)⟩) (fun p hp e => ⟨_, rfl, fun w => absurd rfl w, fun _ => ?_⟩)
  · unfold opAsk; rw [ixI_n q]
  subst e
  have unf : opAsk st (nI p) y = if y < 0 ∨ ¬ y ≤ 1 then badO st else match st.2.1 p with
    | none => fndO (trS st tr0) 1
    | some c => if y = 0 then finO (szV (kcl c.1 c.2.1 c.2.2) c.1 c.2.1 c.2.2) (trS st (szT (kcl c.1 c.2.1 c.2.2) tr0)) else finO (mkV (kcl c.1 c.2.1 c.2.2) c.1 c.2.1 c.2.2) (trS st (mkT (kcl c.1 c.2.1 c.2.2) tr0)) := by unfold opAsk; rw [ixI_s hp (by decide)]
  refine ⟨fun w => bad (by rw [unf, if_pos (Or.inl w)]), fun w => ⟨fun w2 => ?_, fun w2 => bad (by rw [unf, if_pos (Or.inr w2)])⟩⟩
  rw [if_neg (fun q => q.elim w (fun q => q w2))] at unf
  obtain ⟨g, o, e1, e2⟩ := c.2.2.2.1
  refine ⟨_, c.f2, _, o.1, ?_⟩
  refine begin_ev (n := 0) (by decide) (by decide) (by decide) o (by decide) (fun h6 g6 f6 o6 z6 => ⟨rfl, ?_⟩)
  have t6 : TR h6 (0, g6) := o6
  have q6 : tqv (0, g6) tr0 := ⟨rfl, fun x hx => absurd hx (by show ¬ x < 0; omega)⟩
  have c6 : CLs h6 (trS st tr0) := c.tr' f6 t6 q6
  have F6 : FC h h6 := f6.ag.fc (by simp) h57
  refine ⟨_, c6.f1, ?_⟩
  cases hc : st.2.1 p with
  | none =>
    rw [hc] at unf
    rw [unf] at hK
    exact Or.inl ⟨c6.no hp hc, _, c6.1, found_ev c6 (fun h16 c16 fc16 f16 => ⟨_, rfl, (f16.z (by decide)).trans (f6.z (by decide)), hK h16 c16 (F6.tr fc16)⟩)⟩
  | some v =>
    rw [hc] at unf
    simp only at unf
    obtain ⟨a, ta, q, g1, -, g3, -, co⟩ := c6.cv hp (n := v.1) (k := v.2.1) (t := v.2.2) hc
    refine Or.inr ⟨a, q, fun z => ⟨_, c6.f2, _, _, co.1, co.2.2.1, ?_⟩, fun z => ⟨_, c6.f2, _, _, co.1, co.2.2.1, ?_⟩⟩
    · rw [unf, if_neg z] at hK
      refine markAsked_ev rfl co g1 g3 t6 (fun h7 f7 t7 => ⟨_, rfl, ?_⟩)
      have c7 : CLs h7 (trS st (mkT (kcl v.1 v.2.1 v.2.2) tr0)) := c.tr' (f6.tr f7) t7 (mkT_q q6)
      have F7 : FC h h7 := (f6.tr f7).ag.fc (by simp) h57
      exact ⟨_, c7.1, fine_ev c7 (fun h16 c16 fc16 f16 => ⟨_, rfl, (f16.z (by decide)).trans ((f6.tr f7).z (by decide)), hK h16 c16 (F7.tr fc16)⟩)⟩
    · rw [unf, if_pos z] at hK
      refine sizeAsked_ev rfl co g1 g3 t6 (fun h7 f7 t7 => ⟨_, rfl, ?_⟩)
      have c7 : CLs h7 (trS st (szT (kcl v.1 v.2.1 v.2.2) tr0)) := c.tr' (f6.tr f7) t7 (szT_q q6)
      have F7 : FC h h7 := (f6.tr f7).ag.fc (by simp) h57
      exact ⟨_, c7.1, fine_ev c7 (fun h16 c16 fc16 f16 => ⟨_, rfl, (f16.z (by decide)).trans ((f6.tr f7).z (by decide)), hK h16 c16 (F7.tr fc16)⟩)⟩
theorem rowsThere_ev (c : CLs h st) (hK : K (some (.int (nI (cn (fun i => !((st.1 i).1 == -1)) 8)))) h) : Ev (d + 1) (0, 0) MX11_rowsThere [.ref 1] h K := by
  refine en_X11_rowsThere (bk_X11_rowsThere_0 _ ?_)
  refine dn (n := 8) (fun i => Wm (d + 1) (0, 0) JX11_rowsThere 4 [some (.ref 1), some (.int (nI (cn (fun i => !((st.1 i).1 == -1)) i))), some (.int (nI i))] [] h (fun r h' => h'.1 0 = h.1 0 ∧ K r h')) ?_ ?_ 0 (Nat.zero_le _)
  · exact bk_X11_rowsThere_4 _ _ _ ⟨fun _ => ⟨rfl, hK⟩, fun q => absurd (le_t (a := 8) (b := 8) (by decide) (by decide)) q⟩
  · intro i hi ih
    obtain ⟨g, o, hg⟩ := c.ro hi
    refine bk_X11_rowsThere_4 _ _ _ ⟨fun q => absurd q (le_f (a := 8) (b := i) hi (by decide)), fun _ => ⟨_, c.f0, Or.inr ⟨_, c.rw' hi, _, o.1, ?_⟩⟩⟩
    rw [cn_succ] at ih
    refine missing_ev o (fun w => ⟨_, rfl, fun _ => ?_, fun w => absurd w (by decide)⟩) (fun w => ⟨_, rfl, fun w => absurd rfl w, fun _ => ?_⟩)
    · rw [nI_1]
      rw [if_neg (by simp [w])] at ih
      exact ih
    · rw [nI_1, nI_1]
      rw [if_pos (by simp [w])] at ih
      exact ih
theorem pn_le (n k : Nat) (t : Nat → Nat → Nat) : pn n k t ≤ n := cn_le _ _
theorem coversThere_ev {x : Int32} (c : CLs h st) (hK : K (some (.int (nI (cn (cntC st x) 10)))) h) : Ev (d + 1) (0, 0) MX11_coversThere [.ref 1, .int x] h K := by
  refine en_X11_coversThere (bk_X11_coversThere_0 _ _ ?_)
  refine dn (n := 10) (fun i => Wm (d + 1) (0, 0) JX11_coversThere 4 [some (.ref 1), some (.int x), some (.int (nI (cn (cntC st x) i))), some (.int (nI i)), none] [] h (fun r h' => h'.1 0 = h.1 0 ∧ K r h')) ?_ ?_ 0 (Nat.zero_le _)
  · exact bk_X11_coversThere_4 _ _ _ _ ⟨fun _ => ⟨rfl, hK⟩, fun q => absurd (le_t (a := 10) (b := 10) (by decide) (by decide)) q⟩
  · intro p hp ih
    refine bk_X11_coversThere_4 _ _ _ _ ⟨fun q => absurd q (le_f (a := 10) (b := p) hp (by decide)), fun _ => ⟨_, c.f1, ?_⟩⟩
    rw [cn_succ] at ih
    cases hc : st.2.1 p with
    | none =>
      have e : cntC st x p = false := by unfold cntC; rw [hc]
      rw [if_neg (by rw [e]; decide)] at ih
      rw [nI_1]
      exact Or.inl ⟨c.no hp hc, ih⟩
    | some v =>
      have e : cntC st x p = if x = 6 then pn v.1 v.2.1 v.2.2 == 1 else isK (kcl v.1 v.2.1 v.2.2) (x - 1) := by unfold cntC; rw [hc]
      obtain ⟨a, ta, q, g1, -, g3, -, co⟩ := c.cv hp (n := v.1) (k := v.2.1) (t := v.2.2) hc
      refine Or.inr ⟨a, q, fun z => ?_, fun z => ⟨_, _, co.1, co.2.2.1, ?_⟩⟩
      · rw [if_neg z] at e
        refine ofKind_ev co ⟨_, rfl, fun z2 => ?_, fun z2 => ?_⟩
        · rw [if_neg (fun w => by rw [e] at w; rw [if_pos w] at z2; exact absurd z2 (by decide))] at ih
          rw [nI_1]
          exact ih
        · rw [if_pos (Classical.byContradiction fun w => by rw [e] at w; rw [if_neg w] at z2; exact absurd rfl z2)] at ih
          rw [nI_1, nI_1]
          exact ih
      · rw [if_pos z] at e
        have b := pn_le v.1 v.2.1 v.2.2
        have b2 := co.n12
        refine whole_ev co (fun w => ⟨_, rfl, fun _ => ?_, fun w => absurd rfl w⟩) (fun w => ⟨_, rfl, fun w => absurd w (by decide), fun _ => ?_⟩)
        · rw [if_neg (fun q => by rw [e] at q; exact w (by rw [show pn v.1 v.2.1 v.2.2 = 1 by simpa using q]; rfl))] at ih
          rw [nI_1]
          exact ih
        · have w := nI_inj (b := 1) (by omega) (by decide) w
          rw [if_pos (by rw [e, w]; rfl)] at ih
          rw [nI_1, nI_1]
          exact ih
theorem c_count {x : Int32} (c : CLs h st) (hK : K (some (.int (opCount st x).1)) h) : Ev (d + 2) (0, 0) MX11_count [.ref 1, .int x] h K := by
  refine en_X11_count (bk_X11_count_0 _ _ ?_)
  refine ⟨fun w => ⟨rfl, ?_⟩, fun w => ⟨fun w2 => ⟨fun z => ⟨_, c.1, ?_⟩, fun z => ⟨_, c.1, ?_⟩⟩, fun w2 => ⟨rfl, ?_⟩⟩⟩
  · unfold opCount at hK
    rw [if_pos (Or.inl w)] at hK
    exact hK
  · unfold opCount at hK
    rw [if_neg (fun q => q.elim w (fun q => q w2)), if_neg z] at hK
    exact coversThere_ev c ⟨_, rfl, rfl, hK⟩
  · unfold opCount at hK
    rw [if_neg (fun q => q.elim w (fun q => q w2)), if_pos z] at hK
    exact rowsThere_ev c ⟨_, rfl, rfl, hK⟩
  · unfold opCount at hK
    rw [if_pos (Or.inr w2)] at hK
    exact hK
end CallsB

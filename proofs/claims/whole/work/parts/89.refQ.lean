/-! the reference: joins -/
theorem FS.ex {r r' : rst} {n s : Nat} (S : FS r n s) (x : ex [54] r r') : FS r' n s := ⟨by rw [x.1]; exact S.1, fun s' hs k hk => by rw [x.at _ (by simp)]; exact S.2 s' hs k hk⟩
theorem FS.wl {r : rst} {n s a j : Nat} {x : Int64} (S : FS r n s) : FS (wl r a j x) n s := S
theorem wl_at {r : rst} {a j : Nat} {x : Int64} (i : Nat) : (wl r a j x).2.2 a i = if i = j then x else r.2.2 a i := by
  show (if a = a then vp_updL (r.2.2 a) j x else r.2.2 a) i = _
  rw [if_pos rfl]
  rfl
theorem wl_j {r : rst} {a j : Nat} {x : Int64} : (wl r a j x).2.2 a j = x := by rw [wl_at, if_pos rfl]
theorem wl_i {r : rst} {a j i : Nat} {x : Int64} (h : i ≠ j) : (wl r a j x).2.2 a i = r.2.2 a i := by rw [wl_at, if_neg h]
theorem wl_n {r : rst} {a b j : Nat} {x : Int64} (h : b ≠ a) : (wl r a j x).2.2 b = r.2.2 b := if_neg h
theorem rjo_0 (n t a : Nat) (W : List Nat) : ∀ b, b ≤ a + 1 → rjo n t a W b = 0
  | 0, _ => rfl
  | b + 1, h => by
    unfold rjo
    rw [rjo_0 n t a W b (by omega), if_neg (fun q => by omega)]
section RefJoins
variable {d : Nat} {h : mH} {r : rst} {st : AS} {K : Option Value → mH → Prop}
theorem r_joins {x y z : Int32} (F : RFs h st) (w : wfS st) (hK : ∀ h', RFs h' st → FR h h' → K (some (.long (opJoins x y z))) h') : Ev (d + 1) (0, 0) MX12_joins [.ref 34, .int x, .int y, .int z] h K := by
  obtain ⟨r, o, s⟩ := F
  obtain ⟨h1, e1, f1, o1⟩ := o.p0 (x := 0)
  have s1 : rfS (w0 r 0) st := s.kp w kp.w0 s.1
  refine en_X12_joins (bk_X12_joins_0 _ _ _ _ ⟨h1, e1, ?_⟩)
  refine rin_ev (lo := 2) (hi := 10) (by decide) (by decide) (fun q => ⟨_, rfl, fun _ => ⟨f1.z, ?_⟩, fun z => absurd rfl z⟩) (fun v1 v2 => ⟨_, rfl, fun z => absurd z (by decide), fun _ => ?_⟩)
  · have := hK h1 ⟨_, o1, s1⟩ f1
    unfold opJoins at this
    rw [if_pos (q.elim Or.inl (fun q => Or.inr (Or.inl q)))] at this
    exact this
  refine rin_ev (lo := 0) (hi := 9) (by decide) (by decide) (fun q => ⟨_, rfl, fun z => absurd rfl z, fun _ => ⟨f1.z, ?_⟩⟩) (fun v3 v4 => ⟨_, rfl, fun _ => ⟨_, o1.1, ?_⟩, fun z => absurd z (by decide)⟩)
  · have := hK h1 ⟨_, o1, s1⟩ f1
    unfold opJoins at this
    rw [if_pos (q.elim (fun q => Or.inr (Or.inr (Or.inl q))) (fun q => Or.inr (Or.inr (Or.inr (gt9.mp q)))))] at this
    exact this
  have v3' : y ≤ 9 := Classical.byContradiction fun z => v4 (gt9.mpr z)
  have v2' : x ≤ 10 := Classical.byContradiction fun z => v2 (gt10.mpr z)
  have z1 : ¬ x < 0 := fun q => v1 (by rw [Int32.lt_iff_toInt_lt] at q ⊢; have : (0 : Int32).toInt = 0 := rfl; have : (2 : Int32).toInt = 2 := rfl; omega)
  obtain ⟨n, hn31, rfl⟩ := nI_of z1
  obtain ⟨m, hm31, rfl⟩ := nI_of v3
  have n2 : 2 ≤ n := by
    rcases Nat.lt_or_ge n 2 with q | q
    · exact absurd (lt_t (b := 2) q (by decide)) v1
    · exact q
  have n10' : n ≤ 10 := (nI_leI (b := 10) (by omega) (by decide)).mp v2'
  have m9 : m ≤ 9 := (nI_leI (b := 9) (by omega) (by decide)).mp v3'
  have unf : opJoins (nI n) (nI m) z = match ixI z (pT n).length with
      | none => -1000001
      | some s => lN (wA n m s) := by
    unfold opJoins
    rw [if_neg (fun q => q.elim v1 (fun q => q.elim v2 (fun q => q.elim v3 (fun q => q v3')))), nI_clamp hn31, nI_clamp hm31]
    rfl
  have hn : n < 11 := by omega
  obtain ⟨-, t42, t1⟩ := tb_len n hn
  have t1 := t1 (by omega)
  refine rfind_ev o1 (by omega) hn (fun h2 r2 f2 o2 x2 S2 => ⟨rfl, _, o2.f21, ?_⟩)
  have F2 := f1.tr f2
  have e21 : ∀ r' : rst, FS r' n ((pT n).length - 1) → r'.1.2.2.2 = nI (pT n).length := fun r' S => by rw [S.1, show (pT n).length - 1 + 1 = (pT n).length by omega]
  have kk : ∀ h' r', FR h h' → RR h' r' → xe [53, 54] (w0 r 0) r' → K (some (.long (opJoins (nI n) (nI m) z))) h' := fun h' r' f' o' x' => hK h' ⟨r', o', s1.kp w (x'.kp (by simp)) (by rw [x'.1.2.1]; exact s1.1)⟩ f'
  rw [unf] at kk
  rw [e21 r2 S2]
  refine rin0_ev (N := (pT n).length) (by omega) rfl (fun q2 => ⟨_, rfl, fun z => absurd rfl z, fun _ => ⟨F2.z, ?_⟩⟩) (fun t0 ht0 e q2 => ⟨_, rfl, fun _ => ?_, fun z => absurd z (by decide)⟩)
  · rw [q2] at kk
    exact kk h2 r2 F2 o2 (x2.wk (by simp))
  rw [q2] at kk
  simp only at kk
  subst e
  have x2 : xe [53, 54] (w0 r 0) r2 := x2.wk (by simp)
  -- the steps
  have steps : ∀ c s h1 r1, s + c = m → FR h h1 → RR h1 r1 → xe [53, 54] (w0 r 0) r1 → FS r1 n ((pT n).length - 1) → (∀ t, t < (pT n).length → r1.2.2 55 t = lN (wA n s t)) → Wm (d + 1) (0, 0) JX12_joins 104 [some (.ref 34), none, some (.int (nI m)), some (.int (nI t0)), some (.int (nI s)), none, none, none, none, none, none, none] [] h1 (fun r h' => h'.1 0 = h.1 0 ∧ K r h') := by
    intro c
    induction c with
    | zero =>
      intro s h1 r1 hs f1 o1 x1 S1 W1
      have hs : s = m := by omega
      subst hs
      refine bk_X12_joins_104 _ _ _ _ ⟨fun _ => ⟨_, o1.f24, _, o1.ll 55 (by decide) (by omega), f1.z, ?_⟩, fun z => absurd (le_t (Nat.le_refl _) (by omega)) z⟩
      rw [W1 t0 ht0]
      exact kk h1 r1 f1 o1 x1
    | succ c ih =>
      intro s h1 r1 hs f1 o1 x1 S1 W1
      refine bk_X12_joins_104 _ _ _ _ ⟨fun z => absurd z (le_f (by omega) (by omega)), fun _ => ?_⟩
      -- the rows copied
      have copy : ∀ c' t h1 r1, t + c' = (pT n).length → FR h h1 → RR h1 r1 → xe [53, 54] (w0 r 0) r1 → FS r1 n ((pT n).length - 1) → (∀ t', t' < t → r1.2.2 55 t' = lN (wA n (s + 1) t')) → (∀ t', t' < (pT n).length → r1.2.2 56 t' = lN (wA n (s + 1) t')) → Wm (d + 1) (0, 0) JX12_joins 318 [some (.ref 34), none, some (.int (nI m)), some (.int (nI t0)), some (.int (nI s)), some (.int (nI t)), none, none, none, none, none, none] [] h1 (fun r h' => h'.1 0 = h.1 0 ∧ K r h') := by
        intro c'
        induction c' with
        | zero =>
          intro t h1 r1 ht f1 o1 x1 S1 W1 T1
          have ht : t = (pT n).length := by omega
          subst ht
          refine bk_X12_joins_318 _ _ _ _ _ ⟨_, o1.f21, ?_⟩
          rw [e21 r1 S1, nI_1]
          exact ⟨fun _ => ih (s + 1) h1 r1 (by omega) f1 o1 x1 S1 W1, fun z => absurd (le_t (Nat.le_refl _) (by omega)) z⟩
        | succ c' ihc =>
          intro t h1 r1 ht f1 o1 x1 S1 W1 T1
          obtain ⟨h5, e5, f5, o5⟩ := o1.ls (x := lN (wA n (s + 1) t)) (j := t) 55 (by decide) (by omega)
          refine bk_X12_joins_318 _ _ _ _ _ ⟨_, o1.f21, ?_⟩
          rw [e21 r1 S1]
          refine ⟨fun z => absurd z (le_f (by omega) (by omega)), fun _ => ⟨_, o1.f24, _, o1.f25, _, o1.ll 56 (by decide) (by omega), ?_⟩⟩
          rw [T1 t (by omega), nI_1]
          refine ⟨h5, e5, ihc (t + 1) h5 _ (by omega) (f1.tr f5) o5 (x1.tr xe.wl) S1 (fun t' ht' => ?_) (fun t' ht' => ?_)⟩
          · by_cases q : t' = t
            · rw [q, wl_j]
            · rw [wl_i q]; exact W1 t' (by omega)
          · rw [wl_n (by decide)]; exact T1 t' ht'
      -- the rows found
      have rows : ∀ c' t h1 r1, t + c' = (pT n).length → FR h h1 → RR h1 r1 → xe [53, 54] (w0 r 0) r1 → FS r1 n ((pT n).length - 1) → (∀ t', t' < (pT n).length → r1.2.2 55 t' = lN (wA n s t')) → (∀ t', t' < t → r1.2.2 56 t' = lN (wA n (s + 1) t')) → Wm (d + 1) (0, 0) JX12_joins 113 [some (.ref 34), none, some (.int (nI m)), some (.int (nI t0)), some (.int (nI s)), some (.int (nI t)), none, none, none, none, none, none] [] h1 (fun r h' => h'.1 0 = h.1 0 ∧ K r h') := by
        intro c'
        induction c' with
        | zero =>
          intro t h1 r1 ht f1 o1 x1 S1 W1 T1
          have ht : t = (pT n).length := by omega
          subst ht
          refine bk_X12_joins_113 _ _ _ _ _ ⟨_, o1.f21, ?_⟩
          rw [e21 r1 S1]
          exact ⟨fun _ => copy (pT n).length 0 h1 r1 (by omega) f1 o1 x1 S1 (fun t' ht' => absurd ht' (by omega)) T1, fun z => absurd (le_t (Nat.le_refl _) (by omega)) z⟩
        | succ c' ihc =>
          intro t hb rb ht fb ob xb Sb Wb Tb
          have htl : t < (pT n).length := by omega
          refine bk_X12_joins_113 _ _ _ _ _ ⟨_, ob.f21, ?_⟩
          rw [e21 rb Sb]
          refine ⟨fun z => absurd z (le_f (by omega) (by omega)), fun _ => ?_⟩
          have ways : ∀ {h1 : mH} {r1 : rst} {ix : Nat}, RR h1 r1 → ex [54] rb r1 → ix < (pT n).length → m_ll h1 55 (nI ix) = some (lN (((wT n).getD s []).getD ix 0)) := fun {h1 r1 ix} o1 x1 hi => by
            rw [o1.ll 55 (by decide) (by omega), x1.2.1, Wb ix hi]
            rfl
          have l10 : ∀ a, a < 10 → lA n t a ≤ 10 := fun a ha => tb_lb n hn t htl a ha
          have rd : ∀ {h1 : mH} {r1 : rst} {a : Nat}, RR h1 r1 → ex [54] rb r1 → a < 10 → m_il h1 53 (nI (10 * t + a)) = some (nI (lA n t a)) := fun {h1 r1 a} o1 x1 ha => by rw [o1.il 53 430 (by decide) (by omega), (Sb.ex x1).2 t (by omega) a ha]
          have places : ∀ k a h1 r1, a + k = 10 → FR h h1 → RR h1 r1 → ex [54] rb r1 → Wm (d + 1) (0, 0) JX12_joins 128 [some (.ref 34), none, some (.int (nI m)), some (.int (nI t0)), some (.int (nI s)), some (.int (nI t)), some (.long (lN (rto n t ((wT n).getD s []) a))), none, some (.int (nI a)), none, none, none] [] h1 (fun r h' => h'.1 0 = h.1 0 ∧ K r h') := by
            intro k
            induction k with
            | zero =>
              intro a h1 r1 ha f1 o1 x1
              have ha : a = 10 := by omega
              subst ha
              rw [tb_rto n hn s (by omega) t htl]
              obtain ⟨h5, e5, f5, o5⟩ := o1.ls (x := lN (wA n (s + 1) t)) (j := t) 56 (by decide) (by omega)
              refine bk_X12_joins_128 _ _ _ _ _ _ _ ⟨fun _ => ⟨_, o1.f25, h5, e5, ?_⟩, fun z => absurd (le_t (a := 10) (b := 10) (by decide) (by decide)) z⟩
              rw [nI_1]
              refine ihc (t + 1) h5 _ (by omega) (f1.tr f5) o5 ((xb.tr (x1.xe.wk (by simp))).tr xe.wl) (Sb.ex x1).wl (fun t' ht' => ?_) (fun t' ht' => ?_)
              · rw [wl_n (by decide), x1.2.1]; exact Wb t' ht'
              · by_cases q : t' = t
                · rw [q, wl_j]
                · rw [wl_i q, x1.2.1]; exact Tb t' (by omega)
            | succ k ihk =>
              intro a h1 r1 ha f1 o1 x1
              have la := l10 a (by omega)
              refine bk_X12_joins_128 _ _ _ _ _ _ _ ⟨fun z => absurd z (le_f (a := 10) (by omega) (by decide)), fun _ => ⟨_, o1.f22, ?_⟩⟩
              rw [n10]
              refine ⟨_, rd o1 x1 (by omega), ?_⟩
              -- joins
              have jns : ∀ c b h1 r1, b + c = 10 → a < b → FR h h1 → RR h1 r1 → ex [54] rb r1 → Wm (d + 1) (0, 0) JX12_joins 218 [some (.ref 34), none, some (.int (nI m)), some (.int (nI t0)), some (.int (nI s)), some (.int (nI t)), some (.long (lN (rto n t ((wT n).getD s []) a + rcu n t (lA n t a) ((wT n).getD s []) (lA n t a / 2) + rjo n t a ((wT n).getD s []) b))), none, some (.int (nI a)), some (.int (nI (lA n t a))), some (.int (nI b)), none] [] h1 (fun r h' => h'.1 0 = h.1 0 ∧ K r h') := by
                intro c
                induction c with
                | zero =>
                  intro b h1 r1 hb hab f1 o1 x1
                  have hb : b = 10 := by omega
                  subst hb
                  refine bk_X12_joins_218 _ _ _ _ _ _ _ _ _ ⟨fun _ => ?_, fun z => absurd (le_t (a := 10) (b := 10) (by decide) (by decide)) z⟩
                  rw [nI_1]
                  exact ihk (a + 1) h1 r1 (by omega) f1 o1 x1
                | succ c ihj =>
                  intro b h1 r1 hb hab f1 o1 x1
                  have lb := l10 b (by omega)
                  refine bk_X12_joins_218 _ _ _ _ _ _ _ _ _ ⟨fun z => absurd z (le_f (a := 10) (by omega) (by decide)), fun _ => ⟨_, o1.f22, ?_⟩⟩
                  rw [n10]
                  refine ⟨_, rd o1 x1 (by omega), ?_⟩
                  rw [nI_1, Int64.add_zero]
                  have ee : rjo n t a ((wT n).getD s []) (b + 1) = rjo n t a ((wT n).getD s []) b + (if a < b ∧ ¬ lA n t a = 0 ∧ ¬ lA n t b = 0 then lA n t a * lA n t b * ((wT n).getD s []).getD (jjix n t (lA n t a) (lA n t b)) 0 else 0) := rfl
                  have none' : ¬ (a < b ∧ ¬ lA n t a = 0 ∧ ¬ lA n t b = 0) → Wm (d + 1) (0, 0) JX12_joins 218 [some (.ref 34), none, some (.int (nI m)), some (.int (nI t0)), some (.int (nI s)), some (.int (nI t)), some (.long (lN (rto n t ((wT n).getD s []) a + rcu n t (lA n t a) ((wT n).getD s []) (lA n t a / 2) + rjo n t a ((wT n).getD s []) b))), none, some (.int (nI a)), some (.int (nI (lA n t a))), some (.int (nI (b + 1))), none] [] h1 (fun r h' => h'.1 0 = h.1 0 ∧ K r h') := fun q => by
                    have := ihj (b + 1) h1 r1 (by omega) (by omega) f1 o1 x1
                    rw [ee, if_neg q] at this
                    exact this
                  refine ⟨fun z => none' (fun q => q.2.1 ?_), fun z => ⟨fun z2 => none' (fun q => q.2.2 ?_), fun z2 => ⟨_, o1.f24, _, o1.1, ?_⟩⟩⟩
                  · have := (nI_leI (b := 0) (by omega) (by decide)).mp z
                    omega
                  · have := (nI_leI (b := 0) (by omega) (by decide)).mp z2
                    omega
                  · have z : ¬ lA n t a = 0 := fun q => z (by rw [q]; exact le_t (a := 0) (b := 0) (by decide) (by decide))
                    have z2 : ¬ lA n t b = 0 := fun q => z2 (by rw [q]; exact le_t (a := 0) (b := 0) (by decide) (by decide))
                    have ck := tb_joi hn htl (by omega) (by omega) hab z z2
                    rw [nI_add]
                    refine rchg_ev (two := 0) o1 hn htl (Sb.ex x1) ck ⟨by omega, by omega, by omega, by decide⟩ (fun h3 r3 f3 o3 x3 => ⟨_, rfl, _, ways o3 (x1.tr x3) (chk_of ck).1, ?_⟩)
                    have := ihj (b + 1) h3 r3 (by omega) (by omega) (f1.tr f3) o3 (x1.tr x3)
                    rw [ee, if_pos ⟨hab, z, z2⟩, ← Nat.add_assoc] at this
                    rw [nI_l (by omega), nI_l (by omega), lN_mul, lN_mul, lN_add]
                    exact this
              -- cuts
              have cts : ∀ c e h1 r1, e + c = lA n t a / 2 → FR h h1 → RR h1 r1 → ex [54] rb r1 → Wm (d + 1) (0, 0) JX12_joins 153 [some (.ref 34), none, some (.int (nI m)), some (.int (nI t0)), some (.int (nI s)), some (.int (nI t)), some (.long (lN (rto n t ((wT n).getD s []) a + rcu n t (lA n t a) ((wT n).getD s []) e))), none, some (.int (nI a)), some (.int (nI (lA n t a))), some (.int (nI (e + 1))), none] [] h1 (fun r h' => h'.1 0 = h.1 0 ∧ K r h') := by
                intro c
                induction c with
                | zero =>
                  intro e h1 r1 he f1 o1 x1
                  have he : e = lA n t a / 2 := by omega
                  subst he
                  refine bk_X12_joins_153 _ _ _ _ _ _ _ _ _ ?_
                  rw [show (2 : Int32) = nI 2 by decide, pk_mul, nI_1]
                  refine ⟨fun _ => ?_, fun z => absurd (lt_t (by omega) (by omega)) z⟩
                  have := jns (10 - (a + 1)) (a + 1) h1 r1 (by omega) (by omega) f1 o1 x1
                  rw [rjo_0 n t a _ (a + 1) (Nat.le_refl _)] at this
                  exact this
                | succ c ihe =>
                  intro e h1 r1 he f1 o1 x1
                  have h2e : 2 * (e + 1) ≤ lA n t a := by omega
                  have ck := tb_cut (d := e + 1) hn htl (by omega) (by omega) h2e
                  have ih := fun h3 r3 => ihe (e + 1) h3 r3 (by omega)
                  have ee : rcu n t (lA n t a) ((wT n).getD s []) (e + 1) = rcu n t (lA n t a) ((wT n).getD s []) e + (if 2 * (e + 1) = lA n t a then e + 1 else lA n t a) * ((wT n).getD s []).getD (ccix n t (lA n t a) (e + 1)) 0 := rfl
                  rw [ee, ← Nat.add_assoc] at ih
                  refine bk_X12_joins_153 _ _ _ _ _ _ _ _ _ ?_
                  rw [show (2 : Int32) = nI 2 by decide, pk_mul, nI_1, nI_1, pk_sub (by omega)]
                  refine ⟨fun z => absurd z (lt_f h2e (by omega)), fun _ => ⟨fun z => ⟨_, o1.f24, _, o1.1, ?_⟩, fun z => ⟨_, o1.f24, _, o1.1, ?_⟩⟩⟩
                  · have z : ¬ 2 * (e + 1) = lA n t a := fun q => z (by rw [q])
                    rw [if_neg z] at ih
                    refine rchg_ev (other := 0) o1 hn htl (Sb.ex x1) ck ⟨by omega, by decide, by omega, by omega⟩ (fun h3 r3 f3 o3 x3 => ⟨_, rfl, _, ways o3 (x1.tr x3) (chk_of ck).1, ?_⟩)
                    rw [nI_l (by omega), lN_mul, lN_add]
                    exact ih h3 r3 (f1.tr f3) o3 (x1.tr x3)
                  · have z := nI_inj (by omega) (by omega) z
                    rw [if_pos z] at ih
                    refine rchg_ev (other := 0) o1 hn htl (Sb.ex x1) ck ⟨by omega, by decide, by omega, by omega⟩ (fun h3 r3 f3 o3 x3 => ⟨_, rfl, _, ways o3 (x1.tr x3) (chk_of ck).1, ?_⟩)
                    rw [nI_l (by omega), lN_mul, lN_add]
                    exact ih h3 r3 (f1.tr f3) o3 (x1.tr x3)
              exact cts _ 0 h1 r1 (Nat.zero_add _) f1 o1 x1
          exact places 10 0 hb rb (by omega) fb ob ex.rf
      exact rows _ 0 h1 r1 (Nat.zero_add _) f1 o1 x1 S1 W1 (fun t' ht' => absurd ht' (by omega))
  -- the start
  have start : ∀ c t h1 r1, t + c = (pT n).length → FR h h1 → RR h1 r1 → xe [53, 54] (w0 r 0) r1 → FS r1 n ((pT n).length - 1) → (∀ t', t' < t → r1.2.2 55 t' = lN (wA n 0 t')) → Wm (d + 1) (0, 0) JX12_joins 63 [some (.ref 34), none, some (.int (nI m)), some (.int (nI t0)), some (.int (nI t)), none, none, none, none, none, none, none] [] h1 (fun r h' => h'.1 0 = h.1 0 ∧ K r h') := by
    intro c
    induction c with
    | zero =>
      intro t h1 r1 ht f1 o1 x1 S1 W1
      have ht : t = (pT n).length := by omega
      subst ht
      refine bk_X12_joins_63 _ _ _ _ ⟨_, o1.f21, ?_⟩
      rw [e21 r1 S1]
      exact ⟨fun _ => steps m 0 h1 r1 (by omega) f1 o1 x1 S1 W1, fun z => absurd (le_t (Nat.le_refl _) (by omega)) z⟩
    | succ c ih =>
      intro t h1 r1 ht f1 o1 x1 S1 W1
      have tw := tb_w0 n hn t (by omega)
      refine bk_X12_joins_63 _ _ _ _ ⟨_, o1.f21, ?_⟩
      rw [e21 r1 S1]
      refine ⟨fun z => absurd z (le_f (by omega) (by omega)), fun _ => ⟨_, o1.f24, _, o1.f21, ?_⟩⟩
      rw [e21 r1 S1, nI_m1 (by omega), nI_1]
      have go : ∀ x : Int64, x = lN (wA n 0 t) → ∃ h4 : mH, m_ls h1 55 (nI t) x = some h4 ∧ Wm (d + 1) (0, 0) JX12_joins 63 [some (.ref 34), none, some (.int (nI m)), some (.int (nI t0)), some (.int (nI (t + 1))), none, none, none, none, none, none, none] [] h4 (fun r h' => h'.1 0 = h.1 0 ∧ K r h') := by
        intro x hx
        subst hx
        obtain ⟨h5, e5, f5, o5⟩ := o1.ls (x := lN (wA n 0 t)) (j := t) 55 (by decide) (by omega)
        refine ⟨h5, e5, ih (t + 1) h5 _ (by omega) (f1.tr f5) o5 (x1.tr xe.wl) S1 (fun t' ht' => ?_)⟩
        by_cases q : t' = t
        · rw [q, wl_j]
        · rw [wl_i q]; exact W1 t' (by omega)
      refine ⟨fun z => go 0 ?_, fun z => go 1 ?_⟩
      · have z : ¬ t = (pT n).length - 1 := fun q => z (by rw [← q])
        rw [tw, if_neg (by omega)]
        rfl
      · have z := nI_inj (by omega) (by omega) z
        rw [tw, if_pos (by omega)]
        rfl
  exact start _ 0 h2 r2 (Nat.zero_add _) F2 o2 x2 S2 (fun t' ht' => absurd ht' (by omega))
end RefJoins

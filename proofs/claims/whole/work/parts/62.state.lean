/-! what both hold: rows, covers, the trace, the finding -/
abbrev rwT : Type := Int32 × Nat × (Nat → Int32)
abbrev cvT : Type := Option (Nat × Nat × (Nat → Nat → Nat))
abbrev AS : Type := (Nat → rwT) × (Nat → cvT) × trc × Int32
def stS (st : AS) (x : Int32) : AS := (st.1, st.2.1, st.2.2.1, x)
def rwS (st : AS) (s : Nat) (r : rwT) : AS := (fun i => if i = s then r else st.1 i, st.2)
def cvS (st : AS) (p : Nat) (c : cvT) : AS := (st.1, fun i => if i = p then c else st.2.1 i, st.2.2)
def trS (st : AS) (tr : trc) : AS := (st.1, st.2.1, tr, st.2.2.2)
def badO (st : AS) : Int32 × AS := (-1000001, st)
def fndO (st : AS) (c : Int32) : Int32 × AS := (-1000010 - c, stS st c)
def finO (v : Int32) (st : AS) : Int32 × AS := (v, stS st 0)
def shvO (st : AS) (p n k : Nat) (t : Nat → Nat → Nat) : Int32 × AS := finO (knd (kcl n k t)) (cvS st p (some (n, k, t)))
/-- a number as a place among N -/
def ixI (x : Int32) (N : Nat) : Option Nat := if ¬ x < 0 ∧ x < nI N then some x.toNatClampNeg else none
theorem ixI_s {i N : Nat} (hi : i < N) (hN : N < 2147483648) : ixI (nI i) N = some i := by
  unfold ixI
  rw [if_pos ⟨lt_f (a := i) (b := 0) (by omega) (by omega), lt_t hi hN⟩, nI_clamp (by omega)]
theorem ixI_n {x : Int32} {N : Nat} (h : x < 0 ∨ ¬ x < nI N) : ixI x N = none := by
  unfold ixI
  rw [if_neg (fun q => h.elim q.1 (fun w => w q.2))]
theorem ixI_of {x : Int32} {N : Nat} (hN : N < 2147483648) (h0 : ¬ x < 0) (h1 : x < nI N) : ∃ i, i < N ∧ x = nI i := by
  obtain ⟨i, hi, e⟩ := nI_of h0
  subst e
  exact ⟨i, (nI_ltI (by omega) (by omega)).mp h1, rfl⟩
/-- nothing changed but S and what is new -/
def ag (S : List Nat) (h h' : mH) : Prop := h.2 ≤ h'.2 ∧ ∀ a, a < h.2 → a ∉ S → h'.1 a = h.1 a
theorem Fr.ag {S : List Nat} {h h' : mH} (f : Fr S h h') : ag S h h' := ⟨Nat.le_of_eq f.1.symm, fun a _ ha => f.2 a ha⟩
theorem ag.tr {S : List Nat} {h h1 h2 : mH} (f : ag S h h1) (g : ag S h1 h2) : ag S h h2 := ⟨Nat.le_trans f.1 g.1, fun a h1 h2 => (g.2 a (by have := f.1; omega) h2).trans (f.2 a h1 h2)⟩
theorem ag.wk {S T : List Nat} {h h1 : mH} (f : ag S h h1) (hS : ∀ a, a ∈ S → a ∈ T) : ag T h h1 := ⟨f.1, fun a h1 h2 => f.2 a h1 (fun q => h2 (hS a q))⟩
theorem ag.rf {S : List Nat} {h : mH} : ag S h h := ⟨Nat.le_refl _, fun _ _ _ => rfl⟩
theorem ag.at {S : List Nat} {h h1 : mH} {a : Nat} {c : mC} (f : ag S h h1) (ha : h.1 a = c) (g1 : a < h.2) (g2 : a ∉ S) : h1.1 a = c := (f.2 a g1 g2).trans ha
theorem NC.ag {h h' : mH} {n k : Nat} {t : Nat → Nat → Nat} (c : NC h h' n k t) : ag [] h h' := ⟨by rw [c.1]; omega, fun a ha _ => c.2.1 a ha⟩
def CLr (h : mH) (rows : Nat → rwT) : Prop := (∃ f : Nat → Option Nat, h.1 2 = .inl (3, 8, .inr (.inr (.inr (.inr f)))) ∧ ∀ i, i < 8 → f i = some (3 + 2 * i)) ∧ ∀ i, i < 8 → (∃ g : Nat → Int32, RO h (3 + 2 * i) (4 + 2 * i) (rows i).1 (rows i).2.1 g 96 ∧ ∀ x, x < 96 → g x = (rows i).2.2 x) ∧ ((rows i).1 = -1 ∨ (rows i).1 = 0 ∨ (rows i).1 = 1 ∨ (rows i).1 = 2)
def CLp (h : mH) (o : Option Nat) (c : cvT) : Prop := (c = none ∧ o = none) ∨ ∃ n k t a ta, c = some (n, k, t) ∧ o = some a ∧ 57 ≤ a ∧ a < h.2 ∧ 57 ≤ ta ∧ ta < h.2 ∧ CO h a ta (kcl n k t) n k t (pn n k t)
def CLc (h : mH) (sh : Nat → cvT) : Prop := ∃ f : Nat → Option Nat, h.1 19 = .inl (4, 10, .inr (.inr (.inr (.inr f)))) ∧ ∀ p, p < 10 → CLp h (f p) (sh p)
def CLh (h : mH) (x : Int32) : Prop := h.1 1 = .inr (10, [.ref 2, .ref 19, .ref 20, .ref 22, .ref 24, .ref 28, .ref 31, .int x])
/-- the helpers -/
def CLe (h : mH) : Prop := NMR h 22 23 ∧ RGO h ∧ HO h ∧ ∃ nf, SPS h nf
/-- the same as far as they go -/
def tqv (a b : trc) : Prop := a.1 = b.1 ∧ ∀ x, x < a.1 → a.2 x = b.2 x
def CLt (h : mH) (tr : trc) : Prop := ∃ g, TR h g ∧ tqv g tr
theorem tad_q {a b : trc} {v : Int32} (h : tqv a b) : tqv (tad a v) (tad b v) := by
  unfold tad
  by_cases w : a.1 < 16
  · rw [if_pos w, if_pos (by rw [← h.1]; exact w)]
    refine ⟨by show a.1 + 1 = b.1 + 1; rw [h.1], fun x hx => ?_⟩
    have hx : x < a.1 + 1 := hx
    show upd a.2 a.1 v x = upd b.2 b.1 v x
    rw [← h.1]
    by_cases e : x = a.1
    · simp [upd, e]
    · simp [upd, e, h.2 x (by omega)]
  · rw [if_neg w, if_neg (by rw [← h.1]; exact w)]
    exact h
theorem mkT_q {a b : trc} {ci : Nat} (h : tqv a b) : tqv (mkT ci a) (mkT ci b) := by
  unfold mkT
  split
  · exact tad_q (tad_q (tad_q h))
  · split
    · exact tad_q (tad_q h)
    · exact tad_q h
theorem szT_q {a b : trc} {ci : Nat} (h : tqv a b) : tqv (szT ci a) (szT ci b) := by
  unfold szT
  split
  · exact tad_q (tad_q h)
  · split
    · exact tad_q h
    · split
      · exact tad_q (tad_q h)
      · split
        · exact tad_q (tad_q (tad_q h))
        · exact mkT_q (tad_q (tad_q (tad_q (tad_q h))))
def CLs (h : mH) (st : AS) : Prop := CLh h st.2.2.2 ∧ CLr h st.1 ∧ CLc h st.2.1 ∧ CLt h st.2.2.1 ∧ CLe h ∧ 57 ≤ h.2
section State
variable {h h' : mH} {S : List Nat} {st : AS}
theorem CO.ag {a ta ci n k pr : Nat} {t : Nat → Nat → Nat} (c : CO h a ta ci n k t pr) (f : ag S h h') (h1 : a < h.2) (h2 : ta < h.2) (s1 : a ∉ S) (s2 : ta ∉ S) : CO h' a ta ci n k t pr := ⟨f.at c.1 h1 s1, by obtain ⟨F, e, e2⟩ := c.2.1; exact ⟨F, f.at e h2 s2, e2⟩, c.2.2⟩
theorem CLr.ag {rows : Nat → rwT} (c : CLr h rows) (f : ag S h h') (hS : ∀ a, a ∈ S → a < 2 ∨ 18 < a) (h57 : 57 ≤ h.2) : CLr h' rows := by
  have ok : ∀ a, 2 ≤ a → a ≤ 18 → h'.1 a = h.1 a := fun a h1 h2 => f.2 a (by omega) (fun q => by have := hS a q; omega)
  obtain ⟨⟨F, e1, e2⟩, e3⟩ := c
  refine ⟨⟨F, (ok 2 (by omega) (by omega)).trans e1, e2⟩, fun i hi => ?_⟩
  obtain ⟨⟨g, ⟨a1, a2, a3⟩, a4⟩, b⟩ := e3 i hi
  exact ⟨⟨g, ⟨(ok _ (by omega) (by omega)).trans a1, (ok _ (by omega) (by omega)).trans a2, a3⟩, a4⟩, b⟩
theorem CLp.ag {o : Option Nat} {c : cvT} (q : CLp h o c) (f : ag S h h') (hS : ∀ a, a ∈ S → a < 57) : CLp h' o c := by
  rcases q with q | ⟨n, k, t, a, ta, e1, e2, h1, h2, h3, h4, co⟩
  · exact Or.inl q
  · have := f.1
    exact Or.inr ⟨n, k, t, a, ta, e1, e2, h1, by omega, h3, by omega, co.ag f h2 h4 (nm_ge hS h1) (nm_ge hS h3)⟩
theorem CLc.ag {sh : Nat → cvT} (c : CLc h sh) (f : ag S h h') (hS : ∀ a, a ∈ S → a < 57 ∧ a ≠ 19) (h57 : 57 ≤ h.2) : CLc h' sh := by
  obtain ⟨F, e1, e2⟩ := c
  exact ⟨F, f.at e1 (by omega) (fun q => (hS 19 q).2 rfl), fun p hp => (e2 p hp).ag f (fun a ha => (hS a ha).1)⟩
theorem TR.ag {tr : trc} (c : TR h tr) (f : ag S h h') (hS : ∀ a, a ∈ S → a ≠ 20 ∧ a ≠ 21) (h57 : 57 ≤ h.2) : TR h' tr := ⟨f.at c.1 (by omega) (fun q => (hS _ q).1 rfl), f.at c.2.1 (by omega) (fun q => (hS _ q).2 rfl), c.2.2⟩
theorem CLt.ag {tr : trc} (c : CLt h tr) (f : ag S h h') (hS : ∀ a, a ∈ S → a ≠ 20 ∧ a ≠ 21) (h57 : 57 ≤ h.2) : CLt h' tr := by
  obtain ⟨g, e1, e2⟩ := c
  exact ⟨g, e1.ag f hS h57, e2⟩
theorem NMR.ag {a le : Nat} (c : NMR h a le) (f : ag S h h') (ha : a < h.2) (hl : le < h.2) (h1 : a ∉ S) (h2 : le ∉ S) : NMR h' a le := by
  obtain ⟨lk, nw, od, lf, e1, e2⟩ := c
  exact ⟨lk, nw, od, lf, f.at e1 ha h1, f.at e2 hl h2⟩
theorem RGO.ag (c : RGO h) (f : ag S h h') (hS : ∀ a, a ∈ S → a < 24 ∨ 27 < a) (h57 : 57 ≤ h.2) : RGO h' := by
  have ok : ∀ a, 24 ≤ a → a ≤ 27 → a ∉ S := fun a h1 h2 q => by have := hS a q; omega
  obtain ⟨⟨x, e1⟩, e2, F, e3⟩ := c
  exact ⟨⟨x, f.at e1 (by omega) (ok _ (by omega) (by omega))⟩, e2.ag f (by omega) (by omega) (ok _ (by omega) (by omega)) (ok _ (by omega) (by omega)), F, f.at e3 (by omega) (ok _ (by omega) (by omega))⟩
theorem HO.ag (c : HO h) (f : ag S h h') (hS : ∀ a, a ∈ S → a < 28 ∨ 30 < a) (h57 : 57 ≤ h.2) : HO h' := by
  have ok : ∀ a, 28 ≤ a → a ≤ 30 → a ∉ S := fun a h1 h2 q => by have := hS a q; omega
  obtain ⟨x, F, G, e1, e2, e3⟩ := c
  exact ⟨x, F, G, f.at e1 (by omega) (ok _ (by omega) (by omega)), f.at e2 (by omega) (ok _ (by omega) (by omega)), f.at e3 (by omega) (ok _ (by omega) (by omega))⟩
theorem SPS.ag {nf : Nat} (c : SPS h nf) (f : ag S h h') (hS : ∀ a, a ∈ S → a < 31 ∨ 33 < a) (h57 : 57 ≤ h.2) : SPS h' nf := by
  have ok : ∀ a, 31 ≤ a → a ≤ 33 → a ∉ S := fun a h1 h2 q => by have := hS a q; omega
  obtain ⟨hn, e1, ⟨F, e2, e2'⟩, G, e3, e3'⟩ := c
  exact ⟨hn, f.at e1 (by omega) (ok _ (by omega) (by omega)), ⟨F, f.at e2 (by omega) (ok _ (by omega) (by omega)), e2'⟩, G, f.at e3 (by omega) (ok _ (by omega) (by omega)), e3'⟩
theorem CLe.ag (c : CLe h) (f : ag S h h') (hS : ∀ a, a ∈ S → a < 22 ∨ 33 < a) (h57 : 57 ≤ h.2) : CLe h' := by
  obtain ⟨e1, e2, e3, nf, e4⟩ := c
  exact ⟨e1.ag f (by omega) (by omega) (fun q => by have := hS _ q; omega) (fun q => by have := hS _ q; omega), e2.ag f (fun a ha => by have := hS a ha; omega) h57, e3.ag f (fun a ha => by have := hS a ha; omega) h57, nf, e4.ag f (fun a ha => by have := hS a ha; omega) h57⟩
theorem CLh.ag {x : Int32} (c : CLh h x) (f : ag S h h') (hS : 1 ∉ S) (h57 : 57 ≤ h.2) : CLh h' x := f.at c (by omega) hS
/-- the reference's cells stand -/
def FC (h h' : mH) : Prop := h.2 ≤ h'.2 ∧ ∀ a, 34 ≤ a → a < 57 → h'.1 a = h.1 a
theorem FC.rf : FC h h := ⟨Nat.le_refl _, fun _ _ _ => rfl⟩
theorem FC.tr {h2 : mH} (f : FC h h') (g : FC h' h2) : FC h h2 := ⟨Nat.le_trans f.1 g.1, fun a h1 h2 => (g.2 a h1 h2).trans (f.2 a h1 h2)⟩
theorem ag.fc (f : ag S h h') (hS : ∀ a, a ∈ S → a < 34) (h57 : 57 ≤ h.2) : FC h h' := ⟨f.1, fun a h1 h2 => f.2 a (by omega) (fun q => by have := hS a q; omega)⟩
theorem CLs.f0 (c : CLs h st) : m_fld h 1 [10] 0 = some (.ref 2) := fld_at c.1 (by decide) rfl
theorem CLs.f1 (c : CLs h st) : m_fld h 1 [10] 1 = some (.ref 19) := fld_at c.1 (by decide) rfl
theorem CLs.f2 (c : CLs h st) : m_fld h 1 [10] 2 = some (.ref 20) := fld_at c.1 (by decide) rfl
theorem CLs.f3 (c : CLs h st) : m_fld h 1 [10] 3 = some (.ref 22) := fld_at c.1 (by decide) rfl
theorem CLs.f4 (c : CLs h st) : m_fld h 1 [10] 4 = some (.ref 24) := fld_at c.1 (by decide) rfl
theorem CLs.f5 (c : CLs h st) : m_fld h 1 [10] 5 = some (.ref 28) := fld_at c.1 (by decide) rfl
theorem CLs.f6 (c : CLs h st) : m_fld h 1 [10] 6 = some (.ref 31) := fld_at c.1 (by decide) rfl
theorem CLs.f7 (c : CLs h st) : m_fld h 1 [10] 7 = some (.int st.2.2.2) := fld_at c.1 (by decide) rfl
theorem CLs.rw' {i : Nat} (c : CLs h st) (hi : i < 8) : m_rl h 2 (nI i) = some (.ref (3 + 2 * i)) := by
  obtain ⟨⟨F, e1, e2⟩, -⟩ := c.2.1
  rw [rl_at e1 (Or.inl rfl) hi (by decide), e2 i hi]
  rfl
theorem CLs.ro {i : Nat} (c : CLs h st) (hi : i < 8) : ∃ g : Nat → Int32, RO h (3 + 2 * i) (4 + 2 * i) (st.1 i).1 (st.1 i).2.1 g 96 ∧ ∀ x, x < 96 → g x = (st.1 i).2.2 x := (c.2.1.2 i hi).1
theorem CLs.no {p : Nat} (c : CLs h st) (hp : p < 10) (e : st.2.1 p = none) : m_rl h 19 (nI p) = some .null := by
  obtain ⟨F, e1, e2⟩ := c.2.2.1
  rw [rl_at e1 (Or.inr rfl) hp (by decide)]
  rcases e2 p hp with q | ⟨n, k, t, a, ta, q, -⟩
  · rw [q.2]; rfl
  · rw [e] at q; exact absurd q (by simp)
theorem CLs.cv {p n k : Nat} {t : Nat → Nat → Nat} (c : CLs h st) (hp : p < 10) (e : st.2.1 p = some (n, k, t)) : ∃ a ta, m_rl h 19 (nI p) = some (.ref a) ∧ 57 ≤ a ∧ a < h.2 ∧ 57 ≤ ta ∧ ta < h.2 ∧ CO h a ta (kcl n k t) n k t (pn n k t) := by
  obtain ⟨F, e1, e2⟩ := c.2.2.1
  rcases e2 p hp with q | ⟨n', k', t', a, ta, q, q2, h1, h2, h3, h4, co⟩
  · rw [e] at q; exact absurd q.1 (by simp)
  · rw [e] at q
    injection q with q
    injection q with q1 q
    injection q with q3 q4
    subst q1; subst q3; subst q4
    refine ⟨a, ta, ?_, h1, h2, h3, h4, co⟩
    rw [rl_at e1 (Or.inr rfl) hp (by decide), q2]
    rfl
end State
section StateEv
variable {d : Nat} {h h' : mH} {st : AS} {K : Option Value → mH → Prop} {b : Nat × Nat}
theorem noRow_ev {x : Int32} (h1 : (x < 0 ∨ ¬ x < nI 8) → K (some (.int 1)) h) (h0 : ∀ i, i < 8 → x = nI i → K (some (.int 0)) h) : Ev d (0, 0) MX11_noRow [.int x] h K :=
  en_X11_noRow (bk_X11_noRow_0 _ ⟨fun q => ⟨rfl, h1 (Or.inl q)⟩, fun q => ⟨fun q2 => ⟨rfl, by obtain ⟨i, hi, e⟩ := ixI_of (N := 8) (by decide) q q2; exact h0 i hi e⟩, fun q2 => ⟨rfl, h1 (Or.inr q2)⟩⟩⟩)
theorem noPlace_ev {x : Int32} (h1 : (x < 0 ∨ ¬ x < nI 10) → K (some (.int 1)) h) (h0 : ∀ i, i < 10 → x = nI i → K (some (.int 0)) h) : Ev d (0, 0) MX11_noPlace [.int x] h K :=
  en_X11_noPlace (bk_X11_noPlace_0 _ ⟨fun q => ⟨rfl, h1 (Or.inl q)⟩, fun q => ⟨fun q2 => ⟨rfl, by obtain ⟨i, hi, e⟩ := ixI_of (N := 10) (by decide) q q2; exact h0 i hi e⟩, fun q2 => ⟨rfl, h1 (Or.inr q2)⟩⟩⟩)
theorem CLs.st' (c : CLs h st) {x : Int32} : ∃ h', m_put h 1 10 7 (.int x) = some h' ∧ Fr [1] h h' ∧ CLs h' (stS st x) := by
  refine ⟨_, put_at c.1 (by decide : 7 < 8), Fr.up (List.mem_singleton.mpr rfl), ?_⟩
  have f : Fr [1] h (m_up h.1 1 (.inr (10, [.ref 2, .ref 19, .ref 20, .ref 22, .ref 24, .ref 28, .ref 31, .int x])), h.2) := Fr.up (List.mem_singleton.mpr rfl)
  have g := f.ag
  have h57 := c.2.2.2.2.2
  exact ⟨up_s, c.2.1.ag g (by simp) h57, c.2.2.1.ag g (by simp) h57, c.2.2.2.1.ag g (by simp) h57, c.2.2.2.2.1.ag g (by simp) h57, h57⟩
theorem CLs.row' {i s : Nat} {l : Int32} {f g : Nat → Int32} {S : List Nat} (c : CLs h st) (hi : i < 8) (fr : Fr S h h') (hS : ∀ a, a ∈ S → a = 3 + 2 * i ∨ a = 4 + 2 * i) (o : RO h' (3 + 2 * i) (4 + 2 * i) l s g 96) (hg : ∀ x, x < 96 → g x = f x) (hl : l = -1 ∨ l = 0 ∨ l = 1 ∨ l = 2) : CLs h' (rwS st i (l, s, f)) := by
  have a := fr.ag
  have h57 := c.2.2.2.2.2
  refine ⟨c.1.ag a (fun q => by have := hS _ q; omega) h57, ?_, c.2.2.1.ag a (fun x q => by have := hS _ q; omega) h57, c.2.2.2.1.ag a (fun x q => by have := hS _ q; omega) h57, c.2.2.2.2.1.ag a (fun x q => by have := hS _ q; omega) h57, by rw [fr.1]; exact h57⟩
  obtain ⟨⟨F, e1, e2⟩, e3⟩ := c.2.1
  refine ⟨⟨F, fr.at e1 (fun q => by have := hS _ q; omega), e2⟩, fun j hj => ?_⟩
  by_cases w : j = i
  · have e : (rwS st i (l, s, f)).1 j = (l, s, f) := if_pos w
    rw [e]
    subst w
    exact ⟨⟨g, o, hg⟩, hl⟩
  · have e : (rwS st i (l, s, f)).1 j = st.1 j := if_neg w
    rw [e]
    obtain ⟨⟨g', b1, b2⟩, b3⟩ := e3 j hj
    exact ⟨⟨g', b1.fr fr (fun q => by have := hS _ q; omega) (fun q => by have := hS _ q; omega), b2⟩, b3⟩
theorem CLs.tr' {tr g : trc} (c : CLs h st) (fr : Fr [20, 21] h h') (o : TR h' g) (hg : tqv g tr) : CLs h' (trS st tr) := by
  have a := fr.ag
  have h57 := c.2.2.2.2.2
  exact ⟨c.1.ag a (by simp) h57, c.2.1.ag a (by simp) h57, c.2.2.1.ag a (by simp) h57, ⟨g, o, hg⟩, c.2.2.2.2.1.ag a (by simp) h57, by rw [fr.1]; exact h57⟩
theorem CLs.en {S : List Nat} (c : CLs h st) (f : ag S h h') (hS : ∀ a, a ∈ S → 22 ≤ a ∧ a ≤ 33) (he : CLe h') : CLs h' st := by
  have h57 := c.2.2.2.2.2
  exact ⟨c.1.ag f (fun q => by have := hS _ q; omega) h57, c.2.1.ag f (fun x q => by have := hS _ q; omega) h57, c.2.2.1.ag f (fun x q => by have := hS _ q; omega) h57, c.2.2.2.1.ag f (fun x q => by have := hS _ q; omega) h57, he, Nat.le_trans h57 f.1⟩
theorem found_ev {x : Int32} (c : CLs h st) (hK : ∀ h', CLs h' (stS st x) → FC h h' → Fr [1] h h' → K (some (.int (-1000010 - x))) h') : Ev d (0, 0) MX11_found [.ref 1, .int x] h K := by
  obtain ⟨h', e, f, c'⟩ := c.st' (x := x)
  exact en_X11_found (bk_X11_found_0 _ _ ⟨h', e, f.z (by decide), hK h' c' (f.ag.fc (by simp) c.2.2.2.2.2) f⟩)
theorem fine_ev {x : Int32} (c : CLs h st) (hK : ∀ h', CLs h' (stS st 0) → FC h h' → Fr [1] h h' → K (some (.int x)) h') : Ev d (0, 0) MX11_fine [.ref 1, .int x] h K := by
  obtain ⟨h', e, f, c'⟩ := c.st' (x := 0)
  exact en_X11_fine (bk_X11_fine_0 _ _ ⟨h', e, f.z (by decide), hK h' c' (f.ag.fc (by simp) c.2.2.2.2.2) f⟩)
/-- a new cover is laid -/
theorem shelve_ev {p n k a ta : Nat} {t : Nat → Nat → Nat} (c : CLs h st) (hp : p < 10) (h1 : 57 ≤ a) (h2 : a < h.2) (h3 : 57 ≤ ta) (h4 : ta < h.2) (co : CO h a ta (kcl n k t) n k t (pn n k t)) (hK : ∀ h', CLs h' (shvO st p n k t).2 → FC h h' → Fr [1, 19] h h' → K (some (.int (shvO st p n k t).1)) h') : Ev (d + 1) (0, 0) MX11_shelve [.ref 1, .int (nI p), .ref a] h K := by
  have h57 := c.2.2.2.2.2
  refine en_X11_shelve (bk_X11_shelve_0 _ _ _ ?_)
  refine noPlace_ev (fun q => absurd (lt_t hp (by decide)) (q.resolve_left (lt_f (a := p) (b := 0) (by omega) (by omega)))) (fun i hi e => ⟨_, rfl, fun _ => ?_, fun q => absurd rfl q⟩)
  obtain ⟨F, e1, e2⟩ := c.2.2.1
  refine ⟨_, c.f1, _, rs_C e1 co.1 co.2.2.1 hp (by decide), ?_⟩
  obtain ⟨h5, hh5⟩ : ∃ h5 : mH, h5 = (m_up h.1 19 (.inl (4, 10, .inr (.inr (.inr (.inr (va_up F p (some a))))))), h.2) := ⟨_, rfl⟩
  rw [← hh5]
  have f5 : Fr [19] h h5 := by rw [hh5]; exact Fr.up (List.mem_singleton.mpr rfl)
  have g := f5.ag
  have co5 : CO h5 a ta (kcl n k t) n k t (pn n k t) := co.fr f5 (by simp; omega) (by simp; omega)
  have c5 : CLs h5 (cvS st p (some (n, k, t))) := by
    refine ⟨c.1.ag g (by simp) h57, c.2.1.ag g (by simp) h57, ⟨va_up F p (some a), by rw [hh5]; exact up_s, fun q hq => ?_⟩, c.2.2.2.1.ag g (by simp) h57, c.2.2.2.2.1.ag g (by simp) h57, by rw [f5.1]; exact h57⟩
    show CLp h5 (va_up F p (some a) q) (if q = p then some (n, k, t) else st.2.1 q)
    by_cases w : q = p
    · rw [if_pos w]
      refine Or.inr ⟨n, k, t, a, ta, rfl, by simp [va_up, w], h1, by rw [f5.1]; exact h2, h3, by rw [f5.1]; exact h4, co5⟩
    · rw [if_neg w]
      have : va_up F p (some a) q = F q := by simp [va_up, w]
      rw [this]
      exact (e2 q hq).ag g (by simp)
  refine ⟨_, _, co5.1, co5.2.2.1, ?_⟩
  refine kindNumber_ev co5.2.2.1 ⟨_, rfl, _, c5.1, ?_⟩
  refine fine_ev c5 (fun h7 c7 fc7 f7 => ⟨_, rfl, ?_⟩)
  have f17 : Fr [1, 19] h h7 := (f5.wk (by simp)).tr (f7.wk (by simp))
  exact ⟨f17.z (by decide), hK h7 c7 (f17.ag.fc (by simp) h57) f17⟩
end StateEv

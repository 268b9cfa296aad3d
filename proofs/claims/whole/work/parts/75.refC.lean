/-! the reference's state, and its calls on rows -/
def rfC (r : rst) (p : Nat) (c : cvT) : Prop := match c with
  | none => r.2.1 38 p = 0
  | some v => LC r p v.1 v.2.1 v.2.2
def rfS (r : rst) (st : AS) : Prop := r.1.2.1 = st.2.2.2 ∧ (∀ s, s < 8 → r.2.1 35 s = (st.1 s).1 ∧ (¬ (st.1 s).1 = -1 → r.2.1 36 s = nI (st.1 s).2.1) ∧ ∀ x, x < 96 → r.2.1 37 (96 * s + x) = (st.1 s).2.2 x) ∧ (∀ p, p < 10 → rfC r p (st.2.1 p)) ∧ r.1.2.2.1 = nI st.2.2.1.1 ∧ ∀ x, x < st.2.2.1.1 → r.2.1 52 x = st.2.2.1.2 x
def RFs (h : mH) (st : AS) : Prop := ∃ r, RR h r ∧ rfS r st
/-- what holds of both states -/
def wfC (c : cvT) : Prop := ∀ n k t, c = some (n, k, t) → 1 ≤ n ∧ n ≤ 12 ∧ 1 ≤ k ∧ k ≤ 8 ∧ ∀ j, j < k → pm n (t j)
def wfS (st : AS) : Prop := (∀ s, s < 8 → ((st.1 s).1 = -1 ∨ (st.1 s).1 = 0 ∨ (st.1 s).1 = 1 ∨ (st.1 s).1 = 2) ∧ (st.1 s).2.1 ≤ 96) ∧ (∀ p, p < 10 → wfC (st.2.1 p)) ∧ st.2.2.1.1 ≤ 16
theorem CLs.wf {h : mH} {st : AS} (c : CLs h st) : wfS st := by
  refine ⟨fun s hs => ⟨(c.2.1.2 s hs).2, ?_⟩, fun p hp n k t e => ?_, ?_⟩
  · obtain ⟨g, o, -⟩ := c.ro hs
    exact o.2.2.1
  · obtain ⟨a, ta, -, -, -, -, -, co⟩ := c.cv hp e
    exact ⟨co.n1, co.n12, co.k1, co.k8, co.prm⟩
  · obtain ⟨g, o, q⟩ := c.2.2.2.1
    rw [← q.1]
    exact o.2.2.1
/-- rows, covers and the trace are as they were -/
def kp (r r' : rst) : Prop := r'.1.2.2.1 = r.1.2.2.1 ∧ (r'.2.1 35 = r.2.1 35 ∧ r'.2.1 36 = r.2.1 36 ∧ r'.2.1 37 = r.2.1 37 ∧ r'.2.1 52 = r.2.1 52) ∧ (∀ p, p < 10 → r'.2.1 38 p = r.2.1 38 p ∧ r'.2.1 39 p = r.2.1 39 p) ∧ ∀ i, i < 960 → r'.2.1 40 i = r.2.1 40 i
theorem kp.rf {r : rst} : kp r r := ⟨rfl, ⟨rfl, rfl, rfl, rfl⟩, fun _ _ => ⟨rfl, rfl⟩, fun _ _ => rfl⟩
theorem kp.tr {r r1 r2 : rst} (f : kp r r1) (g : kp r1 r2) : kp r r2 := ⟨g.1.trans f.1, ⟨g.2.1.1.trans f.2.1.1, g.2.1.2.1.trans f.2.1.2.1, g.2.1.2.2.1.trans f.2.1.2.2.1, g.2.1.2.2.2.trans f.2.1.2.2.2⟩, fun p hp => ⟨(g.2.2.1 p hp).1.trans (f.2.2.1 p hp).1, (g.2.2.1 p hp).2.trans (f.2.2.1 p hp).2⟩, fun i hi => (g.2.2.2 i hi).trans (f.2.2.2 i hi)⟩
theorem kp.w0 {r : rst} {x : Int32} : kp r (w0 r x) := ⟨rfl, ⟨rfl, rfl, rfl, rfl⟩, fun _ _ => ⟨rfl, rfl⟩, fun _ _ => rfl⟩
theorem kp.w1 {r : rst} {x : Int32} : kp r (w1 r x) := ⟨rfl, ⟨rfl, rfl, rfl, rfl⟩, fun _ _ => ⟨rfl, rfl⟩, fun _ _ => rfl⟩
theorem kp.w21 {r : rst} {x : Int32} : kp r (w21 r x) := ⟨rfl, ⟨rfl, rfl, rfl, rfl⟩, fun _ _ => ⟨rfl, rfl⟩, fun _ _ => rfl⟩
theorem kp.wl {r : rst} {a j : Nat} {x : Int64} : kp r (wl r a j x) := ⟨rfl, ⟨rfl, rfl, rfl, rfl⟩, fun _ _ => ⟨rfl, rfl⟩, fun _ _ => rfl⟩
theorem ex.kp {S : List Nat} {r r' : rst} (e : ex S r r') (hS : ∀ a, a ∈ S → 41 ≤ a ∧ a ≠ 52) : kp r r' := by
  have ok : ∀ a, a < 41 ∨ a = 52 → r'.2.1 a = r.2.1 a := fun a ha => e.2.2 a (fun q => by have := hS a q; omega)
  exact ⟨by rw [e.1], ⟨ok 35 (by omega), ok 36 (by omega), ok 37 (by omega), ok 52 (by omega)⟩, fun p _ => ⟨by rw [ok 38 (by omega)], by rw [ok 39 (by omega)]⟩, fun i _ => by rw [ok 40 (by omega)]⟩
theorem kp.LC {r r' : rst} {p n k : Nat} {t : Nat → Nat → Nat} (e : kp r r') (hp : p < 10) (hn : n ≤ 12) (hk : k ≤ 8) (L : LC r p n k t) : LC r' p n k t := ⟨((e.2.2.1 p hp).1).trans L.1, ((e.2.2.1 p hp).2).trans L.2.1, fun j hj x hx => (e.2.2.2 _ (by omega)).trans (L.2.2 j hj x hx)⟩
theorem rfS.kp {r r' : rst} {st : AS} {x : Int32} (s : rfS r st) (w : wfS st) (e : kp r r') (hx : r'.1.2.1 = x) : rfS r' (stS st x) := by
  obtain ⟨s1, s2, s3, s4, s5⟩ := s
  refine ⟨hx, fun i hi => ?_, fun p hp => ?_, e.1.trans s4, fun i hi => ?_⟩
  · show r'.2.1 35 i = _ ∧ (_ → r'.2.1 36 i = _) ∧ ∀ x, x < 96 → r'.2.1 37 _ = _
    rw [e.2.1.1, e.2.1.2.1, e.2.1.2.2.1]
    exact s2 i hi
  · have := s3 p hp
    have hw := w.2.1 p hp
    show rfC r' p (st.2.1 p)
    cases hc : st.2.1 p with
    | none =>
      rw [hc] at this
      exact ((e.2.2.1 p hp).1).trans this
    | some v =>
      rw [hc] at this
      obtain ⟨n, k, t⟩ := v
      obtain ⟨w1, w2, w3, w4, w5⟩ := hw n k t hc
      exact kp.LC e hp w2 w4 this
  · show r'.2.1 52 i = _
    rw [e.2.1.2.2.2]
    exact s5 i hi
section RefRows
variable {d : Nat} {h : mH} {st : AS} {K : Option Value → mH → Prop}
theorem RFs.fc {h' : mH} (F : RFs h st) (f : FC h h') : RFs h' st := by
  obtain ⟨r, o, s⟩ := F
  exact ⟨r, ⟨(f.2 34 (by omega) (by omega)).trans o.1, fun a h1 h2 => (f.2 a (by omega) (by omega)).trans (o.2.1 a h1 h2), fun a h1 h2 => (f.2 a (by omega) (by omega)).trans (o.2.2 a h1 h2)⟩, s⟩
theorem CLs.fR {h' : mH} (c : CLs h st) (f : FR h h') : CLs h' st := by
  have h57 := c.2.2.2.2.2
  have g : ag [34, 35, 36, 37, 38, 39, 40, 41, 42, 43, 44, 45, 46, 47, 48, 49, 50, 51, 52, 53, 54, 55, 56] h h' := ⟨Nat.le_of_eq f.1.symm, fun a _ ha => f.2 a (by simp at ha; omega)⟩
  have q : ∀ a, a ∈ [34, 35, 36, 37, 38, 39, 40, 41, 42, 43, 44, 45, 46, 47, 48, 49, 50, 51, 52, 53, 54, 55, 56] → 34 ≤ a ∧ a < 57 := by decide
  exact ⟨c.1.ag g (by decide) h57, c.2.1.ag g (fun a ha => by have := q a ha; omega) h57, c.2.2.1.ag g (fun a ha => by have := q a ha; omega) h57, c.2.2.2.1.ag g (fun a ha => by have := q a ha; omega) h57, c.2.2.2.2.1.ag g (fun a ha => by have := q a ha; omega) h57, by rw [f.1]; exact h57⟩
/-- a row is replaced -/
theorem rfS.row {r r' : rst} {s m : Nat} {l : Int32} {f : Nat → Int32} (S : rfS r st) (w : wfS st) (hs : s < 8) (e1 : r'.1.2.1 = 0) (e2 : r'.1.2.2.1 = r.1.2.2.1) (a35 : ∀ i, i < 8 → r'.2.1 35 i = if i = s then l else r.2.1 35 i) (a36 : ∀ i, i < 8 → (i = s → ¬ l = -1 → r'.2.1 36 i = nI m) ∧ (i ≠ s → r'.2.1 36 i = r.2.1 36 i)) (a37 : ∀ i, i < 8 → ∀ x, x < 96 → r'.2.1 37 (96 * i + x) = if i = s then f x else r.2.1 37 (96 * i + x)) (a : ∀ b, b = 38 ∨ b = 39 ∨ b = 40 ∨ b = 52 → r'.2.1 b = r.2.1 b) : rfS r' (stS (rwS st s (l, m, f)) 0) := by
  obtain ⟨s1, s2, s3, s4, s5⟩ := S
  refine ⟨e1, fun i hi => ?_, fun p hp => ?_, e2.trans s4, fun i hi => ?_⟩
  · show r'.2.1 35 i = (if i = s then (l, m, f) else st.1 i).1 ∧ (¬ (if i = s then (l, m, f) else st.1 i).1 = -1 → r'.2.1 36 i = nI (if i = s then (l, m, f) else st.1 i).2.1) ∧ ∀ x, x < 96 → r'.2.1 37 _ = (if i = s then (l, m, f) else st.1 i).2.2 x
    by_cases e : i = s
    · rw [if_pos e]
      refine ⟨by rw [a35 i hi, if_pos e], fun q => (a36 i hi).1 e q, fun x hx => by rw [a37 i hi x hx, if_pos e]⟩
    · rw [if_neg e]
      refine ⟨by rw [a35 i hi, if_neg e]; exact (s2 i hi).1, fun q => ((a36 i hi).2 e).trans ((s2 i hi).2.1 q), fun x hx => by rw [a37 i hi x hx, if_neg e]; exact (s2 i hi).2.2 x hx⟩
  · have := s3 p hp
    show rfC r' p (st.2.1 p)
    cases hc : st.2.1 p with
    | none =>
      rw [hc] at this
      show r'.2.1 38 p = 0
      rw [a 38 (by omega)]
      exact this
    | some v =>
      rw [hc] at this
      exact ⟨by rw [a 38 (by omega)]; exact this.1, by rw [a 39 (by omega)]; exact this.2.1, fun j hj x hx => by rw [a 40 (by omega)]; exact this.2.2 j hj x hx⟩
  · show r'.2.1 52 i = _
    rw [a 52 (by omega)]
    exact s5 i hi
theorem ln_neg {l : Int32} (h : l = -1 ∨ l = 0 ∨ l = 1 ∨ l = 2) : (l < 0 ↔ l = -1) ∧ (0 ≤ l ↔ ¬ l = -1) := by
  rcases h with e | e | e | e <;> subst e <;> decide
theorem r_row {x l n : Int32} (F : RFs h st) (w : wfS st) (hK : ∀ h', RFs h' (opRow st x l n).2 → FR h h' → K (some (.int (opRow st x l n).1)) h') : Ev (d + 2) (0, 0) MX12_row [.ref 34, .int x, .int l, .int n] h K := by
  obtain ⟨r, o, s⟩ := F
  obtain ⟨h1, e1, f1, o1⟩ := o.p0 (x := 0)
  have s1 : rfS (w0 r 0) st := s.kp w kp.w0 s.1
  refine en_X12_row (bk_X12_row_0 _ _ _ _ ⟨h1, e1, ?_⟩)
  have bad : opRow st x l n = badO st → h1.1 0 = h.1 0 ∧ K (some (.int (-1000001))) h1 := fun e => by
    rw [e] at hK
    exact ⟨f1.z, hK h1 ⟨_, o1, s1⟩ f1⟩
  refine isRow_ev (fun q => ⟨_, rfl, fun _ => bad (by unfold opRow; rw [q]), fun z => absurd rfl z⟩) (fun i hi e q => ⟨_, rfl, fun z => absurd z (by decide), fun _ => ?_⟩)
  subst e
  have unf : opRow st (nI i) l n = if l < 0 ∨ 2 < l ∨ ¬ n ≤ 96 then badO st else if ¬ 0 ≤ n then fndO st 4 else finO n (rwS st i (l, n.toNatClampNeg, fun _ => 0)) := by
    unfold opRow
    rw [q]
  refine rin_ev (lo := 0) (hi := 2) (by decide) (by decide) (fun z => ⟨_, rfl, fun _ => bad (by rw [unf, if_pos (by rcases z with z | z; exact Or.inl z; exact Or.inr (Or.inl z))]), fun z => absurd rfl z⟩) (fun v1 v2 => ⟨_, rfl, fun z => absurd z (by decide), fun _ => ⟨fun w3 => ?_, fun w3 => bad (by rw [unf, if_pos (Or.inr (Or.inr w3))])⟩⟩)
  rw [if_neg (fun q => q.elim v1 (fun q => q.elim v2 (fun q => q w3)))] at unf
  obtain ⟨h8, e8, f8, o8⟩ := o1.p1 (x := 0)
  have s8 : rfS (w1 (w0 r 0) 0) (stS st 0) := s1.kp w kp.w1 rfl
  refine ⟨h8, e8, fun w4 => ?_, fun w4 => ⟨_, o8.1, ?_⟩⟩
  · rw [if_neg (fun q => q w4)] at unf
    have w5 : ¬ n < 0 := fun q => by rw [Int32.lt_iff_toInt_lt] at q; rw [Int32.le_iff_toInt_le] at w4; omega
    obtain ⟨m, hm, rfl⟩ := nI_of w5
    have hm96 : m ≤ 96 := (nI_leI (b := 96) (by omega) (by decide)).mp w3
    rw [nI_clamp (by omega)] at unf
    rw [unf] at hK
    obtain ⟨h10, e10, f10, o10⟩ := o8.is (x := l) (j := i) 35 8 (by decide) hi
    obtain ⟨h12, e12, f12, o12⟩ := o10.is (x := nI m) (j := i) 36 8 (by decide) hi
    refine ⟨_, o8.f2, h10, e10, _, o10.f3, h12, e12, ?_⟩
    have key : ∀ c y h' r', y + c = 96 → FR h h' → RR h' r' → ex [37] (wr (wr (w1 (w0 r 0) 0) 35 i l) 36 i (nI m)) r' → (∀ z, r'.2.1 37 z = if 96 * i ≤ z ∧ z < 96 * i + y then 0 else r.2.1 37 z) → Wm (d + 1 + 1) (0, 0) JX12_row 65 [some (.ref 34), some (.int (nI i)), none, some (.int (nI m)), some (.int (nI y))] [] h' (fun r h' => h'.1 0 = h.1 0 ∧ K r h') := by
      intro c
      induction c with
      | zero =>
        intro y h' r' hy f' o' x' v'
        have hy : y = 96 := by omega
        subst hy
        refine bk_X12_row_65 _ _ _ _ ⟨fun _ => ⟨f'.z, hK h' ⟨r', o', ?_⟩ f'⟩, fun z => absurd (le_t (a := 96) (b := 96) (by decide) (by decide)) z⟩
        refine s.row w hi (by rw [x'.1]; rfl) (by rw [x'.1]; rfl) (fun z hz => ?_) (fun z hz => ⟨fun e _ => ?_, fun e => ?_⟩) (fun z hz y hy => ?_) (fun b hb => ?_)
        · rw [x'.at z (by simp), wr_n (by decide), wr_at]; rfl
        · rw [x'.at z (by simp), e, wr_j]
        · rw [x'.at z (by simp), wr_i e, wr_n (by decide)]; rfl
        · rw [v']
          by_cases e : z = i
          · rw [if_pos e, if_pos (by omega)]
          · rw [if_neg e, if_neg (by omega)]
        · rw [x'.2.2 b (by simp; omega), wr_n (by omega), wr_n (by omega)]; rfl
      | succ c ih =>
        intro y h' r' hy f' o' x' v'
        obtain ⟨h9, e9, f9, o9⟩ := o'.is (x := 0) (j := 96 * i + y) 37 768 (by decide) (by omega)
        refine bk_X12_row_65 _ _ _ _ ⟨fun z => absurd z (le_f (a := 96) (b := y) (by omega) (by decide)), fun _ => ⟨_, o'.f4, ?_⟩⟩
        rw [n96]
        refine ⟨h9, e9, ?_⟩
        rw [nI_1]
        refine ih (y + 1) h9 _ (by omega) (f'.tr f9) o9 (x'.tr (ex.wr (by simp))) (fun z => ?_)
        by_cases e : z = 96 * i + y
        · rw [e, wr_j, if_pos (by omega)]
        · rw [wr_i e, v']
          by_cases a : 96 * i ≤ z ∧ z < 96 * i + y
          · rw [if_pos a, if_pos (by omega)]
          · rw [if_neg a, if_neg (by omega)]
    exact key 96 0 h12 _ (by omega) (((f1.tr f8).tr f10).tr f12) o12 ex.rf (fun z => by rw [if_neg (by omega), wr_n (by decide), wr_n (by decide)]; rfl)
  · rw [if_pos w4] at unf
    rw [unf] at hK
    refine rfound_ev o8 (fun h9 f9 o9 => ⟨_, rfl, ((f1.tr f8).tr f9).z, hK h9 ⟨_, o9, ?_⟩ ((f1.tr f8).tr f9)⟩)
    exact s1.kp w (kp.w1.tr kp.w1) rfl
theorem r_set {x i v : Int32} (F : RFs h st) (w : wfS st) (hK : ∀ h', RFs h' (opSet st x i v).2 → FR h h' → K (some (.int (opSet st x i v).1)) h') : Ev (d + 2) (0, 0) MX12_set [.ref 34, .int x, .int i, .int v] h K := by
  obtain ⟨r, o, s⟩ := F
  obtain ⟨h1, e1, f1, o1⟩ := o.p0 (x := 0)
  have s1 : rfS (w0 r 0) st := s.kp w kp.w0 s.1
  refine en_X12_set (bk_X12_set_0 _ _ _ _ ⟨h1, e1, ?_⟩)
  refine isRow_ev (fun q => ⟨_, rfl, fun z => absurd rfl z, fun _ => ⟨f1.z, ?_⟩⟩) (fun u hu e q => ⟨_, rfl, fun _ => ?_, fun z => absurd z (by decide)⟩)
  · have e : opSet st x i v = badO st := by unfold opSet; rw [q]
    rw [e] at hK
    exact hK h1 ⟨_, o1, s1⟩ f1
  subst e
  obtain ⟨h8, e8, f8, o8⟩ := o1.p1 (x := 0)
  have f18 := f1.tr f8
  obtain ⟨su1, su2, su3⟩ := s.2.1 u hu
  obtain ⟨wu1, wu2⟩ := w.1 u hu
  have lnn := ln_neg wu1
  refine ⟨h8, e8, _, o8.f2, _, o8.il 35 8 (by decide) hu, ?_⟩
  rw [show (w1 (w0 r 0) 0).2.1 35 u = (st.1 u).1 from su1]
  refine ⟨fun z => ?_, fun z => ⟨_, o8.1, ?_⟩⟩
  · have nm : ¬ (st.1 u).1 = -1 := lnn.2.mp z
    refine ⟨_, o8.f3, _, o8.il 36 8 (by decide) hu, ?_⟩
    rw [show (w1 (w0 r 0) 0).2.1 36 u = nI (st.1 u).2.1 from su2 nm]
    refine rin0_ev (N := (st.1 u).2.1) (by omega) rfl (fun q2 => ⟨_, rfl, fun z => absurd rfl z, fun _ => ⟨_, o8.1, ?_⟩⟩) (fun j hj e q2 => ⟨_, rfl, fun _ => ⟨_, o8.f4, _, o8.f2, _, o8.il 35 8 (by decide) hu, ?_⟩, fun z => absurd z (by decide)⟩)
    · have e : opSet st (nI u) i v = fndO st 2 := by unfold opSet; rw [q]; simp only; rw [if_neg nm, q2]
      rw [e] at hK
      refine rfound_ev o8 (fun h9 f9 o9 => ⟨_, rfl, (f18.tr f9).z, hK h9 ⟨_, o9, ?_⟩ (f18.tr f9)⟩)
      exact s1.kp w (kp.w1.tr kp.w1) rfl
    · subst e
      have e : opSet st (nI u) (nI j) v = finO (lnv (st.1 u).1 v) (rwS st u ((st.1 u).1, (st.1 u).2.1, upd (st.1 u).2.2 j (lnv (st.1 u).1 v))) := by
        unfold opSet; rw [q]; simp only; rw [if_neg nm, q2]
      rw [e] at hK
      have fin : ∀ y : Int32, lnv (st.1 u).1 v = y → ∃ h', m_is h8 37 (96 * nI u + nI j) y = some h' ∧ (∃ r19 : Nat, m_fld h' 34 [11] 4 = some (.ref r19) ∧ (∃ x20 : Int32, m_il h' r19 (96 * nI u + nI j) = some x20 ∧ (h'.1 0 = h.1 0 ∧ K (some (.int x20)) h'))) := by
        intro y hy
        subst hy
        obtain ⟨h9, e9, f9, o9⟩ := o8.is (x := lnv (st.1 u).1 v) (j := 96 * u + j) 37 768 (by decide) (by omega)
        rw [n96]
        refine ⟨h9, e9, _, o9.f4, _, o9.il 37 768 (by decide) (by omega), (f18.tr f9).z, ?_⟩
        rw [wr_j]
        refine hK h9 ⟨_, o9, ?_⟩ (f18.tr f9)
        refine s.row w hu rfl rfl (fun y hy => ?_) (fun y hy => ⟨fun e _ => ?_, fun e => ?_⟩) (fun y hy x hx => ?_) (fun b hb => ?_)
        · rw [wr_n (by decide)]
          by_cases e : y = u
          · rw [if_pos e, e]; exact su1
          · rw [if_neg e]; rfl
        · rw [wr_n (by decide), e]; exact su2 nm
        · rw [wr_n (by decide)]; rfl
        · by_cases e : y = u
          · subst e
            rw [if_pos rfl]
            by_cases e2 : x = j
            · subst e2; rw [wr_j]; simp [upd]
            · rw [wr_i (by omega)]
              simp only [upd, e2, if_false]
              exact su3 x hx
          · rw [if_neg e, wr_i (by omega)]; rfl
        · rw [wr_n (by omega)]; rfl
      rw [show (w1 (w0 r 0) 0).2.1 35 u = (st.1 u).1 from su1]
      refine ⟨fun z0 => ⟨_, o8.f2, _, o8.il 35 8 (by decide) hu, ?_⟩, fun z0 => fin _ ?_⟩
      · rw [show (w1 (w0 r 0) 0).2.1 35 u = (st.1 u).1 from su1]
        refine ⟨fun z1 => fin _ ?_, fun z1 => fin _ ?_⟩
        · unfold lnv; rw [if_neg z0, if_neg z1]
        · unfold lnv; rw [if_neg z0, if_pos z1]
      · unfold lnv; rw [if_pos z0]
  · have nm : (st.1 u).1 = -1 := Classical.byContradiction fun q => z (lnn.2.mpr q)
    have e : opSet st (nI u) i v = fndO st 1 := by unfold opSet; rw [q]; simp only; rw [if_pos nm]
    rw [e] at hK
    refine rfound_ev o8 (fun h9 f9 o9 => ⟨_, rfl, (f18.tr f9).z, hK h9 ⟨_, o9, ?_⟩ (f18.tr f9)⟩)
    exact s1.kp w (kp.w1.tr kp.w1) rfl
theorem r_drop {x : Int32} (F : RFs h st) (w : wfS st) (hK : ∀ h', RFs h' (opDrop st x).2 → FR h h' → K (some (.int (opDrop st x).1)) h') : Ev (d + 2) (0, 0) MX12_drop [.ref 34, .int x] h K := by
  obtain ⟨r, o, s⟩ := F
  obtain ⟨h1, e1, f1, o1⟩ := o.p0 (x := 0)
  have s1 : rfS (w0 r 0) st := s.kp w kp.w0 s.1
  refine en_X12_drop (bk_X12_drop_0 _ _ ⟨h1, e1, ?_⟩)
  refine isRow_ev (fun q => ⟨_, rfl, fun z => absurd rfl z, fun _ => ⟨f1.z, ?_⟩⟩) (fun u hu e q => ⟨_, rfl, fun _ => ?_, fun z => absurd z (by decide)⟩)
  · have e : opDrop st x = badO st := by unfold opDrop; rw [q]
    rw [e] at hK
    exact hK h1 ⟨_, o1, s1⟩ f1
  subst e
  obtain ⟨h8, e8, f8, o8⟩ := o1.p1 (x := 0)
  have f18 := f1.tr f8
  obtain ⟨su1, su2, su3⟩ := s.2.1 u hu
  obtain ⟨wu1, wu2⟩ := w.1 u hu
  have lnn := ln_neg wu1
  refine ⟨h8, e8, _, o8.f2, _, o8.il 35 8 (by decide) hu, ?_⟩
  rw [show (w1 (w0 r 0) 0).2.1 35 u = (st.1 u).1 from su1]
  refine ⟨fun z => ?_, fun z => ⟨_, o8.1, ?_⟩⟩
  · have nm : ¬ (st.1 u).1 = -1 := lnn.2.mp z
    have e : opDrop st (nI u) = finO (nI (st.1 u).2.1) (rwS st u (-1, 0, (st.1 u).2.2)) := by unfold opDrop; rw [q]; simp only; rw [if_neg nm]
    rw [e] at hK
    obtain ⟨h9, e9, f9, o9⟩ := o8.is (x := -1) (j := u) 35 8 (by decide) hu
    refine ⟨_, o8.f2, h9, e9, _, o9.f3, _, o9.il 36 8 (by decide) hu, (f18.tr f9).z, ?_⟩
    have ev : (wr (w1 (w0 r 0) 0) 35 u (-1)).2.1 36 u = nI (st.1 u).2.1 := by rw [wr_n (by decide)]; exact su2 nm
    rw [ev]
    refine hK h9 ⟨_, o9, ?_⟩ (f18.tr f9)
    refine s.row w hu rfl rfl (fun y hy => ?_) (fun y hy => ⟨fun e q => absurd rfl q, fun e => ?_⟩) (fun y hy x hx => ?_) (fun b hb => ?_)
    · rw [wr_at]; rfl
    · rw [wr_n (by decide)]; rfl
    · rw [wr_n (by decide)]
      by_cases e : y = u
      · rw [if_pos e, e]; exact su3 x hx
      · rw [if_neg e]; rfl
    · rw [wr_n (by omega)]; rfl
  · have nm : (st.1 u).1 = -1 := Classical.byContradiction fun q => z (lnn.2.mpr q)
    have e : opDrop st (nI u) = fndO st 1 := by unfold opDrop; rw [q]; simp only; rw [if_pos nm]
    rw [e] at hK
    refine rfound_ev o8 (fun h9 f9 o9 => ⟨_, rfl, (f18.tr f9).z, hK h9 ⟨_, o9, ?_⟩ (f18.tr f9)⟩)
    exact s1.kp w (kp.w1.tr kp.w1) rfl
theorem lsum {i m s : Nat} (hi : i < 2147483648) (hm : m < 2147483648) (hs : s ≤ 1000) : (0 < lg_cmp ((nI i).toInt64 + (nI m).toInt64) (nI s).toInt64 ↔ ¬ i + m ≤ s) ∧ (lg_cmp ((nI i).toInt64 + (nI m).toInt64) (nI s).toInt64 ≤ 0 ↔ i + m ≤ s) := by
  have e : (0 < lg_cmp ((nI i).toInt64 + (nI m).toInt64) (nI s).toInt64 ↔ ¬ i + m ≤ s) := by
    rw [cmp_pos, nI_l hi, nI_l hm, nI_l (by omega), lN_add, pk_lLT (by omega) (by omega)]
    omega
  refine ⟨e, ?_⟩
  rw [← Classical.not_not (a := i + m ≤ s), ← e]
  rw [Int32.le_iff_toInt_le, Int32.lt_iff_toInt_lt]
  omega
theorem hlI_cases (s : Nat) (x y : Int32) (hx : ¬ x < 0) (hy : ¬ y < 0) : ∃ i m : Nat, i < 2147483648 ∧ m < 2147483648 ∧ x = nI i ∧ y = nI m ∧ hlI s x y = if i + m ≤ s then some (i, m) else none := by
  obtain ⟨i, hi, rfl⟩ := nI_of hx
  obtain ⟨m, hm, rfl⟩ := nI_of hy
  refine ⟨i, m, hi, hm, rfl, rfl, ?_⟩
  unfold hlI
  rw [nI_clamp hi, nI_clamp hm]
  by_cases w : i + m ≤ s
  · rw [if_pos w, if_pos ⟨hx, hy, w⟩]
  · rw [if_neg w, if_neg (fun q => w q.2.2)]
theorem hlI_neg {s : Nat} {x y : Int32} (h : x < 0 ∨ y < 0) : hlI s x y = none := by
  unfold hlI
  rw [if_neg (fun q => h.elim q.1 q.2.1)]
theorem r_copy {a i b j n : Int32} (F : RFs h st) (w : wfS st) (hK : ∀ h', RFs h' (opCopy st a i b j n).2 → FR h h' → K (some (.int (opCopy st a i b j n).1)) h') : Ev (d + 2) (0, 0) MX12_copy [.ref 34, .int a, .int i, .int b, .int j, .int n] h K := by
  obtain ⟨r, o, s⟩ := F
  obtain ⟨h1, e1, f1, o1⟩ := o.p0 (x := 0)
  have s1 : rfS (w0 r 0) st := s.kp w kp.w0 s.1
  refine en_X12_copy (bk_X12_copy_0 _ _ _ _ _ _ ⟨h1, e1, ?_⟩)
  have bad : opCopy st a i b j n = badO st → h1.1 0 = h.1 0 ∧ K (some (.int (-1000001))) h1 := fun e => by
    rw [e] at hK
    exact ⟨f1.z, hK h1 ⟨_, o1, s1⟩ f1⟩
  refine isRow_ev (fun q => ⟨_, rfl, fun _ => bad (by unfold opCopy; rw [q]), fun z => absurd rfl z⟩) (fun u hu e qu => ⟨_, rfl, fun z => absurd z (by decide), fun _ => ?_⟩)
  subst e
  refine isRow_ev (fun q => ⟨_, rfl, fun z => absurd rfl z, fun _ => bad (by unfold opCopy; rw [qu, q])⟩) (fun v hv e qv => ⟨_, rfl, fun _ => ?_, fun z => absurd z (by decide)⟩)
  subst e
  have unf : opCopy st (nI u) i (nI v) j n = if (st.1 u).1 = -1 ∨ (st.1 v).1 = -1 then fndO st 1 else if ¬ (st.1 u).1 = (st.1 v).1 then fndO st 5 else match hlI (st.1 u).2.1 i n with
      | none => fndO st 2
      | some p => match hlI (st.1 v).2.1 j n with
        | none => fndO st 2
        | some q => finO n (rwS st v ((st.1 v).1, (st.1 v).2.1, va_cpy (st.1 u).2.2 (st.1 v).2.2 p.1 q.1 q.2)) := by
    unfold opCopy
    rw [qu, qv]
    rfl
  obtain ⟨h8, e8, f8, o8⟩ := o1.p1 (x := 0)
  have f18 := f1.tr f8
  obtain ⟨su1, su2, su3⟩ := s.2.1 u hu
  obtain ⟨sv1, sv2, sv3⟩ := s.2.1 v hv
  obtain ⟨wu1, wu2⟩ := w.1 u hu
  obtain ⟨wv1, wv2⟩ := w.1 v hv
  have lnu := ln_neg wu1
  have lnv := ln_neg wv1
  have au : (w1 (w0 r 0) 0).2.1 35 u = (st.1 u).1 := su1
  have av : (w1 (w0 r 0) 0).2.1 35 v = (st.1 v).1 := sv1
  have fnd' : ∀ {z : Int32}, opCopy st (nI u) i (nI v) j n = fndO st z → ∃ fs : List Value, h8.1 34 = .inr (11, fs) ∧ Ev (d + 1) (0, 0) MX12_found [.ref 34, .int z] h8 (fun r h' => ∃ y : Int32, r = some (.int y) ∧ (h'.1 0 = h.1 0 ∧ K (some (.int y)) h')) := fun e => by
    rw [e] at hK
    exact ⟨_, o8.1, rfound_ev o8 (fun h9 f9 o9 => ⟨_, rfl, (f18.tr f9).z, hK h9 ⟨_, o9, s1.kp w (kp.w1.tr kp.w1) rfl⟩ (f18.tr f9)⟩)⟩
  refine ⟨h8, e8, _, o8.f2, _, o8.il 35 8 (by decide) hu, ?_⟩
  rw [au]
  refine ⟨fun z => fnd' (by rw [unf, if_pos (Or.inl (lnu.1.mp z))]), fun z => ⟨_, o8.f2, _, o8.il 35 8 (by decide) hv, ?_⟩⟩
  have nu : ¬ (st.1 u).1 = -1 := fun q => z (lnu.1.mpr q)
  rw [av]
  refine ⟨fun z2 => ⟨_, o8.f2, _, o8.il 35 8 (by decide) hu, _, o8.f2, _, o8.il 35 8 (by decide) hv, ?_⟩, fun z2 => fnd' (by rw [unf, if_pos (Or.inr (Classical.byContradiction fun q => z2 (lnv.2.mpr q)))])⟩
  have nv : ¬ (st.1 v).1 = -1 := lnv.2.mp z2
  rw [if_neg (fun q => q.elim nu nv)] at unf
  rw [au, av]
  refine ⟨fun z3 => ?_, fun z3 => fnd' (by rw [unf, if_pos z3])⟩
  rw [if_neg (fun q => q z3)] at unf
  have nos : hlI (st.1 u).2.1 i n = none ∨ hlI (st.1 v).2.1 j n = none → opCopy st (nI u) i (nI v) j n = fndO st 2 := by
    rintro (q | q)
    · rw [unf, q]
    · rw [unf]
      cases hlI (st.1 u).2.1 i n with
      | none => rfl
      | some p => simp only; rw [q]
  refine ⟨fun y => fnd' (nos (Or.inl (hlI_neg (Or.inl y)))), fun y1 => ⟨fun y => fnd' (nos (Or.inr (hlI_neg (Or.inl y)))), fun y2 => ⟨fun y => fnd' (nos (Or.inl (hlI_neg (Or.inr y)))), fun y3 => ⟨_, o8.f3, _, o8.il 36 8 (by decide) hu, ?_⟩⟩⟩⟩
  obtain ⟨i', m, hi', hm, ei, en, hc1⟩ := hlI_cases (st.1 u).2.1 i n y1 y3
  obtain ⟨j', m', hj', hm', ej, en', hc2⟩ := hlI_cases (st.1 v).2.1 j n y2 y3
  have : m = m' := nI_inj hm hm' (en.symm.trans en')
  subst this
  subst ei
  subst ej
  subst en
  rw [show (w1 (w0 r 0) 0).2.1 36 u = nI (st.1 u).2.1 from su2 nu]
  have l1 := lsum (i := i') (m := m) (s := (st.1 u).2.1) hi' hm (by omega)
  have l2 := lsum (i := j') (m := m) (s := (st.1 v).2.1) hj' hm (by omega)
  refine ⟨fun y => fnd' (nos (Or.inl (by rw [hc1, if_neg (l1.1.mp y)]))), fun y => ⟨_, o8.f3, _, o8.il 36 8 (by decide) hv, ?_⟩⟩
  have b1 : i' + m ≤ (st.1 u).2.1 := Classical.byContradiction fun q => y (l1.1.mpr q)
  rw [show (w1 (w0 r 0) 0).2.1 36 v = nI (st.1 v).2.1 from sv2 nv]
  refine ⟨fun y => ?_, fun y => fnd' (nos (Or.inr (by rw [hc2, if_neg (fun q => y (l2.2.mpr q))])))⟩
  have b2 : j' + m ≤ (st.1 v).2.1 := l2.2.mp y
  rw [hc1, hc2, if_pos b1, if_pos b2] at unf
  simp only at unf
  rw [unf] at hK
  -- its end
  have fin : ∀ h' r', FR h h' → RR h' r' → ex [37] (w1 (w0 r 0) 0) r' → (∀ q, r'.2.1 37 q = if 96 * v + j' ≤ q ∧ q < 96 * v + j' + m then r.2.1 37 (96 * u + i' + (q - (96 * v + j'))) else r.2.1 37 q) → h'.1 0 = h.1 0 ∧ K (some (.int (nI m))) h' := by
    intro h' r' f' o' x' v'
    refine ⟨f'.z, hK h' ⟨r', o', ?_⟩ f'⟩
    refine s.row w hv (by rw [x'.1]; rfl) (by rw [x'.1]; rfl) (fun y hy => ?_) (fun y hy => ⟨fun e _ => ?_, fun e => ?_⟩) (fun y hy x hx => ?_) (fun b hb => ?_)
    · rw [x'.at y (by simp)]
      by_cases e : y = v
      · rw [if_pos e, e]; exact sv1
      · rw [if_neg e]; rfl
    · rw [x'.at y (by simp), e]; exact sv2 nv
    · rw [x'.at y (by simp)]; rfl
    · rw [v']
      by_cases e : y = v
      · subst e
        rw [if_pos rfl]
        by_cases e2 : j' ≤ x ∧ x < j' + m
        · rw [if_pos (by omega), pk_cpy_in e2.1 e2.2, ← su3 _ (by omega)]
          exact congrArg (r.2.1 37) (by omega)
        · rw [if_neg (by omega), pk_cpy_out (by omega)]
          exact sv3 x hx
      · rw [if_neg e, if_neg (by omega)]
    · rw [x'.2.2 b (by simp; omega)]; rfl
  have dn' : i' < j' → ∀ c y h' r', y + c = m → FR h h' → RR h' r' → ex [37] (w1 (w0 r 0) 0) r' → (∀ q, r'.2.1 37 q = if 96 * v + j' + (m - y) ≤ q ∧ q < 96 * v + j' + m then r.2.1 37 (96 * u + i' + (q - (96 * v + j'))) else r.2.1 37 q) → Wm (d + 1 + 1) (0, 0) JX12_copy 143 [some (.ref 34), some (.int (nI u)), some (.int (nI i')), some (.int (nI v)), some (.int (nI j')), some (.int (nI m)), some (.int 0), some (.int (nI y)), none] [] h' (fun r h' => h'.1 0 = h.1 0 ∧ K r h') := by
    intro hij c
    induction c with
    | zero =>
      intro y h' r' hy f' o' x' v'
      have hy : y = m := by omega
      subst hy
      rw [Nat.sub_self, Nat.add_zero] at v'
      exact bk_X12_copy_143 _ _ _ _ _ _ _ _ ⟨fun _ => fin h' r' f' o' x' v', fun q => absurd (le_t (Nat.le_refl _) hm) q⟩
    | succ c ih =>
      intro y h' r' hy f' o' x' v'
      obtain ⟨h9, e9, f9, o9⟩ := o'.is (x := r'.2.1 37 (96 * u + i' + (m - 1 - y))) (j := 96 * v + j' + (m - 1 - y)) 37 768 (by decide) (by omega)
      refine bk_X12_copy_143 _ _ _ _ _ _ _ _ ⟨fun q => absurd q (le_f (by omega) hm), fun _ => ⟨fun _ => ⟨_, o'.f4, _, o'.f4, ?_⟩, fun q => absurd rfl q⟩⟩
      rw [n96, n96, nI_m1 (by omega), pk_sub (show y ≤ m - 1 by omega), nI_add, nI_add]
      refine ⟨_, o'.il 37 768 (by decide) (by omega), h9, e9, ?_⟩
      rw [nI_1]
      refine ih (y + 1) h9 _ (by omega) (f'.tr f9) o9 (x'.tr (ex.wr (by simp))) (fun q => ?_)
      by_cases e : q = 96 * v + j' + (m - 1 - y)
      · rw [e, wr_j, if_pos (by omega), v', if_neg (by omega)]
        exact congrArg (r.2.1 37) (by omega)
      · rw [wr_i e, v']
        by_cases a : 96 * v + j' + (m - y) ≤ q ∧ q < 96 * v + j' + m
        · rw [if_pos a, if_pos (by omega)]
        · rw [if_neg a, if_neg (by omega)]
  have up' : ¬ i' < j' → ∀ c y h' r', y + c = m → FR h h' → RR h' r' → ex [37] (w1 (w0 r 0) 0) r' → (∀ q, r'.2.1 37 q = if 96 * v + j' ≤ q ∧ q < 96 * v + j' + y then r.2.1 37 (96 * u + i' + (q - (96 * v + j'))) else r.2.1 37 q) → Wm (d + 1 + 1) (0, 0) JX12_copy 143 [some (.ref 34), some (.int (nI u)), some (.int (nI i')), some (.int (nI v)), some (.int (nI j')), some (.int (nI m)), some (.int 1), some (.int (nI y)), none] [] h' (fun r h' => h'.1 0 = h.1 0 ∧ K r h') := by
    intro hij c
    induction c with
    | zero =>
      intro y h' r' hy f' o' x' v'
      have hy : y = m := by omega
      subst hy
      exact bk_X12_copy_143 _ _ _ _ _ _ _ _ ⟨fun _ => fin h' r' f' o' x' v', fun q => absurd (le_t (Nat.le_refl _) hm) q⟩
    | succ c ih =>
      intro y h' r' hy f' o' x' v'
      obtain ⟨h9, e9, f9, o9⟩ := o'.is (x := r'.2.1 37 (96 * u + i' + y)) (j := 96 * v + j' + y) 37 768 (by decide) (by omega)
      refine bk_X12_copy_143 _ _ _ _ _ _ _ _ ⟨fun q => absurd q (le_f (by omega) hm), fun _ => ⟨fun q => absurd q (by decide), fun _ => ⟨_, o'.f4, _, o'.f4, ?_⟩⟩⟩
      rw [n96, n96, nI_add, nI_add]
      refine ⟨_, o'.il 37 768 (by decide) (by omega), h9, e9, ?_⟩
      rw [nI_1]
      refine ih (y + 1) h9 _ (by omega) (f'.tr f9) o9 (x'.tr (ex.wr (by simp))) (fun q => ?_)
      by_cases e : q = 96 * v + j' + y
      · rw [e, wr_j, if_pos (by omega), v', if_neg (by omega)]
        exact congrArg (r.2.1 37) (by omega)
      · rw [wr_i e, v']
        by_cases a : 96 * v + j' ≤ q ∧ q < 96 * v + j' + y
        · rw [if_pos a, if_pos (by omega)]
        · rw [if_neg a, if_neg (by omega)]
  refine ⟨fun q => dn' ((nI_ltI (by omega) (by omega)).mp q) m 0 h8 _ (by omega) f18 o8 ex.rf (fun q => ?_), fun q => up' (fun e => q (lt_t e (by omega))) m 0 h8 _ (by omega) f18 o8 ex.rf (fun q => ?_)⟩
  · rw [if_neg (by omega)]; rfl
  · rw [if_neg (by omega)]; rfl
end RefRows

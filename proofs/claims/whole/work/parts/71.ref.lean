/-! the reference: its cells, reading and writing -/
def rlen (a : Nat) : Nat := ([8, 8, 768, 13, 13, 1248, 12, 12, 12, 12, 12, 12, 144, 1728, 12, 12, 28800, 16, 430, 10] : List Nat).getD (a - 35) 0
def rknd (a : Nat) : Nat := if a = 41 ∨ a = 47 then 2 else 0
/-- thrown, status, traced, shapes; rows of ints; rows of longs -/
abbrev rst : Type := (Int32 × Int32 × Int32 × Int32) × (Nat → Nat → Int32) × (Nat → Nat → Int64)
def RR (h : mH) (r : rst) : Prop := h.1 34 = .inr (11, [.int r.1.1, .int r.1.2.1, .ref 35, .ref 36, .ref 37, .ref 38, .ref 39, .ref 40, .ref 41, .ref 42, .ref 43, .ref 44, .ref 45, .ref 46, .ref 47, .ref 48, .ref 49, .ref 50, .ref 51, .ref 52, .int r.1.2.2.1, .int r.1.2.2.2, .ref 53, .ref 54, .ref 55, .ref 56]) ∧ (∀ a, 35 ≤ a → a ≤ 54 → h.1 a = .inl (rknd a, rlen a, .inl (r.2.1 a))) ∧ ∀ a, 55 ≤ a → a ≤ 56 → h.1 a = .inl (1, 43, .inr (.inl (r.2.2 a)))
/-- only the reference's cells have changed -/
def FR (h h' : mH) : Prop := h'.2 = h.2 ∧ ∀ a, a < 34 ∨ 57 ≤ a → h'.1 a = h.1 a
theorem FR.rf {h : mH} : FR h h := ⟨rfl, fun _ _ => rfl⟩
theorem FR.tr {h h1 h2 : mH} (f : FR h h1) (g : FR h1 h2) : FR h h2 := ⟨g.1.trans f.1, fun a ha => (g.2 a ha).trans (f.2 a ha)⟩
theorem FR.z {h h1 : mH} (f : FR h h1) : h1.1 0 = h.1 0 := f.2 0 (by omega)
theorem FR.zz {h0 h h1 : mH} (f : FR h h1) (e : h.1 0 = h0.1 0) : h1.1 0 = h0.1 0 := f.z.trans e
def wr (r : rst) (a j : Nat) (x : Int32) : rst := (r.1, fun b => if b = a then upd (r.2.1 a) j x else r.2.1 b, r.2.2)
def wl (r : rst) (a j : Nat) (x : Int64) : rst := (r.1, r.2.1, fun b => if b = a then vp_updL (r.2.2 a) j x else r.2.2 b)
def w0 (r : rst) (x : Int32) : rst := ((x, r.1.2), r.2)
def w1 (r : rst) (x : Int32) : rst := ((r.1.1, x, r.1.2.2), r.2)
def w20 (r : rst) (x : Int32) : rst := ((r.1.1, r.1.2.1, x, r.1.2.2.2), r.2)
def w21 (r : rst) (x : Int32) : rst := ((r.1.1, r.1.2.1, r.1.2.2.1, x), r.2)
theorem wr_s {r : rst} {a j : Nat} {x : Int32} : (wr r a j x).2.1 a = upd (r.2.1 a) j x := if_pos rfl
theorem wr_n {r : rst} {a b j : Nat} {x : Int32} (h : b ≠ a) : (wr r a j x).2.1 b = r.2.1 b := if_neg h
theorem wr_at {r : rst} {a j : Nat} {x : Int32} (i : Nat) : (wr r a j x).2.1 a i = if i = j then x else r.2.1 a i := by rw [wr_s]; rfl
theorem wr_j {r : rst} {a j : Nat} {x : Int32} : (wr r a j x).2.1 a j = x := by rw [wr_at, if_pos rfl]
theorem wr_i {r : rst} {a j i : Nat} {x : Int32} (h : i ≠ j) : (wr r a j x).2.1 a i = r.2.1 a i := by rw [wr_at, if_neg h]
/-- rows outside S, the numbers and the longs are as they were -/
def ex (S : List Nat) (r r' : rst) : Prop := r'.1 = r.1 ∧ r'.2.2 = r.2.2 ∧ ∀ a, a ∉ S → r'.2.1 a = r.2.1 a
theorem ex.rf {S : List Nat} {r : rst} : ex S r r := ⟨rfl, rfl, fun _ _ => rfl⟩
theorem ex.tr {S : List Nat} {r r1 r2 : rst} (f : ex S r r1) (g : ex S r1 r2) : ex S r r2 := ⟨g.1.trans f.1, g.2.1.trans f.2.1, fun a ha => (g.2.2 a ha).trans (f.2.2 a ha)⟩
theorem ex.wk {S T : List Nat} {r r1 : rst} (f : ex S r r1) (h : ∀ a, a ∈ S → a ∈ T) : ex T r r1 := ⟨f.1, f.2.1, fun a ha => f.2.2 a (fun q => ha (h a q))⟩
theorem ex.wr {S : List Nat} {r : rst} {a j : Nat} {x : Int32} (h : a ∈ S) : ex S r (wr r a j x) := ⟨rfl, rfl, fun _ hb => wr_n (fun e => hb (e ▸ h))⟩
theorem ex.at {S : List Nat} {r r1 : rst} (f : ex S r r1) {a : Nat} (i : Nat) (ha : a ∉ S) : r1.2.1 a i = r.2.1 a i := by rw [f.2.2 a ha]
section RefOps
variable {h : mH} {r : rst}
theorem RR.il {j : Nat} (o : RR h r) (a N : Nat) (hN : 35 ≤ a ∧ a ≤ 54 ∧ rknd a = 0 ∧ rlen a = N ∧ N < 2147483648) (hj : j < N) : m_il h a (nI j) = some (r.2.1 a j) := by
  obtain ⟨h1, h2, h3, h4, h5⟩ := hN
  have e := o.2.1 a h1 h2
  rw [h3, h4] at e
  exact il_at e hj h5
theorem RR.zl {j : Nat} (o : RR h r) (a N : Nat) (hN : 35 ≤ a ∧ a ≤ 54 ∧ rknd a = 2 ∧ rlen a = N ∧ N < 2147483648) (hj : j < N) : m_zl h a (nI j) = some (r.2.1 a j) := by
  obtain ⟨h1, h2, h3, h4, h5⟩ := hN
  have e := o.2.1 a h1 h2
  rw [h3, h4] at e
  exact zl_at e hj h5
theorem RR.ll {j : Nat} (o : RR h r) (a : Nat) (hN : 55 ≤ a ∧ a ≤ 56) (hj : j < 43) : m_ll h a (nI j) = some (r.2.2 a j) := ll_at (o.2.2 a hN.1 hN.2) hj (by decide)
theorem RR.up {a j N : Nat} {x : Int32} (o : RR h r) (h1 : 35 ≤ a) (h2 : a ≤ 54) (h4 : rlen a = N) : FR h (m_up h.1 a (.inl (rknd a, N, .inl (upd (r.2.1 a) j x))), h.2) ∧ RR (m_up h.1 a (.inl (rknd a, N, .inl (upd (r.2.1 a) j x))), h.2) (wr r a j x) := by
  refine ⟨⟨rfl, fun b hb => up_n (by omega)⟩, (up_n (by omega)).trans o.1, fun b hb1 hb2 => ?_, fun b hb1 hb2 => (up_n (by omega)).trans (o.2.2 b hb1 hb2)⟩
  by_cases e : b = a
  · rw [e, up_s, wr_s, h4]
  · rw [up_n e, wr_n e]
    exact o.2.1 b hb1 hb2
theorem RR.is {j : Nat} {x : Int32} (o : RR h r) (a N : Nat) (hN : 35 ≤ a ∧ a ≤ 54 ∧ rknd a = 0 ∧ rlen a = N ∧ N < 2147483648) (hj : j < N) : ∃ h', m_is h a (nI j) x = some h' ∧ FR h h' ∧ RR h' (wr r a j x) := by
  obtain ⟨h1, h2, h3, h4, h5⟩ := hN
  have e := o.2.1 a h1 h2
  have k := o.up (j := j) (x := x) h1 h2 h4
  rw [h3, h4] at e
  rw [h3] at k
  exact ⟨_, is_at e hj h5, k⟩
theorem RR.zs {j : Nat} {x : Int32} (o : RR h r) (a N : Nat) (hN : 35 ≤ a ∧ a ≤ 54 ∧ rknd a = 2 ∧ rlen a = N ∧ N < 2147483648) (hj : j < N) (hx : vp_nar .boolean x = x) : ∃ h', m_zs h a (nI j) x = some h' ∧ FR h h' ∧ RR h' (wr r a j x) := by
  obtain ⟨h1, h2, h3, h4, h5⟩ := hN
  have e := o.2.1 a h1 h2
  have k := o.up (j := j) (x := x) h1 h2 h4
  rw [h3, h4] at e
  rw [h3] at k
  refine ⟨_, zs_at e hj h5, ?_⟩
  rw [hx]
  exact k
theorem RR.ls {j : Nat} {x : Int64} (o : RR h r) (a : Nat) (hN : 55 ≤ a ∧ a ≤ 56) (hj : j < 43) : ∃ h', m_ls h a (nI j) x = some h' ∧ FR h h' ∧ RR h' (wl r a j x) := by
  refine ⟨_, ls_at (o.2.2 a hN.1 hN.2) hj (by decide), ⟨rfl, fun b hb => up_n (by omega)⟩, (up_n (by omega)).trans o.1, fun b hb1 hb2 => (up_n (by omega)).trans (o.2.1 b hb1 hb2), fun b hb1 hb2 => ?_⟩
  by_cases e : b = a
  · rw [e, up_s]
    simp [wl]
  · rw [up_n e]
    simp only [wl, e, if_false]
    exact o.2.2 b hb1 hb2
theorem RR.pf {v : Value} {k : Nat} {r' : rst} (o : RR h r) (hk : k < 26) (e : r'.2 = r.2) (hf : ([.int r.1.1, .int r.1.2.1, .ref 35, .ref 36, .ref 37, .ref 38, .ref 39, .ref 40, .ref 41, .ref 42, .ref 43, .ref 44, .ref 45, .ref 46, .ref 47, .ref 48, .ref 49, .ref 50, .ref 51, .ref 52, .int r.1.2.2.1, .int r.1.2.2.2, .ref 53, .ref 54, .ref 55, .ref 56] : List Value).set k v = [.int r'.1.1, .int r'.1.2.1, .ref 35, .ref 36, .ref 37, .ref 38, .ref 39, .ref 40, .ref 41, .ref 42, .ref 43, .ref 44, .ref 45, .ref 46, .ref 47, .ref 48, .ref 49, .ref 50, .ref 51, .ref 52, .int r'.1.2.2.1, .int r'.1.2.2.2, .ref 53, .ref 54, .ref 55, .ref 56]) : ∃ h', m_put h 34 11 k v = some h' ∧ FR h h' ∧ RR h' r' := by
  refine ⟨_, put_at o.1 hk, ⟨rfl, fun b hb => up_n (by omega)⟩, ?_, fun b hb1 hb2 => ?_, fun b hb1 hb2 => ?_⟩
  · rw [up_s, hf]
  · rw [up_n (by omega), e]
    exact o.2.1 b hb1 hb2
  · rw [up_n (by omega), e]
    exact o.2.2 b hb1 hb2
theorem RR.p0 {x : Int32} (o : RR h r) : ∃ h', m_put h 34 11 0 (.int x) = some h' ∧ FR h h' ∧ RR h' (w0 r x) := o.pf (by decide) rfl rfl
theorem RR.p1 {x : Int32} (o : RR h r) : ∃ h', m_put h 34 11 1 (.int x) = some h' ∧ FR h h' ∧ RR h' (w1 r x) := o.pf (by decide) rfl rfl
theorem RR.p20 {x : Int32} (o : RR h r) : ∃ h', m_put h 34 11 20 (.int x) = some h' ∧ FR h h' ∧ RR h' (w20 r x) := o.pf (by decide) rfl rfl
theorem RR.p21 {x : Int32} (o : RR h r) : ∃ h', m_put h 34 11 21 (.int x) = some h' ∧ FR h h' ∧ RR h' (w21 r x) := o.pf (by decide) rfl rfl
theorem RR.f1 (o : RR h r) : m_fld h 34 [11] 1 = some (.int r.1.2.1) := fld_at o.1 (by decide) rfl
theorem RR.f2 (o : RR h r) : m_fld h 34 [11] 2 = some (.ref 35) := fld_at o.1 (by decide) rfl
theorem RR.f3 (o : RR h r) : m_fld h 34 [11] 3 = some (.ref 36) := fld_at o.1 (by decide) rfl
theorem RR.f4 (o : RR h r) : m_fld h 34 [11] 4 = some (.ref 37) := fld_at o.1 (by decide) rfl
theorem RR.f5 (o : RR h r) : m_fld h 34 [11] 5 = some (.ref 38) := fld_at o.1 (by decide) rfl
theorem RR.f6 (o : RR h r) : m_fld h 34 [11] 6 = some (.ref 39) := fld_at o.1 (by decide) rfl
theorem RR.f7 (o : RR h r) : m_fld h 34 [11] 7 = some (.ref 40) := fld_at o.1 (by decide) rfl
theorem RR.f8 (o : RR h r) : m_fld h 34 [11] 8 = some (.ref 41) := fld_at o.1 (by decide) rfl
theorem RR.f9 (o : RR h r) : m_fld h 34 [11] 9 = some (.ref 42) := fld_at o.1 (by decide) rfl
theorem RR.f10 (o : RR h r) : m_fld h 34 [11] 10 = some (.ref 43) := fld_at o.1 (by decide) rfl
theorem RR.f11 (o : RR h r) : m_fld h 34 [11] 11 = some (.ref 44) := fld_at o.1 (by decide) rfl
theorem RR.f12 (o : RR h r) : m_fld h 34 [11] 12 = some (.ref 45) := fld_at o.1 (by decide) rfl
theorem RR.f13 (o : RR h r) : m_fld h 34 [11] 13 = some (.ref 46) := fld_at o.1 (by decide) rfl
theorem RR.f14 (o : RR h r) : m_fld h 34 [11] 14 = some (.ref 47) := fld_at o.1 (by decide) rfl
theorem RR.f15 (o : RR h r) : m_fld h 34 [11] 15 = some (.ref 48) := fld_at o.1 (by decide) rfl
theorem RR.f16 (o : RR h r) : m_fld h 34 [11] 16 = some (.ref 49) := fld_at o.1 (by decide) rfl
theorem RR.f17 (o : RR h r) : m_fld h 34 [11] 17 = some (.ref 50) := fld_at o.1 (by decide) rfl
theorem RR.f18 (o : RR h r) : m_fld h 34 [11] 18 = some (.ref 51) := fld_at o.1 (by decide) rfl
theorem RR.f19 (o : RR h r) : m_fld h 34 [11] 19 = some (.ref 52) := fld_at o.1 (by decide) rfl
theorem RR.f20 (o : RR h r) : m_fld h 34 [11] 20 = some (.int r.1.2.2.1) := fld_at o.1 (by decide) rfl
theorem RR.f21 (o : RR h r) : m_fld h 34 [11] 21 = some (.int r.1.2.2.2) := fld_at o.1 (by decide) rfl
theorem RR.f22 (o : RR h r) : m_fld h 34 [11] 22 = some (.ref 53) := fld_at o.1 (by decide) rfl
theorem RR.f23 (o : RR h r) : m_fld h 34 [11] 23 = some (.ref 54) := fld_at o.1 (by decide) rfl
theorem RR.f24 (o : RR h r) : m_fld h 34 [11] 24 = some (.ref 55) := fld_at o.1 (by decide) rfl
theorem RR.f25 (o : RR h r) : m_fld h 34 [11] 25 = some (.ref 56) := fld_at o.1 (by decide) rfl
end RefOps
/-- a cover in the reference's rows -/
def LC (r : rst) (p n k : Nat) (t : Nat → Nat → Nat) : Prop := r.2.1 38 p = nI n ∧ r.2.1 39 p = nI k ∧ ∀ j, j < k → ∀ x, x < n → r.2.1 40 (96 * p + 12 * j + x) = nI (t j x)
theorem LC.ex {S : List Nat} {r r' : rst} {p n k : Nat} {t : Nat → Nat → Nat} (L : LC r p n k t) (e : ex S r r') (h1 : 38 ∉ S) (h2 : 39 ∉ S) (h3 : 40 ∉ S) : LC r' p n k t := ⟨(e.at p h1).trans L.1, (e.at p h2).trans L.2.1, fun j hj x hx => (e.at _ h3).trans (L.2.2 j hj x hx)⟩
theorem LC.congr {r : rst} {p n k : Nat} {t u : Nat → Nat → Nat} (L : LC r p n k t) (h : ∀ j, j < k → ∀ x, x < n → t j x = u j x) : LC r p n k u := ⟨L.1, L.2.1, fun j hj x hx => by rw [← h j hj x hx]; exact L.2.2 j hj x hx⟩
theorem n3 (p j x : Nat) : (96 : Int32) * nI p + 12 * nI j + nI x = nI (96 * p + 12 * j + x) := by rw [show (96 : Int32) = nI 96 by decide, show (12 : Int32) = nI 12 by decide, pk_mul, pk_mul, nI_add, nI_add]
theorem n96 (p x : Nat) : (96 : Int32) * nI p + nI x = nI (96 * p + x) := by rw [show (96 : Int32) = nI 96 by decide, pk_mul, nI_add]
theorem i64_lt {x y : Int32} : x.toInt64 < y.toInt64 ↔ x < y := by rw [Int64.lt_iff_toInt_lt, Int32.lt_iff_toInt_lt, Int32.toInt_toInt64, Int32.toInt_toInt64]
theorem cmp_neg {x y : Int64} : lg_cmp x y < 0 ↔ x < y := by
  constructor
  · intro h
    apply Classical.byContradiction
    intro q
    by_cases e : x = y
    · rw [cmp_z.mpr e] at h; exact absurd h (by decide)
    · have : y < x := by
        rw [Int64.lt_iff_toInt_lt] at q ⊢
        have : x.toInt ≠ y.toInt := fun w => e (Int64.toInt_inj.mp w)
        omega
      rw [cmp_gt this] at h
      exact absurd h (by decide)
  · intro h
    rw [cmp_lt h]
    decide
theorem cmp_pos {x y : Int64} : 0 < lg_cmp x y ↔ y < x := by
  constructor
  · intro h
    apply Classical.byContradiction
    intro q
    by_cases e : x = y
    · rw [cmp_z.mpr e] at h; exact absurd h (by decide)
    · have : x < y := by
        rw [Int64.lt_iff_toInt_lt] at q ⊢
        have : x.toInt ≠ y.toInt := fun w => e (Int64.toInt_inj.mp w)
        omega
      rw [cmp_lt this] at h
      exact absurd h (by decide)
  · intro h
    rw [cmp_gt h]
    decide
section RefEv
variable {d : Nat} {h : mH} {r : rst} {K : Option Value → mH → Prop}
theorem rin_ev {x lo hi : Int32} {l1 l2 : Int64} (e1 : l1 = lo.toInt64) (e2 : l2 = hi.toInt64) (h0 : (x < lo ∨ hi < x) → K (some (.int 0)) h) (h1 : ¬ x < lo → ¬ hi < x → K (some (.int 1)) h) : Ev d (0, 0) MX12_in [.long x.toInt64, .long l1, .long l2] h K := by
  subst e1
  subst e2
  refine en_X12_in (bk_X12_in_0 _ _ _ ⟨fun q => ⟨rfl, h0 (Or.inl (i64_lt.mp (cmp_neg.mp q)))⟩, fun q => ⟨fun q2 => ⟨rfl, h0 (Or.inr (i64_lt.mp (cmp_pos.mp q2)))⟩, fun q2 => ⟨rfl, h1 (fun w => q (cmp_neg.mpr (i64_lt.mpr w))) (fun w => q2 (cmp_pos.mpr (i64_lt.mpr w)))⟩⟩⟩)
/-- in(x, 0, N - 1) -/
theorem rin0_ev {x : Int32} {N : Nat} {l2 : Int64} (hN : N < 2147483648) (e2 : l2 = (nI N - 1).toInt64) (h0 : ixI x N = none → K (some (.int 0)) h) (h1 : ∀ i, i < N → x = nI i → ixI x N = some i → K (some (.int 1)) h) : Ev d (0, 0) MX12_in [.long x.toInt64, .long 0, .long l2] h K := by
  have hm : (nI N - 1).toInt = (N : Int) - 1 := by
    rcases Nat.eq_zero_or_pos N with e | e
    · subst e; decide
    · rw [nI_m1 e, nI_toInt (by omega)]; omega
  refine rin_ev (lo := 0) (by decide) e2 (fun q => h0 (ixI_n ?_)) (fun q1 q2 => ?_)
  · rcases q with q | q
    · exact Or.inl q
    · right
      rw [Int32.lt_iff_toInt_lt] at q ⊢
      rw [nI_toInt hN]
      omega
  · have : x < nI N := by
      rw [Int32.lt_iff_toInt_lt] at q2 ⊢
      rw [nI_toInt hN]
      omega
    obtain ⟨i, hi, e⟩ := ixI_of hN q1 this
    exact h1 i hi e (by rw [e]; exact ixI_s hi hN)
theorem isRow_ev {x : Int32} (h0 : ixI x 8 = none → K (some (.int 0)) h) (h1 : ∀ i, i < 8 → x = nI i → ixI x 8 = some i → K (some (.int 1)) h) : Ev (d + 1) (0, 0) MX12_isRow [.int x] h K :=
  en_X12_isRow (bk_X12_isRow_0 _ (rin0_ev (N := 8) (by decide) (by decide) (fun q => ⟨_, rfl, Or.inl rfl, rfl, h0 q⟩) (fun i hi e q => ⟨_, rfl, Or.inr rfl, rfl, h1 i hi e q⟩)))
theorem isPlace_ev {x : Int32} (h0 : ixI x 10 = none → K (some (.int 0)) h) (h1 : ∀ i, i < 10 → x = nI i → ixI x 10 = some i → K (some (.int 1)) h) : Ev (d + 1) (0, 0) MX12_isPlace [.int x] h K :=
  en_X12_isPlace (bk_X12_isPlace_0 _ (rin0_ev (N := 10) (by decide) (by decide) (fun q => ⟨_, rfl, Or.inl rfl, rfl, h0 q⟩) (fun i hi e q => ⟨_, rfl, Or.inr rfl, rfl, h1 i hi e q⟩)))
theorem isSheet_ev {x : Int32} {p n : Nat} (o : RR h r) (hp : p < 13) (en : r.2.1 38 p = nI n) (hn : n ≤ 12) (h0 : ixI x n = none → K (some (.int 0)) h) (h1 : ∀ i, i < n → x = nI i → ixI x n = some i → K (some (.int 1)) h) : Ev (d + 1) (0, 0) MX12_isSheet [.ref 34, .int (nI p), .int x] h K := by
  refine en_X12_isSheet (bk_X12_isSheet_0 _ _ _ ⟨_, o.f5, _, o.il 38 13 (by decide) hp, ?_⟩)
  rw [en]
  exact rin0_ev (N := n) (by omega) rfl (fun q => ⟨_, rfl, Or.inl rfl, rfl, h0 q⟩) (fun i hi e q => ⟨_, rfl, Or.inr rfl, rfl, h1 i hi e q⟩)
theorem rfound_ev {x : Int32} (o : RR h r) (hK : ∀ h', FR h h' → RR h' (w1 r x) → K (some (.int (-1000010 - x))) h') : Ev d (0, 0) MX12_found [.ref 34, .int x] h K := by
  obtain ⟨h1, e1, f1, o1⟩ := o.p1 (x := x)
  exact en_X12_found (bk_X12_found_0 _ _ ⟨h1, e1, f1.z, hK h1 f1 o1⟩)
theorem rat_ev {p j x : Nat} (o : RR h r) (hi : 96 * p + 12 * j + x < 1248) (hK : K (some (.int (r.2.1 40 (96 * p + 12 * j + x)))) h) : Ev d (0, 0) MX12_at [.ref 34, .int (nI p), .int (nI j), .int (nI x)] h K := by
  refine en_X12_at (bk_X12_at_0 _ _ _ _ ⟨_, o.f7, ?_⟩)
  rw [n3]
  exact ⟨_, o.il 40 1248 (by decide) hi, rfl, hK⟩
theorem ratL_ev {p j x n k : Nat} {t : Nat → Nat → Nat} (o : RR h r) (L : LC r p n k t) (hp : p < 13) (hk : k ≤ 8) (hn : n ≤ 12) (hj : j < k) (hx : x < n) (hK : K (some (.int (nI (t j x)))) h) : Ev d (0, 0) MX12_at [.ref 34, .int (nI p), .int (nI j), .int (nI x)] h K :=
  rat_ev o (by omega) (by rw [L.2.2 j hj x hx]; exact hK)
theorem rput_ev {p j x : Nat} {v : Int32} (o : RR h r) (hi : 96 * p + 12 * j + x < 1248) (hK : ∀ h', FR h h' → RR h' (wr r 40 (96 * p + 12 * j + x) v) → K none h') : Ev d (0, 0) MX12_put [.ref 34, .int (nI p), .int (nI j), .int (nI x), .int v] h K := by
  obtain ⟨h1, e1, f1, o1⟩ := o.is (x := v) 40 1248 (by decide) hi
  refine en_X12_put (bk_X12_put_0 _ _ _ _ _ ⟨_, o.f7, ?_⟩)
  rw [n3]
  exact ⟨h1, e1, f1.z, hK h1 f1 o1⟩
theorem backAt_ev {p j y n k : Nat} {t : Nat → Nat → Nat} (o : RR h r) (L : LC r p n k t) (hp : p < 13) (hk : k ≤ 8) (hn : n ≤ 12) (hj : j < k) (hpm : pm n (t j)) (hy : y < n) (hK : K (some (.int (nI (iv (t j) n y)))) h) : Ev (d + 1) (0, 0) MX12_backAt [.ref 34, .int (nI p), .int (nI j), .int (nI y)] h K := by
  refine en_X12_backAt (bk_X12_backAt_0 _ _ _ _ ?_)
  obtain ⟨e1, e2⟩ := pm_iv hpm hy
  refine dn (n := iv (t j) n y) (fun x => Wm (d + 1) (0, 0) JX12_backAt 3 [some (.ref 34), some (.int (nI p)), some (.int (nI j)), some (.int (nI y)), some (.int (nI x))] [] h (fun r h' => h'.1 0 = h.1 0 ∧ K r h')) ?_ ?_ 0 (Nat.zero_le _)
  · refine bk_X12_backAt_3 _ _ _ _ _ ⟨_, o.1, ratL_ev o L hp hk hn hj e2 ⟨_, rfl, fun _ => ⟨rfl, hK⟩, fun q => absurd (by rw [e1]) q⟩⟩
  · intro x hx ih
    have hlt := hpm.1 x (by omega)
    refine bk_X12_backAt_3 _ _ _ _ _ ⟨_, o.1, ratL_ev o L hp hk hn hj (by omega) ⟨_, rfl, fun q => ?_, fun _ => ?_⟩⟩
    · have := nI_inj (by omega) (by omega) q
      have := hpm.2 x _ (by omega) e2 (this.trans e1.symm)
      omega
    · rw [nI_1]
      exact ih
theorem become_ev {p q : Nat} (o : RR h r) (hp : p < 13) (hq : q < 13) (hK : ∀ h' r', FR h h' → RR h' r' → ex [38, 39, 40] r r' → (∀ i, r'.2.1 38 i = if i = p then r.2.1 38 q else r.2.1 38 i) → (∀ i, r'.2.1 39 i = if i = p then r.2.1 39 q else r.2.1 39 i) → (∀ i, r'.2.1 40 (96 * p + i) = if i < 96 then r.2.1 40 (96 * q + i) else r.2.1 40 (96 * p + i)) → (∀ i, i < 96 * p → r'.2.1 40 i = r.2.1 40 i) → K none h') : Ev d (0, 0) MX12_become [.ref 34, .int (nI p), .int (nI q)] h K := by
  obtain ⟨h4, e4, f4, o4⟩ := o.is (x := r.2.1 38 q) 38 13 (by decide) hp
  obtain ⟨h8, e8, f8, o8⟩ := o4.is (x := (wr r 38 p (r.2.1 38 q)).2.1 39 q) 39 13 (by decide) hp
  refine en_X12_become (bk_X12_become_0 _ _ _ ⟨_, o.f5, _, o.f5, _, o.il 38 13 (by decide) hq, h4, e4, _, o4.f6, _, o4.f6, _, o4.il 39 13 (by decide) hq, h8, e8, ?_⟩)
  obtain ⟨r8, hr8⟩ : ∃ r8, r8 = wr (wr r 38 p (r.2.1 38 q)) 39 p ((wr r 38 p (r.2.1 38 q)).2.1 39 q) := ⟨_, rfl⟩
  rw [← hr8] at o8
  have x8 : ex [38, 39] r r8 := by rw [hr8]; exact (ex.wr (by simp)).tr (ex.wr (by simp))
  have a38 : ∀ i, r8.2.1 38 i = if i = p then r.2.1 38 q else r.2.1 38 i := fun i => by rw [hr8, wr_n (by decide), wr_at]
  have a39 : ∀ i, r8.2.1 39 i = if i = p then r.2.1 39 q else r.2.1 39 i := fun i => by rw [hr8, wr_at, wr_n (by decide)]
  have a40 : ∀ i, r8.2.1 40 i = r.2.1 40 i := fun i => x8.at i (by simp)
  have key : ∀ m x h' r', x + m = 96 → FR h h' → RR h' r' → ex [40] r8 r' → (∀ i, r'.2.1 40 (96 * p + i) = if i < x then r.2.1 40 (96 * q + i) else r.2.1 40 (96 * p + i)) → (∀ i, i < 96 * p ∨ 96 * p + 96 ≤ i → r'.2.1 40 i = r.2.1 40 i) → Wm d (0, 0) JX12_become 26 [some (.ref 34), some (.int (nI p)), some (.int (nI q)), some (.int (nI x))] [] h' (fun r h' => h'.1 0 = h.1 0 ∧ K r h') := by
    intro m
    induction m with
    | zero =>
      intro x h' r' hx f' o' x' b1 b2
      have hx : x = 96 := by omega
      subst hx
      refine bk_X12_become_26 _ _ _ _ ⟨fun _ => ⟨f'.z, hK h' r' f' o' ((x8.wk (by simp)).tr (x'.wk (by simp))) (fun i => (x'.at i (by simp)).trans (a38 i)) (fun i => (x'.at i (by simp)).trans (a39 i)) b1 (fun i hi => b2 i (Or.inl hi))⟩, fun w => absurd (le_t (a := 96) (b := 96) (by decide) (by decide)) w⟩
    | succ m ih =>
      intro x h' r' hx f' o' x' b1 b2
      obtain ⟨h9, e9, f9, o9⟩ := o'.is (x := r'.2.1 40 (96 * q + x)) (j := 96 * p + x) 40 1248 (by decide) (by omega)
      refine bk_X12_become_26 _ _ _ _ ⟨fun w => absurd w (le_f (b := x) (a := 96) (by omega) (by decide)), fun _ => ⟨_, o'.f7, _, o'.f7, ?_⟩⟩
      rw [n96, n96]
      refine ⟨_, o'.il 40 1248 (by decide) (by omega), h9, e9, ?_⟩
      have ev : r'.2.1 40 (96 * q + x) = r.2.1 40 (96 * q + x) := by
        by_cases e : q = p
        · subst e
          rw [b1 x, if_neg (by omega)]
        · exact b2 _ (by omega)
      rw [nI_1]
      refine ih (x + 1) h9 _ (by omega) (f'.tr f9) o9 (x'.tr (ex.wr (by simp))) (fun i => ?_) (fun i hi => ?_)
      · by_cases e : i = x
        · subst e
          rw [wr_j, ev, if_pos (by omega)]
        · rw [wr_i (by omega), b1 i]
          by_cases w : i < x
          · rw [if_pos w, if_pos (by omega)]
          · rw [if_neg w, if_neg (by omega)]
      · rw [wr_i (by omega)]
        exact b2 i hi
  exact key 96 0 h8 r8 (by omega) (f4.tr f8) o8 ex.rf (fun i => by rw [if_neg (by omega)]; exact a40 _) (fun i _ => a40 i)
end RefEv

/-! rings -/
abbrev rS : Type := (Nat → Nat → Nat → Nat) × Nat × Bool
def uL (L : Nat → Nat → Nat → Nat) (c : Nat) (u : Nat → Nat → Nat) : Nat → Nat → Nat → Nat := fun i => if i = c then u else L i
def knw (n k : Nat) (q : rS) (u : Nat → Nat → Nat) : Prop := ∃ i, i < q.2.1 ∧ teq n k (q.1 i) u
noncomputable def rg1 (n k : Nat) (u : Nat → Nat → Nat) (q : rS) : rS := if q.2.2 = true then q else @ite _ (knw n k q u) (Classical.propDecidable _) q (if q.2.1 < 300 then (uL q.1 q.2.1 u, q.2.1 + 1, false) else (q.1, q.2.1, true))
noncomputable def rgj (n k i : Nat) : Nat → rS → rS
  | 0, q => q
  | j + 1, q => rg1 n k (fnd n k (lfw n ((rgj n k i j q).1 i) j) n).1 (rgj n k i j q)
noncomputable def rgi (n k : Nat) (t : Nat → Nat → Nat) : Nat → rS
  | 0 => (fun _ => (fnd n k t n).1, 1, false)
  | x + 1 => if x < (rgi n k t x).2.1 then rgj n k x (k - 1) (rgi n k t x) else rgi n k t x
noncomputable def rgr (n k : Nat) (t : Nat → Nat → Nat) : Int32 := if (rgi n k t 300).2.2 = true then -1 else nI (rgi n k t 300).2.1
def rV (n k : Nat) (q : rS) : Prop := q.2.1 ≤ 300 ∧ 1 ≤ q.2.1 ∧ ∀ i, i < q.2.1 → (∀ j, j < k → pm n (q.1 i j)) ∧ whe n k (q.1 i)
section Rings
variable {n k i : Nat} {q : rS} {t u : Nat → Nat → Nat}
theorem rg1_o (h : q.2.2 = true) : rg1 n k u q = q := if_pos h
theorem rg1_k (h : knw n k q u) : rg1 n k u q = q := by
  unfold rg1
  by_cases w : q.2.2 = true
  · rw [if_pos w]
  · rw [if_neg w, if_pos h]
theorem rg1_n (h : ¬ q.2.2 = true) (h2 : ¬ knw n k q u) (h3 : q.2.1 < 300) : rg1 n k u q = (uL q.1 q.2.1 u, q.2.1 + 1, false) := by
  unfold rg1
  rw [if_neg h, if_neg h2, if_pos h3]
theorem rg1_x (h : ¬ q.2.2 = true) (h2 : ¬ knw n k q u) (h3 : ¬ q.2.1 < 300) : rg1 n k u q = (q.1, q.2.1, true) := by
  unfold rg1
  rw [if_neg h, if_neg h2, if_neg h3]
theorem rg1_V (hq : rV n k q) (hu : (∀ j, j < k → pm n (u j)) ∧ whe n k u) : rV n k (rg1 n k u q) := by
  by_cases h : q.2.2 = true
  · rw [rg1_o h]; exact hq
  by_cases h2 : knw n k q u
  · rw [rg1_k h2]; exact hq
  by_cases h3 : q.2.1 < 300
  · rw [rg1_n h h2 h3]
    refine ⟨by show q.2.1 + 1 ≤ 300; omega, by show 1 ≤ q.2.1 + 1; omega, fun i hi => ?_⟩
    have hi : i < q.2.1 + 1 := hi
    show (∀ j, j < k → pm n (uL q.1 q.2.1 u i j)) ∧ whe n k (uL q.1 q.2.1 u i)
    by_cases e : i = q.2.1
    · rw [show uL q.1 q.2.1 u i = u by simp [uL, e]]; exact hu
    · rw [show uL q.1 q.2.1 u i = q.1 i by simp [uL, e]]; exact hq.2.2 i (by omega)
  · rw [rg1_x h h2 h3]; exact hq
theorem rg1_ge : q.2.1 ≤ (rg1 n k u q).2.1 ∧ ∀ i, i < q.2.1 → (rg1 n k u q).1 i = q.1 i := by
  by_cases h : q.2.2 = true
  · rw [rg1_o h]; exact ⟨Nat.le_refl _, fun _ _ => rfl⟩
  by_cases h2 : knw n k q u
  · rw [rg1_k h2]; exact ⟨Nat.le_refl _, fun _ _ => rfl⟩
  by_cases h3 : q.2.1 < 300
  · rw [rg1_n h h2 h3]
    refine ⟨Nat.le_succ _, fun i hi => ?_⟩
    show uL q.1 q.2.1 u i = q.1 i
    simp [uL, Nat.ne_of_lt hi]
  · rw [rg1_x h h2 h3]; exact ⟨Nat.le_refl _, fun _ _ => rfl⟩
theorem rgj_ge : ∀ j, q.2.1 ≤ (rgj n k i j q).2.1
  | 0 => Nat.le_refl _
  | j + 1 => Nat.le_trans (rgj_ge j) rg1_ge.1
theorem lfn_ok {j : Nat} (hn : 1 ≤ n) (hp : ∀ j, j < k → pm n (t j)) (hw : whe n k t) (hj : j + 1 < k) : (∀ i, i < k → pm n ((fnd n k (lfw n t j) n).1 i)) ∧ whe n k (fnd n k (lfw n t j) n).1 := by
  have hp2 := lfw_pm (j := j) hp hj
  have hw2 := whe_whl hp2 (lfw_whe hp hj hw)
  exact ⟨fnd_pm hn (Nat.le_refl _) hp2 hw2, fnd_whe hn (Nat.le_refl _) hp2 hw2⟩
theorem rgj_V (hn : 1 ≤ n) (hq : rV n k q) (hi : i < q.2.1) : ∀ j, j ≤ k - 1 → rV n k (rgj n k i j q)
  | 0, _ => hq
  | j + 1, hj => by
    have ih := rgj_V hn hq hi j (by omega)
    have hi2 : i < (rgj n k i j q).2.1 := by have := rgj_ge (n := n) (k := k) (i := i) (q := q) j; omega
    obtain ⟨h1, h2⟩ := ih.2.2 i hi2
    exact rg1_V ih (lfn_ok hn h1 h2 (by omega))
theorem rgi_V (hn : 1 ≤ n) (hp : ∀ j, j < k → pm n (t j)) (hw : whl n k t) : ∀ x, rV n k (rgi n k t x)
  | 0 => ⟨by show 1 ≤ 300; decide, Nat.le_refl 1, fun _ _ => ⟨fnd_pm hn (Nat.le_refl _) hp hw, fnd_whe hn (Nat.le_refl _) hp hw⟩⟩
  | x + 1 => by
    have ih := rgi_V hn hp hw x
    show rV n k (if x < (rgi n k t x).2.1 then rgj n k x (k - 1) (rgi n k t x) else rgi n k t x)
    split
    · rename_i w
      exact rgj_V hn ih w _ (Nat.le_refl _)
    · exact ih
theorem rgi_go {x : Nat} (h : x < (rgi n k t x).2.1) : rgi n k t (x + 1) = rgj n k x (k - 1) (rgi n k t x) := if_pos h
theorem rgi_no {x : Nat} (h : (rgi n k t x).2.1 ≤ x) : rgi n k t (x + 1) = rgi n k t x := if_neg (by omega)
theorem rgi_stay {x : Nat} (h : (rgi n k t x).2.1 ≤ x) : ∀ y, x ≤ y → rgi n k t y = rgi n k t x
  | 0, hy => by rw [show x = 0 by omega]
  | y + 1, hy => by
    by_cases e : x = y + 1
    · rw [e]
    · have ih := rgi_stay h y (by omega)
      rw [rgi_no (by rw [ih]; omega), ih]
theorem rgj_o {i j : Nat} (h : (rgj n k i j q).2.2 = true) : ∀ j', j ≤ j' → rgj n k i j' q = rgj n k i j q
  | 0, hj => by rw [show j = 0 by omega]
  | j' + 1, hj => by
    by_cases e : j = j' + 1
    · rw [e]
    · have ih := rgj_o h j' (by omega)
      show rg1 n k _ (rgj n k i j' q) = _
      rw [ih]
      exact rg1_o h
theorem rgi_o {x : Nat} (h : (rgi n k t x).2.2 = true) : ∀ y, x ≤ y → rgi n k t y = rgi n k t x
  | 0, hy => by rw [show x = 0 by omega]
  | y + 1, hy => by
    by_cases e : x = y + 1
    · rw [e]
    · have ih := rgi_o h y (by omega)
      rcases Nat.lt_or_ge y (rgi n k t y).2.1 with w | w
      · rw [rgi_go w, ih]
        exact rgj_o (j := 0) h _ (by omega)
      · rw [rgi_no w, ih]
theorem nm_ge {x : Nat} {S : List Nat} (hS : ∀ y, y ∈ S → y < 57) (hx : 57 ≤ x) : x ∉ S := fun c => by have := hS x c; omega
end Rings
/-- the Ring's names -/
def NMS (h : mH) (n k : Nat) (q : rS) : Prop := ∃ F : Nat → Int64, h.1 27 = .inl (1, 2400, .inr (.inl F)) ∧ ∀ i, i < q.2.1 → ∀ j, j < k → F (8 * i + j) = PK n (q.1 i j)
/-- what is at a Namer -/
def NMR (h : mH) (a le : Nat) : Prop := ∃ lk nw od lf, NO h a le lk nw od ∧ h.1 le = .inl (1, 8, .inr (.inl lf))
/-- a least row -/
def LE (h : mH) (le n k : Nat) (u : Nat → Nat → Nat) : Prop := ∃ lf : Nat → Int64, h.1 le = .inl (1, 8, .inr (.inl lf)) ∧ ∀ j, j < k → lf j = PK n (u j)
def RGS (h : mH) (n k : Nat) (q : rS) : Prop := h.1 24 = .inr (5, [.ref 25, .ref 27, .int (nI q.2.1)]) ∧ NMS h n k q
/-- what is at the Ring -/
def RGO (h : mH) : Prop := (∃ x : Int32, h.1 24 = .inr (5, [.ref 25, .ref 27, .int x])) ∧ NMR h 25 26 ∧ ∃ F : Nat → Int64, h.1 27 = .inl (1, 2400, .inr (.inl F))
section RingEv
variable {d n k : Nat} {q : rS} {t u : Nat → Nat → Nat} {h : mH} {K : Option Value → mH → Prop}
theorem RGS.fa (o : RGS h n k q) : m_fld h 24 [5] 0 = some (.ref 25) := fld_at o.1 (by decide) rfl
theorem RGS.fb (o : RGS h n k q) : m_fld h 24 [5] 1 = some (.ref 27) := fld_at o.1 (by decide) rfl
theorem RGS.fm (o : RGS h n k q) : m_fld h 24 [5] 2 = some (.int (nI q.2.1)) := fld_at o.1 (by decide) rfl
theorem RGS.fr {S : List Nat} {h1 : mH} (o : RGS h n k q) (f : Fr S h h1) (hA : 24 ∉ S) (hB : 27 ∉ S) : RGS h1 n k q := ⟨f.at o.1 hA, by obtain ⟨F, a, b⟩ := o.2; exact ⟨F, f.at a hB, b⟩⟩
theorem n8 (i : Nat) : nI i * 8 = nI (8 * i) := by rw [show (8 : Int32) = nI 8 from rfl, pk_mul, Nat.mul_comm]
theorem isLeastAt_ev {i : Nat} (hn : n ≤ 12) (hk : k ≤ 8) (hq : rV n k q) (hi : i < q.2.1) (hu : ∀ j, j < k → ∀ x, x < n → u j x < 16) (o : RGS h n k q) {lk : Int32} {nw od : Int64} (oN : NO h 25 26 lk nw od) (oL : LE h 26 n k u) (h1 : teq n k (q.1 i) u → K (some (.int 1)) h) (h0 : ¬ teq n k (q.1 i) u → K (some (.int 0)) h) : Ev d (0, 0) MX6_isLeastAt [.ref 24, .int (nI (8 * i)), .int (nI k)] h K := by
  refine en_X6_isLeastAt (bk_X6_isLeastAt_0 _ _ _ ?_)
  obtain ⟨F, hF, hFq⟩ := o.2
  obtain ⟨lf, hl, hlq⟩ := oL
  have h16 : ∀ j, j < k → ∀ x, x < n → q.1 i j x < 16 := fun j hj x hx => by have := ((hq.2.2 i hi).1 j hj).1 x hx; omega
  have := hq.1
  have key : ∀ r j, j + r = k → (∀ j', j' < j → ∀ x, x < n → q.1 i j' x = u j' x) → Wm d (0, 0) JX6_isLeastAt 2 [some (.ref 24), some (.int (nI (8 * i))), some (.int (nI k)), some (.int (nI j))] [] h (fun r h' => h'.1 0 = h.1 0 ∧ K r h') := by
    intro r
    induction r with
    | zero =>
      intro j hj hh
      exact bk_X6_isLeastAt_2 _ _ _ _ ⟨fun _ => ⟨rfl, h1 (fun j' hj' => hh j' (by omega))⟩, fun c => absurd (le_t (by omega) (by omega)) c⟩
    | succ r ih =>
      intro j hj hh
      have e1 : m_ll h 27 (nI (8 * i) + nI j) = some (PK n (q.1 i j)) := by
        rw [nI_add, ll_at hF (by omega) (by decide), hFq i hi j (by omega)]
      have e2 : m_ll h 26 (nI j) = some (PK n (u j)) := by
        rw [ll_at hl (by omega) (by decide), hlq j (by omega)]
      refine bk_X6_isLeastAt_2 _ _ _ _ ⟨fun c => absurd c (le_f (by omega) (by omega)), fun _ => ⟨_, o.fb, _, e1, _, o.fa, _, oN.fe, _, e2, fun c => ?_, fun c => ⟨rfl, h0 (fun w => c ?_)⟩⟩⟩
      · rw [nI_1]
        refine ih (j + 1) (by omega) (fun j' hj' => ?_)
        rw [cmp_z, PK_eq hn (h16 j (by omega)) (hu j (by omega))] at c
        by_cases e : j' = j
        · rw [e]; exact c
        · exact hh j' (by omega)
      · rw [cmp_z, PK_eq hn (h16 j (by omega)) (hu j (by omega))]
        exact w j (by omega)
  exact key k 0 (by omega) (fun j' hj' => absurd hj' (by omega))
theorem known_ev (hn : n ≤ 12) (hk : k ≤ 8) (hq : rV n k q) (hu : ∀ j, j < k → ∀ x, x < n → u j x < 16) (o : RGS h n k q) {lk : Int32} {nw od : Int64} (oN : NO h 25 26 lk nw od) (oL : LE h 26 n k u) (h1 : knw n k q u → K (some (.int 1)) h) (h0 : ¬ knw n k q u → K (some (.int 0)) h) : Ev (d + 1) (0, 0) MX6_known [.ref 24, .int (nI k)] h K := by
  refine en_X6_known (bk_X6_known_0 _ _ ?_)
  have := hq.1
  have key : ∀ r i, i + r = q.2.1 → (∀ i', i' < i → ¬ teq n k (q.1 i') u) → Wm (d + 1) (0, 0) JX6_known 2 [some (.ref 24), some (.int (nI k)), some (.int (nI i))] [] h (fun r h' => h'.1 0 = h.1 0 ∧ K r h') := by
    intro r
    induction r with
    | zero =>
      intro i hi hh
      exact bk_X6_known_2 _ _ _ ⟨_, o.fm, fun _ => ⟨rfl, h0 (fun ⟨i', hi', w⟩ => hh i' (by omega) w)⟩, fun c => absurd (le_t (by omega) (by omega)) c⟩
    | succ r ih =>
      intro i hi hh
      refine bk_X6_known_2 _ _ _ ⟨_, o.fm, fun c => absurd c (le_f (by omega) (by omega)), fun _ => ⟨_, o.1, ?_⟩⟩
      rw [n8]
      refine isLeastAt_ev hn hk hq (by omega) hu o oN oL (fun w => ⟨_, rfl, fun c => absurd c (by decide), fun _ => ⟨rfl, h1 ⟨i, by omega, w⟩⟩⟩) (fun w => ⟨_, rfl, fun _ => ?_, fun c => absurd rfl c⟩)
      rw [nI_1]
      refine ih (i + 1) (by omega) (fun i' hi' => ?_)
      by_cases e : i' = i
      · rw [e]; exact w
      · exact hh i' (by omega)
  exact key q.2.1 0 (by omega) (fun i' hi' => absurd hi' (by omega))
set_option maxRecDepth 4000 in
theorem keep_ev (hk : k ≤ 8) (hq : q.2.1 < 300) (o : RGS h n k q) {lk : Int32} {nw od : Int64} (oN : NO h 25 26 lk nw od) (oL : LE h 26 n k u) {b : Bool} (hK : ∀ h', Fr [24, 27] h h' → RGS h' n k (uL q.1 q.2.1 u, q.2.1 + 1, b) → K none h') : Ev (d + 1) (0, 0) MX6_keep [.ref 24, .int (nI k)] h K := by
  obtain ⟨F, hF, hFq⟩ := o.2
  obtain ⟨lf, hl, hlq⟩ := oL
  have c3 : ¬ (300 : Int32) ≤ nI q.2.1 := by
    rw [show (300 : Int32) = nI 300 by decide]
    exact le_f (by omega) (by decide)
  have c8 : ¬ (8 : Int32) < nI k := by
    rw [show (8 : Int32) = nI 8 by decide]
    exact lt_f hk (by decide)
  refine en_X6_keep (bk_X6_keep_0 _ _ ?_)
  refine ⟨_, o.fm, fun c => absurd c c3, fun _ => ⟨fun c => absurd c c8, fun _ => ?_⟩⟩
  refine ⟨_, o.fa, _, oN.fe, _, o.fb, _, o.fm, ?_⟩
  refine ⟨8, 2400, 0, 8 * q.2.1, k, lf, F, hl, hF, ?_⟩
  refine ⟨by decide, n8 _, rfl, ?_⟩
  refine ⟨by omega, by omega, by omega, by omega, fun h13 e => ?_⟩
  subst e
  have o24 : (m_up h.1 27 (.inl (1, 2400, .inr (.inl (va_cpy lf F 0 (8 * q.2.1) k)))), h.2).1 24 = .inr (5, [.ref 25, .ref 27, .int (nI q.2.1)]) := (up_n (by decide)).trans o.1
  refine ⟨_, fld_at o24 (by decide) rfl, _, put_at o24 (by decide : 2 < 3), ?_⟩
  rw [nI_1]
  have F1 : Fr [24, 27] h (m_up h.1 27 (.inl (1, 2400, .inr (.inl (va_cpy lf F 0 (8 * q.2.1) k)))), h.2) := Fr.up (by decide)
  have F2 := F1.tr (Fr.up (h := (m_up h.1 27 (.inl (1, 2400, .inr (.inl (va_cpy lf F 0 (8 * q.2.1) k)))), h.2)) (a := 24) (c := .inr (5, [.ref 25, .ref 27, .int (nI (q.2.1 + 1))])) (show 24 ∈ [24, 27] by decide))
  refine ⟨F2.z (by decide), hK _ F2 ⟨up_s, va_cpy lf F 0 (8 * q.2.1) k, (up_n (by decide)).trans up_s, fun i hi j hj => ?_⟩⟩
  have hi : i < q.2.1 + 1 := hi
  show va_cpy lf F 0 (8 * q.2.1) k (8 * i + j) = PK n (uL q.1 q.2.1 u i j)
  unfold va_cpy
  by_cases e : i = q.2.1
  · subst e
    rw [if_pos (by omega), show 0 + (8 * q.2.1 + j - 8 * q.2.1) = j by omega, hlq j hj]
    simp [uL]
  · rw [if_neg (by omega), hFq i (by omega) j hj]
    simp [uL, e]
set_option maxRecDepth 4000 in
theorem walk_ev {ga ta ci pr : Nat} {b : Nat × Nat} (c : CO h ga ta ci n k t pr) (hw : whl n k t) (hg1 : 57 ≤ ga) (hg2 : ga < h.2) (ht1 : 57 ≤ ta) (ht2 : ta < h.2) (o : RGO h) (hb1 : 1 ≤ b.1) (hb2 : k ≤ b.2) (hK : ∀ h', h'.2 = h.2 + 1 → (∀ x, x < h.2 → x ∉ [24, 25, 26, 27] → h'.1 x = h.1 x) → RGO h' → K (some (.int (rgr n k t))) h') : Ev (d + 5) b MX6_walk [.ref 24, .ref ga] h K := by
  have hn1 := c.n1
  have hn := c.n12
  have hk1 := c.k1
  have hk := c.k8
  have hp := c.prm
  obtain ⟨⟨x0, o24⟩, ⟨lk, nw, od, lf, oN, oL⟩, F27, o27⟩ := o
  refine en_X6_walk (bk_X6_walk_0 _ _ ⟨_, c.ft, _, c.2.1.len, k, fun q => absurd q (lt_f (a := k) (b := 0) (by omega) (by omega)), nI_clamp (by omega), by omega, hb1, hb2, fun h4 e4 => ?_⟩)
  generalize hld : h.2 = ld at *
  have hld57 : 57 ≤ ld := by omega
  have e4 : h4 = nA h k (fun _ => 0) := by rw [e4, ← hld]; rfl
  subst hld
  have g24 : h4.1 24 = .inr (5, [.ref 25, .ref 27, .int x0]) := by rw [e4]; exact (nA_n (by omega)).trans o24
  have gN : NO h4 25 26 lk nw od := by rw [e4]; exact (nA_n (by omega)).trans oN
  have gL : h4.1 26 = .inl (1, 8, .inr (.inl lf)) := by rw [e4]; exact (nA_n (by omega)).trans oL
  have g27 : h4.1 27 = .inl (1, 2400, .inr (.inl F27)) := by rw [e4]; exact (nA_n (by omega)).trans o27
  have gc : CO h4 ga ta ci n k t pr := by rw [e4]; exact c.nA (by omega) (by omega)
  have gd : h4.1 h.2 = .inl (1, k, .inr (.inl fun _ => 0)) := by rw [e4]; exact nA_s
  have g2 : h4.2 = h.2 + 1 := congrArg Prod.snd e4
  have nd : ∀ {x : Nat}, 57 ≤ x → x ∉ [24, 25, 26, 27] := fun hx => nm_ge (by decide) hx
  obtain ⟨h5, hh5⟩ : ∃ h5 : mH, h5 = (m_up h4.1 24 (.inr (5, [.ref 25, .ref 27, .int 0])), h4.2) := ⟨_, rfl⟩
  have f5 : Fr [24, 25, 26, 27, h.2] h4 h5 := by rw [hh5]; exact Fr.up (by simp)
  refine ⟨h5, by rw [hh5]; exact put_at g24 (by decide : 2 < 3), ?_⟩
  have k24 : h5.1 24 = .inr (5, [.ref 25, .ref 27, .int 0]) := by rw [hh5]; exact up_s
  have k27 : h5.1 27 = .inl (1, 2400, .inr (.inl F27)) := by rw [hh5]; exact (up_n (by decide)).trans g27
  have kN : NO h5 25 26 lk nw od := by rw [hh5]; exact (up_n (by decide)).trans gN
  have kL : h5.1 26 = .inl (1, 8, .inr (.inl lf)) := by rw [hh5]; exact (up_n (by decide)).trans gL
  have kd : h5.1 h.2 = .inl (1, k, .inr (.inl fun _ => 0)) := by rw [hh5]; exact (up_n (by omega)).trans gd
  have kc : CO h5 ga ta ci n k t pr := gc.fr f5 (by simp; omega) (by simp; omega)
  have hq0 : RGS h5 n k (fun _ _ _ => 0, 0, false) := ⟨k24, F27, k27, fun i hi => absurd hi (by show ¬ i < 0; omega)⟩
  refine ⟨_, hq0.fa, _, kc.ft, _, kc.fn, _, kN, ?_⟩
  refine find_ev (by decide) (by decide) (by decide) (by omega) (by omega) hn1 hn hk1 hk hp hw kc.2.1 kN kL (fun h6 f6 n6 => ⟨rfl, ?_⟩)
  have f6' : Fr [24, 25, 26, 27, h.2] h4 h6 := f5.tr (f6.wk (by simp))
  have q6 : RGS h6 n k (fun _ _ _ => 0, 0, false) := hq0.fr f6 (by decide) (by decide)
  obtain ⟨nw6, od6, lf6, n6, l6, e6⟩ := n6
  refine ⟨_, q6.1, ?_⟩
  refine keep_ev (b := false) hk (by show 0 < 300; decide) q6 n6 ⟨lf6, l6, e6⟩ (fun h7 f7 q7 => ⟨rfl, ?_⟩)
  have f7' : Fr [24, 25, 26, 27, h.2] h4 h7 := f6'.tr (f7.wk (by simp))
  have q7 : RGS h7 n k (rgi n k t 0) := by
    refine ⟨q7.1, ?_⟩
    obtain ⟨F, a, b⟩ := q7.2
    refine ⟨F, a, fun i hi j hj => ?_⟩
    have hi : i < 1 := hi
    have := b i hi j hj
    rw [this]
    show PK n (uL (fun _ _ _ => 0) 0 (fnd n k t n).1 i j) = PK n ((fnd n k t n).1 j)
    simp [uL, show i = 0 by omega]
  -- what stays the same all the way
  have IN : ∀ {h' : mH}, Fr [24, 25, 26, 27, h.2] h4 h' → CO h' ga ta ci n k t pr ∧ h'.1 0 = h.1 0 ∧ h'.2 = h.2 + 1 ∧ ∀ x, x < h.2 → x ∉ [24, 25, 26, 27] → h'.1 x = h.1 x := fun {h'} f => by
    refine ⟨gc.fr f (by simp; omega) (by simp; omega), ?_, f.1.trans g2, fun x hx hx2 => ?_⟩
    · rw [f.z (by simp; omega), e4]; exact nA_n (by omega)
    · rw [f.2 x (by simp at hx2; simp; omega), e4]; exact nA_n (by omega)
  have END : ∀ {h' : mH} {x : Int32}, Fr [24, 25, 26, 27, h.2] h4 h' → h'.1 24 = .inr (5, [.ref 25, .ref 27, .int x]) → NMR h' 25 26 → (∃ F : Nat → Int64, h'.1 27 = .inl (1, 2400, .inr (.inl F))) → h'.1 0 = h.1 0 ∧ K (some (.int (rgr n k t))) h' := fun {h' x} f a b c => ⟨(IN f).2.1, hK h' (IN f).2.2.1 (IN f).2.2.2 ⟨⟨x, a⟩, b, c⟩⟩
  have outer : ∀ r x h', x + r = 300 → Fr [24, 25, 26, 27, h.2] h4 h' → RGS h' n k (rgi n k t x) → NMR h' 25 26 → (∃ G : Nat → Int64, h'.1 h.2 = .inl (1, k, .inr (.inl G))) → ¬ (rgi n k t x).2.2 = true →
      Wm (d + 5) (b.1 - 1, b.2 - k) JX6_walk 38 [some (.ref 24), some (.ref ga), some (.int (nI k)), some (.ref h.2), some (.int (nI x)), none] [] h' (fun r h' => h'.1 0 = h.1 0 ∧ K r h') := by
    intro r
    induction r with
    | zero =>
      intro x h' hx f q nr gg ov
      have hV := rgi_V (k := k) (t := t) hn1 hp hw x
      have hst : (rgi n k t x).2.1 ≤ x := by have := hV.1; omega
      have er : rgr n k t = nI (rgi n k t x).2.1 := by
        unfold rgr
        rw [show x = 300 by omega] at ov ⊢
        rw [if_neg ov]
      refine bk_X6_walk_38 _ _ _ _ _ ⟨_, q.fm, fun _ => ⟨_, q.fm, ?_⟩, fun c => absurd (le_t hst (by omega)) c⟩
      rw [← er]
      obtain ⟨F, a, -⟩ := q.2
      exact END f q.1 nr ⟨F, a⟩
    | succ r ih =>
      intro x h' hx f q nr gg ov
      have hV := rgi_V (k := k) (t := t) hn1 hp hw x
      have hV3 := hV.1
      rcases Nat.lt_or_ge x (rgi n k t x).2.1 with w | w
      · have c3 : ¬ (300 : Int32) ≤ nI x := by
          rw [show (300 : Int32) = nI 300 by decide]
          exact le_f (by omega) (by decide)
        refine bk_X6_walk_38 _ _ _ _ _ ⟨_, q.fm, fun c => absurd c (le_f w (by omega)), fun _ => ⟨fun c => absurd c c3, fun _ => ?_⟩⟩
        have inner : ∀ s j h', j + s = k - 1 → Fr [24, 25, 26, 27, h.2] h4 h' → RGS h' n k (rgj n k x j (rgi n k t x)) → NMR h' 25 26 → (∃ G : Nat → Int64, h'.1 h.2 = .inl (1, k, .inr (.inl G))) → ¬ (rgj n k x j (rgi n k t x)).2.2 = true →
            Wm (d + 5) (b.1 - 1, b.2 - k) JX6_walk 58 [some (.ref 24), some (.ref ga), some (.int (nI k)), some (.ref h.2), some (.int (nI x)), some (.int (nI j))] [] h' (fun r h' => h'.1 0 = h.1 0 ∧ K r h') := by
          intro s
          induction s with
          | zero =>
            intro j h' hj f q nr gg ov
            refine bk_X6_walk_58 _ _ _ _ _ _ ⟨fun _ => ?_, fun c => absurd (by rw [nI_m1 (by omega)]; exact le_t (by omega) (by omega)) c⟩
            rw [nI_1]
            rw [show j = k - 1 by omega, ← rgi_go w] at q ov
            exact ih (x + 1) h' (by omega) f q nr gg ov
          | succ s ihs =>
            intro j h' hj f q nr gg ov
            have hVj := rgj_V (i := x) hn1 hV w j (by omega)
            have hxj : x < (rgj n k x j (rgi n k t x)).2.1 := by have := rgj_ge (n := n) (k := k) (i := x) (q := rgi n k t x) j; omega
            generalize hqq : rgj n k x j (rgi n k t x) = qq at *
            obtain ⟨px, wx⟩ := hVj.2.2 x hxj
            obtain ⟨cc, -, -, -⟩ := IN f
            obtain ⟨G, gG⟩ := gg
            obtain ⟨F, hF, hFq⟩ := q.2
            have hVj3 := hVj.1
            refine bk_X6_walk_58 _ _ _ _ _ _ ⟨fun c => absurd c (by rw [nI_m1 (by omega)]; exact le_f (by omega) (by omega)), fun _ => ⟨_, q.fb, 2400, k, 8 * x, 0, k, F, G, hF, gG, n8 x, by decide, rfl, by omega, by omega, by decide, by omega, fun h9 e9 => ?_⟩⟩
            have f9 : Fr [h.2] h' h9 := by rw [e9]; exact Fr.up (List.mem_singleton.mpr rfl)
            have f9' : Fr [24, 25, 26, 27, h.2] h4 h9 := f.tr (f9.wk (by simp))
            have T9 : TA h9 h.2 n k (qq.1 x) := by
              rw [e9]
              refine ⟨_, up_s, fun i hi => ?_⟩
              unfold va_cpy
              rw [if_pos (by omega), show 8 * x + (i - 0) = 8 * x + i by omega]
              exact hFq x hxj i hi
            obtain ⟨c9, -, -, -⟩ := IN f9'
            refine ⟨_, c9.fn, ?_⟩
            refine leadForward_ev (by omega) hn T9 (by omega) (by omega) px (fun h12 f12 T12 => ⟨rfl, ?_⟩)
            have f12' : Fr [24, 25, 26, 27, h.2] h4 h12 := f9'.tr (f12.wk (by simp))
            have F9 : Fr [h.2] h' h12 := f9.tr f12
            have q12 : RGS h12 n k qq := q.fr F9 (by simp; omega) (by simp; omega)
            obtain ⟨lk', nw', od', lf', oN', oL'⟩ := nr
            have N12 : NO h12 25 26 lk' nw' od' := F9.at oN' (by simp; omega)
            have L12 : h12.1 26 = .inl (1, 8, .inr (.inl lf')) := F9.at oL' (by simp; omega)
            obtain ⟨c12, -, -, -⟩ := IN f12'
            have pl := lfw_pm (j := j) px (by omega)
            have wl := whe_whl pl (lfw_whe px (by omega) wx)
            refine ⟨_, q12.fa, _, c12.fn, _, N12, ?_⟩
            refine find_ev (by decide) (by decide) (by decide) (by omega) (by omega) hn1 hn hk1 hk pl wl T12 N12 L12 (fun h16 f16 n16 => ⟨rfl, ?_⟩)
            have f16' : Fr [24, 25, 26, 27, h.2] h4 h16 := f12'.tr (f16.wk (by simp))
            have q16 : RGS h16 n k qq := q12.fr f16 (by decide) (by decide)
            obtain ⟨G12, gG12, -⟩ := T12
            have G16 : h16.1 h.2 = .inl (1, k, .inr (.inl G12)) := f16.at gG12 (by simp; omega)
            obtain ⟨nw6, od6, lf6, n16, l6, e6⟩ := n16
            have pu := fnd_pm (s := n) hn1 (Nat.le_refl _) pl wl
            have hstep : rgj n k x (j + 1) (rgi n k t x) = rg1 n k (fnd n k (lfw n (qq.1 x) j) n).1 qq := by
              show rg1 n k (fnd n k (lfw n ((rgj n k x j (rgi n k t x)).1 x) j) n).1 (rgj n k x j (rgi n k t x)) = _
              rw [hqq]
            refine ⟨_, q16.1, ?_⟩
            refine known_ev hn hk hVj (fun i hi y hy => by have := (pu i hi).1 y hy; omega) q16 n16 ⟨lf6, l6, e6⟩ (fun w' => ⟨_, rfl, fun c => absurd c (by decide), fun _ => ?_⟩) (fun w' => ⟨_, rfl, fun _ => ⟨_, q16.fm, fun c => ⟨_, q16.1, ?_⟩, fun c => ?_⟩, fun c => absurd rfl c⟩)
            · rw [nI_1]
              rw [rg1_k w'] at hstep
              exact ihs (j + 1) h16 (by omega) f16' (by rw [hstep]; exact q16) ⟨_, _, _, _, n16, l6⟩ ⟨_, G16⟩ (by rw [hstep]; exact ov)
            · have c2 : qq.2.1 < 300 := by
                rw [show (300 : Int32) = nI 300 by decide] at c
                exact (nI_ltI (by omega) (by decide)).mp c
              rw [rg1_n ov w' c2] at hstep
              refine keep_ev (b := false) hk c2 q16 n16 ⟨lf6, l6, e6⟩ (fun h22 f22 q22 => ⟨rfl, ?_⟩)
              rw [nI_1]
              exact ihs (j + 1) h22 (by omega) (f16'.tr (f22.wk (by simp))) (by rw [hstep]; exact q22) ⟨_, _, _, _, f22.at n16 (by decide), f22.at l6 (by decide)⟩ ⟨_, f22.at G16 (by simp; omega)⟩ (fun c => by rw [hstep] at c; exact absurd c (show ¬ (false = true) by decide))
            · have c2 : ¬ qq.2.1 < 300 := fun c2 => c (by rw [show (300 : Int32) = nI 300 by decide]; exact lt_t c2 (by decide))
              rw [rg1_x ov w' c2] at hstep
              have er : rgr n k t = -1 := by
                have o1 : (rgj n k x (k - 1) (rgi n k t x)).2.2 = true := by
                  rw [rgj_o (j := j + 1) (by rw [hstep]) (k - 1) (by omega), hstep]
                have o2 : (rgi n k t (x + 1)).2.2 = true := by rw [rgi_go w]; exact o1
                unfold rgr
                rw [rgi_o o2 300 (by omega), if_pos o2]
              rw [← er]
              exact END f16' q16.1 ⟨_, _, _, _, n16, l6⟩ (by obtain ⟨F, a, -⟩ := q16.2; exact ⟨F, a⟩)
        exact inner (k - 1) 0 h' (by omega) f q nr gg ov
      · have er : rgr n k t = nI (rgi n k t x).2.1 := by
          unfold rgr
          rw [rgi_stay w 300 (by omega), if_neg ov]
        refine bk_X6_walk_38 _ _ _ _ _ ⟨_, q.fm, fun _ => ⟨_, q.fm, ?_⟩, fun c => absurd (le_t w (by omega)) c⟩
        rw [← er]
        obtain ⟨F, a, -⟩ := q.2
        exact END f q.1 nr ⟨F, a⟩
  refine outer 300 0 h7 (by omega) f7' q7 ⟨_, _, _, _, f7.at n6 (by decide), f7.at l6 (by decide)⟩ ⟨_, f7.at (f6.at kd (by simp; omega)) (by simp; omega)⟩ (by show ¬ (false = true); decide)
end RingEv

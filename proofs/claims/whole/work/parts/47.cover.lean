/-! covers: reading, labels of blocks, making one -/
theorem cmp_z {x y : Int64} : lg_cmp x y = 0 ↔ x = y := lg_cmp_eq x y
def cvs : List Nat := [0, 1, 4, 8, 9]
/-- the object of a cover -/
def CO (h : mH) (a ta ci n k : Nat) (t : Nat → Nat → Nat) (pr : Nat) : Prop := h.1 a = .inr (ci, [.int (nI n), .ref ta, .int (nI pr)]) ∧ TA h ta n k t ∧ ci ∈ [0, 1, 4, 8, 9] ∧ 1 ≤ n ∧ n ≤ 12 ∧ 1 ≤ k ∧ k ≤ 8 ∧ ∀ j, j < k → pm n (t j)
section CoverEv
variable {d n k a ta ci pr : Nat} {t : Nat → Nat → Nat} {h : mH} {K : Option Value → mH → Prop}
theorem CO.fr {S : List Nat} {h1 : mH} (c : CO h a ta ci n k t pr) (f : Fr S h h1) (hA : a ∉ S) (hB : ta ∉ S) : CO h1 a ta ci n k t pr := ⟨f.at c.1 hA, c.2.1.fr f hB, c.2.2⟩
theorem CO.fn (c : CO h a ta ci n k t pr) : m_fld h a [0, 1, 4, 8, 9] 0 = some (.int (nI n)) := fld_at c.1 c.2.2.1 rfl
theorem CO.ft (c : CO h a ta ci n k t pr) : m_fld h a [0, 1, 4, 8, 9] 1 = some (.ref ta) := fld_at c.1 c.2.2.1 rfl
theorem CO.fp (c : CO h a ta ci n k t pr) : m_fld h a [0, 1, 4, 8, 9] 2 = some (.int (nI pr)) := fld_at c.1 c.2.2.1 rfl
theorem CO.n1 (c : CO h a ta ci n k t pr) : 1 ≤ n := c.2.2.2.1
theorem CO.n12 (c : CO h a ta ci n k t pr) : n ≤ 12 := c.2.2.2.2.1
theorem CO.k1 (c : CO h a ta ci n k t pr) : 1 ≤ k := c.2.2.2.2.2.1
theorem CO.k8 (c : CO h a ta ci n k t pr) : k ≤ 8 := c.2.2.2.2.2.2.1
theorem CO.prm (c : CO h a ta ci n k t pr) : ∀ j, j < k → pm n (t j) := c.2.2.2.2.2.2.2
theorem CO.lt (c : CO h a ta ci n k t pr) : ∀ j, j < k → ∀ i, i < n → t j i < n := fun j hj => (c.prm j hj).1
theorem noSheet_ev {x : Int32} (c : CO h a ta ci n k t pr) (h0 : (x < 0 ∨ ¬ x < nI n) → K (some (.int 1)) h) (h1 : ¬ x < 0 → x < nI n → K (some (.int 0)) h) : Ev d (0, 0) MX1_noSheet [.ref a, .int x] h K :=
  en_X1_noSheet (bk_X1_noSheet_0 _ _ ⟨fun q => ⟨rfl, h0 (Or.inl q)⟩, fun q => ⟨_, c.fn, fun q2 => ⟨rfl, h1 q q2⟩, fun q2 => ⟨rfl, h0 (Or.inr q2)⟩⟩⟩)
theorem noTurn_ev {x : Int32} (c : CO h a ta ci n k t pr) (h0 : (x < 0 ∨ ¬ x < nI k) → K (some (.int 1)) h) (h1 : ¬ x < 0 → x < nI k → K (some (.int 0)) h) : Ev d (0, 0) MX1_noTurn [.ref a, .int x] h K :=
  en_X1_noTurn (bk_X1_noTurn_0 _ _ ⟨fun q => ⟨rfl, h0 (Or.inl q)⟩, fun q => ⟨_, c.ft, _, c.2.1.len, fun q2 => ⟨rfl, h1 q q2⟩, fun q2 => ⟨rfl, h0 (Or.inr q2)⟩⟩⟩)
theorem turnAt_ev {j : Nat} (c : CO h a ta ci n k t pr) (hj : j < k) (hK : K (some (.long (PK n (t j)))) h) : Ev (d + 1) (0, 0) MX1_turnAt [.ref a, .int (nI j)] h K := by
  have := c.k8
  refine en_X1_turnAt (bk_X1_turnAt_0 _ _ ⟨_, _, c.1, c.2.2.1, ?_⟩)
  refine noTurn_ev c (fun q => ?_) (fun _ _ => ⟨_, rfl, fun _ => ⟨_, c.ft, _, c.2.1.at hj (by omega), rfl, hK⟩, fun q => absurd rfl q⟩)
  rcases q with q | q
  · exact absurd q (nI_pos (by omega))
  · exact absurd (lt_t hj (by omega)) q
theorem rounds_ev {j : Nat} (c : CO h a ta ci n k t pr) (hj : j < k) (hK : K (some (.int (nI (sm (ct (cyl (t j) n n)) 12)))) h) : Ev (d + 2) (0, 0) MX1_rounds [.ref a, .int (nI j)] h K := by
  refine en_X1_rounds (bk_X1_rounds_0 _ _ ⟨_, _, c.1, c.2.2.1, ?_⟩)
  refine turnAt_ev c hj ⟨_, rfl, _, c.fn, ?_⟩
  refine lengthsOf_ev c.n12 (c.lt j hj) ⟨_, rfl, ?_⟩
  exact total_ev (ct_lt (Nat.le_trans (cyl_len _ _ _) c.n12)) ⟨_, rfl, rfl, hK⟩
theorem whole_ev (c : CO h a ta ci n k t pr) (h0 : ¬ nI pr = 1 → K (some (.int 0)) h) (h1 : nI pr = 1 → K (some (.int 1)) h) : Ev d (0, 0) MX1_whole [.ref a] h K :=
  en_X1_whole (bk_X1_whole_0 _ ⟨_, c.fp, fun q => ⟨rfl, h0 q⟩, fun q => ⟨rfl, h1 q⟩⟩)
/-- over the first j turns, n less the rounds, added to 2 - 2 n -/
def hsum (n : Nat) (t : Nat → Nat → Nat) : Nat → Int32
  | 0 => 2 - 2 * nI n
  | j + 1 => hsum n t j + (nI n - nI (sm (ct (cyl (t j) n n)) 12))
theorem holes_ev (c : CO h a ta ci n k t pr) (hK : K (some (.int (hsum n t k / 2))) h) : Ev (d + 3) (0, 0) MX1_holes [.ref a] h K := by
  have := c.k8
  refine en_X1_holes (bk_X1_holes_0 _ ⟨_, c.fn, ?_⟩)
  refine dn (n := k) (fun j => Wm (d + 3) (0, 0) JX1_holes 11 [some (.ref a), some (.int (hsum n t j)), some (.int (nI j))] [] h (fun r h' => h'.1 0 = h.1 0 ∧ K r h')) ?_ ?_ 0 (Nat.zero_le _)
  · exact bk_X1_holes_11 _ _ _ ⟨_, c.ft, _, c.2.1.len, fun _ => ⟨rfl, hK⟩, fun q => absurd (le_t (Nat.le_refl _) (by omega)) q⟩
  · intro j hj ih
    refine bk_X1_holes_11 _ _ _ ⟨_, c.ft, _, c.2.1.len, fun q => absurd q (le_f hj (by omega)), fun _ => ⟨_, c.fn, _, _, c.1, c.2.2.1, ?_⟩⟩
    refine rounds_ev c hj ⟨_, rfl, ?_⟩
    rw [nI_1]
    exact ih
-- blocks
/-- one turn's pass: a sheet and the one that its label names are led to one group -/
def kbx (t : Nat → Nat) (f : Nat → Nat) : Nat → (Nat → Nat) := ma t (fun i => t (f i)) f
theorem kbx_lt {t f : Nat → Nat} (ht : ∀ i, i < n → t i < n) (hf : ∀ i, i < n → f i < n) : ∀ x, x ≤ n → ∀ i, i < n → kbx t f x i < n := ma_lt ht (fun i hi => ht _ (hf i hi)) hf
/-- a pass over j turns; passes until nothing changes, r at most -/
def kbj (n : Nat) (t : Nat → Nat → Nat) (f : Nat → Nat) : Nat → (Nat → Nat)
  | 0 => f
  | j + 1 => kbx (t j) (kbj n t f j) n
theorem kbj_lt {f : Nat → Nat} (ht : ∀ j, j < k → ∀ i, i < n → t j i < n) (hf : ∀ i, i < n → f i < n) : ∀ j, j ≤ k → ∀ i, i < n → kbj n t f j i < n
  | 0, _ => hf
  | j + 1, hj => kbx_lt (ht j (by omega)) (kbj_lt ht hf j (by omega)) n (Nat.le_refl _)
def eqn (n : Nat) (f g : Nat → Nat) : Bool := (List.range n).all (fun i => f i == g i)
theorem eqn_iff {f g : Nat → Nat} : eqn n f g = true ↔ ∀ i, i < n → f i = g i := by
  unfold eqn
  rw [List.all_eq_true]
  constructor
  · intro q i hi
    exact beq_iff_eq.mp (q i (List.mem_range.mpr hi))
  · intro q i hi
    exact beq_iff_eq.mpr (q i (List.mem_range.mp hi))
def kbp (n k : Nat) (t : Nat → Nat → Nat) : Nat → (Nat → Nat) → (Nat → Nat)
  | 0, f => f
  | r + 1, f => if eqn n (kbj n t f k) f = true then kbj n t f k else kbp n k t r (kbj n t f k)
def blk (n k : Nat) (t : Nat → Nat → Nat) (u v : Nat) : Nat → Nat := kbp n k t n (mg (fun i => i) u v)
theorem kbp_lt (ht : ∀ j, j < k → ∀ i, i < n → t j i < n) : ∀ (r : Nat) (f : Nat → Nat), (∀ i, i < n → f i < n) → ∀ i, i < n → kbp n k t r f i < n
  | 0, _, hf => hf
  | r + 1, f, hf => by
    unfold kbp
    split
    · exact kbj_lt ht hf k (Nat.le_refl _)
    · exact kbp_lt ht r _ (kbj_lt ht hf k (Nat.le_refl _))
theorem blk_lt {u v : Nat} (ht : ∀ j, j < k → ∀ i, i < n → t j i < n) (hu : u < n) (hv : v < n) : ∀ i, i < n → blk n k t u v i < n := kbp_lt ht n _ (mg_lt (fun _ h => h) hu hv)
theorem blockLabels_ev {u v : Nat} (c : CO h a ta ci n k t pr) (hu : u < n) (hv : v < n) (hK : K (some (.long (PK n (blk n k t u v)))) h) : Ev (d + 3) (0, 0) MX1_blockLabels [.ref a, .int (nI u), .int (nI v)] h K := by
  have hn := c.n12
  have hk8 := c.k8
  refine en_X1_blockLabels (bk_X1_blockLabels_0 _ _ _ ⟨_, c.fn, ?_⟩)
  refine still_ev hn ⟨_, rfl, _, c.fn, ?_⟩
  refine merged_ev hn (fun _ h => h) hu hv ⟨_, rfl, ?_⟩
  have key : ∀ r f s, s + r = n → (∀ i, i < n → f i < n) → K (some (.long (PK n (kbp n k t r f)))) h → Wm (d + 3) (0, 0) JX1_blockLabels 20 [some (.ref a), none, none, some (.long (PK n f)), none, some (.int (nI s)), none, none, none] [] h (fun r h' => h'.1 0 = h.1 0 ∧ K r h') := by
    intro r
    induction r with
    | zero =>
      intro f s hs hf hq
      exact bk_X1_blockLabels_20 _ _ _ ⟨_, c.fn, fun _ => ⟨rfl, hq⟩, fun q => absurd (le_t (by omega) (by omega)) q⟩
    | succ r ihr =>
      intro f s hs hf hq
      refine bk_X1_blockLabels_20 _ _ _ ⟨_, c.fn, fun q => absurd q (le_f (by omega) (by omega)), fun _ => ?_⟩
      have hl := kbj_lt (f := f) c.lt hf
      refine dn (n := k) (fun j => Wm (d + 3) (0, 0) JX1_blockLabels 35 [some (.ref a), none, none, some (.long (PK n (kbj n t f j))), none, some (.int (nI s)), some (.long (PK n f)), none, some (.int (nI j))] [] h (fun r h' => h'.1 0 = h.1 0 ∧ K r h')) ?_ ?_ 0 (Nat.zero_le _)
      · refine bk_X1_blockLabels_35 _ _ _ _ _ ⟨_, c.ft, _, c.2.1.len, fun _ => ?_, fun q => absurd (le_t (Nat.le_refl _) (by omega)) q⟩
        have h16 : ∀ i, i < n → kbj n t f k i < 16 := fun i hi => by have := hl k (Nat.le_refl _) i hi; omega
        have hf16 : ∀ i, i < n → f i < 16 := fun i hi => by have := hf i hi; omega
        unfold kbp at hq
        rw [cmp_z, PK_eq hn h16 hf16, ← eqn_iff]
        refine ⟨fun q => ?_, fun q => ⟨rfl, ?_⟩⟩
        · rw [if_neg q] at hq
          rw [nI_1]
          exact ihr _ (s + 1) (by omega) (hl k (Nat.le_refl _)) hq
        · rw [if_pos q] at hq
          exact hq
      · intro j hj ih
        refine bk_X1_blockLabels_35 _ _ _ _ _ ⟨_, c.ft, _, c.2.1.len, fun q => absurd q (le_f hj (by omega)), fun _ => ⟨_, c.ft, _, c.2.1.at hj (by omega), _, c.ft, _, c.2.1.at hj (by omega), _, c.fn, ?_⟩⟩
        have hlj := hl j (by omega)
        refine behind_ev hn hlj (fun i hi => by have := c.lt j hj i hi; omega) ⟨_, rfl, _, c.fn, ?_⟩
        refine mergedAlong_ev hn (c.lt j hj) (fun i hi => c.lt j hj _ (hlj i hi)) hlj ⟨_, rfl, ?_⟩
        rw [nI_1]
        exact ih
  exact key n _ 0 (by omega) (mg_lt (fun _ h => h) hu hv) hK
end CoverEv

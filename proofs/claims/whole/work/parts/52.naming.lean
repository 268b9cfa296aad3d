/-! names: sheets get numbers as they are met -/
theorem inj_le {g n : Nat} {f : Nat → Nat} (h1 : ∀ i, i < g → f i < n) (h2 : ∀ i j, i < g → j < g → f i = f j → i = j) : g ≤ n := by
  rcases Nat.lt_or_ge n g with w | w
  · exfalso
    have hp : pm (n + 1) f := ⟨fun i hi => by have := h1 i (by omega); omega, fun i j hi hj => h2 i j (by omega) (by omega)⟩
    obtain ⟨x, hx, e⟩ := pm_surj (n + 1) f hp n (by omega)
    have := h1 x (by omega)
    omega
  · exact w
/-- numbers of sheets, sheets of numbers, how many are given, which sheets have one -/
abbrev bS : Type := (Nat → Nat) × (Nat → Nat) × Nat × (Nat → Bool)
def b0 (s : Nat) : bS := (fun _ => 0, un (fun _ => 0) 0 s, 1, vs (fun _ => false) s)
def b1 (led : Nat) (q : bS) : bS := if q.2.2.2 led = true then q else (un q.1 led q.2.2.1, un q.2.1 q.2.2.1 led, q.2.2.1 + 1, vs q.2.2.2 led)
def bj (t : Nat → Nat → Nat) (old : Nat) : Nat → bS → bS
  | 0, q => q
  | j + 1, q => b1 (t j old) (bj t old j q)
def bx (t : Nat → Nat → Nat) (k s : Nat) : Nat → bS
  | 0 => b0 s
  | x + 1 => if x < (bx t k s x).2.2.1 then bj t ((bx t k s x).2.1 x) k (bx t k s x) else bx t k s x
/-- what holds of such a state -/
def bI (n : Nat) (q : bS) : Prop := (∀ i, i < q.2.2.1 → q.2.1 i < n ∧ q.2.2.2 (q.2.1 i) = true ∧ q.1 (q.2.1 i) = i) ∧ (∀ z, q.2.2.2 z = true → z < n ∧ q.1 z < q.2.2.1 ∧ q.2.1 (q.1 z) = z) ∧ (∀ i, q.2.2.1 ≤ i → q.2.1 i = 0) ∧ (∀ z, ¬ q.2.2.2 z = true → q.1 z = 0) ∧ 1 ≤ q.2.2.1
theorem bI_le {n : Nat} {q : bS} (h : bI n q) : q.2.2.1 ≤ n := inj_le (fun i hi => (h.1 i hi).1) (fun i j hi hj e => by rw [← (h.1 i hi).2.2, ← (h.1 j hj).2.2, e])
theorem bI_0 {n s : Nat} (hs : s < n) : bI n (b0 s) := by
  have e0 : (b0 s).2.1 0 = s := un_s (fun _ => 0) 0 s
  have ev : ∀ z, (b0 s).2.2.2 z = (if z = s then true else false) := fun z => rfl
  refine ⟨fun i hi => ?_, fun z hz => ?_, fun i hi => ?_, fun z hz => rfl, Nat.le_refl 1⟩
  · have hi : i < 1 := hi
    have : i = 0 := by omega
    subst this
    rw [e0, ev]
    exact ⟨hs, by simp, rfl⟩
  · rw [ev] at hz
    have hzs : z = s := by
      by_cases w : z = s
      · exact w
      · simp [w] at hz
    subst hzs
    exact ⟨hs, Nat.lt_succ_self 0, e0⟩
  · have hi : 1 ≤ i := hi
    exact un_n (fun _ => 0) s (by omega)
theorem bI_1 {n led : Nat} {q : bS} (hl : led < n) (h : bI n q) : bI n (b1 led q) := by
  unfold b1
  split
  · exact h
  · rename_i hv
    obtain ⟨h1, h2, h3, h4, h5⟩ := h
    refine ⟨fun i hi => ?_, fun z hz => ?_, fun i hi => ?_, fun z hz => ?_, by show 1 ≤ q.2.2.1 + 1; omega⟩
    · have hi : i < q.2.2.1 + 1 := hi
      show un q.2.1 q.2.2.1 led i < n ∧ vs q.2.2.2 led (un q.2.1 q.2.2.1 led i) = true ∧ un q.1 led q.2.2.1 (un q.2.1 q.2.2.1 led i) = i
      by_cases w : i = q.2.2.1
      · subst w
        rw [un_s, un_s]
        exact ⟨hl, by simp [vs], rfl⟩
      · obtain ⟨g1, g2, g3⟩ := h1 i (by omega)
        rw [un_n _ _ w]
        have ne : q.2.1 i ≠ led := fun e => hv (by rw [← e]; exact g2)
        refine ⟨g1, ?_, ?_⟩
        · simp [vs, ne, g2]
        · rw [un_n _ _ ne]; exact g3
    · have hz : vs q.2.2.2 led z = true := hz
      show z < n ∧ un q.1 led q.2.2.1 z < q.2.2.1 + 1 ∧ un q.2.1 q.2.2.1 led (un q.1 led q.2.2.1 z) = z
      by_cases w : z = led
      · subst w
        rw [un_s, un_s]
        exact ⟨hl, Nat.lt_succ_self _, rfl⟩
      · have hz2 : q.2.2.2 z = true := by simpa [vs, w] using hz
        obtain ⟨g1, g2, g3⟩ := h2 z hz2
        rw [un_n _ _ w, un_n _ _ (by omega)]
        exact ⟨g1, by omega, g3⟩
    · have hi : q.2.2.1 + 1 ≤ i := hi
      show un q.2.1 q.2.2.1 led i = 0
      rw [un_n _ _ (by omega)]
      exact h3 i (by omega)
    · have hz : ¬ vs q.2.2.2 led z = true := hz
      have w : z ≠ led := fun e => hz (by simp [vs, e])
      have hz2 : ¬ q.2.2.2 z = true := by simpa [vs, w] using hz
      show un q.1 led q.2.2.1 z = 0
      rw [un_n _ _ w]
      exact h4 z hz2
/-- what one has, the other has too -/
def bL (q q' : bS) : Prop := q.2.2.1 ≤ q'.2.2.1 ∧ (∀ i, i < q.2.2.1 → q'.2.1 i = q.2.1 i) ∧ ∀ z, q.2.2.2 z = true → q'.2.2.2 z = true ∧ q'.1 z = q.1 z
theorem bL.rf (q : bS) : bL q q := ⟨Nat.le_refl _, fun _ _ => rfl, fun _ h => ⟨h, rfl⟩⟩
theorem bL.tr {q r s : bS} (h : bL q r) (g : bL r s) : bL q s := ⟨Nat.le_trans h.1 g.1, fun i hi => (g.2.1 i (by have := h.1; omega)).trans (h.2.1 i hi), fun z hz => ⟨(g.2.2 z (h.2.2 z hz).1).1, (g.2.2 z (h.2.2 z hz).1).2.trans (h.2.2 z hz).2⟩⟩
theorem bL_1 (led : Nat) (q : bS) : bL q (b1 led q) := by
  unfold b1
  split
  · exact bL.rf q
  · rename_i hv
    refine ⟨by show q.2.2.1 ≤ q.2.2.1 + 1; omega, fun i hi => un_n _ _ (by omega), fun z hz => ?_⟩
    have w : z ≠ led := fun e => hv (by rw [← e]; exact hz)
    exact ⟨by show vs q.2.2.2 led z = true; simp [vs, hz], un_n _ _ w⟩
theorem b1_has (led : Nat) (q : bS) : (b1 led q).2.2.2 led = true := by
  unfold b1
  split
  · assumption
  · show vs q.2.2.2 led led = true
    simp [vs]
section BJ
variable {n k s : Nat} {t : Nat → Nat → Nat}
theorem bI_j {old : Nat} (ht : ∀ j, j < k → t j old < n) : ∀ j q, j ≤ k → bI n q → bI n (bj t old j q)
  | 0, _, _, h => h
  | j + 1, q, hj, h => bI_1 (ht j (by omega)) (bI_j ht j q (by omega) h)
theorem bL_j {old : Nat} : ∀ j q, bL q (bj t old j q)
  | 0, q => bL.rf q
  | j + 1, q => (bL_j j q).tr (bL_1 _ _)
theorem bL_jj {old i : Nat} (q : bS) : ∀ j, i ≤ j → bL (bj t old i q) (bj t old j q)
  | 0, h => by rw [show i = 0 by omega]; exact bL.rf _
  | j + 1, h => by
    by_cases e : i = j + 1
    · rw [e]; exact bL.rf _
    · exact (bL_jj q j (by omega)).tr (bL_1 _ _)
theorem bj_has {old i j : Nat} (q : bS) (hi : i < j) : (bj t old j q).2.2.2 (t i old) = true := by
  have h1 : (bj t old (i + 1) q).2.2.2 (t i old) = true := b1_has _ _
  exact ((bL_jj (t := t) (old := old) q j (show i + 1 ≤ j by omega)).2.2 _ h1).1
theorem bI_x (hs : s < n) (ht : ∀ j, j < k → ∀ i, i < n → t j i < n) : ∀ x, bI n (bx t k s x)
  | 0 => bI_0 hs
  | x + 1 => by
    have ih := bI_x hs ht x
    show bI n (if x < (bx t k s x).2.2.1 then bj t ((bx t k s x).2.1 x) k (bx t k s x) else bx t k s x)
    split
    · rename_i w
      exact bI_j (fun j hj => ht j hj _ (ih.1 x w).1) k _ (Nat.le_refl _) ih
    · exact ih
theorem bx_go {x : Nat} (h : x < (bx t k s x).2.2.1) : bx t k s (x + 1) = bj t ((bx t k s x).2.1 x) k (bx t k s x) := if_pos h
theorem bx_no {x : Nat} (h : (bx t k s x).2.2.1 ≤ x) : bx t k s (x + 1) = bx t k s x := if_neg (by omega)
theorem bx_stay {x : Nat} (h : (bx t k s x).2.2.1 ≤ x) : ∀ y, x ≤ y → bx t k s y = bx t k s x
  | 0, hy => by rw [show x = 0 by omega]
  | y + 1, hy => by
    by_cases e : x = y + 1
    · rw [e]
    · have ih := bx_stay h y (by omega)
      rw [bx_no (by rw [ih]; omega), ih]
theorem bL_x : ∀ x y, x ≤ y → bL (bx t k s x) (bx t k s y)
  | x, 0, h => by rw [show x = 0 by omega]; exact bL.rf _
  | x, y + 1, h => by
    by_cases e : x = y + 1
    · rw [e]; exact bL.rf _
    · refine (bL_x x y (by omega)).tr ?_
      rcases Nat.lt_or_ge y (bx t k s y).2.2.1 with w | w
      · rw [bx_go w]; exact bL_j k _
      · rw [bx_no w]; exact bL.rf _
/-- nothing more to give -/
theorem b1_full {led : Nat} {q : bS} (h : bI n q) (hg : q.2.2.1 = n) (hl : led < n) : b1 led q = q := by
  unfold b1
  rw [if_pos]
  obtain ⟨i, hi, e⟩ := pm_surj n q.2.1 ⟨fun i hi => (h.1 i (by omega)).1, fun i j hi hj e => by rw [← (h.1 i (by omega)).2.2, ← (h.1 j (by omega)).2.2, e]⟩ led hl
  rw [← e]
  exact (h.1 i (by omega)).2.1
theorem bj_full {old : Nat} {q : bS} (ht : ∀ j, j < k → t j old < n) (h : bI n q) (hg : q.2.2.1 = n) : ∀ j, j ≤ k → bj t old j q = q
  | 0, _ => rfl
  | j + 1, hj => by
    show b1 _ (bj t old j q) = q
    rw [bj_full ht h hg j (by omega)]
    exact b1_full h hg (ht j (by omega))
theorem bx_full (hs : s < n) (ht : ∀ j, j < k → ∀ i, i < n → t j i < n) {x : Nat} (hg : (bx t k s x).2.2.1 = n) : ∀ y, x ≤ y → bx t k s y = bx t k s x
  | 0, h => by rw [show x = 0 by omega]
  | y + 1, h => by
    by_cases e : x = y + 1
    · rw [e]
    · have ih := bx_full hs ht hg y (by omega)
      have hI := bI_x (k := k) hs ht x
      rcases Nat.lt_or_ge y (bx t k s y).2.2.1 with w | w
      · rw [bx_go w, ih]
        rw [ih] at w
        exact bj_full (fun j hj => ht j hj _ (hI.1 y w).1) hI hg k (Nat.le_refl _)
      · rw [bx_no w, ih]
end BJ
/-- the numbering from a sheet; turns by their new names -/
def bF (n : Nat) (t : Nat → Nat → Nat) (k s : Nat) : bS := bx t k s n
def rn (n : Nat) (t : Nat → Nat → Nat) (k s : Nat) : Nat → Nat → Nat := fun j i => (bF n t k s).1 (t j ((bF n t k s).2.1 i))
/-- from each sheet all are come to -/
def whl (n k : Nat) (t : Nat → Nat → Nat) : Prop := ∀ s, s < n → (bF n t k s).2.2.1 = n
theorem bI_all {n : Nat} {q : bS} (h : bI n q) (hg : q.2.2.1 = n) : ∀ z, z < n → q.2.2.2 z = true := by
  intro z hz
  obtain ⟨i, hi, e⟩ := pm_surj n q.2.1 ⟨fun i hi => (h.1 i (by omega)).1, fun i j hi hj e => by rw [← (h.1 i (by omega)).2.2, ← (h.1 j (by omega)).2.2, e]⟩ z hz
  rw [← e]
  exact (h.1 i (by omega)).2.1
theorem rn_lt {n k s : Nat} {t : Nat → Nat → Nat} (hs : s < n) (ht : ∀ j, j < k → ∀ i, i < n → t j i < n) (hw : whl n k t) : ∀ j, j < k → ∀ i, i < n → rn n t k s j i < n := by
  intro j hj i hi
  have hI : bI n (bF n t k s) := bI_x hs ht n
  have hg : (bF n t k s).2.2.1 = n := hw s hs
  have h1 := (hI.1 i (by omega)).1
  have h2 := ht j hj _ h1
  have h3 := (hI.2.1 _ (bI_all hI hg _ h2)).2.1
  show (bF n t k s).1 (t j ((bF n t k s).2.1 i)) < n
  omega
/-- the lesser row, turn by turn, sheet by sheet -/
def lex (n k : Nat) (a b : Nat → Nat → Nat) : Prop := ∃ j, j < k ∧ ∃ i, i < n ∧ (∀ j', j' < j → ∀ i', i' < n → a j' i' = b j' i') ∧ (∀ i', i' < i → a j i' = b j i') ∧ a j i < b j i
def teq (n k : Nat) (a b : Nat → Nat → Nat) : Prop := ∀ j, j < k → ∀ i, i < n → a j i = b j i
theorem lex_or (n k : Nat) (a b : Nat → Nat → Nat) : teq n k a b ∨ lex n k a b ∨ lex n k b a := by
  by_cases h : teq n k a b
  · exact Or.inl h
  · right
    have h1 : ∃ j, ¬ (j < k → ∀ i, i < n → a j i = b j i) := by
      apply Classical.byContradiction
      intro q
      exact h (fun j => Classical.byContradiction fun w => q ⟨j, w⟩)
    obtain ⟨j, hj, hmin⟩ := pk_least _ h1
    have hjk : j < k := Classical.byContradiction fun w => hj (fun q => absurd q w)
    have h2 : ∃ i, ¬ (i < n → a j i = b j i) := by
      apply Classical.byContradiction
      intro q
      exact hj (fun _ i => Classical.byContradiction fun w => q ⟨i, w⟩)
    obtain ⟨i, hi, hmin2⟩ := pk_least _ h2
    have hin : i < n := Classical.byContradiction fun w => hi (fun q => absurd q w)
    have hne : a j i ≠ b j i := fun e => hi (fun _ => e)
    have p1 : ∀ j', j' < j → ∀ i', i' < n → a j' i' = b j' i' := fun j' hj' => Classical.not_not.mp (hmin j' hj') (by omega)
    have p2 : ∀ i', i' < i → a j i' = b j i' := fun i' hi' => Classical.not_not.mp (hmin2 i' hi') (by omega)
    rcases Nat.lt_or_gt_of_ne hne with w | w
    · exact Or.inl ⟨j, hjk, i, hin, p1, p2, w⟩
    · exact Or.inr ⟨j, hjk, i, hin, fun j' hj' i' hi' => (p1 j' hj' i' hi').symm, fun i' hi' => (p2 i' hi').symm, w⟩
theorem lex_ne {n k : Nat} {a b : Nat → Nat → Nat} (h : lex n k a b) : ¬ teq n k a b := by
  obtain ⟨j, hj, i, hi, -, -, w⟩ := h
  intro q
  have := q j hj i hi
  omega
theorem lex_as {n k : Nat} {a b : Nat → Nat → Nat} (h : lex n k a b) : ¬ lex n k b a := by
  obtain ⟨j, hj, i, hi, p1, p2, w⟩ := h
  rintro ⟨j2, hj2, i2, hi2, q1, q2, w2⟩
  rcases Nat.lt_trichotomy j j2 with c | c | c
  · have := q1 j c i hi; omega
  · subst c
    rcases Nat.lt_trichotomy i i2 with e | e | e
    · have := q2 i e; omega
    · subst e; omega
    · have := p2 i2 e; omega
  · have := p1 j2 c i2 hi2; omega
/-- the least name and from how many sheets, among the first s -/
noncomputable def fnd (n k : Nat) (t : Nat → Nat → Nat) : Nat → (Nat → Nat → Nat) × Nat
  | 0 => (fun _ _ => 0, 0)
  | s + 1 => if s = 0 then (rn n t k 0, 1) else
    @ite _ (lex n k (rn n t k s) (fnd n k t s).1) (Classical.propDecidable _) (rn n t k s, 1) (@ite _ (teq n k (rn n t k s) (fnd n k t s).1) (Classical.propDecidable _) ((fnd n k t s).1, (fnd n k t s).2 + 1) (fnd n k t s))

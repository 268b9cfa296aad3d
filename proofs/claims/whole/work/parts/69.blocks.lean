/-! narrowing keeps the order of the chosen; blocks are the finest parting that the turns keep -/
section Nar
variable {m n : Nat}
theorem rk_succ (m x : Nat) : rk m (x + 1) = rk m x + (if m.testBit x = true then 1 else 0) := rfl
theorem rk_mono {x y : Nat} (h : x ≤ y) : rk m x ≤ rk m y := cn_mono h
theorem rk_lt' {x y : Nat} (hx : m.testBit x = true) (h : x < y) : rk m x < rk m y := by
  have h1 : rk m (x + 1) ≤ rk m y := rk_mono h
  rw [rk_succ, if_pos hx] at h1
  omega
theorem rk_inj {x y : Nat} (hx : m.testBit x = true) (hy : m.testBit y = true) (h : rk m x = rk m y) : x = y := by
  rcases Nat.lt_trichotomy x y with w | w | w
  · have := rk_lt' hx w; omega
  · exact w
  · have := rk_lt' hy w; omega
theorem rk_surj : ∀ n i, i < rk m n → ∃ x, x < n ∧ m.testBit x = true ∧ rk m x = i
  | 0, i, h => absurd h (Nat.not_lt_zero i)
  | n + 1, i, h => by
    rw [rk_succ] at h
    by_cases w : i < rk m n
    · obtain ⟨x, h1, h2, h3⟩ := rk_surj n i w
      exact ⟨x, by omega, h2, h3⟩
    · by_cases b : m.testBit n = true
      · rw [if_pos b] at h
        exact ⟨n, by omega, b, by omega⟩
      · rw [if_neg b] at h
        omega
theorem nwg_at {f p : Nat → Nat} {x : Nat} (hx : m.testBit x = true) : ∀ X, x < X → nwg m f p X (rk m x) = rk m (f (p x))
  | 0, h => absurd h (by omega)
  | X + 1, h => by
    unfold nwg
    by_cases b : m.testBit X = true
    · rw [if_pos b]
      by_cases e : x = X
      · rw [e, un_s]
      · rw [un_n _ _ (fun q => e (rk_inj hx b q))]
        exact nwg_at hx X (by omega)
    · rw [if_neg b]
      exact nwg_at hx X (by
        rcases Nat.lt_or_ge x X with w | w
        · exact w
        · exact absurd (by rw [← show x = X by omega]; exact hx) b)
theorem nrw_pm {f : Nat → Nat} {t : Nat → Nat → Nat} {j : Nat} (hc : ∀ x, x < n → m.testBit x = true → f (t j x) < n ∧ m.testBit (f (t j x)) = true) (hi : ∀ x y, x < n → y < n → m.testBit x = true → m.testBit y = true → f (t j x) = f (t j y) → x = y) : pm (rk m n) (nrw n m f t j) := by
  refine ⟨fun i h => ?_, fun i i' h h' e => ?_⟩
  · obtain ⟨x, h1, h2, rfl⟩ := rk_surj n i h
    show nwg m f (t j) n (rk m x) < _
    rw [nwg_at h2 n h1]
    exact rk_lt' (hc x h1 h2).2 (hc x h1 h2).1
  · obtain ⟨x, h1, h2, rfl⟩ := rk_surj n i h
    obtain ⟨y, g1, g2, rfl⟩ := rk_surj n i' h'
    have e : nwg m f (t j) n (rk m x) = nwg m f (t j) n (rk m y) := e
    rw [nwg_at h2 n h1, nwg_at g2 n g1] at e
    rw [hi x y h1 g1 h2 g2 (rk_inj (hc x h1 h2).2 (hc y g1 g2).2 e)]
theorem bm_in {p : Nat → Bool} {x : Nat} (hx : x < n) : (bm p n).testBit x = true ↔ p x = true := by rw [bm_tb]; simp [hx]
theorem cn_has : ∀ {p : Nat → Bool} (n i : Nat), i < cn p n → ∃ x, x < n ∧ p x = true ∧ cn p x = i
  | p, 0, i, h => absurd h (Nat.not_lt_zero i)
  | p, n + 1, i, h => by
    rw [cn_succ] at h
    by_cases w : i < cn p n
    · obtain ⟨x, h1, h2, h3⟩ := cn_has n i w
      exact ⟨x, by omega, h2, h3⟩
    · by_cases b : p n = true
      · rw [if_pos b] at h
        exact ⟨n, by omega, b, by omega⟩
      · rw [if_neg b] at h
        omega
theorem rk_pos {p : Nat → Bool} {x : Nat} (hx : x < n) (h : p x = true) : 1 ≤ rk (bm p n) n := by
  have := rk_lt' (m := bm p n) (x := x) (y := n) ((bm_in hx).mpr h) hx
  omega
/-- what reaches all meets none twice -/
theorem sur_inj {N : Nat} {g : Nat → Nat} (h1 : ∀ i, i < N → g i < N) (h2 : ∀ y, y < N → ∃ x, x < N ∧ g x = y) : pm N g := by
  refine ⟨h1, fun i j hi hj e => ?_⟩
  have hs : ∀ y, ∃ x, y < N → x < N ∧ g x = y := fun y => by
    by_cases hy : y < N
    · obtain ⟨x, a, b⟩ := h2 y hy
      exact ⟨x, fun _ => ⟨a, b⟩⟩
    · exact ⟨0, fun q => absurd q hy⟩
  obtain ⟨s, hs⟩ : ∃ s : Nat → Nat, ∀ y, y < N → s y < N ∧ g (s y) = y := ⟨fun y => Classical.choose (hs y), fun y => Classical.choose_spec (hs y)⟩
  have ps : pm N s := ⟨fun y hy => (hs y hy).1, fun a b ha hb q => by rw [← (hs a ha).2, ← (hs b hb).2, q]⟩
  obtain ⟨a, ha, rfl⟩ := pm_surj N s ps i hi
  obtain ⟨b, hb, rfl⟩ := pm_surj N s ps j hj
  rw [(hs a ha).2, (hs b hb).2] at e
  rw [e]
end Nar
section PartPure
variable {n k : Nat} {t : Nat → Nat → Nat}
theorem pix_t (ht : ∀ j, j < k → ∀ i, i < n → t j i < n) {j x : Nat} (hj : j < k) (hx : x < n) : pix n k t (t j x) = pix n k t x := by
  unfold pix
  rw [(ltj_mnl ht).2 (t j x) x (ht j hj x hx) hx (eqv.st hj hx).sy]
theorem part_ok (hp : ∀ j, j < k → pm n (t j)) {p : Nat} : (p < pn n k t → 1 ≤ rk (pms n k t p) n) ∧ ∀ j, j < k → pm (rk (pms n k t p) n) (nrw n (pms n k t p) (fun i => i) t j) := by
  have ht : ∀ j, j < k → ∀ i, i < n → t j i < n := fun j hj => (hp j hj).1
  refine ⟨fun h => ?_, fun j hj => ?_⟩
  · obtain ⟨z, h1, h2, h3⟩ := cn_has n p h
    refine rk_pos h1 (beq_iff_eq.mpr ?_)
    unfold pix
    rw [beq_iff_eq.mp h2]
    exact h3
  · refine nrw_pm (fun x hx b => ⟨ht j hj x hx, ?_⟩) (fun x y hx hy _ _ e => (hp j hj).2 x y hx hy e)
    have b : pix n k t x = p := beq_iff_eq.mp ((bm_in (p := fun x => pix n k t x == p) hx).mp b)
    refine (bm_in (p := fun x => pix n k t x == p) (ht j hj x hx)).mpr (beq_iff_eq.mpr ?_)
    rw [pix_t ht hj hx]
    exact b
end PartPure
/-- a parting that the turns keep, and in which two are together -/
def cgE (n k : Nat) (t : Nat → Nat → Nat) (u v : Nat) (E : Nat → Nat → Prop) : Prop := (∀ x, E x x) ∧ (∀ x y, E x y → E y x) ∧ (∀ x y z, E x y → E y z → E x z) ∧ (∀ j, j < k → ∀ x y, x < n → y < n → E x y → E (t j x) (t j y)) ∧ E u v
def cgr (n k : Nat) (t : Nat → Nat → Nat) (u v x y : Nat) : Prop := ∀ E, cgE n k t u v E → E x y
/-- labels of the finest such parting: least ones -/
def bLb (n k : Nat) (t : Nat → Nat → Nat) (u v : Nat) (f : Nat → Nat) : Prop := lbi n (cgr n k t u v) f ∧ f u = f v ∧ ∀ j, j < k → ∀ x y, x < n → y < n → f x = f y → f (t j x) = f (t j y)
section BlockPure
variable {n k u v : Nat} {t : Nat → Nat → Nat}
theorem cgr.rf (x : Nat) : cgr n k t u v x x := fun _ hE => hE.1 x
theorem cgr.sy {x y : Nat} (h : cgr n k t u v x y) : cgr n k t u v y x := fun E hE => hE.2.1 _ _ (h E hE)
theorem cgr.tr {x y z : Nat} (h : cgr n k t u v x y) (g : cgr n k t u v y z) : cgr n k t u v x z := fun E hE => hE.2.2.1 _ _ _ (h E hE) (g E hE)
theorem cgr.st {j x y : Nat} (hj : j < k) (hx : x < n) (hy : y < n) (h : cgr n k t u v x y) : cgr n k t u v (t j x) (t j y) := fun E hE => hE.2.2.2.1 j hj x y hx hy (h E hE)
theorem cgr.uv : cgr n k t u v u v := fun _ hE => hE.2.2.2.2
theorem bLb.cg {f : Nat → Nat} (ht : ∀ j, j < k → ∀ i, i < n → t j i < n) (hu : u < n) (hv : v < n) (hf : bLb n k t u v f) {x y : Nat} (hx : x < n) (hy : y < n) (h : cgr n k t u v x y) : f x = f y := by
  have hE : cgE n k t u v (fun a b => (if a < n then f a else n + a) = (if b < n then f b else n + b)) := by
    refine ⟨fun _ => rfl, fun _ _ e => e.symm, fun _ _ _ e e' => e.trans e', fun j hj a b ha hb e => ?_, ?_⟩
    · simp only [ha, hb, if_true] at e
      simp only [ht j hj a ha, ht j hj b hb, if_true]
      exact hf.2.2 j hj a b ha hb e
    · simp only [hu, hv, if_true]
      exact hf.2.1
  have := h _ hE
  simpa only [hx, hy, if_true] using this
theorem bLb.uq {f g : Nat → Nat} (ht : ∀ j, j < k → ∀ i, i < n → t j i < n) (hu : u < n) (hv : v < n) (hf : bLb n k t u v f) (hg : bLb n k t u v g) : ∀ x, x < n → f x = g x := by
  intro x hx
  have a := hg.1 x hx
  have b := hf.1 x hx
  have e1 := hf.cg ht hu hv hx (by omega) a.2.2
  have e2 := hg.cg ht hu hv hx (by omega) b.2.2
  have c1 := (hf.1 (g x) (by omega)).1
  have c2 := (hg.1 (f x) (by omega)).1
  omega
def fxn (n : Nat) (f : Nat → Nat) : Nat := cn (fun z => f z == z) n
theorem fxn_lt {f : Nat → Nat} {a b : Nat} (hf : ∀ x, x < n → f x ≤ x ∧ f (f x) = f x) (ha : a < n) (hb : b < n) (hne : f a ≠ f b) : fxn n (mg f (f a) (f b)) < fxn n f := by
  have e1 := hf a ha
  have e2 := hf b hb
  have fx : ∀ z, z < n → (mg f (f a) (f b) z = z ↔ f z = z ∧ z ≠ max (f a) (f b)) := by
    intro z hz
    have e3 := (hf z hz).1
    by_cases w : f z = max (f a) (f b)
    · rw [mg_max f _ _ w]
      constructor
      · intro q
        omega
      · intro q
        omega
    · rw [mg_oth f _ _ w]
      constructor
      · intro q
        exact ⟨q, fun q2 => w (by omega)⟩
      · intro q
        exact q.1
  have hM : max (f a) (f b) < n := by omega
  have hMf : f (max (f a) (f b)) = max (f a) (f b) := by
    rcases Nat.le_total (f a) (f b) with w | w
    · rw [Nat.max_eq_right w]; exact e2.2
    · rw [Nat.max_eq_left w]; exact e1.2
  have key : ∀ m, m ≤ n → cn (fun z => mg f (f a) (f b) z == z) m + (if max (f a) (f b) < m then 1 else 0) = cn (fun z => f z == z) m := by
    intro m
    induction m with
    | zero => intro _; rfl
    | succ m ih =>
      intro hm
      have ih := ih (by omega)
      rw [cn_succ, cn_succ]
      have := fx m (by omega)
      by_cases w : m = max (f a) (f b)
      · have q1 : ¬ mg f (f a) (f b) m = m := fun q => (this.mp q).2 w
        have q2 : f m = m := by rw [w]; exact hMf
        simp only [beq_iff_eq, q1, q2, if_true, if_false]
        rw [if_neg (by omega)] at ih
        rw [if_pos (by omega)]
        omega
      · by_cases q : f m = m
        · have q1 : mg f (f a) (f b) m = m := this.mpr ⟨q, w⟩
          simp only [beq_iff_eq, q1, q, if_true]
          by_cases z : max (f a) (f b) < m
          · rw [if_pos z] at ih
            rw [if_pos (by omega)]
            omega
          · rw [if_neg z] at ih
            rw [if_neg (by omega)]
            omega
        · have q1 : ¬ mg f (f a) (f b) m = m := fun z => q (this.mp z).1
          simp only [beq_iff_eq, q1, q, if_false]
          by_cases z : max (f a) (f b) < m
          · rw [if_pos z] at ih
            rw [if_pos (by omega)]
            omega
          · rw [if_neg z] at ih
            rw [if_neg (by omega)]
            omega
  have := key n (Nat.le_refl _)
  rw [if_pos hM] at this
  unfold fxn
  omega
/-- labels on the way -/
def bWy (n k : Nat) (t : Nat → Nat → Nat) (u v : Nat) (f : Nat → Nat) : Prop := lbi n (cgr n k t u v) f ∧ f u = f v
theorem kbx_wy {f : Nat → Nat} {j : Nat} (hj : j < k) (ht : ∀ j, j < k → ∀ i, i < n → t j i < n) (hf : bWy n k t u v f) : ∀ x, x ≤ n → bWy n k t u v (kbx (t j) f x) ∧ ((kbx (t j) f x = f ∧ ∀ i, i < x → f (t j i) = f (t j (f i))) ∨ fxn n (kbx (t j) f x) < fxn n f)
  | 0, _ => ⟨hf, Or.inl ⟨rfl, fun i hi => absurd hi (by omega)⟩⟩
  | x + 1, hx => by
    obtain ⟨h1, h2⟩ := kbx_wy hj ht hf x (by omega)
    have hx' : x < n := by omega
    have lx := h1.1 x hx'
    have a1 := ht j hj x hx'
    have fx := hf.1 x hx'
    have a2 := ht j hj (f x) (by omega)
    have hR : cgr n k t u v (t j x) (t j (f x)) := cgr.st hj hx' (by omega) fx.2.2
    have hw : bWy n k t u v (kbx (t j) f (x + 1)) := ⟨mg_lbi (fun h => cgr.sy h) (fun h g => cgr.tr h g) h1.1 a1 a2 hR, mg_eq h1.2⟩
    refine ⟨hw, ?_⟩
    have hle : ∀ y, y < n → kbx (t j) f x y ≤ y ∧ kbx (t j) f x (kbx (t j) f x y) = kbx (t j) f x y := fun y hy => ⟨(h1.1 y hy).1, (h1.1 y hy).2.1⟩
    by_cases e : kbx (t j) f x (t j x) = kbx (t j) f x (t j (f x))
    · have e2 : kbx (t j) f (x + 1) = kbx (t j) f x := by
        show mg (kbx (t j) f x) (kbx (t j) f x (t j x)) (kbx (t j) f x (t j (f x))) = _
        rw [e, mg_same]
      rw [e2]
      rcases h2 with ⟨h2, h3⟩ | h2
      · refine Or.inl ⟨h2, fun i hi => ?_⟩
        by_cases w : i = x
        · rw [w]
          rw [h2] at e
          exact e
        · exact h3 i (by omega)
      · exact Or.inr h2
    · right
      have lt : fxn n (kbx (t j) f (x + 1)) < fxn n (kbx (t j) f x) := fxn_lt hle a1 a2 e
      rcases h2 with ⟨h2, -⟩ | h2
      · rw [h2] at lt
        exact lt
      · omega
theorem kbj_wy {f : Nat → Nat} (ht : ∀ j, j < k → ∀ i, i < n → t j i < n) (hf : bWy n k t u v f) : ∀ j, j ≤ k → bWy n k t u v (kbj n t f j) ∧ ((kbj n t f j = f ∧ ∀ j', j' < j → ∀ i, i < n → f (t j' i) = f (t j' (f i))) ∨ fxn n (kbj n t f j) < fxn n f)
  | 0, _ => ⟨hf, Or.inl ⟨rfl, fun i hi => absurd hi (by omega)⟩⟩
  | j + 1, hj => by
    obtain ⟨h1, h2⟩ := kbj_wy ht hf j (by omega)
    obtain ⟨g1, g2⟩ := kbx_wy (j := j) (by omega) ht h1 n (Nat.le_refl _)
    refine ⟨g1, ?_⟩
    rcases g2 with ⟨g2, g3⟩ | g2
    · rcases h2 with ⟨h2, h3⟩ | h2
      · refine Or.inl ⟨g2.trans h2, fun j' hj' i hi => ?_⟩
        by_cases w : j' = j
        · rw [w]
          rw [h2] at g3
          exact g3 i hi
        · exact h3 j' (by omega) i hi
      · right
        show fxn n (kbx (t j) (kbj n t f j) n) < _
        rw [g2]
        exact h2
    · right
      show fxn n (kbx (t j) (kbj n t f j) n) < _
      rcases h2 with ⟨h2, -⟩ | h2
      · rw [h2] at g2 ⊢
        exact g2
      · omega
theorem kbp_lb (hn : 1 ≤ n) (ht : ∀ j, j < k → ∀ i, i < n → t j i < n) : ∀ (r : Nat) (f : Nat → Nat), bWy n k t u v f → fxn n f ≤ r → bLb n k t u v (kbp n k t r f)
  | 0, f, hf, hr => by
    exfalso
    have h0 := (hf.1 0 (by omega)).1
    have : cn (fun z => f z == z) 1 ≤ cn (fun z => f z == z) n := cn_mono hn
    have e : cn (fun z => f z == z) 1 = 1 := by
      rw [cn_succ]
      simp [show f 0 = 0 by omega, cn]
    unfold fxn at hr
    omega
  | r + 1, f, hf, hr => by
    unfold kbp
    obtain ⟨h1, h2⟩ := kbj_wy ht hf k (Nat.le_refl _)
    by_cases e : eqn n (kbj n t f k) f = true
    · rw [if_pos e]
      have e := eqn_iff.mp e
      rcases h2 with ⟨h2, h3⟩ | h2
      · rw [h2]
        refine ⟨hf.1, hf.2, fun j hj x y hx hy q => ?_⟩
        rw [h3 j hj x hx, h3 j hj y hy, q]
      · exfalso
        have : fxn n (kbj n t f k) = fxn n f := cn_congr (fun i hi => by simp only [e i hi])
        omega
    · rw [if_neg e]
      rcases h2 with ⟨h2, -⟩ | h2
      · exact absurd (eqn_iff.mpr (fun i _ => by rw [h2])) e
      · exact kbp_lb hn ht r _ h1 (by omega)
theorem blk_lb (ht : ∀ j, j < k → ∀ i, i < n → t j i < n) (hu : u < n) (hv : v < n) : bLb n k t u v (blk n k t u v) := by
  have h0 : lbi n (cgr n k t u v) (fun i => i) := fun x _ => ⟨Nat.le_refl _, rfl, cgr.rf x⟩
  refine kbp_lb (by omega) ht n _ ⟨mg_lbi (fun h => cgr.sy h) (fun h g => cgr.tr h g) h0 hu hv cgr.uv, mg_tog (f := fun i => i)⟩ ?_
  exact cn_le _ _
theorem bms_in {f : Nat → Nat} {x : Nat} (hx : x < n) : (bms n f).testBit x = true ↔ f x = x := by
  unfold bms
  rw [bm_in hx, beq_iff_eq]
theorem blk_ok (hp : ∀ j, j < k → pm n (t j)) (hu : u < n) (hv : v < n) : 1 ≤ rk (bms n (blk n k t u v)) n ∧ ∀ j, j < k → pm (rk (bms n (blk n k t u v)) n) (nrw n (bms n (blk n k t u v)) (blk n k t u v) t j) := by
  have ht : ∀ j, j < k → ∀ i, i < n → t j i < n := fun j hj => (hp j hj).1
  have hb := blk_lb ht hu hv
  have hl := blk_lt ht hu hv
  generalize blk n k t u v = f at hb hl
  have h0 := (hb.1 0 (by omega)).1
  have one : 1 ≤ rk (bms n f) n := rk_pos (n := n) (x := 0) (by omega) (beq_iff_eq.mpr (show f 0 = 0 by omega))
  refine ⟨one, fun j hj => ?_⟩
  refine sur_inj (fun i hi => ?_) (fun y hy => ?_)
  · obtain ⟨x, h1, h2, rfl⟩ := rk_surj n i hi
    show nwg _ f (t j) n (rk _ x) < _
    rw [nwg_at h2 n h1]
    have := hl _ (ht j hj x h1)
    exact rk_lt' ((bms_in this).mpr (hb.1 _ (ht j hj x h1)).2.1) this
  · obtain ⟨y, h1, h2, rfl⟩ := rk_surj n y hy
    have h2' := (bms_in h1).mp h2
    obtain ⟨z, hz, e⟩ := pm_surj n _ (hp j hj) y h1
    have fz := hl z hz
    have b : (bms n f).testBit (f z) = true := (bms_in fz).mpr (hb.1 z hz).2.1
    refine ⟨rk (bms n f) (f z), rk_lt' b fz, ?_⟩
    show nwg _ f (t j) n (rk _ (f z)) = _
    rw [nwg_at b n fz, hb.2.2 j hj (f z) z fz hz (hb.1 z hz).2.1, e, h2']
end BlockPure
theorem ovr_pm {n m k : Nat} {t u : Nat → Nat → Nat} (hm : 0 < m) (ht : ∀ j, j < k → pm n (t j)) (hu : ∀ j, j < k → pm m (u j)) : ∀ j, j < k → pm (n * m) (ovr m t u j) := by
  intro j hj
  refine ⟨fun i hi => ovr_lt hm (fun j hj => (ht j hj).1) (fun j hj => (hu j hj).1) j hj i hi, fun a b ha hb e => ?_⟩
  have a1 : a / m < n := Nat.div_lt_of_lt_mul (by rw [Nat.mul_comm]; exact ha)
  have b1 : b / m < n := Nat.div_lt_of_lt_mul (by rw [Nat.mul_comm]; exact hb)
  have a2 := Nat.mod_lt a hm
  have b2 := Nat.mod_lt b hm
  have ea := Nat.div_add_mod a m
  have eb := Nat.div_add_mod b m
  have e : t j (a / m) * m + u j (a % m) = t j (b / m) * m + u j (b % m) := e
  have ua := (hu j hj).1 _ a2
  have ub := (hu j hj).1 _ b2
  have q1 : t j (a / m) = t j (b / m) := by
    have : (t j (a / m) * m + u j (a % m)) / m = (t j (b / m) * m + u j (b % m)) / m := by rw [e]
    rwa [Nat.add_comm, Nat.add_mul_div_right _ _ hm, Nat.div_eq_of_lt ua, Nat.zero_add, Nat.add_comm, Nat.add_mul_div_right _ _ hm, Nat.div_eq_of_lt ub, Nat.zero_add] at this
  have q2 : u j (a % m) = u j (b % m) := by rw [q1] at e; omega
  rw [← ea, ← eb, (ht j hj).2 _ _ a1 b1 q1, (hu j hj).2 _ _ a2 b2 q2]

/-! parts: what the turns lead together -/
def cl (n k : Nat) (t : Nat → Nat → Nat) (P : Nat → Prop) : Prop := ∀ j, j < k → ∀ i, i < n → (P i ↔ P (t j i))
def eqv (n k : Nat) (t : Nat → Nat → Nat) (x y : Nat) : Prop := ∀ P : Nat → Prop, cl n k t P → P x → P y
section Parts
variable {n k : Nat} {t : Nat → Nat → Nat}
theorem eqv.rf (x : Nat) : eqv n k t x x := fun _ _ h => h
theorem eqv.tr {x y z : Nat} (h : eqv n k t x y) (g : eqv n k t y z) : eqv n k t x z := fun P hP hx => g P hP (h P hP hx)
theorem eqv.sy {x y : Nat} (h : eqv n k t x y) : eqv n k t y x := fun P hP hy => Classical.byContradiction fun hx => h (fun z => ¬ P z) (fun j hj i hi => not_congr (hP j hj i hi)) hx hy
theorem eqv.st {j x : Nat} (hj : j < k) (hx : x < n) : eqv n k t x (t j x) := fun _ hP h => (hP j hj x hx).mp h
/-- a set that its turns lead into itself is left by them too -/
theorem cl_of {P : Nat → Prop} (hp : ∀ j, j < k → pm n (t j)) (h : ∀ j, j < k → ∀ i, i < n → P i → P (t j i)) : cl n k t P := by
  intro j hj i hi
  refine ⟨h j hj i hi, fun hq => ?_⟩
  -- the powers of t j come back
  have hpj := hp j hj
  have pw : ∀ m, ∀ i, i < n → P i → P (Nat.repeat (t j) m i) ∧ Nat.repeat (t j) m i < n := by
    intro m
    induction m with
    | zero => exact fun i hi hP => ⟨hP, hi⟩
    | succ m ih =>
      intro i hi hP
      obtain ⟨h1, h2⟩ := ih i hi hP
      exact ⟨h j hj _ h2 h1, hpj.1 _ h2⟩
  have pl : ∀ m i, i < n → Nat.repeat (t j) m i < n := by
    intro m
    induction m with
    | zero => exact fun i hi => hi
    | succ m ih => exact fun i hi => hpj.1 _ (ih i hi)
  have pi : ∀ m i i', i < n → i' < n → Nat.repeat (t j) m i = Nat.repeat (t j) m i' → i = i' := by
    intro m
    induction m with
    | zero => exact fun _ _ _ _ e => e
    | succ m ih => exact fun i i' hi hi' e => ih i i' hi hi' (hpj.2 _ _ (pl m i hi) (pl m i' hi') e)
  have cm : ∀ m i, Nat.repeat (t j) m (t j i) = Nat.repeat (t j) (m + 1) i := by
    intro m
    induction m with
    | zero => exact fun _ => rfl
    | succ m ih => intro i; show t j (Nat.repeat (t j) m (t j i)) = _; rw [ih]; rfl
  have ad : ∀ a b i, Nat.repeat (t j) a (Nat.repeat (t j) b i) = Nat.repeat (t j) (a + b) i := by
    intro a b
    induction a with
    | zero => intro i; rw [Nat.zero_add]; rfl
    | succ a ih => intro i; rw [Nat.succ_add]; show t j _ = t j _; rw [ih]
  -- two of the first n + 1 powers agree at i
  have : ∃ a b, a < b ∧ Nat.repeat (t j) a i = Nat.repeat (t j) b i := by
    apply Classical.byContradiction
    intro hno
    have : n + 1 ≤ n := inj_le (f := fun m => Nat.repeat (t j) m i) (fun m _ => pl m i hi) (fun a b _ _ e => by
      rcases Nat.lt_trichotomy a b with w | w | w
      · exact absurd ⟨a, b, w, e⟩ hno
      · exact w
      · exact absurd ⟨b, a, w, e.symm⟩ hno)
    omega
  obtain ⟨a, b, hab, e⟩ := this
  have e2 : i = Nat.repeat (t j) (b - a) i := pi a _ _ hi (pl _ i hi) (by rw [ad, show a + (b - a) = b by omega]; exact e)
  have e3 : Nat.repeat (t j) (b - a - 1) (t j i) = i := by rw [cm, show b - a - 1 + 1 = b - a by omega]; exact e2.symm
  rw [← e3]
  exact (pw (b - a - 1) (t j i) (hpj.1 i hi) hq).1
/-- least of each part -/
def mnl (n k : Nat) (t : Nat → Nat → Nat) (f : Nat → Nat) : Prop := (∀ x, x < n → f x ≤ x ∧ eqv n k t x (f x)) ∧ ∀ x y, x < n → y < n → eqv n k t x y → f x = f y
theorem mnl.uq {f g : Nat → Nat} (hf : mnl n k t f) (hg : mnl n k t g) : ∀ x, x < n → f x = g x := by
  intro x hx
  obtain ⟨a1, a2⟩ := hf.1 x hx
  obtain ⟨b1, b2⟩ := hg.1 x hx
  have c1 : g (f x) = g x := hg.2 _ _ (by omega) hx a2.sy
  have c2 : f (g x) = f x := hf.2 _ _ (by omega) hx b2.sy
  have := (hg.1 (f x) (by omega)).1
  have := (hf.1 (g x) (by omega)).1
  omega
/-- a labelling on its way: no label above its sheet, labels label themselves, in its own part -/
def lbi (n : Nat) (R : Nat → Nat → Prop) (f : Nat → Nat) : Prop := ∀ x, x < n → f x ≤ x ∧ f (f x) = f x ∧ R x (f x)
theorem mg_max (f : Nat → Nat) (a b : Nat) {x : Nat} (h : f x = max a b) : mg f a b x = min a b := if_pos h
theorem mg_oth (f : Nat → Nat) (a b : Nat) {x : Nat} (h : f x ≠ max a b) : mg f a b x = f x := if_neg h
theorem mg_eq {f : Nat → Nat} {a b x y : Nat} (h : f x = f y) : mg f a b x = mg f a b y := by simp only [mg, h]
theorem mg_tog {f : Nat → Nat} {u v : Nat} : mg f (f u) (f v) u = mg f (f u) (f v) v := by
  simp only [mg]
  split <;> split <;> omega
theorem mg_lbi {R : Nat → Nat → Prop} {f : Nat → Nat} {u v : Nat} (rs : ∀ {x y}, R x y → R y x) (rt : ∀ {x y z}, R x y → R y z → R x z) (hf : lbi n R f) (hu : u < n) (hv : v < n) (huv : R u v) : lbi n R (mg f (f u) (f v)) := by
  intro x hx
  obtain ⟨a1, a2, a3⟩ := hf x hx
  obtain ⟨u1, u2, u3⟩ := hf u hu
  obtain ⟨v1, v2, v3⟩ := hf v hv
  by_cases w : f x = max (f u) (f v)
  · rw [mg_max _ _ _ w]
    refine ⟨by omega, ?_, ?_⟩
    · have hm : f (min (f u) (f v)) = min (f u) (f v) := by
        rcases Nat.le_total (f u) (f v) with c | c
        · rw [Nat.min_eq_left c]; exact u2
        · rw [Nat.min_eq_right c]; exact v2
      by_cases w2 : f (min (f u) (f v)) = max (f u) (f v)
      · rw [mg_max _ _ _ w2]
      · rw [mg_oth _ _ _ w2]; exact hm
    · have b1 : R x (max (f u) (f v)) := by rw [← w]; exact a3
      rcases Nat.le_total (f u) (f v) with c | c
      · rw [Nat.max_eq_right c] at b1
        rw [Nat.min_eq_left c]
        exact rt b1 (rt (rs v3) (rt (rs huv) u3))
      · rw [Nat.max_eq_left c] at b1
        rw [Nat.min_eq_right c]
        exact rt b1 (rt (rs u3) (rt huv v3))
  · rw [mg_oth _ _ _ w]
    refine ⟨a1, ?_, a3⟩
    rw [mg_oth _ _ _ (by rw [a2]; exact w)]
    exact a2
theorem ltx_lbi {f : Nat → Nat} {j : Nat} (hj : j < k) (ht : ∀ i, i < n → t j i < n) (hf : lbi n (eqv n k t) f) : ∀ x, x ≤ n → lbi n (eqv n k t) (ltx (t j) f x) ∧ (∀ i, i < x → ltx (t j) f x i = ltx (t j) f x (t j i)) ∧ ∀ y z, f y = f z → ltx (t j) f x y = ltx (t j) f x z
  | 0, _ => ⟨hf, fun i hi => absurd hi (by omega), fun y z e => e⟩
  | x + 1, hx => by
    obtain ⟨h1, h2, h3⟩ := ltx_lbi hj ht hf x (by omega)
    refine ⟨mg_lbi eqv.sy eqv.tr h1 (by omega) (ht x (by omega)) (eqv.st hj (by omega)), fun i hi => ?_, fun y z e => mg_eq (h3 y z e)⟩
    by_cases w : i = x
    · subst w; exact mg_tog
    · exact mg_eq (h2 i (by omega))
theorem ltj_lbi (ht : ∀ j, j < k → ∀ i, i < n → t j i < n) : ∀ j, j ≤ k → lbi n (eqv n k t) (ltj n t j) ∧ ∀ i, i < j → ∀ x, x < n → ltj n t j x = ltj n t j (t i x)
  | 0, _ => ⟨fun x _ => ⟨Nat.le_refl _, rfl, eqv.rf x⟩, fun i hi => absurd hi (by omega)⟩
  | j + 1, hj => by
    obtain ⟨h1, h2⟩ := ltj_lbi ht j (by omega)
    obtain ⟨g1, g2, g3⟩ := ltx_lbi (show j < k by omega) (ht j (by omega)) h1 n (Nat.le_refl _)
    refine ⟨g1, fun i hi x hx => ?_⟩
    by_cases w : i = j
    · subst w; exact g2 x hx
    · exact g3 _ _ (h2 i (by omega) x hx)
theorem ltj_mnl (ht : ∀ j, j < k → ∀ i, i < n → t j i < n) : mnl n k t (ltj n t k) := by
  obtain ⟨h1, h2⟩ := ltj_lbi ht k (Nat.le_refl _)
  exact ⟨fun x hx => ⟨(h1 x hx).1, (h1 x hx).2.2⟩, fun x y hx hy e => e (fun z => ltj n t k x = ltj n t k z) (fun j hj i hi => by show _ = _ ↔ _ = _; rw [h2 j hj i hi]) rfl⟩
/-- all in one part -/
def whe (n k : Nat) (t : Nat → Nat → Nat) : Prop := ∀ x y, x < n → y < n → eqv n k t x y
theorem cn_one {p : Nat → Bool} (h0 : p 0 = true) : ∀ n, 1 ≤ n → (cn p n = 1 ↔ ∀ i, 1 ≤ i → i < n → p i = false)
  | 0, h => absurd h (by decide)
  | n + 1, _ => by
    rw [cn_succ]
    by_cases w : n = 0
    · subst w
      rw [if_pos h0]
      exact ⟨fun _ i h1 h2 => absurd h2 (by omega), fun _ => rfl⟩
    · have ih := cn_one h0 n (by omega)
      have hge : 1 ≤ cn p n := by
        have := cn_mono (p := p) (show 1 ≤ n by omega)
        have e : cn p 1 = 1 := by rw [cn_succ, if_pos h0]; rfl
        omega
      constructor
      · intro h i h1 h2
        have hn : ¬ p n = true := fun c => by rw [if_pos c] at h; omega
        rw [if_neg hn] at h
        by_cases e : i = n
        · subst e; simpa using hn
        · exact ih.mp h i h1 (by omega)
      · intro h
        have hn : ¬ p n = true := by rw [h n (by omega) (by omega)]; decide
        rw [if_neg hn]
        have := ih.mpr (fun i h1 h2 => h i h1 (by omega))
        omega
theorem pn_one (hn : 1 ≤ n) (ht : ∀ j, j < k → ∀ i, i < n → t j i < n) : pn n k t = 1 ↔ whe n k t := by
  have hm := ltj_mnl ht
  obtain ⟨hl, -⟩ := ltj_lbi ht k (Nat.le_refl _)
  have z : ltj n t k 0 = 0 := by have := (hm.1 0 (by omega)).1; omega
  unfold pn
  rw [cn_one (by rw [z]; rfl) n hn]
  constructor
  · intro h x y hx hy
    have all : ∀ x, x < n → ltj n t k x = 0 := by
      intro x hx
      obtain ⟨a1, a2, a3⟩ := hl x hx
      rcases Nat.eq_zero_or_pos (ltj n t k x) with w | w
      · exact w
      · have := h _ w (by omega)
        rw [a2] at this
        simp at this
    have e1 := (hl x hx).2.2
    have e2 := (hl y hy).2.2
    rw [all x hx] at e1
    rw [all y hy] at e2
    exact e1.tr e2.sy
  · intro h i h1 h2
    have := hm.2 i 0 h2 (by omega) (h i 0 h2 (by omega))
    rw [this, z]
    simp; omega
/-! the numbering comes to the whole part -/
theorem bF_cl {s : Nat} (hs : s < n) (hp : ∀ j, j < k → pm n (t j)) : cl n k t (fun z => (bF n t k s).2.2.2 z = true) := by
  have ht : ∀ j, j < k → ∀ i, i < n → t j i < n := fun j hj => (hp j hj).1
  refine cl_of hp (fun j hj i hi hv => ?_)
  have hI : bI n (bF n t k s) := bI_x hs ht n
  obtain ⟨g1, g2, g3⟩ := hI.2.1 i hv
  generalize hx : (bF n t k s).1 i = x at g2 g3
  have hle := bI_le hI
  have hgx : x < (bx t k s x).2.2.1 := by
    rcases Nat.lt_or_ge x (bx t k s x).2.2.1 with w | w
    · exact w
    · have e := bx_stay w n (by omega)
      have g2' : x < (bx t k s n).2.2.1 := g2
      rw [e] at g2'
      omega
  have e1 : (bx t k s x).2.1 x = i := by
    rw [← g3]
    exact ((bL_x (t := t) (k := k) (s := s) x n (by omega)).2.1 x hgx).symm
  have h1 : (bx t k s (x + 1)).2.2.2 (t j i) = true := by
    rw [bx_go hgx, e1]
    exact bj_has _ hj
  exact ((bL_x (t := t) (k := k) (s := s) (x + 1) n (by omega)).2.2 _ h1).1
theorem bF_has {s z : Nat} (hs : s < n) (hp : ∀ j, j < k → pm n (t j)) (h : eqv n k t s z) : (bF n t k s).2.2.2 z = true := by
  refine h _ (bF_cl hs hp) ?_
  have h0 : (bx t k s 0).2.2.2 s = true := by
    show vs (fun _ => false) s s = true
    simp [vs]
  exact ((bL_x (t := t) (k := k) (s := s) 0 n (by omega)).2.2 _ h0).1
theorem whe_whl (hp : ∀ j, j < k → pm n (t j)) (h : whe n k t) : whl n k t := by
  intro s hs
  have hI : bI n (bF n t k s) := bI_x hs (fun j hj => (hp j hj).1) n
  have h1 := bI_le hI
  have h2 : n ≤ (bF n t k s).2.2.1 := inj_le (f := (bF n t k s).1) (fun z hz => (hI.2.1 z (bF_has hs hp (h s z hs hz))).2.1) (fun a b ha hb e => by
    rw [← (hI.2.1 a (bF_has hs hp (h s a hs ha))).2.2, ← (hI.2.1 b (bF_has hs hp (h s b hs hb))).2.2, e])
  omega
/-- what has a number is in the part -/
theorem b1_in {s led : Nat} {q : bS} (hl : eqv n k t s led) (h : ∀ z, q.2.2.2 z = true → eqv n k t s z) : ∀ z, (b1 led q).2.2.2 z = true → eqv n k t s z := by
  intro z hz
  unfold b1 at hz
  split at hz
  · exact h z hz
  · have hz : vs q.2.2.2 led z = true := hz
    by_cases w : z = led
    · rw [w]; exact hl
    · exact h z (by simpa [vs, w] using hz)
theorem bx_in {s : Nat} (hs : s < n) (ht : ∀ j, j < k → ∀ i, i < n → t j i < n) : ∀ x z, (bx t k s x).2.2.2 z = true → eqv n k t s z := by
  intro x
  induction x with
  | zero =>
    intro z hz
    have hz : vs (fun _ => false) s z = true := hz
    by_cases w : z = s
    · rw [w]; exact eqv.rf s
    · simp [vs, w] at hz
  | succ x ih =>
    have hI := bI_x (k := k) hs ht x
    rcases Nat.lt_or_ge x (bx t k s x).2.2.1 with w | w
    · rw [bx_go w]
      obtain ⟨c1, c2, -⟩ := hI.1 x w
      have eo := ih _ c2
      have : ∀ j, j ≤ k → ∀ z, (bj t ((bx t k s x).2.1 x) j (bx t k s x)).2.2.2 z = true → eqv n k t s z := by
        intro j
        induction j with
        | zero => exact fun _ => ih
        | succ j ihj => exact fun hj => b1_in (eo.tr (eqv.st (by omega) c1)) (ihj (by omega))
      exact this k (Nat.le_refl _)
    · rw [bx_no w]; exact ih
theorem whl_whe (hp : ∀ j, j < k → pm n (t j)) (h : whl n k t) : whe n k t := by
  intro x y hx hy
  have hI : bI n (bF n t k x) := bI_x hx (fun j hj => (hp j hj).1) n
  exact bx_in hx (fun j hj => (hp j hj).1) n y (bI_all hI (h x hx) y hy)
/-! leading past keeps parts; so do names -/
theorem lfw_cl {j : Nat} {P : Nat → Prop} (hp : ∀ j, j < k → pm n (t j)) (hj : j + 1 < k) (h : cl n k (lfw n t j) P) : cl n k t P := by
  have a1 : ∀ i, i < n → (P i ↔ P (t (j + 1) i)) := fun i hi => by
    have := h j (by omega) i hi
    rw [show lfw n t j j = t (j + 1) by simp [lfw, ut]] at this
    exact this
  have a2 : ∀ i, i < n → (P i ↔ P (t j i)) := fun i hi => by
    have h1 := (hp (j + 1) hj).1 i hi
    have := h (j + 1) hj (t (j + 1) i) h1
    rw [show lfw n t j (j + 1) = fun x => t (j + 1) (t j (iv (t (j + 1)) n x)) by simp [lfw, ut]] at this
    simp only [iv_at (hp (j + 1) hj).2 hi] at this
    rw [a1 i hi, this, ← a1 (t j i) ((hp j (by omega)).1 i hi)]
  intro i hi x hx
  by_cases e1 : i = j
  · subst e1; exact a2 x hx
  · by_cases e2 : i = j + 1
    · subst e2; exact a1 x hx
    · have := h i hi x hx
      rw [show lfw n t j i = t i by simp [lfw, ut, e1, e2]] at this
      exact this
theorem lfw_whe {j : Nat} (hp : ∀ j, j < k → pm n (t j)) (hj : j + 1 < k) (h : whe n k t) : whe n k (lfw n t j) := fun x y hx hy P hP => h x y hx hy P (lfw_cl hp hj hP)
theorem rn_pm {s : Nat} (hs : s < n) (hp : ∀ j, j < k → pm n (t j)) (hw : whl n k t) : ∀ j, j < k → pm n (rn n t k s j) := by
  intro j hj
  have ht : ∀ j, j < k → ∀ i, i < n → t j i < n := fun j hj => (hp j hj).1
  have hI : bI n (bF n t k s) := bI_x hs ht n
  have hg := hw s hs
  refine ⟨rn_lt hs ht hw j hj, fun a b ha hb e => ?_⟩
  obtain ⟨a1, a2, a3⟩ := hI.1 a (by omega)
  obtain ⟨b1, b2, b3⟩ := hI.1 b (by omega)
  have ca := (hI.2.1 _ (bI_all hI hg _ (ht j hj _ a1))).2.2
  have cb := (hI.2.1 _ (bI_all hI hg _ (ht j hj _ b1))).2.2
  have e2 : t j ((bF n t k s).2.1 a) = t j ((bF n t k s).2.1 b) := by
    rw [← ca, ← cb]
    exact congrArg _ e
  have e3 := (hp j hj).2 _ _ a1 b1 e2
  rw [← a3, ← b3, e3]
theorem rn_whe {s : Nat} (hs : s < n) (hp : ∀ j, j < k → pm n (t j)) (hw : whl n k t) : whe n k (rn n t k s) := by
  intro x y hx hy P hP hPx
  have ht : ∀ j, j < k → ∀ i, i < n → t j i < n := fun j hj => (hp j hj).1
  have hI : bI n (bF n t k s) := bI_x hs ht n
  have hg := hw s hs
  obtain ⟨x1, x2, x3⟩ := hI.1 x (by omega)
  obtain ⟨y1, y2, y3⟩ := hI.1 y (by omega)
  have := whl_whe hp hw _ _ x1 y1 (fun z => P ((bF n t k s).1 z)) (fun j hj i hi => by
    have hv := bI_all hI hg i hi
    obtain ⟨i1, i2, i3⟩ := hI.2.1 i hv
    have := hP j hj ((bF n t k s).1 i) (by omega)
    have er : rn n t k s j ((bF n t k s).1 i) = (bF n t k s).1 (t j i) := by
      show (bF n t k s).1 (t j ((bF n t k s).2.1 ((bF n t k s).1 i))) = _
      rw [i3]
    rw [er] at this
    exact this) (by show P _; rw [x3]; exact hPx)
  have h2 : P ((bF n t k s).1 ((bF n t k s).2.1 y)) := this
  rw [y3] at h2
  exact h2
theorem fnd_pm {s : Nat} (h1 : 1 ≤ s) (hs : s ≤ n) (hp : ∀ j, j < k → pm n (t j)) (hw : whl n k t) : ∀ j, j < k → pm n ((fnd n k t s).1 j) := by
  obtain ⟨s', h2, e⟩ := fnd_rn (n := n) (k := k) (t := t) s h1
  rw [e]
  exact rn_pm (by omega) hp hw
theorem fnd_whe {s : Nat} (h1 : 1 ≤ s) (hs : s ≤ n) (hp : ∀ j, j < k → pm n (t j)) (hw : whl n k t) : whe n k (fnd n k t s).1 := by
  obtain ⟨s', h2, e⟩ := fnd_rn (n := n) (k := k) (t := t) s h1
  rw [e]
  exact rn_whe (by omega) hp hw
end Parts

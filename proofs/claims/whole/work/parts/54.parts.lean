/-! parts: what the turns lead together -/
def cl (n k : Nat) (t : Nat → Nat → Nat) (P : Nat → Prop) : Prop := ∀ j, j < k → ∀ i, i < n → (P i ↔ P (t j i))
def eqv (n k : Nat) (t : Nat → Nat → Nat) (x y : Nat) : Prop := ∀ P : Nat → Prop, cl n k t P → P x → P y
section Parts
variable {n k : Nat} {t : Nat → Nat → Nat}
theorem eqv.rf (x : Nat) : eqv n k t x x := fun _ _ h => h
theorem eqv.tr {x y z : Nat} (h : eqv n k t x y) (g : eqv n k t y z) : eqv n k t x z := fun P hP hx => g P hP (h P hP hx)
theorem eqv.sy {x y : Nat} (h : eqv n k t x y) : eqv n k t y x := fun P hP hy => Classical.byContradiction fun hx => h (fun z => ¬ P z) (fun j hj i hi => not_congr (hP j hj i hi)) hx hy
theorem eqv.st {j x : Nat} (hj : j < k) (hx : x < n) : eqv n k t x (t j x) := fun _ hP h => (hP j hj x hx).mp h
/-- a set that its turns lead into itself is left by them too -/
theorem cl_of {P : Nat → Prop} (hp : ∀ j, j < k → pm n (t j)) (h : ∀ j, j < k → ∀ i, i < n → P i → P (t j i)) : cl n k t P := by
  intro j hj i hi
  refine ⟨h j hj i hi, fun hq => ?_⟩
  -- the powers of t j come back
  have hpj := hp j hj
  have pw : ∀ m, ∀ i, i < n → P i → P (Nat.repeat (t j) m i) ∧ Nat.repeat (t j) m i < n := by
    intro m
    induction m with
    | zero => exact fun i hi hP => ⟨hP, hi⟩
    | succ m ih =>
      intro i hi hP
      obtain ⟨h1, h2⟩ := ih i hi hP
      exact ⟨h j hj _ h2 h1, hpj.1 _ h2⟩
  have pl : ∀ m i, i < n → Nat.repeat (t j) m i < n := by
    intro m
    induction m with
    | zero => exact fun i hi => hi
    | succ m ih => exact fun i hi => hpj.1 _ (ih i hi)
  have pi : ∀ m i i', i < n → i' < n → Nat.repeat (t j) m i = Nat.repeat (t j) m i' → i = i' := by
    intro m
    induction m with
    | zero => exact fun _ _ _ _ e => e
    | succ m ih => exact fun i i' hi hi' e => ih i i' hi hi' (hpj.2 _ _ (pl m i hi) (pl m i' hi') e)
  have cm : ∀ m i, Nat.repeat (t j) m (t j i) = Nat.repeat (t j) (m + 1) i := by
    intro m
    induction m with
    | zero => exact fun _ => rfl
    | succ m ih => intro i; show t j (Nat.repeat (t j) m (t j i)) = _; rw [ih]; rfl
  have ad : ∀ a b i, Nat.repeat (t j) a (Nat.repeat (t j) b i) = Nat.repeat (t j) (a + b) i := by
    intro a b
    induction a with
    | zero => intro i; rw [Nat.zero_add]; rfl
    | succ a ih => intro i; rw [Nat.succ_add]; show t j _ = t j _; rw [ih]
  -- two of the first n + 1 powers agree at i
  have : ∃ a b, a < b ∧ Nat.repeat (t j) a i = Nat.repeat (t j) b i := by
    apply Classical.byContradiction
    intro hno
    have : n + 1 ≤ n := inj_le (f := fun m => Nat.repeat (t j) m i) (fun m _ => pl m i hi) (fun a b _ _ e => by
      rcases Nat.lt_trichotomy a b with w | w | w
      · exact absurd ⟨a, b, w, e⟩ hno
      · exact w
      · exact absurd ⟨b, a, w, e.symm⟩ hno)
    omega
  obtain ⟨a, b, hab, e⟩ := this
  have e2 : i = Nat.repeat (t j) (b - a) i := pi a _ _ hi (pl _ i hi) (by rw [ad, show a + (b - a) = b by omega]; exact e)
  have e3 : Nat.repeat (t j) (b - a - 1) (t j i) = i := by rw [cm, show b - a - 1 + 1 = b - a by omega]; exact e2.symm
  rw [← e3]
  exact (pw (b - a - 1) (t j i) (hpj.1 i hi) hq).1
/-- least of each part -/
def mnl (n k : Nat) (t : Nat → Nat → Nat) (f : Nat → Nat) : Prop := (∀ x, x < n → f x ≤ x ∧ eqv n k t x (f x)) ∧ ∀ x y, x < n → y < n → eqv n k t x y → f x = f y
theorem mnl.uq {f g : Nat → Nat} (hf : mnl n k t f) (hg : mnl n k t g) : ∀ x, x < n → f x = g x := by
  intro x hx
  obtain ⟨a1, a2⟩ := hf.1 x hx
  obtain ⟨b1, b2⟩ := hg.1 x hx
  have c1 : g (f x) = g x := hg.2 _ _ (by omega) hx a2.sy
  have c2 : f (g x) = f x := hf.2 _ _ (by omega) hx b2.sy
  have := (hg.1 (f x) (by omega)).1
  have := (hf.1 (g x) (by omega)).1
  omega
/-- a labelling on its way: no label above its sheet, labels label themselves, in its own part -/
def lbi (n : Nat) (R : Nat → Nat → Prop) (f : Nat → Nat) : Prop := ∀ x, x < n → f x ≤ x ∧ f (f x) = f x ∧ R x (f x)
theorem mg_max (f : Nat → Nat) (a b : Nat) {x : Nat} (h : f x = max a b) : mg f a b x = min a b := if_pos h
theorem mg_oth (f : Nat → Nat) (a b : Nat) {x : Nat} (h : f x ≠ max a b) : mg f a b x = f x := if_neg h
theorem mg_eq {f : Nat → Nat} {a b x y : Nat} (h : f x = f y) : mg f a b x = mg f a b y := by simp only [mg, h]
theorem mg_tog {f : Nat → Nat} {u v : Nat} : mg f (f u) (f v) u = mg f (f u) (f v) v := by
  simp only [mg]
  split <;> split <;> omega
theorem mg_lbi {R : Nat → Nat → Prop} {f : Nat → Nat} {u v : Nat} (rs : ∀ {x y}, R x y → R y x) (rt : ∀ {x y z}, R x y → R y z → R x z) (hf : lbi n R f) (hu : u < n) (hv : v < n) (huv : R u v) : lbi n R (mg f (f u) (f v)) := by
  intro x hx
  obtain ⟨a1, a2, a3⟩ := hf x hx
  obtain ⟨u1, u2, u3⟩ := hf u hu
  obtain ⟨v1, v2, v3⟩ := hf v hv
  by_cases w : f x = max (f u) (f v)
  · rw [mg_max _ _ _ w]
    refine ⟨by omega, ?_, ?_⟩
    · have hm : f (min (f u) (f v)) = min (f u) (f v) := by
        rcases Nat.le_total (f u) (f v) with c | c
        · rw [Nat.min_eq_left c]; exact u2
        · rw [Nat.min_eq_right c]; exact v2
      by_cases w2 : f (min (f u) (f v)) = max (f u) (f v)
      · rw [mg_max _ _ _ w2]
      · rw [mg_oth _ _ _ w2]; exact hm
    · have b1 : R x (max (f u) (f v)) := by rw [← w]; exact a3
      rcases Nat.le_total (f u) (f v) with c | c
      · rw [Nat.max_eq_right c] at b1
        rw [Nat.min_eq_left c]
        exact rt b1 (rt (rs v3) (rt (rs huv) u3))
      · rw [Nat.max_eq_left c] at b1
        rw [Nat.min_eq_right c]
        exact rt b1 (rt (rs u3) (rt huv v3))
  · rw [mg_oth _ _ _ w]
    refine ⟨a1, ?_, a3⟩
    rw [mg_oth _ _ _ (by rw [a2]; exact w)]
    exact a2
theorem ltx_lbi {f : Nat → Nat} {j : Nat} (hj : j < k) (ht : ∀ i, i < n → t j i < n) (hf : lbi n (eqv n k t) f) : ∀ x, x ≤ n → lbi n (eqv n k t) (ltx (t j) f x) ∧ (∀ i, i < x → ltx (t j) f x i = ltx (t j) f x (t j i)) ∧ ∀ y z, f y = f z → ltx (t j) f x y = ltx (t j) f x z
  | 0, _ => ⟨hf, fun i hi => absurd hi (by omega), fun y z e => e⟩
  | x + 1, hx => by
    obtain ⟨h1, h2, h3⟩ := ltx_lbi hj ht hf x (by omega)
    refine ⟨mg_lbi eqv.sy eqv.tr h1 (by omega) (ht x (by omega)) (eqv.st hj (by omega)), fun i hi => ?_, fun y z e => mg_eq (h3 y z e)⟩
    by_cases w : i = x
    · subst w; exact mg_tog
    · exact mg_eq (h2 i (by omega))
theorem ltj_lbi (ht : ∀ j, j < k → ∀ i, i < n → t j i < n) : ∀ j, j ≤ k → lbi n (eqv n k t) (ltj n t j) ∧ ∀ i, i < j → ∀ x, x < n → ltj n t j x = ltj n t j (t i x)
  | 0, _ => ⟨fun x _ => ⟨Nat.le_refl _, rfl, eqv.rf x⟩, fun i hi => absurd hi (by omega)⟩
  | j + 1, hj => by
    obtain ⟨h1, h2⟩ := ltj_lbi ht j (by omega)
    obtain ⟨g1, g2, g3⟩ := ltx_lbi (show j < k by omega) (ht j (by omega)) h1 n (Nat.le_refl _)
    refine ⟨g1, fun i hi x hx => ?_⟩
    by_cases w : i = j
    · subst w; exact g2 x hx
    · exact g3 _ _ (h2 i (by omega) x hx)
theorem ltj_mnl (ht : ∀ j, j < k → ∀ i, i < n → t j i < n) : mnl n k t (ltj n t k) := by
  obtain ⟨h1, h2⟩ := ltj_lbi ht k (Nat.le_refl _)
  exact ⟨fun x hx => ⟨(h1 x hx).1, (h1 x hx).2.2⟩, fun x y hx hy e => e (fun z => ltj n t k x = ltj n t k z) (fun j hj i hi => by show _ = _ ↔ _ = _; rw [h2 j hj i hi]) rfl⟩
/-- all in one part -/
def whe (n k : Nat) (t : Nat → Nat → Nat) : Prop := ∀ x y, x < n → y < n → eqv n k t x y
theorem cn_one {p : Nat → Bool} (h0 : p 0 = true) : ∀ n, 1 ≤ n → (cn p n = 1 ↔ ∀ i, 1 ≤ i → i < n → p i = false)
  | 0, h => absurd h (by decide)
  | n + 1, _ => by
    rw [cn_succ]
    by_cases w : n = 0
    · subst w
      rw [if_pos h0]
      exact ⟨fun _ i h1 h2 => absurd h2 (by omega), fun _ => rfl⟩
    · have ih := cn_one h0 n (by omega)
      have hge : 1 ≤ cn p n := by
        have := cn_mono (p := p) (show 1 ≤ n by omega)
        have e : cn p 1 = 1 := by rw [cn_succ, if_pos h0]; rfl
        omega
      constructor
      · intro h i h1 h2
        have hn : ¬ p n = true := fun c => by rw [if_pos c] at h; omega
        rw [if_neg hn] at h
        by_cases e : i = n
        · subst e; simpa using hn
        · exact ih.mp h i h1 (by omega)
      · intro h
        have hn : ¬ p n = true := by rw [h n (by omega) (by omega)]; decide
        rw [if_neg hn]
        have := ih.mpr (fun i h1 h2 => h i h1 (by omega))
        omega
theorem pn_one (hn : 1 ≤ n) (ht : ∀ j, j < k → ∀ i, i < n → t j i < n) : pn n k t = 1 ↔ whe n k t := by
  have hm := ltj_mnl ht
  obtain ⟨hl, -⟩ := ltj_lbi ht k (Nat.le_refl _)
  have z : ltj n t k 0 = 0 := by have := (hm.1 0 (by omega)).1; omega
  unfold pn
  rw [cn_one (by rw [z]; rfl) n hn]
  constructor
  · intro h x y hx hy
    have all : ∀ x, x < n → ltj n t k x = 0 := by
      intro x hx
      obtain ⟨a1, a2, a3⟩ := hl x hx
      rcases Nat.eq_zero_or_pos (ltj n t k x) with w | w
      · exact w
      · have := h _ w (by omega)
        rw [a2] at this
        simp at this
    have e1 := (hl x hx).2.2
    have e2 := (hl y hy).2.2
    rw [all x hx] at e1
    rw [all y hy] at e2
    exact e1.tr e2.sy
  · intro h i h1 h2
    have := hm.2 i 0 h2 (by omega) (h i 0 h2 (by omega))
    rw [this, z]
    simp; omega
/-! the numbering comes to the whole part -/
theorem bF_cl {s : Nat} (hs : s < n) (hp : ∀ j, j < k → pm n (t j)) : cl n k t (fun z => (bF n t k s).2.2.2 z = true) := by
  have ht : ∀ j, j < k → ∀ i, i < n → t j i < n := fun j hj => (hp j hj).1
  refine cl_of hp (fun j hj i hi hv => ?_)
  have hI : bI n (bF n t k s) := bI_x hs ht n
  obtain ⟨g1, g2, g3⟩ := hI.2.1 i hv
  generalize hx : (bF n t k s).1 i = x at g2 g3
  have hle := bI_le hI
  have hgx : x < (bx t k s x).2.2.1 := by
    rcases Nat.lt_or_ge x (bx t k s x).2.2.1 with w | w
    · exact w
    · have e := bx_stay w n (by omega)
      have g2' : x < (bx t k s n).2.2.1 := g2
      rw [e] at g2'
      omega
  have e1 : (bx t k s x).2.1 x = i := by
    rw [← g3]
    exact ((bL_x (t := t) (k := k) (s := s) x n (by omega)).2.1 x hgx).symm
  have h1 : (bx t k s (x + 1)).2.2.2 (t j i) = true := by
    rw [bx_go hgx, e1]
    exact bj_has _ hj
  exact ((bL_x (t := t) (k := k) (s := s) (x + 1) n (by omega)).2.2 _ h1).1
theorem bF_has {s z : Nat} (hs : s < n) (hp : ∀ j, j < k → pm n (t j)) (h : eqv n k t s z) : (bF n t k s).2.2.2 z = true := by
  refine h _ (bF_cl hs hp) ?_
  have h0 : (bx t k s 0).2.2.2 s = true := by
    show vs (fun _ => false) s s = true
    simp [vs]
  exact ((bL_x (t := t) (k := k) (s := s) 0 n (by omega)).2.2 _ h0).1
theorem whe_whl (hp : ∀ j, j < k → pm n (t j)) (h : whe n k t) : whl n k t := by
  intro s hs
  have hI : bI n (bF n t k s) := bI_x hs (fun j hj => (hp j hj).1) n
  have h1 := bI_le hI
  have h2 : n ≤ (bF n t k s).2.2.1 := inj_le (f := (bF n t k s).1) (fun z hz => (hI.2.1 z (bF_has hs hp (h s z hs hz))).2.1) (fun a b ha hb e => by
    rw [← (hI.2.1 a (bF_has hs hp (h s a hs ha))).2.2, ← (hI.2.1 b (bF_has hs hp (h s b hs hb))).2.2, e])
  omega
/-- what has a number is in the part -/
theorem b1_in {s led : Nat} {q : bS} (hl : eqv n k t s led) (h : ∀ z, q.2.2.2 z = true → eqv n k t s z) : ∀ z, (b1 led q).2.2.2 z = true → eqv n k t s z := by
  intro z hz
  unfold b1 at hz
  split at hz
  · exact h z hz
  · have hz : vs q.2.2.2 led z = true := hz
    by_cases w : z = led
    · rw [w]; exact hl
    · exact h z (by simpa [vs, w] using hz)
theorem bx_in {s : Nat} (hs : s < n) (ht : ∀ j, j < k → ∀ i, i < n → t j i < n) : ∀ x z, (bx t k s x).2.2.2 z = true → eqv n k t s z := by
  intro x
  induction x with
  | zero =>
    intro z hz
    have hz : vs (fun _ => false) s z = true := hz
    by_cases w : z = s
    · rw [w]; exact eqv.rf s
    · simp [vs, w] at hz
  | succ x ih =>
    have hI := bI_x (k := k) hs ht x
    rcases Nat.lt_or_ge x (bx t k s x).2.2.1 with w | w
    · rw [bx_go w]
      obtain ⟨c1, c2, -⟩ := hI.1 x w
      have eo := ih _ c2
      have : ∀ j, j ≤ k → ∀ z, (bj t ((bx t k s x).2.1 x) j (bx t k s x)).2.2.2 z = true → eqv n k t s z := by
        intro j
        induction j with
        | zero => exact fun _ => ih
        | succ j ihj => exact fun hj => b1_in (eo.tr (eqv.st (by omega) c1)) (ihj (by omega))
      exact this k (Nat.le_refl _)
    · rw [bx_no w]; exact ih
theorem whl_whe (hp : ∀ j, j < k → pm n (t j)) (h : whl n k t) : whe n k t := by
  intro x y hx hy
  have hI : bI n (bF n t k x) := bI_x hx (fun j hj => (hp j hj).1) n
  exact bx_in hx (fun j hj => (hp j hj).1) n y (bI_all hI (h x hx) y hy)
/-! leading past keeps parts; so do names -/
theorem lfw_cl {j : Nat} {P : Nat → Prop} (hp : ∀ j, j < k → pm n (t j)) (hj : j + 1 < k) (h : cl n k (lfw n t j) P) : cl n k t P := by
  have a1 : ∀ i, i < n → (P i ↔ P (t (j + 1) i)) := fun i hi => by
    have := h j (by omega) i hi
    rw [show lfw n t j j = t (j + 1) by simp [lfw, ut]] at this
    exact this
  have a2 : ∀ i, i < n → (P i ↔ P (t j i)) := fun i hi => by
    have h1 := (hp (j + 1) hj).1 i hi
    have := h (j + 1) hj (t (j + 1) i) h1
    rw [show lfw n t j (j + 1) = fun x => t (j + 1) (t j (iv (t (j + 1)) n x)) by simp [lfw, ut]] at this
    simp only [iv_at (hp (j + 1) hj).2 hi] at this
    rw [a1 i hi, this, ← a1 (t j i) ((hp j (by omega)).1 i hi)]
  intro i hi x hx
  by_cases e1 : i = j
  · subst e1; exact a2 x hx
  · by_cases e2 : i = j + 1
    · subst e2; exact a1 x hx
    · have := h i hi x hx
      rw [show lfw n t j i = t i by simp [lfw, ut, e1, e2]] at this
      exact this
theorem lfw_whe {j : Nat} (hp : ∀ j, j < k → pm n (t j)) (hj : j + 1 < k) (h : whe n k t) : whe n k (lfw n t j) := fun x y hx hy P hP => h x y hx hy P (lfw_cl hp hj hP)
theorem rn_pm {s : Nat} (hs : s < n) (hp : ∀ j, j < k → pm n (t j)) (hw : whl n k t) : ∀ j, j < k → pm n (rn n t k s j) := by
  intro j hj
  have ht : ∀ j, j < k → ∀ i, i < n → t j i < n := fun j hj => (hp j hj).1
  have hI : bI n (bF n t k s) := bI_x hs ht n
  have hg := hw s hs
  refine ⟨rn_lt hs ht hw j hj, fun a b ha hb e => ?_⟩
  obtain ⟨a1, a2, a3⟩ := hI.1 a (by omega)
  obtain ⟨b1, b2, b3⟩ := hI.1 b (by omega)
  have ca := (hI.2.1 _ (bI_all hI hg _ (ht j hj _ a1))).2.2
  have cb := (hI.2.1 _ (bI_all hI hg _ (ht j hj _ b1))).2.2
  have e2 : t j ((bF n t k s).2.1 a) = t j ((bF n t k s).2.1 b) := by
    rw [← ca, ← cb]
    exact congrArg _ e
  have e3 := (hp j hj).2 _ _ a1 b1 e2
  rw [← a3, ← b3, e3]
theorem rn_whe {s : Nat} (hs : s < n) (hp : ∀ j, j < k → pm n (t j)) (hw : whl n k t) : whe n k (rn n t k s) := by
  intro x y hx hy P hP hPx
  have ht : ∀ j, j < k → ∀ i, i < n → t j i < n := fun j hj => (hp j hj).1
  have hI : bI n (bF n t k s) := bI_x hs ht n
  have hg := hw s hs
  obtain ⟨x1, x2, x3⟩ := hI.1 x (by omega)
  obtain ⟨y1, y2, y3⟩ := hI.1 y (by omega)
  have := whl_whe hp hw _ _ x1 y1 (fun z => P ((bF n t k s).1 z)) (fun j hj i hi => by
    have hv := bI_all hI hg i hi
    obtain ⟨i1, i2, i3⟩ := hI.2.1 i hv
    have := hP j hj ((bF n t k s).1 i) (by omega)
    have er : rn n t k s j ((bF n t k s).1 i) = (bF n t k s).1 (t j i) := by
      show (bF n t k s).1 (t j ((bF n t k s).2.1 ((bF n t k s).1 i))) = _
      rw [i3]
    rw [er] at this
    exact this) (by show P _; rw [x3]; exact hPx)
  have h2 : P ((bF n t k s).1 ((bF n t k s).2.1 y)) := this
  rw [y3] at h2
  exact h2
theorem fnd_pm {s : Nat} (h1 : 1 ≤ s) (hs : s ≤ n) (hp : ∀ j, j < k → pm n (t j)) (hw : whl n k t) : ∀ j, j < k → pm n ((fnd n k t s).1 j) := by
  obtain ⟨s', h2, e⟩ := fnd_rn (n := n) (k := k) (t := t) s h1
  rw [e]
  exact rn_pm (by omega) hp hw
theorem fnd_whe {s : Nat} (h1 : 1 ≤ s) (hs : s ≤ n) (hp : ∀ j, j < k → pm n (t j)) (hw : whl n k t) : whe n k (fnd n k t s).1 := by
  obtain ⟨s', h2, e⟩ := fnd_rn (n := n) (k := k) (t := t) s h1
  rw [e]
  exact rn_whe (by omega) hp hw
/-! alike sheets: names from them are the same -/
theorem teq.rf (a : Nat → Nat → Nat) : teq n k a a := fun _ _ _ _ => rfl
theorem teq.sy {a b : Nat → Nat → Nat} (h : teq n k a b) : teq n k b a := fun j hj i hi => (h j hj i hi).symm
theorem teq.tr {a b c : Nat → Nat → Nat} (h : teq n k a b) (g : teq n k b c) : teq n k a c := fun j hj i hi => (h j hj i hi).trans (g j hj i hi)
theorem lex_tr {a b c : Nat → Nat → Nat} (h : lex n k a b) (g : lex n k b c) : lex n k a c := by
  obtain ⟨j, hj, i, hi, p1, p2, w⟩ := h
  obtain ⟨j2, hj2, i2, hi2, q1, q2, w2⟩ := g
  rcases Nat.lt_trichotomy j j2 with c1 | c1 | c1
  · refine ⟨j, hj, i, hi, fun j' hj' i' hi' => (p1 j' hj' i' hi').trans (q1 j' (by omega) i' hi'), fun i' hi' => (p2 i' hi').trans (q1 j c1 i' (by omega)), ?_⟩
    have := q1 j c1 i hi
    omega
  · subst c1
    rcases Nat.lt_trichotomy i i2 with e | e | e
    · refine ⟨j, hj, i, hi, fun j' hj' i' hi' => (p1 j' hj' i' hi').trans (q1 j' hj' i' hi'), fun i' hi' => (p2 i' hi').trans (q2 i' (by omega)), ?_⟩
      have := q2 i e
      omega
    · subst e
      exact ⟨j, hj, i, hi, fun j' hj' i' hi' => (p1 j' hj' i' hi').trans (q1 j' hj' i' hi'), fun i' hi' => (p2 i' hi').trans (q2 i' hi'), by omega⟩
    · refine ⟨j, hj, i2, hi2, fun j' hj' i' hi' => (p1 j' hj' i' hi').trans (q1 j' hj' i' hi'), fun i' hi' => (p2 i' (by omega)).trans (q2 i' hi'), ?_⟩
      have := p2 i2 e
      omega
  · refine ⟨j2, hj2, i2, hi2, fun j' hj' i' hi' => (p1 j' (by omega) i' hi').trans (q1 j' hj' i' hi'), fun i' hi' => (p1 j2 c1 i' (by omega)).trans (q2 i' hi'), ?_⟩
    have := p1 j2 c1 i2 hi2
    omega
theorem lex_tl {a b c : Nat → Nat → Nat} (h : teq n k a b) (g : lex n k b c) : lex n k a c := by
  obtain ⟨j, hj, i, hi, p1, p2, w⟩ := g
  refine ⟨j, hj, i, hi, fun j' hj' i' hi' => (h j' (by omega) i' hi').trans (p1 j' hj' i' hi'), fun i' hi' => (h j hj i' (by omega)).trans (p2 i' hi'), ?_⟩
  have := h j hj i hi
  omega
theorem fnd_min : ∀ s r, r < s → ¬ lex n k (rn n t k r) (fnd n k t s).1
  | 0, _, h => absurd h (by omega)
  | s + 1, r, hr => by
    by_cases e : s = 0
    · subst e
      rw [fnd_1]
      have : r = 0 := by omega
      subst this
      exact fun w => lex_as w w
    · have ih := fnd_min s
      rcases lex_or n k (rn n t k s) (fnd n k t s).1 with w | w | w
      · rw [fnd_eq (by omega) w]
        intro q
        by_cases e2 : r = s
        · subst e2; exact lex_ne q w
        · exact ih r (by omega) q
      · rw [fnd_lt (by omega) w]
        intro q
        by_cases e2 : r = s
        · subst e2; exact lex_as q q
        · exact ih r (by omega) (lex_tr q w)
      · rw [fnd_gt (by omega) w]
        intro q
        by_cases e2 : r = s
        · subst e2; exact lex_as q w
        · exact ih r (by omega) q
/-- from how many sheets: those whose name is the least one -/
theorem fnd_cn : ∀ s, 1 ≤ s → ∀ p : Nat → Bool, (∀ r, r < s → (p r = true ↔ teq n k (rn n t k r) (fnd n k t s).1)) → (fnd n k t s).2 = cn p s
  | 0, h, _, _ => absurd h (by decide)
  | s + 1, _, p, hp => by
    by_cases e : s = 0
    · subst e
      rw [fnd_1] at hp ⊢
      have h0 : p 0 = true := (hp 0 (by decide)).mpr (teq.rf _)
      rw [cn_succ, if_pos h0]
      rfl
    · have ih := fnd_cn s (by omega) p
      rcases lex_or n k (rn n t k s) (fnd n k t s).1 with w | w | w
      · rw [fnd_eq (by omega) w] at hp ⊢
        have h0 : p s = true := (hp s (by omega)).mpr w
        rw [cn_succ, if_pos h0, ← ih (fun r hr => hp r (by omega))]
      · rw [fnd_lt (by omega) w] at hp ⊢
        have h0 : p s = true := (hp s (by omega)).mpr (teq.rf _)
        rw [cn_succ, if_pos h0]
        have : cn p s = cn p 0 := cn_false (Nat.zero_le _) (fun i _ hi => by
          have := hp i (by omega)
          cases hpi : p i with
          | false => rfl
          | true => exact absurd (lex_tl (this.mp hpi) w) (fnd_min s i hi))
        rw [this]
        rfl
      · rw [fnd_gt (by omega) w] at hp ⊢
        have h0 : ¬ p s = true := fun q => lex_ne w ((hp s (by omega)).mp q).sy
        rw [cn_succ, if_neg h0, ← ih (fun r hr => hp r (by omega))]
        rfl
/-! what leads a cover onto itself -/
def aut (n k : Nat) (t : Nat → Nat → Nat) (g : Nat → Nat) : Prop := pm n g ∧ ∀ j, j < k → ∀ z, z < n → t j (g z) = g (t j z)
/-- one numbering is the other's image -/
def bE (n : Nat) (g : Nat → Nat) (q q' : bS) : Prop := q'.2.2.1 = q.2.2.1 ∧ (∀ i, i < q.2.2.1 → q'.2.1 i = g (q.2.1 i)) ∧ (∀ z, z < n → q'.2.2.2 (g z) = q.2.2.2 z) ∧ ∀ z, z < n → q'.1 (g z) = q.1 z
theorem bE_0 {g : Nat → Nat} {s : Nat} (hg : pm n g) (hs : s < n) : bE n g (b0 s) (b0 (g s)) := by
  refine ⟨rfl, fun i hi => ?_, fun z hz => ?_, fun z _ => rfl⟩
  · have hi : i < 1 := hi
    have : i = 0 := by omega
    subst this
    show un (fun _ => 0) 0 (g s) 0 = g (un (fun _ => 0) 0 s 0)
    rw [un_s, un_s]
  · show vs (fun _ => false) (g s) (g z) = vs (fun _ => false) s z
    by_cases w : z = s
    · subst w; simp [vs]
    · have : g z ≠ g s := fun e => w (hg.2 _ _ hz hs e)
      simp [vs, w, this]
theorem bE_1 {g : Nat → Nat} {led : Nat} {q q' : bS} (hg : pm n g) (hl : led < n) (h : bE n g q q') : bE n g (b1 led q) (b1 (g led) q') := by
  obtain ⟨h1, h2, h3, h4⟩ := h
  unfold b1
  by_cases w : q.2.2.2 led = true
  · rw [if_pos w, if_pos (by rw [h3 led hl]; exact w)]
    exact ⟨h1, h2, h3, h4⟩
  · rw [if_neg w, if_neg (by rw [h3 led hl]; exact w)]
    refine ⟨by show q'.2.2.1 + 1 = q.2.2.1 + 1; omega, fun i hi => ?_, fun z hz => ?_, fun z hz => ?_⟩
    · have hi : i < q.2.2.1 + 1 := hi
      show un q'.2.1 q'.2.2.1 (g led) i = g (un q.2.1 q.2.2.1 led i)
      rw [h1]
      by_cases e : i = q.2.2.1
      · rw [e, un_s, un_s]
      · rw [un_n _ _ e, un_n _ _ e]
        exact h2 i (by omega)
    · show vs q'.2.2.2 (g led) (g z) = vs q.2.2.2 led z
      by_cases e : z = led
      · subst e; simp [vs]
      · have : g z ≠ g led := fun q => e (hg.2 _ _ hz hl q)
        simp [vs, e, this, h3 z hz]
    · show un q'.1 (g led) q'.2.2.1 (g z) = un q.1 led q.2.2.1 z
      by_cases e : z = led
      · rw [e, un_s, un_s, h1]
      · rw [un_n _ _ e, un_n _ _ (fun q => e (hg.2 _ _ hz hl q))]
        exact h4 z hz
theorem bE_j {g : Nat → Nat} {old : Nat} {q q' : bS} (hg : aut n k t g) (ht : ∀ j, j < k → ∀ i, i < n → t j i < n) (ho : old < n) (h : bE n g q q') : ∀ j, j ≤ k → bE n g (bj t old j q) (bj t (g old) j q')
  | 0, _ => h
  | j + 1, hj => by
    show bE n g (b1 (t j old) (bj t old j q)) (b1 (t j (g old)) (bj t (g old) j q'))
    rw [hg.2 j (by omega) old ho]
    exact bE_1 hg.1 (ht j (by omega) old ho) (bE_j hg ht ho h j (by omega))
theorem bE_x {g : Nat → Nat} {s : Nat} (hg : aut n k t g) (ht : ∀ j, j < k → ∀ i, i < n → t j i < n) (hs : s < n) : ∀ x, bE n g (bx t k s x) (bx t k (g s) x)
  | 0 => bE_0 hg.1 hs
  | x + 1 => by
    have ih := bE_x hg ht hs x
    have hI := bI_x (k := k) hs ht x
    rcases Nat.lt_or_ge x (bx t k s x).2.2.1 with w | w
    · rw [bx_go w, bx_go (by rw [ih.1]; exact w), ih.2.1 x w]
      exact bE_j hg ht (hI.1 x w).1 ih k (Nat.le_refl _)
    · rw [bx_no w, bx_no (by rw [ih.1]; exact w)]
      exact ih
theorem rn_aut {g : Nat → Nat} {s : Nat} (hg : aut n k t g) (ht : ∀ j, j < k → ∀ i, i < n → t j i < n) (hw : whl n k t) (hs : s < n) : teq n k (rn n t k (g s)) (rn n t k s) := by
  intro j hj i hi
  obtain ⟨h1, h2, h3, h4⟩ := bE_x hg ht hs n
  have hI : bI n (bF n t k s) := bI_x hs ht n
  have hgn : (bF n t k s).2.2.1 = n := hw s hs
  have hO : (bx t k s n).2.1 i < n := (hI.1 i (by omega)).1
  show (bx t k (g s) n).1 (t j ((bx t k (g s) n).2.1 i)) = (bF n t k s).1 (t j ((bF n t k s).2.1 i))
  have hg2 : (bx t k s n).2.2.1 = n := hgn
  rw [h2 i (by omega), hg.2 j hj _ hO]
  exact h4 _ (ht j hj _ hO)
/-- a name's sheets and turns -/
theorem od_t {s j i : Nat} (ht : ∀ j, j < k → ∀ i, i < n → t j i < n) (hw : whl n k t) (hs : s < n) (hj : j < k) (hi : i < n) : t j ((bF n t k s).2.1 i) = (bF n t k s).2.1 (rn n t k s j i) := by
  have hI : bI n (bF n t k s) := bI_x hs ht n
  have hg : (bF n t k s).2.2.1 = n := hw s hs
  have hO := (hI.1 i (by omega)).1
  exact ((hI.2.1 _ (bI_all hI hg _ (ht j hj _ hO))).2.2).symm
theorem od_lt {s i : Nat} (ht : ∀ j, j < k → ∀ i, i < n → t j i < n) (hw : whl n k t) (hs : s < n) (hi : i < n) : (bF n t k s).2.1 i < n := by
  have hI : bI n (bF n t k s) := bI_x hs ht n
  have hg : (bF n t k s).2.2.1 = n := hw s hs
  exact (hI.1 i (by omega)).1
theorem od_0 {s : Nat} (hn : 1 ≤ n) : (bF n t k s).2.1 0 = s := by
  have h := (bL_x (t := t) (k := k) (s := s) 0 n (Nat.zero_le _)).2.1 0 (by show 0 < 1; decide)
  rw [show (bF n t k s).2.1 0 = (bx t k s n).2.1 0 from rfl, h]
  exact un_s (fun _ => 0) 0 s
theorem od_aut {s s' : Nat} (ht : ∀ j, j < k → ∀ i, i < n → t j i < n) (hw : whl n k t) (hs : s < n) (hs' : s' < n) (h : teq n k (rn n t k s) (rn n t k s')) : aut n k t (fun z => (bF n t k s').2.1 ((bF n t k s).1 z)) := by
  have hI : bI n (bF n t k s) := bI_x hs ht n
  have hg : (bF n t k s).2.2.1 = n := hw s hs
  have hI' : bI n (bF n t k s') := bI_x hs' ht n
  have hg' : (bF n t k s').2.2.1 = n := hw s' hs'
  have hN : ∀ z, z < n → (bF n t k s).1 z < n ∧ (bF n t k s).2.1 ((bF n t k s).1 z) = z := fun z hz => by
    obtain ⟨-, a1, a2⟩ := hI.2.1 z (bI_all hI hg z hz)
    exact ⟨by omega, a2⟩
  refine ⟨⟨fun z hz => od_lt ht hw hs' (hN z hz).1, fun x y hx hy e => ?_⟩, fun j hj z hz => ?_⟩
  · have e1 := (hI'.1 _ (by rw [hg']; exact (hN x hx).1)).2.2
    have e2 := (hI'.1 _ (by rw [hg']; exact (hN y hy).1)).2.2
    have e3 : (bF n t k s).1 x = (bF n t k s).1 y := by
      rw [← e1, ← e2]
      exact congrArg _ e
    rw [← (hN x hx).2, ← (hN y hy).2, e3]
  · show t j ((bF n t k s').2.1 ((bF n t k s).1 z)) = (bF n t k s').2.1 ((bF n t k s).1 (t j z))
    rw [od_t ht hw hs' hj (hN z hz).1, ← h j hj _ (hN z hz).1]
    show (bF n t k s').2.1 ((bF n t k s).1 (t j ((bF n t k s).2.1 ((bF n t k s).1 z)))) = _
    rw [(hN z hz).2]
theorem od_alk {s s' i : Nat} (ht : ∀ j, j < k → ∀ i, i < n → t j i < n) (hw : whl n k t) (hs : s < n) (hs' : s' < n) (hi : i < n) (h : teq n k (rn n t k s) (rn n t k s')) : teq n k (rn n t k ((bF n t k s).2.1 i)) (rn n t k ((bF n t k s').2.1 i)) := by
  have hI : bI n (bF n t k s) := bI_x hs ht n
  have hg : (bF n t k s).2.2.1 = n := hw s hs
  have h1 := rn_aut (od_aut ht hw hs hs' h) ht hw (od_lt ht hw hs hi)
  have h2 : (bF n t k s').2.1 ((bF n t k s).1 ((bF n t k s).2.1 i)) = (bF n t k s').2.1 i := by rw [(hI.1 i (by omega)).2.2]
  rw [h2] at h1
  exact h1.sy
/-! labels merged along two orders -/
theorem ma_lbi {R : Nat → Nat → Prop} {p q f : Nat → Nat} (rs : ∀ {x y}, R x y → R y x) (rt : ∀ {x y z}, R x y → R y z → R x z) (hp : ∀ i, i < n → p i < n) (hq : ∀ i, i < n → q i < n) (hR : ∀ i, i < n → R (p i) (q i)) (hf : lbi n R f) : ∀ x, x ≤ n → lbi n R (ma p q f x) ∧ (∀ i, i < x → ma p q f x (p i) = ma p q f x (q i)) ∧ ∀ y z, f y = f z → ma p q f x y = ma p q f x z
  | 0, _ => ⟨hf, fun i hi => absurd hi (by omega), fun y z e => e⟩
  | x + 1, hx => by
    obtain ⟨h1, h2, h3⟩ := ma_lbi (R := R) rs rt hp hq hR hf x (by omega)
    refine ⟨mg_lbi rs rt h1 (hp x (by omega)) (hq x (by omega)) (hR x (by omega)), fun i hi => ?_, fun y z e => mg_eq (h3 y z e)⟩
    by_cases w : i = x
    · subst w; exact mg_tog
    · exact mg_eq (h2 i (by omega))
/-- groups are led to groups -/
def cpt (n k : Nat) (t : Nat → Nat → Nat) (f : Nat → Nat) : Prop := ∀ j, j < k → ∀ x y, x < n → y < n → f x = f y → f (t j x) = f (t j y)
theorem ma_cpt {R : Nat → Nat → Prop} {p q f : Nat → Nat} {r : Nat → Nat → Nat} (hp : ∀ i, i < n → p i < n) (hq : ∀ i, i < n → q i < n) (hr : ∀ j, j < k → ∀ i, i < n → r j i < n ∧ t j (p i) = p (r j i) ∧ t j (q i) = q (r j i)) (hf : lbi n R f) (hc : cpt n k t f) : cpt n k t (ma p q f n) := by
  have hf0 : lbi n (fun _ _ => True) f := fun x hx => ⟨(hf x hx).1, (hf x hx).2.1, trivial⟩
  obtain ⟨-, h2, h3⟩ := ma_lbi (R := fun _ _ => True) (fun _ => trivial) (fun _ _ => trivial) hp hq (fun _ _ => trivial) hf0 n (Nat.le_refl _)
  intro j hj x y hx hy e
  have key := (ma_lbi (R := fun x y => ma p q f n (t j x) = ma p q f n (t j y)) Eq.symm Eq.trans hp hq (fun i hi => by
    obtain ⟨a1, a2, a3⟩ := hr j hj i hi
    rw [a2, a3]
    exact h2 _ a1) (fun x hx => ⟨(hf x hx).1, (hf x hx).2.1, h3 _ _ (hc j hj x (f x) hx (by have := (hf x hx).1; omega) (hf x hx).2.1.symm)⟩) n (Nat.le_refl _)).1
  have k1 := (key x hx).2.2
  have k2 := (key y hy).2.2
  rw [e] at k1
  exact k1.trans k2.symm
/-! as many in one group as in another -/
theorem cn_lt' {p : Nat → Bool} {x y : Nat} (hx : p x = true) (h : x < y) : cn p x < cn p y := by
  have h1 := cn_mono (p := p) (show x + 1 ≤ y by omega)
  rw [cn_succ, if_pos hx] at h1
  omega
theorem cn_enum {p : Nat → Bool} : ∀ m i, i < cn p m → ∃ x, x < m ∧ p x = true ∧ cn p x = i
  | 0, i, h => absurd h (by show ¬ i < 0; omega)
  | m + 1, i, h => by
    by_cases w : i < cn p m
    · obtain ⟨x, a1, a2, a3⟩ := cn_enum m i w
      exact ⟨x, by omega, a2, a3⟩
    · rw [cn_succ] at h
      by_cases hp : p m = true
      · rw [if_pos hp] at h
        exact ⟨m, by omega, hp, by omega⟩
      · rw [if_neg hp] at h
        omega
theorem cn_into {p q : Nat → Bool} {g : Nat → Nat} (hg : pm n g) (h : ∀ i, i < n → p i = true → q (g i) = true) : cn p n ≤ cn q n := by
  have : ∀ i, ∃ x, i < cn p n → x < n ∧ p x = true ∧ cn p x = i := fun i => by
    by_cases w : i < cn p n
    · obtain ⟨x, hx⟩ := cn_enum n i w
      exact ⟨x, fun _ => hx⟩
    · exact ⟨0, fun q => absurd q w⟩
  obtain ⟨F, hF⟩ := Classical.axiomOfChoice this
  refine inj_le (f := fun i => cn q (g (F i))) (fun i hi => ?_) (fun i j hi hj e => ?_)
  · obtain ⟨a1, a2, -⟩ := hF i hi
    exact cn_lt' (h _ a1 a2) (hg.1 _ a1)
  · obtain ⟨a1, a2, a3⟩ := hF i hi
    obtain ⟨b1, b2, b3⟩ := hF j hj
    have e : cn q (g (F i)) = cn q (g (F j)) := e
    have e2 : g (F i) = g (F j) := by
      rcases Nat.lt_trichotomy (g (F i)) (g (F j)) with w | w | w
      · have := cn_lt' (h _ a1 a2) w; omega
      · exact w
      · have := cn_lt' (h _ b1 b2) w; omega
    have e3 := hg.2 _ _ a1 b1 e2
    rw [← a3, ← b3, e3]
theorem cpt_cn {f : Nat → Nat} {x y : Nat} (hp : ∀ j, j < k → pm n (t j)) (hw : whe n k t) (hc : cpt n k t f) (hx : x < n) (hy : y < n) : cn (fun z => f z == f x) n ≤ cn (fun z => f z == f y) n := by
  refine hw x y hx hy (fun y => y < n → cn (fun z => f z == f x) n ≤ cn (fun z => f z == f y) n) (cl_of hp (fun j hj i hi hP hti => ?_)) (fun _ => Nat.le_refl _) hy
  refine Nat.le_trans (hP hi) (cn_into (hp j hj) (fun z hz q => ?_))
  exact beq_iff_eq.mpr (hc j hj z i hz hi (beq_iff_eq.mp q))
/-- the labels of alike sheets, when the first s sheets have been looked at: s0 is the first with the least name so far -/
def AI (n k : Nat) (t : Nat → Nat → Nat) (s : Nat) (f : Nat → Nat) (s0 : Nat) : Prop := s0 < s ∧ (fnd n k t s).1 = rn n t k s0 ∧ lbi n (fun x y => teq n k (rn n t k x) (rn n t k y)) f ∧ cpt n k t f ∧ ∀ r, r < s → teq n k (rn n t k r) (rn n t k s0) → f r = f s0
section Alike
variable {s s0 : Nat} {f : Nat → Nat}
theorem AI.lt (A : AI n k t s f s0) : ∀ i, i < n → f i < n := fun i hi => by have := (A.2.2.1 i hi).1; omega
theorem AI_1 : AI n k t 1 (fun i => i) 0 := ⟨by decide, by rw [fnd_1], fun x _ => ⟨Nat.le_refl _, rfl, teq.rf _⟩, fun j hj x y hx hy e => by show t j x = t j y; rw [show x = y from e], fun r hr _ => by show r = 0; omega⟩
theorem AI_skip (hs : s < n) (A : AI n k t s f s0) (h : f s ≠ s) : AI n k t (s + 1) f s0 := by
  obtain ⟨h1, h2, h3, h4, h5⟩ := A
  obtain ⟨a1, a2, a3⟩ := h3 s hs
  have hn : ¬ lex n k (rn n t k s) (fnd n k t s).1 := fun w => fnd_min s (f s) (by omega) (lex_tl (teq.sy a3) w)
  have e : (fnd n k t (s + 1)).1 = (fnd n k t s).1 := by
    rcases lex_or n k (rn n t k s) (fnd n k t s).1 with w | w | w
    · rw [fnd_eq (by omega) w]
    · exact absurd w hn
    · rw [fnd_gt (by omega) w]
  refine ⟨by omega, e.trans h2, h3, h4, fun r hr q => ?_⟩
  by_cases w : r = s
  · subst w
    have := h5 (f r) (by omega) (teq.tr (teq.sy a3) q)
    rw [a2] at this
    exact this
  · exact h5 r (by omega) q
theorem AI_gt (A : AI n k t s f s0) (h : lex n k (fnd n k t s).1 (rn n t k s)) : AI n k t (s + 1) f s0 := by
  obtain ⟨h1, h2, h3, h4, h5⟩ := A
  refine ⟨by omega, by rw [fnd_gt (by omega) h]; exact h2, h3, h4, fun r hr q => ?_⟩
  by_cases w : r = s
  · subst w
    rw [h2] at h
    exact absurd q.sy (lex_ne h)
  · exact h5 r (by omega) q
theorem AI_lt (A : AI n k t s f s0) (h : lex n k (rn n t k s) (fnd n k t s).1) : AI n k t (s + 1) f s := by
  obtain ⟨h1, h2, h3, h4, h5⟩ := A
  refine ⟨by omega, by rw [fnd_lt (by omega) h], h3, h4, fun r hr q => ?_⟩
  by_cases w : r = s
  · rw [w]
  · exact absurd (lex_tl q h) (fnd_min s r (by omega))
theorem AI_eq (hs : s < n) (ht : ∀ j, j < k → ∀ i, i < n → t j i < n) (hw : whl n k t) (A : AI n k t s f s0) (h : teq n k (rn n t k s) (fnd n k t s).1) : AI n k t (s + 1) (ma (bF n t k s0).2.1 (bF n t k s).2.1 f n) s0 := by
  obtain ⟨h1, h2, h3, h4, h5⟩ := A
  have hq : teq n k (rn n t k s0) (rn n t k s) := by rw [← h2]; exact h.sy
  have o1 : ∀ i, i < n → (bF n t k s0).2.1 i < n := fun i hi => od_lt ht hw (by omega) hi
  have o2 : ∀ i, i < n → (bF n t k s).2.1 i < n := fun i hi => od_lt ht hw hs hi
  obtain ⟨g1, g2, g3⟩ := ma_lbi (R := fun x y => teq n k (rn n t k x) (rn n t k y)) (fun h => teq.sy h) (fun h g => teq.tr h g) o1 o2 (fun i hi => od_alk ht hw (by omega) hs hi hq) h3 n (Nat.le_refl _)
  refine ⟨by omega, by rw [fnd_eq (by omega) h]; exact h2, g1, ma_cpt (r := rn n t k s0) o1 o2 (fun j hj i hi => ⟨rn_lt (by omega) ht hw j hj i hi, od_t ht hw (by omega) hj hi, ?_⟩) h3 h4, fun r hr q => ?_⟩
  · rw [hq j hj i hi]
    exact od_t ht hw hs hj hi
  · by_cases w : r = s
    · have := g2 0 (by omega)
      rw [od_0 (by omega), od_0 (by omega)] at this
      rw [w]
      exact this.symm
    · exact g3 _ _ (h5 r (by omega) q)
theorem AI_end (hp : ∀ j, j < k → pm n (t j)) (hw : whl n k t) (A : AI n k t n f s0) : cn (fun z => f z == 0) n = (fnd n k t n).2 := by
  obtain ⟨h1, h2, h3, h4, h5⟩ := A
  have h0 : f 0 = 0 := by have := (h3 0 (by omega)).1; omega
  have e1 : cn (fun z => f z == 0) n = cn (fun z => f z == f 0) n := by rw [h0]
  have hwe := whl_whe hp hw
  have e2 : cn (fun z => f z == f 0) n = cn (fun z => f z == f s0) n := Nat.le_antisymm (cpt_cn hp hwe h4 (by omega) h1) (cpt_cn hp hwe h4 h1 (by omega))
  rw [e1, e2]
  refine (fnd_cn n (by omega) _ (fun r hr => ?_)).symm
  rw [beq_iff_eq, h2]
  refine ⟨fun q => ?_, h5 r hr⟩
  have a1 := (h3 r hr).2.2
  have a2 := (h3 s0 h1).2.2
  rw [q] at a1
  exact teq.tr a1 (teq.sy a2)
end Alike
end Parts
section FindEv
variable {d n k a le ta : Nat} {t : Nat → Nat → Nat} {h : mH} {K : Option Value → mH → Prop} {lk : Int32} {nw od : Int64}
/-- a Namer after it found the least name -/
def NL (h : mH) (a le n k : Nat) (t : Nat → Nat → Nat) : Prop := ∃ nw od lf, NO h a le (nI (fnd n k t n).2) nw od ∧ h.1 le = .inl (1, 8, .inr (.inl lf)) ∧ ∀ j, j < k → lf j = PK n ((fnd n k t n).1 j)
theorem find_ev {lf : Nat → Int64} (ha0 : a ≠ 0) (hle0 : le ≠ 0) (hal : le ≠ a) (hat : ta ≠ a) (hlt : ta ≠ le) (hn1 : 1 ≤ n) (hn : n ≤ 12) (hk1 : 1 ≤ k) (hk : k ≤ 8) (hp : ∀ j, j < k → pm n (t j)) (hw : whl n k t) (hT : TA h ta n k t) (o : NO h a le lk nw od) (hle : h.1 le = .inl (1, 8, .inr (.inl lf)))
    (hK : ∀ h', Fr [a, le] h h' → NL h' a le n k t → K none h') : Ev (d + 4) (0, 0) MX3_find [.ref a, .ref ta, .int (nI n)] h K := by
  have ht : ∀ j, j < k → ∀ i, i < n → t j i < n := fun j hj => (hp j hj).1
  refine en_X3_find (bk_X3_find_0 _ _ _ ⟨_, hT.len, fun c => absurd c (lt_f (a := k) (b := 1) (by omega) (by omega)), fun _ => ⟨_, hT.len, _, o.fe, _, len_L hle, fun _ => ?_, fun c => absurd (le_t (b := 8) hk (by omega)) c⟩⟩)
  refine still_ev hn ⟨_, rfl, ?_⟩
  have z0 : ∀ {h' : mH}, Fr [a, le] h h' → h'.1 0 = h.1 0 := fun hF => hF.z (by simp; exact ⟨Ne.symm ha0, Ne.symm hle0⟩)
  -- the name from s is the least one
  have keep : ∀ (s : Nat) (f : Nat → Nat) (g : mH) (lfg : Nat → Int64), s < n → (∀ h' nw od lf, Fr [a, le] h h' → NO h' a le lk nw od → h'.1 le = .inl (1, 8, .inr (.inl lf)) → (∀ j, j < k → lf j = PK n (rn n t k s j)) → Wm (d + 4) (0, 0) JX3_find 28 [some (.ref a), some (.ref ta), some (.int (nI n)), some (.long (PK n f)), none, some (.long (PK n (bF n t k s).2.1)), none, some (.int (nI (s + 1))), none] [] h' (fun r h' => h'.1 0 = h.1 0 ∧ K r h')) → Fr [a, le] h g → TA g ta n k t → NF g a le lk n k t s → g.1 le = .inl (1, 8, .inr (.inl lfg)) →
      Ev (d + 3) (0, 0) MX3_keepAsLeast [.ref a, .ref ta, .int (nI n)] g (fun r18 h19 => r18 = none ∧ (∃ y20 : Int64, m_fld h19 a [3] 3 = some (.long y20) ∧ Wm (d + 4) (0, 0) JX3_find 28 [some (.ref a), some (.ref ta), some (.int (nI n)), some (.long (PK n f)), none, some (.long y20), none, some (.int (nI s + 1)), none] [] h19 (fun r h' => h'.1 0 = h.1 0 ∧ K r h'))) := by
    intro s f g lfg hs cont hFg hTg hNg hlg
    refine keepAsLeast_ev (Ne.symm hal) hle0 hlt hn hk hs ht hw hTg hNg hlg (fun h3 lf3 hF3 hl3 hq3 => ⟨rfl, ?_⟩)
    have o3 : NF h3 a le lk n k t s := hF3.at hNg (by simpa using Ne.symm hal)
    refine ⟨_, NO.fo o3, ?_⟩
    rw [nI_1]
    exact cont h3 _ _ lf3 (hFg.tr (hF3.wk (by simp))) o3 hl3 hq3
  have key : ∀ r s h' nw od lf f s0, s + r = n → Fr [a, le] h h' → NO h' a le lk nw od → h'.1 le = .inl (1, 8, .inr (.inl lf)) → AI n k t s f s0 → (∀ j, j < k → lf j = PK n ((fnd n k t s).1 j)) →
      Wm (d + 4) (0, 0) JX3_find 28 [some (.ref a), some (.ref ta), some (.int (nI n)), some (.long (PK n f)), none, some (.long (PK n (bF n t k s0).2.1)), none, some (.int (nI s)), none] [] h' (fun r h' => h'.1 0 = h.1 0 ∧ K r h') := by
    intro r
    induction r with
    | zero =>
      intro s h' nw od lf f s0 hs hF ho hl A hq
      have hs : s = n := by omega
      subst hs
      have hf := A.lt
      refine bk_X3_find_28 _ _ _ _ _ _ ⟨fun _ => ?_, fun c => absurd (le_t (Nat.le_refl _) (by omega)) c⟩
      refine withFirst_ev hn (fun i hi => by have := hf i hi; omega) ⟨_, rfl, ?_⟩
      rw [AI_end hp hw A]
      obtain ⟨g4, e4, f4, o4⟩ := ho.pk' (x := nI (fnd s k t s).2)
      have F4 : Fr [a, le] h g4 := hF.tr (f4.wk (by simp))
      exact ⟨g4, e4, z0 F4, hK g4 F4 ⟨nw, od, lf, o4, f4.at hl (by simpa using hal), hq⟩⟩
    | succ r ih =>
      intro s h' nw od lf f s0 hs hF ho hl A hq
      have hf := A.lt
      have hsn : s < n := by omega
      have hs1 : 1 ≤ s := by have := A.1; omega
      have hT' := hT.fr hF (by simp; exact ⟨hat, hlt⟩)
      refine bk_X3_find_28 _ _ _ _ _ _ ⟨fun c => absurd c (le_f (by omega) (by omega)), fun _ => ?_⟩
      have hfs := hf s hsn
      refine at_ev hn hsn (fun i hi => by have := hf i hi; omega) ⟨_, rfl, fun c => ?_, fun c => ⟨_, ho, ?_⟩⟩
      · have A2 := AI_skip hsn A (fun e => c (by rw [e]))
        rw [nI_1]
        exact ih (s + 1) h' nw od lf f s0 (by omega) hF ho hl A2 (fun j hj => by rw [A2.2.1, ← A.2.1]; exact hq j hj)
      -- the rows of the least so far
      have hu16 : ∀ j, j < k → ∀ i, i < n → (fnd n k t s).1 j i < 16 := by
        intro j hj i hi
        rw [A.2.1]
        have := rn_lt (s := s0) (by have := A.1; omega) ht hw j hj i hi
        omega
      refine numberFrom_ev (u := (fnd n k t s).1 0) ha0 hal hat hn hk1 hk hsn ht hw hT' ho (Or.inr ⟨hu16 0 (by omega), hq 0 (by omega)⟩) hl (fun h2 hF2 hN2 => ⟨_, rfl, fun _ => ⟨fun _ => ⟨_, hN2, ?_⟩, fun c => absurd c (ne_f (a := s) (b := 0) (by omega) (by omega) (by omega))⟩, fun c => absurd c (by decide)⟩) (fun h2 nw' od' hF2 hN2 hpos hlt2 => ⟨_, rfl, fun c => absurd rfl c, fun _ => ?_⟩)
      · have hFa : Fr [a, le] h h2 := hF.tr (hF2.wk (by simp))
        have hT2 := hT.fr hFa (by simp; exact ⟨hat, hlt⟩)
        have hl2 : h2.1 le = .inl (1, 8, .inr (.inl lf)) := hF2.at hl (by simpa using hal)
        refine againstLeast_ev (u := (fnd n k t s).1) hn hk hsn ht hw hT2 hN2 hl2 hq hu16 (fun heq => ⟨_, rfl, fun _ => ⟨fun c => absurd rfl c, fun _ => ⟨_, NO.fo hN2, ?_⟩⟩, fun c => absurd (by decide) c⟩) (fun hlt2 => ⟨_, rfl, fun c => absurd c (by decide), fun _ => ⟨_, hN2, ?_⟩⟩) (fun hgt => ⟨_, rfl, fun _ => ⟨fun _ => ?_, fun c => absurd c (by decide)⟩, fun c => absurd (by decide) c⟩)
        · refine mergedAlong_ev hn (fun i hi => od_lt ht hw (by have := A.1; omega) hi) (fun i hi => od_lt ht hw hsn hi) hf ⟨_, rfl, ?_⟩
          rw [nI_1]
          exact ih (s + 1) h2 _ _ lf _ s0 (by omega) hFa hN2 hl2 (AI_eq hsn ht hw A heq) (fun j hj => by rw [fnd_eq hs1 heq]; exact hq j hj)
        · refine keep s f h2 lf hsn (fun h3 nw3 od3 lf3 F3 o3 l3 q3 => ih (s + 1) h3 nw3 od3 lf3 f s (by omega) F3 o3 l3 (AI_lt A hlt2) (fun j hj => ?_)) hFa hT2 hN2 hl2
          rw [fnd_lt hs1 hlt2]
          exact q3 j hj
        · rw [nI_1]
          exact ih (s + 1) h2 _ _ lf f s0 (by omega) hFa hN2 hl2 (AI_gt A hgt) (fun j hj => by rw [fnd_gt hs1 hgt]; exact hq j hj)
      · obtain ⟨i, hi, p1, p2⟩ := hlt2
        have hgt : lex n k (fnd n k t s).1 (rn n t k s) := ⟨0, by omega, i, hi, fun j' hj' => absurd hj' (by omega), fun i' hi' => (p1 i' hi').symm, p2⟩
        rw [nI_1]
        exact ih (s + 1) h2 _ _ lf f s0 (by omega) (hF.tr (hF2.wk (by simp))) hN2 (hF2.at hl (by simpa using hal)) (AI_gt A hgt) (fun j hj => by rw [fnd_gt hs1 hgt]; exact hq j hj)
  have start : Wm (d + 4) (0, 0) JX3_find 28 [some (.ref a), some (.ref ta), some (.int (nI n)), some (.long (PK n fun i => i)), none, some (.long 0), none, some (.int (nI 0)), none] [] h (fun r h' => h'.1 0 = h.1 0 ∧ K r h') := by
    refine bk_X3_find_28 _ _ _ _ _ _ ⟨fun c => absurd c (le_f (by omega) (by omega)), fun _ => ?_⟩
    refine at_ev hn (i := 0) (f := fun i => i) (by omega) (fun i hi => by omega) ⟨_, rfl, fun c => absurd rfl c, fun _ => ⟨_, o, ?_⟩⟩
    refine numberFrom_ev (u := fun _ => 0) ha0 hal hat hn hk1 hk (by omega) ht hw hT o (Or.inl rfl) hle (fun h2 hF2 hN2 => ⟨_, rfl, fun _ => ⟨fun c => absurd rfl c, fun _ => ⟨_, hN2, ?_⟩⟩, fun c => absurd c (by decide)⟩) (fun h2 nw' od' hF2 hN2 hpos hlt2 => absurd rfl hpos)
    have hFa : Fr [a, le] h h2 := hF2.wk (by simp)
    have hT2 := hT.fr hFa (by simp; exact ⟨hat, hlt⟩)
    have hl2 : h2.1 le = .inl (1, 8, .inr (.inl lf)) := hF2.at hle (by simpa using hal)
    refine keep 0 (fun i => i) h2 lf (by omega) (fun h3 nw3 od3 lf3 F3 o3 l3 q3 => key (n - 1) 1 h3 nw3 od3 lf3 (fun i => i) 0 (by omega) F3 o3 l3 AI_1 (fun j hj => ?_)) hFa hT2 hN2 hl2
    rw [fnd_1]
    exact q3 j hj
  exact start
end FindEv

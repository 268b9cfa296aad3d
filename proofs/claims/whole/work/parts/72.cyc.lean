/-! rounds of an order: their lengths -/
section Cyc
variable {n : Nat} {p : Nat → Nat}
def po (v : Nat → Bool) (p : Nat → Nat) (x : Nat) : Nat → (Nat → Bool)
  | 0 => v
  | i + 1 => vs (po v p x i) (Nat.repeat p i x)
theorem vs_iff {v : Nat → Bool} {y z : Nat} : vs v y z = true ↔ z = y ∨ v z = true := by
  unfold vs
  by_cases e : z = y
  · simp [e]
  · simp [e]
theorem po_iff {v : Nat → Bool} {x : Nat} : ∀ i z, po v p x i z = true ↔ v z = true ∨ ∃ j, j < i ∧ z = Nat.repeat p j x
  | 0, z => ⟨fun q => Or.inl q, fun q => q.elim id (fun ⟨j, hj, _⟩ => absurd hj (by omega))⟩
  | i + 1, z => by
    show vs _ _ z = true ↔ _
    rw [vs_iff, po_iff i z]
    constructor
    · rintro (q | q | ⟨j, hj, e⟩)
      · exact Or.inr ⟨i, by omega, q⟩
      · exact Or.inl q
      · exact Or.inr ⟨j, by omega, e⟩
    · rintro (q | ⟨j, hj, e⟩)
      · exact Or.inr (Or.inl q)
      · by_cases w : j = i
        · rw [w] at e
          exact Or.inl e
        · exact Or.inr (Or.inr ⟨j, by omega, e⟩)
theorem cn_vs {v : Nat → Bool} {y : Nat} (hv : ¬ v y = true) : ∀ m, cn (vs v y) m = cn v m + (if y < m then 1 else 0)
  | 0 => rfl
  | m + 1 => by
    rw [cn_succ, cn_succ, cn_vs hv m]
    by_cases e : m = y
    · subst e
      have h1 : vs v m m = true := vs_iff.mpr (Or.inl rfl)
      rw [if_pos h1, if_neg hv, if_neg (by omega), if_pos (by omega)]
    · have h1 : vs v y m = v m := by simp [vs, e]
      rw [h1]
      by_cases w : y < m
      · rw [if_pos w, if_pos (show y < m + 1 by omega)]; omega
      · rw [if_neg w, if_neg (show ¬ y < m + 1 by omega)]; omega
theorem rp_per (hp : pm n p) {x : Nat} (hx : x < n) : ∃ l, 1 ≤ l ∧ l ≤ n ∧ Nat.repeat p l x = x ∧ ∀ i j, i < l → j < l → Nat.repeat p i x = Nat.repeat p j x → i = j := by
  obtain ⟨m, h1, h2⟩ := rp_back hp hx
  obtain ⟨l, ⟨l1, l2⟩, l3⟩ := pk_least (fun l => 1 ≤ l ∧ Nat.repeat p l x = x) ⟨m, h1, h2⟩
  have inj : ∀ i j, i < j → j < l → Nat.repeat p i x = Nat.repeat p j x → False := by
    intro i j hij hj e
    refine l3 (j - i) (by omega) ⟨by omega, ?_⟩
    apply rp_inj hp i _ _ (rp_lt hp _ x hx) hx
    rw [rp_add, show i + (j - i) = j by omega]
    exact e.symm
  have inj2 : ∀ i j, i < l → j < l → Nat.repeat p i x = Nat.repeat p j x → i = j := by
    intro i j hi hj e
    rcases Nat.lt_trichotomy i j with w | w | w
    · exact (inj i j w hj e).elim
    · exact w
    · exact (inj j i w hi e.symm).elim
  exact ⟨l, l1, inj_le (f := fun i => Nat.repeat p i x) (fun i _ => rp_lt hp i x hx) inj2, l2, inj2⟩
/-- a walk from a sheet that is not met yet goes once round -/
theorem wk_po (hp : pm n p) {v : Nat → Bool} {x l : Nat} (hx : x < n) (hv : ¬ v x = true) (hc : ∀ z, z < n → (v z = true ↔ v (p z) = true)) (l1 : 1 ≤ l) (l2 : Nat.repeat p l x = x) (l3 : ∀ i j, i < l → j < l → Nat.repeat p i x = Nat.repeat p j x → i = j) : ∀ s i, l ≤ i + s → i ≤ l → wk p s (po v p x i) (Nat.repeat p i x) = (l - i, po v p x l)
  | 0, i, h1, h2 => by
    have e : i = l := by omega
    subst e
    show (0, po v p x i) = _
    rw [Nat.sub_self]
  | s + 1, i, h1, h2 => by
    have vr : ∀ i, ¬ v (Nat.repeat p i x) = true := by
      intro i
      induction i with
      | zero => exact hv
      | succ i ih => exact fun q => ih ((hc _ (rp_lt hp i x hx)).mpr q)
    by_cases e : i = l
    · subst e
      have : po v p x i (Nat.repeat p i x) = true := (po_iff i _).mpr (Or.inr ⟨0, by omega, l2⟩)
      rw [wk_t p s this, Nat.sub_self]
    · have : ¬ po v p x i (Nat.repeat p i x) = true := by
        rw [po_iff]
        rintro (q | ⟨j, hj, q⟩)
        · exact vr i q
        · have := l3 i j (by omega) (by omega) q
          omega
      rw [wk_f p s this]
      have ih := wk_po hp hx hv hc l1 l2 l3 s (i + 1) (by omega) (by omega)
      have ih : wk p s (vs (po v p x i) (Nat.repeat p i x)) (p (Nat.repeat p i x)) = (l - (i + 1), po v p x l) := ih
      rw [ih]
      show (l - (i + 1) + 1, po v p x l) = _
      rw [show l - (i + 1) + 1 = l - i by omega]
theorem cyc_I (hp : pm n p) : ∀ x, x ≤ n → (∀ z, cyv p n x z = true → z < n) ∧ (∀ z, z < n → (cyv p n x z = true ↔ cyv p n x (p z) = true)) ∧ (∀ z, z < x → cyv p n x z = true) ∧ cn (cyv p n x) n = (cyl p n x).sum ∧ (∀ l, l ∈ cyl p n x → 1 ≤ l ∧ l ≤ n) ∧ ((∀ l, l ∈ cyl p n x → l = 2) ↔ ∀ z, cyv p n x z = true → p z ≠ z ∧ p (p z) = z)
  | 0, _ => by
    refine ⟨fun z q => absurd q (by simp [cyv]), fun z _ => by simp [cyv], fun z q => absurd q (by omega), ?_, fun l q => absurd q (by simp [cyl]), fun _ z q => absurd q (by simp [cyv]), fun _ l q => absurd q (by simp [cyl])⟩
    show cn (fun _ => false) n = 0
    have : cn (fun _ => false) n = cn (fun _ => false) 0 := cn_false (Nat.zero_le _) (fun _ _ _ => rfl)
    exact this
  | x + 1, hx => by
    obtain ⟨a1, a2, a3, a4, a5, a6⟩ := cyc_I hp x (by omega)
    have hxn : x < n := by omega
    have en : ∃ s, n = s + 1 := ⟨n - 1, by omega⟩
    by_cases w : cyv p n x x = true
    · have e : wk p n (cyv p n x) x = (0, cyv p n x) := by
        obtain ⟨s, hs⟩ := en
        have := wk_t p s w
        rw [← hs] at this
        exact this
      have e1 : cyv p n (x + 1) = cyv p n x := by show (wk p n (cyv p n x) x).2 = _; rw [e]
      have e2 : cyl p n (x + 1) = cyl p n x := by
        show (if (wk p n (cyv p n x) x).1 = 0 then _ else _) = _
        rw [e]
        rfl
      rw [e1, e2]
      refine ⟨a1, a2, fun z hz => ?_, a4, a5, a6⟩
      by_cases q : z = x
      · rw [q]; exact w
      · exact a3 z (by omega)
    · obtain ⟨l, l1, ln, l2, l3⟩ := rp_per hp hxn
      have e : wk p n (cyv p n x) x = (l, po (cyv p n x) p x l) := wk_po hp hxn w a2 l1 l2 l3 n 0 (by omega) (by omega)
      have e1 : cyv p n (x + 1) = po (cyv p n x) p x l := by show (wk p n (cyv p n x) x).2 = _; rw [e]
      have e2 : cyl p n (x + 1) = cyl p n x ++ [l] := by
        show (if (wk p n (cyv p n x) x).1 = 0 then _ else _) = _
        rw [e]
        exact if_neg (show ¬ l = 0 by omega)
      rw [e1, e2]
      have vr : ∀ i, ¬ cyv p n x (Nat.repeat p i x) = true := by
        intro i
        induction i with
        | zero => exact w
        | succ i ih => exact fun q => ih ((a2 _ (rp_lt hp i x hxn)).mpr q)
      have sz : ∀ i, i ≤ l → cn (po (cyv p n x) p x i) n = (cyl p n x).sum + i := by
        intro i
        induction i with
        | zero => intro _; exact a4
        | succ i ih =>
          intro hi
          show cn (vs _ _) n = _
          rw [cn_vs, ih (by omega), if_pos (rp_lt hp i x hxn)]
          · omega
          · rw [po_iff]
            rintro (q | ⟨j, hj, q⟩)
            · exact vr i q
            · have := l3 i j (by omega) (by omega) q
              omega
      have pq : ∀ i, (p (Nat.repeat p i x) = Nat.repeat p i x ↔ p x = x) ∧ (p (p (Nat.repeat p i x)) = Nat.repeat p i x ↔ p (p x) = x) := by
        intro i
        have c1 : p (Nat.repeat p i x) = Nat.repeat p i (p x) := by
          have q1 := rp_add (p := p) i 1 x
          have q2 : Nat.repeat p 1 x = p x := rfl
          rw [q2] at q1
          rw [q1]
          rfl
        have c2 : p (p (Nat.repeat p i x)) = Nat.repeat p i (p (p x)) := by
          have q1 := rp_add (p := p) i 2 x
          have q2 : Nat.repeat p 2 x = p (p x) := rfl
          rw [q2] at q1
          rw [q1]
          rfl
        have x1 := hp.1 x hxn
        have x2 := hp.1 _ x1
        refine ⟨⟨fun q => ?_, fun q => ?_⟩, ⟨fun q => ?_, fun q => ?_⟩⟩
        · rw [c1] at q
          exact rp_inj hp i _ _ x1 hxn q
        · rw [c1, q]
        · rw [c2] at q
          exact rp_inj hp i _ _ x2 hxn q
        · rw [c2, q]
      have l2' : l = 2 ↔ p x ≠ x ∧ p (p x) = x := by
        constructor
        · intro q
          subst q
          exact ⟨fun z => absurd (l3 1 0 (by omega) (by omega) z) (by omega), l2⟩
        · rintro ⟨q1, q2⟩
          rcases (show l = 1 ∨ l = 2 ∨ 2 < l by omega) with z | z | z
          · subst z; exact absurd l2 q1
          · exact z
          · exact absurd (l3 2 0 z (by omega) q2) (by omega)
      refine ⟨fun z q => ?_, fun z hz => ?_, fun z hz => ?_, ?_, fun m hm => ?_, ?_⟩
      · rcases (po_iff l z).mp q with q | ⟨j, hj, q⟩
        · exact a1 z q
        · rw [q]; exact rp_lt hp j x hxn
      · rw [po_iff, po_iff]
        constructor
        · rintro (q | ⟨j, hj, q⟩)
          · exact Or.inl ((a2 z hz).mp q)
          · right
            by_cases e : j + 1 = l
            · refine ⟨0, by omega, ?_⟩
              rw [q]
              show Nat.repeat p (j + 1) x = x
              rw [e]
              exact l2
            · exact ⟨j + 1, by omega, by rw [q]; rfl⟩
        · rintro (q | ⟨j, hj, q⟩)
          · exact Or.inl ((a2 z hz).mpr q)
          · right
            match j, hj, q with
            | 0, hj, q =>
              refine ⟨l - 1, by omega, hp.2 _ _ hz (rp_lt hp _ x hxn) ?_⟩
              have : p (Nat.repeat p (l - 1) x) = Nat.repeat p (l - 1 + 1) x := rfl
              rw [this, show l - 1 + 1 = l by omega, l2]
              exact q
            | j + 1, hj, q => exact ⟨j, by omega, hp.2 _ _ hz (rp_lt hp _ x hxn) q⟩
      · by_cases q : z = x
        · rw [q]
          exact (po_iff l x).mpr (Or.inr ⟨0, by omega, rfl⟩)
        · exact (po_iff l z).mpr (Or.inl (a3 z (by omega)))
      · rw [sz l (Nat.le_refl _)]
        simp
      · rcases List.mem_append.mp hm with q | q
        · exact a5 m q
        · have := List.mem_singleton.mp q
          omega
      · constructor
        · intro q z hz
          rcases (po_iff l z).mp hz with hz | ⟨j, hj, hz⟩
          · exact a6.mp (fun m hm => q m (List.mem_append_left _ hm)) z hz
          · have := l2'.mp (q l (by simp))
            rw [hz]
            exact ⟨fun e => this.1 ((pq j).1.mp e), (pq j).2.mpr this.2⟩
        · intro q m hm
          rcases List.mem_append.mp hm with hm | hm
          · exact a6.mpr (fun z hz => q z ((po_iff l z).mpr (Or.inl hz))) m hm
          · rw [List.mem_singleton.mp hm]
            exact l2'.mpr (q x ((po_iff l x).mpr (Or.inr ⟨0, by omega, rfl⟩)))
theorem cn_all {v : Nat → Bool} : ∀ m, (∀ i, i < m → v i = true) → cn v m = m
  | 0, _ => rfl
  | m + 1, h => by rw [cn_succ, cn_all m (fun i hi => h i (by omega)), if_pos (h m (by omega))]
theorem cyl_sum (hp : pm n p) : (cyl p n n).sum = n := by
  obtain ⟨-, -, a3, a4, -, -⟩ := cyc_I hp n (Nat.le_refl _)
  rw [← a4]
  exact cn_all n a3
theorem cyl_el (hp : pm n p) : ∀ l, l ∈ cyl p n n → 1 ≤ l ∧ l ≤ n := (cyc_I hp n (Nat.le_refl _)).2.2.2.2.1
theorem cyl_two (hp : pm n p) : (∀ l, l ∈ cyl p n n → l = 2) ↔ ∀ z, z < n → p z ≠ z ∧ p (p z) = z := by
  obtain ⟨a1, -, a3, -, -, a6⟩ := cyc_I hp n (Nat.le_refl _)
  rw [a6]
  exact ⟨fun q z hz => q z (a3 z hz), fun q z hz => q z (a1 z hz)⟩
end Cyc
-- rows of lengths
theorem sm_congr {c e : Nat → Nat} : ∀ k, (∀ l, 1 ≤ l → l ≤ k → c l = e l) → sm c k = sm e k
  | 0, _ => rfl
  | k + 1, h => by unfold sm; rw [sm_congr k (fun l h1 h2 => h l h1 (by omega)), h (k + 1) (by omega) (by omega)]
theorem sm_add {c e : Nat → Nat} : ∀ k, sm (fun l => c l + e l) k = sm c k + sm e k
  | 0 => rfl
  | k + 1 => by unfold sm; rw [sm_add k]; omega
theorem sm_o1 : ∀ a, a < 13 → 1 ≤ a → sm (o1 a) 12 = 1 := by decide
theorem sm_exc : ∀ n, n < 13 → 2 ≤ n → sm (exc n) 12 = n - 1 := by decide
theorem ct_cons (a : Nat) (L : List Nat) (l : Nat) : ct (a :: L) l = ct L l + o1 a l := by
  unfold ct o1
  rw [List.count_cons]
  by_cases e : l = a
  · subst e; simp
  · simp [e, Ne.symm e]
theorem len_sm : ∀ (L : List Nat), (∀ l, l ∈ L → 1 ≤ l ∧ l ≤ 12) → L.length = sm (ct L) 12
  | [], _ => by decide
  | a :: L, h => by
    have h1 := h a (by simp)
    have ih := len_sm L (fun l hl => h l (by simp [hl]))
    have e : sm (ct (a :: L)) 12 = sm (fun l => ct L l + o1 a l) 12 := sm_congr 12 (fun l _ _ => ct_cons a L l)
    rw [e, sm_add, sm_o1 a (by omega) h1.1, ← ih]
    rfl
theorem sum_ge : ∀ (L : List Nat), (∀ l, l ∈ L → 1 ≤ l) → L.length ≤ L.sum
  | [], _ => Nat.le_refl _
  | a :: L, h => by
    have := sum_ge L (fun l hl => h l (by simp [hl]))
    have := h a (by simp)
    simp only [List.length_cons, List.sum_cons]
    omega
theorem ones_ct : ∀ (L : List Nat), (∀ l, l ∈ L → 1 ≤ l) → L.sum = L.length → ∀ l, ct L l = L.length * o1 1 l
  | [], _, _, l => by simp [ct]
  | a :: L, h, hs, l => by
    have g := sum_ge L (fun l hl => h l (by simp [hl]))
    have h1 := h a (by simp)
    simp only [List.length_cons, List.sum_cons] at hs ⊢
    have ha : a = 1 := by omega
    rw [ct_cons, ones_ct L (fun l hl => h l (by simp [hl])) (by omega) l, ha, Nat.add_mul, Nat.one_mul]
theorem one2_ct : ∀ (L : List Nat), (∀ l, l ∈ L → 1 ≤ l) → L.sum = L.length + 1 → ∀ l, ct L l = o1 2 l + (L.length - 1) * o1 1 l
  | [], _, hs, l => by simp at hs
  | a :: L, h, hs, l => by
    have hL : ∀ l, l ∈ L → 1 ≤ l := fun l hl => h l (by simp [hl])
    have g := sum_ge L hL
    have h1 := h a (by simp)
    simp only [List.length_cons, List.sum_cons] at hs ⊢
    rw [ct_cons]
    by_cases ha : a = 1
    · have hs' : L.sum = L.length + 1 := by omega
      rw [one2_ct L hL hs' l, ha]
      have : 1 ≤ L.length := by
        rcases Nat.eq_zero_or_pos L.length with w | w
        · have : L = [] := List.length_eq_zero_iff.mp w
          subst this
          simp at hs'
        · exact w
      have e : L.length + 1 - 1 = (L.length - 1) + 1 := by omega
      rw [e, Nat.add_mul, Nat.one_mul]
      omega
    · have ha : a = 2 := by omega
      rw [ones_ct L hL (by omega) l, ha, show L.length + 1 - 1 = L.length by omega]
      omega
section Kds
variable {n : Nat} {L : List Nat}
theorem kd_one (h1 : 1 ≤ n) (hn : n ≤ 12) (hL : ∀ l, l ∈ L → 1 ≤ l ∧ l ≤ n) (hs : L.sum = n) : L.length = 1 ↔ eqB (ct L) (o1 n) = true := by
  rw [eqB_iff]
  constructor
  · intro q l _ _
    obtain ⟨a, e⟩ := List.length_eq_one_iff.mp q
    subst e
    have : a = n := by simpa using hs
    subst this
    rw [ct_cons]
    show 0 + _ = _
    omega
  · intro q
    rw [len_sm L (fun l hl => by have := hL l hl; omega), sm_congr 12 q, sm_o1 n (by omega) h1]
theorem kd_exc (h2 : 2 ≤ n) (hn : n ≤ 12) (hL : ∀ l, l ∈ L → 1 ≤ l ∧ l ≤ n) (hs : L.sum = n) : L.length = n - 1 ↔ eqB (ct L) (exc n) = true := by
  rw [eqB_iff]
  constructor
  · intro q l _ _
    rw [one2_ct L (fun l hl => (hL l hl).1) (by omega) l, q]
    unfold exc
    rw [show n - 1 - 1 = n - 2 by omega]
  · intro q
    rw [len_sm L (fun l hl => by have := hL l hl; omega), sm_congr 12 q, sm_exc n (by omega) h2]
theorem twos_ct : ∀ (L : List Nat), (∀ l, l ∈ L → l = 2) → L.sum = 2 * L.length ∧ ∀ l, ct L l = L.length * o1 2 l
  | [], _ => ⟨rfl, fun l => by simp [ct]⟩
  | a :: L, h => by
    obtain ⟨g1, g2⟩ := twos_ct L (fun l hl => h l (by simp [hl]))
    have ha := h a (by simp)
    subst ha
    refine ⟨by simp only [List.length_cons, List.sum_cons]; omega, fun l => ?_⟩
    rw [ct_cons, g2 l, List.length_cons, Nat.add_mul, Nat.one_mul]
theorem kd_two (hn : n ≤ 12) (hL : ∀ l, l ∈ L → 1 ≤ l ∧ l ≤ n) (hs : L.sum = n) : (∀ l, l ∈ L → l = 2) ↔ (n % 2 = 0 ∧ eqB (ct L) (prs n) = true) := by
  rw [eqB_iff]
  constructor
  · intro q
    obtain ⟨g1, g2⟩ := twos_ct L q
    refine ⟨by omega, fun l _ _ => ?_⟩
    rw [g2 l]
    unfold prs
    rw [show n / 2 = L.length by omega]
  · rintro ⟨-, q⟩ l hl
    have h1 := hL l hl
    have h2 : 0 < L.count l := List.count_pos_iff.mpr hl
    have h3 := q l (by omega) (by omega)
    apply Classical.byContradiction
    intro w
    have h4 : prs n l = 0 := by unfold prs o1; rw [if_neg w]; simp
    rw [h4] at h3
    unfold ct at h3
    omega
end Kds
-- the longest first
def srd (S : Nat → Nat) (L : List Nat) : Prop := (∀ i j, i ≤ j → j < L.length → S j ≤ S i) ∧ ∀ v, cn (fun i => S i == v) L.length = ct L v
def insf (S : Nat → Nat) (k l : Nat) : Nat → Nat := fun i => if i < k then S i else if i = k then l else S (i - 1)
theorem cn_insf {S : Nat → Nat} {k l v : Nat} : ∀ m, k ≤ m → cn (fun i => insf S k l i == v) (m + 1) = cn (fun i => S i == v) m + (if l = v then 1 else 0)
  | m, hm => by
    by_cases e : m = k
    · subst e
      rw [cn_succ]
      have : cn (fun i => insf S m l i == v) m = cn (fun i => S i == v) m := cn_congr (fun i hi => by simp [insf, hi])
      rw [this]
      simp [insf]
    · match m, hm, e with
      | 0, hm, e => omega
      | m + 1, hm, e =>
        rw [cn_succ, cn_insf m (by omega), cn_succ (fun i => S i == v)]
        have : insf S k l (m + 1) = S m := by
          unfold insf
          rw [if_neg (by omega), if_neg (by omega)]
          rfl
        rw [this]
        omega
theorem srd_ins {S : Nat → Nat} {L : List Nat} {k l : Nat} (hS : srd S L) (hk : k ≤ L.length) (h1 : ∀ i, i < k → l ≤ S i) (h2 : ∀ i, k ≤ i → i < L.length → S i ≤ l) : srd (insf S k l) (L ++ [l]) := by
  have ln : (L ++ [l]).length = L.length + 1 := by simp
  refine ⟨fun i j hij hj => ?_, fun v => ?_⟩
  · rw [ln] at hj
    unfold insf
    by_cases a : j < k
    · rw [if_pos a, if_pos (by omega)]
      exact hS.1 i j hij (by omega)
    · by_cases b : j = k
      · rw [if_neg a, if_pos b]
        by_cases c : i < k
        · rw [if_pos c]; exact h1 i c
        · rw [if_neg c, if_pos (by omega)]; exact Nat.le_refl _
      · rw [if_neg a, if_neg b]
        by_cases c : i < k
        · rw [if_pos c]; exact hS.1 i (j - 1) (by omega) (by omega)
        · by_cases e : i = k
          · rw [if_neg c, if_pos e]; exact h2 (j - 1) (by omega) (by omega)
          · rw [if_neg c, if_neg e]; exact hS.1 (i - 1) (j - 1) (by omega) (by omega)
  · rw [ln, cn_insf L.length hk, hS.2 v]
    unfold ct
    rw [List.count_append]
    congr 1
    simp [List.count_cons]
theorem cn_pre {p : Nat → Bool} {C : Nat} (h : ∀ i j, i ≤ j → j < C → p j = true → p i = true) {j : Nat} (hj : j < C) : j < cn p C ↔ p j = true := by
  constructor
  · intro q
    apply Classical.byContradiction
    intro w
    have : cn p C = cn p j := cn_false (by omega) (fun i h1 h2 => by
      cases e : p i
      · rfl
      · exact absurd (h j i h1 h2 e) w)
    have := cn_le p j
    omega
  · intro q
    have e : cn p (j + 1) = j + 1 := cn_all (j + 1) (fun i hi => h i j (by omega) hj q)
    have := cn_mono (p := p) (show j + 1 ≤ C by omega)
    omega
theorem cn_hit {p : Nat → Bool} {C i : Nat} (hi : i < C) (h : p i = true) : 0 < cn p C := by
  have h1 : cn p (i + 1) ≤ cn p C := cn_mono (by omega)
  rw [cn_succ, if_pos h] at h1
  omega
theorem srd_mem {S : Nat → Nat} {L : List Nat} (hS : srd S L) {i : Nat} (hi : i < L.length) : S i ∈ L := by
  apply List.count_pos_iff.mp
  have := hS.2 (S i)
  have h2 : 0 < cn (fun i' => S i' == S i) L.length := cn_hit hi (by simp)
  unfold ct at this
  omega
theorem laR_srd {S : Nat → Nat} {L : List Nat} (hS : srd S L) (hL : ∀ l, l ∈ L → 1 ≤ l ∧ l ≤ 12) (j : Nat) : laR (ct L) j 12 = if j < L.length then nI (S j) else -1000000 := by
  have hb : ∀ i, i < L.length → 1 ≤ S i ∧ S i ≤ 12 := fun i hi => hL _ (srd_mem hS hi)
  have hga : ∀ m, m ≤ 12 → ga (ct L) m = cn (fun i => decide (12 - m < S i)) L.length := by
    intro m
    induction m with
    | zero =>
      intro _
      have : cn (fun i => decide (12 - 0 < S i)) L.length = cn (fun i => decide (12 - 0 < S i)) 0 := cn_false (Nat.zero_le _) (fun i _ hi => by
        have := hb i hi
        simp only [decide_eq_false_iff_not]
        omega)
      rw [this]
      rfl
    | succ m ih =>
      intro hm
      unfold ga
      rw [ih (by omega), ← hS.2 (12 - m)]
      have key : ∀ C, cn (fun i => decide (12 - m < S i)) C + cn (fun i => S i == 12 - m) C = cn (fun i => decide (12 - (m + 1) < S i)) C := by
        intro C
        induction C with
        | zero => rfl
        | succ C ihC =>
          rw [cn_succ, cn_succ, cn_succ, ← ihC]
          simp only [decide_eq_true_eq, beq_iff_eq]
          by_cases a : 12 - m < S C
          · rw [if_pos a, if_neg (by omega), if_pos (by omega)]; omega
          · by_cases b : S C = 12 - m
            · rw [if_neg a, if_pos b, if_pos (by omega)]; omega
            · rw [if_neg a, if_neg b, if_neg (by omega)]; omega
      exact key L.length
  have key : ∀ r, r ≤ 12 → (j < L.length → S j ≤ r) → laR (ct L) j r = if j < L.length then nI (S j) else -1000000 := by
    intro r
    induction r with
    | zero =>
      intro _ q
      by_cases w : j < L.length
      · have := q w
        have := hb j w
        omega
      · rw [if_neg w]
        rfl
    | succ r ih =>
      intro hr q
      unfold laR
      rw [hga (12 - r) (by omega)]
      by_cases w : j < L.length
      · have pre := cn_pre (p := fun i => decide (12 - (12 - r) < S i)) (C := L.length) (fun i j' h1 h2 h3 => by
          have := hS.1 i j' h1 h2
          simp only [decide_eq_true_eq] at h3 ⊢
          omega) w
        simp only [decide_eq_true_eq] at pre
        by_cases z : S j = r + 1
        · rw [if_pos (pre.mpr (by omega)), if_pos w, z]
        · rw [if_neg (fun y => by have := pre.mp y; have := q w; omega)]
          exact ih (by omega) (fun _ => by have := q w; omega)
      · have : ¬ j < cn (fun i => decide (12 - (12 - r) < S i)) L.length := by
          have := cn_le (fun i => decide (12 - (12 - r) < S i)) L.length
          omega
        rw [if_neg this]
        exact ih (by omega) (fun y => absurd y w)
  exact key 12 (Nat.le_refl _) (fun w => (hb j w).2)

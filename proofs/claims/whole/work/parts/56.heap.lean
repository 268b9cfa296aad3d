/-! the heap: sieves -/
section Rep
variable {n : Nat} {p : Nat → Nat}
theorem rp_lt (hp : pm n p) : ∀ m i, i < n → Nat.repeat p m i < n := by
  intro m
  induction m with
  | zero => exact fun i hi => hi
  | succ m ih => exact fun i hi => hp.1 _ (ih i hi)
theorem rp_add (a b i : Nat) : Nat.repeat p a (Nat.repeat p b i) = Nat.repeat p (a + b) i := by
  induction a with
  | zero => rw [Nat.zero_add]; rfl
  | succ a ih => rw [Nat.succ_add]; show p _ = p _; rw [ih]
theorem rp_inj (hp : pm n p) : ∀ m i i', i < n → i' < n → Nat.repeat p m i = Nat.repeat p m i' → i = i' := by
  intro m
  induction m with
  | zero => exact fun _ _ _ _ e => e
  | succ m ih => exact fun i i' hi hi' e => ih i i' hi hi' (hp.2 _ _ (rp_lt hp m i hi) (rp_lt hp m i' hi') e)
theorem rp_back (hp : pm n p) {i : Nat} (hi : i < n) : ∃ m, 1 ≤ m ∧ Nat.repeat p m i = i := by
  have : ∃ a b, a < b ∧ Nat.repeat p a i = Nat.repeat p b i := by
    apply Classical.byContradiction
    intro hno
    have : n + 1 ≤ n := inj_le (f := fun m => Nat.repeat p m i) (fun m _ => rp_lt hp m i hi) (fun a b _ _ e => by
      rcases Nat.lt_trichotomy a b with w | w | w
      · exact absurd ⟨a, b, w, e⟩ hno
      · exact w
      · exact absurd ⟨b, a, w, e.symm⟩ hno)
    omega
  obtain ⟨a, b, hab, e⟩ := this
  exact ⟨b - a, by omega, (rp_inj hp a _ _ hi (rp_lt hp _ i hi) (by rw [rp_add, show a + (b - a) = b by omega]; exact e)).symm⟩
theorem rp_mul {m i : Nat} (h : Nat.repeat p m i = i) : ∀ a, Nat.repeat p (m * a) i = i := by
  intro a
  induction a with
  | zero => rfl
  | succ a ih => rw [Nat.mul_succ, ← rp_add, h, ih]
theorem rp_ord (hp : pm n p) : ∃ m, 1 ≤ m ∧ ∀ i, i < n → Nat.repeat p m i = i := by
  have : ∀ c, c ≤ n → ∃ m, 1 ≤ m ∧ ∀ i, i < c → Nat.repeat p m i = i := by
    intro c
    induction c with
    | zero => exact fun _ => ⟨1, Nat.le_refl _, fun i hi => absurd hi (by omega)⟩
    | succ c ih =>
      intro hc
      obtain ⟨m, h1, h2⟩ := ih (by omega)
      obtain ⟨m', h3, h4⟩ := rp_back hp (show c < n by omega)
      refine ⟨m * m', Nat.mul_pos h1 h3, fun i hi => ?_⟩
      by_cases e : i = c
      · subst e; rw [Nat.mul_comm]; exact rp_mul h4 m
      · exact rp_mul (h2 i (by omega)) m'
  exact this n (Nat.le_refl _)
theorem rp_iv (hp : pm n p) : ∃ m, ∀ i, i < n → iv p n i = Nat.repeat p m i := by
  obtain ⟨m, h1, h2⟩ := rp_ord hp
  refine ⟨m - 1, fun i hi => ?_⟩
  obtain ⟨a, b⟩ := pm_iv hp hi
  apply hp.2 _ _ b (rp_lt hp _ i hi)
  rw [a]
  have : p (Nat.repeat p (m - 1) i) = Nat.repeat p (m - 1 + 1) i := rfl
  rw [this, show m - 1 + 1 = m by omega, h2 i hi]
end Rep
def grp (n k : Nat) (t : Nat → Nat → Nat) (g : Nat → Nat) : Prop := ∀ P : (Nat → Nat) → Prop, P (fun x => x) → (∀ j, j < k → ∀ f, P f → P (fun x => t j (f x))) → (∀ f f', (∀ x, x < n → f x = f' x) → P f → P f') → P g
def thr (n k : Nat) (t : Nat → Nat → Nat) (i j : Nat) : Prop := ∃ g, grp n k t g ∧ pm n g ∧ (∀ x, x < i → g x = x) ∧ g i = j
section Grp
variable {n k : Nat} {t : Nat → Nat → Nat}
theorem grp_id : grp n k t (fun x => x) := fun _ h _ _ => h
theorem grp_t {j : Nat} (hj : j < k) {f : Nat → Nat} (h : grp n k t f) : grp n k t (fun x => t j (f x)) := fun P a b c => b j hj f (h P a b c)
theorem grp_c {f f' : Nat → Nat} (e : ∀ x, x < n → f x = f' x) (h : grp n k t f) : grp n k t f' := fun P a b c => c f f' e (h P a b c)
theorem grp_g {j : Nat} (hj : j < k) : grp n k t (t j) := grp_t hj grp_id
theorem grp_m {f g : Nat → Nat} (hg : ∀ x, x < n → g x < n) (h : grp n k t f) (h2 : grp n k t g) : grp n k t (fun x => f (g x)) :=
  h (fun f => grp n k t (fun x => f (g x))) h2 (fun j hj f hf => grp_t hj hf) (fun f f' e hf => grp_c (fun x hx => e _ (hg x hx)) hf)
theorem grp_r {f : Nat → Nat} (hf : pm n f) (h : grp n k t f) : ∀ m, grp n k t (Nat.repeat f m)
  | 0 => grp_id
  | m + 1 => grp_m (f := f) (g := Nat.repeat f m) (rp_lt hf m) h (grp_r hf h m)
theorem grp_i {f : Nat → Nat} (hf : pm n f) (h : grp n k t f) : grp n k t (iv f n) := by
  obtain ⟨m, e⟩ := rp_iv hf
  exact grp_c (fun x hx => (e x hx).symm) (grp_r hf h m)
end Grp
/-- what is kept at each place -/
abbrev hS : Type := Nat → Nat → Option (Nat → Nat)
def upB (B : hS) (i j : Nat) (p : Nat → Nat) : hS := fun x y => if x = i ∧ y = j then some p else B x y
def sft (n : Nat) (B : hS) : Nat → Nat → (Nat → Nat) → hS
  | 0, _, _ => B
  | r + 1, x, p => if p x = x then sft n B r (x + 1) p else
    match B x (p x) with
    | none => upB B x (p x) p
    | some el => sft n B r (x + 1) (fun z => iv el n (p z))
def hI (n k : Nat) (t : Nat → Nat → Nat) (B : hS) : Prop := ∀ i j el, B i j = some el → i < j ∧ j < n ∧ pm n el ∧ (∀ x, x < i → el x = x) ∧ el i = j ∧ grp n k t el
def hU (n : Nat) (B : hS) (x : Nat) (p : Nat → Nat) : Prop := (∀ z, z < n → p z = z) ∨ ∃ y el, B x y = some el ∧ ∀ z, z < n → p z = el z
def mm (n : Nat) (B : hS) : Nat → Nat → (Nat → Nat) → Prop
  | 0, _, p => ∀ z, z < n → p z = z
  | r + 1, x, p => ∃ u q, hU n B x u ∧ mm n B r (x + 1) q ∧ ∀ z, z < n → p z = u (q z)
def hle (B B' : hS) : Prop := ∀ i j el, B i j = some el → B' i j = some el
section Sieve
variable {n k : Nat} {t : Nat → Nat → Nat} {B B' : hS}
theorem hU_ok (hB : hI n k t B) {x : Nat} {u : Nat → Nat} (h : hU n B x u) : pm n u ∧ (∀ z, z < x → z < n → u z = z) ∧ grp n k t u ∧ (x < n → u x = x → ∀ z, z < n → u z = z) := by
  rcases h with h | ⟨y, el, e1, e2⟩
  · exact ⟨pm_congr (fun i hi => (h i hi).symm) (pm_id n), fun z _ hz => h z hz, grp_c (fun x hx => (h x hx).symm) grp_id, fun _ _ => h⟩
  · obtain ⟨a1, a2, a3, a4, a5, a6⟩ := hB x y el e1
    refine ⟨pm_congr (fun i hi => (e2 i hi).symm) a3, fun z hz hz2 => (e2 z hz2).trans (a4 z hz), grp_c (fun x hx => (e2 x hx).symm) a6, fun hx hux => ?_⟩
    rw [e2 x hx, a5] at hux
    omega
theorem mm_ok (hB : hI n k t B) : ∀ r x p, mm n B r x p → pm n p ∧ (∀ z, z < x → z < n → p z = z) ∧ grp n k t p
  | 0, x, p, h => ⟨pm_congr (fun i hi => (h i hi).symm) (pm_id n), fun z _ hz => h z hz, grp_c (fun x hx => (h x hx).symm) grp_id⟩
  | r + 1, x, p, ⟨u, q, hu, hq, e⟩ => by
    obtain ⟨a1, a2, a3, -⟩ := hU_ok hB hu
    obtain ⟨b1, b2, b3⟩ := mm_ok hB r (x + 1) q hq
    refine ⟨pm_congr (fun i hi => (e i hi).symm) (pm_comp b1 a1), fun z hz hz2 => ?_, grp_c (fun x hx => (e x hx).symm) (grp_m b1.1 a3 b3)⟩
    rw [e z hz2, b2 z (by omega) hz2, a2 z hz hz2]
theorem mm_c : ∀ r x p p', (∀ z, z < n → p z = p' z) → mm n B r x p → mm n B r x p'
  | 0, _, _, _, e, h => fun z hz => (e z hz).symm.trans (h z hz)
  | _ + 1, _, _, _, e, ⟨u, q, hu, hq, e2⟩ => ⟨u, q, hu, hq, fun z hz => (e z hz).symm.trans (e2 z hz)⟩
theorem mm_id : ∀ r x, mm n B r x (fun z => z)
  | 0, _ => fun _ _ => rfl
  | r + 1, x => ⟨fun z => z, fun z => z, Or.inl (fun _ _ => rfl), mm_id r (x + 1), fun _ _ => rfl⟩
theorem mm_U : ∀ r x l u, x ≤ l → l < x + r → hU n B l u → mm n B r x u
  | 0, _, _, _, h1, h2, _ => absurd h2 (by omega)
  | r + 1, x, l, u, h1, h2, hu => by
    by_cases e : x = l
    · subst e
      exact ⟨u, fun z => z, hu, mm_id r (x + 1), fun _ _ => rfl⟩
    · exact ⟨fun z => z, u, Or.inl (fun _ _ => rfl), mm_U r (x + 1) l u (by omega) (by omega) hu, fun _ _ => rfl⟩
theorem mm_mono (hle' : hle B B') : ∀ r x p, mm n B r x p → mm n B' r x p
  | 0, _, _, h => h
  | r + 1, x, _, ⟨u, q, hu, hq, e⟩ => ⟨u, q, by
      rcases hu with h | ⟨y, el, e1, e2⟩
      · exact Or.inl h
      · exact Or.inr ⟨y, el, hle' _ _ _ e1, e2⟩, mm_mono hle' r (x + 1) q hq, e⟩
/-- what leaves all below l needs no more than the places from l on -/
theorem mm_low (hB : hI n k t B) : ∀ r x p l, x + r = n → x ≤ l → l ≤ n → (∀ z, z < l → p z = z) → mm n B r x p → mm n B (n - l) l p
  | r, x, p, l, h1, h2, h3, hz, h => by
    by_cases e : x = l
    · subst e
      rw [show n - x = r by omega]
      exact h
    · match r, h with
      | 0, h => omega
      | r + 1, ⟨u, q, hu, hq, e2⟩ =>
        obtain ⟨a1, a2, a3, a4⟩ := hU_ok hB hu
        obtain ⟨b1, b2, b3⟩ := mm_ok hB r (x + 1) q hq
        have hx : x < n := by omega
        have c1 : u x = x := by
          have := e2 x hx
          rw [b2 x (by omega) hx, hz x (by omega)] at this
          exact this.symm
        have c2 := a4 hx c1
        have c3 : ∀ z, z < n → q z = p z := fun z hz => by rw [e2 z hz, c2 _ (b1.1 z hz)]
        exact mm_low hB r (x + 1) p l (by omega) (by omega) h3 hz (mm_c _ _ _ _ c3 hq)
/-- products of what is kept pass: then all products do -/
theorem mm_mul (hB : hI n k t B) (hpair : ∀ l l' u v, l < n → l' < n → hU n B l u → hU n B l' v → mm n B n 0 (fun z => u (v z))) : ∀ r x, x + r = n → ∀ p q, mm n B r x p → mm n B r x q → mm n B r x (fun z => p (q z))
  | 0, x, _, p, q, hp, hq => fun z hz => by show p (q z) = z; rw [hq z hz]; exact hp z hz
  | r + 1, x, hx, p, q, hp, hq => by
    have ih := mm_mul hB hpair r (x + 1) (by omega)
    have hxn : x < n := by omega
    -- two of the levels from x on
    have two : ∀ l u v, x ≤ l → l < n → hU n B l u → hU n B x v → mm n B (r + 1) x (fun z => u (v z)) := by
      intro l u v h1 h2 hu hv
      have := mm_low hB n 0 _ x (by omega) (by omega) (by omega) (fun z hz => by
        show u (v z) = z
        rw [(hU_ok hB hv).2.1 z hz (by omega), (hU_ok hB hu).2.1 z (by omega) (by omega)]) (hpair l x u v h2 hxn hu hv)
      rw [show n - x = r + 1 by omega] at this
      exact this
    have A : ∀ r' x', x < x' → x' + r' = n → ∀ m, mm n B r' x' m → ∀ b, hU n B x b → mm n B (r + 1) x (fun z => m (b z)) := by
      intro r'
      induction r' with
      | zero =>
        intro x' h1 h2 m hm b hb
        exact mm_c _ _ _ _ (fun z hz => (hm _ ((hU_ok hB hb).1.1 z hz)).symm) (mm_U (r + 1) x x b (Nat.le_refl _) (by omega) hb)
      | succ r' ih' =>
        intro x' h1 h2 m ⟨u, m1, hu, hm1, e⟩ b hb
        obtain ⟨v, m2, hv, hm2, e2⟩ := ih' (x' + 1) (by omega) (by omega) m1 hm1 b hb
        obtain ⟨v', m3, hv', hm3, e3⟩ := two x' u v (by omega) (by omega) hu hv
        refine ⟨v', fun z => m3 (m2 z), hv', ih m3 m2 hm3 hm2, fun z hz => ?_⟩
        have l1 := (hU_ok hB hb).1.1 z hz
        have l2 := (mm_ok hB _ _ _ hm2).1.1 z hz
        show m (b z) = v' (m3 (m2 z))
        rw [e _ l1, show m1 (b z) = v (m2 z) from e2 z hz]
        exact e3 _ l2
    obtain ⟨u, m, hu, hm, e⟩ := hp
    obtain ⟨b, m4, hb, hm4, e4⟩ := hq
    obtain ⟨v, m2, hv, hm2, e2⟩ := A r (x + 1) (by omega) (by omega) m hm b hb
    obtain ⟨v', m3, hv', hm3, e3⟩ := two x u v (Nat.le_refl _) hxn hu hv
    refine ⟨v', fun z => m3 (m2 (m4 z)), hv', ih _ _ hm3 (ih _ _ hm2 hm4), fun z hz => ?_⟩
    have l4 := (mm_ok hB _ _ _ hm4).1.1 z hz
    have lb := (hU_ok hB hb).1.1 _ l4
    have l2 := (mm_ok hB _ _ _ hm2).1.1 _ l4
    show p (q z) = v' (m3 (m2 (m4 z)))
    rw [e4 z hz, e _ lb, show m (b (m4 z)) = v (m2 (m4 z)) from e2 _ l4]
    exact e3 _ l2
/-- nothing more comes through -/
def hcl (n k : Nat) (t : Nat → Nat → Nat) (B : hS) : Prop := (∀ j, j < k → mm n B n 0 (t j)) ∧ ∀ i j i' j' p p', B i j = some p → B i' j' = some p' → mm n B n 0 (fun z => p (p' z))
theorem hcl_grp (hB : hI n k t B) (hc : hcl n k t B) {g : Nat → Nat} (hg : grp n k t g) : mm n B n 0 g := by
  have hpair : ∀ l l' u v, l < n → l' < n → hU n B l u → hU n B l' v → mm n B n 0 (fun z => u (v z)) := by
    intro l l' u v hl hl' hu hv
    have pv := (hU_ok hB hv).1
    rcases hu with hu | ⟨y, el, e1, e2⟩
    · exact mm_c _ _ _ _ (fun z hz => (hu _ (pv.1 z hz)).symm) (mm_U n 0 l' v (by omega) (by omega) hv)
    · rcases hv with hv | ⟨y', el', e1', e2'⟩
      · exact mm_c _ _ _ _ (fun z hz => by rw [hv z hz]) (mm_U n 0 l u (by omega) (by omega) (Or.inr ⟨y, el, e1, e2⟩))
      · refine mm_c _ _ _ _ (fun z hz => ?_) (hc.2 l y l' y' el el' e1 e1')
        rw [e2' z hz]
        have := (hB _ _ _ e1').2.2.1.1 z hz
        exact (e2 _ this).symm
  refine hg (mm n B n 0) (mm_id n 0) (fun j hj f hf => mm_mul hB hpair n 0 (by omega) _ _ (hc.1 j hj) hf) (fun f f' e hf => mm_c _ _ _ _ e hf)
theorem hcl_thr (hB : hI n k t B) (hc : hcl n k t B) {i j : Nat} (hij : i < j) (hj : j < n) : (∃ el, B i j = some el) ↔ thr n k t i j := by
  constructor
  · rintro ⟨el, e⟩
    obtain ⟨a1, a2, a3, a4, a5, a6⟩ := hB i j el e
    exact ⟨el, a6, a3, a4, a5⟩
  · rintro ⟨g, hg, hp, hz, e⟩
    have h1 := mm_low hB n 0 g i (by omega) (by omega) (by omega) hz (hcl_grp hB hc hg)
    obtain ⟨r, hr⟩ : ∃ r, n - i = r + 1 := ⟨n - i - 1, by omega⟩
    rw [hr] at h1
    obtain ⟨u, q, hu, hq, e2⟩ := h1
    have hin : i < n := by omega
    have hui : u i = j := by
      have := e2 i hin
      rw [(mm_ok hB _ _ _ hq).2.1 i (by omega) hin, e] at this
      exact this.symm
    rcases hu with hu | ⟨y, el, e1, e3⟩
    · rw [hu i hin] at hui; omega
    · have := (hB _ _ _ e1).2.2.2.2.1
      rw [e3 i hin, this] at hui
      rw [← hui]
      exact ⟨el, e1⟩
/-! the sieve's step -/
theorem upB_le {i j : Nat} {p : Nat → Nat} (h : B i j = none) : hle B (upB B i j p) := by
  intro x y el e
  unfold upB
  split
  · rename_i w
    rw [w.1, w.2, h] at e
    exact absurd e (by simp)
  · exact e
theorem sft_k {r x : Nat} {p : Nat → Nat} (h : p x = x) : sft n B (r + 1) x p = sft n B r (x + 1) p := if_pos h
theorem sft_n {r x : Nat} {p : Nat → Nat} (h : ¬ p x = x) (hb : B x (p x) = none) : sft n B (r + 1) x p = upB B x (p x) p := by
  unfold sft
  rw [if_neg h, hb]
theorem sft_s {r x : Nat} {p el : Nat → Nat} (h : ¬ p x = x) (hb : B x (p x) = some el) : sft n B (r + 1) x p = sft n B r (x + 1) (fun z => iv el n (p z)) := by
  unfold sft
  rw [if_neg h, hb]
  cases r <;> rfl
theorem sft_le : ∀ r x p, hle B (sft n B r x p)
  | 0, _, _ => fun _ _ _ h => h
  | r + 1, x, p => by
    unfold sft
    split
    · exact sft_le r (x + 1) p
    · split
      · rename_i w; exact upB_le w
      · exact sft_le r (x + 1) _
/-- the next one after a place that is taken -/
theorem nxt_ok {x : Nat} {p el : Nat → Nat} (hx : x < n) (hp : pm n p) (hz : ∀ z, z < x → p z = z) (he : pm n el) (hez : ∀ z, z < x → el z = z) (hex : el x = p x) : pm n (fun z => iv el n (p z)) ∧ ∀ z, z < x + 1 → iv el n (p z) = z := by
  refine ⟨pm_comp hp (pm_inv he), fun z hz2 => ?_⟩
  by_cases e : z = x
  · subst e
    rw [← hex, iv_at he.2 hx]
  · rw [hz z (by omega)]
    have := iv_at he.2 (show z < n by omega)
    rw [hez z (by omega)] at this
    exact this
theorem up_gt {x : Nat} {p : Nat → Nat} (hx : x < n) (hp : pm n p) (hz : ∀ z, z < x → p z = z) (hne : ¬ p x = x) : x < p x ∧ p x < n := by
  refine ⟨?_, hp.1 x hx⟩
  rcases Nat.lt_or_ge x (p x) with w | w
  · exact w
  · have h1 : p x < x := by omega
    have h2 := hz _ h1
    have := hp.2 _ _ (hp.1 x hx) hx h2
    omega
theorem sft_I (hB : hI n k t B) : ∀ r x p, x + r = n → pm n p → (∀ z, z < x → p z = z) → grp n k t p → hI n k t (sft n B r x p)
  | 0, _, _, _, _, _, _ => hB
  | r + 1, x, p, hx, hp, hz, hg => by
    unfold sft
    split
    · rename_i w
      exact sft_I hB r (x + 1) p (by omega) hp (fun z hz2 => by
        by_cases e : z = x
        · rw [e]; exact w
        · exact hz z (by omega)) hg
    · rename_i w
      split
      · rename_i w2
        intro i j el e
        unfold upB at e
        split at e
        · rename_i w3
          have : p = el := Option.some.inj e
          subst this
          obtain ⟨g1, g2⟩ := up_gt (show x < n by omega) hp hz w
          rw [w3.1, w3.2]
          exact ⟨g1, g2, hp, hz, rfl, hg⟩
        · exact hB i j el e
      · rename_i el w2
        obtain ⟨a1, a2, a3, a4, a5, a6⟩ := hB _ _ _ w2
        obtain ⟨c1, c2⟩ := nxt_ok (show x < n by omega) hp hz a3 a4 a5
        exact sft_I hB r (x + 1) _ (by omega) c1 c2 (grp_m hp.1 (grp_i a3 a6) hg)
theorem sft_mm (hB : hI n k t B) : ∀ r x p, x + r = n → pm n p → (∀ z, z < x → p z = z) → mm n (sft n B r x p) r x p
  | 0, x, p, hx, hp, hz => fun z hz2 => hz z (by omega)
  | r + 1, x, p, hx, hp, hz => by
    unfold sft
    split
    · rename_i w
      exact ⟨fun z => z, p, Or.inl (fun _ _ => rfl), sft_mm hB r (x + 1) p (by omega) hp (fun z hz2 => by
        by_cases e : z = x
        · rw [e]; exact w
        · exact hz z (by omega)), fun _ _ => rfl⟩
    · rename_i w
      split
      · rename_i w2
        exact mm_U (r + 1) x x p (Nat.le_refl _) (by omega) (Or.inr ⟨p x, p, by simp [upB], fun _ _ => rfl⟩)
      · rename_i el w2
        obtain ⟨a1, a2, a3, a4, a5, a6⟩ := hB _ _ _ w2
        obtain ⟨c1, c2⟩ := nxt_ok (show x < n by omega) hp hz a3 a4 a5
        refine ⟨el, _, Or.inr ⟨p x, el, sft_le r (x + 1) _ _ _ _ w2, fun _ _ => rfl⟩, sft_mm hB r (x + 1) _ (by omega) c1 c2, fun z hz2 => ?_⟩
        exact (pm_iv a3 (hp.1 z hz2)).1.symm
end Sieve
/-- how many there are, level by level -/
noncomputable def hct (n k : Nat) (t : Nat → Nat → Nat) (i : Nat) : Nat := cn (fun j => @decide (i < j ∧ thr n k t i j) (Classical.propDecidable _)) n + 1
noncomputable def hpr (n k : Nat) (t : Nat → Nat → Nat) : Nat → Nat
  | 0 => 1
  | i + 1 => hpr n k t i * hct n k t i

/-! parts, blocks, covers over one another, ways -/
section Der2Ev
variable {d n k a ta ci pr : Nat} {t : Nat → Nat → Nat} {h : mH} {K : Option Value → mH → Prop} {b : Nat × Nat}
/-- a sheet's part, by number; the sheets of a part -/
def pix (n k : Nat) (t : Nat → Nat → Nat) (x : Nat) : Nat := cn (fun z => ltj n t k z == z) (ltj n t k x)
def pms (n k : Nat) (t : Nat → Nat → Nat) (p : Nat) : Nat := bm (fun x => pix n k t x == p) n
def nrw (n : Nat) (m : Nat) (f : Nat → Nat) (t : Nat → Nat → Nat) : Nat → Nat → Nat := fun j => nwg m f (t j) n
theorem pop_rk {p : Nat → Bool} (hn : n ≤ 12) : pop (bm p n) = rk (bm p n) n := by
  rw [pop_bm p hn]
  unfold rk
  exact cn_congr (fun i hi => by rw [bm_tb]; simp [hi])
theorem partAlone_ev {p : Nat} (c : CO h a ta ci n k t pr) (ha : a < h.2) (hta : ta < h.2) (hp : p < 2147483648) (hb1 : 2 ≤ b.1) (hb2 : k + 3 ≤ b.2) (h1 : 1 ≤ rk (pms n k t p) n) (ht : ∀ j, j < k → ∀ i, i < rk (pms n k t p) n → nrw n (pms n k t p) (fun i => i) t j i < rk (pms n k t p) n) (hK : ∀ h', NC h h' (rk (pms n k t p) n) k (nrw n (pms n k t p) (fun i => i) t) → K (some (.ref (h.2 + 1))) h') : Ev (d + 6) b MX1_partAlone [.ref a, .int (nI p)] h K := by
  have hk8 := c.k8
  have hn := c.n12
  have hl := ltj_lt c.lt k (Nat.le_refl _)
  have hl16 : ∀ i, i < n → ltj n t k i < 16 := fun i hi => by have := hl i hi; omega
  refine en_X1_partAlone (bk_X1_partAlone_0 _ _ ⟨_, c.ft, _, c.fn, ?_⟩)
  refine ledTogether_ev hn c.2.1 (by omega) c.lt ⟨_, rfl, ?_⟩
  refine dn (n := n) (fun x => Wm (d + 6) b JX1_partAlone 18 [some (.ref a), some (.int (nI p)), some (.long (PK n (ltj n t k))), none, some (.int (nI (bm (fun x => pix n k t x == p) x))), some (.int (nI x))] [] h (fun r h' => h'.1 0 = h.1 0 ∧ K r h')) ?_ ?_ 0 (Nat.zero_le _)
  · have hm : pms n k t p < 4096 := bm_lt _ (K := 12) n (by omega)
    refine bk_X1_partAlone_18 _ _ _ _ _ ⟨_, c.fn, fun _ => ?_, fun q => absurd (le_t (Nat.le_refl _) (by omega)) q⟩
    refine bitCount_ev hm ⟨_, rfl, _, c.fn, ?_⟩
    refine still_ev hn ⟨_, rfl, (1, k), by show 1 ≤ b.1; omega, by show k ≤ b.2; omega, _, _, c.1, c.2.2.1, ?_⟩
    refine narrowed_ev c ha hta hm (fun _ h => h) (Nat.le_refl _) (Nat.le_refl _) (fun F hF => ⟨_, rfl, (1, 3), by show 1 ≤ b.1 - 1; omega, by show 3 ≤ b.2 - k; omega, ?_⟩)
    rw [pop_rk hn]
    refine of_nA (t := nrw n (pms n k t p) (fun i => i) t) (by omega) h1 (Nat.le_trans (cn_le _ _) hn) hk8 hF ht (fun h' hN => ⟨_, rfl, hN.2.1 0 (by omega), hK h' hN⟩)
  · intro x hx ih
    refine bk_X1_partAlone_18 _ _ _ _ _ ⟨_, c.fn, fun q => absurd q (le_f hx (by omega)), fun _ => ?_⟩
    refine at_ev hn hx hl16 ⟨_, rfl, ?_⟩
    have hlx := hl x hx
    refine groups_ev hn (by omega) hl16 ⟨_, rfl, ?_⟩
    have hpx : pix n k t x ≤ 12 := Nat.le_trans (cn_le _ _) (by omega)
    refine ⟨fun q => ?_, fun q => ?_⟩
    · have e : ¬ pix n k t x = p := fun w => q (congrArg nI w)
      simp only [bm, beq_iff_eq, e, if_false] at ih
      rw [nI_1]
      exact ih
    · have e : pix n k t x = p := nI_inj (by omega) hp q
      simp only [bm, beq_iff_eq, e, if_true] at ih
      rw [nI_1, set_bit (by omega)]
      exact ih
def bms (n : Nat) (f : Nat → Nat) : Nat := bm (fun z => f z == z) n
theorem ofBlocks_ev {u v : Nat} (c : CO h a ta ci n k t pr) (ha : a < h.2) (hta : ta < h.2) (hu : u < n) (hv : v < n) (hb1 : 2 ≤ b.1) (hb2 : k + 3 ≤ b.2) (h1 : 1 ≤ rk (bms n (blk n k t u v)) n) (ht : ∀ j, j < k → ∀ i, i < rk (bms n (blk n k t u v)) n → nrw n (bms n (blk n k t u v)) (blk n k t u v) t j i < rk (bms n (blk n k t u v)) n) (hK : ∀ h', NC h h' (rk (bms n (blk n k t u v)) n) k (nrw n (bms n (blk n k t u v)) (blk n k t u v) t) → K (some (.ref (h.2 + 1))) h') : Ev (d + 6) b MX1_ofBlocks [.ref a, .int (nI u), .int (nI v)] h K := by
  have hk8 := c.k8
  have hn := c.n12
  have hl := blk_lt c.lt hu hv
  have hm : bms n (blk n k t u v) < 4096 := bm_lt _ (K := 12) n (by omega)
  refine en_X1_ofBlocks (bk_X1_ofBlocks_0 _ _ _ ⟨_, _, c.1, c.2.2.1, ?_⟩)
  refine blockLabels_ev c hu hv ⟨_, rfl, _, c.fn, ?_⟩
  refine leaders_ev hn (Nat.le_refl _) (fun i hi => by have := hl i hi; omega) ⟨_, rfl, ?_⟩
  refine bitCount_ev hm ⟨_, rfl, (1, k), by show 1 ≤ b.1; omega, by show k ≤ b.2; omega, _, _, c.1, c.2.2.1, ?_⟩
  refine narrowed_ev c ha hta hm hl (Nat.le_refl _) (Nat.le_refl _) (fun F hF => ⟨_, rfl, (1, 3), by show 1 ≤ b.1 - 1; omega, by show 3 ≤ b.2 - k; omega, ?_⟩)
  rw [pop_rk hn]
  exact of_nA (t := nrw n (bms n (blk n k t u v)) (blk n k t u v) t) (by omega) h1 (Nat.le_trans (cn_le _ _) hn) hk8 hF ht (fun h' hN => ⟨_, rfl, hN.2.1 0 (by omega), hK h' hN⟩)
/-- one over the other -/
def ovr (m : Nat) (t u : Nat → Nat → Nat) : Nat → Nat → Nat := fun j i => t j (i / m) * m + u j (i % m)
theorem ovr_lt {m : Nat} {u : Nat → Nat → Nat} (hm : 0 < m) (ht : ∀ j, j < k → ∀ i, i < n → t j i < n) (hu : ∀ j, j < k → ∀ i, i < m → u j i < m) : ∀ j, j < k → ∀ i, i < n * m → ovr m t u j i < n * m := by
  intro j hj i hi
  have h1 : i / m < n := by
    apply Nat.div_lt_of_lt_mul
    rw [Nat.mul_comm]; exact hi
  have h2 := ht j hj _ h1
  have h3 := hu j hj _ (Nat.mod_lt i hm)
  unfold ovr
  have h4 : (t j (i / m) + 1) * m ≤ n * m := Nat.mul_le_mul_right m (by omega)
  rw [Nat.add_mul] at h4
  omega
theorem ovr_at {m x y : Nat} {u : Nat → Nat → Nat} {j : Nat} (hy : y < m) : ovr m t u j (x * m + y) = t j x * m + u j y := by
  unfold ovr
  have e1 : (x * m + y) / m = x := by
    rw [Nat.mul_comm, Nat.mul_add_div (by omega), Nat.div_eq_of_lt hy]; omega
  have e2 : (x * m + y) % m = y := by
    rw [Nat.mul_comm, Nat.mul_add_mod, Nat.mod_eq_of_lt hy]
  rw [e1, e2]
theorem laidOver_ev {a2 ta2 ci2 m pr2 : Nat} {u : Nat → Nat → Nat} (c : CO h a ta ci n k t pr) (c2 : CO h a2 ta2 ci2 m k u pr2) (ha : a < h.2) (hta : ta < h.2) (ha2 : a2 < h.2) (hta2 : ta2 < h.2) (hnm : n * m ≤ 12) (hb1 : 2 ≤ b.1) (hb2 : k + 3 ≤ b.2) (hK : ∀ h', NC h h' (n * m) k (ovr m t u) → K (some (.ref (h.2 + 1))) h') : Ev (d + 6) b MX1_laidOver [.ref a, .ref a2] h K := by
  have hk8 := c.k8
  have hn := c.n12
  have hm := c2.n12
  have hm1 := c2.n1
  have hn1 := c.n1
  have hov := ovr_lt (n := n) hm1 c.lt c2.lt
  refine en_X1_laidOver (bk_X1_laidOver_0 _ _ ⟨_, c.ft, _, c.2.1.len, k, nI_pos (by omega), nI_clamp (by omega), by omega, by omega, by omega, fun h4 e4 => ?_⟩)
  have e4 : h4 = nA h k (fun _ => 0) := e4
  subst e4
  have hz0 : lN (pk (rs 0 (ovr m t u 0))) = 0 := pq_z _
  refine dn (n := k) (fun j => Wm (d + 6) (b.1 - 1, b.2 - k) JX1_laidOver 10 [some (.ref a), some (.ref a2), some (.ref h.2), some (.int (nI j)), none, none, none] [] (nA h k (fun i => if i < j then PK (n * m) (ovr m t u i) else 0)) (fun r h' => h'.1 0 = h.1 0 ∧ K r h')) ?_ ?_ 0 (Nat.zero_le _)
  · have cA : CO (nA h k (fun i => if i < k then PK (n * m) (ovr m t u i) else 0)) a ta ci n k t pr := c.nA (by omega) (by omega)
    have cA2 : CO (nA h k (fun i => if i < k then PK (n * m) (ovr m t u i) else 0)) a2 ta2 ci2 m k u pr2 := c2.nA (by omega) (by omega)
    refine bk_X1_laidOver_10 _ _ _ _ ⟨_, cA.ft, _, cA.2.1.len, fun _ => ⟨_, cA.fn, _, cA2.fn, (1, 3), by show 1 ≤ b.1 - 1; omega, by show 3 ≤ b.2 - k; omega, ?_⟩, fun q => absurd (le_t (Nat.le_refl _) (by omega)) q⟩
    rw [pk_mul]
    refine of_nA (by omega) (Nat.mul_pos hn1 hm1) hnm hk8 (fun j hj => by simp [hj]) hov (fun h' hN => ⟨_, rfl, hN.2.1 0 (by omega), hK h' hN⟩)
  · intro j hj ih
    have cA : CO (nA h k (fun i => if i < j then PK (n * m) (ovr m t u i) else 0)) a ta ci n k t pr := c.nA (by omega) (by omega)
    refine bk_X1_laidOver_10 _ _ _ _ ⟨_, cA.ft, _, cA.2.1.len, fun q => absurd q (le_f hj (by omega)), fun _ => ?_⟩
    -- the row so far: places below p
    have hF : ∀ p : Nat, ∃ F : Nat → Int64, F = fun i => if i < j then PK (n * m) (ovr m t u i) else if i = j then lN (pk (rs p (ovr m t u j))) else 0 := fun p => ⟨_, rfl⟩
    have hl := dn (n := n) (fun x => Wm (d + 6) (b.1 - 1, b.2 - k) JX1_laidOver 22 [some (.ref a), some (.ref a2), some (.ref h.2), some (.int (nI j)), some (.int (nI x)), none, none] [] (nA h k (fun i => if i < j then PK (n * m) (ovr m t u i) else if i = j then lN (pk (rs (x * m) (ovr m t u j))) else 0)) (fun r h' => h'.1 0 = h.1 0 ∧ K r h')) ?_ ?_ 0 (Nat.zero_le _)
    · have e0 : (fun i => if i < j then PK (n * m) (ovr m t u i) else if i = j then lN (pk (rs (0 * m) (ovr m t u j))) else 0) = fun i => if i < j then PK (n * m) (ovr m t u i) else 0 := by
        funext i
        by_cases w : i < j
        · simp [w]
        · by_cases w2 : i = j
          · subst w2
            simp only [Nat.lt_irrefl, if_false, if_true, Nat.zero_mul]
            exact pq_z _
          · simp [w, w2]
      rw [e0] at hl
      exact hl
    · have cB : CO (nA h k (fun i => if i < j then PK (n * m) (ovr m t u i) else if i = j then lN (pk (rs (n * m) (ovr m t u j))) else 0)) a ta ci n k t pr := c.nA (by omega) (by omega)
      refine bk_X1_laidOver_22 _ _ _ _ _ ⟨_, cB.fn, fun _ => ?_, fun q => absurd (le_t (Nat.le_refl _) (by omega)) q⟩
      rw [nI_1]
      have e1 : (fun i => if i < j then PK (n * m) (ovr m t u i) else if i = j then lN (pk (rs (n * m) (ovr m t u j))) else 0) = fun i => if i < j + 1 then PK (n * m) (ovr m t u i) else 0 := by
        funext i
        by_cases w : i < j
        · simp [w, show i < j + 1 by omega]
        · by_cases w2 : i = j
          · subst w2; simp [PK]
          · simp [w, w2, show ¬ i < j + 1 by omega]
      rw [e1]
      exact ih
    · intro x hx ih2
      have cB : CO (nA h k (fun i => if i < j then PK (n * m) (ovr m t u i) else if i = j then lN (pk (rs (x * m) (ovr m t u j))) else 0)) a ta ci n k t pr := c.nA (by omega) (by omega)
      refine bk_X1_laidOver_22 _ _ _ _ _ ⟨_, cB.fn, fun q => absurd q (le_f hx (by omega)), fun _ => ?_⟩
      refine dn (n := m) (fun y => Wm (d + 6) (b.1 - 1, b.2 - k) JX1_laidOver 34 [some (.ref a), some (.ref a2), some (.ref h.2), some (.int (nI j)), some (.int (nI x)), some (.int (nI y)), none] [] (nA h k (fun i => if i < j then PK (n * m) (ovr m t u i) else if i = j then lN (pk (rs (x * m + y) (ovr m t u j))) else 0)) (fun r h' => h'.1 0 = h.1 0 ∧ K r h')) ?_ ?_ 0 (Nat.zero_le _)
      · have cC : CO (nA h k (fun i => if i < j then PK (n * m) (ovr m t u i) else if i = j then lN (pk (rs (x * m + m) (ovr m t u j))) else 0)) a2 ta2 ci2 m k u pr2 := c2.nA (by omega) (by omega)
        refine bk_X1_laidOver_34 _ _ _ _ _ _ ⟨_, cC.fn, fun _ => ?_, fun q => absurd (le_t (Nat.le_refl _) (by omega)) q⟩
        rw [nI_1]
        have e : x * m + m = (x + 1) * m := by rw [Nat.add_mul, Nat.one_mul]
        rw [e]
        exact ih2
      · intro y hy ih3
        have cC : CO (nA h k (fun i => if i < j then PK (n * m) (ovr m t u i) else if i = j then lN (pk (rs (x * m + y) (ovr m t u j))) else 0)) a ta ci n k t pr := c.nA (by omega) (by omega)
        have cC2 : CO (nA h k (fun i => if i < j then PK (n * m) (ovr m t u i) else if i = j then lN (pk (rs (x * m + y) (ovr m t u j))) else 0)) a2 ta2 ci2 m k u pr2 := c2.nA (by omega) (by omega)
        have hxy : x * m + y < n * m := by
          have : (x + 1) * m ≤ n * m := Nat.mul_le_mul_right m hx
          rw [Nat.add_mul] at this
          omega
        refine bk_X1_laidOver_34 _ _ _ _ _ _ ⟨_, cC2.fn, fun q => absurd q (le_f hy (by omega)), fun _ => ⟨_, cC.ft, _, cC.2.1.at hj (by omega), ?_⟩⟩
        refine at_ev hn hx (fun i hi => by have := c.lt j hj i hi; omega) ⟨_, rfl, _, cC2.fn, _, _, cC2.1, cC2.2.2.1, ?_⟩
        refine turnAt_ev cC2 hj ⟨_, rfl, ?_⟩
        refine at_ev hm hy (fun i hi => by have := c2.lt j hj i hi; omega) ⟨_, rfl, ?_⟩
        refine ⟨_, ll_at nA_s hj (by omega), _, cC2.fn, ?_⟩
        rw [pk_mul, nI_add, pk_mul, nI_add]
        have e3 : (if j < j then PK (n * m) (ovr m t u j) else if j = j then lN (pk (rs (x * m + y) (ovr m t u j))) else 0) = lN (pk (rs (x * m + y) (ovr m t u j))) := by simp
        rw [e3, ← ovr_at (x := x) (t := t) (u := u) (j := j) hy]
        have h16 : ∀ i, i < x * m + y + 1 → ovr m t u j i < 16 := fun i hi => by have := hov j hj i (by omega); omega
        refine with_rs (by omega) h16 ⟨_, rfl, _, nA_ls hj (by omega), ?_⟩
        rw [nI_1]
        have e5 : vp_updL (fun i => if i < j then PK (n * m) (ovr m t u i) else if i = j then lN (pk (rs (x * m + y) (ovr m t u j))) else 0) j (lN (pk (rs (x * m + y + 1) (ovr m t u j)))) = fun i => if i < j then PK (n * m) (ovr m t u i) else if i = j then lN (pk (rs (x * m + (y + 1)) (ovr m t u j))) else 0 := by
          funext i
          by_cases w3 : i = j
          · subst w3; simp [vp_updL, Nat.add_assoc]
          · simp [vp_updL, w3]
        rw [e5]
        exact ih3
-- ways
theorem noStep_ev {x : Int32} (c : CO h a ta ci n k t pr) (h1 : (x = 0 ∨ nI k < x ∨ ¬ (-(nI k)) ≤ x) → K (some (.int 1)) h) (h0 : ¬ x = 0 → ¬ nI k < x → (-(nI k)) ≤ x → K (some (.int 0)) h) : Ev d (0, 0) MX1_noStep [.ref a, .int x] h K :=
  en_X1_noStep (bk_X1_noStep_0 _ _ ⟨fun q => ⟨rfl, h1 (Or.inl q)⟩, fun q => ⟨_, c.ft, _, c.2.1.len, fun q2 => ⟨rfl, h1 (Or.inr (Or.inl q2))⟩, fun q2 => ⟨_, c.ft, _, c.2.1.len, fun q3 => ⟨rfl, h0 q q2 q3⟩, fun q3 => ⟨rfl, h1 (Or.inr (Or.inr q3))⟩⟩⟩⟩)
theorem stepF_ev {j x : Nat} (c : CO h a ta ci n k t pr) (hj : j < k) (hx : x < n) (hK : K (some (.int (nI (t j x)))) h) : Ev (d + 2) (0, 0) MX1_stepped [.ref a, .int (nI (j + 1)), .int (nI x)] h K := by
  have hk8 := c.k8
  refine en_X1_stepped (bk_X1_stepped_0 _ _ _ ⟨fun q => absurd q (nI_nle (by omega) (by omega)), fun _ => ⟨_, _, c.1, c.2.2.1, ?_⟩⟩)
  rw [nI_pred]
  refine turnAt_ev c hj ⟨_, rfl, ?_⟩
  exact at_ev c.n12 hx (fun i hi => by have := c.lt j hj i hi; have := c.n12; omega) ⟨_, rfl, rfl, hK⟩
theorem stepB_ev {j x : Nat} (c : CO h a ta ci n k t pr) (hj : j < k) (hx : x < n) (hK : K (some (.int (nI (iv (t j) n x)))) h) : Ev (d + 2) (0, 0) MX1_stepped [.ref a, .int (-(nI (j + 1))), .int (nI x)] h K := by
  have hk8 := c.k8
  have hneg : -(nI (j + 1)) ≤ 0 := by
    rw [Int32.le_iff_toInt_le, sb_negT (by omega)]
    show _ ≤ (0 : Int)
    omega
  refine en_X1_stepped (bk_X1_stepped_0 _ _ _ ⟨fun _ => ⟨_, _, c.1, c.2.2.1, ?_⟩, fun q => absurd hneg q⟩)
  rw [Int32.neg_neg, nI_pred]
  refine turnAt_ev c hj ⟨_, rfl, _, c.fn, ?_⟩
  refine inverse_ev c.n12 (c.prm j hj) ⟨_, rfl, ?_⟩
  have := c.n12
  exact at_ev c.n12 hx (fun i hi => by have := (pm_inv (c.prm j hj)).1 i hi; omega) ⟨_, rfl, rfl, hK⟩
end Der2Ev

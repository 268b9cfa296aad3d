/-! the reference: blocks -/
section RefBlocks
variable {d : Nat} {h : mH} {r : rst} {st : AS} {K : Option Value → mH → Prop}
theorem rmerge_ev {n a b : Nat} {f : Nat → Nat} (o : RR h r) (hn : n ≤ 12) (hf : ∀ z, z < n → f z < n) (A : ∀ z, z < n → r.2.1 46 z = nI (f z)) (ha : a < n) (hb : b < n) (hK : ∀ h' r', FR h h' → RR h' r' → ex [46] r r' → (∀ z, z < n → r'.2.1 46 z = nI (mg f (f a) (f b) z)) → K none h') : Ev d (0, 0) MX12_merge [.ref 34, .int (nI n), .int (nI a), .int (nI b)] h K := by
  have fa := hf a ha
  have fb := hf b hb
  have ra : m_il h 46 (nI a) = some (nI (f a)) := by rw [o.il 46 12 (by decide) (by omega), A a ha]
  have rb : m_il h 46 (nI b) = some (nI (f b)) := by rw [o.il 46 12 (by decide) (by omega), A b hb]
  have loop : ∀ lo hi, lo = min (f a) (f b) → hi = max (f a) (f b) → Wm d (0, 0) JX12_merge 67 [some (.ref 34), some (.int (nI n)), none, none, some (.int (nI lo)), some (.int (nI hi)), some (.int 0)] [] h (fun r h' => h'.1 0 = h.1 0 ∧ K r h') := by
    intro lo hi elo ehi
    have key : ∀ c z h1 r1, z + c = n → FR h h1 → RR h1 r1 → ex [46] r r1 → (∀ y, y < n → r1.2.1 46 y = nI (if y < z then mg f (f a) (f b) y else f y)) → Wm d (0, 0) JX12_merge 67 [some (.ref 34), some (.int (nI n)), none, none, some (.int (nI lo)), some (.int (nI hi)), some (.int (nI z))] [] h1 (fun r h' => h'.1 0 = h.1 0 ∧ K r h') := by
      intro c
      induction c with
      | zero =>
        intro z h1 r1 hz f1 o1 x1 v1
        have hz : z = n := by omega
        subst hz
        exact bk_X12_merge_67 _ _ _ _ _ ⟨fun _ => ⟨f1.z, hK h1 r1 f1 o1 x1 (fun y hy => by rw [v1 y hy, if_pos hy])⟩, fun q => absurd (le_t (Nat.le_refl _) (by omega)) q⟩
      | succ c ih =>
        intro z h1 r1 hz f1 o1 x1 v1
        have hzn : z < n := by omega
        have fz := hf z hzn
        have rz : m_il h1 46 (nI z) = some (nI (f z)) := by rw [o1.il 46 12 (by decide) (by omega), v1 z hzn, if_neg (by omega)]
        refine bk_X12_merge_67 _ _ _ _ _ ⟨fun q => absurd q (le_f hzn (by omega)), fun _ => ⟨_, o1.f13, _, o1.f13, _, rz, fun q => ?_, fun q => ?_⟩⟩
        · obtain ⟨h2, e2, f2, o2⟩ := o1.is (x := nI (f z)) (j := z) 46 12 (by decide) (by omega)
          refine ⟨_, o1.f13, _, rz, h2, e2, ?_⟩
          rw [nI_1]
          refine ih (z + 1) h2 _ (by omega) (f1.tr f2) o2 (x1.tr (ex.wr (by simp))) (fun y hy => ?_)
          by_cases e : y = z
          · rw [e, wr_j, if_pos (by omega), mg_oth]
            intro w
            exact q (by rw [w, ehi])
          · rw [wr_i e, v1 y hy]
            by_cases w : y < z
            · rw [if_pos w, if_pos (by omega)]
            · rw [if_neg w, if_neg (by omega)]
        · obtain ⟨h2, e2, f2, o2⟩ := o1.is (x := nI lo) (j := z) 46 12 (by decide) (by omega)
          refine ⟨h2, e2, ?_⟩
          rw [nI_1]
          refine ih (z + 1) h2 _ (by omega) (f1.tr f2) o2 (x1.tr (ex.wr (by simp))) (fun y hy => ?_)
          by_cases e : y = z
          · have q := nI_inj (by omega) (by omega) q
            rw [e, wr_j, if_pos (by omega), mg_max _ _ _ (q.trans ehi), elo]
          · rw [wr_i e, v1 y hy]
            by_cases w : y < z
            · rw [if_pos w, if_pos (by omega)]
            · rw [if_neg w, if_neg (by omega)]
    exact key n 0 h r (by omega) FR.rf o ex.rf (fun y hy => by rw [if_neg (by omega)]; exact A y hy)
  refine en_X12_merge (bk_X12_merge_0 _ _ _ _ ⟨_, o.f13, _, ra, _, o.f13, _, rb, fun q => ?_, fun q => ?_⟩)
  · refine ⟨_, o.f13, _, rb, _, o.f13, _, ra, _, o.f13, _, rb, fun _ => ⟨_, o.f13, _, ra, ?_⟩, fun z => absurd q z⟩
    have q := (nI_leI (by omega) (by omega)).mp q
    exact loop (f b) (f a) (by omega) (by omega)
  · refine ⟨_, o.f13, _, ra, _, o.f13, _, ra, _, o.f13, _, rb, fun z => absurd z q, fun _ => ⟨_, o.f13, _, rb, ?_⟩⟩
    have q : f a < f b := by
      rcases Nat.lt_or_ge (f a) (f b) with w | w
      · exact w
      · exact absurd (le_t w (by omega)) q
    exact loop (f a) (f b) (by omega) (by omega)
theorem rblocks_ev {p n k u v : Nat} {t : Nat → Nat → Nat} (o : RR h r) (L : LC r p n k t) (hp : p < 13) (hn : n ≤ 12) (hk : k ≤ 8) (ht : ∀ j, j < k → ∀ i, i < n → t j i < n) (hu : u < n) (hv : v < n) (hK : ∀ h' r', FR h h' → RR h' r' → ex [44, 46] r r' → (∀ z, z < n → r'.2.1 46 z = nI (cn (fun z => blk n k t u v z == z) (blk n k t u v z))) → K (some (.int (nI (cn (fun z => blk n k t u v z == z) n)))) h') : Ev (d + 1) (0, 0) MX12_blocks [.ref 34, .int (nI p), .int (nI u), .int (nI v)] h K := by
  have hblk := blk_lb ht hu hv
  have hbl := blk_lt ht hu hv
  obtain ⟨B, eB⟩ : ∃ B, B = blk n k t u v := ⟨_, rfl⟩
  rw [← eB] at hblk hbl hK
  have hcn : ∀ m, cn (fun z => B z == z) m ≤ m := fun m => cn_le _ m
  -- numbers in place of labels
  have fin2 : ∀ c z h1 r1, z + c = n → FR h h1 → RR h1 r1 → ex [44, 46] r r1 → (∀ y, y < n → B y = y → r1.2.1 44 y = nI (cn (fun z => B z == z) y)) → (∀ y, y < n → r1.2.1 46 y = nI (if y < z then cn (fun z => B z == z) (B y) else B y)) → Wm (d + 1) (0, 0) JX12_blocks 228 [some (.ref 34), none, none, none, some (.int (nI n)), none, some (.int (nI (cn (fun z => B z == z) n))), some (.int (nI z)), none] [] h1 (fun r h' => h'.1 0 = h.1 0 ∧ K r h') := by
    intro c
    induction c with
    | zero =>
      intro z h1 r1 hz f1 o1 x1 u1 v1
      have hz : z = n := by omega
      subst hz
      exact bk_X12_blocks_228 _ _ _ _ ⟨fun _ => ⟨f1.z, hK h1 r1 f1 o1 x1 (fun y hy => by rw [v1 y hy, if_pos hy])⟩, fun q => absurd (le_t (Nat.le_refl _) (by omega)) q⟩
    | succ c ih =>
      intro z h1 r1 hz f1 o1 x1 u1 v1
      have hzn : z < n := by omega
      have bz := hbl z hzn
      have rz : m_il h1 46 (nI z) = some (nI (B z)) := by rw [o1.il 46 12 (by decide) (by omega), v1 z hzn, if_neg (by omega)]
      have rb : m_il h1 44 (nI (B z)) = some (nI (cn (fun z => B z == z) (B z))) := by rw [o1.il 44 12 (by decide) (by omega), u1 (B z) bz (hblk.1 z hzn).2.1]
      obtain ⟨h2, e2, f2, o2⟩ := o1.is (x := nI (cn (fun z => B z == z) (B z))) (j := z) 46 12 (by decide) (by omega)
      refine bk_X12_blocks_228 _ _ _ _ ⟨fun q => absurd q (le_f hzn (by omega)), fun _ => ⟨_, o1.f13, _, o1.f11, _, o1.f13, _, rz, _, rb, h2, e2, ?_⟩⟩
      rw [nI_1]
      refine ih (z + 1) h2 _ (by omega) (f1.tr f2) o2 (x1.tr (ex.wr (by simp))) (fun y hy e => by rw [wr_n (by decide)]; exact u1 y hy e) (fun y hy => ?_)
      by_cases e : y = z
      · rw [e, wr_j, if_pos (by omega)]
      · rw [wr_i e, v1 y hy]
        by_cases w : y < z
        · rw [if_pos w, if_pos (by omega)]
        · rw [if_neg w, if_neg (by omega)]
  -- numbers of the least ones
  have fin1 : ∀ c z h1 r1, z + c = n → FR h h1 → RR h1 r1 → ex [44, 46] r r1 → (∀ y, y < z → B y = y → r1.2.1 44 y = nI (cn (fun z => B z == z) y)) → (∀ y, y < n → r1.2.1 46 y = nI (B y)) → Wm (d + 1) (0, 0) JX12_blocks 188 [some (.ref 34), none, none, none, some (.int (nI n)), none, some (.int (nI (cn (fun z => B z == z) z))), some (.int (nI z)), none] [] h1 (fun r h' => h'.1 0 = h.1 0 ∧ K r h') := by
    intro c
    induction c with
    | zero =>
      intro z h1 r1 hz f1 o1 x1 u1 v1
      have hz : z = n := by omega
      subst hz
      refine bk_X12_blocks_188 _ _ _ _ ⟨fun _ => ?_, fun q => absurd (le_t (Nat.le_refl _) (by omega)) q⟩
      exact fin2 z 0 h1 r1 (by omega) f1 o1 x1 u1 (fun y hy => by rw [if_neg (by omega)]; exact v1 y hy)
    | succ c ih =>
      intro z h1 r1 hz f1 o1 x1 u1 v1
      have hzn : z < n := by omega
      have bz := hbl z hzn
      have ih := fun h1 r1 => ih (z + 1) h1 r1 (by omega)
      rw [cn_succ] at ih
      refine bk_X12_blocks_188 _ _ _ _ ⟨fun q => absurd q (le_f hzn (by omega)), fun _ => ⟨_, o1.f13, _, o1.il 46 12 (by decide) (by omega), ?_⟩⟩
      rw [v1 z hzn]
      refine ⟨fun q => ?_, fun q => ?_⟩
      · have nq : ¬ B z = z := fun e => q (by rw [e])
        rw [if_neg (by simp [nq])] at ih
        rw [nI_1]
        refine ih h1 r1 f1 o1 x1 (fun y hy e => ?_) v1
        by_cases w : y = z
        · rw [w] at e; exact absurd e nq
        · exact u1 y (by omega) e
      · have q := nI_inj (by omega) (by omega) q
        rw [if_pos (by simp [q])] at ih
        have := hcn z
        obtain ⟨h2, e2, f2, o2⟩ := o1.is (x := nI (cn (fun z => B z == z) z)) (j := z) 44 12 (by decide) (by omega)
        refine ⟨_, o1.f11, h2, e2, ?_⟩
        rw [nI_1, nI_1]
        refine ih h2 _ (f1.tr f2) o2 (x1.tr (ex.wr (by simp))) (fun y hy e => ?_) (fun y hy => by rw [wr_n (by decide)]; exact v1 y hy)
        by_cases w : y = z
        · rw [w, wr_j]
        · rw [wr_i w]; exact u1 y (by omega) e
  -- until nothing more is led together
  have clo : ∀ F h1 r1 f, fxn n f = F → FR h h1 → RR h1 r1 → ex [46] r r1 → bWy n k t u v f → (∀ z, z < n → f z < n) → (∀ z, z < n → r1.2.1 46 z = nI (f z)) → Wm (d + 1) (0, 0) JX12_blocks 44 [some (.ref 34), some (.int (nI p)), none, none, some (.int (nI n)), some (.int 1), none, none, none] [] h1 (fun r h' => h'.1 0 = h.1 0 ∧ K r h') := by
    intro F
    induction F using Nat.strongRecOn with
    | ind F ihF =>
      intro h1 r1 f0 hF f1 o1 x1 W1 l1 v1
      refine bk_X12_blocks_44 _ _ _ _ ⟨fun q => absurd q (by decide), fun _ => ?_⟩
      -- what a sweep keeps
      have sj : ∀ c j h2 r2 f (s : Int32), j + c = k → FR h h2 → RR h2 r2 → ex [46] r r2 → bWy n k t u v f → (∀ z, z < n → f z < n) → (∀ z, z < n → r2.2.1 46 z = nI (f z)) → ((s = 0 ∧ f = f0 ∧ ∀ j', j' < j → ∀ x y, x < n → y < x → f x = f y → f (t j' x) = f (t j' y)) ∨ (s = 1 ∧ fxn n f < F)) → Wm (d + 1) (0, 0) JX12_blocks 55 [some (.ref 34), some (.int (nI p)), none, none, some (.int (nI n)), some (.int s), some (.int (nI j)), none, none] [] h2 (fun r h' => h'.1 0 = h.1 0 ∧ K r h') := by
        intro c
        induction c with
        | zero =>
          intro j h2 r2 f s hj f2 o2 x2 W2 l2 v2 S2
          have hj : j = k := by omega
          subst hj
          have L2 := L.ex x2 (by simp) (by simp) (by simp)
          refine bk_X12_blocks_55 _ _ _ _ _ ⟨_, o2.f6, _, o2.il 39 13 (by decide) hp, ?_⟩
          rw [L2.2.1]
          refine ⟨fun _ => ?_, fun q => absurd (le_t (Nat.le_refl _) (by omega)) q⟩
          rcases S2 with ⟨hs, -, cl2⟩ | ⟨hs, lt2⟩
          · subst hs
            refine bk_X12_blocks_44 _ _ _ _ ⟨fun _ => ?_, fun q => absurd rfl q⟩
            have fb : bLb n j t u v f := by
              refine ⟨W2.1, W2.2, fun j' hj' x y hx hy e => ?_⟩
              rcases Nat.lt_trichotomy x y with w | w | w
              · exact (cl2 j' hj' y x hy w e.symm).symm
              · rw [w]
              · exact cl2 j' hj' x y hx w e
            have eq := bLb.uq ht hu hv fb hblk
            exact fin1 n 0 h2 r2 (by omega) f2 o2 (x2.wk (by simp)) (fun y hy => absurd hy (by omega)) (fun y hy => by rw [v2 y hy, eq y hy])
          · subst hs
            exact ihF _ lt2 h2 r2 f rfl f2 o2 x2 W2 l2 v2
        | succ c ihj =>
          intro j h2 r2 f s hj f2 o2 x2 W2 l2 v2 S2
          have L2 := L.ex x2 (by simp) (by simp) (by simp)
          refine bk_X12_blocks_55 _ _ _ _ _ ⟨_, o2.f6, _, o2.il 39 13 (by decide) hp, ?_⟩
          rw [L2.2.1]
          refine ⟨fun q => absurd q (le_f (by omega) (by omega)), fun _ => ?_⟩
          have sx : ∀ c x h2 r2 f (s : Int32), x + c = n → FR h h2 → RR h2 r2 → ex [46] r r2 → bWy n k t u v f → (∀ z, z < n → f z < n) → (∀ z, z < n → r2.2.1 46 z = nI (f z)) → ((s = 0 ∧ f = f0 ∧ (∀ j', j' < j → ∀ x y, x < n → y < x → f x = f y → f (t j' x) = f (t j' y)) ∧ ∀ x' y, x' < x → y < x' → f x' = f y → f (t j x') = f (t j y)) ∨ (s = 1 ∧ fxn n f < F)) → Wm (d + 1) (0, 0) JX12_blocks 69 [some (.ref 34), some (.int (nI p)), none, none, some (.int (nI n)), some (.int s), some (.int (nI j)), some (.int (nI x)), none] [] h2 (fun r h' => h'.1 0 = h.1 0 ∧ K r h') := by
            intro c
            induction c with
            | zero =>
              intro x h2 r2 f s hx f2 o2 x2 W2 l2 v2 S2
              have hx : x = n := by omega
              subst hx
              refine bk_X12_blocks_69 _ _ _ _ _ _ ⟨fun _ => ?_, fun q => absurd (le_t (Nat.le_refl _) (by omega)) q⟩
              rw [nI_1]
              refine ihj (j + 1) h2 r2 f s (by omega) f2 o2 x2 W2 l2 v2 ?_
              rcases S2 with ⟨a1, a2, a3, a4⟩ | a
              · refine Or.inl ⟨a1, a2, fun j' hj' x y hx hy => ?_⟩
                by_cases e : j' = j
                · rw [e]; exact a4 x y hx hy
                · exact a3 j' (by omega) x y hx hy
              · exact Or.inr a
            | succ c ihx =>
              intro x h2 r2 f s hx f2 o2 x2 W2 l2 v2 S2
              have hxn : x < n := by omega
              refine bk_X12_blocks_69 _ _ _ _ _ _ ⟨fun q => absurd q (le_f hxn (by omega)), fun _ => ?_⟩
              have sy : ∀ c y h2 r2 f (s : Int32), y + c = x → FR h h2 → RR h2 r2 → ex [46] r r2 → bWy n k t u v f → (∀ z, z < n → f z < n) → (∀ z, z < n → r2.2.1 46 z = nI (f z)) → ((s = 0 ∧ f = f0 ∧ (∀ j', j' < j → ∀ x y, x < n → y < x → f x = f y → f (t j' x) = f (t j' y)) ∧ (∀ x' y, x' < x → y < x' → f x' = f y → f (t j x') = f (t j y)) ∧ ∀ y', y' < y → f x = f y' → f (t j x) = f (t j y')) ∨ (s = 1 ∧ fxn n f < F)) → Wm (d + 1) (0, 0) JX12_blocks 79 [some (.ref 34), some (.int (nI p)), none, none, some (.int (nI n)), some (.int s), some (.int (nI j)), some (.int (nI x)), some (.int (nI y))] [] h2 (fun r h' => h'.1 0 = h.1 0 ∧ K r h') := by
                intro c
                induction c with
                | zero =>
                  intro y h2 r2 f s hy f2 o2 x2 W2 l2 v2 S2
                  have hy : y = x := by omega
                  subst hy
                  refine bk_X12_blocks_79 _ _ _ _ _ _ _ ⟨fun _ => ?_, fun q => absurd (le_t (Nat.le_refl _) (by omega)) q⟩
                  rw [nI_1]
                  refine ihx (y + 1) h2 r2 f s (by omega) f2 o2 x2 W2 l2 v2 ?_
                  rcases S2 with ⟨a1, a2, a3, a4, a5⟩ | a
                  · refine Or.inl ⟨a1, a2, a3, fun x' y' hx' hy' => ?_⟩
                    by_cases e : x' = y
                    · rw [e]; exact a5 y' (by omega)
                    · exact a4 x' y' (by omega) hy'
                  · exact Or.inr a
                | succ c ihy =>
                  intro y h2 r2 f s hy f2 o2 x2 W2 l2 v2 S2
                  have hyn : y < n := by omega
                  have L2 := L.ex x2 (by simp) (by simp) (by simp)
                  have tx := ht j (by omega) x hxn
                  have ty := ht j (by omega) y hyn
                  have fx := l2 x hxn
                  have fy := l2 y hyn
                  have ftx := l2 _ tx
                  have fty := l2 _ ty
                  refine bk_X12_blocks_79 _ _ _ _ _ _ _ ⟨fun q => absurd q (le_f (by omega) (by omega)), fun _ => ⟨_, o2.f13, _, o2.il 46 12 (by decide) (by omega), _, o2.f13, _, o2.il 46 12 (by decide) (by omega), ?_⟩⟩
                  rw [v2 x hxn, v2 y hyn, nI_1]
                  refine ⟨fun q => ?_, fun q => ⟨_, o2.f13, _, o2.1, ?_⟩⟩
                  · have nq : ¬ f x = f y := fun e => q (by rw [e])
                    refine ihy (y + 1) h2 r2 f s (by omega) f2 o2 x2 W2 l2 v2 ?_
                    rcases S2 with ⟨a1, a2, a3, a4, a5⟩ | a
                    · refine Or.inl ⟨a1, a2, a3, a4, fun y' hy' e => ?_⟩
                      by_cases b : y' = y
                      · rw [b] at e; exact absurd e nq
                      · exact a5 y' (by omega) e
                    · exact Or.inr a
                  · have q := nI_inj (by omega) (by omega) q
                    refine ratL_ev o2 L2 hp hk hn (by omega) hxn ⟨_, rfl, _, o2.il 46 12 (by decide) (by omega), _, o2.f13, _, o2.1, ?_⟩
                    refine ratL_ev o2 L2 hp hk hn (by omega) hyn ⟨_, rfl, _, o2.il 46 12 (by decide) (by omega), ?_⟩
                    rw [v2 _ tx, v2 _ ty]
                    refine ⟨fun q2 => ?_, fun q2 => ⟨_, o2.1, ?_⟩⟩
                    · have q2 := nI_inj (by omega) (by omega) q2
                      refine ihy (y + 1) h2 r2 f s (by omega) f2 o2 x2 W2 l2 v2 ?_
                      rcases S2 with ⟨a1, a2, a3, a4, a5⟩ | a
                      · refine Or.inl ⟨a1, a2, a3, a4, fun y' hy' e => ?_⟩
                        by_cases b : y' = y
                        · rw [b]; exact q2
                        · exact a5 y' (by omega) e
                      · exact Or.inr a
                    · have nq2 : f (t j x) ≠ f (t j y) := fun e => q2 (by rw [e])
                      refine ratL_ev o2 L2 hp hk hn (by omega) hxn ⟨_, rfl, _, o2.1, ?_⟩
                      refine ratL_ev o2 L2 hp hk hn (by omega) hyn ⟨_, rfl, _, o2.1, ?_⟩
                      refine rmerge_ev o2 hn l2 v2 tx ty (fun h3 r3 f3 o3 x3 v3 => ⟨rfl, ?_⟩)
                      have cxy : cgr n k t u v x y := by
                        have e1 := (W2.1 x hxn).2.2
                        have e2 := (W2.1 y hyn).2.2
                        rw [q] at e1
                        exact e1.tr e2.sy
                      refine ihy (y + 1) h3 r3 _ 1 (by omega) (f2.tr f3) o3 (x2.tr x3) ⟨mg_lbi (fun h => cgr.sy h) (fun h g => cgr.tr h g) W2.1 tx ty (cgr.st (by omega) hxn hyn cxy), mg_eq W2.2⟩ (mg_lt l2 ftx fty) v3 (Or.inr ⟨rfl, ?_⟩)
                      have lt := fxn_lt (n := n) (f := f) (a := t j x) (b := t j y) (fun z hz => ⟨(W2.1 z hz).1, (W2.1 z hz).2.1⟩) tx ty nq2
                      rcases S2 with ⟨a1, a2, a3, a4, a5⟩ | a
                      · rw [a2] at lt ⊢
                        omega
                      · omega
              refine sy x 0 h2 r2 f s (by omega) f2 o2 x2 W2 l2 v2 ?_
              rcases S2 with ⟨a1, a2, a3, a4⟩ | a
              · exact Or.inl ⟨a1, a2, a3, a4, fun y' hy' => absurd hy' (by omega)⟩
              · exact Or.inr a
          refine sx n 0 h2 r2 f s (by omega) f2 o2 x2 W2 l2 v2 ?_
          rcases S2 with ⟨a1, a2, a3⟩ | a
          · exact Or.inl ⟨a1, a2, a3, fun x' y hx' => absurd hx' (by omega)⟩
          · exact Or.inr a
      exact sj k 0 h1 r1 f0 0 (by omega) f1 o1 x1 W1 l1 v1 (Or.inl ⟨rfl, rfl, fun j' hj' => absurd hj' (by omega)⟩)
  -- each by itself
  have ini : ∀ c z h1 r1, z + c = n → FR h h1 → RR h1 r1 → ex [46] r r1 → (∀ y, y < z → r1.2.1 46 y = nI y) → Wm (d + 1) (0, 0) JX12_blocks 11 [some (.ref 34), some (.int (nI p)), some (.int (nI u)), some (.int (nI v)), some (.int (nI n)), some (.int (nI z)), none, none, none] [] h1 (fun r h' => h'.1 0 = h.1 0 ∧ K r h') := by
    intro c
    induction c with
    | zero =>
      intro z h1 r1 hz f1 o1 x1 v1
      have hz : z = n := by omega
      subst hz
      refine bk_X12_blocks_11 _ _ _ _ _ _ ⟨fun _ => ⟨_, o1.1, ?_⟩, fun q => absurd (le_t (Nat.le_refl _) (by omega)) q⟩
      have h0 : lbi z (cgr z k t u v) (fun i => i) := fun x _ => ⟨Nat.le_refl _, rfl, cgr.rf x⟩
      refine rmerge_ev (f := fun i => i) o1 hn (fun _ h => h) v1 hu hv (fun h2 r2 f2 o2 x2 v2 => ⟨rfl, ?_⟩)
      exact clo _ h2 r2 _ rfl (f1.tr f2) o2 (x1.tr x2) ⟨mg_lbi (fun h => cgr.sy h) (fun h g => cgr.tr h g) h0 hu hv cgr.uv, mg_tog (f := fun i => i)⟩ (mg_lt (fun _ h => h) hu hv) v2
    | succ c ih =>
      intro z h1 r1 hz f1 o1 x1 v1
      obtain ⟨h2, e2, f2, o2⟩ := o1.is (x := nI z) (j := z) 46 12 (by decide) (by omega)
      refine bk_X12_blocks_11 _ _ _ _ _ _ ⟨fun q => absurd q (le_f (by omega) (by omega)), fun _ => ⟨_, o1.f13, h2, e2, ?_⟩⟩
      rw [nI_1]
      refine ih (z + 1) h2 _ (by omega) (f1.tr f2) o2 (x1.tr (ex.wr (by simp))) (fun y hy => ?_)
      by_cases e : y = z
      · rw [e, wr_j]
      · rw [wr_i e]; exact v1 y (by omega)
  refine en_X12_blocks (bk_X12_blocks_0 _ _ _ _ ⟨_, o.f5, _, o.il 38 13 (by decide) hp, ?_⟩)
  rw [L.1]
  exact ini n 0 h r (by omega) FR.rf o ex.rf (fun y hy => absurd hy (by omega))
theorem r_block {x a b z : Int32} (F : RFs h st) (w : wfS st) (hK : ∀ h', RFs h' (opBlock st x a b z).2 → FR h h' → K (some (.int (opBlock st x a b z).1)) h') : Ev (d + 3) (0, 0) MX12_block [.ref 34, .int x, .int a, .int b, .int z] h K := by
  obtain ⟨r, o, s⟩ := F
  obtain ⟨h1, e1, f1, o1⟩ := o.p0 (x := 0)
  have s1 : rfS (w0 r 0) st := s.kp w kp.w0 s.1
  refine en_X12_block (bk_X12_block_0 _ _ _ _ _ ⟨h1, e1, ?_⟩)
  refine isPlace_ev (fun q => ⟨_, rfl, fun z => absurd rfl z, fun _ => ⟨f1.z, ?_⟩⟩) (fun p hp e q => ⟨_, rfl, fun _ => ⟨_, o1.f1, _, o1.1, ?_⟩, fun z => absurd z (by decide)⟩)
  · have e : opBlock st x a b z = badO st := by unfold opBlock; rw [q]
    rw [e] at hK
    exact hK h1 ⟨_, o1, s1⟩ f1
  subst e
  have unf : opBlock st (nI p) a b z = match st.2.1 p with
    | none => fndO st 1
    | some c => if ¬ pn c.1 c.2.1 c.2.2 = 1 then fndO st 3 else match ixI a c.1 with
      | none => badO st
      | some u => match ixI b c.1 with
        | none => badO st
        | some v => if z = -1 then finO (nI (cn (fun z => blk c.1 c.2.1 c.2.2 u v z == z) c.1)) st else match ixI z c.1 with
          | none => badO st
          | some i => finO (nI (cn (fun z => blk c.1 c.2.1 c.2.2 u v z == z) (blk c.1 c.2.1 c.2.2 u v i))) st := by unfold opBlock; rw [q]; rfl
  refine rlook_ev o1 hp (s1.2.2.1 p hp) (w.2.1 p hp) (fun hv h' r' f' o' k' t' => ⟨_, rfl, fun z => absurd z (by decide), fun _ => ⟨(f1.tr f').z, ?_⟩⟩) (fun n k t hv hw h' r' f' o' k' t' => ⟨_, rfl, fun _ => ⟨_, o'.1, ?_⟩, fun z => absurd (by decide) z⟩) (fun n k t hv _ nw h' r' f' o' k' t' => ⟨_, rfl, fun z => absurd z (by decide), fun _ => ⟨(f1.tr f').z, ?_⟩⟩)
  · rw [hv] at unf
    rw [unf] at hK
    exact hK h' ⟨r', o', s1.kp w k' t'⟩ (f1.tr f')
  · rw [hv] at unf
    simp only at unf
    have hw1 : pn n k t = 1 := hw.resolve_left (by decide)
    rw [if_neg (fun q => q hw1)] at unf
    obtain ⟨w1', w2', w3', w4', w5'⟩ := w.2.1 p hp n k t hv
    have hL := s1.2.2.1 p hp
    rw [hv] at hL
    have hL : LC (w0 r 0) p n k t := hL
    have L' : LC r' p n k t := kp.LC k' hp w2' w4' hL
    have F' := f1.tr f'
    have bad : opBlock st (nI p) a b z = badO st → ∃ h2, m_put h' 34 11 1 (.int (w0 r 0).1.2.1) = some h2 ∧ (h2.1 0 = h.1 0 ∧ K (some (.int (-1000001))) h2) := fun e => by
      obtain ⟨h2, e2, f2, o2⟩ := o'.p1 (x := (w0 r 0).1.2.1)
      rw [e] at hK
      exact ⟨h2, e2, (F'.tr f2).z, hK h2 ⟨_, o2, s1.kp w (k'.tr kp.w1) s1.1⟩ (F'.tr f2)⟩
    refine isSheet_ev o' (by omega) L'.1 w2' (fun q2 => ⟨_, rfl, fun _ => bad (by rw [unf, q2]), fun z => absurd rfl z⟩) (fun u hu e q2 => ⟨_, rfl, fun z => absurd z (by decide), fun _ => ⟨_, o'.1, ?_⟩⟩)
    subst e
    rw [q2] at unf
    simp only at unf
    refine isSheet_ev o' (by omega) L'.1 w2' (fun q3 => ⟨_, rfl, fun _ => bad (by rw [unf, q3]), fun z => absurd rfl z⟩) (fun v hv' e q3 => ⟨_, rfl, fun z => absurd z (by decide), fun _ => ?_⟩)
    subst e
    rw [q3] at unf
    simp only at unf
    have ht : ∀ j, j < k → ∀ i, i < n → t j i < n := fun j hj => (w5' j hj).1
    refine ⟨fun e => ⟨_, o'.1, ?_⟩, fun e => ⟨_, o'.1, ?_⟩⟩
    · rw [if_pos e] at unf
      rw [unf] at hK
      refine rblocks_ev (d := d + 1) o' L' (by omega) w2' w4' ht hu hv' (fun h2 r2 f2 o2 x2 v2 => ⟨_, rfl, fun q => absurd e q, fun _ => ⟨(F'.tr f2).z, ?_⟩⟩)
      exact hK h2 ⟨r2, o2, s1.kp w (k'.tr (x2.kp (by simp))) (by rw [x2.1]; exact t')⟩ (F'.tr f2)
    · rw [if_neg e] at unf
      refine isSheet_ev o' (by omega) L'.1 w2' (fun q4 => ⟨_, rfl, fun z => absurd rfl z, fun _ => bad (by rw [unf, q4])⟩) (fun i hi e2 q4 => ⟨_, rfl, fun _ => ⟨_, o'.1, ?_⟩, fun z => absurd z (by decide)⟩)
      rw [q4] at unf
      rw [unf] at hK
      subst e2
      refine rblocks_ev (d := d + 1) o' L' (by omega) w2' w4' ht hu hv' (fun h2 r2 f2 o2 x2 v2 => ⟨_, rfl, fun _ => ⟨_, o2.f13, _, o2.il 46 12 (by decide) (by omega), (F'.tr f2).z, ?_⟩, fun q => absurd q e⟩)
      rw [v2 i hi]
      exact hK h2 ⟨r2, o2, s1.kp w (k'.tr (x2.kp (by simp))) (by rw [x2.1]; exact t')⟩ (F'.tr f2)
  · rw [hv] at unf
    simp only at unf
    rw [if_pos nw] at unf
    rw [unf] at hK
    exact hK h' ⟨r', o', s1.kp w k' t'⟩ (f1.tr f')
theorem r_between {x y a b : Int32} (F : RFs h st) (w : wfS st) (hK : ∀ h', RFs h' (opBetween st x y a b).2 → FR h h' → K (some (.int (opBetween st x y a b).1)) h') : Ev (d + 4) (0, 0) MX12_between [.ref 34, .int x, .int y, .int a, .int b] h K := by
  obtain ⟨r, o, s⟩ := F
  obtain ⟨h1, e1, f1, o1⟩ := o.p0 (x := 0)
  have s1 : rfS (w0 r 0) st := s.kp w kp.w0 s.1
  refine en_X12_between (bk_X12_between_0 _ _ _ _ _ ⟨h1, e1, ?_⟩)
  have bad0 : opBetween st x y a b = badO st → h1.1 0 = h.1 0 ∧ K (some (.int (-1000001))) h1 := fun e => by
    rw [e] at hK
    exact ⟨f1.z, hK h1 ⟨_, o1, s1⟩ f1⟩
  refine isPlace_ev (fun q => ⟨_, rfl, fun _ => bad0 (by unfold opBetween; rw [q]), fun z => absurd rfl z⟩) (fun p0 hp0 e q0 => ⟨_, rfl, fun z => absurd z (by decide), fun _ => ?_⟩)
  subst e
  refine isPlace_ev (fun q => ⟨_, rfl, fun z => absurd rfl z, fun _ => bad0 (by unfold opBetween; rw [q0, q])⟩) (fun p hp e qp => ⟨_, rfl, fun _ => ⟨_, o1.f1, _, o1.1, ?_⟩, fun z => absurd z (by decide)⟩)
  subst e
  have unf : opBetween st (nI p0) (nI p) a b = match st.2.1 p with
      | none => fndO st 1
      | some c => if ¬ pn c.1 c.2.1 c.2.2 = 1 then fndO st 3 else match ixI a c.1 with
        | none => badO st
        | some u => match ixI b c.1 with
          | none => badO st
          | some v => shvO st p0 (rk (bms c.1 (blk c.1 c.2.1 c.2.2 u v)) c.1) c.2.1 (nrw c.1 (bms c.1 (blk c.1 c.2.1 c.2.2 u v)) (blk c.1 c.2.1 c.2.2 u v) c.2.2) := by
    unfold opBetween
    rw [q0, qp]
    rfl
  refine rlook_ev (d := d + 1) o1 hp (s1.2.2.1 p hp) (w.2.1 p hp) (fun hv h' r' f' o' k' t' => ⟨_, rfl, fun z => absurd z (by decide), fun _ => ⟨(f1.tr f').z, ?_⟩⟩) (fun n k t hv hw h' r' f' o' k' t' => ⟨_, rfl, fun _ => ⟨_, o'.1, ?_⟩, fun z => absurd (by decide) z⟩) (fun n k t hv _ nw h' r' f' o' k' t' => ⟨_, rfl, fun z => absurd z (by decide), fun _ => ⟨(f1.tr f').z, ?_⟩⟩)
  · rw [hv] at unf
    rw [unf] at hK
    exact hK h' ⟨r', o', s1.kp w k' t'⟩ (f1.tr f')
  · rw [hv] at unf
    simp only at unf
    have hw1 : pn n k t = 1 := hw.resolve_left (by decide)
    rw [if_neg (fun q => q hw1)] at unf
    obtain ⟨w1', w2', w3', w4', w5'⟩ := w.2.1 p hp n k t hv
    have hL := s1.2.2.1 p hp
    rw [hv] at hL
    have hL : LC (w0 r 0) p n k t := hL
    have L' : LC r' p n k t := kp.LC k' hp w2' w4' hL
    have F' := f1.tr f'
    have bad : opBetween st (nI p0) (nI p) a b = badO st → ∃ h2, m_put h' 34 11 1 (.int (w0 r 0).1.2.1) = some h2 ∧ (h2.1 0 = h.1 0 ∧ K (some (.int (-1000001))) h2) := fun e => by
      obtain ⟨h2, e2, f2, o2⟩ := o'.p1 (x := (w0 r 0).1.2.1)
      rw [e] at hK
      exact ⟨h2, e2, (F'.tr f2).z, hK h2 ⟨_, o2, s1.kp w (k'.tr kp.w1) s1.1⟩ (F'.tr f2)⟩
    refine isSheet_ev o' (by omega) L'.1 w2' (fun q2 => ⟨_, rfl, fun _ => bad (by rw [unf, q2]), fun z => absurd rfl z⟩) (fun u hu e q2 => ⟨_, rfl, fun z => absurd z (by decide), fun _ => ⟨_, o'.1, ?_⟩⟩)
    subst e
    rw [q2] at unf
    simp only at unf
    refine isSheet_ev o' (by omega) L'.1 w2' (fun q3 => ⟨_, rfl, fun z => absurd rfl z, fun _ => bad (by rw [unf, q3])⟩) (fun v hv' e q3 => ⟨_, rfl, fun _ => ⟨_, o'.1, ?_⟩, fun z => absurd z (by decide)⟩)
    subst e
    rw [q3] at unf
    simp only at unf
    rw [unf] at hK
    have ht : ∀ j, j < k → ∀ i, i < n → t j i < n := fun j hj => (w5' j hj).1
    obtain ⟨ok1, ok2⟩ := blk_ok w5' hu hv'
    refine rblocks_ev (d := d + 2) o' L' (by omega) w2' w4' ht hu hv' (fun h2 r2 f2 o2 x2 v2 => ⟨_, rfl, ?_⟩)
    have hblk := blk_lb ht hu hv'
    have hbl := blk_lt ht hu hv'
    obtain ⟨B, eB⟩ : ∃ B, B = blk n k t u v := ⟨_, rfl⟩
    rw [← eB] at hblk hbl hK ok1 ok2 v2 ⊢
    obtain ⟨m, em⟩ : ∃ m, m = bms n B := ⟨_, rfl⟩
    rw [← em] at hK ok1 ok2
    have mb : ∀ x, x < n → (m.testBit x = true ↔ B x = x) := fun x hx => by rw [em]; exact bms_in hx
    have cr : ∀ z, z ≤ n → cn (fun z => B z == z) z = rk m z := fun z hz => cn_congr (fun i hi => by
      have := mb i (by omega)
      by_cases e : B i = i
      · rw [this.mpr e]; simp [e]
      · have : m.testBit i = false := by
          cases q : m.testBit i
          · rfl
          · exact absurd (this.mp q) e
        rw [this]; simp [e])
    have rl : ∀ x, rk m x ≤ x := fun x => cn_le _ _
    rw [cr n (Nat.le_refl _)]
    have F2 := F'.tr f2
    have k2 := k'.tr (x2.kp (by simp))
    have L2 := kp.LC k2 hp w2' w4' hL
    obtain ⟨h5, e5, f5, o5⟩ := o2.is (x := nI (rk m n)) (j := 10) 38 13 (by decide) (by decide)
    obtain ⟨h6, e6, f6, o6⟩ := o5.is (x := nI k) (j := 10) 39 13 (by decide) (by decide)
    refine ⟨_, o2.f5, h5, e5, _, o5.f6, _, o5.f6, _, o5.il 39 13 (by decide) (by omega), h6, ?_, ?_⟩
    · rw [show (wr r2 38 10 (nI (rk m n))).2.1 39 p = nI k by rw [wr_n (by decide)]; exact L2.2.1]
      exact e6
    obtain ⟨r6, er6⟩ : ∃ r6, r6 = wr (wr r2 38 10 (nI (rk m n))) 39 10 (nI k) := ⟨_, rfl⟩
    rw [← er6] at o6
    have k6 : kp (w0 r 0) r6 := by rw [er6]; exact (k2.tr (kp_wr38 (by omega))).tr (kp_wr39 (by omega))
    have a38 : r6.2.1 38 10 = nI (rk m n) := by rw [er6, wr_n (by decide), wr_j]
    have a39 : r6.2.1 39 10 = nI k := by rw [er6, wr_j]
    have t6 : r6.1.2.1 = 0 := by rw [er6]; show r2.1.2.1 = 0; rw [x2.1]; exact t'
    have g6 : ∀ z, z < n → r6.2.1 46 z = nI (rk m (B z)) := fun z hz => by rw [er6, wr_n (by decide), wr_n (by decide), v2 z hz, cr (B z) (by have := hbl z hz; omega)]
    have bB : ∀ z, z < n → m.testBit (B z) = true := fun z hz => (mb _ (hbl z hz)).mpr (hblk.1 z hz).2.1
    have outer : ∀ c j h7 r7, j + c = k → FR h h7 → RR h7 r7 → ex [40] r6 r7 → kp (w0 r 0) r7 → (∀ j', j' < j → ∀ x, x < n → r7.2.1 40 (960 + 12 * j' + rk m (B x)) = nI (rk m (B (t j' x)))) → Wm (d + 3 + 1) (0, 0) JX12_between 107 [some (.ref 34), some (.int (nI p0)), some (.int (nI p)), none, none, none, none, none, some (.int (nI j)), none] [] h7 (fun r h' => h'.1 0 = h.1 0 ∧ K r h') := by
      intro c
      induction c with
      | zero =>
        intro j h7 r7 hj f7 o7 x7 k7 a7
        have hj : j = k := by omega
        subst hj
        have L7 := kp.LC k7 hp w2' w4' hL
        refine bk_X12_between_107 _ _ _ _ ⟨_, o7.f6, _, o7.il 39 13 (by decide) (by omega), ?_⟩
        rw [L7.2.1]
        refine ⟨fun _ => ⟨_, o7.1, ?_⟩, fun q => absurd (le_t (Nat.le_refl _) (by omega)) q⟩
        have s7 : rfS r7 (stS st 0) := s1.kp w k7 (by rw [x7.1]; exact t6)
        refine rlay_ev o7 s7 w hp0 (t := nrw n m B t) (n := rk m n) (k := j) ⟨by rw [x7.at 10 (by simp)]; exact a38, by rw [x7.at 10 (by simp)]; exact a39, fun j' hj' y hy => ?_⟩ ok1 (Nat.le_trans (rl n) w2') w3' w4' ok2 (fun h8 R8 f8 => ⟨_, rfl, (f7.tr f8).z, hK h8 R8 (f7.tr f8)⟩)
        obtain ⟨x, hx, bx, ex⟩ := rk_surj n y hy
        subst ex
        have : nrw n m B t j' (rk m x) = rk m (B (t j' x)) := nwg_at (f := B) bx n hx
        rw [this]
        have := a7 j' hj' x hx
        rw [(mb x hx).mp bx] at this
        exact this
      | succ c ih =>
        intro j h7 r7 hj f7 o7 x7 k7 a7
        have L7 := kp.LC k7 hp w2' w4' hL
        refine bk_X12_between_107 _ _ _ _ ⟨_, o7.f6, _, o7.il 39 13 (by decide) (by omega), ?_⟩
        rw [L7.2.1]
        refine ⟨fun q => absurd q (le_f (by omega) (by omega)), fun _ => ?_⟩
        have inner : ∀ c x h8 r8, x + c = n → FR h h8 → RR h8 r8 → ex [40] r6 r8 → kp (w0 r 0) r8 → (∀ j', j' < j → ∀ x, x < n → r8.2.1 40 (960 + 12 * j' + rk m (B x)) = nI (rk m (B (t j' x)))) → (∀ x', x' < x → r8.2.1 40 (960 + 12 * j + rk m (B x')) = nI (rk m (B (t j x')))) → Wm (d + 3 + 1) (0, 0) JX12_between 121 [some (.ref 34), some (.int (nI p0)), some (.int (nI p)), none, none, none, none, none, some (.int (nI j)), some (.int (nI x))] [] h8 (fun r h' => h'.1 0 = h.1 0 ∧ K r h') := by
          intro c
          induction c with
          | zero =>
            intro x h8 r8 hx f8 o8 x8 k8 a8 b8
            have hx : x = n := by omega
            subst hx
            have L8 := kp.LC k8 hp w2' w4' hL
            refine bk_X12_between_121 _ _ _ _ _ ⟨_, o8.f5, _, o8.il 38 13 (by decide) (by omega), ?_⟩
            rw [L8.1]
            refine ⟨fun _ => ?_, fun q => absurd (le_t (Nat.le_refl _) (by omega)) q⟩
            rw [nI_1]
            refine ih (j + 1) h8 r8 (by omega) f8 o8 x8 k8 (fun j' hj' y hy => ?_)
            by_cases e : j' = j
            · rw [e]; exact b8 y hy
            · exact a8 j' (by omega) y hy
          | succ c ihc =>
            intro x h8 r8 hx f8 o8 x8 k8 a8 b8
            have hxn : x < n := by omega
            have L8 := kp.LC k8 hp w2' w4' hL
            have tx := ht j (by omega) x hxn
            have r1 := rl (B x)
            have b1 := hbl x hxn
            have r2 := rl (B (t j x))
            have b2 := hbl _ tx
            refine bk_X12_between_121 _ _ _ _ _ ⟨_, o8.f5, _, o8.il 38 13 (by decide) (by omega), ?_⟩
            rw [L8.1]
            refine ⟨fun q => absurd q (le_f (by omega) (by omega)), fun _ => ⟨_, o8.f13, _, o8.il 46 12 (by decide) (by omega), _, o8.f13, _, o8.1, ?_⟩⟩
            rw [x8.at x (by simp), g6 x hxn]
            refine ratL_ev o8 L8 (by omega) w4' w2' (by omega) hxn ⟨_, rfl, _, o8.il 46 12 (by decide) (by omega), _, o8.1, ?_⟩
            rw [x8.at _ (by simp), g6 _ tx]
            refine rput_ev (p := 10) o8 (by omega) (fun h9 f9 o9 => ⟨rfl, ?_⟩)
            rw [nI_1]
            refine ihc (x + 1) h9 _ (by omega) (f8.tr f9) o9 (x8.tr (ex.wr (by simp))) (k8.tr (kp_wr40 (by omega))) (fun j' hj' y hy => ?_) (fun x' hx' => ?_)
            · have := rl (B y)
              have := hbl y hy
              rw [wr_i (by omega)]
              exact a8 j' hj' y hy
            · by_cases e : rk m (B x') = rk m (B x)
              · have e2 : B x' = B x := rk_inj (bB x' (by omega)) (bB x hxn) e
                rw [e, show 960 + 12 * j + rk m (B x) = 96 * 10 + 12 * j + rk m (B x) by omega, wr_j, hblk.2.2 j (by omega) x' x (by omega) hxn e2]
              · rw [wr_i (by omega)]
                exact b8 x' (by
                  rcases Nat.lt_or_ge x' x with q | q
                  · exact q
                  · exact absurd (by rw [show x' = x by omega]) e)
        exact inner n 0 h7 r7 (by omega) f7 o7 x7 k7 a7 (fun x' hx' => absurd hx' (by omega))
    exact outer k 0 h6 r6 (by omega) ((F2.tr f5).tr f6) o6 ex.rf k6 (fun j' hj' => absurd hj' (by omega))
  · rw [hv] at unf
    simp only at unf
    rw [if_pos nw] at unf
    rw [unf] at hK
    exact hK h' ⟨r', o', s1.kp w k' t'⟩ (f1.tr f')
end RefBlocks

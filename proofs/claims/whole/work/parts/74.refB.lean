/-! the reference: parts -/
def cm (n : Nat) (A : Nat → Int32) (c : Int32) : Nat := cn (fun z => decide (¬ A z = c)) n
theorem cm_congr {n : Nat} {A B : Nat → Int32} {c : Int32} (h : ∀ z, z < n → A z = B z) : cm n A c = cm n B c := cn_congr (fun z hz => by rw [h z hz])
theorem cm_lt {n : Nat} {A B : Nat → Int32} {c : Int32} {y : Nat} (hy : y < n) (hA : ¬ A y = c) (hB : B y = c) (h : ∀ z, z < n → z ≠ y → B z = A z) : cm n B c < cm n A c := by
  have key : ∀ m, m ≤ n → cn (fun z => decide (¬ B z = c)) m + (if y < m then 1 else 0) = cn (fun z => decide (¬ A z = c)) m := by
    intro m
    induction m with
    | zero => intro _; rfl
    | succ m ih =>
      intro hm
      rw [cn_succ, cn_succ, ← ih (by omega)]
      by_cases e : m = y
      · subst e
        rw [if_neg (show ¬ m < m by omega), if_pos (show m < m + 1 by omega), if_neg (by simp [hB]), if_pos (by simp [hA])]
      · rw [h m (by omega) e]
        by_cases w : y < m
        · rw [if_pos w, if_pos (show y < m + 1 by omega)]; omega
        · rw [if_neg w, if_neg (show ¬ y < m + 1 by omega)]; omega
  have := key n (Nat.le_refl _)
  rw [if_pos hy] at this
  unfold cm
  omega
section RefParts
variable {d : Nat} {h : mH} {r : rst} {K : Option Value → mH → Prop} {p n k : Nat} {t : Nat → Nat → Nat}
theorem rparts_ev (o : RR h r) (L : LC r p n k t) (hp : p < 13) (hn : n ≤ 12) (hk : k ≤ 8) (hpm : ∀ j, j < k → pm n (t j)) (hK : ∀ h' r', FR h h' → RR h' r' → ex [43] r r' → (∀ x, x < n → r'.2.1 43 x = nI (pix n k t x)) → K (some (.int (nI (pn n k t)))) h') : Ev (d + 1) (0, 0) MX12_parts [.ref 34, .int (nI p)] h K := by
  have ht : ∀ j, j < k → ∀ i, i < n → t j i < n := fun j hj => (hpm j hj).1
  have hf := ltj_mnl ht
  have hpix : ∀ z, pix n k t z = cn (fun z => ltj n t k z == z) (ltj n t k z) := fun _ => rfl
  have hpn : pn n k t = cn (fun z => ltj n t k z == z) n := rfl
  obtain ⟨f, ef⟩ : ∃ f, f = ltj n t k := ⟨_, rfl⟩
  rw [← ef] at hf hpix hpn
  have hle : ∀ x, x < n → f x ≤ x := fun x hx => (hf.1 x hx).1
  have hff : ∀ x, x < n → f (f x) = f x := fun x hx => hf.2 (f x) x (by have := hle x hx; omega) hx (hf.1 x hx).2.sy
  have hcn : ∀ m, cn (fun z => f z == z) m ≤ m := fun m => cn_le _ m
  obtain ⟨old, eold⟩ : ∃ old : Nat → Nat → Int32, ∀ x z, old x z = if f z < x then nI (pix n k t z) else -1 := ⟨_, fun _ _ => rfl⟩
  refine en_X12_parts (bk_X12_parts_0 _ _ ⟨_, o.f5, _, o.il 38 13 (by decide) hp, ?_⟩)
  rw [L.1]
  have scan : ∀ m x h1 r1, x + m = n → FR h h1 → RR h1 r1 → ex [43] r r1 → (∀ z, z < n → r1.2.1 43 z = old x z) → Wm (d + 1) (0, 0) JX12_parts 32 [some (.ref 34), some (.int (nI p)), some (.int (nI n)), some (.int (nI (cn (fun z => f z == z) x))), some (.int (nI x)), none, none, none, none] [] h1 (fun r h' => h'.1 0 = h.1 0 ∧ K r h') := by
    intro m
    induction m with
    | zero =>
      intro x h1 r1 hx f1 o1 x1 v1
      have hx : x = n := by omega
      subst hx
      refine bk_X12_parts_32 _ _ _ _ _ ⟨fun _ => ⟨f1.z, ?_⟩, fun q => absurd (le_t (Nat.le_refl _) (by omega)) q⟩
      rw [← hpn]
      refine hK h1 r1 f1 o1 x1 (fun z hz => ?_)
      rw [v1 z hz, eold, if_pos (by have := hle z hz; omega)]
    | succ m ih =>
      intro x h1 r1 hx f1 o1 x1 v1
      have hxn : x < n := by omega
      refine bk_X12_parts_32 _ _ _ _ _ ⟨fun q => absurd q (le_f hxn (by omega)), fun _ => ⟨_, o1.f10, _, o1.il 43 12 (by decide) (by omega), ?_⟩⟩
      rw [v1 x hxn, eold]
      have nxt := ih (x + 1)
      rw [cn_succ] at nxt
      by_cases w : f x < x
      · have hpx : pix n k t x ≤ 12 := by rw [hpix]; have := hcn (f x); omega
        rw [if_pos w]
        refine ⟨fun _ => ?_, fun q => absurd (nI_pos' (by omega)) q⟩
        rw [nI_1]
        rw [if_neg (by simp; omega), Nat.add_zero] at nxt
        refine nxt h1 r1 (by omega) f1 o1 x1 (fun z hz => ?_)
        rw [v1 z hz, eold, eold]
        by_cases e : f z < x
        · rw [if_pos e, if_pos (by omega)]
        · have : ¬ f z = x := fun q => by have := hff z hz; rw [q] at this; omega
          rw [if_neg e, if_neg (by omega)]
      · have fx : f x = x := by have := hle x hxn; omega
        rw [if_neg w]
        refine ⟨fun q => absurd q (by decide), fun _ => ?_⟩
        obtain ⟨c, ec⟩ : ∃ c, c = cn (fun z => f z == z) x := ⟨_, rfl⟩
        rw [if_pos (by simp [fx]), ← ec] at nxt
        rw [← ec]
        have hc12 : c ≤ x := by rw [ec]; exact hcn x
        obtain ⟨h2, e2, f2, o2⟩ := o1.is (x := nI c) (j := x) 43 12 (by decide) (by omega)
        refine ⟨_, o1.f10, h2, e2, ?_⟩
        -- labels so far
        have onc : ∀ z, z < n → ¬ old x z = nI c := fun z hz => by
          rw [eold]
          by_cases e : f z < x
          · rw [if_pos e, hpix]
            have fl : (fun z => f z == z) (f z) = true := by simp [hff z hz]
            have : cn (fun z => f z == z) (f z) < c := by
              have h1 : cn (fun z => f z == z) (f z + 1) ≤ cn (fun z => f z == z) x := cn_mono (by omega)
              rw [cn_succ, if_pos fl] at h1
              omega
            exact ne_f (by omega) (by omega) (by omega)
          · rw [if_neg e]
            intro q
            have q1 := congrArg Int32.toInt q
            rw [nI_toInt (by omega)] at q1
            have : (-1 : Int32).toInt = -1 := by decide
            omega
        have clo : ∀ F h1 r1, cm n (r1.2.1 43) (nI c) = F → FR h h1 → RR h1 r1 → ex [43] r r1 → r1.2.1 43 x = nI c → (∀ z, z < n → (r1.2.1 43 z = nI c ∧ eqv n k t x z) ∨ (r1.2.1 43 z = old x z ∧ ¬ r1.2.1 43 z = nI c)) → Wm (d + 1) (0, 0) JX12_parts 59 [some (.ref 34), some (.int (nI p)), some (.int (nI n)), some (.int (nI c)), some (.int (nI x)), some (.int 1), none, none, none] [] h1 (fun r h' => h'.1 0 = h.1 0 ∧ K r h') := by
          intro F
          induction F using Nat.strongRecOn with
          | ind F ihF =>
            intro h1 r1 hF f1 o1 x1 vx J1
            refine bk_X12_parts_59 _ _ _ _ _ _ ⟨fun q => absurd q (by decide), fun _ => ?_⟩
            have sw : ∀ m y h2 r2 (s : Int32), y + m = n → FR h h2 → RR h2 r2 → ex [43] r r2 → r2.2.1 43 x = nI c → (∀ z, z < n → (r2.2.1 43 z = nI c ∧ eqv n k t x z) ∨ (r2.2.1 43 z = old x z ∧ ¬ r2.2.1 43 z = nI c)) → ((s = 0 ∧ (∀ z, z < n → r2.2.1 43 z = r1.2.1 43 z) ∧ ∀ y', y' < y → ∀ j, j < k → r2.2.1 43 y' = nI c → r2.2.1 43 (t j y') = nI c) ∨ (s = 1 ∧ cm n (r2.2.1 43) (nI c) < F)) → Wm (d + 1) (0, 0) JX12_parts 70 [some (.ref 34), some (.int (nI p)), some (.int (nI n)), some (.int (nI c)), some (.int (nI x)), some (.int s), some (.int (nI y)), none, none] [] h2 (fun r h' => h'.1 0 = h.1 0 ∧ K r h') := by
              intro m
              induction m with
              | zero =>
                intro y h2 r2 s hy f2 o2 x2 vx2 J2 S2
                have hy : y = n := by omega
                subst hy
                refine bk_X12_parts_70 _ _ _ _ _ _ _ ⟨fun _ => ?_, fun q => absurd (le_t (Nat.le_refl _) (by omega)) q⟩
                rcases S2 with ⟨hs, -, cl2⟩ | ⟨hs, lt2⟩
                · subst hs
                  refine bk_X12_parts_59 _ _ _ _ _ _ ⟨fun _ => ?_, fun q => absurd rfl q⟩
                  rw [nI_1, nI_1]
                  have hcl : cl y k t (fun z => r2.2.1 43 z = nI c) := cl_of hpm (fun j hj i hi q => cl2 i hi j hj q)
                  refine nxt h2 r2 (by omega) f2 o2 x2 (fun z hz => ?_)
                  rw [eold]
                  by_cases e : eqv y k t x z
                  · have fz : f z = x := by rw [← hf.2 x z hxn hz e]; exact fx
                    rw [if_pos (by omega), hpix, fz, ← ec]
                    exact e _ hcl vx2
                  · rcases J2 z hz with q | q
                    · exact absurd q.2 e
                    · rw [q.1, eold]
                      have fz : ¬ f z = x := fun q => e (by rw [← q]; exact (hf.1 z hz).2.sy)
                      by_cases a : f z < x
                      · rw [if_pos a, if_pos (by omega)]
                      · rw [if_neg a, if_neg (by omega)]
                · subst hs
                  exact ihF _ lt2 h2 r2 rfl f2 o2 x2 vx2 J2
              | succ m ihm =>
                intro y h2 r2 s hy f2 o2 x2 vx2 J2 S2
                have hyn : y < n := by omega
                refine bk_X12_parts_70 _ _ _ _ _ _ _ ⟨fun q => absurd q (le_f hyn (by omega)), fun _ => ?_⟩
                have inn : ∀ mj j h2 r2 (s : Int32), j + mj = k → FR h h2 → RR h2 r2 → ex [43] r r2 → r2.2.1 43 x = nI c → (∀ z, z < n → (r2.2.1 43 z = nI c ∧ eqv n k t x z) ∨ (r2.2.1 43 z = old x z ∧ ¬ r2.2.1 43 z = nI c)) → ((s = 0 ∧ (∀ z, z < n → r2.2.1 43 z = r1.2.1 43 z) ∧ (∀ y', y' < y → ∀ j, j < k → r2.2.1 43 y' = nI c → r2.2.1 43 (t j y') = nI c) ∧ ∀ j', j' < j → r2.2.1 43 y = nI c → r2.2.1 43 (t j' y) = nI c) ∨ (s = 1 ∧ cm n (r2.2.1 43) (nI c) < F)) → Wm (d + 1) (0, 0) JX12_parts 79 [some (.ref 34), some (.int (nI p)), some (.int (nI n)), some (.int (nI c)), some (.int (nI x)), some (.int s), some (.int (nI y)), some (.int (nI j)), none] [] h2 (fun r h' => h'.1 0 = h.1 0 ∧ K r h') := by
                  intro mj
                  induction mj with
                  | zero =>
                    intro j h2 r2 s hj f2 o2 x2 vx2 J2 S2
                    have hj : j = k := by omega
                    subst hj
                    refine bk_X12_parts_79 _ _ _ _ _ _ _ _ ⟨_, o2.f6, _, o2.il 39 13 (by decide) hp, ?_⟩
                    rw [(L.ex x2 (by simp) (by simp) (by simp)).2.1]
                    refine ⟨fun _ => ?_, fun q => absurd (le_t (Nat.le_refl _) (by omega)) q⟩
                    rw [nI_1]
                    refine ihm (y + 1) h2 r2 s (by omega) f2 o2 x2 vx2 J2 ?_
                    rcases S2 with ⟨a1, a2, a3, a4⟩ | a
                    · refine Or.inl ⟨a1, a2, fun y' hy' j' hj' => ?_⟩
                      by_cases e : y' = y
                      · rw [e]; exact a4 j' hj'
                      · exact a3 y' (by omega) j' hj'
                    · exact Or.inr a
                  | succ mj ihj =>
                    intro j h2 r2 s hj f2 o2 x2 vx2 J2 S2
                    have L2 := L.ex x2 (by simp) (by simp) (by simp)
                    have htj := ht j (by omega) y hyn
                    refine bk_X12_parts_79 _ _ _ _ _ _ _ _ ⟨_, o2.f6, _, o2.il 39 13 (by decide) hp, ?_⟩
                    rw [L2.2.1]
                    refine ⟨fun q => absurd q (le_f (by omega) (by omega)), fun _ => ⟨_, o2.1, ?_⟩⟩
                    refine ratL_ev o2 L2 hp hk hn (by omega) hyn ⟨_, rfl, _, o2.f10, _, o2.il 43 12 (by decide) (by omega), fun q => ?_, fun q => ⟨_, o2.f10, _, o2.il 43 12 (by decide) (by omega), fun q2 => ?_, fun q2 => ?_⟩⟩
                    · rw [nI_1]
                      refine ihj (j + 1) h2 r2 s (by omega) f2 o2 x2 vx2 J2 ?_
                      rcases S2 with ⟨a1, a2, a3, a4⟩ | a
                      · exact Or.inl ⟨a1, a2, a3, fun j' hj' z => absurd z q⟩
                      · exact Or.inr a
                    · rw [nI_1]
                      refine ihj (j + 1) h2 r2 s (by omega) f2 o2 x2 vx2 J2 ?_
                      rcases S2 with ⟨a1, a2, a3, a4⟩ | a
                      · refine Or.inl ⟨a1, a2, a3, fun j' hj' z => ?_⟩
                        by_cases e : j' = j
                        · rw [e]; exact q2
                        · exact a4 j' (by omega) z
                      · exact Or.inr a
                    · obtain ⟨h3, e3, f3, o3⟩ := o2.is (x := nI c) (j := t j y) 43 12 (by decide) (by omega)
                      refine ⟨_, o2.f10, h3, e3, ?_⟩
                      rw [nI_1]
                      refine ihj (j + 1) h3 _ 1 (by omega) (f2.tr f3) o3 (x2.tr (ex.wr (by simp))) ?_ (fun z hz => ?_) (Or.inr ⟨rfl, ?_⟩)
                      · by_cases e : x = t j y
                        · rw [e, wr_j]
                        · rw [wr_i e]; exact vx2
                      · by_cases e : z = t j y
                        · refine Or.inl ⟨by rw [e, wr_j], ?_⟩
                          rcases J2 y hyn with a | a
                          · rw [e]
                            exact a.2.tr (eqv.st (by omega) hyn)
                          · exact absurd q a.2
                        · rw [wr_i e]
                          exact J2 z hz
                      · have lt : cm n ((wr r2 43 (t j y) (nI c)).2.1 43) (nI c) < cm n (r2.2.1 43) (nI c) := cm_lt htj q2 wr_j (fun z _ hne => wr_i hne)
                        rcases S2 with ⟨a1, a2, a3, a4⟩ | a
                        · have : cm n (r2.2.1 43) (nI c) = cm n (r1.2.1 43) (nI c) := cm_congr a2
                          omega
                        · omega
                refine inn k 0 h2 r2 s (by omega) f2 o2 x2 vx2 J2 ?_
                rcases S2 with ⟨a1, a2, a3⟩ | a
                · exact Or.inl ⟨a1, a2, a3, fun j' hj' => absurd hj' (by omega)⟩
                · exact Or.inr a
            exact sw n 0 h1 r1 0 (by omega) f1 o1 x1 vx J1 (Or.inl ⟨rfl, fun _ _ => rfl, fun y' hy' => absurd hy' (by omega)⟩)
        refine clo _ h2 _ rfl (f1.tr f2) o2 (x1.tr (ex.wr (by simp))) wr_j (fun z hz => ?_)
        by_cases e : z = x
        · rw [e]
          exact Or.inl ⟨wr_j, eqv.rf x⟩
        · rw [wr_i e, v1 z hz]
          exact Or.inr ⟨rfl, onc z hz⟩
  have clr : ∀ m x h1 r1, x + m = n → FR h h1 → RR h1 r1 → ex [43] r r1 → (∀ z, z < x → r1.2.1 43 z = -1) → Wm (d + 1) (0, 0) JX12_parts 9 [some (.ref 34), some (.int (nI p)), some (.int (nI n)), some (.int (nI x)), none, none, none, none, none] [] h1 (fun r h' => h'.1 0 = h.1 0 ∧ K r h') := by
    intro m
    induction m with
    | zero =>
      intro x h1 r1 hx f1 o1 x1 v1
      have hx : x = n := by omega
      subst hx
      refine bk_X12_parts_9 _ _ _ _ ⟨fun _ => ?_, fun q => absurd (le_t (Nat.le_refl _) (by omega)) q⟩
      exact scan x 0 h1 r1 (by omega) f1 o1 x1 (fun z hz => by rw [v1 z hz, eold, if_neg (by omega)])
    | succ m ih =>
      intro x h1 r1 hx f1 o1 x1 v1
      obtain ⟨h3, e3, f3, o3⟩ := o1.is (x := -1) (j := x) 43 12 (by decide) (by omega)
      refine bk_X12_parts_9 _ _ _ _ ⟨fun q => absurd q (le_f (by omega) (by omega)), fun _ => ⟨_, o1.f10, h3, e3, ?_⟩⟩
      rw [nI_1]
      refine ih (x + 1) h3 _ (by omega) (f1.tr f3) o3 (x1.tr (ex.wr (by simp))) (fun z hz => ?_)
      by_cases e : z = x
      · rw [e, wr_j]
      · rw [wr_i e]; exact v1 z (by omega)
  exact clr n 0 h r (by omega) FR.rf o ex.rf (fun z hz => absurd hz (by omega))
end RefParts

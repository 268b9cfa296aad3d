/-! the reference: names -/
/-- the numbering so far -/
def RB (r : rst) (n : Nat) (b : bS) : Prop := (∀ z, z < n → r.2.1 44 z = if b.2.2.2 z = true then nI (b.1 z) else -1) ∧ ∀ i, i < b.2.2.1 → r.2.1 45 i = nI (b.2.1 i)
theorem RB.ex {S : List Nat} {r r' : rst} {n : Nat} {b : bS} (R : RB r n b) (e : ex S r r') (h1 : 44 ∉ S) (h2 : 45 ∉ S) : RB r' n b := ⟨fun z hz => (e.at z h1).trans (R.1 z hz), fun i hi => (e.at i h2).trans (R.2 i hi)⟩
section RefName
variable {d : Nat} {h : mH} {r : rst} {st : AS} {K : Option Value → mH → Prop}
theorem rrename_ev {q p s n k : Nat} {t : Nat → Nat → Nat} (o : RR h r) (L : LC r p n k t) (hq : q < 13) (hp : p < 13) (hne : q ≠ p) (hn : n ≤ 12) (hk : k ≤ 8) (hs : s < n) (ht : ∀ j, j < k → ∀ i, i < n → t j i < n) (hw : whl n k t) (hK : ∀ h' r', FR h h' → RR h' r' → ex [38, 39, 40, 44, 45] r r' → LC r' q n k (rn n t k s) → (∀ i, i ≠ q → r'.2.1 38 i = r.2.1 38 i ∧ r'.2.1 39 i = r.2.1 39 i) → (∀ i, (∀ j, j < k → ∀ x, x < n → i ≠ 96 * q + 12 * j + x) → r'.2.1 40 i = r.2.1 40 i) → K none h') : Ev (d + 1) (0, 0) MX12_rename [.ref 34, .int (nI q), .int (nI p), .int (nI s)] h K := by
  refine en_X12_rename (bk_X12_rename_0 _ _ _ _ ⟨_, o.f5, _, o.il 38 13 (by decide) hp, ?_⟩)
  rw [L.1]
  -- the puts
  have hb := hw s hs
  have hI := bI_x (k := k) (t := t) hs ht n
  have hI : bI n (bF n t k s) := hI
  have hall := bI_all hI hb
  obtain ⟨b, eb⟩ : ∃ b, b = bF n t k s := ⟨_, rfl⟩
  have hrn : ∀ j i, rn n t k s j i = b.1 (t j (b.2.1 i)) := fun j i => by rw [eb]; rfl
  rw [← eb] at hb hI hall
  have Nlt : ∀ z, z < n → b.1 z < n := fun z hz => by have := (hI.2.1 z (hall z hz)).2.1; omega
  have ON : ∀ z, z < n → b.2.1 (b.1 z) = z := fun z hz => (hI.2.1 z (hall z hz)).2.2
  have Olt : ∀ i, i < n → b.2.1 i < n := fun i hi => (hI.1 i (by omega)).1
  have NO' : ∀ i, i < n → b.1 (b.2.1 i) = i := fun i hi => (hI.1 i (by omega)).2.2
  have puts : ∀ h5 r5, FR h h5 → RR h5 r5 → ex [38, 39, 44, 45] r r5 → r5.2.1 38 q = nI n → r5.2.1 39 q = nI k → (∀ i, i ≠ q → r5.2.1 38 i = r.2.1 38 i ∧ r5.2.1 39 i = r.2.1 39 i) → (∀ z, z < n → r5.2.1 44 z = nI (b.1 z)) → Wm (d + 1) (0, 0) JX12_rename 155 [some (.ref 34), some (.int (nI q)), some (.int (nI p)), none, some (.int (nI n)), none, some (.int 0), none, none] [] h5 (fun r h' => h'.1 0 = h.1 0 ∧ K r h') := by
    intro h5 r5 f5 o5 x5 a38 a39 aot u5
    have L5 : LC r5 p n k t := ⟨((aot p (Ne.symm hne)).1).trans L.1, ((aot p (Ne.symm hne)).2).trans L.2.1, fun j hj x hx => by rw [x5.at _ (by simp)]; exact L.2.2 j hj x hx⟩
    have outer : ∀ c j h6 r6, j + c = k → FR h h6 → RR h6 r6 → ex [40] r5 r6 → LC r6 p n k t → (∀ i, (∀ j, j < k → ∀ x, x < n → i ≠ 96 * q + 12 * j + x) → r6.2.1 40 i = r.2.1 40 i) → (∀ j', j' < j → ∀ x, x < n → r6.2.1 40 (96 * q + 12 * j' + b.1 x) = nI (b.1 (t j' x))) → Wm (d + 1) (0, 0) JX12_rename 155 [some (.ref 34), some (.int (nI q)), some (.int (nI p)), none, some (.int (nI n)), none, some (.int (nI j)), none, none] [] h6 (fun r h' => h'.1 0 = h.1 0 ∧ K r h') := by
      intro c
      induction c with
      | zero =>
        intro j h6 r6 hj f6 o6 x6 L6 off6 a6
        have hj : j = k := by omega
        subst hj
        refine bk_X12_rename_155 _ _ _ _ _ ⟨_, o6.f6, _, o6.il 39 13 (by decide) hp, ?_⟩
        rw [L6.2.1]
        refine ⟨fun _ => ⟨f6.z, hK h6 r6 f6 o6 ((x5.wk (by simp)).tr (x6.wk (by simp))) ⟨?_, ?_, fun j' hj' y hy => ?_⟩ (fun i hi => ⟨?_, ?_⟩) off6⟩, fun z => absurd (le_t (Nat.le_refl _) (by omega)) z⟩
        · rw [x6.at q (by simp)]; exact a38
        · rw [x6.at q (by simp)]; exact a39
        · have := a6 j' hj' _ (Olt y hy)
          rw [NO' y hy] at this
          rw [this, hrn]
        · rw [x6.at i (by simp)]; exact (aot i hi).1
        · rw [x6.at i (by simp)]; exact (aot i hi).2
      | succ c ih =>
        intro j h6 r6 hj f6 o6 x6 L6 off6 a6
        refine bk_X12_rename_155 _ _ _ _ _ ⟨_, o6.f6, _, o6.il 39 13 (by decide) hp, ?_⟩
        rw [L6.2.1]
        refine ⟨fun q => absurd q (le_f (by omega) (by omega)), fun _ => ?_⟩
        have inner : ∀ c x h7 r7, x + c = n → FR h h7 → RR h7 r7 → ex [40] r5 r7 → LC r7 p n k t → (∀ i, (∀ j, j < k → ∀ x, x < n → i ≠ 96 * q + 12 * j + x) → r7.2.1 40 i = r.2.1 40 i) → (∀ j', j' < j → ∀ x, x < n → r7.2.1 40 (96 * q + 12 * j' + b.1 x) = nI (b.1 (t j' x))) → (∀ x', x' < x → r7.2.1 40 (96 * q + 12 * j + b.1 x') = nI (b.1 (t j x'))) → Wm (d + 1) (0, 0) JX12_rename 169 [some (.ref 34), some (.int (nI q)), some (.int (nI p)), none, some (.int (nI n)), none, some (.int (nI j)), some (.int (nI x)), none] [] h7 (fun r h' => h'.1 0 = h.1 0 ∧ K r h') := by
          intro c
          induction c with
          | zero =>
            intro x h7 r7 hx f7 o7 x7 L7 off7 a7 b7
            have hx : x = n := by omega
            subst hx
            refine bk_X12_rename_169 _ _ _ _ _ _ ⟨fun _ => ?_, fun q => absurd (le_t (Nat.le_refl _) (by omega)) q⟩
            rw [nI_1]
            refine ih (j + 1) h7 r7 (by omega) f7 o7 x7 L7 off7 (fun j' hj' y hy => ?_)
            by_cases e : j' = j
            · rw [e]; exact b7 y hy
            · exact a7 j' (by omega) y hy
          | succ c ihc =>
            intro x h7 r7 hx f7 o7 x7 L7 off7 a7 b7
            have hxn : x < n := by omega
            have tx := ht j (by omega) x hxn
            have n1 := Nlt x hxn
            have n2 := Nlt _ tx
            refine bk_X12_rename_169 _ _ _ _ _ _ ⟨fun q => absurd q (le_f (by omega) (by omega)), fun _ => ⟨_, o7.f11, _, o7.il 44 12 (by decide) (by omega), _, o7.f11, _, o7.1, ?_⟩⟩
            rw [x7.at x (by simp), u5 x hxn]
            refine ratL_ev o7 L7 hp hk hn (by omega) hxn ⟨_, rfl, _, o7.il 44 12 (by decide) (by omega), _, o7.1, ?_⟩
            rw [x7.at _ (by simp), u5 _ tx]
            refine rput_ev o7 (by omega) (fun h8 f8 o8 => ⟨rfl, ?_⟩)
            rw [nI_1]
            refine ihc (x + 1) h8 _ (by omega) (f7.tr f8) o8 (x7.tr (ex.wr (by simp))) (L7.wr (fun j' hj' y hy => by omega)) (fun i hi => ?_) (fun j' hj' y hy => ?_) (fun x' hx' => ?_)
            · rw [wr_i (hi j (by omega) (b.1 x) n1)]
              exact off7 i hi
            · have := Nlt y hy
              rw [wr_i (by omega)]
              exact a7 j' hj' y hy
            · by_cases e : x' = x
              · rw [e, wr_j]
              · have ne : ¬ b.1 x' = b.1 x := fun q => e (by rw [← ON x' (by omega), ← ON x hxn, q])
                rw [wr_i (by omega)]
                exact b7 x' (by omega)
        exact inner n 0 h6 r6 (by omega) f6 o6 x6 L6 off6 a6 (fun x' hx' => absurd hx' (by omega))
    exact outer k 0 h5 r5 (by omega) f5 o5 ex.rf L5 (fun i _ => x5.at i (by simp)) (fun j' hj' => absurd hj' (by omega))
  -- the numbering
  have num : ∀ c x h1 r1, x + c = n → FR h h1 → RR h1 r1 → ex [44, 45] r r1 → RB r1 n (bx t k s x) → Wm (d + 1) (0, 0) JX12_rename 52 [some (.ref 34), some (.int (nI q)), some (.int (nI p)), none, some (.int (nI n)), some (.int (nI (bx t k s x).2.2.1)), some (.int (nI x)), none, none] [] h1 (fun r h' => h'.1 0 = h.1 0 ∧ K r h') := by
    have fin : ∀ x h1 r1, x ≤ n → (bx t k s x).2.2.1 ≤ x → FR h h1 → RR h1 r1 → ex [44, 45] r r1 → RB r1 n (bx t k s x) → Wm (d + 1) (0, 0) JX12_rename 52 [some (.ref 34), some (.int (nI q)), some (.int (nI p)), none, some (.int (nI n)), some (.int (nI (bx t k s x).2.2.1)), some (.int (nI x)), none, none] [] h1 (fun r h' => h'.1 0 = h.1 0 ∧ K r h') := by
      intro x h1 r1 hx hg f1 o1 x1 R1
      have hg' := bx_stop (n := n) hs hx hw hg
      have exn : x = n := by omega
      subst exn
      have e1 : bx t k s x = b := by rw [eb]; rfl
      rw [e1] at R1 hg ⊢
      have L1 := L.ex x1 (by simp) (by simp) (by simp)
      obtain ⟨h5, e5, f5, o5⟩ := o1.is (x := nI x) (j := q) 38 13 (by decide) hq
      obtain ⟨h6, e6, f6, o6⟩ := o5.is (x := nI k) (j := q) 39 13 (by decide) hq
      refine bk_X12_rename_52 _ _ _ _ _ _ ⟨fun _ => ⟨_, o1.f5, h5, e5, _, o5.f6, _, o5.f6, _, o5.il 39 13 (by decide) hp, h6, ?_, ?_⟩, fun z => absurd (le_t hg (by omega)) z⟩
      · rw [show (wr r1 38 q (nI x)).2.1 39 p = nI k by rw [wr_n (by decide)]; exact L1.2.1]
        exact e6
      · refine puts h6 _ ((f1.tr f5).tr f6) o6 ((x1.wk (by simp)).tr ((ex.wr (by simp)).tr (ex.wr (by simp)))) ?_ wr_j (fun i hi => ⟨?_, ?_⟩) (fun z hz => ?_)
        · rw [wr_n (by decide), wr_j]
        · rw [wr_n (by decide), wr_i hi, x1.at i (by simp)]
        · rw [wr_i hi, wr_n (by decide), x1.at i (by simp)]
        · rw [wr_n (by decide), wr_n (by decide), R1.1 z hz, if_pos (hall z hz)]
    intro c
    induction c with
    | zero =>
      intro x h1 r1 hx f1 o1 x1 R1
      have hx : x = n := by omega
      subst hx
      have := bI_le (bI_x (k := k) (t := t) hs ht x)
      exact fin x h1 r1 (Nat.le_refl _) this f1 o1 x1 R1
    | succ c ih =>
      intro x h1 r1 hx f1 o1 x1 R1
      have hIx := bI_x (k := k) (t := t) hs ht x
      have hgn := bI_le hIx
      by_cases g : (bx t k s x).2.2.1 ≤ x
      · exact fin x h1 r1 (by omega) g f1 o1 x1 R1
      · refine bk_X12_rename_52 _ _ _ _ _ _ ⟨fun z => absurd z (le_f (by omega) (by omega)), fun _ => ?_⟩
        have ih := fun h1 r1 => ih (x + 1) h1 r1 (by omega)
        rw [bx_go (by omega)] at ih
        obtain ⟨B, eB⟩ : ∃ B, B = bx t k s x := ⟨_, rfl⟩
        rw [← eB] at ih hIx hgn g R1 ⊢
        have old := (hIx.1 x (by omega)).1
        have inner : ∀ c j h2 r2, j + c = k → FR h h2 → RR h2 r2 → ex [44, 45] r r2 → RB r2 n (bj t (B.2.1 x) j B) → Wm (d + 1) (0, 0) JX12_rename 62 [some (.ref 34), some (.int (nI q)), some (.int (nI p)), none, some (.int (nI n)), some (.int (nI (bj t (B.2.1 x) j B).2.2.1)), some (.int (nI x)), some (.int (nI j)), none] [] h2 (fun r h' => h'.1 0 = h.1 0 ∧ K r h') := by
          intro c
          induction c with
          | zero =>
            intro j h2 r2 hj f2 o2 x2 R2
            have hj : j = k := by omega
            subst hj
            have L2 := L.ex x2 (by simp) (by simp) (by simp)
            refine bk_X12_rename_62 _ _ _ _ _ _ _ ⟨_, o2.f6, _, o2.il 39 13 (by decide) hp, ?_⟩
            rw [L2.2.1]
            refine ⟨fun _ => ?_, fun z => absurd (le_t (Nat.le_refl _) (by omega)) z⟩
            rw [nI_1]
            exact ih h2 r2 f2 o2 x2 R2
          | succ c ihj =>
            intro j h2 r2 hj f2 o2 x2 R2
            have L2 := L.ex x2 (by simp) (by simp) (by simp)
            have hIj := bI_j (n := n) (k := k) (t := t) (old := B.2.1 x) (fun j hj => ht j hj _ old) j B (by omega) hIx
            have hLj := bL_j (t := t) (old := B.2.1 x) j B
            have hgj := bI_le hIj
            have ihj := fun h2 r2 => ihj (j + 1) h2 r2 (by omega)
            have ebj : bj t (B.2.1 x) (j + 1) B = b1 (t j (B.2.1 x)) (bj t (B.2.1 x) j B) := rfl
            rw [ebj] at ihj
            obtain ⟨C, eC⟩ : ∃ C, C = bj t (B.2.1 x) j B := ⟨_, rfl⟩
            rw [← eC] at ihj hIj hLj hgj R2 ⊢
            have led := ht j (by omega) _ old
            have r45 : m_il h2 45 (nI x) = some (nI (B.2.1 x)) := by rw [o2.il 45 12 (by decide) (by omega), R2.2 x (by have := hLj.1; omega), hLj.2.1 x (by omega)]
            refine bk_X12_rename_62 _ _ _ _ _ _ _ ⟨_, o2.f6, _, o2.il 39 13 (by decide) hp, ?_⟩
            rw [L2.2.1]
            refine ⟨fun z => absurd z (le_f (by omega) (by omega)), fun _ => ⟨_, o2.f12, _, r45, _, o2.1, ?_⟩⟩
            refine ratL_ev o2 L2 hp hk hn (by omega) old ⟨_, rfl, _, o2.f11, _, o2.il 44 12 (by decide) (by omega), ?_⟩
            rw [R2.1 _ led]
            by_cases m : C.2.2.2 (t j (B.2.1 x)) = true
            · have nlt := (hIj.2.1 _ m).2.1
              have e1 : b1 (t j (B.2.1 x)) C = C := by unfold b1; rw [if_pos m]
              rw [e1] at ihj
              rw [if_pos m]
              refine ⟨fun _ => ?_, fun z => absurd (nI_pos' (by omega)) z⟩
              rw [nI_1]
              exact ihj h2 r2 f2 o2 x2 R2
            · have e1 : b1 (t j (B.2.1 x)) C = (un C.1 (t j (B.2.1 x)) C.2.2.1, un C.2.1 C.2.2.1 (t j (B.2.1 x)), C.2.2.1 + 1, vs C.2.2.2 (t j (B.2.1 x))) := by unfold b1; rw [if_neg m]
              have hg1 := bI_le (bI_1 led hIj)
              rw [e1] at ihj hg1
              have hg1 : C.2.2.1 + 1 ≤ n := hg1
              rw [if_neg m]
              obtain ⟨h3, e3, f3, o3⟩ := o2.is (x := nI C.2.2.1) (j := t j (B.2.1 x)) 44 12 (by decide) (by omega)
              obtain ⟨h4, e4, f4, o4⟩ := o3.is (x := nI (t j (B.2.1 x))) (j := C.2.2.1) 45 12 (by decide) (by omega)
              refine ⟨fun z => absurd z (by decide), fun _ => ⟨_, o2.f11, h3, e3, _, o3.f12, h4, e4, ?_⟩⟩
              rw [nI_1, nI_1]
              refine ihj h4 _ ((f2.tr f3).tr f4) o4 (x2.tr ((ex.wr (by simp)).tr (ex.wr (by simp)))) ⟨fun z hz => ?_, fun i hi => ?_⟩
              · show _ = if vs C.2.2.2 (t j (B.2.1 x)) z = true then nI (un C.1 (t j (B.2.1 x)) C.2.2.1 z) else -1
                rw [wr_n (by decide)]
                by_cases e : z = t j (B.2.1 x)
                · rw [e, wr_j, if_pos (vs_iff.mpr (Or.inl rfl)), un_s]
                · rw [wr_i e, R2.1 z hz, un_n _ _ e]
                  have : vs C.2.2.2 (t j (B.2.1 x)) z = C.2.2.2 z := by unfold vs; rw [if_neg e]
                  rw [this]
              · have hi : i < C.2.2.1 + 1 := hi
                show _ = nI (un C.2.1 C.2.2.1 (t j (B.2.1 x)) i)
                by_cases e : i = C.2.2.1
                · rw [e, wr_j, un_s]
                · rw [wr_i e, wr_n (by decide), un_n _ _ e]
                  exact R2.2 i (by omega)
        exact inner k 0 h1 r1 (by omega) f1 o1 x1 R1
  -- nobody has a number yet
  have clr : ∀ c z h1 r1, z + c = n → FR h h1 → RR h1 r1 → ex [44, 45] r r1 → (∀ y, y < z → r1.2.1 44 y = -1) → Wm (d + 1) (0, 0) JX12_rename 11 [some (.ref 34), some (.int (nI q)), some (.int (nI p)), some (.int (nI s)), some (.int (nI n)), some (.int (nI z)), none, none, none] [] h1 (fun r h' => h'.1 0 = h.1 0 ∧ K r h') := by
    intro c
    induction c with
    | zero =>
      intro z h1 r1 hz f1 o1 x1 v1
      have hz : z = n := by omega
      subst hz
      obtain ⟨h3, e3, f3, o3⟩ := o1.is (x := 0) (j := s) 44 12 (by decide) (by omega)
      obtain ⟨h4, e4, f4, o4⟩ := o3.is (x := nI s) (j := 0) 45 12 (by decide) (by omega)
      refine bk_X12_rename_11 _ _ _ _ _ _ ⟨fun _ => ⟨_, o1.f11, h3, e3, _, o3.f12, h4, e4, ?_⟩, fun z => absurd (le_t (Nat.le_refl _) (by omega)) z⟩
      refine num z 0 h4 _ (by omega) ((f1.tr f3).tr f4) o4 (x1.tr ((ex.wr (by simp)).tr (ex.wr (by simp)))) ⟨fun y hy => ?_, fun i hi => ?_⟩
      · show _ = if vs (fun _ => false) s y = true then nI 0 else -1
        rw [wr_n (by decide)]
        by_cases e : y = s
        · rw [e, wr_j, if_pos (vs_iff.mpr (Or.inl rfl))]; rfl
        · rw [wr_i e, v1 y hy, if_neg (fun q => by rcases vs_iff.mp q with q | q; exact e q; exact absurd q (by decide))]
      · have hi : i < 1 := hi
        have : i = 0 := by omega
        subst this
        rw [wr_j]
        show _ = nI (un (fun _ => 0) 0 s 0)
        rw [un_s]
    | succ c ih =>
      intro z h1 r1 hz f1 o1 x1 v1
      obtain ⟨h3, e3, f3, o3⟩ := o1.is (x := -1) (j := z) 44 12 (by decide) (by omega)
      refine bk_X12_rename_11 _ _ _ _ _ _ ⟨fun q => absurd q (le_f (by omega) (by omega)), fun _ => ⟨_, o1.f11, h3, e3, ?_⟩⟩
      rw [nI_1]
      refine ih (z + 1) h3 _ (by omega) (f1.tr f3) o3 (x1.tr (ex.wr (by simp))) (fun y hy => ?_)
      by_cases e : y = z
      · rw [e, wr_j]
      · rw [wr_i e]; exact v1 y (by omega)
  exact clr n 0 h r (by omega) FR.rf o ex.rf (fun y hy => absurd hy (by omega))
theorem rcompare_ev {q p n k : Nat} {a b : Nat → Nat → Nat} (o : RR h r) (La : LC r p n k a) (Lb : LC r q n k b) (hp : p < 13) (hq : q < 13) (hn : n ≤ 12) (hk : k ≤ 8) (ha : ∀ j, j < k → ∀ i, i < n → a j i < n) (hb : ∀ j, j < k → ∀ i, i < n → b j i < n) (h0 : teq n k a b → K (some (.int 0)) h) (hl : lex n k a b → ∀ v : Int32, ¬ 0 ≤ v → K (some (.int v)) h) (hg : lex n k b a → ∀ v : Int32, 0 ≤ v → ¬ v = 0 → K (some (.int v)) h) : Ev (d + 1) (0, 0) MX12_compare [.ref 34, .int (nI p), .int (nI q)] h K := by
  refine en_X12_compare (bk_X12_compare_0 _ _ _ ?_)
  have outer : ∀ c j, j + c = k → (∀ j', j' < j → ∀ i, i < n → a j' i = b j' i) → Wm (d + 1) (0, 0) JX12_compare 2 [some (.ref 34), some (.int (nI p)), some (.int (nI q)), some (.int (nI j)), none] [] h (fun r h' => h'.1 0 = h.1 0 ∧ K r h') := by
    intro c
    induction c with
    | zero =>
      intro j hj he
      have hj : j = k := by omega
      subst hj
      refine bk_X12_compare_2 _ _ _ _ ⟨_, o.f6, _, o.il 39 13 (by decide) hp, ?_⟩
      rw [La.2.1]
      exact ⟨fun _ => ⟨rfl, h0 he⟩, fun z => absurd (le_t (Nat.le_refl _) (by omega)) z⟩
    | succ c ih =>
      intro j hj he
      refine bk_X12_compare_2 _ _ _ _ ⟨_, o.f6, _, o.il 39 13 (by decide) hp, ?_⟩
      rw [La.2.1]
      refine ⟨fun z => absurd z (le_f (by omega) (by omega)), fun _ => ?_⟩
      have inner : ∀ c x, x + c = n → (∀ i, i < x → a j i = b j i) → Wm (d + 1) (0, 0) JX12_compare 15 [some (.ref 34), some (.int (nI p)), some (.int (nI q)), some (.int (nI j)), some (.int (nI x))] [] h (fun r h' => h'.1 0 = h.1 0 ∧ K r h') := by
        intro c
        induction c with
        | zero =>
          intro x hx he2
          have hx : x = n := by omega
          subst hx
          refine bk_X12_compare_15 _ _ _ _ _ ⟨_, o.f5, _, o.il 38 13 (by decide) hp, ?_⟩
          rw [La.1]
          refine ⟨fun _ => ?_, fun z => absurd (le_t (Nat.le_refl _) (by omega)) z⟩
          rw [nI_1]
          refine ih (j + 1) (by omega) (fun j' hj' => ?_)
          by_cases e : j' = j
          · rw [e]; exact he2
          · exact he j' (by omega)
        | succ c ihc =>
          intro x hx he2
          have hxn : x < n := by omega
          have va := ha j (by omega) x hxn
          have vb := hb j (by omega) x hxn
          refine bk_X12_compare_15 _ _ _ _ _ ⟨_, o.f5, _, o.il 38 13 (by decide) hp, ?_⟩
          rw [La.1]
          refine ⟨fun z => absurd z (le_f (by omega) (by omega)), fun _ => ⟨_, o.1, ?_⟩⟩
          refine ratL_ev o La hp hk hn (by omega) hxn ⟨_, rfl, _, o.1, ?_⟩
          refine ratL_ev o Lb hq hk hn (by omega) hxn ⟨_, rfl, fun z => ?_, fun z => ⟨_, o.1, ?_⟩⟩
          · have z := nI_inj (by omega) (by omega) z
            rw [nI_1]
            refine ihc (x + 1) (by omega) (fun i hi => ?_)
            by_cases e : i = x
            · rw [e]; exact z
            · exact he2 i (by omega)
          · refine ratL_ev o La hp hk hn (by omega) hxn ⟨_, rfl, _, o.1, ?_⟩
            refine ratL_ev o Lb hq hk hn (by omega) hxn ⟨_, rfl, rfl, ?_⟩
            rcases Nat.lt_trichotomy (a j x) (b j x) with w | w | w
            · refine hl ⟨j, by omega, x, hxn, he, he2, w⟩ _ (fun y => ?_)
              have := pk_sneg (a := a j x) (b := b j x) (by omega) w
              rw [Int32.lt_iff_toInt_lt] at this
              rw [Int32.le_iff_toInt_le] at y
              omega
            · exact absurd (by rw [w]) z
            · refine hg ⟨j, by omega, x, hxn, fun j' hj' i hi => (he j' hj' i hi).symm, fun i hi => (he2 i hi).symm, w⟩ _ ?_ ?_
              · rw [pk_sub (by omega)]; exact nI_pos' (by omega)
              · rw [pk_sub (by omega)]; exact nI_ne0 (by omega) (by omega)
      exact inner n 0 (by omega) (fun i hi => absurd hi (by omega))
  exact outer k 0 (by omega) (fun j' hj' => absurd hj' (by omega))
/-- cells of a cover's place that it does not use -/
def offc (n k i : Nat) : Prop := ∀ j, j < k → ∀ x, x < n → i ≠ 12 * j + x
theorem rleast_ev {q p n k : Nat} {t : Nat → Nat → Nat} (o : RR h r) (L : LC r p n k t) (hq : q < 13) (hp : p < 13) (hqp : q ≠ p) (hq11 : q ≠ 11) (hp11 : p ≠ 11) (h1 : 1 ≤ n) (hn : n ≤ 12) (hk : k ≤ 8) (ht : ∀ j, j < k → pm n (t j)) (hw : whl n k t) (hK : ∀ h' r', FR h h' → RR h' r' → ex [38, 39, 40, 44, 45] r r' → LC r' q n k (fnd n k t n).1 → (∀ i, i ≠ q → i ≠ 11 → r'.2.1 38 i = r.2.1 38 i ∧ r'.2.1 39 i = r.2.1 39 i) → (∀ i, (i < 96 * q ∨ 96 * q + 96 ≤ i) → (i < 1056 ∨ 1152 ≤ i) → r'.2.1 40 i = r.2.1 40 i) → (∀ i, i < 96 → offc n k i → r'.2.1 40 (96 * q + i) = r.2.1 40 (1056 + i) ∧ r'.2.1 40 (1056 + i) = r.2.1 40 (1056 + i)) → K (some (.int (nI (fnd n k t n).2))) h') : Ev (d + 2) (0, 0) MX12_least [.ref 34, .int (nI q), .int (nI p)] h K := by
  have htl : ∀ j, j < k → ∀ i, i < n → t j i < n := fun j hj => (ht j hj).1
  refine en_X12_least (bk_X12_least_0 _ _ _ ?_)
  have key : ∀ c x h1 r1 (l : Nat), x + c = n → l = (if x = 0 then 0 else (fnd n k t x).2) → FR h h1 → RR h1 r1 → ex [38, 39, 40, 44, 45] r r1 → LC r1 p n k t → (1 ≤ x → LC r1 q n k (fnd n k t x).1) → (∀ i, i ≠ q → i ≠ 11 → r1.2.1 38 i = r.2.1 38 i ∧ r1.2.1 39 i = r.2.1 39 i) → (∀ i, (i < 96 * q ∨ 96 * q + 96 ≤ i) → (i < 1056 ∨ 1152 ≤ i) → r1.2.1 40 i = r.2.1 40 i) → (∀ i, i < 96 → offc n k i → (1 ≤ x → r1.2.1 40 (96 * q + i) = r.2.1 40 (1056 + i)) ∧ r1.2.1 40 (1056 + i) = r.2.1 40 (1056 + i)) → Wm (d + 1 + 1) (0, 0) JX12_least 5 [some (.ref 34), some (.int (nI q)), some (.int (nI p)), some (.int (nI l)), some (.int (nI x)), none] [] h1 (fun r h' => h'.1 0 = h.1 0 ∧ K r h') := by
    intro c
    induction c with
    | zero =>
      intro x h1' r1 l hx hl f1 o1 x1 L1 Q1 s1 b1 c1
      have hx : x = n := by omega
      subst hx
      rw [if_neg (by omega)] at hl
      subst hl
      refine bk_X12_least_5 _ _ _ _ _ ⟨_, o1.f5, _, o1.il 38 13 (by decide) hp, ?_⟩
      rw [L1.1]
      exact ⟨fun _ => ⟨f1.z, hK h1' r1 f1 o1 x1 (Q1 h1) s1 b1 (fun i hi ho => ⟨(c1 i hi ho).1 h1, (c1 i hi ho).2⟩)⟩, fun z => absurd (le_t (Nat.le_refl _) (by omega)) z⟩
    | succ c ih =>
      intro x h1' r1 l hx hl f1 o1 x1 L1 Q1 s1 b1 c1
      have hxn : x < n := by omega
      refine bk_X12_least_5 _ _ _ _ _ ⟨_, o1.f5, _, o1.il 38 13 (by decide) hp, ?_⟩
      rw [L1.1]
      refine ⟨fun z => absurd z (le_f (by omega) (by omega)), fun _ => ⟨_, o1.1, ?_⟩⟩
      refine rrename_ev (q := 11) o1 L1 (by omega) hp (Ne.symm hp11) hn hk hxn htl hw (fun h2 r2 f2 o2 x2 L2 s2 b2 => ⟨rfl, ?_⟩)
      have b2' : ∀ i, i < 1056 ∨ 1152 ≤ i → r2.2.1 40 i = r1.2.1 40 i := fun i hi => b2 i (fun j hj y hy => by omega)
      have c2' : ∀ i, i < 96 → offc n k i → r2.2.1 40 (1056 + i) = r1.2.1 40 (1056 + i) := fun i hi ho => b2 _ (fun j hj y hy => by have := ho j hj y hy; omega)
      have mv : ∀ {a m : Nat} {u : Nat → Nat → Nat}, a ≠ 11 → LC r1 a n k u → LC r2 a n k u := fun {a m u} ha La => ⟨by rw [(s2 a ha).1]; exact La.1, by rw [(s2 a ha).2]; exact La.2.1, fun j hj y hy => by rw [b2' _ (by omega)]; exact La.2.2 j hj y hy⟩
      have Lp2 : LC r2 p n k t := mv (m := 0) hp11 L1
      have X2 := x1.tr x2
      have F2 := f1.tr f2
      -- it becomes the least
      have bec : fnd n k t (x + 1) = (rn n t k x, 1) → ∃ fs : List Value, h2.1 34 = .inr (11, fs) ∧ Ev (d + 1) (0, 0) MX12_become [.ref 34, .int (nI q), .int 11] h2 (fun r12 h13 => r12 = none ∧ Wm (d + 1 + 1) (0, 0) JX12_least 5 [some (.ref 34), some (.int (nI q)), some (.int (nI p)), some (.int 1), some (.int (nI x + 1)), none] [] h13 (fun r h' => h'.1 0 = h.1 0 ∧ K r h')) := by
        intro ef
        refine ⟨_, o2.1, ?_⟩
        refine become_ev (q := 11) o2 hq (by omega) (fun h3 r3 f3 o3 x3 a38 a39 a40 a40' => ⟨rfl, ?_⟩)
        have out3 : ∀ i, i < 96 * q ∨ 96 * q + 96 ≤ i → r3.2.1 40 i = r2.2.1 40 i := fun i hi => by
          rcases hi with hi | hi
          · exact a40' i hi
          · have := a40 (i - 96 * q)
            rw [if_neg (by omega), show 96 * q + (i - 96 * q) = i by omega] at this
            exact this
        have in3 : ∀ i, i < 96 → r3.2.1 40 (96 * q + i) = r2.2.1 40 (1056 + i) := fun i hi => by
          have := a40 i
          rw [if_pos hi] at this
          exact this
        rw [nI_1]
        refine ih (x + 1) h3 r3 1 (by omega) (by rw [if_neg (by omega), ef]) (F2.tr f3) o3 (X2.tr (x3.wk (by simp))) ⟨by rw [a38, if_neg (Ne.symm hqp)]; exact Lp2.1, by rw [a39, if_neg (Ne.symm hqp)]; exact Lp2.2.1, fun j hj y hy => by rw [out3 _ (by omega)]; exact Lp2.2.2 j hj y hy⟩ (fun _ => ?_) (fun i hi hi2 => ⟨?_, ?_⟩) (fun i hi hi2 => ?_) (fun i hi ho => ⟨fun _ => ?_, ?_⟩)
        · rw [ef]
          refine ⟨by rw [a38, if_pos rfl]; exact L2.1, by rw [a39, if_pos rfl]; exact L2.2.1, fun j hj y hy => ?_⟩
          have := in3 (12 * j + y) (by omega)
          rw [← Nat.add_assoc, ← Nat.add_assoc] at this
          rw [this]
          exact L2.2.2 j hj y hy
        · rw [a38, if_neg hi, (s2 i hi2).1]; exact (s1 i hi hi2).1
        · rw [a39, if_neg hi, (s2 i hi2).2]; exact (s1 i hi hi2).2
        · rw [out3 i hi, b2' i hi2]; exact b1 i hi hi2
        · rw [in3 i hi, c2' i hi ho]; exact (c1 i hi ho).2
        · rw [out3 _ (by omega), c2' i hi ho]; exact (c1 i hi ho).2
      -- it stays
      have sty : ∀ l', 1 ≤ x → fnd n k t (x + 1) = ((fnd n k t x).1, l') → Wm (d + 1 + 1) (0, 0) JX12_least 5 [some (.ref 34), some (.int (nI q)), some (.int (nI p)), some (.int (nI l')), some (.int (nI x + 1)), none] [] h2 (fun r h' => h'.1 0 = h.1 0 ∧ K r h') := by
        intro l' hx1 ef
        rw [nI_1]
        refine ih (x + 1) h2 r2 l' (by omega) (by rw [if_neg (by omega), ef]) F2 o2 X2 Lp2 (fun _ => by rw [ef]; exact mv (m := 0) hq11 (Q1 hx1)) (fun i hi hi2 => ⟨?_, ?_⟩) (fun i hi hi2 => ?_) (fun i hi ho => ⟨fun _ => ?_, ?_⟩)
        · rw [(s2 i hi2).1]; exact (s1 i hi hi2).1
        · rw [(s2 i hi2).2]; exact (s1 i hi hi2).2
        · rw [b2' i hi2]; exact b1 i hi hi2
        · rw [b2' _ (by omega)]; exact (c1 i hi ho).1 hx1
        · rw [c2' i hi ho]; exact (c1 i hi ho).2
      refine ⟨fun z => ⟨_, o2.1, ?_⟩, fun z => ?_⟩
      · have hx1 : 1 ≤ x := by
          rcases Nat.eq_zero_or_pos x with e | e
          · rw [e] at z; exact absurd rfl z
          · exact e
        rw [if_neg (by omega)] at hl
        have pf := fnd_pm (s := x) hx1 (by omega) ht hw
        refine rcompare_ev (p := 11) o2 L2 (mv (m := 0) hq11 (Q1 hx1)) (by omega) hq hn hk (rn_lt hxn htl hw) (fun j hj => (pf j hj).1) (fun e => ⟨_, rfl, fun _ => ⟨fun y => absurd rfl y, fun _ => ?_⟩, fun y => absurd (by decide) y⟩) (fun e v hv => ⟨_, rfl, fun y => absurd y hv, fun _ => bec (fnd_lt hx1 e)⟩) (fun e v hv hv0 => ⟨_, rfl, fun _ => ⟨fun _ => ?_, fun y => absurd y hv0⟩, fun y => absurd hv y⟩)
        · rw [hl, nI_1]
          exact sty _ hx1 (fnd_eq hx1 e)
        · rw [hl]
          exact sty _ hx1 (fnd_gt hx1 e)
      · have x0 : x = 0 := nI_inj (b := 0) (by omega) (by decide) z
        subst x0
        exact bec fnd_1
  refine key n 0 h r 0 (by omega) (by rw [if_pos rfl]) FR.rf o ex.rf L (fun q => absurd q (by omega)) (fun _ _ _ => ⟨rfl, rfl⟩) (fun _ _ _ => rfl) (fun _ _ _ => ⟨fun q => absurd q (by omega), rfl⟩)
theorem kp_of2 {r r' : rst} {q : Nat} (hq : 10 ≤ q) (x : ex [38, 39, 40, 44, 45] r r') (h1 : ∀ i, i ≠ q → i ≠ 11 → r'.2.1 38 i = r.2.1 38 i ∧ r'.2.1 39 i = r.2.1 39 i) (h2 : ∀ i, (i < 96 * q ∨ 96 * q + 96 ≤ i) → (i < 1056 ∨ 1152 ≤ i) → r'.2.1 40 i = r.2.1 40 i) : kp r r' := ⟨by rw [x.1], ⟨x.2.2 35 (by simp), x.2.2 36 (by simp), x.2.2 37 (by simp), x.2.2 52 (by simp)⟩, fun p hp => h1 p (by omega) (by omega), fun i hi => h2 i (by omega) (by omega)⟩
theorem r_name {x y : Int32} (F : RFs h st) (w : wfS st) (hK : ∀ h', RFs h' (opName st x y).2 → FR h h' → K (some (.int (opName st x y).1)) h') : Ev (d + 4) (0, 0) MX12_name [.ref 34, .int x, .int y] h K := by
  obtain ⟨r, o, s⟩ := F
  obtain ⟨h1, e1, f1, o1⟩ := o.p0 (x := 0)
  have s1 : rfS (w0 r 0) st := s.kp w kp.w0 s.1
  refine en_X12_name (bk_X12_name_0 _ _ _ ⟨h1, e1, ?_⟩)
  have bad0 : opName st x y = badO st → h1.1 0 = h.1 0 ∧ K (some (.int (-1000001))) h1 := fun e => by
    rw [e] at hK
    exact ⟨f1.z, hK h1 ⟨_, o1, s1⟩ f1⟩
  refine isPlace_ev (fun q => ⟨_, rfl, fun _ => bad0 (by unfold opName; rw [q]), fun z => absurd rfl z⟩) (fun p0 hp0 e q0 => ⟨_, rfl, fun z => absurd z (by decide), fun _ => ?_⟩)
  subst e
  refine isPlace_ev (fun q => ⟨_, rfl, fun z => absurd rfl z, fun _ => bad0 (by unfold opName; rw [q0, q])⟩) (fun p hp e qp => ⟨_, rfl, fun _ => ⟨_, o1.1, ?_⟩, fun z => absurd z (by decide)⟩)
  subst e
  have unf : opName st (nI p0) (nI p) = match st.2.1 p with
      | none => fndO st 1
      | some c => if ¬ pn c.1 c.2.1 c.2.2 = 1 then fndO st 3 else shvO st p0 c.1 c.2.1 (fnd c.1 c.2.1 c.2.2 c.1).1 := by
    unfold opName
    rw [q0, qp]
    rfl
  refine rlook_ev (d := d + 1) o1 hp (s1.2.2.1 p hp) (w.2.1 p hp) (fun hv h' r' f' o' k' t' => ⟨_, rfl, fun z => absurd z (by decide), fun _ => ⟨(f1.tr f').z, ?_⟩⟩) (fun n k t hv hw h' r' f' o' k' t' => ⟨_, rfl, fun _ => ⟨_, o'.1, ?_⟩, fun z => absurd (by decide) z⟩) (fun n k t hv _ nw h' r' f' o' k' t' => ⟨_, rfl, fun z => absurd z (by decide), fun _ => ⟨(f1.tr f').z, ?_⟩⟩)
  · rw [hv] at unf
    rw [unf] at hK
    exact hK h' ⟨r', o', s1.kp w k' t'⟩ (f1.tr f')
  · rw [hv] at unf
    simp only at unf
    have hw1 : pn n k t = 1 := hw.resolve_left (by decide)
    rw [if_neg (fun q => q hw1)] at unf
    rw [unf] at hK
    obtain ⟨w1', w2', w3', w4', w5'⟩ := w.2.1 p hp n k t hv
    have hL := s1.2.2.1 p hp
    rw [hv] at hL
    have hL : LC (w0 r 0) p n k t := hL
    have L' : LC r' p n k t := kp.LC k' hp w2' w4' hL
    have F' := f1.tr f'
    have hwl := whe_whl w5' ((pn_one w1' (fun j hj => (w5' j hj).1)).mp hw1)
    refine rleast_ev (d := d + 1) (q := 10) o' L' (by omega) (by omega) (by omega) (by omega) (by omega) w1' w2' w4' w5' hwl (fun h2 r2 f2 o2 x2 L2 a2 b2 _ => ⟨_, rfl, _, o2.1, ?_⟩)
    have k2 := k'.tr (kp_of2 (by omega) x2 a2 b2)
    exact rlay_ev (x := 0) o2 (s1.kp w k2 (by rw [x2.1]; exact t')) w hp0 L2 w1' w2' w3' w4' (fnd_pm w1' (Nat.le_refl _) w5' hwl) (fun h3 R3 f3 => ⟨_, rfl, ((F'.tr f2).tr f3).z, hK h3 R3 ((F'.tr f2).tr f3)⟩)
  · rw [hv] at unf
    simp only at unf
    rw [if_pos nw] at unf
    rw [unf] at hK
    exact hK h' ⟨r', o', s1.kp w k' t'⟩ (f1.tr f')
theorem r_same {x y : Int32} (F : RFs h st) (w : wfS st) (hK : ∀ h', RFs h' (opSame st x y).2 → FR h h' → K (some (.int (opSame st x y).1)) h') : Ev (d + 4) (0, 0) MX12_same [.ref 34, .int x, .int y] h K := by
  obtain ⟨r, o, s⟩ := F
  obtain ⟨h1, e1, f1, o1⟩ := o.p0 (x := 0)
  have s1 : rfS (w0 r 0) st := s.kp w kp.w0 s.1
  refine en_X12_same (bk_X12_same_0 _ _ _ ⟨h1, e1, ?_⟩)
  have bad0 : opSame st x y = badO st → h1.1 0 = h.1 0 ∧ K (some (.int (-1000001))) h1 := fun e => by
    rw [e] at hK
    exact ⟨f1.z, hK h1 ⟨_, o1, s1⟩ f1⟩
  refine isPlace_ev (fun q => ⟨_, rfl, fun _ => bad0 (by unfold opSame; rw [q]), fun z => absurd rfl z⟩) (fun a ha e qa => ⟨_, rfl, fun z => absurd z (by decide), fun _ => ?_⟩)
  subst e
  refine isPlace_ev (fun q => ⟨_, rfl, fun z => absurd rfl z, fun _ => bad0 (by unfold opSame; rw [qa, q])⟩) (fun b hb e qb => ⟨_, rfl, fun _ => ⟨_, o1.1, ?_⟩, fun z => absurd z (by decide)⟩)
  subst e
  have unf : opSame st (nI a) (nI b) = match st.2.1 a with
      | none => fndO st 1
      | some c => if ¬ pn c.1 c.2.1 c.2.2 = 1 then fndO st 3 else match st.2.1 b with
        | none => fndO st 1
        | some e => if ¬ pn e.1 e.2.1 e.2.2 = 1 then fndO st 3 else finO (samV c.1 c.2.1 c.2.2 e.1 e.2.1 e.2.2) st := by
    unfold opSame
    rw [qa, qb]
    rfl
  refine rlook_ev (d := d + 1) o1 ha (s1.2.2.1 a ha) (w.2.1 a ha) (fun hv h' r' f' o' k' t' => ⟨_, rfl, fun _ => ?_, fun z => absurd z (by decide)⟩) (fun n k t hv hw h' r' f' o' k' t' => ⟨_, rfl, fun z => absurd rfl z, fun _ => ⟨_, o'.1, ?_⟩⟩) (fun n k t hv _ nw h' r' f' o' k' t' => ⟨_, rfl, fun _ => ?_, fun z => absurd z (by decide)⟩)
  · rw [hv] at unf
    rw [unf] at hK
    exact bk_X12_same_40 _ _ _ _ ⟨fun z => absurd z (by decide), fun _ => ⟨(f1.tr f').z, hK h' ⟨r', o', s1.kp w k' t'⟩ (f1.tr f')⟩⟩
  · rw [hv] at unf
    simp only at unf
    have hw1 : pn n k t = 1 := hw.resolve_left (by decide)
    rw [if_neg (fun q => q hw1)] at unf
    obtain ⟨w1', w2', w3', w4', w5'⟩ := w.2.1 a ha n k t hv
    have hL := s1.2.2.1 a ha
    rw [hv] at hL
    have hL : LC (w0 r 0) a n k t := hL
    have F' := f1.tr f'
    have hwl := whe_whl w5' ((pn_one w1' (fun j hj => (w5' j hj).1)).mp hw1)
    have s' : rfS r' (stS st 0) := s1.kp w k' t'
    refine rlook_ev (d := d + 1) o' hb (show rfC r' b (st.2.1 b) from s'.2.2.1 b hb) (w.2.1 b hb) (fun hv2 h2 r2 f2 o2 k2 t2 => ⟨_, rfl, ?_⟩) (fun n' k2' u hv2 hw2 h2 r2 f2 o2 k2 t2 => ⟨_, rfl, ?_⟩) (fun n' k2' u hv2 _ nw h2 r2 f2 o2 k2 t2 => ⟨_, rfl, ?_⟩)
    · rw [hv2] at unf
      rw [unf] at hK
      exact bk_X12_same_40 _ _ _ _ ⟨fun z => absurd z (by decide), fun _ => ⟨(F'.tr f2).z, hK h2 ⟨r2, o2, s1.kp w (k'.tr k2) t2⟩ (F'.tr f2)⟩⟩
    · rw [hv2] at unf
      simp only at unf
      have hw2' : pn n' k2' u = 1 := hw2.resolve_left (by decide)
      rw [if_neg (fun q => q hw2')] at unf
      rw [unf] at hK
      obtain ⟨y1', y2', y3', y4', y5'⟩ := w.2.1 b hb n' k2' u hv2
      have hL2 := s1.2.2.1 b hb
      rw [hv2] at hL2
      have hL2 : LC (w0 r 0) b n' k2' u := hL2
      have kk := k'.tr k2
      have La := kp.LC kk ha w2' w4' hL
      have Lb := kp.LC kk hb y2' y4' hL2
      have F2 := F'.tr f2
      have no : ¬ (n = n' ∧ k = k2' ∧ teq n k (fnd n k t n).1 (fnd n' k2' u n').1) → samV n k t n' k2' u = 0 := fun w => by unfold samV; rw [if_neg w]
      refine bk_X12_same_40 _ _ _ _ ⟨fun _ => ⟨_, o2.f5, _, o2.il 38 13 (by decide) (by omega), _, o2.f5, _, o2.il 38 13 (by decide) (by omega), ?_⟩, fun z => absurd (by decide) z⟩
      rw [La.1, Lb.1]
      have kk2 := hK h2 ⟨r2, o2, s1.kp w kk t2⟩ F2
      refine ⟨fun z => ⟨F2.z, ?_⟩, fun z => ⟨_, o2.f6, _, o2.il 39 13 (by decide) (by omega), _, o2.f6, _, o2.il 39 13 (by decide) (by omega), ?_⟩⟩
      · have e : (finO (samV n k t n' k2' u) st).1 = 0 := no (fun q => z (by rw [q.1]))
        rw [e] at kk2
        exact kk2
      rw [La.2.1, Lb.2.1]
      refine ⟨fun z2 => ⟨_, o2.1, ?_⟩, fun z2 => ⟨F2.z, ?_⟩⟩
      · have en : n = n' := nI_inj (by omega) (by omega) z
        have ek : k = k2' := nI_inj (by omega) (by omega) z2
        subst en; subst ek
        have hwl2 := whe_whl y5' ((pn_one y1' (fun j hj => (y5' j hj).1)).mp hw2')
        refine rleast_ev (d := d + 1) (q := 10) o2 La (by omega) (by omega) (by omega) (by omega) (by omega) w1' w2' w4' w5' hwl (fun h3 r3 f3 o3 x3 L3 a3 b3 _ => ⟨_, rfl, _, o3.1, ?_⟩)
        have k3 := kp_of2 (by omega) x3 a3 b3
        have Lb3 := kp.LC k3 hb y2' y4' Lb
        refine rleast_ev (d := d + 1) (q := 12) o3 Lb3 (by omega) (by omega) (by omega) (by omega) (by omega) y1' y2' y4' y5' hwl2 (fun h4 r4 f4 o4 x4 L4 a4 b4 _ => ⟨_, rfl, _, o4.1, ?_⟩)
        have k4 := kp_of2 (by omega) x4 a4 b4
        have L34 : LC r4 10 n k (fnd n k t n).1 := ⟨by rw [(a4 10 (by omega) (by omega)).1]; exact L3.1, by rw [(a4 10 (by omega) (by omega)).2]; exact L3.2.1, fun j hj y hy => by rw [b4 _ (by omega) (by omega)]; exact L3.2.2 j hj y hy⟩
        have p1 := fnd_pm (s := n) w1' (Nat.le_refl _) w5' hwl
        have p2 := fnd_pm (s := n) y1' (Nat.le_refl _) y5' hwl2
        have F4 := (F2.tr f3).tr f4
        have kk4 := hK h4 ⟨r4, o4, s1.kp w ((kk.tr k3).tr k4) (by rw [x4.1, x3.1]; exact t2)⟩ F4
        refine rcompare_ev (d := d + 2) (p := 10) (q := 12) o4 L34 L4 (by omega) (by omega) w2' w4' (fun j hj => (p1 j hj).1) (fun j hj => (p2 j hj).1) (fun e => ⟨_, rfl, fun y => absurd rfl y, fun _ => ⟨F4.z, ?_⟩⟩) (fun e v hv' => ⟨_, rfl, fun _ => ⟨F4.z, ?_⟩, fun y => absurd (by rw [y]; decide) hv'⟩) (fun e v hv' hv0 => ⟨_, rfl, fun _ => ⟨F4.z, ?_⟩, fun y => absurd y hv0⟩)
        · have e1 : (finO (samV n k t n k u) st).1 = 1 := by
            show samV n k t n k u = 1
            unfold samV
            rw [if_pos ⟨rfl, rfl, e⟩]
          rw [e1] at kk4
          exact kk4
        · have e1 : (finO (samV n k t n k u) st).1 = 0 := no (fun q => lex_ne e q.2.2)
          rw [e1] at kk4
          exact kk4
        · have e1 : (finO (samV n k t n k u) st).1 = 0 := no (fun q => lex_ne e (fun j hj i hi => (q.2.2 j hj i hi).symm))
          rw [e1] at kk4
          exact kk4
      · have e : (finO (samV n k t n' k2' u) st).1 = 0 := no (fun q => z2 (by rw [q.2.1]))
        rw [e] at kk2
        exact kk2
    · rw [hv2] at unf
      simp only at unf
      rw [if_pos nw] at unf
      rw [unf] at hK
      exact bk_X12_same_40 _ _ _ _ ⟨fun z => absurd z (by decide), fun _ => ⟨(F'.tr f2).z, hK h2 ⟨r2, o2, s1.kp w (k'.tr k2) t2⟩ (F'.tr f2)⟩⟩
  · rw [hv] at unf
    simp only at unf
    rw [if_pos nw] at unf
    rw [unf] at hK
    exact bk_X12_same_40 _ _ _ _ ⟨fun z => absurd z (by decide), fun _ => ⟨(f1.tr f').z, hK h' ⟨r', o', s1.kp w k' t'⟩ (f1.tr f')⟩⟩
end RefName

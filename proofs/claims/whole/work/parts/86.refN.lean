/-! the reference: shapes -/
def lA (n s k : Nat) : Nat := (pA n s).getD k 0
def fs1 (f : Nat → Nat) : Nat → Nat → Nat × Nat
  | 0, l => (0, l)
  | m + 1, l => if 2 ≤ f m then (m + 1, l) else fs1 f m (l + f m)
def fsl (k most left : Nat) : Nat → Nat
  | 0 => left
  | j + 1 => if k < j then fsl k most left j - most else fsl k most left j
def fse (f : Nat → Nat) (k most left j : Nat) : Nat := if j < k then f j else if j = k then most else min (fsl k most left j) most
theorem tb_l0 : ∀ n, n < 11 → 1 ≤ n → ∀ k, k < 10 → lA n 0 k = if k = 0 then n else 0 := by decide +kernel
theorem tb_lb : ∀ n, n < 11 → ∀ s, s < (pT n).length → ∀ k, k < 10 → lA n s k ≤ 10 := by decide +kernel
theorem tb_fs : ∀ n, n < 11 → 1 ≤ n → ∀ s, s < (pT n).length → (if s + 1 < (pT n).length then ¬ (fs1 (lA n s) 10 1).1 = 0 ∧ ∀ j, j < 10 → fse (lA n s) ((fs1 (lA n s) 10 1).1 - 1) (lA n s ((fs1 (lA n s) 10 1).1 - 1) - 1) (fs1 (lA n s) 10 1).2 j = lA n (s + 1) j else (fs1 (lA n s) 10 1).1 = 0) := by decide +kernel
theorem fsl_le (k most left : Nat) : ∀ j, fsl k most left j ≤ left
  | 0 => Nat.le_refl _
  | j + 1 => by
    have := fsl_le k most left j
    unfold fsl
    split <;> omega
/-- numbers but the shapes, and rows outside S, are as they were -/
def xe (S : List Nat) (r r' : rst) : Prop := (r'.1.1 = r.1.1 ∧ r'.1.2.1 = r.1.2.1 ∧ r'.1.2.2.1 = r.1.2.2.1) ∧ ∀ a, a ∉ S → r'.2.1 a = r.2.1 a
theorem xe.rf {S : List Nat} {r : rst} : xe S r r := ⟨⟨rfl, rfl, rfl⟩, fun _ _ => rfl⟩
theorem xe.tr {S : List Nat} {r r1 r2 : rst} (f : xe S r r1) (g : xe S r1 r2) : xe S r r2 := ⟨⟨g.1.1.trans f.1.1, g.1.2.1.trans f.1.2.1, g.1.2.2.trans f.1.2.2⟩, fun a ha => (g.2 a ha).trans (f.2 a ha)⟩
theorem xe.wk {S T : List Nat} {r r1 : rst} (f : xe S r r1) (h : ∀ a, a ∈ S → a ∈ T) : xe T r r1 := ⟨f.1, fun a ha => f.2 a (fun q => ha (h a q))⟩
theorem ex.xe {S : List Nat} {r r' : rst} (e : ex S r r') : xe S r r' := ⟨⟨by rw [e.1], by rw [e.1], by rw [e.1]⟩, e.2.2⟩
theorem xe.w21 {S : List Nat} {r : rst} {x : Int32} : xe S r (w21 r x) := ⟨⟨rfl, rfl, rfl⟩, fun _ _ => rfl⟩
theorem xe.wl {S : List Nat} {r : rst} {a j : Nat} {x : Int64} : xe S r (wl r a j x) := ⟨⟨rfl, rfl, rfl⟩, fun _ _ => rfl⟩
theorem xe.kp {S : List Nat} {r r' : rst} (e : xe S r r') (hS : ∀ a, a ∈ S → 41 ≤ a ∧ a ≠ 52) : kp r r' := by
  have ok : ∀ a, a < 41 ∨ a = 52 → r'.2.1 a = r.2.1 a := fun a ha => e.2 a (fun q => by have := hS a q; omega)
  exact ⟨e.1.2.2, ⟨ok 35 (by omega), ok 36 (by omega), ok 37 (by omega), ok 52 (by omega)⟩, fun p _ => ⟨by rw [ok 38 (by omega)], by rw [ok 39 (by omega)]⟩, fun i _ => by rw [ok 40 (by omega)]⟩
/-- the shapes as far as s -/
def FS (r : rst) (n s : Nat) : Prop := r.1.2.2.2 = nI (s + 1) ∧ ∀ s', s' ≤ s → ∀ k, k < 10 → r.2.1 53 (10 * s' + k) = nI (lA n s' k)
theorem n10 (x y : Nat) : (10 : Int32) * nI x + nI y = nI (10 * x + y) := by rw [show (10 : Int32) = nI 10 by decide, pk_mul, nI_add]
section RefShapes
variable {d : Nat} {h : mH} {r : rst} {st : AS} {K : Option Value → mH → Prop}
theorem rfind_ev {n : Nat} (o : RR h r) (hn1 : 1 ≤ n) (hn : n < 11) (hK : ∀ h' r', FR h h' → RR h' r' → xe [53] r r' → FS r' n ((pT n).length - 1) → K none h') : Ev d (0, 0) MX12_findShapes [.ref 34, .int (nI n)] h K := by
  obtain ⟨-, t42, t1⟩ := tb_len n hn
  have t1 := t1 hn1
  -- all rows
  have rows : ∀ c s h1 r1, s + 1 + c = (pT n).length → FR h h1 → RR h1 r1 → xe [53] r r1 → FS r1 n s → Wm d (0, 0) JX12_findShapes 36 [some (.ref 34), none, some (.int 1), none, none, none, none, none] [] h1 (fun r h' => h'.1 0 = h.1 0 ∧ K r h') := by
    intro c
    induction c with
    | zero =>
      intro s h1 r1 hs f1 o1 x1 S1
      have tf := tb_fs n hn hn1 s (by omega)
      rw [if_neg (by omega)] at tf
      refine bk_X12_findShapes_36 _ _ ⟨fun z => absurd z (by decide), fun _ => ⟨_, o1.f21, ?_⟩⟩
      rw [S1.1, show nI (s + 1) - 1 = nI s from nI_pred s, show (10 : Int32) = nI 10 by decide, pk_mul]
      have key : ∀ m l, m ≤ 10 → l ≤ 1 + 10 * (10 - m) → fs1 (lA n s) m l = fs1 (lA n s) 10 1 → Wm d (0, 0) JX12_findShapes 57 [some (.ref 34), none, none, some (.int (nI (10 * s))), some (.int (nI m - 1)), some (.int (nI l)), none, none] [] h1 (fun r h' => h'.1 0 = h.1 0 ∧ K r h') := by
        intro m
        induction m with
        | zero =>
          intro l hm hl e
          refine bk_X12_findShapes_57 _ _ _ _ ⟨fun _ => ⟨fun _ => ?_, fun z => absurd (by decide) z⟩, fun z => absurd (by decide) z⟩
          refine bk_X12_findShapes_36 _ _ ⟨fun _ => ⟨f1.z, hK h1 r1 f1 o1 x1 ?_⟩, fun z => absurd rfl z⟩
          rw [show (pT n).length - 1 = s by omega]
          exact S1
        | succ m ih =>
          intro l hm hl e
          have b := tb_lb n hn s (by omega) m (by omega)
          have v : m_il h1 53 (nI (10 * s + m)) = some (nI (lA n s m)) := by rw [o1.il 53 430 (by decide) (by omega), S1.2 s (Nat.le_refl _) m (by omega)]
          rw [show nI (m + 1) - 1 = nI m from nI_pred m]
          refine bk_X12_findShapes_57 _ _ _ _ ⟨fun z => absurd z (nI_pos (by omega)), fun _ => ⟨_, o1.f22, ?_⟩⟩
          rw [nI_add]
          refine ⟨_, v, fun z => ?_, fun z => ⟨_, o1.f22, _, v, ?_⟩⟩
          · have z : 2 ≤ lA n s m := (nI_leI (a := 2) (by decide) (by omega)).mp z
            have e2 : fs1 (lA n s) (m + 1) l = (m + 1, l) := if_pos z
            rw [← e, e2] at tf
            exact absurd tf (by show ¬ m + 1 = 0; omega)
          · have z : ¬ 2 ≤ lA n s m := fun q => z (le_t (a := 2) q (by omega))
            have e2 : fs1 (lA n s) (m + 1) l = fs1 (lA n s) m (l + lA n s m) := if_neg z
            rw [nI_add, ← Int32.sub_eq_add_neg]
            exact ih _ (by omega) (by omega) (e2.symm.trans e)
      exact key 10 1 (by omega) (by omega) rfl
    | succ c ihc =>
      intro s h1 r1 hs f1 o1 x1 S1
      have tf := tb_fs n hn hn1 s (by omega)
      rw [if_pos (by omega)] at tf
      refine bk_X12_findShapes_36 _ _ ⟨fun z => absurd z (by decide), fun _ => ⟨_, o1.f21, ?_⟩⟩
      rw [S1.1, show nI (s + 1) - 1 = nI s from nI_pred s, show (10 : Int32) = nI 10 by decide, pk_mul]
      have key : ∀ m l, m ≤ 10 → l ≤ 1 + 10 * (10 - m) → fs1 (lA n s) m l = fs1 (lA n s) 10 1 → Wm d (0, 0) JX12_findShapes 57 [some (.ref 34), none, none, some (.int (nI (10 * s))), some (.int (nI m - 1)), some (.int (nI l)), none, none] [] h1 (fun r h' => h'.1 0 = h.1 0 ∧ K r h') := by
        intro m
        induction m with
        | zero =>
          intro l hm hl e
          rw [← e] at tf
          exact absurd rfl tf.1
        | succ m ih =>
          intro l hm hl e
          have b := tb_lb n hn s (by omega) m (by omega)
          have v : m_il h1 53 (nI (10 * s + m)) = some (nI (lA n s m)) := by rw [o1.il 53 430 (by decide) (by omega), S1.2 s (Nat.le_refl _) m (by omega)]
          rw [show nI (m + 1) - 1 = nI m from nI_pred m]
          refine bk_X12_findShapes_57 _ _ _ _ ⟨fun z => absurd z (nI_pos (by omega)), fun _ => ⟨_, o1.f22, ?_⟩⟩
          rw [nI_add]
          refine ⟨_, v, fun z => ⟨fun y => absurd y (nI_pos (by omega)), fun _ => ⟨_, o1.f22, _, v, ?_⟩⟩, fun z => ⟨_, o1.f22, _, v, ?_⟩⟩
          · have z : 2 ≤ lA n s m := (nI_leI (a := 2) (by decide) (by omega)).mp z
            have e2 : fs1 (lA n s) (m + 1) l = (m + 1, l) := if_pos z
            rw [← e, e2] at tf
            have tf : ∀ j, j < 10 → fse (lA n s) m (lA n s m - 1) l j = lA n (s + 1) j := tf.2
            rw [nI_m1 (by omega)]
            have fill : ∀ c' j h2 r2, j + c' = 10 → FR h h2 → RR h2 r2 → ex [53] r1 r2 → (∀ a, a < 10 * (s + 1) → r2.2.1 53 a = r1.2.1 53 a) → (∀ j', j' < j → r2.2.1 53 (10 * (s + 1) + j') = nI (lA n (s + 1) j')) → Wm d (0, 0) JX12_findShapes 126 [some (.ref 34), none, some (.int 1), some (.int (nI (10 * s))), some (.int (nI m)), some (.int (nI (fsl m (lA n s m - 1) l j))), some (.int (nI (lA n s m - 1))), some (.int (nI j))] [] h2 (fun r h' => h'.1 0 = h.1 0 ∧ K r h') := by
              intro c'
              induction c' with
              | zero =>
                intro j h2 r2 hj f2 o2 x2 l2 v2
                have hj : j = 10 := by omega
                subst hj
                obtain ⟨h3, e3, f3, o3⟩ := o2.p21 (x := nI (s + 1 + 1))
                refine bk_X12_findShapes_126 _ _ _ _ _ _ _ ⟨fun _ => ⟨_, o2.f21, ?_⟩, fun z => absurd (le_t (a := 10) (b := 10) (by decide) (by decide)) z⟩
                rw [show r2.1.2.2.2 = nI (s + 1) by rw [x2.1]; exact S1.1, nI_1]
                refine ⟨h3, e3, ?_⟩
                refine ihc (s + 1) h3 _ (by omega) (f2.tr f3) o3 ((x1.tr x2.xe).tr xe.w21) ⟨rfl, fun s' hs' k hk => ?_⟩
                show r2.2.1 53 (10 * s' + k) = _
                by_cases q : s' = s + 1
                · rw [q]; exact v2 k hk
                · rw [l2 _ (by omega)]; exact S1.2 s' (by omega) k hk
              | succ c' ihj =>
                intro j h2 r2 hj f2 o2 x2 l2 v2
                have hfl := fsl_le m (lA n s m - 1) l j
                have tj := tf j (by omega)
                have ihj := fun h2 r2 => ihj (j + 1) h2 r2 (by omega)
                have put : ∀ x : Nat, x = lA n (s + 1) j → ∀ h3, RR h3 (wr r2 53 (10 * (s + 1) + j) (nI x)) → FR h2 h3 → Wm d (0, 0) JX12_findShapes 126 [some (.ref 34), none, some (.int 1), some (.int (nI (10 * s))), some (.int (nI m)), some (.int (nI (fsl m (lA n s m - 1) l (j + 1)))), some (.int (nI (lA n s m - 1))), some (.int (nI (j + 1)))] [] h3 (fun r h' => h'.1 0 = h.1 0 ∧ K r h') := by
                  intro x hx h3 o3 f3
                  refine ihj h3 _ (f2.tr f3) o3 (x2.tr (ex.wr (by simp))) (fun a ha => by rw [wr_i (by omega)]; exact l2 a ha) (fun j' hj' => ?_)
                  by_cases q : j' = j
                  · rw [q, wr_j, hx]
                  · rw [wr_i (by omega)]; exact v2 j' (by omega)
                have idx : nI (10 * s) + 10 + nI j = nI (10 * (s + 1) + j) := by rw [show (10 : Int32) = nI 10 by decide, nI_add, nI_add, show 10 * s + 10 + j = 10 * (s + 1) + j by omega]
                have eqj : ∀ {A : Prop}, (j < 10 → A) → A := fun f => f (by omega)
                refine bk_X12_findShapes_126 _ _ _ _ _ _ _ ⟨fun z => absurd z (le_f (a := 10) (b := j) (by omega) (by decide)), fun _ => ?_⟩
                rw [idx, nI_1]
                refine ⟨fun z => ⟨fun z2 => ⟨_, o2.f22, ?_⟩, fun z2 => ⟨_, o2.f22, ?_⟩⟩, fun z => ⟨_, o2.f22, _, o2.f22, ?_⟩⟩
                · have z : m ≤ j := (nI_leI (by omega) (by omega)).mp z
                  have z2 : ¬ j = m := fun q => z2 (by rw [q])
                  have el : fse (lA n s) m (lA n s m - 1) l j = min (fsl m (lA n s m - 1) l j) (lA n s m - 1) := by unfold fse; rw [if_neg (by omega), if_neg z2]
                  have ef : fsl m (lA n s m - 1) l (j + 1) = fsl m (lA n s m - 1) l j - (lA n s m - 1) := by
                    show (if m < j then _ else _) = _
                    rw [if_pos (by omega)]
                  rw [el] at tj
                  rw [ef] at put
                  refine ⟨fun y => ?_, fun y => ?_⟩
                  · have y := (nI_leI (by omega) (by omega)).mp y
                    obtain ⟨h3, e3, f3, o3⟩ := o2.is (x := nI (lA n s m - 1)) (j := 10 * (s + 1) + j) 53 430 (by decide) (by omega)
                    refine ⟨h3, e3, _, o3.f22, _, o3.il 53 430 (by decide) (by omega), ?_⟩
                    rw [wr_j, pk_sub y]
                    exact put _ (by omega) h3 o3 f3
                  · have y : fsl m (lA n s m - 1) l j < lA n s m - 1 := by
                      rcases Nat.lt_or_ge (fsl m (lA n s m - 1) l j) (lA n s m - 1) with q | q
                      · exact q
                      · exact absurd (le_t q (by omega)) y
                    obtain ⟨h3, e3, f3, o3⟩ := o2.is (x := nI (fsl m (lA n s m - 1) l j)) (j := 10 * (s + 1) + j) 53 430 (by decide) (by omega)
                    refine ⟨h3, e3, _, o3.f22, _, o3.il 53 430 (by decide) (by omega), ?_⟩
                    rw [wr_j, pk_sub (Nat.le_refl _)]
                    have := put _ (by omega) h3 o3 f3
                    rw [show fsl m (lA n s m - 1) l j - (lA n s m - 1) = fsl m (lA n s m - 1) l j - fsl m (lA n s m - 1) l j by omega] at this
                    exact this
                · have z2 : j = m := nI_inj (by omega) (by omega) z2
                  have el : fse (lA n s) m (lA n s m - 1) l j = lA n s m - 1 := by unfold fse; rw [if_neg (by omega), if_pos z2]
                  have ef : fsl m (lA n s m - 1) l (j + 1) = fsl m (lA n s m - 1) l j := by
                    show (if m < j then _ else _) = _
                    rw [if_neg (by omega)]
                  rw [el] at tj
                  rw [ef] at put
                  obtain ⟨h3, e3, f3, o3⟩ := o2.is (x := nI (lA n s m - 1)) (j := 10 * (s + 1) + j) 53 430 (by decide) (by omega)
                  exact ⟨h3, e3, put _ tj h3 o3 f3⟩
                · have z : j < m := by
                    rcases Nat.lt_or_ge j m with q | q
                    · exact q
                    · exact absurd (le_t q (by omega)) z
                  have el : fse (lA n s) m (lA n s m - 1) l j = lA n s j := by unfold fse; rw [if_pos z]
                  have ef : fsl m (lA n s m - 1) l (j + 1) = fsl m (lA n s m - 1) l j := by
                    show (if m < j then _ else _) = _
                    rw [if_neg (by omega)]
                  rw [el] at tj
                  rw [ef] at put
                  obtain ⟨h3, e3, f3, o3⟩ := o2.is (x := nI (lA n s j)) (j := 10 * (s + 1) + j) 53 430 (by decide) (by omega)
                  rw [nI_add]
                  refine ⟨_, o2.il 53 430 (by decide) (by omega), h3, ?_, put _ tj h3 o3 f3⟩
                  rw [l2 _ (by omega), S1.2 s (Nat.le_refl _) j (by omega)]
                  exact e3
            exact fill 10 0 h1 r1 (by omega) f1 o1 ex.rf (fun _ _ => rfl) (fun j' hj' => absurd hj' (by omega))
          · have z : ¬ 2 ≤ lA n s m := fun q => z (le_t (a := 2) q (by omega))
            have e2 : fs1 (lA n s) (m + 1) l = fs1 (lA n s) m (l + lA n s m) := if_neg z
            rw [nI_add, ← Int32.sub_eq_add_neg]
            exact ih _ (by omega) (by omega) (e2.symm.trans e)
      exact key 10 1 (by omega) (by omega) rfl
  -- the first row
  refine en_X12_findShapes (bk_X12_findShapes_0 _ _ ?_)
  have fst : ∀ c k h1 r1, k + c = 10 → FR h h1 → RR h1 r1 → xe [53] r r1 → (∀ k', k' < k → r1.2.1 53 k' = nI (lA n 0 k')) → Wm d (0, 0) JX12_findShapes 2 [some (.ref 34), some (.int (nI n)), some (.int (nI k)), none, none, none, none, none] [] h1 (fun r h' => h'.1 0 = h.1 0 ∧ K r h') := by
    intro c
    induction c with
    | zero =>
      intro k h1 r1 hk f1 o1 x1 v1
      have hk : k = 10 := by omega
      subst hk
      obtain ⟨h2, e2, f2, o2⟩ := o1.p21 (x := 1)
      refine bk_X12_findShapes_2 _ _ _ ⟨fun _ => ⟨h2, e2, ?_⟩, fun z => absurd (le_t (a := 10) (b := 10) (by decide) (by decide)) z⟩
      refine rows ((pT n).length - 1) 0 h2 _ (by omega) (f1.tr f2) o2 (x1.tr xe.w21) ⟨rfl, fun s' hs' k hk => ?_⟩
      have : s' = 0 := by omega
      subst this
      show r1.2.1 53 (10 * 0 + k) = _
      rw [show 10 * 0 + k = k by omega]
      exact v1 k hk
    | succ c ih =>
      intro k h1 r1 hk f1 o1 x1 v1
      have t0 := tb_l0 n hn hn1 k (by omega)
      refine bk_X12_findShapes_2 _ _ _ ⟨fun z => absurd z (le_f (a := 10) (b := k) (by omega) (by decide)), fun _ => ⟨_, o1.f22, fun z => ?_, fun z => ?_⟩⟩
      · have z : ¬ k = 0 := fun q => z (by rw [q]; rfl)
        rw [if_neg z] at t0
        obtain ⟨h2, e2, f2, o2⟩ := o1.is (x := 0) (j := k) 53 430 (by decide) (by omega)
        refine ⟨h2, e2, ?_⟩
        rw [nI_1]
        refine ih (k + 1) h2 _ (by omega) (f1.tr f2) o2 (x1.tr (ex.wr (by simp)).xe) (fun k' hk' => ?_)
        by_cases q : k' = k
        · rw [q, wr_j, t0]; rfl
        · rw [wr_i q]; exact v1 k' (by omega)
      · have z : k = 0 := nI_inj (b := 0) (by omega) (by decide) z
        rw [if_pos z] at t0
        obtain ⟨h2, e2, f2, o2⟩ := o1.is (x := nI n) (j := k) 53 430 (by decide) (by omega)
        refine ⟨h2, e2, ?_⟩
        rw [nI_1]
        refine ih (k + 1) h2 _ (by omega) (f1.tr f2) o2 (x1.tr (ex.wr (by simp)).xe) (fun k' hk' => ?_)
        by_cases q : k' = k
        · rw [q, wr_j, t0]
        · rw [wr_i q]; exact v1 k' (by omega)
  exact fst 10 0 h r (by omega) FR.rf o xe.rf (fun k' hk' => absurd hk' (by omega))
end RefShapes
theorem cn_shift (p : Nat → Bool) : ∀ m, cn p (m + 1) = (if p 0 = true then 1 else 0) + cn (fun i => p (i + 1)) m
  | 0 => by simp [cn]
  | m + 1 => by rw [cn_succ, cn_shift p m, cn_succ]; omega
theorem cn_list (v : Nat) : ∀ L : List Nat, cn (fun i => L.getD i 0 == v) L.length = ct L v
  | [] => rfl
  | a :: L => by
    rw [List.length_cons, cn_shift, ct_cons, ← cn_list v L]
    have e : cn (fun i => (a :: L).getD (i + 1) 0 == v) L.length = cn (fun i => L.getD i 0 == v) L.length := cn_congr (fun i _ => by simp)
    rw [e]
    unfold o1
    by_cases w : a = v
    · simp [w]; omega
    · simp [w, Ne.symm w]
theorem tb_srt : ∀ n, n < 11 → ∀ s, s < (pT n).length → ∀ j, j < (pA n s).length → ∀ i, i < j + 1 → (pA n s).getD j 0 ≤ (pA n s).getD i 0 := by decide +kernel
theorem tb_pos : ∀ n, n < 11 → ∀ s, s < (pT n).length → ∀ l, l ∈ pA n s → 1 ≤ l ∧ l ≤ 12 := by decide +kernel
theorem lnA_tab {n s : Nat} (hn : n < 11) (hs : s < (pT n).length) (i : Nat) : laR (ct (pA n s)) i 12 = if i < 10 ∧ ¬ lA n s i = 0 then nI (lA n s i) else -1000000 := by
  have h1 : srd (fun i => (pA n s).getD i 0) (pA n s) := ⟨fun i j hij hj => tb_srt n hn s hs j hj i (by omega), fun v => cn_list v _⟩
  rw [laR_srd h1 (tb_pos n hn s hs) i]
  have h10 := (tb_enc n hn s hs).2.2
  by_cases w : i < (pA n s).length
  · have : 1 ≤ lA n s i := by
      have e : lA n s i = (pA n s)[i] := by unfold lA; simp [w]
      rw [e]
      exact (tb_pos n hn s hs _ (List.getElem_mem w)).1
    rw [if_pos w, if_pos ⟨by omega, by omega⟩]
    rfl
  · have : lA n s i = 0 := by
      unfold lA
      rw [List.getD_eq_getElem?_getD, List.getElem?_eq_none (by omega)]
      rfl
    rw [if_neg w, if_neg (fun q => q.2 this)]
section RefShapes2
variable {d : Nat} {h : mH} {r : rst} {st : AS} {K : Option Value → mH → Prop}
theorem gt9 {y : Int32} : (9 < y ↔ ¬ y ≤ 9) := by
  rw [Int32.lt_iff_toInt_lt, Int32.le_iff_toInt_le]
  omega
theorem gt10 {y : Int32} : (10 < y ↔ ¬ y ≤ 10) := by
  rw [Int32.lt_iff_toInt_lt, Int32.le_iff_toInt_le]
  omega
theorem r_shapes {x y z : Int32} (F : RFs h st) (w : wfS st) (hK : ∀ h', RFs h' st → FR h h' → K (some (.int (opShapes x y z))) h') : Ev (d + 1) (0, 0) MX12_shapes [.ref 34, .int x, .int y, .int z] h K := by
  obtain ⟨r, o, s⟩ := F
  obtain ⟨h1, e1, f1, o1⟩ := o.p0 (x := 0)
  have s1 : rfS (w0 r 0) st := s.kp w kp.w0 s.1
  refine en_X12_shapes (bk_X12_shapes_0 _ _ _ _ ⟨h1, e1, ?_⟩)
  refine rin_ev (lo := 1) (hi := 10) (by decide) (by decide) (fun q => ⟨_, rfl, fun z => absurd rfl z, fun _ => ⟨f1.z, ?_⟩⟩) (fun v1 v2 => ⟨_, rfl, fun _ => ⟨_, o1.1, ?_⟩, fun z => absurd z (by decide)⟩)
  · have := hK h1 ⟨_, o1, s1⟩ f1
    unfold opShapes at this
    rw [if_pos (q.elim Or.inl (fun q => Or.inr (gt10.mp q)))] at this
    exact this
  have v3 : x ≤ 10 := Classical.byContradiction fun z => v2 (gt10.mpr z)
  have z1 : ¬ x < 0 := fun q => v1 (by rw [Int32.lt_iff_toInt_lt] at q ⊢; have : (0 : Int32).toInt = 0 := rfl; have : (1 : Int32).toInt = 1 := rfl; omega)
  obtain ⟨n, hn31, rfl⟩ := nI_of z1
  have n1 : 1 ≤ n := by
    rcases Nat.lt_or_ge n 1 with q | q
    · exact absurd (lt_t (b := 1) q (by decide)) v1
    · exact q
  have n10' : n ≤ 10 := (nI_leI (b := 10) (by omega) (by decide)).mp v3
  have unf : opShapes (nI n) y z = if y = -1000000 then nI (pT n).length else match ixI y (pT n).length with
      | none => -1000001
      | some s => lnA (ct (pA n s)) z := by
    unfold opShapes
    rw [if_neg (fun q => q.elim v1 (fun q => q v3)), nI_clamp hn31]
    rfl
  obtain ⟨-, t42, t1⟩ := tb_len n (by omega)
  have t1 := t1 n1
  refine rfind_ev o1 n1 (by omega) (fun h2 r2 f2 o2 x2 S2 => ⟨rfl, ?_⟩)
  unfold FS at S2
  rw [show (pT n).length - 1 + 1 = (pT n).length by omega] at S2
  have F2 := f1.tr f2
  have kk := hK h2 ⟨r2, o2, s1.kp w (x2.kp (by simp)) (by rw [x2.1.2.1]; exact s1.1)⟩ F2
  rw [unf] at kk
  refine ⟨fun q => ⟨_, o2.f21, ?_⟩, fun q => ⟨_, o2.f21, F2.z, ?_⟩⟩
  · rw [if_neg q] at kk
    rw [S2.1]
    refine rin0_ev (N := (pT n).length) (by omega) rfl (fun q2 => ⟨_, rfl, fun z => absurd rfl z, fun _ => ⟨F2.z, ?_⟩⟩) (fun t ht e q2 => ⟨_, rfl, fun _ => ?_, fun z => absurd z (by decide)⟩)
    · rw [q2] at kk
      exact kk
    rw [q2] at kk
    simp only at kk
    subst e
    refine rin0_ev (N := 10) (by decide) (by decide) (fun q3 => ⟨_, rfl, fun _ => ⟨F2.z, ?_⟩, fun z => absurd rfl z⟩) (fun i hi e q3 => ⟨_, rfl, fun z => absurd z (by decide), fun _ => ⟨_, o2.f22, ?_⟩⟩)
    · have e : lnA (ct (pA n t)) z = -1000000 := by
        unfold lnA
        by_cases b : 0 ≤ z
        · rw [if_neg (fun q => q b)]
          have b0 : ¬ z < 0 := fun q => by rw [Int32.lt_iff_toInt_lt] at q; rw [Int32.le_iff_toInt_le] at b; omega
          obtain ⟨m, hm, rfl⟩ := nI_of b0
          rw [nI_clamp hm, lnA_tab (by omega) ht m, if_neg (fun q => by rw [ixI_s q.1 (by decide)] at q3; exact absurd q3 (by simp))]
        · rw [if_pos b]
      rw [e] at kk
      exact kk
    · subst e
      have b := tb_lb n (by omega) t ht i hi
      have v : m_il h2 53 (nI (10 * t + i)) = some (nI (lA n t i)) := by rw [o2.il 53 430 (by decide) (by omega), S2.2 t (by omega) i hi]
      have e : lnA (ct (pA n t)) (nI i) = if i < 10 ∧ ¬ lA n t i = 0 then nI (lA n t i) else -1000000 := by
        unfold lnA
        rw [if_neg (fun q => q (nI_pos' (by omega))), nI_clamp (by omega), lnA_tab (by omega) ht i]
      rw [e] at kk
      rw [n10]
      refine ⟨_, v, fun y => ⟨F2.z, ?_⟩, fun y => ⟨_, o2.f22, _, v, F2.z, ?_⟩⟩
      · have : lA n t i = 0 := by
          have := (nI_leI (b := 0) (by omega) (by decide)).mp y
          omega
        rw [if_neg (fun q => q.2 this)] at kk
        exact kk
      · rw [if_pos ⟨hi, fun q => y (by rw [q]; exact le_t (a := 0) (b := 0) (by decide) (by decide))⟩] at kk
        exact kk
  · rw [if_pos q] at kk
    rw [S2.1]
    exact kk
end RefShapes2

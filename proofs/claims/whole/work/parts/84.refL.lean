/-! the reference: the heap, and what is told -/
/-- the reference's sieve -/
def HB (r : rst) (n : Nat) (B : hS) : Prop := ∀ i j, i < 12 → j < 12 → r.2.1 47 (12 * i + j) = bO (B i j).isSome ∧ ∀ el, B i j = some el → ∀ z, z < n → r.2.1 48 (12 * (12 * i + j) + z) = nI (el z)
theorem HB.ex {S : List Nat} {r r' : rst} {n : Nat} {B : hS} (H : HB r n B) (e : ex S r r') (h1 : 47 ∉ S) (h2 : 48 ∉ S) : HB r' n B := fun i j hi hj => ⟨by rw [e.at _ h1]; exact (H i j hi hj).1, fun el he z hz => by rw [e.at _ h2]; exact (H i j hi hj).2 el he z hz⟩
/-- how many places are taken -/
def ctB (B : hS) : Nat := cn (fun e => (B (e / 12) (e % 12)).isSome) 144
theorem ctB_up {B : hS} {i j : Nat} {p : Nat → Nat} (hi : i < 12) (hj : j < 12) (hb : B i j = none) : ctB (upB B i j p) = ctB B + 1 := by
  have key : ∀ m, cn (fun e => (upB B i j p (e / 12) (e % 12)).isSome) m = cn (fun e => (B (e / 12) (e % 12)).isSome) m + (if 12 * i + j < m then 1 else 0) := by
    intro m
    induction m with
    | zero => rfl
    | succ m ih =>
      rw [cn_succ, cn_succ, ih]
      by_cases e : m = 12 * i + j
      · have e1 : m / 12 = i := by omega
        have e2 : m % 12 = j := by omega
        rw [e1, e2, hb, if_neg (show ¬ 12 * i + j < m by omega), if_pos (show 12 * i + j < m + 1 by omega)]
        simp [upB]
      · have : upB B i j p (m / 12) (m % 12) = B (m / 12) (m % 12) := by
          unfold upB
          rw [if_neg (fun q => by omega)]
        rw [this]
        by_cases w : 12 * i + j < m
        · rw [if_pos w, if_pos (show 12 * i + j < m + 1 by omega)]; omega
        · rw [if_neg w, if_neg (show ¬ 12 * i + j < m + 1 by omega)]; omega
  have := key 144
  rw [if_pos (by omega)] at this
  exact this
theorem ctB_le (B : hS) : ctB B ≤ 144 := cn_le _ _
theorem n12' (x y : Nat) : (12 : Int32) * nI x + nI y = nI (12 * x + y) := by rw [show (12 : Int32) = nI 12 by decide, pk_mul, nI_add]
theorem bO_1 {el : Nat → Nat} : ¬ bO (some el).isSome = 0 := by show ¬ (1 : Int32) = 0; decide
section RefHeap
variable {d : Nat} {h : mH} {r : rst} {st : AS} {K : Option Value → mH → Prop}
theorem rsift_ev {n k : Nat} {t : Nat → Nat → Nat} {B : hS} {p : Nat → Nat} (o : RR h r) (hn : n ≤ 12) (hB : hI n k t B) (H : HB r n B) (hp : pm n p) (hnow : ∀ z, z < n → r.2.1 49 z = nI (p z)) (hK1 : ∀ h' r' i j p', FR h h' → RR h' r' → ex [47, 48, 49, 50] r r' → HB r' n (sft n B n 0 p) → i < 12 → j < 12 → B i j = none → sft n B n 0 p = upB B i j p' → K (some (.int 1)) h') (hK0 : ∀ h' r', FR h h' → RR h' r' → ex [47, 48, 49, 50] r r' → HB r' n B → sft n B n 0 p = B → K (some (.int 0)) h') : Ev d (0, 0) MX12_sift [.ref 34, .int (nI n)] h K := by
  refine en_X12_sift (bk_X12_sift_0 _ _ ?_)
  have key : ∀ c x h1 r1 q, x + c = n → FR h h1 → RR h1 r1 → ex [49, 50] r r1 → pm n q → (∀ z, z < x → q z = z) → (∀ z, z < n → r1.2.1 49 z = nI (q z)) → sft n B n 0 p = sft n B c x q → Wm d (0, 0) JX12_sift 2 [some (.ref 34), some (.int (nI n)), some (.int (nI x)), none, none, none, none] [] h1 (fun r h' => h'.1 0 = h.1 0 ∧ K r h') := by
    intro c
    induction c with
    | zero =>
      intro x h1 r1 q hx f1 o1 x1 pq fq nq es
      have hx : x = n := by omega
      subst hx
      exact bk_X12_sift_2 _ _ _ ⟨fun _ => ⟨f1.z, hK0 h1 r1 f1 o1 (x1.wk (by simp)) (H.ex x1 (by simp) (by simp)) es⟩, fun z => absurd (le_t (Nat.le_refl _) (by omega)) z⟩
    | succ c ih =>
      intro x h1 r1 q hx f1 o1 x1 pq fq nq es
      have hxn : x < n := by omega
      have qx := pq.1 x hxn
      have H1 := H.ex x1 (by simp) (by simp)
      refine bk_X12_sift_2 _ _ _ ⟨fun z => absurd z (le_f hxn (by omega)), fun _ => ⟨_, o1.f16, _, o1.il 49 12 (by decide) (by omega), ?_⟩⟩
      rw [nq x hxn]
      refine ⟨fun z => ?_, fun z => ?_⟩
      · have z := nI_inj (by omega) (by omega) z
        rw [nI_1]
        refine ih (x + 1) h1 r1 q (by omega) f1 o1 x1 pq (fun y hy => ?_) nq (by rw [es, sft_k z])
        by_cases e : y = x
        · rw [e]; exact z
        · exact fq y (by omega)
      · have nz : ¬ q x = x := fun e => z (by rw [e])
        rw [n12']
        refine ⟨_, o1.f14, _, o1.zl 47 144 (by decide) (by omega), ?_⟩
        obtain ⟨ha, hel⟩ := H1 x (q x) (by omega) (by omega)
        rw [ha]
        cases hb : B x (q x) with
        | none =>
          have es' : sft n B n 0 p = upB B x (q x) q := by rw [es, sft_n nz hb]
          refine ⟨fun y => absurd rfl y, fun _ => ?_⟩
          obtain ⟨h2, e2, f2, o2⟩ := o1.zs (x := 1) (j := 12 * x + q x) 47 144 (by decide) (by omega) (by decide)
          refine ⟨_, o1.f14, h2, e2, ?_⟩
          have cpy : ∀ m y h3 r3, y + m = n → FR h h3 → RR h3 r3 → ex [48] (wr r1 47 (12 * x + q x) 1) r3 → (∀ a, r3.2.1 48 a = if 12 * (12 * x + q x) ≤ a ∧ a < 12 * (12 * x + q x) + y then r1.2.1 49 (a - 12 * (12 * x + q x)) else r1.2.1 48 a) → Wm d (0, 0) JX12_sift 48 [some (.ref 34), some (.int (nI n)), none, none, some (.int (nI (12 * x + q x))), some (.int (nI y)), none] [] h3 (fun r h' => h'.1 0 = h.1 0 ∧ K r h') := by
            intro m
            induction m with
            | zero =>
              intro y h3 r3 hy f3 o3 x3 v3
              have hy : y = n := by omega
              subst hy
              refine bk_X12_sift_48 _ _ _ _ ⟨fun _ => ⟨f3.z, hK1 h3 r3 x (q x) q f3 o3 ((x1.wk (by simp)).tr ((ex.wr (by simp)).tr (x3.wk (by simp)))) ?_ (by omega) (by omega) hb es'⟩, fun z => absurd (le_t (Nat.le_refl _) (by omega)) z⟩
              rw [es']
              intro i j hi hj
              refine ⟨?_, fun el he z hz => ?_⟩
              · rw [x3.at _ (by simp)]
                by_cases e : i = x ∧ j = q x
                · rw [e.1, e.2, wr_j]
                  simp [upB, bO]
                · rw [wr_i (by omega), (H1 i j hi hj).1]
                  have : upB B x (q x) q i j = B i j := by unfold upB; rw [if_neg e]
                  rw [this]
              · rw [v3]
                by_cases e : i = x ∧ j = q x
                · rw [e.1, e.2] at he ⊢
                  have he : some q = some el := by simpa [upB] using he
                  have he := Option.some.inj he
                  rw [if_pos (by omega), show 12 * (12 * x + q x) + z - 12 * (12 * x + q x) = z by omega, nq z hz, he]
                · have : upB B x (q x) q i j = B i j := by unfold upB; rw [if_neg e]
                  rw [this] at he
                  rw [if_neg (by omega)]
                  exact (H1 i j hi hj).2 el he z hz
            | succ m ihm =>
              intro y h3 r3 hy f3 o3 x3 v3
              obtain ⟨h4, e4, f4, o4⟩ := o3.is (x := r1.2.1 49 y) (j := 12 * (12 * x + q x) + y) 48 1728 (by decide) (by omega)
              refine bk_X12_sift_48 _ _ _ _ ⟨fun z => absurd z (le_f (by omega) (by omega)), fun _ => ⟨_, o3.f15, _, o3.f16, _, o3.il 49 12 (by decide) (by omega), ?_⟩⟩
              rw [n12', x3.at y (by simp), wr_n (by decide)]
              refine ⟨h4, e4, ?_⟩
              rw [nI_1]
              refine ihm (y + 1) h4 _ (by omega) (f3.tr f4) o4 (x3.tr (ex.wr (by simp))) (fun a => ?_)
              by_cases e : a = 12 * (12 * x + q x) + y
              · rw [e, wr_j, if_pos (by omega), show 12 * (12 * x + q x) + y - 12 * (12 * x + q x) = y by omega]
              · rw [wr_i e, v3]
                by_cases b : 12 * (12 * x + q x) ≤ a ∧ a < 12 * (12 * x + q x) + y
                · rw [if_pos b, if_pos (by omega)]
                · rw [if_neg b, if_neg (by omega)]
          exact cpy n 0 h2 _ (by omega) (f1.tr f2) o2 ex.rf (fun a => by rw [if_neg (by omega), wr_n (by decide)])
        | some el =>
          have es' : sft n B n 0 p = sft n B c (x + 1) (fun z => iv el n (q z)) := by rw [es, sft_s nz hb]
          obtain ⟨a1, a2, a3, a4, a5, a6⟩ := hB x (q x) el hb
          obtain ⟨b1, b2⟩ := nxt_ok hxn pq fq a3 a4 a5
          refine ⟨fun _ => ?_, fun y => absurd y bO_1⟩
          have mix : ∀ m y h3 r3, y + m = n → FR h h3 → RR h3 r3 → ex [50] r1 r3 → (∀ z, z < y → r3.2.1 50 z = nI (iv el n (q z))) → Wm d (0, 0) JX12_sift 85 [some (.ref 34), some (.int (nI n)), some (.int (nI x)), none, some (.int (nI (12 * x + q x))), some (.int (nI y)), none] [] h3 (fun r h' => h'.1 0 = h.1 0 ∧ K r h') := by
            intro m
            induction m with
            | zero =>
              intro y h3 r3 hy f3 o3 x3 v3
              have hy : y = n := by omega
              subst hy
              refine bk_X12_sift_85 _ _ _ _ _ ⟨fun _ => ?_, fun z => absurd (le_t (Nat.le_refl _) (by omega)) z⟩
              have bck : ∀ m z h4 r4, z + m = y → FR h h4 → RR h4 r4 → ex [49] r3 r4 → (∀ a, a < z → r4.2.1 49 a = nI (iv el y (q a))) → Wm d (0, 0) JX12_sift 141 [some (.ref 34), some (.int (nI y)), some (.int (nI x)), none, none, some (.int (nI z)), none] [] h4 (fun r h' => h'.1 0 = h.1 0 ∧ K r h') := by
                intro m
                induction m with
                | zero =>
                  intro z h4 r4 hz f4 o4 x4 v4
                  have hz : z = y := by omega
                  subst hz
                  refine bk_X12_sift_141 _ _ _ _ ⟨fun _ => ?_, fun z => absurd (le_t (Nat.le_refl _) (by omega)) z⟩
                  rw [nI_1]
                  exact ih (x + 1) h4 r4 _ (by omega) f4 o4 ((x1.tr (x3.wk (by simp))).tr (x4.wk (by simp))) b1 b2 v4 es'
                | succ m ihm =>
                  intro z h4 r4 hz f4 o4 x4 v4
                  obtain ⟨h5, e5, f5, o5⟩ := o4.is (x := r3.2.1 50 z) (j := z) 49 12 (by decide) (by omega)
                  refine bk_X12_sift_141 _ _ _ _ ⟨fun y => absurd y (le_f (by omega) (by omega)), fun _ => ⟨_, o4.f16, _, o4.f17, _, o4.il 50 12 (by decide) (by omega), h5, by rw [x4.at z (by simp)]; exact e5, ?_⟩⟩
                  rw [nI_1]
                  refine ihm (z + 1) h5 _ (by omega) (f4.tr f5) o5 (x4.tr (ex.wr (by simp))) (fun a ha => ?_)
                  by_cases e : a = z
                  · rw [e, wr_j]; exact v3 z (by omega)
                  · rw [wr_i e]; exact v4 a (by omega)
              exact bck y 0 h3 r3 (by omega) f3 o3 ex.rf (fun a ha => absurd ha (by omega))
            | succ m ihm =>
              intro y h3 r3 hy f3 o3 x3 v3
              have hyn : y < n := by omega
              have qy := pq.1 y hyn
              obtain ⟨i1, i2⟩ := pm_iv a3 qy
              refine bk_X12_sift_85 _ _ _ _ _ ⟨fun z => absurd z (le_f (by omega) (by omega)), fun _ => ?_⟩
              have st48 : ∀ z, z < n → r3.2.1 48 (12 * (12 * x + q x) + z) = nI (el z) := fun z hz => by rw [x3.at _ (by simp)]; exact hel el hb z hz
              have st49 : r3.2.1 49 y = nI (q y) := by rw [x3.at _ (by simp)]; exact nq y hyn
              refine dn (n := iv el n (q y)) (fun z => Wm d (0, 0) JX12_sift 94 [some (.ref 34), some (.int (nI n)), some (.int (nI x)), none, some (.int (nI (12 * x + q x))), some (.int (nI y)), some (.int (nI z))] [] h3 (fun r h' => h'.1 0 = h.1 0 ∧ K r h')) ?_ ?_ 0 (Nat.zero_le _)
              · obtain ⟨h4, e4, f4, o4⟩ := o3.is (x := nI (iv el n (q y))) (j := y) 50 12 (by decide) (by omega)
                refine bk_X12_sift_94 _ _ _ _ _ _ ⟨_, o3.f15, ?_⟩
                rw [n12']
                refine ⟨_, o3.il 48 1728 (by decide) (by omega), _, o3.f16, _, o3.il 49 12 (by decide) (by omega), ?_⟩
                rw [st48 _ i2, st49, i1]
                refine ⟨fun _ => ⟨_, o3.f17, h4, e4, ?_⟩, fun z => absurd rfl z⟩
                rw [nI_1]
                refine ihm (y + 1) h4 _ (by omega) (f3.tr f4) o4 (x3.tr (ex.wr (by simp))) (fun z hz => ?_)
                by_cases e : z = y
                · rw [e, wr_j]
                · rw [wr_i e]; exact v3 z (by omega)
              · intro z hz ihz
                have ez := a3.1 z (by omega)
                refine bk_X12_sift_94 _ _ _ _ _ _ ⟨_, o3.f15, ?_⟩
                rw [n12']
                refine ⟨_, o3.il 48 1728 (by decide) (by omega), _, o3.f16, _, o3.il 49 12 (by decide) (by omega), ?_⟩
                rw [st48 z (by omega), st49]
                refine ⟨fun w => ?_, fun _ => by rw [nI_1]; exact ihz⟩
                have w := nI_inj (by omega) (by omega) w
                have := a3.2 z _ (by omega) i2 (w.trans i1.symm)
                omega
          exact mix n 0 h1 r1 (by omega) f1 o1 ex.rf (fun z hz => absurd hz (by omega))
  exact key n 0 h r p (by omega) FR.rf o ex.rf hp (fun z hz => absurd hz (by omega)) hnow rfl
theorem rheap_ev {p n k : Nat} {t : Nat → Nat → Nat} (o : RR h r) (L : LC r p n k t) (hp : p < 13) (hn : n ≤ 12) (hk : k ≤ 8) (hpm : ∀ j, j < k → pm n (t j)) (hK : ∀ h' r', FR h h' → RR h' r' → ex [47, 48, 49, 50] r r' → K (some (.int (nI (hpr n k t n)))) h') : Ev (d + 1) (0, 0) MX12_heap [.ref 34, .int (nI p)] h K := by
  -- the product
  have prod : ∀ h1 r1 B, FR h h1 → RR h1 r1 → ex [47, 48, 49, 50] r r1 → hI n k t B → hcl n k t B → HB r1 n B → Wm (d + 1) (0, 0) JX12_heap 219 [some (.ref 34), none, some (.int (nI n)), none, some (.int (nI (hpr n k t 0))), some (.int (nI 0)), none, none] [] h1 (fun r h' => h'.1 0 = h.1 0 ∧ K r h') := by
    intro h1 r1 B f1 o1 x1 hB hc H1
    refine dn (n := n) (fun i => Wm (d + 1) (0, 0) JX12_heap 219 [some (.ref 34), none, some (.int (nI n)), none, some (.int (nI (hpr n k t i))), some (.int (nI i)), none, none] [] h1 (fun r h' => h'.1 0 = h.1 0 ∧ K r h')) ?_ ?_ 0 (Nat.zero_le _)
    · exact bk_X12_heap_219 _ _ _ _ ⟨fun _ => ⟨f1.z, hK h1 r1 f1 o1 x1⟩, fun z => absurd (le_t (Nat.le_refl _) (by omega)) z⟩
    · intro i hi ih
      refine bk_X12_heap_219 _ _ _ _ ⟨fun z => absurd z (le_f hi (by omega)), fun _ => ?_⟩
      have ehc : hct n k t i = cn (fun j => (B i j).isSome) n + 1 := by
        unfold hct
        congr 1
        refine cn_congr (fun j hj => ?_)
        by_cases a : (B i j).isSome = true
        · obtain ⟨el, e⟩ := Option.isSome_iff_exists.mp a
          have lt := (hB i j el e).1
          rw [a]
          exact @decide_eq_true _ (Classical.propDecidable _) ⟨lt, (hcl_thr hB hc lt hj).mp ⟨el, e⟩⟩
        · have : (B i j).isSome = false := by simpa using a
          rw [this]
          refine @decide_eq_false _ (Classical.propDecidable _) (fun q => a ?_)
          obtain ⟨el, e⟩ := (hcl_thr hB hc q.1 hj).mpr q.2
          rw [e]; rfl
      refine dn (n := n) (fun j => Wm (d + 1) (0, 0) JX12_heap 231 [some (.ref 34), none, some (.int (nI n)), none, some (.int (nI (hpr n k t i))), some (.int (nI i)), some (.int (nI (cn (fun j => (B i j).isSome) j + 1))), some (.int (nI j))] [] h1 (fun r h' => h'.1 0 = h.1 0 ∧ K r h')) ?_ ?_ 0 (Nat.zero_le _)
      · refine bk_X12_heap_231 _ _ _ _ _ _ ⟨fun _ => ?_, fun z => absurd (le_t (Nat.le_refl _) (by omega)) z⟩
        rw [pk_mul, nI_1, ← ehc]
        exact ih
      · intro j hj ihj
        rw [cn_succ] at ihj
        refine bk_X12_heap_231 _ _ _ _ _ _ ⟨fun z => absurd z (le_f hj (by omega)), fun _ => ⟨_, o1.f14, ?_⟩⟩
        rw [n12']
        refine ⟨_, o1.zl 47 144 (by decide) (by omega), ?_⟩
        rw [(H1 i j (by omega) (by omega)).1]
        by_cases a : (B i j).isSome = true
        · rw [bO_t a]
          rw [if_pos a] at ihj
          refine ⟨fun z => absurd z (by decide), fun _ => ?_⟩
          rw [nI_1, nI_1]
          exact ihj
        · rw [bO_f a]
          rw [if_neg a] at ihj
          refine ⟨fun _ => ?_, fun z => absurd rfl z⟩
          rw [Int32.add_zero, nI_1]
          exact ihj
  -- until nothing more comes through
  have clo : ∀ F h1 r1 B, 144 - ctB B = F → FR h h1 → RR h1 r1 → ex [47, 48, 49, 50] r r1 → hI n k t B → (∀ j, j < k → mm n B n 0 (t j)) → HB r1 n B → Wm (d + 1) (0, 0) JX12_heap 86 [some (.ref 34), none, some (.int (nI n)), some (.int 1), none, none, none, none] [] h1 (fun r h' => h'.1 0 = h.1 0 ∧ K r h') := by
    intro F
    induction F using Nat.strongRecOn with
    | ind F ihF =>
      intro h1 r1 B0 hF f1 o1 x1 hB0 hT0 H1
      have hc0 := ctB_le B0
      refine bk_X12_heap_86 _ _ _ ⟨fun z => absurd z (by decide), fun _ => ?_⟩
      have pl : ∀ e, e < 144 → e / 12 < 12 ∧ e % 12 < 12 ∧ 12 * (e / 12) + e % 12 = e := fun e he => by omega
      have se : ∀ c e h2 r2 B (s : Int32), e + c = 144 → FR h h2 → RR h2 r2 → ex [47, 48, 49, 50] r r2 → hI n k t B → (∀ j, j < k → mm n B n 0 (t j)) → HB r2 n B → ((s = 0 ∧ B = B0 ∧ ∀ e' g, e' < e → g < 144 → ∀ p p', B (e' / 12) (e' % 12) = some p' → B (g / 12) (g % 12) = some p → mm n B n 0 (fun z => p (p' z))) ∨ (s = 1 ∧ ctB B0 < ctB B)) → Wm (d + 1) (0, 0) JX12_heap 95 [some (.ref 34), none, some (.int (nI n)), some (.int s), some (.int (nI e)), none, none, none] [] h2 (fun r h' => h'.1 0 = h.1 0 ∧ K r h') := by
        intro c
        induction c with
        | zero =>
          intro e h2 r2 B s he f2 o2 x2 hB hT H2 S2
          have he : e = 144 := by omega
          subst he
          refine bk_X12_heap_95 _ _ _ _ ⟨fun _ => ?_, fun z => absurd (by rw [show (144 : Int32) = nI 144 by decide]; exact le_t (Nat.le_refl _) (by omega)) z⟩
          rcases S2 with ⟨hs, eB, cl2⟩ | ⟨hs, lt2⟩
          · subst hs
            refine bk_X12_heap_86 _ _ _ ⟨fun _ => ?_, fun z => absurd rfl z⟩
            refine prod h2 r2 B f2 o2 x2 hB ⟨hT, fun i j i' j' p p' e e' => ?_⟩ H2
            obtain ⟨a1, a2, -⟩ := hB i j p e
            obtain ⟨b1, b2, -⟩ := hB i' j' p' e'
            refine cl2 (12 * i' + j') (12 * i + j) (by omega) (by omega) p p' ?_ ?_
            · rw [show (12 * i' + j') / 12 = i' by omega, show (12 * i' + j') % 12 = j' by omega]; exact e'
            · rw [show (12 * i + j) / 12 = i by omega, show (12 * i + j) % 12 = j by omega]; exact e
          · subst hs
            have := ctB_le B
            exact ihF (144 - ctB B) (by omega) h2 r2 B rfl f2 o2 x2 hB hT H2
        | succ c ihe =>
          intro e h2 r2 B s he f2 o2 x2 hB hT H2 S2
          have he144 : e < 144 := by omega
          obtain ⟨e1, e2, e3⟩ := pl e he144
          refine bk_X12_heap_95 _ _ _ _ ⟨fun z => absurd (by rw [show (144 : Int32) = nI 144 by decide] at z; exact z) (le_f (a := 144) (b := e) he144 (by decide)), fun _ => ?_⟩
          have sf : ∀ c g h2 r2 B (s : Int32), g + c = 144 → FR h h2 → RR h2 r2 → ex [47, 48, 49, 50] r r2 → hI n k t B → (∀ j, j < k → mm n B n 0 (t j)) → HB r2 n B → ((s = 0 ∧ B = B0 ∧ (∀ e' g, e' < e → g < 144 → ∀ p p', B (e' / 12) (e' % 12) = some p' → B (g / 12) (g % 12) = some p → mm n B n 0 (fun z => p (p' z))) ∧ ∀ g', g' < g → ∀ p p', B (e / 12) (e % 12) = some p' → B (g' / 12) (g' % 12) = some p → mm n B n 0 (fun z => p (p' z))) ∨ (s = 1 ∧ ctB B0 < ctB B)) → Wm (d + 1) (0, 0) JX12_heap 106 [some (.ref 34), none, some (.int (nI n)), some (.int s), some (.int (nI e)), some (.int (nI g)), none, none] [] h2 (fun r h' => h'.1 0 = h.1 0 ∧ K r h') := by
            intro c
            induction c with
            | zero =>
              intro g h2 r2 B s hg f2 o2 x2 hB hT H2 S2
              have hg : g = 144 := by omega
              subst hg
              refine bk_X12_heap_106 _ _ _ _ _ ⟨fun _ => ?_, fun z => absurd (by rw [show (144 : Int32) = nI 144 by decide]; exact le_t (Nat.le_refl _) (by omega)) z⟩
              rw [nI_1]
              refine ihe (e + 1) h2 r2 B s (by omega) f2 o2 x2 hB hT H2 ?_
              rcases S2 with ⟨a1, a2, a3, a4⟩ | a
              · refine Or.inl ⟨a1, a2, fun e' g he' hg => ?_⟩
                by_cases b : e' = e
                · rw [b]; exact a4 g hg
                · exact a3 e' g (by omega) hg
              · exact Or.inr a
            | succ c ihg =>
              intro g h2 r2 B s hg f2 o2 x2 hB hT H2 S2
              have hg144 : g < 144 := by omega
              obtain ⟨g1, g2, g3⟩ := pl g hg144
              have ve := (H2 (e / 12) (e % 12) e1 e2)
              have vg := (H2 (g / 12) (g % 12) g1 g2)
              rw [e3] at ve
              rw [g3] at vg
              refine bk_X12_heap_106 _ _ _ _ _ ⟨fun z => absurd (by rw [show (144 : Int32) = nI 144 by decide] at z; exact z) (le_f (a := 144) (b := g) hg144 (by decide)), fun _ => ⟨_, o2.f14, _, o2.zl 47 144 (by decide) he144, ?_⟩⟩
              rw [ve.1]
              cases be : B (e / 12) (e % 12) with
              | none =>
                refine ⟨fun _ => ?_, fun z => absurd rfl z⟩
                rw [nI_1]
                refine ihe (e + 1) h2 r2 B s (by omega) f2 o2 x2 hB hT H2 ?_
                rcases S2 with ⟨a1, a2, a3, a4⟩ | a
                · refine Or.inl ⟨a1, a2, fun e' g he' hg p p' q => ?_⟩
                  by_cases b : e' = e
                  · rw [b, be] at q; exact absurd q (by simp)
                  · exact a3 e' g (by omega) hg p p' q
                · exact Or.inr a
              | some pe =>
                refine ⟨fun z => absurd z bO_1, fun _ => ⟨_, o2.f14, _, o2.zl 47 144 (by decide) hg144, ?_⟩⟩
                rw [vg.1]
                cases bg : B (g / 12) (g % 12) with
                | none =>
                  refine ⟨fun _ => ?_, fun z => absurd rfl z⟩
                  rw [nI_1]
                  refine ihg (g + 1) h2 r2 B s (by omega) f2 o2 x2 hB hT H2 ?_
                  rcases S2 with ⟨a1, a2, a3, a4⟩ | a
                  · refine Or.inl ⟨a1, a2, a3, fun g' hg' p p' q q2 => ?_⟩
                    by_cases b : g' = g
                    · rw [b, bg] at q2; exact absurd q2 (by simp)
                    · exact a4 g' (by omega) p p' q q2
                  · exact Or.inr a
                | some pg =>
                  refine ⟨fun z => absurd z bO_1, fun _ => ?_⟩
                  obtain ⟨ea1, ea2, ea3, ea4, ea5, ea6⟩ := hB _ _ _ be
                  obtain ⟨ga1, ga2, ga3, ga4, ga5, ga6⟩ := hB _ _ _ bg
                  have ve2 := ve.2 pe be
                  have vg2 := vg.2 pg bg
                  have cmp : ∀ m z h3 r3, z + m = n → FR h h3 → RR h3 r3 → ex [49] r2 r3 → (∀ y, y < z → r3.2.1 49 y = nI (pg (pe y))) → Wm (d + 1) (0, 0) JX12_heap 137 [some (.ref 34), none, some (.int (nI n)), some (.int s), some (.int (nI e)), some (.int (nI g)), some (.int (nI z)), none] [] h3 (fun r h' => h'.1 0 = h.1 0 ∧ K r h') := by
                    intro m
                    induction m with
                    | zero =>
                      intro z h3 r3 hz f3 o3 x3 v3
                      have hz : z = n := by omega
                      subst hz
                      have pp : pm z (fun y => pg (pe y)) := pm_comp ea3 ga3
                      have gg : grp z k t (fun y => pg (pe y)) := grp_m ea3.1 ga6 ea6
                      have hI' := sft_I hB z 0 _ (by omega) pp (fun y hy => absurd hy (by omega)) gg
                      have hmm := sft_mm hB z 0 _ (by omega) pp (fun y hy => absurd hy (by omega))
                      have hle' := sft_le (n := z) (B := B) z 0 (fun y => pg (pe y))
                      refine bk_X12_heap_137 _ _ _ _ _ _ ⟨fun _ => ⟨_, o3.1, ?_⟩, fun z => absurd (le_t (Nat.le_refl _) (by omega)) z⟩
                      refine rsift_ev o3 hn hB (H2.ex x3 (by simp) (by simp)) pp v3 (fun h4 r4 i j p' f4 o4 x4 H4 hi hj hn' eu => ⟨_, rfl, fun _ => ?_, fun y => absurd y (by decide)⟩) (fun h4 r4 f4 o4 x4 H4 es => ⟨_, rfl, fun y => absurd rfl y, fun _ => ?_⟩)
                      · rw [nI_1]
                        refine ihg (g + 1) h4 r4 _ 1 (by omega) (f3.tr f4) o4 ((x2.tr (x3.wk (by simp))).tr x4) hI' (fun j hj => mm_mono hle' _ _ _ (hT j hj)) H4 (Or.inr ⟨rfl, ?_⟩)
                        rw [eu, ctB_up hi hj hn']
                        rcases S2 with ⟨a1, a2, a3, a4⟩ | a
                        · rw [a2]; omega
                        · omega
                      · rw [es] at hmm
                        have S2' : (s = 0 ∧ B = B0 ∧ (∀ e' g, e' < e → g < 144 → ∀ p p', B (e' / 12) (e' % 12) = some p' → B (g / 12) (g % 12) = some p → mm z B z 0 (fun z => p (p' z))) ∧ ∀ g', g' < g + 1 → ∀ p p', B (e / 12) (e % 12) = some p' → B (g' / 12) (g' % 12) = some p → mm z B z 0 (fun z => p (p' z))) ∨ (s = 1 ∧ ctB B0 < ctB B) := by
                          rcases S2 with ⟨a1, a2, a3, a4⟩ | a
                          · refine Or.inl ⟨a1, a2, a3, fun g' hg' p p' q q2 => ?_⟩
                            by_cases b : g' = g
                            · rw [b, bg] at q2
                              rw [be] at q
                              have q := Option.some.inj q
                              have q2 := Option.some.inj q2
                              rw [← q, ← q2]
                              exact hmm
                            · exact a4 g' (by omega) p p' q q2
                          · exact Or.inr a
                        rw [nI_1]
                        refine ⟨fun y => ?_, fun y => ?_⟩
                        · rw [y] at S2'
                          exact ihg (g + 1) h4 r4 B 0 (by omega) (f3.tr f4) o4 ((x2.tr (x3.wk (by simp))).tr x4) hB hT H4 S2'
                        · have : s = 1 := by
                            rcases S2 with a | a
                            · exact absurd a.1 y
                            · exact a.1
                          rw [this] at S2'
                          exact ihg (g + 1) h4 r4 B 1 (by omega) (f3.tr f4) o4 ((x2.tr (x3.wk (by simp))).tr x4) hB hT H4 S2'
                    | succ m ihm =>
                      intro z h3 r3 hz f3 o3 x3 v3
                      have hzn : z < n := by omega
                      have l1 := ea3.1 z hzn
                      have l2 := ga3.1 _ l1
                      have w1 : m_il h3 48 (nI (12 * e + z)) = some (nI (pe z)) := by rw [o3.il 48 1728 (by decide) (by omega), x3.at _ (by simp), ve2 z hzn]
                      have w2 : m_il h3 48 (nI (12 * g + pe z)) = some (nI (pg (pe z))) := by rw [o3.il 48 1728 (by decide) (by omega), x3.at _ (by simp), vg2 _ l1]
                      obtain ⟨h4, e4, f4, o4⟩ := o3.is (x := nI (pg (pe z))) (j := z) 49 12 (by decide) (by omega)
                      refine bk_X12_heap_137 _ _ _ _ _ _ ⟨fun y => absurd y (le_f (by omega) (by omega)), fun _ => ⟨_, o3.f16, _, o3.f15, _, o3.f15, ?_⟩⟩
                      rw [n12']
                      refine ⟨_, w1, ?_⟩
                      rw [n12']
                      refine ⟨_, w2, h4, e4, ?_⟩
                      rw [nI_1]
                      refine ihm (z + 1) h4 _ (by omega) (f3.tr f4) o4 (x3.tr (ex.wr (by simp))) (fun y hy => ?_)
                      by_cases b : y = z
                      · rw [b, wr_j]
                      · rw [wr_i b]; exact v3 y (by omega)
                  exact cmp n 0 h2 r2 (by omega) f2 o2 ex.rf (fun y hy => absurd hy (by omega))
          refine sf 144 0 h2 r2 B s (by omega) f2 o2 x2 hB hT H2 ?_
          rcases S2 with ⟨a1, a2, a3⟩ | a
          · exact Or.inl ⟨a1, a2, a3, fun g' hg' => absurd hg' (by omega)⟩
          · exact Or.inr a
      exact se 144 0 h1 r1 B0 0 (by omega) f1 o1 x1 hB0 hT0 H1 (Or.inl ⟨rfl, rfl, fun e' g he' => absurd he' (by omega)⟩)
  -- the turns
  have trn : ∀ c j h1 r1 B, j + c = k → FR h h1 → RR h1 r1 → ex [47, 48, 49, 50] r r1 → hI n k t B → (∀ j', j' < j → mm n B n 0 (t j')) → HB r1 n B → Wm (d + 1) (0, 0) JX12_heap 31 [some (.ref 34), some (.int (nI p)), some (.int (nI n)), some (.int (nI j)), none, none, none, none] [] h1 (fun r h' => h'.1 0 = h.1 0 ∧ K r h') := by
    intro c
    induction c with
    | zero =>
      intro j h1 r1 B hj f1 o1 x1 hB hT H1
      have hj : j = k := by omega
      subst hj
      have L1 := L.ex x1 (by simp) (by simp) (by simp)
      refine bk_X12_heap_31 _ _ _ _ ⟨_, o1.f6, _, o1.il 39 13 (by decide) hp, ?_⟩
      rw [L1.2.1]
      exact ⟨fun _ => clo _ h1 r1 B rfl f1 o1 x1 hB hT H1, fun z => absurd (le_t (Nat.le_refl _) (by omega)) z⟩
    | succ c ih =>
      intro j h1 r1 B hj f1 o1 x1 hB hT H1
      have L1 := L.ex x1 (by simp) (by simp) (by simp)
      have pj := hpm j (by omega)
      refine bk_X12_heap_31 _ _ _ _ ⟨_, o1.f6, _, o1.il 39 13 (by decide) hp, ?_⟩
      rw [L1.2.1]
      refine ⟨fun z => absurd z (le_f (by omega) (by omega)), fun _ => ?_⟩
      have cpy : ∀ m z h2 r2, z + m = n → FR h h2 → RR h2 r2 → ex [49] r1 r2 → (∀ y, y < z → r2.2.1 49 y = nI (t j y)) → Wm (d + 1) (0, 0) JX12_heap 44 [some (.ref 34), some (.int (nI p)), some (.int (nI n)), some (.int (nI j)), some (.int (nI z)), none, none, none] [] h2 (fun r h' => h'.1 0 = h.1 0 ∧ K r h') := by
        intro m
        induction m with
        | zero =>
          intro z h2 r2 hz f2 o2 x2 v2
          have hz : z = n := by omega
          subst hz
          have hI' := sft_I hB z 0 _ (by omega) pj (fun y hy => absurd hy (by omega)) (grp_g (by omega))
          have hmm := sft_mm hB z 0 _ (by omega) pj (fun y hy => absurd hy (by omega))
          have hle' := sft_le (n := z) (B := B) z 0 (t j)
          refine bk_X12_heap_44 _ _ _ _ _ ⟨fun _ => ⟨_, o2.1, ?_⟩, fun z => absurd (le_t (Nat.le_refl _) (by omega)) z⟩
          have nx : ∀ h3 r3, FR h h3 → RR h3 r3 → ex [47, 48, 49, 50] r r3 → HB r3 z (sft z B z 0 (t j)) → Wm (d + 1) (0, 0) JX12_heap 31 [some (.ref 34), some (.int (nI p)), some (.int (nI z)), some (.int (nI (j + 1))), none, none, none, none] [] h3 (fun r h' => h'.1 0 = h.1 0 ∧ K r h') := by
            intro h3 r3 f3 o3 x3 H3
            refine ih (j + 1) h3 r3 _ (by omega) f3 o3 x3 hI' (fun j' hj' => ?_) H3
            by_cases b : j' = j
            · rw [b]; exact hmm
            · exact mm_mono hle' _ _ _ (hT j' (by omega))
          refine rsift_ev o2 hn hB (H1.ex x2 (by simp) (by simp)) pj v2 (fun h3 r3 i j' p' f3 o3 x3 H3 hi hj' hn' eu => ⟨_, rfl, ?_⟩) (fun h3 r3 f3 o3 x3 H3 es => ⟨_, rfl, ?_⟩)
          · rw [nI_1]
            exact nx h3 r3 (f2.tr f3) o3 ((x1.tr (x2.wk (by simp))).tr x3) H3
          · rw [nI_1]
            exact nx h3 r3 (f2.tr f3) o3 ((x1.tr (x2.wk (by simp))).tr x3) (by rw [es]; exact H3)
        | succ m ihm =>
          intro z h2 r2 hz f2 o2 x2 v2
          have L2 := L1.ex x2 (by simp) (by simp) (by simp)
          obtain ⟨h3, e3, f3, o3⟩ := o2.is (x := nI (t j z)) (j := z) 49 12 (by decide) (by omega)
          refine bk_X12_heap_44 _ _ _ _ _ ⟨fun y => absurd y (le_f (by omega) (by omega)), fun _ => ⟨_, o2.f16, _, o2.1, ?_⟩⟩
          refine ratL_ev o2 L2 hp hk hn (by omega) (by omega) ⟨_, rfl, h3, e3, ?_⟩
          rw [nI_1]
          refine ihm (z + 1) h3 _ (by omega) (f2.tr f3) o3 (x2.tr (ex.wr (by simp))) (fun y hy => ?_)
          by_cases b : y = z
          · rw [b, wr_j]
          · rw [wr_i b]; exact v2 y (by omega)
      exact cpy n 0 h1 r1 (by omega) f1 o1 ex.rf (fun y hy => absurd hy (by omega))
  -- all is cleared
  have clr : ∀ c e h1 r1, e + c = 144 → FR h h1 → RR h1 r1 → ex [47] r r1 → (∀ a, a < e → r1.2.1 47 a = 0) → Wm (d + 1) (0, 0) JX12_heap 9 [some (.ref 34), some (.int (nI p)), some (.int (nI n)), some (.int (nI e)), none, none, none, none] [] h1 (fun r h' => h'.1 0 = h.1 0 ∧ K r h') := by
    intro c
    induction c with
    | zero =>
      intro e h1 r1 he f1 o1 x1 v1
      have he : e = 144 := by omega
      subst he
      refine bk_X12_heap_9 _ _ _ _ ⟨fun _ => ?_, fun z => absurd (by rw [show (144 : Int32) = nI 144 by decide]; exact le_t (Nat.le_refl _) (by omega)) z⟩
      exact trn k 0 h1 r1 (fun _ _ => none) (by omega) f1 o1 (x1.wk (by simp)) (fun i j el e => absurd e (by simp)) (fun j' hj' => absurd hj' (by omega)) (fun i j hi hj => ⟨v1 _ (by omega), fun el e => absurd e (by simp)⟩)
    | succ c ih =>
      intro e h1 r1 he f1 o1 x1 v1
      obtain ⟨h2, e2, f2, o2⟩ := o1.zs (x := 0) (j := e) 47 144 (by decide) (by omega) (by decide)
      refine bk_X12_heap_9 _ _ _ _ ⟨fun z => absurd (by rw [show (144 : Int32) = nI 144 by decide] at z; exact z) (le_f (a := 144) (b := e) (by omega) (by decide)), fun _ => ⟨_, o1.f14, h2, e2, ?_⟩⟩
      rw [nI_1]
      refine ih (e + 1) h2 _ (by omega) (f1.tr f2) o2 (x1.tr (ex.wr (by simp))) (fun a ha => ?_)
      by_cases b : a = e
      · rw [b, wr_j]
      · rw [wr_i b]; exact v1 a (by omega)
  refine en_X12_heap (bk_X12_heap_0 _ _ ⟨_, o.f5, _, o.il 38 13 (by decide) hp, ?_⟩)
  rw [L.1]
  exact clr 144 0 h r (by omega) FR.rf o ex.rf (fun a ha => absurd ha (by omega))
end RefHeap

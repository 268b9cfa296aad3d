/-! the reference: rounds, kinds -/
def bO (b : Bool) : Int32 := if b = true then 1 else 0
theorem bO_t {b : Bool} (h : b = true) : bO b = 1 := if_pos h
theorem bO_f {b : Bool} (h : ¬ b = true) : bO b = 0 := if_neg h
theorem cyc_st {n : Nat} {p : Nat → Nat} (hp : pm n p) {x : Nat} (hx : x < n) : (cyv p n x x = true → cyv p n (x + 1) = cyv p n x ∧ cyl p n (x + 1) = cyl p n x) ∧ (¬ cyv p n x x = true → ∃ l, 1 ≤ l ∧ l ≤ n ∧ Nat.repeat p l x = x ∧ cyv p n (x + 1) = po (cyv p n x) p x l ∧ cyl p n (x + 1) = cyl p n x ++ [l] ∧ (∀ i, i < l → ¬ po (cyv p n x) p x i (Nat.repeat p i x) = true) ∧ po (cyv p n x) p x l (Nat.repeat p l x) = true) := by
  obtain ⟨a1, a2, a3, a4, a5, a6⟩ := cyc_I hp x (by omega)
  constructor
  · intro w
    have e : wk p n (cyv p n x) x = (0, cyv p n x) := by
      obtain ⟨s, hs⟩ : ∃ s, n = s + 1 := ⟨n - 1, by omega⟩
      have := wk_t p s w
      rw [← hs] at this
      exact this
    refine ⟨by show (wk p n (cyv p n x) x).2 = _; rw [e], ?_⟩
    show (if (wk p n (cyv p n x) x).1 = 0 then _ else _) = _
    rw [e]
    rfl
  · intro w
    obtain ⟨l, l1, ln, l2, l3⟩ := rp_per hp hx
    have e : wk p n (cyv p n x) x = (l, po (cyv p n x) p x l) := wk_po hp hx w a2 l1 l2 l3 n 0 (by omega) (by omega)
    have vr : ∀ i, ¬ cyv p n x (Nat.repeat p i x) = true := by
      intro i
      induction i with
      | zero => exact w
      | succ i ih => exact fun q => ih ((a2 _ (rp_lt hp i x hx)).mpr q)
    refine ⟨l, l1, ln, l2, by show (wk p n (cyv p n x) x).2 = _; rw [e], ?_, fun i hi => ?_, (po_iff l _).mpr (Or.inr ⟨0, by omega, l2⟩)⟩
    · show (if (wk p n (cyv p n x) x).1 = 0 then _ else _) = _
      rw [e]
      exact if_neg (show ¬ l = 0 by omega)
    · rw [po_iff]
      rintro (q | ⟨j, hj, q⟩)
      · exact vr i q
      · have := l3 i j (by omega) (by omega) q
        omega
section RefRounds
variable {d : Nat} {h : mH} {r : rst} {K : Option Value → mH → Prop} {p n k : Nat} {t : Nat → Nat → Nat}
theorem rrounds_ev {j : Nat} (o : RR h r) (L : LC r p n k t) (hp : p < 13) (hk : k ≤ 8) (hn : n ≤ 12) (hj : j < k) (hpm : pm n (t j)) (hK : ∀ h' r' S, FR h h' → RR h' r' → ex [41, 42] r r' → srd S (cyl (t j) n n) → (∀ i, i < (cyl (t j) n n).length → r'.2.1 42 i = nI (S i)) → K (some (.int (nI (cyl (t j) n n).length))) h') : Ev (d + 1) (0, 0) MX12_rounds [.ref 34, .int (nI p), .int (nI j)] h K := by
  refine en_X12_rounds (bk_X12_rounds_0 _ _ _ ⟨_, o.f5, _, o.il 38 13 (by decide) hp, ?_⟩)
  rw [L.1]
  -- scanning
  have scan : ∀ m x h1 r1 S, x + m = n → FR h h1 → RR h1 r1 → ex [41, 42] r r1 → (∀ z, z < n → r1.2.1 41 z = bO (cyv (t j) n x z)) → srd S (cyl (t j) n x) → (∀ i, i < (cyl (t j) n x).length → r1.2.1 42 i = nI (S i)) → Wm (d + 1) (0, 0) JX12_rounds 36 [some (.ref 34), some (.int (nI p)), some (.int (nI j)), some (.int (nI n)), some (.int (nI (cyl (t j) n x).length)), some (.int (nI x)), none, none] [] h1 (fun r h' => h'.1 0 = h.1 0 ∧ K r h') := by
    intro m
    induction m with
    | zero =>
      intro x h1 r1 S hx f1 o1 x1 v1 s1 b1
      have hx : x = n := by omega
      subst hx
      exact bk_X12_rounds_36 _ _ _ _ _ _ ⟨fun _ => ⟨f1.z, hK h1 r1 S f1 o1 x1 s1 b1⟩, fun q => absurd (le_t (Nat.le_refl _) (by omega)) q⟩
    | succ m ih =>
      intro x h1 r1 S hx f1 o1 x1 v1 s1 b1
      have hxn : x < n := by omega
      obtain ⟨c1, c2⟩ := cyc_st hpm hxn
      refine bk_X12_rounds_36 _ _ _ _ _ _ ⟨fun q => absurd q (le_f hxn (by omega)), fun _ => ⟨_, o1.f8, _, o1.zl 41 12 (by decide) (by omega), ?_⟩⟩
      rw [v1 x hxn]
      by_cases w : cyv (t j) n x x = true
      · obtain ⟨e1, e2⟩ := c1 w
        rw [bO_t w]
        refine ⟨fun _ => ?_, fun q => absurd q (by decide)⟩
        rw [nI_1]
        have := ih (x + 1) h1 r1 S (by omega) f1 o1 x1 (by rw [e1]; exact v1) (by rw [e2]; exact s1) (by rw [e2]; exact b1)
        rw [e2] at this
        exact this
      · obtain ⟨l, l1, ln, l2, e1, e2, np, pl⟩ := c2 w
        rw [bO_f w]
        refine ⟨fun q => absurd rfl q, fun _ => ?_⟩
        have clen := cyl_len (t j) n x
        have ih2 : ∀ h1 r1 S, FR h h1 → RR h1 r1 → ex [41, 42] r r1 → (∀ z, z < n → r1.2.1 41 z = bO (po (cyv (t j) n x) (t j) x l z)) → srd S (cyl (t j) n x ++ [l]) → (∀ i, i < (cyl (t j) n x).length + 1 → r1.2.1 42 i = nI (S i)) → Wm (d + 1) (0, 0) JX12_rounds 36 [some (.ref 34), some (.int (nI p)), some (.int (nI j)), some (.int (nI n)), some (.int (nI ((cyl (t j) n x).length + 1))), some (.int (nI (x + 1))), none, none] [] h1 (fun r h' => h'.1 0 = h.1 0 ∧ K r h') := by
          intro h1 r1 S f1 o1 x1 v1 s1 b1
          have ln1 : (cyl (t j) n x ++ [l]).length = (cyl (t j) n x).length + 1 := by simp
          have := ih (x + 1) h1 r1 S (by omega) f1 o1 x1 (by rw [e1]; exact v1) (by rw [e2]; exact s1) (by rw [e2, ln1]; exact b1)
          rw [e2, ln1] at this
          exact this
        -- putting it in its place
        have ins : ∀ q h2 r2, q ≤ (cyl (t j) n x).length → FR h h2 → RR h2 r2 → ex [41, 42] r r2 → (∀ z, z < n → r2.2.1 41 z = bO (po (cyv (t j) n x) (t j) x l z)) → (∀ i, i < q → r2.2.1 42 i = nI (S i)) → (∀ i, q < i → i ≤ (cyl (t j) n x).length → r2.2.1 42 i = nI (S (i - 1))) → (∀ i, q ≤ i → i < (cyl (t j) n x).length → S i ≤ l) → Wm (d + 1) (0, 0) JX12_rounds 97 [some (.ref 34), some (.int (nI p)), some (.int (nI j)), some (.int (nI n)), some (.int (nI (cyl (t j) n x).length)), some (.int (nI x)), some (.int (nI l)), some (.int (nI q))] [] h2 (fun r h' => h'.1 0 = h.1 0 ∧ K r h') := by
          intro q
          induction q with
          | zero =>
            intro h2 r2 hq f2 o2 x2 v2 b2 b3 b4
            obtain ⟨h3, e3, f3, o3⟩ := o2.is (x := nI l) (j := 0) 42 12 (by decide) (by omega)
            refine bk_X12_rounds_97 _ _ _ _ _ _ _ _ ⟨fun _ => ⟨_, o2.f9, h3, e3, ?_⟩, fun z => absurd (le_t (a := 0) (b := 0) (by decide) (by decide)) z⟩
            rw [nI_1, nI_1]
            refine ih2 h3 _ (insf S 0 l) (f2.tr f3) o3 (x2.tr (ex.wr (by simp))) (fun z hz => by rw [wr_n (by decide)]; exact v2 z hz) (srd_ins s1 (by omega) (fun i hi => absurd hi (by omega)) b4) (fun i hi => ?_)
            by_cases e : i = 0
            · rw [e, wr_j]; rfl
            · rw [wr_i e, b3 i (by omega) (by omega)]
              simp [insf, e]
          | succ q ihq =>
            intro h2 r2 hq f2 o2 x2 v2 b2 b3 b4
            have hS16 : ∀ i, i < (cyl (t j) n x).length → S i ≤ 12 := fun i hi => by
              have h3 := (cyc_I hpm x (by omega)).2.2.2.2.1 _ (srd_mem s1 hi)
              omega
            have hSq := hS16 q (by omega)
            refine bk_X12_rounds_97 _ _ _ _ _ _ _ _ ⟨fun z => absurd z (le_f (a := q + 1) (b := 0) (by omega) (by omega)), fun _ => ⟨_, o2.f9, ?_⟩⟩
            rw [show nI (q + 1) - 1 = nI q from nI_pred q]
            refine ⟨_, o2.il 42 12 (by decide) (by omega), ?_⟩
            rw [b2 q (by omega)]
            refine ⟨fun z => ?_, fun z => ?_⟩
            · have z : l ≤ S q := (nI_leI (by omega) (by omega)).mp z
              obtain ⟨h3, e3, f3, o3⟩ := o2.is (x := nI l) (j := q + 1) 42 12 (by decide) (by omega)
              refine ⟨_, o2.f9, h3, e3, ?_⟩
              rw [nI_1, nI_1]
              refine ih2 h3 _ (insf S (q + 1) l) (f2.tr f3) o3 (x2.tr (ex.wr (by simp))) (fun z hz => by rw [wr_n (by decide)]; exact v2 z hz) (srd_ins s1 hq (fun i hi => Nat.le_trans z (s1.1 i q (by omega) (by omega))) b4) (fun i hi => ?_)
              by_cases e : i = q + 1
              · rw [e, wr_j]; simp [insf]
              · rw [wr_i e]
                by_cases e2 : i < q + 1
                · rw [b2 i e2]; simp [insf, e2]
                · rw [b3 i (by omega) (by omega)]; simp [insf, e2, e]
            · have z : S q < l := by
                rcases Nat.lt_or_ge (S q) l with y | y
                · exact y
                · exact absurd (le_t y (by omega)) z
              obtain ⟨h3, e3, f3, o3⟩ := o2.is (x := r2.2.1 42 q) (j := q + 1) 42 12 (by decide) (by omega)
              refine ⟨_, o2.f9, _, o2.f9, _, o2.il 42 12 (by decide) (by omega), h3, e3, ?_⟩
              rw [pk_m1]
              refine ihq h3 _ (by omega) (f2.tr f3) o3 (x2.tr (ex.wr (by simp))) (fun z hz => by rw [wr_n (by decide)]; exact v2 z hz) (fun i hi => by rw [wr_i (by omega)]; exact b2 i (by omega)) (fun i h1 h2 => ?_) (fun i h1 h2 => ?_)
              · by_cases e : i = q + 1
                · rw [e, wr_j, b2 q (by omega)]; rfl
                · rw [wr_i e]; exact b3 i (by omega) h2
              · by_cases e : i = q
                · rw [e]; omega
                · exact b4 i (by omega) h2
        -- once round
        have walk : ∀ m i h2 r2, i + m = l → FR h h2 → RR h2 r2 → ex [41] r1 r2 → (∀ z, z < n → r2.2.1 41 z = bO (po (cyv (t j) n x) (t j) x i z)) → Wm (d + 1) (0, 0) JX12_rounds 59 [some (.ref 34), some (.int (nI p)), some (.int (nI j)), some (.int (nI n)), some (.int (nI (cyl (t j) n x).length)), some (.int (nI x)), some (.int (nI i)), some (.int (nI (Nat.repeat (t j) i x)))] [] h2 (fun r h' => h'.1 0 = h.1 0 ∧ K r h') := by
          intro m
          induction m with
          | zero =>
            intro i h2 r2 hi f2 o2 x2 v2
            have hi : i = l := by omega
            subst hi
            have hr := rp_lt hpm i x hxn
            refine bk_X12_rounds_59 _ _ _ _ _ _ _ _ ⟨_, o2.f8, _, o2.zl 41 12 (by decide) (by omega), ?_⟩
            rw [v2 _ hr, bO_t pl]
            refine ⟨fun _ => ?_, fun q => absurd q (by decide)⟩
            refine ins (cyl (t j) n x).length h2 r2 (Nat.le_refl _) f2 o2 (x1.tr (x2.wk (by simp))) v2 (fun i hi => by rw [x2.at i (by simp)]; exact b1 i hi) (fun i a b => by omega) (fun i a b => by omega)
          | succ m ihm =>
            intro i h2 r2 hi f2 o2 x2 v2
            have hr := rp_lt hpm i x hxn
            obtain ⟨h3, e3, f3, o3⟩ := o2.zs (x := 1) (j := Nat.repeat (t j) i x) 41 12 (by decide) (by omega) (by decide)
            refine bk_X12_rounds_59 _ _ _ _ _ _ _ _ ⟨_, o2.f8, _, o2.zl 41 12 (by decide) (by omega), ?_⟩
            rw [v2 _ hr, bO_f (np i (by omega))]
            refine ⟨fun q => absurd rfl q, fun _ => ⟨_, o2.f8, h3, e3, _, o3.1, ?_⟩⟩
            have x3 : ex [41] r1 (wr r2 41 (Nat.repeat (t j) i x) 1) := x2.tr (ex.wr (by simp))
            refine ratL_ev o3 ((L.ex x1 (by simp) (by simp) (by simp)).ex x3 (by simp) (by simp) (by simp)) hp hk hn hj hr ⟨_, rfl, ?_⟩
            rw [nI_1]
            refine ihm (i + 1) h3 _ (by omega) (f2.tr f3) o3 x3 (fun z hz => ?_)
            show _ = bO (vs _ _ z)
            by_cases e : z = Nat.repeat (t j) i x
            · rw [e, wr_j, bO_t (vs_iff.mpr (Or.inl rfl))]
            · rw [wr_i e, v2 z hz]
              unfold vs
              rw [if_neg e]
        exact walk l 0 h1 r1 (by omega) f1 o1 ex.rf v1
  -- nothing is met yet
  have clr : ∀ m x h1 r1, x + m = n → FR h h1 → RR h1 r1 → ex [41, 42] r r1 → (∀ z, z < x → r1.2.1 41 z = 0) → Wm (d + 1) (0, 0) JX12_rounds 10 [some (.ref 34), some (.int (nI p)), some (.int (nI j)), some (.int (nI n)), some (.int (nI x)), none, none, none] [] h1 (fun r h' => h'.1 0 = h.1 0 ∧ K r h') := by
    intro m
    induction m with
    | zero =>
      intro x h1 r1 hx f1 o1 x1 v1
      have hx : x = n := by omega
      subst hx
      refine bk_X12_rounds_10 _ _ _ _ _ ⟨fun _ => ?_, fun q => absurd (le_t (Nat.le_refl _) (by omega)) q⟩
      refine scan x 0 h1 r1 (fun _ => 0) (by omega) f1 o1 x1 (fun z hz => v1 z hz) ⟨fun i j _ hj => absurd hj (by simp [cyl]), fun v => rfl⟩ (fun i hi => absurd hi (by simp [cyl]))
    | succ m ih =>
      intro x h1 r1 hx f1 o1 x1 v1
      obtain ⟨h3, e3, f3, o3⟩ := o1.zs (x := 0) (j := x) 41 12 (by decide) (by omega) (by decide)
      refine bk_X12_rounds_10 _ _ _ _ _ ⟨fun q => absurd q (le_f (by omega) (by omega)), fun _ => ⟨_, o1.f8, h3, e3, ?_⟩⟩
      rw [nI_1]
      refine ih (x + 1) h3 _ (by omega) (f1.tr f3) o3 (x1.tr (ex.wr (by simp))) (fun z hz => ?_)
      by_cases e : z = x
      · rw [e, wr_j]
      · rw [wr_i e]; exact v1 z (by omega)
  exact clr n 0 h r (by omega) FR.rf o ex.rf (fun z hz => absurd hz (by omega))
theorem rdn_len (hn : n ≤ 12) {q : Nat → Nat} (hq : pm n q) : (cyl q n n).length = rdn n q := len_sm _ (fun l hl => by have := cyl_el hq l hl; omega)
/-- how many rounds, alone -/
theorem rrn_ev {j : Nat} (o : RR h r) (L : LC r p n k t) (hp : p < 13) (hk : k ≤ 8) (hn : n ≤ 12) (hj : j < k) (hpm : pm n (t j)) (hK : ∀ h' r', FR h h' → RR h' r' → ex [41, 42] r r' → K (some (.int (nI (rdn n (t j))))) h') : Ev (d + 1) (0, 0) MX12_rounds [.ref 34, .int (nI p), .int (nI j)] h K :=
  rrounds_ev o L hp hk hn hj hpm (fun h' r' S f' o' x' _ _ => by rw [rdn_len hn hpm]; exact hK h' r' f' o' x')
theorem kcl3 (h1 : 1 ≤ n) (hn : n ≤ 12) (hpm : ∀ j, j < 3 → pm n (t j)) : kcl n 3 t = if (∀ z, z < n → t 2 z ≠ z ∧ t 2 (t 2 z) = z) ∧ rdn n (t 1) = 1 then 4 else @ite _ (∀ z, z < n → t 2 z ≠ z ∧ t 2 (t 2 z) = z) (Classical.propDecidable _) 0 9 := by
  have p2 := hpm 2 (by decide)
  have p1 := hpm 1 (by decide)
  have e2 := (cyl_two p2).symm.trans (kd_two hn (cyl_el p2) (cyl_sum p2))
  have e1 := kd_one h1 hn (cyl_el p1) (cyl_sum p1)
  rw [rdn_len hn p1] at e1
  unfold kcl
  rw [if_pos rfl]
  by_cases a : n % 2 = 0 ∧ eqB (LT n (t 2)) (prs n) = true
  · rw [if_pos a]
    by_cases b : eqB (LT n (t 1)) (o1 n) = true
    · rw [if_pos b, if_pos ⟨e2.mpr a, e1.mpr b⟩]
    · rw [if_neg b, if_neg (fun q => b (e1.mp q.2)), if_pos (e2.mpr a)]
  · rw [if_neg a, if_neg (fun q => a (e2.mp q.1)), if_neg (fun q => a (e2.mp q))]
theorem kcl_o (hk3 : ¬ k = 3) (h1 : 1 ≤ n) (hn : n ≤ 12) (hpm : ∀ j, j < k → pm n (t j)) : kcl n k t = @ite _ (2 ≤ k ∧ ∀ j, j < k - 1 → rdn n (t j) = n - 1) (Classical.propDecidable _) 8 1 := by
  unfold kcl
  rw [if_neg hk3]
  have ee : 2 ≤ n → ∀ j, j < k → (rdn n (t j) = n - 1 ↔ eqB (LT n (t j)) (exc n) = true) := fun h2 j hj => by
    have := kd_exc h2 hn (cyl_el (hpm j hj)) (cyl_sum (hpm j hj))
    rw [rdn_len hn (hpm j hj)] at this
    exact this
  by_cases a : 2 ≤ k ∧ ∀ j, j < k - 1 → rdn n (t j) = n - 1
  · rw [if_pos a]
    have n2 : 2 ≤ n := by
      apply Classical.byContradiction
      intro w
      have e : n = 1 := by omega
      have h0 := a.2 0 (by omega)
      have := kd_one h1 hn (cyl_el (hpm 0 (by omega))) (cyl_sum (hpm 0 (by omega)))
      have s := cyl_sum (hpm 0 (by omega))
      have z := rdn_len hn (hpm 0 (by omega))
      have : (cyl (t 0) n n).length = 0 := by omega
      rw [List.length_eq_zero_iff.mp this] at s
      simp at s
      omega
    rw [if_pos ⟨n2, a.1, exB_iff.mpr (fun i hi => (ee n2 i (by omega)).mp (a.2 i hi))⟩]
  · rw [if_neg a, if_neg (fun q => a ⟨q.2.1, fun j hj => (ee q.1 j (by omega)).mpr (exB_iff.mp q.2.2 j hj)⟩)]
theorem rkindOf_ev (o : RR h r) (L : LC r p n k t) (hp : p < 13) (h1 : 1 ≤ n) (hn : n ≤ 12) (hk1 : 1 ≤ k) (hk : k ≤ 8) (hpm : ∀ j, j < k → pm n (t j)) (hK : ∀ h' r', FR h h' → RR h' r' → ex [41, 42] r r' → K (some (.int (knd (kcl n k t)))) h') : Ev (d + 2) (0, 0) MX12_kindOf [.ref 34, .int (nI p)] h K := by
  refine en_X12_kindOf (bk_X12_kindOf_0 _ _ ⟨_, o.f5, _, o.il 38 13 (by decide) hp, _, o.f6, _, o.il 39 13 (by decide) hp, ?_⟩)
  rw [L.1, L.2.1]
  -- other than three turns
  have oth : ¬ k = 3 → ∀ m j h1 r1 (s : Int32), j + 1 + m = k → FR h h1 → RR h1 r1 → ex [41, 42] r r1 → (s = @ite _ (2 ≤ k ∧ ∀ i, i < j → rdn n (t i) = n - 1) (Classical.propDecidable _) 1 0) → Wm (d + 2) (0, 0) JX12_kindOf 121 [some (.ref 34), some (.int (nI p)), some (.int (nI n)), some (.int (nI k)), some (.int s), some (.int (nI j)), none] [] h1 (fun r h' => h'.1 0 = h.1 0 ∧ K r h') := by
    intro hk3 m
    have kc := kcl_o hk3 h1 hn hpm
    induction m with
    | zero =>
      intro j h1 r1 s hj f1 o1 x1 hs
      have e : j = k - 1 := by omega
      subst e
      have kk := hK h1 r1 f1 o1 x1
      rw [kc] at kk
      refine bk_X12_kindOf_121 _ _ _ _ _ _ ⟨fun _ => ?_, fun q => absurd (by rw [nI_1]; exact le_t (by omega) (by omega)) q⟩
      by_cases a : 2 ≤ k ∧ ∀ i, i < k - 1 → rdn n (t i) = n - 1
      · rw [if_pos a] at hs kk
        subst hs
        exact ⟨fun q => absurd q (by decide), fun _ => ⟨f1.z, kk⟩⟩
      · rw [if_neg a] at hs kk
        subst hs
        exact ⟨fun _ => ⟨f1.z, kk⟩, fun q => absurd rfl q⟩
    | succ m ih =>
      intro j h1 r1 s hj f1 o1 x1 hs
      refine bk_X12_kindOf_121 _ _ _ _ _ _ ⟨fun q => absurd (by rw [nI_1] at q; exact q) (le_f (by omega) (by omega)), fun _ => ⟨_, o1.1, ?_⟩⟩
      have hrl : rdn n (t j) ≤ n := by rw [← rdn_len hn (hpm j (by omega))]; exact cyl_len _ _ _
      refine rrn_ev o1 (L.ex x1 (by simp) (by simp) (by simp)) hp hk hn (by omega) (hpm j (by omega)) (fun h2 r2 f2 o2 x2 => ⟨_, rfl, ?_⟩)
      rw [nI_1, nI_m1 (by omega)]
      have ih := fun s => ih (j + 1) h2 r2 s (by omega) (f1.tr f2) o2 (x1.tr x2)
      by_cases a : 2 ≤ k ∧ ∀ i, i < j → rdn n (t i) = n - 1
      · rw [if_pos a] at hs
        subst hs
        refine ⟨fun q => absurd q (by decide), fun _ => ⟨fun q => ih 0 ?_, fun q => ih 1 ?_⟩⟩
        · rw [if_neg (fun z => q (by rw [z.2 j (by omega)]))]
        · have q := nI_inj (by omega) (by omega) q
          rw [if_pos ⟨a.1, fun i hi => by
            by_cases e : i = j
            · rw [e]; exact q
            · exact a.2 i (by omega)⟩]
      · rw [if_neg a] at hs
        subst hs
        exact ⟨fun _ => ih 0 (by rw [if_neg (fun z => a ⟨z.1, fun i hi => z.2 i (by omega)⟩)]), fun q => absurd rfl q⟩
  refine ⟨fun q => ⟨fun q2 => ?_, fun q2 => ?_⟩, fun q => ?_⟩
  · have k1 : k = 1 := by
      have := (nI_leI (b := 1) (by omega) (by decide)).mp q2
      omega
    exact oth (by omega) (k - 1) 0 h r 0 (by omega) FR.rf o ex.rf (by rw [if_neg (fun z => by omega)])
  · have k2 : 2 ≤ k := by
      rcases Nat.lt_or_ge k 2 with w | w
      · exact absurd (le_t (b := 1) (show k ≤ 1 by omega) (by decide)) q2
      · exact w
    exact oth (fun w => q (by rw [w]; rfl)) (k - 1) 0 h r 1 (by omega) FR.rf o ex.rf (by rw [if_pos ⟨k2, fun i hi => absurd hi (by omega)⟩])
  · have k3 : k = 3 := nI_inj (by omega) (by decide) q
    subst k3
    have kc := kcl3 h1 hn hpm
    have p2 := hpm 2 (by decide)
    have key : ∀ m x (s : Int32), x + m = n → (s = @ite _ (∀ z, z < x → t 2 z ≠ z ∧ t 2 (t 2 z) = z) (Classical.propDecidable _) 1 0) → Wm (d + 2) (0, 0) JX12_kindOf 25 [some (.ref 34), some (.int (nI p)), some (.int (nI n)), none, some (.int s), some (.int (nI x)), none] [] h (fun r h' => h'.1 0 = h.1 0 ∧ K r h') := by
      intro m
      induction m with
      | zero =>
        intro x s hx hs
        have hx : x = n := by omega
        subst hx
        refine bk_X12_kindOf_25 _ _ _ _ _ ⟨fun _ => ?_, fun q => absurd (le_t (Nat.le_refl _) (by omega)) q⟩
        by_cases a : ∀ z, z < x → t 2 z ≠ z ∧ t 2 (t 2 z) = z
        · rw [if_pos a] at hs
          subst hs
          have hrl : rdn x (t 1) ≤ x := by rw [← rdn_len hn (hpm 1 (by decide))]; exact cyl_len _ _ _
          refine ⟨fun q => absurd q (by decide), fun _ => ⟨_, o.1, ?_⟩⟩
          refine rrn_ev (j := 1) o L hp hk hn (by omega) (hpm 1 (by decide)) (fun h2 r2 f2 o2 x2 => ⟨_, rfl, fun w => ⟨f2.z, ?_⟩, fun w => ⟨f2.z, ?_⟩⟩)
          · have kk := hK h2 r2 f2 o2 x2
            rw [kc, if_neg (fun z => w (by rw [z.2]; rfl)), if_pos a] at kk
            exact kk
          · have w := nI_inj (b := 1) (by omega) (by decide) w
            have kk := hK h2 r2 f2 o2 x2
            rw [kc, if_pos ⟨a, w⟩] at kk
            exact kk
        · rw [if_neg a] at hs
          subst hs
          have kk := hK h r FR.rf o ex.rf
          rw [kc, if_neg (fun z => a z.1), if_neg a] at kk
          exact ⟨fun _ => ⟨rfl, kk⟩, fun q => absurd rfl q⟩
      | succ m ih =>
        intro x s hx hs
        have hxn : x < n := by omega
        have lt1 := p2.1 x hxn
        have lt2 := p2.1 _ lt1
        refine bk_X12_kindOf_25 _ _ _ _ _ ⟨fun q => absurd q (le_f hxn (by omega)), fun _ => ?_⟩
        rw [nI_1]
        have ih := fun s => ih (x + 1) s (by omega)
        have no : ¬ (t 2 x ≠ x ∧ t 2 (t 2 x) = x) → (0 : Int32) = @ite _ (∀ z, z < x + 1 → t 2 z ≠ z ∧ t 2 (t 2 z) = z) (Classical.propDecidable _) 1 0 := fun w => by rw [if_neg (fun z => w (z x (by omega)))]
        by_cases a : ∀ z, z < x → t 2 z ≠ z ∧ t 2 (t 2 z) = z
        · rw [if_pos a] at hs
          subst hs
          refine ⟨fun q => absurd q (by decide), fun _ => ⟨_, o.1, ?_⟩⟩
          refine ratL_ev (j := 2) o L hp hk hn (by omega) hxn ⟨_, rfl, fun w => ih 0 (no (fun z => z.1 (nI_inj (by omega) (by omega) w))), fun w => ⟨_, o.1, ?_⟩⟩
          refine ratL_ev (j := 2) o L hp hk hn (by omega) hxn ⟨_, rfl, _, o.1, ?_⟩
          refine ratL_ev (j := 2) o L hp hk hn (by omega) lt1 ⟨_, rfl, fun w2 => ih 0 (no (fun z => w2 (by rw [z.2]))), fun w2 => ih 1 ?_⟩
          have w2 := nI_inj (by omega) (by omega) w2
          rw [if_pos (fun z hz => by
            by_cases e : z = x
            · rw [e]; exact ⟨fun y => w (by rw [y]), w2⟩
            · exact a z (by omega))]
        · rw [if_neg a] at hs
          subst hs
          exact ⟨fun _ => ih 0 (by rw [if_neg (fun z => a (fun y hy => z y (by omega)))]), fun q => absurd rfl q⟩
    exact key n 0 1 (by omega) (by rw [if_pos (fun z hz => absurd hz (by omega))])
end RefRounds

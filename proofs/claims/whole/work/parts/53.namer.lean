/-! the class's Namer -/
theorem pq_lex {f g : Nat → Nat} {i : Nat} (hf : ∀ i, f i < 16) (hg : ∀ i, g i < 16) (hi : i < 12) (he : ∀ x, x < i → f x = g x) (hl : f i < g i) : pk f < pk g := by
  have a0 := hf 0; have a1 := hf 1; have a2 := hf 2; have a3 := hf 3; have a4 := hf 4; have a5 := hf 5; have a6 := hf 6; have a7 := hf 7; have a8 := hf 8; have a9 := hf 9; have a10 := hf 10; have a11 := hf 11
  unfold pk
  match i, hi with
  | 0, _ => omega
  | 1, _ => have := he 0 (by decide); omega
  | 2, _ => have := he 0 (by decide); have := he 1 (by decide); omega
  | 3, _ => have := he 0 (by decide); have := he 1 (by decide); have := he 2 (by decide); omega
  | 4, _ => have := he 0 (by decide); have := he 1 (by decide); have := he 2 (by decide); have := he 3 (by decide); omega
  | 5, _ => have := he 0 (by decide); have := he 1 (by decide); have := he 2 (by decide); have := he 3 (by decide); have := he 4 (by decide); omega
  | 6, _ => have := he 0 (by decide); have := he 1 (by decide); have := he 2 (by decide); have := he 3 (by decide); have := he 4 (by decide); have := he 5 (by decide); omega
  | 7, _ => have := he 0 (by decide); have := he 1 (by decide); have := he 2 (by decide); have := he 3 (by decide); have := he 4 (by decide); have := he 5 (by decide); have := he 6 (by decide); omega
  | 8, _ => have := he 0 (by decide); have := he 1 (by decide); have := he 2 (by decide); have := he 3 (by decide); have := he 4 (by decide); have := he 5 (by decide); have := he 6 (by decide); have := he 7 (by decide); omega
  | 9, _ => have := he 0 (by decide); have := he 1 (by decide); have := he 2 (by decide); have := he 3 (by decide); have := he 4 (by decide); have := he 5 (by decide); have := he 6 (by decide); have := he 7 (by decide); have := he 8 (by decide); omega
  | 10, _ => have := he 0 (by decide); have := he 1 (by decide); have := he 2 (by decide); have := he 3 (by decide); have := he 4 (by decide); have := he 5 (by decide); have := he 6 (by decide); have := he 7 (by decide); have := he 8 (by decide); have := he 9 (by decide); omega
  | 11, _ => have := he 0 (by decide); have := he 1 (by decide); have := he 2 (by decide); have := he 3 (by decide); have := he 4 (by decide); have := he 5 (by decide); have := he 6 (by decide); have := he 7 (by decide); have := he 8 (by decide); have := he 9 (by decide); have := he 10 (by decide); omega
theorem PK_lex {n : Nat} {f g : Nat → Nat} {i : Nat} (hn : n ≤ 12) (hf : ∀ i, i < n → f i < 16) (hg : ∀ i, i < n → g i < 16) (hi : i < n) (he : ∀ x, x < i → f x = g x) (hl : f i < g i) : PK n f < PK n g := by
  have h1 := rs_lt (n := n) (by decide) hf
  have h2 := rs_lt (n := n) (by decide) hg
  unfold PK
  rw [pk_lLT (by have := pq_lt h1; omega) (by have := pq_lt h2; omega)]
  refine pq_lex h1 h2 (i := i) (by omega) (fun x hx => ?_) ?_
  · rw [rs_in _ (by omega), rs_in _ (by omega)]; exact he x hx
  · rw [rs_in _ hi, rs_in _ hi]; exact hl
theorem cmp_lt {x y : Int64} (h : x < y) : lg_cmp x y = -1 := by
  unfold lg_cmp
  have h1 : ¬ x > y := by rw [gt_iff_lt, Int64.lt_iff_toInt_lt]; rw [Int64.lt_iff_toInt_lt] at h; omega
  have h2 : ¬ x = y := fun e => by subst e; rw [Int64.lt_iff_toInt_lt] at h; omega
  rw [if_neg h1, if_neg h2]
theorem cmp_gt {x y : Int64} (h : y < x) : lg_cmp x y = 1 := by
  unfold lg_cmp
  rw [if_pos h]
/-- where no sheet is left to go on from, and all are come to in the end: all have a number -/
theorem bx_stop {n k s x : Nat} {t : Nat → Nat → Nat} (hs : s < n) (hxn : x ≤ n) (hw : whl n k t) (hg : (bx t k s x).2.2.1 ≤ x) : (bx t k s x).2.2.1 = n := by
  have h1 := bx_stay hg n hxn
  have h2 : (bx t k s n).2.2.1 = n := hw s hs
  rw [h1] at h2
  exact h2
/-- a Namer: its row of turns, its likes, the numbers -/
def NO (h : mH) (a le : Nat) (lk : Int32) (nw od : Int64) : Prop := h.1 a = .inr (3, [.ref le, .int lk, .long nw, .long od])
section NamerEv
variable {d n k a le ta : Nat} {t : Nat → Nat → Nat} {h : mH} {K : Option Value → mH → Prop} {lk : Int32} {nw od : Int64}
theorem NO.fe (o : NO h a le lk nw od) : m_fld h a [3] 0 = some (.ref le) := fld_at o (by decide) rfl
theorem NO.fk (o : NO h a le lk nw od) : m_fld h a [3] 1 = some (.int lk) := fld_at o (by decide) rfl
theorem NO.fn (o : NO h a le lk nw od) : m_fld h a [3] 2 = some (.long nw) := fld_at o (by decide) rfl
theorem NO.fo (o : NO h a le lk nw od) : m_fld h a [3] 3 = some (.long od) := fld_at o (by decide) rfl
theorem NO.pk' {x : Int32} (o : NO h a le lk nw od) : ∃ h', m_put h a 3 1 (.int x) = some h' ∧ Fr [a] h h' ∧ NO h' a le x nw od := ⟨_, put_at o (by decide : 1 < 4), Fr.up (List.mem_singleton.mpr rfl), m_up_s _ _ _⟩
theorem NO.pn' {x : Int64} (o : NO h a le lk nw od) : ∃ h', m_put h a 3 2 (.long x) = some h' ∧ Fr [a] h h' ∧ NO h' a le lk x od := ⟨_, put_at o (by decide : 2 < 4), Fr.up (List.mem_singleton.mpr rfl), m_up_s _ _ _⟩
theorem NO.po' {x : Int64} (o : NO h a le lk nw od) : ∃ h', m_put h a 3 3 (.long x) = some h' ∧ Fr [a] h h' ∧ NO h' a le lk nw x := ⟨_, put_at o (by decide : 3 < 4), Fr.up (List.mem_singleton.mpr rfl), m_up_s _ _ _⟩
theorem compare_ev {x y : Int64} (hK : K (some (.int (lg_cmp x y))) h) : Ev d (0, 0) MJ13_compare_74951 [.long x, .long y] h K := by
  refine en_J13_compare_74951 (bk_J13_compare_74951_0 _ _ ⟨fun q => ⟨fun q2 => ⟨rfl, ?_⟩, fun q2 => ⟨rfl, ?_⟩⟩, fun q => ⟨rfl, ?_⟩⟩)
  · rw [lg_cmp_ge] at q
    rw [lg_cmp_eq] at q2
    have : y < x := by
      rw [Int64.lt_iff_toInt_lt]
      rw [Int64.le_iff_toInt_le] at q
      have : ¬ x.toInt = y.toInt := fun e => q2 (Int64.toInt_inj.mp e)
      omega
    rw [cmp_gt this] at hK
    exact hK
  · rw [q2] at hK
    exact hK
  · rw [lg_cmp_ge] at q
    have : x < y := by
      rw [Int64.lt_iff_toInt_lt]
      rw [Int64.le_iff_toInt_le] at q
      omega
    rw [cmp_lt this] at hK
    exact hK
theorem at_any {y : Int64} {x : Int32} (hK : ∀ v, K (some (.int v)) h) : Ev d (0, 0) MX5_at [.long y, .int x] h K := en_X5_at (bk_X5_at_0 _ _ ⟨rfl, hK _⟩)
theorem renamed_ev {O N p : Nat → Nat} (hn : n ≤ 12) (o : NO h a le lk (PK n N) (PK n O)) (hO : ∀ i, i < n → O i < n) (hp : ∀ i, i < n → p i < n) (hN : ∀ i, i < n → N i < 16) (hK : K (some (.long (PK n fun i => N (p (O i))))) h) : Ev (d + 2) (0, 0) MX3_renamed [.ref a, .long (PK n p), .int (nI n)] h K := by
  refine en_X3_renamed (bk_X3_renamed_0 _ _ _ ?_)
  have hl := dn (n := n) (fun x => Wm (d + 2) (0, 0) JX3_renamed 6 [some (.ref a), some (.long (PK n p)), none, some (.int (nI n)), some (.long (lN (pk (rs x fun i => N (p (O i)))))), none, some (.int (nI x)), none] [] h (fun r h' => h'.1 0 = h.1 0 ∧ K r h')) ?_ ?_ 0 (Nat.zero_le _)
  · rw [pq_z] at hl; exact hl
  · exact bk_X3_renamed_6 _ _ _ _ _ ⟨fun _ => ⟨rfl, hK⟩, fun c => absurd (le_t (Nat.le_refl _) (by omega)) c⟩
  · intro x hx ih
    refine bk_X3_renamed_6 _ _ _ _ _ ⟨fun c => absurd c (le_f hx (by omega)), fun _ => ⟨_, o.fo, ?_⟩⟩
    refine at_ev hn hx (fun i hi => by have := hO i hi; omega) ⟨_, rfl, ?_⟩
    refine at_ev hn (hO x hx) (fun i hi => by have := hp i hi; omega) ⟨_, rfl, _, o.fn, ?_⟩
    refine at_ev hn (hp _ (hO x hx)) hN ⟨_, rfl, ?_⟩
    refine with_rs (f := fun i => N (p (O i))) (by omega) (fun i hi => hN _ (hp _ (hO i (by omega)))) ⟨_, rfl, ?_⟩
    rw [nI_1]
    exact ih
/-- the numbers of the names from s -/
def NF (h : mH) (a le : Nat) (lk : Int32) (n k : Nat) (t : Nat → Nat → Nat) (s : Nat) : Prop := NO h a le lk (PK n (bF n t k s).1) (PK n (bF n t k s).2.1)
theorem ren_ev {s j : Nat} (hn : n ≤ 12) (hs : s < n) (hj : j < k) (ht : ∀ j, j < k → ∀ i, i < n → t j i < n) (hw : whl n k t) (o : NF h a le lk n k t s) (hK : K (some (.long (PK n (rn n t k s j)))) h) : Ev (d + 2) (0, 0) MX3_renamed [.ref a, .long (PK n (t j)), .int (nI n)] h K := by
  have hI : bI n (bF n t k s) := bI_x hs ht n
  have hg := hw s hs
  refine renamed_ev hn o (fun i hi => (hI.1 i (by omega)).1) (ht j hj) (fun i hi => ?_) hK
  have := (hI.2.1 i (bI_all hI hg i hi)).2.1
  omega
theorem againstLeast_ev {s : Nat} {u : Nat → Nat → Nat} (hn : n ≤ 12) (hk : k ≤ 8) (hs : s < n) (ht : ∀ j, j < k → ∀ i, i < n → t j i < n) (hw : whl n k t) (hT : TA h ta n k t) (o : NF h a le lk n k t s) {lf : Nat → Int64} (hle : h.1 le = .inl (1, 8, .inr (.inl lf))) (hlf : ∀ j, j < k → lf j = PK n (u j)) (hu : ∀ j, j < k → ∀ i, i < n → u j i < 16)
    (h0 : teq n k (rn n t k s) u → K (some (.int 0)) h) (h1 : lex n k (rn n t k s) u → K (some (.int (-1))) h) (h2 : lex n k u (rn n t k s) → K (some (.int 1)) h) : Ev (d + 3) (0, 0) MX3_againstLeast [.ref a, .ref ta, .int (nI n)] h K := by
  refine en_X3_againstLeast (bk_X3_againstLeast_0 _ _ _ ?_)
  have hr := rn_lt hs ht hw
  have hr16 : ∀ j, j < k → ∀ i, i < n → rn n t k s j i < 16 := fun j hj i hi => by have := hr j hj i hi; omega
  have key : ∀ r j, j + r = k → (∀ j', j' < j → ∀ i, i < n → rn n t k s j' i = u j' i) → Wm (d + 3) (0, 0) JX3_againstLeast 2 [some (.ref a), some (.ref ta), some (.int (nI n)), some (.int (nI j)), none] [] h (fun r h' => h'.1 0 = h.1 0 ∧ K r h') := by
    intro r
    induction r with
    | zero =>
      intro j hj hq
      exact bk_X3_againstLeast_2 _ _ _ _ ⟨_, hT.len, fun _ => ⟨rfl, h0 (fun j' hj' => hq j' (by omega))⟩, fun c => absurd (le_t (by omega) (by omega)) c⟩
    | succ r ih =>
      intro j hj hq
      refine bk_X3_againstLeast_2 _ _ _ _ ⟨_, hT.len, fun c => absurd c (le_f (by omega) (by omega)), fun _ => ⟨_, hT.at (by omega) (by omega), _, o, ?_⟩⟩
      refine ren_ev hn hs (by omega) ht hw o ⟨_, rfl, _, o.fe, _, ll_at hle (by omega) (by decide), ?_⟩
      rw [hlf j (by omega)]
      refine compare_ev ⟨_, rfl, fun c => ?_, fun c => ⟨rfl, ?_⟩⟩
      · rw [cmp_z, PK_eq hn (hr16 j (by omega)) (hu j (by omega))] at c
        rw [nI_1]
        refine ih (j + 1) (by omega) (fun j' hj' => ?_)
        by_cases w : j' = j
        · rw [w]; exact c
        · exact hq j' (by omega)
      · rw [cmp_z, PK_eq hn (hr16 j (by omega)) (hu j (by omega))] at c
        have h3 : ∃ i, ¬ (i < n → rn n t k s j i = u j i) := Classical.byContradiction fun q => c (fun i => Classical.byContradiction fun w => q ⟨i, w⟩)
        obtain ⟨i, hi, hmin⟩ := pk_least _ h3
        have hin : i < n := Classical.byContradiction fun w => hi (fun q => absurd q w)
        have hne : rn n t k s j i ≠ u j i := fun e => hi (fun _ => e)
        have p2 : ∀ i', i' < i → rn n t k s j i' = u j i' := fun i' hi' => Classical.not_not.mp (hmin i' hi') (by omega)
        rcases Nat.lt_or_gt_of_ne hne with w | w
        · rw [cmp_lt (PK_lex hn (hr16 j (by omega)) (hu j (by omega)) hin p2 w)]
          exact h1 ⟨j, by omega, i, hin, hq, p2, w⟩
        · rw [cmp_gt (PK_lex hn (hu j (by omega)) (hr16 j (by omega)) hin (fun x hx => (p2 x hx).symm) w)]
          exact h2 ⟨j, by omega, i, hin, fun j' hj' i' hi' => (hq j' hj' i' hi').symm, fun i' hi' => (p2 i' hi').symm, w⟩
  exact key k 0 (by omega) (fun j' hj' => absurd hj' (by omega))
theorem keepAsLeast_ev {s : Nat} (hal : a ≠ le) (hle0 : le ≠ 0) (hlt : ta ≠ le) (hn : n ≤ 12) (hk : k ≤ 8) (hs : s < n) (ht : ∀ j, j < k → ∀ i, i < n → t j i < n) (hw : whl n k t) (hT : TA h ta n k t) (o : NF h a le lk n k t s) {lf : Nat → Int64} (hle : h.1 le = .inl (1, 8, .inr (.inl lf)))
    (hK : ∀ h' lf', Fr [le] h h' → h'.1 le = .inl (1, 8, .inr (.inl lf')) → (∀ j, j < k → lf' j = PK n (rn n t k s j)) → K none h') : Ev (d + 3) (0, 0) MX3_keepAsLeast [.ref a, .ref ta, .int (nI n)] h K := by
  refine en_X3_keepAsLeast (bk_X3_keepAsLeast_0 _ _ _ ?_)
  have key : ∀ r j h' lf', j + r = k → Fr [le] h h' → h'.1 le = .inl (1, 8, .inr (.inl lf')) → (∀ j', j' < j → lf' j' = PK n (rn n t k s j')) → Wm (d + 3) (0, 0) JX3_keepAsLeast 2 [some (.ref a), some (.ref ta), some (.int (nI n)), some (.int (nI j))] [] h' (fun r h' => h'.1 0 = h.1 0 ∧ K r h') := by
    intro r
    induction r with
    | zero =>
      intro j h' lf' hj hF hl hq
      have hT' := hT.fr hF (by simpa using hlt)
      exact bk_X3_keepAsLeast_2 _ _ _ _ ⟨_, hT'.len, fun _ => ⟨hF.z (by simpa using Ne.symm hle0), hK h' lf' hF hl (fun j' hj' => hq j' (by omega))⟩, fun c => absurd (le_t (by omega) (by omega)) c⟩
    | succ r ih =>
      intro j h' lf' hj hF hl hq
      have hT' := hT.fr hF (by simpa using hlt)
      have o' : NF h' a le lk n k t s := hF.at o (by simpa using hal)
      refine bk_X3_keepAsLeast_2 _ _ _ _ ⟨_, hT'.len, fun c => absurd c (le_f (by omega) (by omega)), fun _ => ⟨_, o'.fe, _, hT'.at (by omega) (by omega), _, o', ?_⟩⟩
      refine ren_ev hn hs (by omega) ht hw o' ⟨_, rfl, _, ls_at hl (by omega) (by decide), ?_⟩
      rw [nI_1]
      refine ih (j + 1) _ (vp_updL lf' j (PK n (rn n t k s j))) (by omega) (hF.tr (Fr.up (List.mem_singleton.mpr rfl))) up_s (fun j' hj' => ?_)
      by_cases w : j' = j
      · subst w; simp [vp_updL]
      · simp [vp_updL, w, hq j' (by omega)]
  exact key k 0 h lf (by omega) Fr.rf hle (fun j' hj' => absurd hj' (by omega))
/-- the numbering in the heap -/
theorem bI_N16 {q : bS} (hn : n ≤ 12) (hI : bI n q) : ∀ i, q.1 i < 16 := fun i => by
  have := bI_le hI
  by_cases w : q.2.2.2 i = true
  · have := (hI.2.1 i w).2.1; omega
  · rw [hI.2.2.2.1 i w]; decide
theorem bI_O16 {q : bS} (hn : n ≤ 12) (hI : bI n q) : ∀ i, q.2.1 i < 16 := fun i => by
  rcases Nat.lt_or_ge i q.2.2.1 with w | w
  · have := (hI.1 i w).1; omega
  · rw [hI.2.2.1 i w]; decide
theorem bI_PKN {q : bS} (hI : bI n q) : lN (pk q.1) = PK n q.1 := by
  unfold PK
  congr 2
  funext i
  by_cases w : i < n
  · rw [rs_in _ w]
  · rw [rs_out _ (by omega)]
    exact hI.2.2.2.1 i (fun q2 => w (hI.2.1 i q2).1)
theorem bI_PKO {q : bS} (hI : bI n q) : lN (pk q.2.1) = PK n q.2.1 := by
  unfold PK
  congr 2
  funext i
  by_cases w : i < n
  · rw [rs_in _ w]
  · rw [rs_out _ (by omega)]
    exact hI.2.2.1 i (by have := bI_le hI; omega)
theorem sub16 : ∀ a, a < 16 → ∀ b, b < 16 → (nI a - nI b ≤ 0 ↔ a ≤ b) ∧ (nI a - nI b = 0 ↔ a = b) := by decide +kernel
theorem numberFrom_ev {s : Nat} {u : Nat → Nat} {lf : Nat → Int64} (ha0 : a ≠ 0) (hal : le ≠ a) (hat : ta ≠ a) (hn : n ≤ 12) (hk1 : 1 ≤ k) (hk : k ≤ 8) (hs : s < n) (ht : ∀ j, j < k → ∀ i, i < n → t j i < n) (hw : whl n k t) (hT : TA h ta n k t) (o : NO h a le lk nw od) (hlk : s = 0 ∨ ((∀ i, i < n → u i < 16) ∧ lf 0 = PK n u)) (hle : h.1 le = .inl (1, 8, .inr (.inl lf)))
    (h1 : ∀ h', Fr [a] h h' → NF h' a le lk n k t s → K (some (.int 1)) h') (h0 : ∀ h' nw' od', Fr [a] h h' → NO h' a le lk nw' od' → ¬ s = 0 → (∃ i, i < n ∧ (∀ i', i' < i → rn n t k s 0 i' = u i') ∧ u i < rn n t k s 0 i) → K (some (.int 0)) h') : Ev (d + 1) (0, 0) MX3_numberFrom [.ref a, .int (nI s), .ref ta, .int (nI n)] h K := by
  have hIx := bI_x (k := k) hs ht
  obtain ⟨g1, e1, f1, o1'⟩ := o.pn' (x := 0)
  refine en_X3_numberFrom (bk_X3_numberFrom_0 _ _ _ _ ⟨g1, e1, ?_⟩)
  have hz : (0 : Int64) = lN (pk fun _ => 0) := rfl
  rw [hz]
  refine with_ev (f := fun _ => 0) (x := 0) (y := s) (fun _ => by decide) (by decide) (by omega) rfl ⟨_, rfl, ?_⟩
  obtain ⟨g2, e2, f2, o2⟩ := o1'.po' (x := lN (pk (un (fun _ => 0) 0 s)))
  have F2 := f1.tr f2
  refine ⟨g2, e2, ?_⟩
  have z0 : ∀ {h' : mH}, Fr [a] h h' → h'.1 0 = h.1 0 := fun hF => hF.z (by simpa using Ne.symm ha0)
  -- while sheets get their numbers; ev: whether the name is even with the least so far
  have outer : ∀ r x h' (ev : Int32) (m : Nat), x + r = n → Fr [a] h h' → NO h' a le lk (lN (pk (bx t k s x).1)) (lN (pk (bx t k s x).2.1)) → m < 4096 → (∀ z, m.testBit z = (bx t k s x).2.2.2 z) → (ev = 0 ∨ (ev = 1 ∧ ¬ s = 0 ∧ ∀ i, i < x → rn n t k s 0 i = u i)) →
      Wm (d + 1) (0, 0) JX3_numberFrom 37 [some (.ref a), none, some (.ref ta), some (.int (nI n)), some (.int (nI m)), some (.int (nI (bx t k s x).2.2.1)), some (.int ev), some (.int (nI x)), none, none, none, none] [] h' (fun r h' => h'.1 0 = h.1 0 ∧ K r h') := by
    intro r
    induction r with
    | zero =>
      intro x h' ev m hx hF ho hm hv hev
      have hx : x = n := by omega
      subst hx
      have hg := hw s hs
      have hb : (bx t k s x).2.2.1 = x := hg
      rw [hb]
      refine bk_X3_numberFrom_37 _ _ _ _ _ _ _ ⟨fun _ => ⟨z0 hF, h1 h' hF ?_⟩, fun c => absurd (le_t (Nat.le_refl _) (by omega)) c⟩
      rw [bI_PKN (hIx x), bI_PKO (hIx x)] at ho
      exact ho
    | succ r ih =>
      intro x h' ev m hx hF ho hm hv hev
      have hI := hIx x
      have hgl := bI_le hI
      -- all have one: the rest changes nothing
      have done : (bx t k s x).2.2.1 = n → NF h' a le lk n k t s := by
        intro hg
        have e := bx_full hs ht hg n (by omega)
        rw [bI_PKN hI, bI_PKO hI, ← e] at ho
        exact ho
      refine bk_X3_numberFrom_37 _ _ _ _ _ _ _ ⟨fun c => ⟨z0 hF, h1 h' hF ?_⟩, fun c => ⟨fun c2 => ⟨z0 hF, h1 h' hF ?_⟩, fun c2 => ⟨_, ho.fo, ?_⟩⟩⟩
      · -- no sheet is left to go on from: then all have one
        have hgx := (nI_leI (by omega) (by omega)).mp c
        exact done (bx_stop hs (by omega) hw hgx)
      · have := (nI_leI (by omega) (by omega)).mp c2
        exact done (by omega)
      · have hgx : x < (bx t k s x).2.2.1 := by
          rcases Nat.lt_or_ge x (bx t k s x).2.2.1 with w | w
          · exact w
          · exact absurd (le_t w (by omega)) c
        have hO := (hI.1 x hgx).1
        rw [bI_PKO hI]
        refine at_ev hn (by omega) (fun i hi => bI_O16 hn hI i) ⟨_, rfl, ?_⟩
        generalize hold : (bx t k s x).2.1 x = old at hO
        have hstep : bx t k s (x + 1) = bj t old k (bx t k s x) := by rw [← hold]; exact bx_go hgx
        have hLn : bL (bx t k s (x + 1)) (bx t k s n) := bL_x (x + 1) n (by omega)
        have hO2 : (bF n t k s).2.1 x = old := by
          rw [← hold]
          exact (bL_x (t := t) (k := k) (s := s) x n (by omega)).2.1 x hgx
        -- what turn 0 leads to has its number for good
        have hrn : (bj t old 1 (bx t k s x)).1 (t 0 old) = rn n t k s 0 x := by
          show _ = (bF n t k s).1 (t 0 ((bF n t k s).2.1 x))
          rw [hO2]
          have hL1 : bL (bj t old 1 (bx t k s x)) (bx t k s (x + 1)) := by rw [hstep]; exact bL_jj _ k (by omega)
          exact (((hL1.tr hLn).2.2 _ (bj_has _ (by omega))).2).symm
        have hrlt := rn_lt hs ht hw 0 (by omega) x (by omega)
        have inner : ∀ q j h' (m : Nat) (ev : Int32), j + q = k → Fr [a] h h' → NO h' a le lk (lN (pk (bj t old j (bx t k s x)).1)) (lN (pk (bj t old j (bx t k s x)).2.1)) → m < 4096 → (∀ z, m.testBit z = (bj t old j (bx t k s x)).2.2.2 z) → (ev = 0 ∨ (ev = 1 ∧ ¬ s = 0 ∧ (∀ i, i < x → rn n t k s 0 i = u i) ∧ (1 ≤ j → rn n t k s 0 x = u x))) →
            Wm (d + 1) (0, 0) JX3_numberFrom 64 [some (.ref a), none, some (.ref ta), some (.int (nI n)), some (.int (nI m)), some (.int (nI (bj t old j (bx t k s x)).2.2.1)), some (.int ev), some (.int (nI x)), some (.int (nI old)), some (.int (nI j)), none, none] [] h' (fun r h' => h'.1 0 = h.1 0 ∧ K r h') := by
          intro q
          induction q with
          | zero =>
            intro j h' m ev hj hF ho hm hv hev
            have hj : j = k := by omega
            subst hj
            have hT' := hT.fr hF (by simpa using hat)
            rw [← hstep] at ho hv ⊢
            refine bk_X3_numberFrom_64 _ _ _ _ _ _ _ _ _ ⟨_, hT'.len, fun _ => ?_, fun c => absurd (le_t (Nat.le_refl _) (by omega)) c⟩
            rw [nI_1]
            refine ih (x + 1) h' ev m (by omega) hF ho hm hv ?_
            rcases hev with he | ⟨he, hs0, hq1, hq2⟩
            · exact Or.inl he
            · refine Or.inr ⟨he, hs0, fun i hi => ?_⟩
              by_cases w : i = x
              · rw [w]; exact hq2 hk1
              · exact hq1 i (by omega)
          | succ q ihq =>
            intro j h' m ev hj hF ho hm hv hev
            have hT' := hT.fr hF (by simpa using hat)
            have hIj : bI n (bj t old j (bx t k s x)) := bI_j (k := k) (fun j hj => ht j hj old hO) j _ (by omega) hI
            have hgj := bI_le hIj
            have hled := ht j (by omega) old hO
            -- the state has its next sheet: the name is compared, where it is even and the turn is 0
            have nxt : ∀ (g : mH) (m : Nat), Fr [a] h g → NO g a le lk (lN (pk (bj t old (j + 1) (bx t k s x)).1)) (lN (pk (bj t old (j + 1) (bx t k s x)).2.1)) → m < 4096 → (∀ z, m.testBit z = (bj t old (j + 1) (bx t k s x)).2.2.2 z) →
                ((ev = 0 → Wm (d + 1) (0, 0) JX3_numberFrom 64 [some (.ref a), none, some (.ref ta), some (.int (nI n)), some (.int (nI m)), some (.int (nI (bj t old (j + 1) (bx t k s x)).2.2.1)), some (.int ev), some (.int (nI x)), some (.int (nI old)), some (.int (nI j + 1)), none, none] [] g (fun r h' => h'.1 0 = h.1 0 ∧ K r h')) ∧
                (¬ (ev = 0) → ((¬ nI j = 0 → Wm (d + 1) (0, 0) JX3_numberFrom 64 [some (.ref a), none, some (.ref ta), some (.int (nI n)), some (.int (nI m)), some (.int (nI (bj t old (j + 1) (bx t k s x)).2.2.1)), some (.int ev), some (.int (nI x)), some (.int (nI old)), some (.int (nI j + 1)), none, none] [] g (fun r h' => h'.1 0 = h.1 0 ∧ K r h')) ∧
                (nI j = 0 → (∃ y6 : Int64, m_fld g a [3] 2 = some (.long y6) ∧ Ev d (0, 0) MX5_at [.long y6, .int (nI (t j old))] g (fun r7 h8 => ∃ x9 : Int32, r7 = some (.int x9) ∧ (∃ r10 : Nat, m_fld h8 a [3] 0 = some (.ref r10) ∧ (∃ y11 : Int64, m_ll h8 r10 0 = some y11 ∧ Ev d (0, 0) MX5_at [.long y11, .int (nI x)] h8 (fun r12 h13 => ∃ x14 : Int32, r12 = some (.int x14) ∧ (((x9 - x14) ≤ 0 → ((¬ (x9 - x14) = 0 → Wm (d + 1) (0, 0) JX3_numberFrom 64 [some (.ref a), none, some (.ref ta), some (.int (nI n)), some (.int (nI m)), some (.int (nI (bj t old (j + 1) (bx t k s x)).2.2.1)), some (.int 0), some (.int (nI x)), some (.int (nI old)), some (.int (nI j + 1)), none, none] [] h13 (fun r h' => h'.1 0 = h.1 0 ∧ K r h')) ∧ ((x9 - x14) = 0 → Wm (d + 1) (0, 0) JX3_numberFrom 64 [some (.ref a), none, some (.ref ta), some (.int (nI n)), some (.int (nI m)), some (.int (nI (bj t old (j + 1) (bx t k s x)).2.2.1)), some (.int 1), some (.int (nI x)), some (.int (nI old)), some (.int (nI j + 1)), none, none] [] h13 (fun r h' => h'.1 0 = h.1 0 ∧ K r h')))) ∧ (¬ ((x9 - x14) ≤ 0) → h13.1 0 = h.1 0 ∧ K (some (.int 0)) h13))))))))))) := by
              intro g m hFg og hm hv
              rw [nI_1]
              refine ⟨fun c => ihq (j + 1) g m ev (by omega) hFg og hm hv (Or.inl c), fun c => ⟨fun c2 => ?_, fun c2 => ⟨_, og.fn, ?_⟩⟩⟩
              · refine ihq (j + 1) g m ev (by omega) hFg og hm hv ?_
                rcases hev with he | ⟨he, hs0, hq1, hq2⟩
                · exact Or.inl he
                · have hj1 : 1 ≤ j := by
                    rcases Nat.eq_zero_or_pos j with w | w
                    · exact absurd (by rw [w]; rfl) c2
                    · exact w
                  exact Or.inr ⟨he, hs0, hq1, fun _ => hq2 hj1⟩
              · have hj0 : j = 0 := nI_inj (b := 0) (by omega) (by decide) c2
                subst hj0
                rcases hev with he | ⟨he, hs0, hq1, -⟩
                · exact absurd he c
                · rcases hlk with hlk | ⟨hu, hlf⟩
                  · exact absurd hlk hs0
                  · have hI1 : bI n (bj t old 1 (bx t k s x)) := bI_j (k := k) (fun j hj => ht j hj old hO) 1 _ (by omega) hI
                    have hleg : g.1 le = .inl (1, 8, .inr (.inl lf)) := hFg.at hle (by simpa using hal)
                    rw [bI_PKN hI1]
                    refine at_ev hn (ht 0 (by omega) old hO) (fun i hi => bI_N16 hn hI1 i) ⟨_, rfl, _, og.fe, _, ll_at hleg (j := 0) (by decide) (by decide), ?_⟩
                    rw [hrn, hlf]
                    have hux := hu x (by omega)
                    have sb := sub16 (rn n t k s 0 x) (by omega) (u x) hux
                    refine at_ev hn (by omega) hu ⟨_, rfl, fun c3 => ⟨fun c4 => ?_, fun c4 => ?_⟩, fun c3 => ⟨z0 hFg, ?_⟩⟩
                    · exact ihq 1 g m 0 (by omega) hFg og hm hv (Or.inl rfl)
                    · exact ihq 1 g m 1 (by omega) hFg og hm hv (Or.inr ⟨rfl, hs0, hq1, fun _ => sb.2.mp c4⟩)
                    · refine h0 g _ _ hFg og hs0 ⟨x, by omega, hq1, ?_⟩
                      rcases Nat.lt_or_ge (u x) (rn n t k s 0 x) with w | w
                      · exact w
                      · exact absurd (sb.1.mpr w) c3
            refine bk_X3_numberFrom_64 _ _ _ _ _ _ _ _ _ ⟨_, hT'.len, fun c => absurd c (le_f (by omega) (by omega)), fun _ => ⟨_, hT'.at (by omega) (by omega), ?_⟩⟩
            refine at_ev hn hO (fun i hi => by have := ht j (by omega) i hi; omega) ⟨_, rfl, ?_⟩
            rw [get_bit (by omega) (by omega), hv]
            by_cases w : (bj t old j (bx t k s x)).2.2.2 (t j old) = true
            · rw [if_pos w]
              refine ⟨fun _ => ?_, fun c => absurd c (ne_f (a := 1) (b := 0) (by decide) (by decide) (by decide))⟩
              have e : bj t old (j + 1) (bx t k s x) = bj t old j (bx t k s x) := by
                show b1 _ _ = _
                unfold b1
                rw [if_pos w]
              have nx := nxt h' m hF (by rw [e]; exact ho) hm (by rw [e]; exact hv)
              rw [e] at nx
              exact nx
            · rw [if_neg w]
              refine ⟨fun c => absurd rfl c, fun _ => ⟨_, ho.fn, ?_⟩⟩
              have e : bj t old (j + 1) (bx t k s x) = (un (bj t old j (bx t k s x)).1 (t j old) (bj t old j (bx t k s x)).2.2.1, un (bj t old j (bx t k s x)).2.1 (bj t old j (bx t k s x)).2.2.1 (t j old), (bj t old j (bx t k s x)).2.2.1 + 1, vs (bj t old j (bx t k s x)).2.2.2 (t j old)) := by
                show b1 _ _ = _
                unfold b1
                rw [if_neg w]
              have hglt : (bj t old j (bx t k s x)).2.2.1 < n := by
                rcases Nat.lt_or_ge (bj t old j (bx t k s x)).2.2.1 n with w2 | w2
                · exact w2
                · exact absurd (bI_all hIj (by omega) _ hled) w
              refine with_ev (bI_N16 hn hIj) (by omega) (by omega) (hIj.2.2.2.1 _ w) ⟨_, rfl, ?_⟩
              obtain ⟨g3, e3, f3, o3⟩ := ho.pn' (x := lN (pk (un (bj t old j (bx t k s x)).1 (t j old) (bj t old j (bx t k s x)).2.2.1)))
              refine ⟨g3, e3, _, o3.fo, ?_⟩
              refine with_ev (bI_O16 hn hIj) (by omega) (by omega) (hIj.2.2.1 _ (Nat.le_refl _)) ⟨_, rfl, ?_⟩
              obtain ⟨g4, e4, f4, o4⟩ := o3.po' (x := lN (pk (un (bj t old j (bx t k s x)).2.1 (bj t old j (bx t k s x)).2.2.1 (t j old))))
              refine ⟨g4, e4, ?_⟩
              rw [set_bit (by omega), nI_1]
              have nx := nxt g4 (m ||| 2 ^ t j old) (hF.tr (f3.tr f4)) (by rw [e]; exact o4) (or_lt (k := 12) hm (by omega)) (fun z => by
                rw [e, tb_or, hv]
                simp only [vs]
                by_cases w2 : z = t j old
                · subst w2; simp
                · simp [w2, Ne.symm w2])
              rw [e] at nx
              exact nx
        exact inner k 0 h' m ev (by omega) hF ho hm hv (by
          rcases hev with he | ⟨he, hs0, hq1⟩
          · exact Or.inl he
          · exact Or.inr ⟨he, hs0, hq1, fun c => absurd c (by decide)⟩)
  have hm0 : (1 : Int32) <<< (nI s &&& 31) = nI (2 ^ s) := one_shl s (by omega)
  rw [hm0]
  have hm : 2 ^ s < 4096 := Nat.pow_lt_pow_right (by decide : 1 < 2) (show s < 12 by omega)
  have hvv : ∀ z, (2 ^ s).testBit z = (bx t k s 0).2.2.2 z := fun z => by
    rw [Nat.testBit_two_pow]
    show _ = (if z = s then true else false)
    by_cases w : z = s
    · subst w; simp
    · simp [w, Ne.symm w]
  have hq1 : (bx t k s 0).1 = fun _ => 0 := rfl
  have hq2 : (bx t k s 0).2.1 = un (fun _ => 0) 0 s := rfl
  have o2 : NO g2 a le lk (lN (pk (bx t k s 0).1)) (lN (pk (bx t k s 0).2.1)) := by
    rw [hq1, hq2, ← hz]; exact o2
  have st0 := outer n 0 g2 0 (2 ^ s) (by omega) F2 o2 hm hvv (Or.inl rfl)
  have st1 := fun c => outer n 0 g2 1 (2 ^ s) (by omega) F2 o2 hm hvv (Or.inr ⟨rfl, c, fun i hi => absurd hi (by omega)⟩)
  have e1 : (bx t k s 0).2.2.1 = 1 := rfl
  rw [e1] at st0 st1
  exact ⟨fun _ => st0, fun c => st1 (fun w => c (by rw [w]; decide))⟩
theorem fnd_2 {n k : Nat} {t : Nat → Nat → Nat} : ∀ s, 1 ≤ s → 1 ≤ (fnd n k t s).2 ∧ (fnd n k t s).2 ≤ s
  | 0, h => absurd h (by decide)
  | s + 1, _ => by
    by_cases e : s = 0
    · subst e
      show 1 ≤ (if (0 : Nat) = 0 then (rn n t k 0, 1) else _).2 ∧ (if (0 : Nat) = 0 then (rn n t k 0, 1) else _).2 ≤ 1
      rw [if_pos rfl]
      exact ⟨Nat.le_refl _, Nat.le_refl _⟩
    · have ih := fnd_2 (n := n) (k := k) (t := t) s (by omega)
      unfold fnd
      rw [if_neg e]
      split
      · exact ⟨Nat.le_refl _, by show 1 ≤ s + 1; omega⟩
      · split
        · exact ⟨by show 1 ≤ _ + 1; omega, by show _ + 1 ≤ s + 1; omega⟩
        · exact ⟨ih.1, by omega⟩
theorem fnd_1 {n k : Nat} {t : Nat → Nat → Nat} : fnd n k t 1 = (rn n t k 0, 1) := by
  unfold fnd
  exact if_pos rfl
theorem fnd_lt {n k s : Nat} {t : Nat → Nat → Nat} (hs : 1 ≤ s) (h : lex n k (rn n t k s) (fnd n k t s).1) : fnd n k t (s + 1) = (rn n t k s, 1) := by
  show (if s = 0 then (rn n t k 0, 1) else _) = _
  rw [if_neg (by omega), if_pos h]
theorem fnd_eq {n k s : Nat} {t : Nat → Nat → Nat} (hs : 1 ≤ s) (h : teq n k (rn n t k s) (fnd n k t s).1) : fnd n k t (s + 1) = ((fnd n k t s).1, (fnd n k t s).2 + 1) := by
  show (if s = 0 then (rn n t k 0, 1) else _) = _
  rw [if_neg (by omega), if_neg (fun w => lex_ne w h), if_pos h]
theorem fnd_gt {n k s : Nat} {t : Nat → Nat → Nat} (hs : 1 ≤ s) (h : lex n k (fnd n k t s).1 (rn n t k s)) : fnd n k t (s + 1) = fnd n k t s := by
  show (if s = 0 then (rn n t k 0, 1) else _) = _
  rw [if_neg (by omega), if_neg (lex_as h), if_neg (fun w => lex_ne h (fun j hj i hi => (w j hj i hi).symm))]
theorem fnd_rn {n k : Nat} {t : Nat → Nat → Nat} : ∀ s, 1 ≤ s → ∃ s', s' < s ∧ (fnd n k t s).1 = rn n t k s'
  | 0, h => absurd h (by decide)
  | s + 1, _ => by
    by_cases e : s = 0
    · subst e
      exact ⟨0, by decide, by rw [fnd_1]⟩
    · obtain ⟨s', h1, h2⟩ := fnd_rn (n := n) (k := k) (t := t) s (by omega)
      rcases lex_or n k (rn n t k s) (fnd n k t s).1 with w | w | w
      · rw [fnd_eq (by omega) w]; exact ⟨s', by omega, h2⟩
      · rw [fnd_lt (by omega) w]; exact ⟨s, by omega, rfl⟩
      · rw [fnd_gt (by omega) w]; exact ⟨s', by omega, h2⟩
end NamerEv

/-! covers that are made -/
theorem up_up (f : Nat → mC) (a : Nat) (c e : mC) : m_up (m_up f a c) a e = m_up f a e := by
  funext x
  by_cases hx : x = a
  · subst hx; rw [m_up_s, m_up_s]
  · rw [m_up_n _ _ hx, m_up_n _ _ hx, m_up_n _ _ hx]
def eqB (c e : Nat → Nat) : Bool := (List.range 12).all (fun l => c (l + 1) == e (l + 1))
theorem eqB_iff {c e : Nat → Nat} : eqB c e = true ↔ ∀ l, 1 ≤ l → l ≤ 12 → c l = e l := by
  unfold eqB
  rw [List.all_eq_true]
  constructor
  · intro q l h1 h2
    have := beq_iff_eq.mp (q (l - 1) (List.mem_range.mpr (by omega)))
    rwa [show l - 1 + 1 = l by omega] at this
  · intro q l hl
    exact beq_iff_eq.mpr (q (l + 1) (by omega) (by have := List.mem_range.mp hl; omega))
theorem SH_eqB {c e : Nat → Nat} (hc : ∀ l, c l < 16) (he : ∀ l, e l < 16) : SH c = SH e ↔ eqB c e = true := by rw [SH_eq hc he, eqB_iff]
theorem pq_mul (m : Nat) (f : Nat → Nat) : m * pk f = pk (fun i => m * f i) := by simp only [pk, Nat.mul_add, Nat.mul_assoc]
theorem SH_mul (m : Nat) (c : Nat → Nat) : lN m * SH c = SH (fun l => m * c l) := by unfold SH; rw [lN_mul, pq_mul]
/-- an exchange; pairs alone -/
def exc (n : Nat) : Nat → Nat := fun l => o1 2 l + (n - 2) * o1 1 l
def prs (n : Nat) : Nat → Nat := fun l => n / 2 * o1 2 l
theorem o1_le (l m : Nat) : o1 l m ≤ 1 := by unfold o1; split <;> omega
theorem o1_lt (l : Nat) : ∀ m, o1 l m < 16 := fun m => by have := o1_le l m; omega
theorem exc_lt {n : Nat} (hn : n ≤ 12) : ∀ l, exc n l < 16 := fun l => by
  have h1 := o1_le 2 l
  have h2 : (n - 2) * o1 1 l ≤ 10 * 1 := Nat.mul_le_mul (by omega) (o1_le 1 l)
  unfold exc; omega
theorem prs_lt {n : Nat} (hn : n ≤ 12) : ∀ l, prs n l < 16 := fun l => by
  have h2 : n / 2 * o1 2 l ≤ 6 * 1 := Nat.mul_le_mul (by omega) (o1_le 2 l)
  unfold prs; omega
/-- lengths of the rounds of a turn -/
def LT (n : Nat) (p : Nat → Nat) : Nat → Nat := ct (cyl p n n)
theorem LT_lt {n : Nat} (hn : n ≤ 12) (p : Nat → Nat) : ∀ l, LT n p l < 16 := ct_lt (Nat.le_trans (cyl_len _ _ _) hn)
/-- each of the first j is an exchange -/
def exB (n : Nat) (t : Nat → Nat → Nat) (j : Nat) : Bool := (List.range j).all (fun i => eqB (LT n (t i)) (exc n))
theorem exB_iff {n j : Nat} {t : Nat → Nat → Nat} : exB n t j = true ↔ ∀ i, i < j → eqB (LT n (t i)) (exc n) = true := by
  unfold exB
  rw [List.all_eq_true]
  exact ⟨fun q i hi => q i (List.mem_range.mpr hi), fun q i hi => q i (List.mem_range.mp hi)⟩
/-- the class by which the class tells a kind; how many parts -/
def kcl (n k : Nat) (t : Nat → Nat → Nat) : Nat := if k = 3 then (if n % 2 = 0 ∧ eqB (LT n (t 2)) (prs n) = true then (if eqB (LT n (t 1)) (o1 n) = true then 4 else 0) else 9) else (if 2 ≤ n ∧ 2 ≤ k ∧ exB n t (k - 1) = true then 8 else 1)
def pn (n k : Nat) (t : Nat → Nat → Nat) : Nat := cn (fun z => ltj n t k z == z) n
theorem kcl_in (n k : Nat) (t : Nat → Nat → Nat) : kcl n k t ∈ [0, 1, 4, 8, 9] := by
  unfold kcl
  split
  · split
    · split <;> decide
    · decide
  · split <;> decide
section MakeEv
variable {d n k a ta ci pr : Nat} {t : Nat → Nat → Nat} {h : mH} {K : Option Value → mH → Prop}
theorem lengthsOf_evL {p : Nat → Nat} (hn : n ≤ 12) (hp : ∀ i, i < n → p i < n) (hK : K (some (.long (SH (LT n p)))) h) : Ev (d + 1) (0, 0) MX8_lengthsOf [.long (PK n p), .int (nI n)] h K := lengthsOf_ev hn hp hK
theorem init1_ev {x y : Int32} {r : Nat} {v0 v1 v2 : Value} (ha : a ≠ 0) (hc : ci ∈ [0, 1, 4, 8, 9]) (hO : h.1 a = .inr (ci, [v0, v1, v2])) (hK : K none (m_up h.1 a (.inr (ci, [.int x, .ref r, .int y])), h.2)) : Ev (d + 1) (0, 0) MX1_init [.ref a, .int x, .ref r, .int y] h K := by
  refine en_X1_init (bk_X1_init_0 _ _ _ _ ⟨ci, _, hc, put_at hO (by decide : 0 < 3), ci, _, hc, put_at up_s (by decide : 1 < 3), ci, _, hc, put_at up_s (by decide : 2 < 3), ?_, ?_⟩)
  · exact (m_up_n _ _ (Ne.symm ha)).trans ((m_up_n _ _ (Ne.symm ha)).trans (m_up_n _ _ (Ne.symm ha)))
  · show K none (m_up (m_up (m_up h.1 a _) a _) a _, h.2)
    rw [up_up, up_up]
    exact hK
theorem init9_ev {x y : Int32} {r : Nat} {v0 v1 v2 : Value} (ha : a ≠ 0) (hO : h.1 a = .inr (8, [v0, v1, v2])) (hK : K none (m_up h.1 a (.inr (8, [.int x, .ref r, .int y])), h.2)) : Ev (d + 2) (0, 0) MX9_init [.ref a, .int x, .ref r, .int y] h K :=
  en_X9_init (bk_X9_init_0 _ _ _ _ (init1_ev ha (by decide) hO ⟨rfl, m_up_n _ _ (Ne.symm ha), hK⟩))
theorem init10_ev {x y : Int32} {r : Nat} {v0 v1 v2 : Value} (ha : a ≠ 0) (hc : ci ∈ [0, 1, 4, 8, 9]) (hO : h.1 a = .inr (ci, [v0, v1, v2])) (hK : K none (m_up h.1 a (.inr (ci, [.int x, .ref r, .int y])), h.2)) : Ev (d + 2) (0, 0) MX10_init [.ref a, .int x, .ref r, .int y] h K :=
  en_X10_init (bk_X10_init_0 _ _ _ _ (init1_ev ha hc hO ⟨rfl, m_up_n _ _ (Ne.symm ha), hK⟩))
theorem init0_ev {x y : Int32} {r : Nat} {v0 v1 v2 : Value} (ha : a ≠ 0) (hc : ci ∈ [0, 1, 4, 8, 9]) (hO : h.1 a = .inr (ci, [v0, v1, v2])) (hK : K none (m_up h.1 a (.inr (ci, [.int x, .ref r, .int y])), h.2)) : Ev (d + 3) (0, 0) MX0_init [.ref a, .int x, .ref r, .int y] h K :=
  en_X0_init (bk_X0_init_0 _ _ _ _ (init10_ev ha hc hO ⟨rfl, m_up_n _ _ (Ne.symm ha), hK⟩))
theorem init4_ev {x y : Int32} {r : Nat} {v0 v1 v2 : Value} (ha : a ≠ 0) (hc : ci ∈ [0, 1, 4, 8, 9]) (hO : h.1 a = .inr (ci, [v0, v1, v2])) (hK : K none (m_up h.1 a (.inr (ci, [.int x, .ref r, .int y])), h.2)) : Ev (d + 4) (0, 0) MX4_init [.ref a, .int x, .ref r, .int y] h K :=
  en_X4_init (bk_X4_init_0 _ _ _ _ (init0_ev ha hc hO ⟨rfl, m_up_n _ _ (Ne.symm ha), hK⟩))
theorem exchangesAhead_ev (hn : n ≤ 12) (hk : k ≤ 8) (hT : TA h a n k t) (ht : ∀ j, j < k → ∀ i, i < n → t j i < n) (h1 : (2 ≤ n ∧ 2 ≤ k ∧ exB n t (k - 1) = true) → K (some (.int 1)) h) (h0 : ¬ (2 ≤ n ∧ 2 ≤ k ∧ exB n t (k - 1) = true) → K (some (.int 0)) h) : Ev (d + 2) (0, 0) MX1_exchangesAhead [.int (nI n), .ref a] h K := by
  refine en_X1_exchangesAhead (bk_X1_exchangesAhead_0 _ _ ⟨fun q => ⟨rfl, h0 (fun w => absurd q (lt_f (b := 2) w.1 (by omega)))⟩, fun q => ⟨_, hT.len, fun q2 => ?_, fun q2 => ⟨rfl, h0 (fun w => absurd (le_t w.2.1 (by omega)) q2)⟩⟩⟩)
  have hn2 : 2 ≤ n := by
    rcases Nat.lt_or_ge n 2 with w | w
    · exact absurd (lt_t (b := 2) w (by decide)) q
    · exact w
  have hk2 : 2 ≤ k := (nI_leI (a := 2) (b := k) (by decide) (by omega)).mp q2
  refine one_ev (l := 2) (by decide) (by decide) ⟨_, rfl, ?_⟩
  refine one_ev (l := 1) (by decide) (by decide) ⟨_, rfl, ?_⟩
  have e : SH (o1 2) + (nI n - 2).toInt64 * SH (o1 1) = SH (exc n) := by
    rw [show (2 : Int32) = nI 2 from rfl, pk_sub hn2, nI_l (by omega), SH_mul, SH_add]
    rfl
  rw [e]
  have key : ∀ r j, j + r = k - 1 → (∀ i, i < j → eqB (LT n (t i)) (exc n) = true) → Wm (d + 2) (0, 0) JX1_exchangesAhead 31 [some (.int (nI n)), some (.ref a), some (.long (SH (exc n))), none, some (.int (nI j))] [] h (fun r h' => h'.1 0 = h.1 0 ∧ K r h') := by
    intro r
    induction r with
    | zero =>
      intro j hj hq
      refine bk_X1_exchangesAhead_31 _ _ _ _ ⟨_, hT.len, fun _ => ⟨rfl, h1 ⟨hn2, hk2, exB_iff.mpr (fun i hi => hq i (by omega))⟩⟩, fun c => absurd ?_ c⟩
      rw [nI_m1 (by omega)]
      exact le_t (by omega) (by omega)
    | succ r ih =>
      intro j hj hq
      refine bk_X1_exchangesAhead_31 _ _ _ _ ⟨_, hT.len, fun c => absurd c ?_, fun _ => ⟨_, hT.at (by omega) (by omega), ?_⟩⟩
      · rw [nI_m1 (by omega)]
        exact le_f (by omega) (by omega)
      · refine lengthsOf_evL hn (ht j (by omega)) ⟨_, rfl, ?_⟩
        rw [cmp_z, SH_eqB (LT_lt hn (t j)) (exc_lt hn)]
        refine ⟨fun c => ?_, fun c => ⟨rfl, h0 (fun w => c (exB_iff.mp w.2.2 j (by omega)))⟩⟩
        rw [nI_1]
        refine ih (j + 1) (by omega) (fun i hi => ?_)
        by_cases w : i = j
        · rw [w]; exact c
        · exact hq i (by omega)
  exact key (k - 1) 0 (by omega) (fun i hi => absurd hi (by omega))
theorem of_ev (h0 : h.2 ≠ 0) (hn1 : 1 ≤ n) (hn : n ≤ 12) (hk : k ≤ 8) (hT : TA h a n k t) (ht : ∀ j, j < k → ∀ i, i < n → t j i < n) (hK : K (some (.ref h.2)) (m_up h.1 h.2 (.inr (kcl n k t, [.int (nI n), .ref a, .int (nI (pn n k t))])), h.2 + 1)) : Ev (d + 5) (1, 3) MX1_of [.int (nI n), .ref a] h K := by
  refine en_X1_of (bk_X1_of_0 _ _ ?_)
  refine ledTogether_ev hn hT (by omega) ht ⟨_, rfl, ?_⟩
  refine groups_ev hn (Nat.le_refl _) (fun i hi => by have := ltj_lt ht k (Nat.le_refl _) i hi; omega) ⟨_, rfl, _, hT.len, fun q => ?_, fun q => ?_⟩
  · have hk3 : k = 3 := nI_inj (by omega) (by decide) q
    subst hk3
    refine one_ev (l := 2) (by decide) (by decide) ⟨_, rfl, ?_⟩
    have er : nI n - nI n / 2 * 2 = nI (n % 2) := pk_rem (d := 2) (by omega) (by decide) (by decide)
    have ed : nI n / 2 = nI (n / 2) := pk_div (d := 2) (by omega) (by decide) (by decide)
    rw [er, ed]
    have e2 : (nI (n / 2)).toInt64 * SH (o1 2) = SH (prs n) := by
      rw [nI_l (by omega), SH_mul]
      rfl
    rw [e2]
    have z0 : ∀ {c e : mC}, (m_up (m_up h.1 h.2 c) h.2 e) 0 = h.1 0 := fun {c e} => by rw [m_up_n _ _ (Ne.symm h0), m_up_n _ _ (Ne.symm h0)]
    have three : kcl n 3 t = 9 → (1 ≤ (1, 3).1 ∧ 3 ≤ (1, 3).2 ∧ ∀ h11 : mH, h11 = (m_up h.1 h.2 (.inr (9, [.int 0, .null, .int 0])), h.2 + 1) → Ev (d + 4) (0, 0) MX10_init [.ref h.2, .int (nI n), .ref a, .int (nI (cn (fun z => ltj n t 3 z == z) n))] h11 (fun r12 h13 => r12 = none ∧ (h13.1 0 = h.1 0 ∧ K (some (.ref h.2)) h13))) := by
      intro hkc
      refine ⟨by decide, by decide, fun h11 e => ?_⟩
      subst e
      refine init10_ev (d := d + 2) h0 (ci := 9) (by decide) (m_up_s _ _ _) ⟨rfl, z0, ?_⟩
      rw [hkc] at hK
      rw [up_up]
      exact hK
    refine ⟨fun w => three ?_, fun w => ⟨_, hT.at (j := 2) (by decide) (by decide), ?_⟩⟩
    · unfold kcl
      rw [if_pos rfl, if_neg (fun z => w (by rw [z.1]; rfl))]
    · have hpar : n % 2 = 0 := nI_inj (b := 0) (by omega) (by decide) w
      refine lengthsOf_evL hn (ht 2 (by decide)) ⟨_, rfl, ?_⟩
      rw [cmp_z, SH_eqB (LT_lt hn (t 2)) (prs_lt hn)]
      refine ⟨fun w2 => ⟨_, hT.at (j := 1) (by decide) (by decide), ?_⟩, fun w2 => three ?_⟩
      · refine lengthsOf_evL hn (ht 1 (by decide)) ⟨_, rfl, ?_⟩
        refine one_ev hn1 hn ⟨_, rfl, ?_⟩
        rw [cmp_z, SH_eqB (LT_lt hn (t 1)) (o1_lt n)]
        refine ⟨fun w3 => ⟨by decide, by decide, fun h11 e => ?_⟩, fun w3 => ⟨by decide, by decide, fun h11 e => ?_⟩⟩
        · subst e
          refine init4_ev (d := d) h0 (ci := 4) (by decide) (m_up_s _ _ _) ⟨rfl, z0, ?_⟩
          have hkc : kcl n 3 t = 4 := by unfold kcl; rw [if_pos rfl, if_pos ⟨hpar, w2⟩, if_pos w3]
          rw [hkc] at hK
          rw [up_up]
          exact hK
        · subst e
          refine init0_ev (d := d + 1) h0 (ci := 0) (by decide) (m_up_s _ _ _) ⟨rfl, z0, ?_⟩
          have hkc : kcl n 3 t = 0 := by unfold kcl; rw [if_pos rfl, if_pos ⟨hpar, w2⟩, if_neg w3]
          rw [hkc] at hK
          rw [up_up]
          exact hK
      · unfold kcl
        rw [if_pos rfl, if_neg (fun z => w2 z.2)]
  · have hk3 : ¬ k = 3 := fun w => q (by rw [w]; rfl)
    have z0 : ∀ {c e : mC}, (m_up (m_up h.1 h.2 c) h.2 e) 0 = h.1 0 := fun {c e} => by rw [m_up_n _ _ (Ne.symm h0), m_up_n _ _ (Ne.symm h0)]
    refine exchangesAhead_ev hn hk hT ht (fun w => ⟨_, rfl, fun c => absurd c (by decide), fun _ => ⟨by decide, by decide, fun h11 e => ?_⟩⟩) (fun w => ⟨_, rfl, fun _ => ⟨by decide, by decide, fun h11 e => ?_⟩, fun c => absurd rfl c⟩)
    · subst e
      refine init9_ev (d := d + 2) h0 (m_up_s _ _ _) ⟨rfl, z0, ?_⟩
      have hkc : kcl n k t = 8 := by unfold kcl; rw [if_neg hk3, if_pos w]
      rw [hkc] at hK
      rw [up_up]
      exact hK
    · subst e
      refine init1_ev (d := d + 3) h0 (ci := 1) (by decide) (m_up_s _ _ _) ⟨rfl, z0, ?_⟩
      have hkc : kcl n k t = 1 := by unfold kcl; rw [if_neg hk3, if_neg w]
      rw [hkc] at hK
      rw [up_up]
      exact hK
end MakeEv

/-! the class's orders -/
theorem pq_z (f : Nat → Nat) : lN (pk (rs 0 f)) = 0 := by rw [rs_0]; rfl
theorem pq_iz (f : Nat → Nat) : lN (pk (iv f 0)) = 0 := by
  have : iv f 0 = fun _ => 0 := by funext i; rfl
  rw [this]; rfl
section OrdersEv
variable {d n : Nat} {h : mH} {K : Option Value → mH → Prop}
theorem at_ev {i : Nat} {f : Nat → Nat} (hn : n ≤ 12) (hi : i < n) (hf : ∀ i, i < n → f i < 16) (hK : K (some (.int (nI (f i)))) h) : Ev d (0, 0) MX5_at [.long (PK n f), .int (nI i)] h K := by
  refine en_X5_at (bk_X5_at_0 _ _ ⟨rfl, ?_⟩)
  have e := at_val (rs_lt (by decide) hf) (i := i) (by omega)
  rw [rs_in f hi] at e
  rw [show PK n f = lN (pk (rs n f)) from rfl, e]
  exact hK
theorem with_ev {x y : Nat} {f : Nat → Nat} (hf : ∀ i, f i < 16) (hx : x < 12) (hy : y < 16) (h0 : f x = 0) (hK : K (some (.long (lN (pk (un f x y))))) h) : Ev d (0, 0) MX5_with [.long (lN (pk f)), .int (nI x), .int (nI y)] h K := by
  refine en_X5_with (bk_X5_with_0 _ _ _ ⟨rfl, ?_⟩)
  rw [with_val hf hx hy h0]
  exact hK
/-- the next place of a row -/
theorem with_rs {x : Nat} {f : Nat → Nat} (hx : x < 12) (hf : ∀ i, i < x + 1 → f i < 16) (hK : K (some (.long (lN (pk (rs (x + 1) f))))) h) : Ev d (0, 0) MX5_with [.long (lN (pk (rs x f))), .int (nI x), .int (nI (f x))] h K := by
  refine with_ev (rs_lt (by decide) (fun i hi => hf i (by omega))) hx (hf x (by omega)) (rs_out f (Nat.le_refl _)) ?_
  rw [rs_succ]
  exact hK
theorem still_ev (hn : n ≤ 12) (hK : K (some (.long (PK n fun i => i))) h) : Ev (d + 1) (0, 0) MX5_still [.int (nI n)] h K := by
  refine en_X5_still (bk_X5_still_0 _ ?_)
  refine dn (n := n) (fun x => Wm (d + 1) (0, 0) JX5_still 4 [some (.int (nI n)), some (.long (lN (pk (rs x fun i => i)))), none, some (.int (nI x))] [] h _) ?_ ?_ 0 (by omega)
  · exact bk_X5_still_4 _ _ _ ⟨fun _ => ⟨rfl, hK⟩, fun c => absurd (le_t (Nat.le_refl _) (by omega)) c⟩
  · intro x hx ih
    refine bk_X5_still_4 _ _ _ ⟨fun c => absurd c (le_f hx (by omega)), fun _ => with_rs (f := fun i => i) (by omega) (fun i hi => by omega) ⟨_, rfl, ?_⟩⟩
    rw [nI_1]
    exact ih
theorem behind_ev {f g : Nat → Nat} (hn : n ≤ 12) (hf : ∀ i, i < n → f i < n) (hg : ∀ i, i < n → g i < 16) (hK : K (some (.long (PK n fun i => g (f i)))) h) : Ev (d + 1) (0, 0) MX5_behind [.long (PK n f), .long (PK n g), .int (nI n)] h K := by
  refine en_X5_behind (bk_X5_behind_0 _ _ _ ?_)
  have hl := dn (n := n) (fun x => Wm (d + 1) (0, 0) JX5_behind 6 [some (.long (PK n f)), none, some (.long (PK n g)), none, some (.int (nI n)), some (.long (lN (pk (rs x fun i => g (f i))))), none, some (.int (nI x))] [] h (fun r h' => h'.1 0 = h.1 0 ∧ K r h')) ?_ ?_ 0 (Nat.zero_le _)
  · rw [pq_z] at hl; exact hl
  · exact bk_X5_behind_6 _ _ _ _ _ ⟨fun _ => ⟨rfl, hK⟩, fun c => absurd (le_t (Nat.le_refl _) (by omega)) c⟩
  · intro x hx ih
    refine bk_X5_behind_6 _ _ _ _ _ ⟨fun c => absurd c (le_f hx (by omega)), fun _ => ?_⟩
    refine at_ev hn hx (fun i hi => by have := hf i hi; omega) ⟨_, rfl, ?_⟩
    refine at_ev hn (hf x hx) hg ⟨_, rfl, ?_⟩
    refine with_rs (f := fun i => g (f i)) (by omega) (fun i hi => hg _ (hf i (by omega))) ⟨_, rfl, ?_⟩
    rw [nI_1]
    exact ih
theorem inverse_ev {f : Nat → Nat} (hn : n ≤ 12) (hf : pm n f) (hK : K (some (.long (PK n (iv f n)))) h) : Ev (d + 1) (0, 0) MX5_inverse [.long (PK n f), .int (nI n)] h K := by
  refine en_X5_inverse (bk_X5_inverse_0 _ _ ?_)
  have hlt : ∀ x, x ≤ n → ∀ i, iv f x i < 16 := fun x hx i => Nat.lt_of_lt_of_le (iv_lt (n := 16) (by omega) (by decide) i) (Nat.le_refl _)
  have hl := dn (n := n) (fun x => Wm (d + 1) (0, 0) JX5_inverse 5 [some (.long (PK n f)), none, some (.int (nI n)), some (.long (lN (pk (iv f x)))), none, some (.int (nI x))] [] h (fun r h' => h'.1 0 = h.1 0 ∧ K r h')) ?_ ?_ 0 (Nat.zero_le _)
  · rw [pq_iz] at hl; exact hl
  · refine bk_X5_inverse_5 _ _ _ _ ⟨fun _ => ⟨rfl, ?_⟩, fun c => absurd (le_t (Nat.le_refl _) (by omega)) c⟩
    have e : iv f n = rs n (iv f n) := by
      funext i
      by_cases hi : i < n
      · rw [rs_in _ hi]
      · rw [rs_out _ (by omega)]
        exact iv_none (fun j hj => by have := hf.1 j hj; omega)
    rw [e]
    exact hK
  · intro x hx ih
    refine bk_X5_inverse_5 _ _ _ _ ⟨fun c => absurd c (le_f hx (by omega)), fun _ => ?_⟩
    refine at_ev hn hx (fun i hi => by have := hf.1 i hi; omega) ⟨_, rfl, ?_⟩
    have := hf.1 x hx
    refine with_ev (hlt x (by omega)) (by omega) (by omega) (iv_none (fun i hi q => absurd (hf.2 i x (by omega) hx q) (by omega))) ⟨_, rfl, ?_⟩
    rw [iv_succ, nI_1]
    exact ih
/-- two groups become one -/
def mg (f : Nat → Nat) (a b : Nat) : Nat → Nat := fun x => if f x = max a b then min a b else f x
theorem mg_same (f : Nat → Nat) (a : Nat) : mg f a a = f := by
  funext x
  simp only [mg, Nat.max_self, Nat.min_self]
  split <;> simp_all
theorem merged_ev {f : Nat → Nat} {a b : Nat} (hn : n ≤ 12) (hf : ∀ i, i < n → f i < n) (ha : a < n) (hb : b < n) (hK : K (some (.long (PK n (mg f a b)))) h) : Ev (d + 1) (0, 0) MX5_merged [.long (PK n f), .int (nI a), .int (nI b), .int (nI n)] h K := by
  have hmg : ∀ i, i < n → mg f a b i < 16 := fun i hi => by
    have := hf i hi
    simp only [mg]
    split <;> omega
  refine en_X5_merged (bk_X5_merged_0 _ _ _ _ ⟨fun c => ?_, fun c => ⟨rfl, ?_⟩⟩)
  · have hab : a ≠ b := fun q => c (by rw [q])
    have e1 : (if nI b < nI a then nI b else nI a) = nI (min a b) := by
      by_cases q : b < a
      · rw [if_pos (lt_t q (by omega)), Nat.min_eq_right (by omega)]
      · rw [if_neg (lt_f (by omega) (by omega)), Nat.min_eq_left (by omega)]
    have e2 : (if nI a < nI b then nI b else nI a) = nI (max a b) := by
      by_cases q : a < b
      · rw [if_pos (lt_t q (by omega)), Nat.max_eq_right (by omega)]
      · rw [if_neg (lt_f (by omega) (by omega)), Nat.max_eq_left (by omega)]
    rw [e1, e2]
    have hl := dn (n := n) (fun x => Wm (d + 1) (0, 0) JX5_merged 27 [some (.long (PK n f)), none, none, none, some (.int (nI n)), some (.int (nI (min a b))), some (.int (nI (max a b))), some (.long (lN (pk (rs x (mg f a b))))), none, some (.int (nI x)), none] [] h (fun r h' => h'.1 0 = h.1 0 ∧ K r h')) ?_ ?_ 0 (Nat.zero_le _)
    · rw [pq_z] at hl; exact hl
    · exact bk_X5_merged_27 _ _ _ _ _ _ ⟨fun _ => ⟨rfl, hK⟩, fun c => absurd (le_t (Nat.le_refl _) (by omega)) c⟩
    · intro x hx ih
      refine bk_X5_merged_27 _ _ _ _ _ _ ⟨fun c => absurd c (le_f hx (by omega)), fun _ => ?_⟩
      refine at_ev hn hx (fun i hi => by have := hf i hi; omega) ⟨_, rfl, ?_⟩
      have hfx := hf x hx
      refine ⟨fun c1 => ?_, fun c1 => ?_⟩
      · have e : f x = mg f a b x := by
          simp only [mg]
          rw [if_neg (fun q => c1 (by rw [q]))]
        rw [e]
        refine with_rs (f := mg f a b) (by omega) (fun i hi => hmg i (by omega)) ⟨_, rfl, ?_⟩
        rw [nI_1]
        exact ih
      · have e : min a b = mg f a b x := by
          simp only [mg]
          rw [if_pos (nI_inj (by omega) (by omega) c1)]
        rw [e]
        refine with_rs (f := mg f a b) (by omega) (fun i hi => hmg i (by omega)) ⟨_, rfl, ?_⟩
        rw [nI_1, ← e]
        exact ih
  · have hab : a = b := nI_inj (by omega) (by omega) c
    subst hab
    rw [mg_same] at hK
    exact hK
theorem bitCount_ev {m : Nat} (hm : m < 4096) (hK : K (some (.int (nI (pop m)))) h) : Ev d (0, 0) MJ6_bitCount_0f7a4 [.int (nI m)] h K := by
  refine en_J6_bitCount_0f7a4 (bk_J6_bitCount_0f7a4_0 _ ⟨rfl, ?_⟩)
  rw [← bcE_ok hm] at hK
  exact hK
/-- the bits of those that hold, below k -/
def bm (p : Nat → Bool) : Nat → Nat
  | 0 => 0
  | k + 1 => if p k = true then bm p k ||| 2 ^ k else bm p k
theorem bm_tb (p : Nat → Bool) : ∀ (k z : Nat), (bm p k).testBit z = (decide (z < k) && p z)
  | 0, z => by simp [bm]
  | k + 1, z => by
    unfold bm
    by_cases hp : p k = true
    · rw [if_pos hp, tb_or, bm_tb p k z]
      by_cases e : k = z
      · subst e; simp [hp]
      · by_cases hz : z < k
        · simp [hz, e, show z < k + 1 by omega]
        · simp [hz, e, show ¬ z < k + 1 by omega]
    · rw [if_neg hp, bm_tb p k z]
      by_cases e : z = k
      · subst e; simp [hp]
      · by_cases hz : z < k
        · simp [hz, show z < k + 1 by omega]
        · simp [hz, show ¬ z < k + 1 by omega]
theorem bm_lt (p : Nat → Bool) {K : Nat} : ∀ (k : Nat), k ≤ K → bm p k < 2 ^ K
  | 0, _ => Nat.two_pow_pos K
  | k + 1, hk => by
    unfold bm
    have := bm_lt p (K := K) k (by omega)
    split
    · exact or_lt this (by omega)
    · exact this
theorem pop_bm (p : Nat → Bool) {k : Nat} (hk : k ≤ 12) : pop (bm p k) = cn p k := by
  unfold pop
  have e : cn (bm p k).testBit 12 = cn (bm p k).testBit k := cn_false hk (fun i h1 _ => by rw [bm_tb]; simp [Nat.not_lt.mpr h1])
  rw [e]
  exact cn_congr (fun i hi => by rw [bm_tb]; simp [hi])
theorem leaders_ev {f : Nat → Nat} {c : Nat} (hn : n ≤ 12) (hc : c ≤ n) (hf : ∀ i, i < n → f i < 16) (hK : K (some (.int (nI (bm (fun z => f z == z) c)))) h) : Ev (d + 1) (0, 0) MX5_leaders [.long (PK n f), .int (nI c)] h K := by
  refine en_X5_leaders (bk_X5_leaders_0 _ _ ?_)
  refine dn (n := c) (fun x => Wm (d + 1) (0, 0) JX5_leaders 5 [some (.long (PK n f)), none, some (.int (nI c)), some (.int (nI (bm (fun z => f z == z) x))), some (.int (nI x))] [] h _) ?_ ?_ 0 (by omega)
  · exact bk_X5_leaders_5 _ _ _ _ ⟨fun _ => ⟨rfl, hK⟩, fun c => absurd (le_t (Nat.le_refl _) (by omega)) c⟩
  · intro x hx ih
    refine bk_X5_leaders_5 _ _ _ _ ⟨fun c => absurd c (le_f hx (by omega)), fun _ => ?_⟩
    refine at_ev hn (by omega) hf ⟨_, rfl, ?_⟩
    have hfx := hf x (by omega)
    refine ⟨fun c1 => ?_, fun c1 => ?_⟩
    · have e : ¬ f x = x := fun q => c1 (by rw [q])
      simp only [bm, beq_iff_eq, e, if_false] at ih
      rw [nI_1]
      exact ih
    · have e : f x = x := nI_inj (by omega) (by omega) c1
      simp only [bm, beq_iff_eq, e, if_true] at ih
      rw [nI_1, set_bit (by omega)]
      exact ih
theorem groups_ev {f : Nat → Nat} {c : Nat} (hn : n ≤ 12) (hc : c ≤ n) (hf : ∀ i, i < n → f i < 16) (hK : K (some (.int (nI (cn (fun z => f z == z) c)))) h) : Ev (d + 2) (0, 0) MX5_groups [.long (PK n f), .int (nI c)] h K := by
  refine en_X5_groups (bk_X5_groups_0 _ _ ?_)
  refine leaders_ev hn hc hf ⟨_, rfl, ?_⟩
  refine bitCount_ev (by have := bm_lt (fun z => f z == z) (K := 12) c (by omega); omega) ⟨_, rfl, rfl, ?_⟩
  rw [pop_bm _ (by omega)]
  exact hK
end OrdersEv

/-! tools: counting loops, bits, counts, permutations -/
/-- a loop that counts up to n, told from its end -/
theorem dn {n : Nat} (P : Nat → Prop) (he : P n) (hs : ∀ x, x < n → P (x + 1) → P x) : ∀ x, x ≤ n → P x := by
  have key : ∀ m x, x + m = n → P x := by
    intro m
    induction m with
    | zero => intro x hx; rw [show x = n by omega]; exact he
    | succ m ih => intro x hx; exact hs x (by omega) (ih (x + 1) (by omega))
  intro x hx
  exact key (n - x) x (by omega)
theorem le_t {a b : Nat} (h : a ≤ b) (hb : b < 2147483648) : nI a ≤ nI b := nI_le h hb
theorem le_f {a b : Nat} (h : b < a) (ha : a < 2147483648) : ¬ nI a ≤ nI b := nI_ge h ha
theorem lt_t {a b : Nat} (h : a < b) (hb : b < 2147483648) : nI a < nI b := nI_lt h hb
theorem lt_f {a b : Nat} (h : b ≤ a) (ha : a < 2147483648) : ¬ nI a < nI b := nI_nlt h ha
theorem ne_f {a b : Nat} (h : a ≠ b) (ha : a < 2147483648) (hb : b < 2147483648) : ¬ nI a = nI b := fun q => h ((nI_eq ha hb).mp q)
theorem nI_inj {a b : Nat} (ha : a < 2147483648) (hb : b < 2147483648) (h : nI a = nI b) : a = b := (nI_eq ha hb).mp h
-- bits
theorem nx_or (a b : Nat) : nI a ||| nI b = nI (a ||| b) := by
  apply Int32.toBitVec_inj.mp
  show BitVec.ofNat 32 a ||| BitVec.ofNat 32 b = BitVec.ofNat 32 (a ||| b)
  apply BitVec.eq_of_toNat_eq
  simp [Nat.or_mod_two_pow]
theorem one_shl : ∀ x, x < 31 → ((1 : Int32) <<< (nI x &&& 31)) = nI (2 ^ x) := by decide +kernel
theorem sh_amt : ∀ x, x < 32 → ((nI x &&& 31).toBitVec.smod 32).toNat = x := by decide +kernel
theorem set_bit {m x : Nat} (hx : x < 31) : nI m ||| ((1 : Int32) <<< (nI x &&& 31)) = nI (m ||| 2 ^ x) := by rw [one_shl x hx, nx_or]
theorem get_bit {m x : Nat} (hm : m < 2147483648) (hx : x < 31) : ((nI m >>> (nI x &&& 31)) &&& 1) = nI (if m.testBit x = true then 1 else 0) := by
  rw [pk_shrN hm _ x (sh_amt x (by omega)), show (1 : Int32) = nI 1 from rfl, nx_and, Nat.and_one_is_mod, ← Nat.shiftRight_eq_div_pow]
  congr 1
  rw [Nat.testBit, Nat.and_comm, Nat.and_one_is_mod]
  have := Nat.mod_two_eq_zero_or_one (m >>> x)
  rcases this with h | h <;> simp [h]
theorem tb_or {m x z : Nat} : (m ||| 2 ^ x).testBit z = (m.testBit z || decide (x = z)) := by
  rw [Nat.testBit_or, Nat.testBit_two_pow]
theorem or_lt {m x k : Nat} (hm : m < 2 ^ k) (hx : x < k) : m ||| 2 ^ x < 2 ^ k := Nat.or_lt_two_pow hm (Nat.pow_lt_pow_right (by decide) hx)
/-- how many below k -/
def cn (p : Nat → Bool) : Nat → Nat
  | 0 => 0
  | k + 1 => cn p k + (if p k = true then 1 else 0)
theorem cn_succ (p : Nat → Bool) (k : Nat) : cn p (k + 1) = cn p k + (if p k = true then 1 else 0) := rfl
theorem cn_le (p : Nat → Bool) (k : Nat) : cn p k ≤ k := by
  induction k with
  | zero => exact Nat.le_refl _
  | succ k ih => unfold cn; split <;> omega
theorem cn_congr {p q : Nat → Bool} {k : Nat} (h : ∀ i, i < k → p i = q i) : cn p k = cn q k := by
  induction k with
  | zero => rfl
  | succ k ih => unfold cn; rw [ih (fun i hi => h i (by omega)), h k (by omega)]
theorem cn_mono {p : Nat → Bool} {j k : Nat} (h : j ≤ k) : cn p j ≤ cn p k := by
  induction k with
  | zero => rw [show j = 0 by omega]; exact Nat.le_refl _
  | succ k ih =>
    by_cases e : j = k + 1
    · rw [e]; exact Nat.le_refl _
    · have := ih (by omega)
      rw [cn_succ]; omega
theorem cn_false {p : Nat → Bool} {j k : Nat} (h : j ≤ k) (hp : ∀ i, j ≤ i → i < k → p i = false) : cn p k = cn p j := by
  induction k with
  | zero => rw [show j = 0 by omega]
  | succ k ih =>
    by_cases e : j = k + 1
    · rw [e]
    · rw [cn_succ, ih (by omega) (fun i h1 h2 => hp i h1 (by omega)), hp k (by omega) (by omega)]
      simp
def pop (m : Nat) : Nat := cn m.testBit 12
/-- Integer.bitCount's own sum -/
def bcE (x : Int32) : Int32 :=
  let a := x - ((x.toUInt32 >>> ((1 : Int32).toUInt32 &&& Int32.toUInt32 31)).toInt32 &&& 1431655765)
  let b := (a &&& 858993459) + ((a.toUInt32 >>> ((2 : Int32).toUInt32 &&& Int32.toUInt32 31)).toInt32 &&& 858993459)
  let c := (b + (b.toUInt32 >>> ((4 : Int32).toUInt32 &&& Int32.toUInt32 31)).toInt32) &&& 252645135
  let d := c + (c.toUInt32 >>> ((8 : Int32).toUInt32 &&& Int32.toUInt32 31)).toInt32
  let e := d + (d.toUInt32 >>> ((16 : Int32).toUInt32 &&& Int32.toUInt32 31)).toInt32
  e &&& 63
set_option maxRecDepth 100000 in
theorem bcE_all : (List.range 4096).all (fun m => decide (bcE (nI m) = nI (pop m))) = true := by decide +kernel
theorem bcE_ok {m : Nat} (h : m < 4096) : bcE (nI m) = nI (pop m) := by
  have := List.all_eq_true.mp bcE_all m (List.mem_range.mpr h)
  exact of_decide_eq_true this
-- permutations of the numbers below n
def pm (n : Nat) (f : Nat → Nat) : Prop := (∀ i, i < n → f i < n) ∧ ∀ i j, i < n → j < n → f i = f j → i = j
theorem pm_surj : ∀ (n : Nat) (f : Nat → Nat), pm n f → ∀ y, y < n → ∃ x, x < n ∧ f x = y
  | 0, f, _, y, hy => absurd hy (by omega)
  | n + 1, f, ⟨h1, h2⟩, y, hy => by
    by_cases hv : f n = y
    · exact ⟨n, by omega, hv⟩
    · have hg : pm n (fun i => if f i = n then f n else f i) := by
        refine ⟨fun i hi => ?_, fun i j hi hj e => ?_⟩
        · have hfi := h1 i (by omega)
          have hfn := h1 n (by omega)
          by_cases e : f i = n
          · simp only [e, if_true]
            have : f n ≠ n := fun q => absurd (h2 i n (by omega) (by omega) (by omega)) (by omega)
            omega
          · simp only [e, if_false]; omega
        · by_cases ei : f i = n
          · by_cases ej : f j = n
            · exact h2 i j (by omega) (by omega) (by omega)
            · simp only [ei, ej, if_true, if_false] at e
              exact absurd (h2 n j (by omega) (by omega) e) (by omega)
          · by_cases ej : f j = n
            · simp only [ei, ej, if_true, if_false] at e
              exact absurd (h2 i n (by omega) (by omega) e) (by omega)
            · simp only [ei, ej, if_false] at e
              exact h2 i j (by omega) (by omega) e
      by_cases yn : y = n
      · have hfn := h1 n (by omega)
        obtain ⟨x, hx, e⟩ := pm_surj n _ hg (f n) (by omega)
        by_cases ex : f x = n
        · exact ⟨x, by omega, by omega⟩
        · simp only [ex, if_false] at e
          exact absurd (h2 x n (by omega) (by omega) e) (by omega)
      · obtain ⟨x, hx, e⟩ := pm_surj n _ hg y (by omega)
        by_cases ex : f x = n
        · simp only [ex, if_true] at e
          exact absurd e hv
        · simp only [ex, if_false] at e
          exact ⟨x, by omega, e⟩
/-- where a value was met last below k; 0: nowhere -/
def iv (f : Nat → Nat) : Nat → Nat → Nat
  | 0, _ => 0
  | k + 1, y => if y = f k then k else iv f k y
theorem iv_succ (f : Nat → Nat) (k : Nat) : un (iv f k) (f k) k = iv f (k + 1) := by funext y; rfl
theorem iv_none {f : Nat → Nat} {k y : Nat} (h : ∀ i, i < k → f i ≠ y) : iv f k y = 0 := by
  induction k with
  | zero => rfl
  | succ k ih =>
    unfold iv
    rw [if_neg (fun q => h k (by omega) q.symm)]
    exact ih (fun i hi => h i (by omega))
theorem iv_at {f : Nat → Nat} {k : Nat} (hinj : ∀ i j, i < k → j < k → f i = f j → i = j) {x : Nat} (hx : x < k) : iv f k (f x) = x := by
  induction k with
  | zero => omega
  | succ k ih =>
    unfold iv
    by_cases e : f x = f k
    · rw [if_pos e]; exact (hinj x k hx (by omega) e).symm
    · rw [if_neg e]
      exact ih (fun i j hi hj => hinj i j (by omega) (by omega)) (by
        rcases Nat.lt_or_ge x k with q | q
        · exact q
        · exact absurd (by rw [show x = k by omega]) e)
theorem iv_lt {f : Nat → Nat} {k n : Nat} (hk : k ≤ n) (hn : 0 < n) (y : Nat) : iv f k y < n := by
  induction k with
  | zero => exact hn
  | succ k ih => 
    unfold iv
    split
    · omega
    · exact ih (by omega)
theorem pm_iv {n : Nat} {f : Nat → Nat} (h : pm n f) {y : Nat} (hy : y < n) : f (iv f n y) = y ∧ iv f n y < n := by
  obtain ⟨x, hx, rfl⟩ := pm_surj n f h y hy
  rw [iv_at h.2 hx]
  exact ⟨rfl, hx⟩
theorem pm_inv {n : Nat} {f : Nat → Nat} (h : pm n f) : pm n (iv f n) := ⟨fun y hy => (pm_iv h hy).2, fun a b ha hb e => by rw [← (pm_iv h ha).1, ← (pm_iv h hb).1, e]⟩
theorem pm_comp {n : Nat} {f g : Nat → Nat} (hf : pm n f) (hg : pm n g) : pm n (fun i => g (f i)) := ⟨fun i hi => hg.1 _ (hf.1 i hi), fun i j hi hj e => hf.2 i j hi hj (hg.2 _ _ (hf.1 i hi) (hf.1 j hj) e)⟩
theorem pm_id (n : Nat) : pm n (fun i => i) := ⟨fun _ h => h, fun _ _ _ _ h => h⟩
theorem pm_congr {n : Nat} {f g : Nat → Nat} (h : ∀ i, i < n → f i = g i) (hf : pm n f) : pm n g := ⟨fun i hi => by rw [← h i hi]; exact hf.1 i hi, fun i j hi hj e => hf.2 i j hi hj (by rw [h i hi, h j hj]; exact e)⟩

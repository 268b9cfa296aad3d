/-! orders of sheets in one long: twelve digits, place 0 the uppermost -/
def un (f : Nat → Nat) (k v : Nat) : Nat → Nat := fun i => if i = k then v else f i
def rs (n : Nat) (f : Nat → Nat) : Nat → Nat := fun i => if i < n then f i else 0
def pk (f : Nat → Nat) : Nat := f 0 * 17592186044416 + f 1 * 1099511627776 + f 2 * 68719476736 + f 3 * 4294967296 + f 4 * 268435456 + f 5 * 16777216 + f 6 * 1048576 + f 7 * 65536 + f 8 * 4096 + f 9 * 256 + f 10 * 16 + f 11
theorem un_s (f : Nat → Nat) (k v : Nat) : un f k v k = v := by simp [un]
theorem un_n (f : Nat → Nat) {k i : Nat} (v : Nat) (h : i ≠ k) : un f k v i = f i := by simp [un, h]
theorem rs_in {n i : Nat} (f : Nat → Nat) (h : i < n) : rs n f i = f i := by simp [rs, h]
theorem rs_out {n i : Nat} (f : Nat → Nat) (h : n ≤ i) : rs n f i = 0 := by simp [rs, Nat.not_lt.mpr h]
theorem rs_0 (f : Nat → Nat) : rs 0 f = fun _ => 0 := by funext i; simp [rs]
theorem rs_succ (x : Nat) (f : Nat → Nat) : un (rs x f) x (f x) = rs (x + 1) f := by
  funext i
  by_cases h : i = x
  · subst h; simp [un, rs]
  · by_cases h2 : i < x
    · simp [un, rs, h, h2, show i < x + 1 by omega]
    · simp [un, rs, h, h2, show ¬ i < x + 1 by omega]
theorem rs_lt {n b : Nat} {f : Nat → Nat} (hb : 0 < b) (h : ∀ i, i < n → f i < b) : ∀ i, rs n f i < b := by
  intro i
  by_cases hi : i < n
  · rw [rs_in f hi]; exact h i hi
  · rw [rs_out f (by omega)]; exact hb
theorem rs_congr {n : Nat} {f g : Nat → Nat} (h : ∀ i, i < n → f i = g i) : rs n f = rs n g := by
  funext i
  by_cases hi : i < n
  · rw [rs_in f hi, rs_in g hi, h i hi]
  · rw [rs_out f (by omega), rs_out g (by omega)]
theorem pq_0 : pk (fun _ => 0) = 0 := rfl
theorem pq_lt {f : Nat → Nat} (h : ∀ i, f i < 16) : pk f < 281474976710656 := by
  have h0 := h 0; have h1 := h 1; have h2 := h 2; have h3 := h 3; have h4 := h 4; have h5 := h 5; have h6 := h 6; have h7 := h 7; have h8 := h 8; have h9 := h 9; have h10 := h 10; have h11 := h 11
  unfold pk; omega
set_option maxHeartbeats 4000000 in
theorem pq_d {f : Nat → Nat} (h : ∀ i, f i < 16) : ∀ i, i < 12 → pk f / 2 ^ (44 - 4 * i) % 16 = f i := by
  intro i hi
  have h0 := h 0; have h1 := h 1; have h2 := h 2; have h3 := h 3; have h4 := h 4; have h5 := h 5; have h6 := h 6; have h7 := h 7; have h8 := h 8; have h9 := h 9; have h10 := h 10; have h11 := h 11
  match i, hi with
  | 0, _ => show pk f / 17592186044416 % 16 = f 0; unfold pk; omega
  | 1, _ => show pk f / 1099511627776 % 16 = f 1; unfold pk; omega
  | 2, _ => show pk f / 68719476736 % 16 = f 2; unfold pk; omega
  | 3, _ => show pk f / 4294967296 % 16 = f 3; unfold pk; omega
  | 4, _ => show pk f / 268435456 % 16 = f 4; unfold pk; omega
  | 5, _ => show pk f / 16777216 % 16 = f 5; unfold pk; omega
  | 6, _ => show pk f / 1048576 % 16 = f 6; unfold pk; omega
  | 7, _ => show pk f / 65536 % 16 = f 7; unfold pk; omega
  | 8, _ => show pk f / 4096 % 16 = f 8; unfold pk; omega
  | 9, _ => show pk f / 256 % 16 = f 9; unfold pk; omega
  | 10, _ => show pk f / 16 % 16 = f 10; unfold pk; omega
  | 11, _ => show pk f / 1 % 16 = f 11; unfold pk; omega
theorem pq_add {f : Nat → Nat} {x y : Nat} (hx : x < 12) (h0 : f x = 0) : pk f + y * 2 ^ (44 - 4 * x) = pk (un f x y) := by
  match x, hx with
  | 0, _ => show pk f + y * 17592186044416 = _; unfold pk; simp [un]; omega
  | 1, _ => show pk f + y * 1099511627776 = _; unfold pk; simp [un]; omega
  | 2, _ => show pk f + y * 68719476736 = _; unfold pk; simp [un]; omega
  | 3, _ => show pk f + y * 4294967296 = _; unfold pk; simp [un]; omega
  | 4, _ => show pk f + y * 268435456 = _; unfold pk; simp [un]; omega
  | 5, _ => show pk f + y * 16777216 = _; unfold pk; simp [un]; omega
  | 6, _ => show pk f + y * 1048576 = _; unfold pk; simp [un]; omega
  | 7, _ => show pk f + y * 65536 = _; unfold pk; simp [un]; omega
  | 8, _ => show pk f + y * 4096 = _; unfold pk; simp [un]; omega
  | 9, _ => show pk f + y * 256 = _; unfold pk; simp [un]; omega
  | 10, _ => show pk f + y * 16 = _; unfold pk; simp [un]; omega
  | 11, _ => show pk f + y * 1 = _; unfold pk; simp [un]; omega
theorem pq_inj {f g : Nat → Nat} (hf : ∀ i, f i < 16) (hg : ∀ i, g i < 16) (h : pk f = pk g) : ∀ i, i < 12 → f i = g i := by
  intro i hi
  rw [← pq_d hf i hi, ← pq_d hg i hi, h]
theorem or_hole {a y k : Nat} (hy : y < 16) (ha : a / 2 ^ k % 16 = 0) : a ||| (y * 2 ^ k) = a + y * 2 ^ k := by
  have hp : 0 < 2 ^ k := Nat.two_pow_pos k
  have e4 : 2 ^ (k + 4) = 2 ^ k * 16 := by rw [Nat.pow_add]
  have e1 : a = 2 ^ (k + 4) * (a / 2 ^ k / 16) + a % 2 ^ k := by
    have q1 := Nat.div_add_mod a (2 ^ k)
    have q2 := Nat.div_add_mod (a / 2 ^ k) 16
    rw [ha] at q2
    rw [e4, Nat.mul_assoc]
    have q3 : 16 * (a / 2 ^ k / 16) = a / 2 ^ k := by omega
    rw [q3]
    exact q1.symm
  generalize hA : a / 2 ^ k / 16 = A at e1
  generalize hr : a % 2 ^ k = r at e1
  have hrk : r < 2 ^ k := by rw [← hr]; exact Nat.mod_lt _ hp
  have o1 : 2 ^ (k + 4) * A + r = 2 ^ (k + 4) * A ||| r := Nat.two_pow_add_eq_or_of_lt (Nat.lt_of_lt_of_le hrk (by rw [e4]; omega)) A
  have o2 : 2 ^ k * y + r = 2 ^ k * y ||| r := Nat.two_pow_add_eq_or_of_lt hrk y
  have hlt : 2 ^ k * y + r < 2 ^ (k + 4) := by
    rw [e4]
    have : 2 ^ k * y ≤ 2 ^ k * 15 := Nat.mul_le_mul_left _ (by omega)
    omega
  have o3 : 2 ^ (k + 4) * A + (2 ^ k * y + r) = 2 ^ (k + 4) * A ||| (2 ^ k * y + r) := Nat.two_pow_add_eq_or_of_lt hlt A
  rw [e1]
  calc (2 ^ (k + 4) * A + r) ||| (y * 2 ^ k) = (2 ^ (k + 4) * A ||| r) ||| (2 ^ k * y) := by rw [o1, Nat.mul_comm y]
    _ = 2 ^ (k + 4) * A ||| (2 ^ k * y ||| r) := by rw [Nat.or_assoc, Nat.or_comm r]
    _ = 2 ^ (k + 4) * A + (2 ^ k * y + r) := by rw [← o2, ← o3]
    _ = 2 ^ (k + 4) * A + r + y * 2 ^ k := by rw [Nat.mul_comm y]; omega
theorem pq_or {f : Nat → Nat} {x y : Nat} (hf : ∀ i, f i < 16) (hx : x < 12) (hy : y < 16) (h0 : f x = 0) : pk f ||| (y * 2 ^ (44 - 4 * x)) = pk (un f x y) := by
  rw [or_hole hy (by rw [pq_d hf x hx, h0]), pq_add hx h0]
/-- an order of n sheets as the class keeps it -/
def PK (n : Nat) (f : Nat → Nat) : Int64 := lN (pk (rs n f))
theorem PK_congr {n : Nat} {f g : Nat → Nat} (h : ∀ i, i < n → f i = g i) : PK n f = PK n g := by unfold PK; rw [rs_congr h]
theorem lN_inj {a b : Nat} (ha : a < 281474976710656) (hb : b < 281474976710656) (h : lN a = lN b) : a = b := (pk_lEQ (by omega) (by omega)).mp h
theorem PK_inj {n : Nat} {f g : Nat → Nat} (hn : n ≤ 12) (hf : ∀ i, i < n → f i < 16) (hg : ∀ i, i < n → g i < 16) (h : PK n f = PK n g) : ∀ i, i < n → f i = g i := by
  intro i hi
  have h1 := lN_inj (pq_lt (rs_lt (by decide) hf)) (pq_lt (rs_lt (by decide) hg)) h
  have h2 := pq_inj (rs_lt (by decide) hf) (rs_lt (by decide) hg) h1 i (by omega)
  rwa [rs_in f hi, rs_in g hi] at h2
theorem PK_eq {n : Nat} {f g : Nat → Nat} (hn : n ≤ 12) (hf : ∀ i, i < n → f i < 16) (hg : ∀ i, i < n → g i < 16) : PK n f = PK n g ↔ ∀ i, i < n → f i = g i := ⟨PK_inj hn hf hg, PK_congr⟩
theorem at_val {f : Nat → Nat} (hf : ∀ i, f i < 16) {i : Nat} (hi : i < 12) : (((((lN (pk f)).toUInt64 >>> ((44 - (4 * nI i)).toInt64.toUInt64 &&& Int64.toUInt64 63)).toInt64).toInt32) &&& 15) = nI (f i) := by
  have e1 : (44 : Int32) - 4 * nI i = nI (44 - 4 * i) := by
    rw [show (4 : Int32) = nI 4 from rfl, pk_mul, show (44 : Int32) = nI 44 from rfl, pk_sub (by omega)]
  have hl := pq_lt hf
  rw [e1, wb_shr (by omega) (by omega), lN_i, show (15 : Int32) = nI 15 from rfl, nx_and, Nat.and_two_pow_sub_one_eq_mod _ 4]
  exact congrArg nI (pq_d hf i hi)
theorem with_val {f : Nat → Nat} (hf : ∀ i, f i < 16) {x y : Nat} (hx : x < 12) (hy : y < 16) (h0 : f x = 0) : (lN (pk f) ||| ((nI y).toInt64 <<< ((44 - (4 * nI x)).toInt64 &&& 63))) = lN (pk (un f x y)) := by
  have e1 : (44 : Int32) - 4 * nI x = nI (44 - 4 * x) := by
    rw [show (4 : Int32) = nI 4 from rfl, pk_mul, show (44 : Int32) = nI 44 from rfl, pk_sub (by omega)]
  have hl := pq_lt hf
  have hb : y * 2 ^ (44 - 4 * x) < 2 ^ 64 := by
    have h1 : 2 ^ (44 - 4 * x) ≤ 2 ^ 44 := Nat.pow_le_pow_right (by decide) (by omega)
    have h2 : y * 2 ^ (44 - 4 * x) ≤ 15 * 2 ^ 44 := Nat.mul_le_mul (by omega) h1
    omega
  rw [e1, nI_l (by omega), wb_shl _ (by omega), wb_or (by omega) hb, pq_or hf hx hy h0]

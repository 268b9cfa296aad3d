/-! the reference: joins -/
def rmv (out other : Nat) : List Nat → Bool → Bool → List Nat
  | [], _, _ => []
  | l :: L, h1, h2 => if l = out ∧ ¬ h1 = true then rmv out other L true h2 else if l = other ∧ ¬ h2 = true then rmv out other L h1 true else l :: rmv out other L h1 h2
def bp1 (a : Nat) : List Nat → List Nat
  | [] => [a]
  | b :: r => if a < b then b :: bp1 a r else a :: bp1 b r
def bps : List Nat → List Nat
  | [] => []
  | a :: r => bp1 a r
def bpn : Nat → List Nat → List Nat
  | 0, M => M
  | c + 1, M => bpn c (bps M)
def m1L (L : List Nat) (out other one two : Nat) : List Nat := rmv out other L false (Nat.beq other 0) ++ (one :: (if two = 0 then [] else [two]))
def m2L (L : List Nat) (out other one two : Nat) : List Nat := bpn (m1L L out other one two).length (m1L L out other one two)
theorem bp1_len (a : Nat) : ∀ L, (bp1 a L).length = L.length + 1
  | [] => rfl
  | b :: r => by
    unfold bp1
    split
    · rw [List.length_cons, bp1_len a r, List.length_cons]
    · rw [List.length_cons, bp1_len b r, List.length_cons]
theorem bps_len : ∀ L, (bps L).length = L.length
  | [] => rfl
  | a :: r => bp1_len a r
def ccix (n t l d : Nat) : Nat := ixl (eA n t - 16 ^ (l - 1) + 16 ^ (l - d - 1) + 16 ^ (d - 1)) (eT n)
def jjix (n t l o : Nat) : Nat := ixl (eA n t - 16 ^ (l - 1) - 16 ^ (o - 1) + 16 ^ (l + o - 1)) (eT n)
def chkT (n t l o one two ix : Nat) : Bool := Nat.blt ix (pT n).length && Nat.ble (m1L (pA n t) l o one two).length 10 && (m1L (pA n t) l o one two).all (fun v => Nat.ble v 20) && (m2L (pA n t) l o one two == pA n ix)
def ctc (n t : Nat) : Bool := (List.range 10).all fun a => (List.range 6).all fun d => Nat.beq d 0 || Nat.blt (lA n t a) (2 * d) || chkT n t (lA n t a) 0 (lA n t a - d) d (ccix n t (lA n t a) d)
def ctj (n t : Nat) : Bool := (List.range 10).all fun a => Nat.beq (lA n t a) 0 || (List.range 10).all fun b => Nat.ble b a || Nat.beq (lA n t b) 0 || chkT n t (lA n t a) (lA n t b) (lA n t a + lA n t b) 0 (jjix n t (lA n t a) (lA n t b))
theorem tb_ctc : ∀ n, n < 11 → ∀ t, t < (pT n).length → ctc n t = true := by decide +kernel
theorem tb_ctj : ∀ n, n < 11 → ∀ t, t < (pT n).length → ctj n t = true := by decide +kernel
theorem tb_cut {n t a d : Nat} (hn : n < 11) (ht : t < (pT n).length) (ha : a < 10) (hd : 1 ≤ d) (hl : 2 * d ≤ lA n t a) : chkT n t (lA n t a) 0 (lA n t a - d) d (ccix n t (lA n t a) d) = true := by
  have h10 := tb_lb n hn t ht a ha
  have h1 := List.all_eq_true.mp (tb_ctc n hn t ht) a (List.mem_range.mpr ha)
  have h2 := List.all_eq_true.mp h1 d (List.mem_range.mpr (by omega))
  rw [Bool.or_eq_true, Bool.or_eq_true] at h2
  rcases h2 with (h2 | h2) | h2
  · have := Nat.eq_of_beq_eq_true h2; omega
  · have := Nat.blt_eq.mp h2; omega
  · exact h2
theorem tb_joi {n t a b : Nat} (hn : n < 11) (ht : t < (pT n).length) (ha : a < 10) (hb : b < 10) (hab : a < b) (la : ¬ lA n t a = 0) (lb : ¬ lA n t b = 0) : chkT n t (lA n t a) (lA n t b) (lA n t a + lA n t b) 0 (jjix n t (lA n t a) (lA n t b)) = true := by
  have h1 := List.all_eq_true.mp (tb_ctj n hn t ht) a (List.mem_range.mpr ha)
  rw [Bool.or_eq_true] at h1
  rcases h1 with h1 | h1
  · exact absurd (Nat.eq_of_beq_eq_true h1) la
  · have h2 := List.all_eq_true.mp h1 b (List.mem_range.mpr hb)
    rw [Bool.or_eq_true, Bool.or_eq_true] at h2
    rcases h2 with (h2 | h2) | h2
    · have := Nat.le_of_ble_eq_true h2; omega
    · exact absurd (Nat.eq_of_beq_eq_true h2) lb
    · exact h2
theorem chk_of {n t l o one two ix : Nat} (h : chkT n t l o one two ix = true) : ix < (pT n).length ∧ (m1L (pA n t) l o one two).length ≤ 10 ∧ (∀ v, v ∈ m1L (pA n t) l o one two → v ≤ 20) ∧ m2L (pA n t) l o one two = pA n ix := by
  unfold chkT at h
  rw [Bool.and_eq_true, Bool.and_eq_true, Bool.and_eq_true] at h
  obtain ⟨⟨⟨h1, h2⟩, h3⟩, h4⟩ := h
  exact ⟨Nat.blt_eq.mp h1, Nat.le_of_ble_eq_true h2, fun v hv => Nat.le_of_ble_eq_true (List.all_eq_true.mp h3 v hv), eq_of_beq h4⟩
theorem tb_unq : ∀ n, n < 11 → ∀ t, t < (pT n).length → ∀ t', t' < (pT n).length → (∀ k, k < 10 → lA n t k = lA n t' k) → t = t' := by decide +kernel
def rcu (n t l : Nat) (W : List Nat) : Nat → Nat
  | 0 => 0
  | d + 1 => rcu n t l W d + (if 2 * (d + 1) = l then d + 1 else l) * W.getD (ccix n t l (d + 1)) 0
def rjo (n t a : Nat) (W : List Nat) : Nat → Nat
  | 0 => 0
  | b + 1 => rjo n t a W b + (if a < b ∧ ¬ lA n t a = 0 ∧ ¬ lA n t b = 0 then lA n t a * lA n t b * W.getD (jjix n t (lA n t a) (lA n t b)) 0 else 0)
def rto (n t : Nat) (W : List Nat) : Nat → Nat
  | 0 => 0
  | a + 1 => rto n t W a + rcu n t (lA n t a) W (lA n t a / 2) + rjo n t a W 10
theorem tb_rto : ∀ n, n < 11 → ∀ m, m < 9 → ∀ t, t < (pT n).length → rto n t ((wT n).getD m []) 10 = wA n (m + 1) t := by decide +kernel

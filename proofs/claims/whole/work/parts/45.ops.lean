/-! reading and writing cells at known places; frames -/
section Ops
variable {h h1 h2 : mH} {a n j k : Nat}
theorem ix_in (hj : j < n) (hn : n < 2147483648) : ¬ (nI j < 0 ∨ n ≤ (nI j).toNatClampNeg) := nI_in hj hn
theorem il_at {f : Nat → Int32} (ha : h.1 a = .inl (0, n, .inl f)) (hj : j < n) (hn : n < 2147483648) : m_il h a (nI j) = some (f j) := by
  unfold m_il; rw [ha]
  show (if _ then _ else _) = _
  rw [if_neg (ix_in hj hn), nI_clamp (by omega)]
theorem zl_at {f : Nat → Int32} (ha : h.1 a = .inl (2, n, .inl f)) (hj : j < n) (hn : n < 2147483648) : m_zl h a (nI j) = some (f j) := by
  unfold m_zl; rw [ha]
  show (if _ then _ else _) = _
  rw [if_neg (ix_in hj hn), nI_clamp (by omega)]
theorem ll_at {f : Nat → Int64} (ha : h.1 a = .inl (1, n, .inr (.inl f))) (hj : j < n) (hn : n < 2147483648) : m_ll h a (nI j) = some (f j) := by
  unfold m_ll; rw [ha]
  show (if _ then _ else _) = _
  rw [if_neg (ix_in hj hn), nI_clamp (by omega)]
theorem is_at {f : Nat → Int32} {x : Int32} (ha : h.1 a = .inl (0, n, .inl f)) (hj : j < n) (hn : n < 2147483648) : m_is h a (nI j) x = some (m_up h.1 a (.inl (0, n, .inl (upd f j x))), h.2) := by
  unfold m_is; rw [ha]
  show (if _ then _ else _) = _
  rw [if_neg (ix_in hj hn), nI_clamp (by omega)]
theorem zs_at {f : Nat → Int32} {x : Int32} (ha : h.1 a = .inl (2, n, .inl f)) (hj : j < n) (hn : n < 2147483648) : m_zs h a (nI j) x = some (m_up h.1 a (.inl (2, n, .inl (upd f j (vp_nar .boolean x)))), h.2) := by
  unfold m_zs; rw [ha]
  show (if _ then _ else _) = _
  rw [if_neg (ix_in hj hn), nI_clamp (by omega)]
theorem ls_at {f : Nat → Int64} {x : Int64} (ha : h.1 a = .inl (1, n, .inr (.inl f))) (hj : j < n) (hn : n < 2147483648) : m_ls h a (nI j) x = some (m_up h.1 a (.inl (1, n, .inr (.inl (vp_updL f j x)))), h.2) := by
  unfold m_ls; rw [ha]
  show (if _ then _ else _) = _
  rw [if_neg (ix_in hj hn), nI_clamp (by omega)]
theorem rl_at {t : Nat} {f : Nat → Option Nat} (ha : h.1 a = .inl (t, n, .inr (.inr (.inr (.inr f))))) (ht : t = 3 ∨ t = 4) (hj : j < n) (hn : n < 2147483648) : m_rl h a (nI j) = some (va_rf (f j)) := by
  unfold m_rl; rw [ha]
  show (if _ then _ else _) = _
  rw [if_pos ⟨ht, ix_in hj hn⟩, nI_clamp (by omega)]
theorem len_I {f : Nat → Int32} (ha : h.1 a = .inl (0, n, .inl f)) : m_len h a = some n := by unfold m_len; rw [ha]; rfl
theorem len_L {f : Nat → Int64} (ha : h.1 a = .inl (1, n, .inr (.inl f))) : m_len h a = some n := by unfold m_len; rw [ha]; rfl
theorem fld_at {ci : Nat} {fs : List Value} {cis : List Nat} {v : Value} (ha : h.1 a = .inr (ci, fs)) (hc : ci ∈ cis) (hv : fs[k]? = some v) : m_fld h a cis k = some v := by
  unfold m_fld; rw [ha]
  show (if _ then _ else _) = _
  rw [if_pos (List.contains_iff_mem.mpr hc), hv]
theorem put_at {ci : Nat} {fs : List Value} {v : Value} (ha : h.1 a = .inr (ci, fs)) (hk : k < fs.length) : m_put h a ci k v = some (m_up h.1 a (.inr (ci, fs.set k v)), h.2) := by
  unfold m_put; rw [ha]
  show (if _ then _ else _) = _
  rw [if_pos ⟨rfl, hk⟩]
theorem rs_N {f : Nat → Option Nat} (ha : h.1 a = .inl (4, n, .inr (.inr (.inr (.inr f))))) (hj : j < n) (hn : n < 2147483648) : m_rs h a (nI j) .null = some (m_up h.1 a (.inl (4, n, .inr (.inr (.inr (.inr (va_up f j none)))))), h.2) := by
  unfold m_rs; rw [ha]
  show (if _ then _ else _) = _
  rw [if_neg (ix_in hj hn), nI_clamp (by omega)]
theorem rs_C {f : Nat → Option Nat} {q ci : Nat} {fs : List Value} (ha : h.1 a = .inl (4, n, .inr (.inr (.inr (.inr f))))) (hq : h.1 q = .inr (ci, fs)) (hc : ci ∈ [0, 1, 4, 8, 9]) (hj : j < n) (hn : n < 2147483648) : m_rs h a (nI j) (.ref q) = some (m_up h.1 a (.inl (4, n, .inr (.inr (.inr (.inr (va_up f j (some q))))))), h.2) := by
  unfold m_rs; rw [ha]
  show (match h.1 q with | .inr (ci, _) => _ | _ => _) = _
  rw [hq]
  show (if _ then _ else (if _ then _ else _)) = _
  rw [if_neg (ix_in hj hn), if_pos (List.contains_iff_mem.mpr hc), nI_clamp (by omega)]
theorem rs_R {f : Nat → Option Nat} {q : Nat} {fs : List Value} (ha : h.1 a = .inl (3, n, .inr (.inr (.inr (.inr f))))) (hq : h.1 q = .inr (6, fs)) (hj : j < n) (hn : n < 2147483648) : m_rs h a (nI j) (.ref q) = some (m_up h.1 a (.inl (3, n, .inr (.inr (.inr (.inr (va_up f j (some q))))))), h.2) := by
  unfold m_rs; rw [ha]
  show (match h.1 q with | .inr (6, _) => _ | _ => _) = _
  rw [hq]
  show (if _ then _ else _) = _
  rw [if_neg (ix_in hj hn), nI_clamp (by omega)]
/-- outside S nothing has changed, and nothing was made -/
def Fr (S : List Nat) (h h' : mH) : Prop := h'.2 = h.2 ∧ ∀ a, a ∉ S → h'.1 a = h.1 a
theorem Fr.rf {S : List Nat} : Fr S h h := ⟨rfl, fun _ _ => rfl⟩
theorem Fr.up {S : List Nat} {c : mC} (hS : a ∈ S) : Fr S h (m_up h.1 a c, h.2) := ⟨rfl, fun x hx => m_up_n _ _ (fun e => hx (e ▸ hS))⟩
theorem Fr.tr {S : List Nat} (f : Fr S h h1) (g : Fr S h1 h2) : Fr S h h2 := ⟨g.1.trans f.1, fun a ha => (g.2 a ha).trans (f.2 a ha)⟩
theorem Fr.wk {S T : List Nat} (f : Fr S h h1) (hST : ∀ a, a ∈ S → a ∈ T) : Fr T h h1 := ⟨f.1, fun a ha => f.2 a (fun q => ha (hST a q))⟩
theorem Fr.at {S : List Nat} {c : mC} (f : Fr S h h1) (ha : h.1 a = c) (hS : a ∉ S) : h1.1 a = c := (f.2 a hS).trans ha
theorem Fr.z {S : List Nat} (f : Fr S h h1) (hS : 0 ∉ S) : h1.1 0 = h.1 0 := f.2 0 hS
theorem up_s {c : mC} : (m_up h.1 a c, h.2).1 a = c := m_up_s _ _ _
theorem up_n {c : mC} {x : Nat} (hx : x ≠ a) : (m_up h.1 a c, h.2).1 x = h.1 x := m_up_n _ _ hx
/-- the turns of a cover, in an array of longs -/
def TA (h : mH) (a n k : Nat) (t : Nat → Nat → Nat) : Prop := ∃ f : Nat → Int64, h.1 a = .inl (1, k, .inr (.inl f)) ∧ ∀ j, j < k → f j = PK n (t j)
theorem TA.fr {S : List Nat} {t : Nat → Nat → Nat} (hT : TA h a n k t) (f : Fr S h h1) (hS : a ∉ S) : TA h1 a n k t := by
  obtain ⟨g, h1, h2⟩ := hT
  exact ⟨g, f.at h1 hS, h2⟩
theorem TA.congr {t u : Nat → Nat → Nat} (hT : TA h a n k t) (hu : ∀ j, j < k → ∀ x, x < n → t j x = u j x) : TA h a n k u := by
  obtain ⟨g, h1, h2⟩ := hT
  exact ⟨g, h1, fun j hj => (h2 j hj).trans (PK_congr (hu j hj))⟩
theorem TA.at {t : Nat → Nat → Nat} (hT : TA h a n k t) (hj : j < k) (hk : k < 2147483648) : m_ll h a (nI j) = some (PK n (t j)) := by
  obtain ⟨g, h1, h2⟩ := hT
  rw [ll_at h1 hj hk, h2 j hj]
theorem TA.len {t : Nat → Nat → Nat} (hT : TA h a n k t) : m_len h a = some k := by
  obtain ⟨g, h1, h2⟩ := hT
  exact len_L h1
/-- one turn is replaced -/
def ut (t : Nat → Nat → Nat) (j : Nat) (f : Nat → Nat) : Nat → Nat → Nat := fun i => if i = j then f else t i
theorem TA.put {t : Nat → Nat → Nat} {f : Nat → Nat} (hT : TA h a n k t) (hj : j < k) (hk : k < 2147483648) : ∃ h', m_ls h a (nI j) (PK n f) = some h' ∧ Fr [a] h h' ∧ TA h' a n k (ut t j f) := by
  obtain ⟨g, h1, h2⟩ := hT
  refine ⟨_, ls_at h1 hj hk, Fr.up (List.mem_singleton.mpr rfl), _, up_s, fun i hi => ?_⟩
  by_cases e : i = j
  · subst e; simp [vp_updL, ut]
  · simp [vp_updL, ut, e, h2 i hi]
end Ops
section LeadEv
variable {d n k : Nat} {h : mH} {K : Option Value → mH → Prop}
/-- TURNS j, j + 1 led past, forward and back -/
def lfw (n : Nat) (t : Nat → Nat → Nat) (j : Nat) : Nat → Nat → Nat := ut (ut t j (t (j + 1))) (j + 1) (fun x => t (j + 1) (t j (iv (t (j + 1)) n x)))
def lbk (n : Nat) (t : Nat → Nat → Nat) (j : Nat) : Nat → Nat → Nat := ut (ut t (j + 1) (t j)) j (fun x => iv (t j) n (t (j + 1) (t j x)))
theorem nI_m1 {k : Nat} (hk : 0 < k) : nI k - 1 = nI (k - 1) := by
  rw [show (1 : Int32) = nI 1 from rfl, pk_sub hk]
theorem leadForward_ev {a j : Nat} {t : Nat → Nat → Nat} (ha : a ≠ 0) (hn : n ≤ 12) (hT : TA h a n k t) (hk : k < 2147483648) (hj : j + 1 < k) (hp : ∀ j, j < k → pm n (t j)) (hK : ∀ h', Fr [a] h h' → TA h' a n k (lfw n t j) → K none h') : Ev (d + 2) (0, 0) MX5_leadForward [.ref a, .int (nI j), .int (nI n)] h K := by
  refine en_X5_leadForward (bk_X5_leadForward_0 _ _ _ ⟨fun c => absurd c (nI_pos (by omega)), fun _ => ⟨k, hT.len, ?_⟩⟩)
  rw [nI_m1 (by omega), nI_1]
  refine ⟨fun _ => ⟨_, hT.at (by omega) hk, _, hT.at hj hk, ?_⟩, fun c => absurd (lt_t (by omega) (by omega)) c⟩
  obtain ⟨h4, e4, f4, T4⟩ := hT.put (f := t (j + 1)) (j := j) (by omega) hk
  refine ⟨h4, e4, ?_⟩
  have p1 := hp (j + 1) hj
  have p0 := hp j (by omega)
  refine inverse_ev hn p1 ⟨_, rfl, ?_⟩
  refine behind_ev hn (pm_inv p1).1 (fun i hi => by have := p0.1 i hi; omega) ⟨_, rfl, ?_⟩
  refine behind_ev hn (pm_comp (pm_inv p1) p0).1 (fun i hi => by have := p1.1 i hi; omega) ⟨_, rfl, ?_⟩
  obtain ⟨h14, e14, f14, T14⟩ := T4.put (f := fun x => t (j + 1) (t j (iv (t (j + 1)) n x))) (j := j + 1) hj hk
  have F := f4.tr f14
  exact ⟨h14, e14, F.z (by simp; omega), hK h14 F T14⟩
theorem leadBack_ev {a j : Nat} {t : Nat → Nat → Nat} (ha : a ≠ 0) (hn : n ≤ 12) (hT : TA h a n k t) (hk : k < 2147483648) (hj : j + 1 < k) (hp : ∀ j, j < k → pm n (t j)) (hK : ∀ h', Fr [a] h h' → TA h' a n k (lbk n t j) → K none h') : Ev (d + 2) (0, 0) MX5_leadBack [.ref a, .int (nI j), .int (nI n)] h K := by
  refine en_X5_leadBack (bk_X5_leadBack_0 _ _ _ ⟨fun c => absurd c (nI_pos (by omega)), fun _ => ⟨k, hT.len, ?_⟩⟩)
  rw [nI_m1 (by omega), nI_1]
  refine ⟨fun _ => ⟨_, hT.at (by omega) hk, _, hT.at hj hk, ?_⟩, fun c => absurd (lt_t (by omega) (by omega)) c⟩
  obtain ⟨h4, e4, f4, T4⟩ := hT.put (f := t j) (j := j + 1) hj hk
  refine ⟨h4, e4, ?_⟩
  have p1 := hp (j + 1) hj
  have p0 := hp j (by omega)
  refine behind_ev hn p0.1 (fun i hi => by have := p1.1 i hi; omega) ⟨_, rfl, ?_⟩
  refine inverse_ev hn p0 ⟨_, rfl, ?_⟩
  refine behind_ev hn (pm_comp p0 p1).1 (fun i hi => by have := (pm_inv p0).1 i hi; omega) ⟨_, rfl, ?_⟩
  obtain ⟨h14, e14, f14, T14⟩ := T4.put (f := fun x => iv (t j) n (t (j + 1) (t j x))) (j := j) (by omega) hk
  have F := f4.tr f14
  exact ⟨h14, e14, F.z (by simp; omega), hK h14 F T14⟩
/-- labels merged along two orders: x by x, what they lead x to becomes one group -/
def ma (p q f : Nat → Nat) : Nat → (Nat → Nat)
  | 0 => f
  | x + 1 => mg (ma p q f x) (ma p q f x (p x)) (ma p q f x (q x))
/-- labels of the parts, as the class merges them -/
def ltx (t : Nat → Nat) (f : Nat → Nat) : Nat → (Nat → Nat)
  | 0 => f
  | x + 1 => mg (ltx t f x) (ltx t f x x) (ltx t f x (t x))
def ltj (n : Nat) (t : Nat → Nat → Nat) : Nat → (Nat → Nat)
  | 0 => fun i => i
  | j + 1 => ltx (t j) (ltj n t j) n
theorem ltx_ma (t f : Nat → Nat) : ∀ x, ltx t f x = ma (fun i => i) t f x
  | 0 => rfl
  | x + 1 => by
    show mg (ltx t f x) (ltx t f x x) (ltx t f x (t x)) = mg (ma (fun i => i) t f x) (ma (fun i => i) t f x x) (ma (fun i => i) t f x (t x))
    rw [ltx_ma t f x]
theorem mg_lt {f : Nat → Nat} {a b : Nat} (hf : ∀ i, i < n → f i < n) (ha : a < n) (hb : b < n) : ∀ i, i < n → mg f a b i < n := by
  intro i hi
  have := hf i hi
  simp only [mg]
  split <;> omega
theorem ma_lt {p q f : Nat → Nat} (hp : ∀ i, i < n → p i < n) (hq : ∀ i, i < n → q i < n) (hf : ∀ i, i < n → f i < n) : ∀ x, x ≤ n → ∀ i, i < n → ma p q f x i < n
  | 0, _ => hf
  | x + 1, hx => mg_lt (ma_lt hp hq hf x (by omega)) (ma_lt hp hq hf x (by omega) _ (hp x (by omega))) (ma_lt hp hq hf x (by omega) _ (hq x (by omega)))
theorem ltx_lt {t f : Nat → Nat} (ht : ∀ i, i < n → t i < n) (hf : ∀ i, i < n → f i < n) : ∀ x, x ≤ n → ∀ i, i < n → ltx t f x i < n
  | 0, _ => hf
  | x + 1, hx => mg_lt (ltx_lt ht hf x (by omega)) (ltx_lt ht hf x (by omega) x (by omega)) (ltx_lt ht hf x (by omega) _ (ht x (by omega)))
theorem ltj_lt {t : Nat → Nat → Nat} (ht : ∀ j, j < k → ∀ i, i < n → t j i < n) : ∀ j, j ≤ k → ∀ i, i < n → ltj n t j i < n
  | 0, _ => fun _ h => h
  | j + 1, hj => ltx_lt (ht j (by omega)) (ltj_lt ht j (by omega)) n (Nat.le_refl _)
theorem mergedAlong_ev {p q f : Nat → Nat} (hn : n ≤ 12) (hp : ∀ i, i < n → p i < n) (hq : ∀ i, i < n → q i < n) (hf : ∀ i, i < n → f i < n) (hK : K (some (.long (PK n (ma p q f n)))) h) : Ev (d + 2) (0, 0) MX5_mergedAlong [.long (PK n f), .long (PK n p), .long (PK n q), .int (nI n)] h K := by
  refine en_X5_mergedAlong (bk_X5_mergedAlong_0 _ _ _ _ ?_)
  refine dn (n := n) (fun x => Wm (d + 2) (0, 0) JX5_mergedAlong 6 [none, none, some (.long (PK n p)), none, some (.long (PK n q)), none, some (.int (nI n)), some (.long (PK n (ma p q f x))), none, some (.int (nI x))] [] h (fun r h' => h'.1 0 = h.1 0 ∧ K r h')) ?_ ?_ 0 (Nat.zero_le _)
  · exact bk_X5_mergedAlong_6 _ _ _ _ _ ⟨fun _ => ⟨rfl, hK⟩, fun c => absurd (le_t (Nat.le_refl _) (by omega)) c⟩
  · intro x hx ih
    have hl := ma_lt hp hq hf x (by omega)
    have hl16 : ∀ i, i < n → ma p q f x i < 16 := fun i hi => by have := hl i hi; omega
    refine bk_X5_mergedAlong_6 _ _ _ _ _ ⟨fun c => absurd c (le_f hx (by omega)), fun _ => ?_⟩
    refine at_ev hn hx (fun i hi => by have := hp i hi; omega) ⟨_, rfl, ?_⟩
    refine at_ev hn (hp x hx) hl16 ⟨_, rfl, ?_⟩
    refine at_ev hn hx (fun i hi => by have := hq i hi; omega) ⟨_, rfl, ?_⟩
    refine at_ev hn (hq x hx) hl16 ⟨_, rfl, ?_⟩
    refine merged_ev hn hl (hl _ (hp x hx)) (hl _ (hq x hx)) ⟨_, rfl, ?_⟩
    rw [nI_1]
    exact ih
theorem withFirst_ev {f : Nat → Nat} (hn : n ≤ 12) (hf : ∀ i, i < n → f i < 16) (hK : K (some (.int (nI (cn (fun z => f z == 0) n)))) h) : Ev (d + 1) (0, 0) MX5_withFirst [.long (PK n f), .int (nI n)] h K := by
  refine en_X5_withFirst (bk_X5_withFirst_0 _ _ ?_)
  refine dn (n := n) (fun x => Wm (d + 1) (0, 0) JX5_withFirst 5 [some (.long (PK n f)), none, some (.int (nI n)), some (.int (nI (cn (fun z => f z == 0) x))), some (.int (nI x))] [] h (fun r h' => h'.1 0 = h.1 0 ∧ K r h')) ?_ ?_ 0 (Nat.zero_le _)
  · exact bk_X5_withFirst_5 _ _ _ _ ⟨fun _ => ⟨rfl, hK⟩, fun c => absurd (le_t (Nat.le_refl _) (by omega)) c⟩
  · intro x hx ih
    refine bk_X5_withFirst_5 _ _ _ _ ⟨fun c => absurd c (le_f hx (by omega)), fun _ => ?_⟩
    refine at_ev hn hx hf ⟨_, rfl, ?_⟩
    have hfx := hf x hx
    refine ⟨fun c => ?_, fun c => ?_⟩
    · have e : ¬ f x = 0 := fun q => c (by rw [q]; rfl)
      simp only [cn_succ, beq_iff_eq, e, if_false, Nat.add_zero] at ih
      rw [nI_1]
      exact ih
    · have e : f x = 0 := nI_inj (b := 0) (by omega) (by decide) c
      simp only [cn_succ, beq_iff_eq, e, if_true] at ih
      rw [nI_1, nI_1]
      exact ih
theorem ledTogether_ev {a : Nat} {t : Nat → Nat → Nat} (hn : n ≤ 12) (hT : TA h a n k t) (hk : k < 2147483648) (ht : ∀ j, j < k → ∀ i, i < n → t j i < n) (hK : K (some (.long (PK n (ltj n t k)))) h) : Ev (d + 3) (0, 0) MX5_ledTogether [.ref a, .int (nI n)] h K := by
  refine en_X5_ledTogether (bk_X5_ledTogether_0 _ _ ?_)
  refine still_ev hn ⟨_, rfl, ?_⟩
  refine dn (n := k) (fun j => Wm (d + 3) (0, 0) JX5_ledTogether 8 [some (.ref a), some (.int (nI n)), some (.long (PK n (ltj n t j))), none, some (.int (nI j))] [] h (fun r h' => h'.1 0 = h.1 0 ∧ K r h')) ?_ ?_ 0 (Nat.zero_le _)
  · exact bk_X5_ledTogether_8 _ _ _ _ ⟨k, hT.len, fun _ => ⟨rfl, hK⟩, fun c => absurd (le_t (Nat.le_refl _) (by omega)) c⟩
  · intro j hj ih
    refine bk_X5_ledTogether_8 _ _ _ _ ⟨k, hT.len, fun c => absurd c (le_f hj (by omega)), fun _ => ?_⟩
    have hl := ltj_lt ht j (by omega)
    refine still_ev hn ⟨_, rfl, _, hT.at hj hk, ?_⟩
    refine mergedAlong_ev hn (fun _ h => h) (ht j hj) hl ⟨_, rfl, ?_⟩
    rw [nI_1, ← ltx_ma]
    exact ih
end LeadEv

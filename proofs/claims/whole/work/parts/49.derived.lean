/-! covers that are made of others -/
/-- a new row of longs -/
def nA (h : mH) (k : Nat) (F : Nat → Int64) : mH := (m_up h.1 h.2 (.inl (1, k, .inr (.inl F))), h.2 + 1)
/-- a new cover: its turns, then itself -/
def NC (h h' : mH) (n k : Nat) (t : Nat → Nat → Nat) : Prop := h'.2 = h.2 + 2 ∧ (∀ a, a < h.2 → h'.1 a = h.1 a) ∧ TA h' h.2 n k t ∧ h'.1 (h.2 + 1) = .inr (kcl n k t, [.int (nI n), .ref h.2, .int (nI (pn n k t))])
section DerEv
variable {d n k a ta ci pr : Nat} {t : Nat → Nat → Nat} {h : mH} {K : Option Value → mH → Prop} {b : Nat × Nat}
theorem nA_s {F : Nat → Int64} : (nA h k F).1 h.2 = .inl (1, k, .inr (.inl F)) := m_up_s _ _ _
theorem nA_n {F : Nat → Int64} {x : Nat} (hx : x ≠ h.2) : (nA h k F).1 x = h.1 x := m_up_n _ _ hx
theorem nA_ls {F : Nat → Int64} {j : Nat} {x : Int64} (hj : j < k) (hk : k < 2147483648) : m_ls (nA h k F) h.2 (nI j) x = some (nA h k (vp_updL F j x)) := by
  rw [ls_at nA_s hj hk]
  show some (m_up (m_up h.1 h.2 _) h.2 _, h.2 + 1) = _
  rw [up_up]
  rfl
theorem TA.nA {F : Nat → Int64} {k' : Nat} (hT : TA h a n k t) (ha : a ≠ h.2) : TA (nA h k' F) a n k t := by
  obtain ⟨g, h1, h2⟩ := hT
  exact ⟨g, (nA_n ha).trans h1, h2⟩
theorem CO.nA {F : Nat → Int64} {k' : Nat} (c : CO h a ta ci n k t pr) (ha : a ≠ h.2) (hta : ta ≠ h.2) : CO (nA h k' F) a ta ci n k t pr := ⟨(nA_n ha).trans c.1, c.2.1.nA hta, c.2.2⟩
/-- a cover over a new row -/
theorem of_nA {F : Nat → Int64} (h0 : 0 < h.2) (hn1 : 1 ≤ n) (hn : n ≤ 12) (hk : k ≤ 8) (hF : ∀ j, j < k → F j = PK n (t j)) (ht : ∀ j, j < k → ∀ i, i < n → t j i < n) (hK : ∀ h', NC h h' n k t → K (some (.ref (h.2 + 1))) h') : Ev (d + 5) (1, 3) MX1_of [.int (nI n), .ref h.2] (nA h k F) K := by
  refine of_ev (t := t) (k := k) (by show h.2 + 1 ≠ 0; omega) hn1 hn hk ⟨F, nA_s, hF⟩ ht ?_
  refine hK _ ⟨rfl, fun x hx => ?_, ⟨F, ?_, hF⟩, m_up_s _ _ _⟩
  · show m_up (nA h k F).1 (h.2 + 1) _ x = _
    rw [m_up_n _ _ (by omega), nA_n (by omega)]
  · show m_up (nA h k F).1 (h.2 + 1) _ h.2 = _
    rw [m_up_n _ _ (by omega), nA_s]
theorem copyOf_ev {m : Nat} {f : Nat → Int64} (h0 : 0 < h.2) (ha : a < h.2) (hf : h.1 a = .inl (1, m, .inr (.inl f))) (hkm : k ≤ m) (hm : m < 100000) (hb1 : 1 ≤ b.1) (hb2 : k ≤ b.2) (hK : ∀ F, (∀ i, i < k → F i = f i) → K (some (.ref h.2)) (nA h k F)) : Ev (d + 1) b MJ7_copyOf_c38d5 [.ref a, .int (nI k)] h K := by
  refine en_J7_copyOf_c38d5 (bk_J7_copyOf_c38d5_0 _ _ ⟨_, len_L hf, fun q => ?_, fun q => ?_⟩)
  · have hne : k ≠ m := fun w => q (by rw [w])
    refine ⟨k, nI_pos (by omega), nI_clamp (by omega), by omega, hb1, hb2, fun h3 e3 => ?_⟩
    have e3 : h3 = nA h k (fun _ => 0) := e3
    subst e3
    have hf3 : (nA h k (fun _ => 0)).1 a = .inl (1, m, .inr (.inl f)) := (nA_n (by omega)).trans hf
    refine ⟨_, len_L hf3, m, k, 0, 0, k, f, _, hf3, nA_s, rfl, rfl, ?_, by omega, by omega, hm, by omega, fun h12 e12 => ?_⟩
    · rw [if_pos (lt_t (by omega) (by omega))]
    · have e12 : h12 = nA h k (va_cpy f (fun _ => 0) 0 0 k) := by
        rw [e12]
        show (m_up (m_up h.1 h.2 _) h.2 _, h.2 + 1) = _
        rw [up_up]
        rfl
      subst e12
      exact ⟨nA_n (by omega), hK _ (fun i hi => by rw [pk_cpy_in (by omega) (by omega)]; simp)⟩
  · have hkm2 : k = m := nI_inj (by omega) (by omega) q
    subst hkm2
    refine ⟨k, f, hf, hb1, hb2, fun h15 e15 => ?_⟩
    have e15 : h15 = nA h k f := e15
    subst e15
    exact ⟨k, f, nA_s, nA_n (by omega), hK f (fun _ _ => rfl)⟩
theorem ut_pm {n k j : Nat} {t : Nat → Nat → Nat} {f : Nat → Nat} (hp : ∀ j, j < k → pm n (t j)) (hf : pm n f) : ∀ i, i < k → pm n (ut t j f i) := by
  intro i hi
  unfold ut
  split
  · exact hf
  · exact hp i hi
theorem lfw_pm {j : Nat} (hp : ∀ j, j < k → pm n (t j)) (hj : j + 1 < k) : ∀ i, i < k → pm n (lfw n t j i) :=
  ut_pm (ut_pm hp (hp (j + 1) hj)) (pm_comp (pm_comp (pm_inv (hp (j + 1) hj)) (hp j (by omega))) (hp (j + 1) hj))
theorem lbk_pm {j : Nat} (hp : ∀ j, j < k → pm n (t j)) (hj : j + 1 < k) : ∀ i, i < k → pm n (lbk n t j i) :=
  ut_pm (ut_pm hp (hp j (by omega))) (pm_comp (pm_comp (hp j (by omega)) (hp (j + 1) hj)) (pm_inv (hp j (by omega))))
theorem ledPast_ev {j : Nat} {fw : Int32} {u : Nat → Nat → Nat} (c : CO h a ta ci n k t pr) (ha : a < h.2) (hta : ta < h.2) (hj : j + 1 < k) (hb1 : 2 ≤ b.1) (hb2 : k + 3 ≤ b.2) (hu : u = if fw = 0 then lbk n t j else lfw n t j) (hK : ∀ h', NC h h' n k u → K (some (.ref (h.2 + 1))) h') : Ev (d + 6) b MX1_ledPast [.ref a, .int (nI j), .int fw] h K := by
  have hk8 := c.k8
  obtain ⟨f, hf1, hf2⟩ := c.2.1
  refine en_X1_ledPast (bk_X1_ledPast_0 _ _ _ ⟨_, c.ft, _, c.ft, _, c.2.1.len, (1, k), by show 1 ≤ b.1; omega, by show k ≤ b.2; omega, ?_⟩)
  refine copyOf_ev (by omega) hta hf1 (Nat.le_refl _) (by omega) (Nat.le_refl _) (Nat.le_refl _) (fun F hF => ⟨_, rfl, ?_⟩)
  have cA : CO (nA h k F) a ta ci n k t pr := c.nA (by omega) (by omega)
  have hT : TA (nA h k F) h.2 n k t := ⟨F, nA_s, fun j hj => (hF j hj).trans (hf2 j hj)⟩
  have fin : ∀ (h' : mH) (u : Nat → Nat → Nat), Fr [h.2] (nA h k F) h' → TA h' h.2 n k u → (∀ i, i < k → pm n (u i)) → (∀ h', NC h h' n k u → K (some (.ref (h.2 + 1))) h') → Ev (d + 5) (1, 3) MX1_of [.int (nI n), .ref h.2] h' (fun r12 h13 => ∃ q14 : Nat, r12 = some (.ref q14) ∧ (h13.1 0 = h.1 0 ∧ K (some (.ref q14)) h13)) := by
    intro h' u hFr hTu hpu hKu
    obtain ⟨G, g1, g2⟩ := hTu
    have e : h' = nA h k G := by
      refine Prod.ext (funext fun x => ?_) hFr.1
      by_cases hx : x = h.2
      · rw [hx, nA_s]; exact g1
      · rw [nA_n hx]
        exact (hFr.2 x (by simpa using hx)).trans (nA_n hx)
    subst e
    refine of_nA (by omega) c.n1 c.n12 hk8 g2 (fun j hj => (hpu j hj).1) (fun h' hN => ⟨_, rfl, ?_, hKu h' hN⟩)
    exact hN.2.1 0 (by omega)
  refine ⟨fun q => ⟨_, cA.fn, ?_⟩, fun q => ⟨_, cA.fn, ?_⟩⟩
  · rw [if_pos q] at hu
    subst hu
    refine leadBack_ev (by omega) c.n12 hT (by omega) hj c.prm (fun h' hFr hT' => ⟨rfl, _, (cA.fr hFr (by simp; omega) (by simp; omega)).fn, (1, 3), by show 1 ≤ b.1 - 1; omega, by show 3 ≤ b.2 - k; omega, ?_⟩)
    exact fin h' _ hFr hT' (lbk_pm c.prm hj) hK
  · rw [if_neg q] at hu
    subst hu
    refine leadForward_ev (by omega) c.n12 hT (by omega) hj c.prm (fun h' hFr hT' => ⟨rfl, _, (cA.fr hFr (by simp; omega) (by simp; omega)).fn, (1, 3), by show 1 ≤ b.1 - 1; omega, by show 3 ≤ b.2 - k; omega, ?_⟩)
    exact fin h' _ hFr hT' (lfw_pm c.prm hj) hK
/-- each turn's inverse, the last first -/
def mir (n k : Nat) (t : Nat → Nat → Nat) : Nat → Nat → Nat := fun j => iv (t (k - 1 - j)) n
theorem mirror_ev (c : CO h a ta ci n k t pr) (ha : a < h.2) (hta : ta < h.2) (hb1 : 2 ≤ b.1) (hb2 : k + 3 ≤ b.2) (hK : ∀ h', NC h h' n k (mir n k t) → K (some (.ref (h.2 + 1))) h') : Ev (d + 6) b MX1_mirror [.ref a] h K := by
  have hk8 := c.k8
  have hk1 := c.k1
  refine en_X1_mirror (bk_X1_mirror_0 _ ⟨_, c.ft, _, c.2.1.len, k, nI_pos (by omega), nI_clamp (by omega), by omega, by omega, by omega, fun h4 e4 => ?_⟩)
  have e4 : h4 = nA h k (fun _ => 0) := e4
  subst e4
  have hpm : ∀ j, j < k → pm n (mir n k t j) := fun j hj => pm_inv (c.prm _ (by omega))
  refine dn (n := k) (fun j => Wm (d + 6) (b.1 - 1, b.2 - k) JX1_mirror 12 [some (.ref a), some (.int (nI k)), some (.ref h.2), some (.int (nI j))] [] (nA h k (fun i => if i < j then PK n (mir n k t i) else 0)) (fun r h' => h'.1 0 = h.1 0 ∧ K r h')) ?_ ?_ 0 (Nat.zero_le _)
  · have cA : CO (nA h k (fun i => if i < k then PK n (mir n k t i) else 0)) a ta ci n k t pr := c.nA (by omega) (by omega)
    refine bk_X1_mirror_12 _ _ _ _ ⟨fun _ => ⟨_, cA.fn, (1, 3), by show 1 ≤ b.1 - 1; omega, by show 3 ≤ b.2 - k; omega, ?_⟩, fun q => absurd (le_t (Nat.le_refl _) (by omega)) q⟩
    refine of_nA (by omega) c.n1 c.n12 hk8 (fun j hj => by simp [hj]) (fun j hj => (hpm j hj).1) (fun h' hN => ⟨_, rfl, hN.2.1 0 (by omega), hK h' hN⟩)
  · intro j hj ih
    have cA : CO (nA h k (fun i => if i < j then PK n (mir n k t i) else 0)) a ta ci n k t pr := c.nA (by omega) (by omega)
    refine bk_X1_mirror_12 _ _ _ _ ⟨fun q => absurd q (le_f hj (by omega)), fun _ => ⟨_, cA.ft, ?_⟩⟩
    have e : nI k - 1 - nI j = nI (k - 1 - j) := by rw [nI_m1 hk1, pk_sub (by omega)]
    rw [e]
    refine ⟨_, cA.2.1.at (by omega) (by omega), _, cA.fn, ?_⟩
    refine inverse_ev c.n12 (c.prm _ (by omega)) ⟨_, rfl, _, nA_ls hj (by omega), ?_⟩
    rw [nI_1]
    have e2 : vp_updL (fun i => if i < j then PK n (mir n k t i) else 0) j (PK n (iv (t (k - 1 - j)) n)) = fun i => if i < j + 1 then PK n (mir n k t i) else 0 := by
      funext i
      by_cases w : i = j
      · subst w; simp [vp_updL, mir]
      · by_cases w2 : i < j
        · simp [vp_updL, w, w2, show i < j + 1 by omega]
        · simp [vp_updL, w, w2, show ¬ i < j + 1 by omega]
    rw [e2]
    exact ih
-- narrowing
def rk (m : Nat) (z : Nat) : Nat := cn m.testBit z
theorem rk_pop {m z : Nat} (hz : z ≤ 12) : pop (m &&& (2 ^ z - 1)) = rk m z := by
  rw [Nat.and_two_pow_sub_one_eq_mod]
  unfold pop rk
  have e : cn (m % 2 ^ z).testBit 12 = cn (m % 2 ^ z).testBit z := cn_false hz (fun i h1 _ => by rw [Nat.testBit_mod_two_pow]; simp [Nat.not_lt.mpr h1])
  rw [e]
  exact cn_congr (fun i hi => by rw [Nat.testBit_mod_two_pow]; simp [hi])
/-- the chosen ones' row so far -/
def nwg (m : Nat) (f p : Nat → Nat) : Nat → (Nat → Nat)
  | 0 => fun _ => 0
  | x + 1 => if m.testBit x = true then un (nwg m f p x) (rk m x) (rk m (f (p x))) else nwg m f p x
theorem nwg_out {m : Nat} {f p : Nat → Nat} : ∀ x i, rk m x ≤ i → nwg m f p x i = 0
  | 0, _, _ => rfl
  | x + 1, i, hi => by
    have hs : rk m (x + 1) = rk m x + (if m.testBit x = true then 1 else 0) := rfl
    unfold nwg
    by_cases w : m.testBit x = true
    · rw [if_pos w] at hs ⊢
      rw [un_n _ _ (by omega)]
      exact nwg_out x i (by omega)
    · rw [if_neg w]
      exact nwg_out x i (by rw [if_neg w] at hs; omega)
theorem nwg_lt {m b : Nat} {f p : Nat → Nat} (hb : 0 < b) (h : ∀ i, i < n → rk m (f (p i)) < b) : ∀ x, x ≤ n → ∀ i, nwg m f p x i < b
  | 0, _, _ => hb
  | x + 1, hx, i => by
    unfold nwg
    split
    · by_cases w : i = rk m x
      · subst w; rw [un_s]; exact h x (by omega)
      · rw [un_n _ _ w]; exact nwg_lt hb h x (by omega) i
    · exact nwg_lt hb h x (by omega) i
theorem nwg_pk {m : Nat} {f p : Nat → Nat} : lN (pk (nwg m f p n)) = PK (rk m n) (nwg m f p n) := by
  have e : nwg m f p n = rs (rk m n) (nwg m f p n) := by
    funext i
    by_cases hi : i < rk m n
    · rw [rs_in _ hi]
    · rw [rs_out _ (by omega), nwg_out n i (by omega)]
  unfold PK
  rw [← e]
theorem narrowed_ev {m : Nat} {f : Nat → Nat} (c : CO h a ta ci n k t pr) (ha : a < h.2) (hta : ta < h.2) (hm : m < 4096) (hf : ∀ i, i < n → f i < n) (hb1 : 1 ≤ b.1) (hb2 : k ≤ b.2) (hK : ∀ F, (∀ j, j < k → F j = PK (rk m n) (nwg m f (t j) n)) → K (some (.ref h.2)) (nA h k F)) : Ev (d + 1) b MX1_narrowed [.ref a, .int (nI m), .long (PK n f)] h K := by
  have hk8 := c.k8
  have hn := c.n12
  refine en_X1_narrowed (bk_X1_narrowed_0 _ _ _ ⟨_, c.ft, _, c.2.1.len, k, nI_pos (by omega), nI_clamp (by omega), by omega, by omega, by omega, fun h4 e4 => ?_⟩)
  have e4 : h4 = nA h k (fun _ => 0) := e4
  subst e4
  have hrk : ∀ z, z ≤ 12 → rk m z ≤ 12 := fun z hz => Nat.le_trans (cn_le _ _) hz
  have hz0 : lN (pk fun _ => 0) = 0 := rfl
  refine dn (n := k) (fun j => Wm (d + 1) (b.1 - 1, b.2 - k) JX1_narrowed 12 [some (.ref a), some (.int (nI m)), some (.long (PK n f)), none, some (.ref h.2), some (.int (nI j)), none, none, none] [] (nA h k (fun i => if i < j then PK (rk m n) (nwg m f (t i) n) else 0)) (fun r h' => h'.1 0 = h.1 0 ∧ K r h')) ?_ ?_ 0 (Nat.zero_le _)
  · have cA : CO (nA h k (fun i => if i < k then PK (rk m n) (nwg m f (t i) n) else 0)) a ta ci n k t pr := c.nA (by omega) (by omega)
    exact bk_X1_narrowed_12 _ _ _ _ _ ⟨_, cA.ft, _, cA.2.1.len, fun _ => ⟨nA_n (by omega), hK _ (fun j hj => by simp [hj])⟩, fun q => absurd (le_t (Nat.le_refl _) (by omega)) q⟩
  · intro j hj ih
    have cA : CO (nA h k (fun i => if i < j then PK (rk m n) (nwg m f (t i) n) else 0)) a ta ci n k t pr := c.nA (by omega) (by omega)
    refine bk_X1_narrowed_12 _ _ _ _ _ ⟨_, cA.ft, _, cA.2.1.len, fun q => absurd q (le_f hj (by omega)), fun _ => ?_⟩
    have hp := c.lt j hj
    have hv16 : ∀ i, i < n → rk m (f (t j i)) < 16 := fun i hi => by
      have := hrk (f (t j i)) (by have := hf _ (hp i hi); omega)
      omega
    have hl := dn (n := n) (fun x => Wm (d + 1) (b.1 - 1, b.2 - k) JX1_narrowed 28 [some (.ref a), some (.int (nI m)), some (.long (PK n f)), none, some (.ref h.2), some (.int (nI j)), some (.int (nI (rk m x))), some (.int (nI x)), none] [] (nA h k (fun i => if i < j then PK (rk m n) (nwg m f (t i) n) else if i = j then lN (pk (nwg m f (t j) x)) else 0)) (fun r h' => h'.1 0 = h.1 0 ∧ K r h')) ?_ ?_ 0 (Nat.zero_le _)
    · have e0 : (fun i => if i < j then PK (rk m n) (nwg m f (t i) n) else if i = j then lN (pk (nwg m f (t j) 0)) else 0) = fun i => if i < j then PK (rk m n) (nwg m f (t i) n) else 0 := by
        funext i
        by_cases w : i < j
        · simp [w]
        · by_cases w2 : i = j
          · subst w2
            simp only [Nat.lt_irrefl, if_false, if_true]
            exact hz0
          · simp [w, w2]
      rw [e0] at hl
      exact hl
    · have cB : CO (nA h k (fun i => if i < j then PK (rk m n) (nwg m f (t i) n) else if i = j then lN (pk (nwg m f (t j) n)) else 0)) a ta ci n k t pr := c.nA (by omega) (by omega)
      refine bk_X1_narrowed_28 _ _ _ _ _ _ _ ⟨_, cB.fn, fun _ => ?_, fun q => absurd (le_t (Nat.le_refl _) (by omega)) q⟩
      rw [nI_1]
      have e1 : (fun i => if i < j then PK (rk m n) (nwg m f (t i) n) else if i = j then lN (pk (nwg m f (t j) n)) else 0) = fun i => if i < j + 1 then PK (rk m n) (nwg m f (t i) n) else 0 := by
        funext i
        by_cases w : i < j
        · simp [w, show i < j + 1 by omega]
        · by_cases w2 : i = j
          · subst w2; simp [nwg_pk]
          · simp [w, w2, show ¬ i < j + 1 by omega]
      rw [e1]
      exact ih
    · intro x hx ih2
      have cB : CO (nA h k (fun i => if i < j then PK (rk m n) (nwg m f (t i) n) else if i = j then lN (pk (nwg m f (t j) x)) else 0)) a ta ci n k t pr := c.nA (by omega) (by omega)
      refine bk_X1_narrowed_28 _ _ _ _ _ _ _ ⟨_, cB.fn, fun q => absurd q (le_f hx (by omega)), fun _ => ?_⟩
      rw [get_bit (by omega) (by omega)]
      have hs : rk m (x + 1) = rk m x + (if m.testBit x = true then 1 else 0) := rfl
      by_cases w : m.testBit x = true
      · simp only [w, if_true]
        refine ⟨fun q => absurd q (ne_f (a := 1) (b := 0) (by decide) (by decide) (by decide)), fun _ => ⟨_, cB.ft, _, cB.2.1.at hj (by omega), ?_⟩⟩
        refine at_ev hn hx (fun i hi => by have := hp i hi; omega) ⟨_, rfl, ?_⟩
        refine at_ev hn (hp x hx) (fun i hi => by have := hf i hi; omega) ⟨_, rfl, ?_⟩
        refine ⟨_, ll_at nA_s hj (by omega), ?_⟩
        have hz := hf _ (hp x hx)
        have em : nI m &&& ((1 : Int32) <<< (nI (f (t j x)) &&& 31) - 1) = nI (m &&& (2 ^ f (t j x) - 1)) := by
          rw [one_shl _ (by omega), nI_m1 (Nat.two_pow_pos _), nx_and]
        rw [em]
        have hml : m &&& (2 ^ f (t j x) - 1) < 4096 := Nat.lt_of_le_of_lt Nat.and_le_left hm
        refine bitCount_ev hml ⟨_, rfl, ?_⟩
        rw [rk_pop (by omega)]
        have e3 : (if j < j then PK (rk m n) (nwg m f (t j) n) else if j = j then lN (pk (nwg m f (t j) x)) else 0) = lN (pk (nwg m f (t j) x)) := by simp
        rw [e3]
        have hrx : rk m x ≤ x := cn_le _ _
        refine with_ev (nwg_lt (n := n) (by decide) hv16 x (by omega)) (by omega) (hv16 x hx) (nwg_out x _ (Nat.le_refl _)) ⟨_, rfl, _, nA_ls hj (by omega), ?_⟩
        rw [nI_1, nI_1]
        rw [hs, if_pos w] at ih2
        have e4 : vp_updL (fun i => if i < j then PK (rk m n) (nwg m f (t i) n) else if i = j then lN (pk (nwg m f (t j) x)) else 0) j (lN (pk (un (nwg m f (t j) x) (rk m x) (rk m (f (t j x)))))) = fun i => if i < j then PK (rk m n) (nwg m f (t i) n) else if i = j then lN (pk (nwg m f (t j) (x + 1))) else 0 := by
          funext i
          by_cases w3 : i = j
          · subst w3; simp [vp_updL, nwg, w]
          · simp [vp_updL, w3]
        rw [e4]
        exact ih2
      · simp only [w]
        refine ⟨fun _ => ?_, fun q => absurd rfl q⟩
        rw [nI_1]
        rw [hs, if_neg w] at ih2
        have e5 : nwg m f (t j) (x + 1) = nwg m f (t j) x := by
          show (if m.testBit x = true then _ else _) = _
          rw [if_neg w]
        rw [e5] at ih2
        exact ih2
end DerEv

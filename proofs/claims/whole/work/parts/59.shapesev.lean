/-! the class's Shapes: tables -/
theorem ixl_lt {e : Nat} : ∀ (L : List Nat) (s : Nat), s < L.length → L.getD s 0 = e → (∀ s', s' < s → L.getD s' 0 ≠ e) → ixl e L = s
  | [], s, h, _, _ => absurd h (by simp)
  | x :: L, s, h, h1, h2 => by
    unfold ixl
    cases s with
    | zero =>
      have : x = e := by simpa using h1
      rw [if_pos (by rw [this]; exact Nat.beq_refl e)]
    | succ s =>
      have hx : x ≠ e := by simpa using h2 0 (by omega)
      rw [if_neg (by simpa using hx)]
      congr 1
      exact ixl_lt L s (by simpa using h) (by simpa using h1) (fun s' hs' => by simpa using h2 (s' + 1) (by omega))
theorem ixl_no {e : Nat} : ∀ (L : List Nat), (∀ s', s' < L.length → L.getD s' 0 ≠ e) → ixl e L = L.length
  | [], _ => rfl
  | x :: L, h2 => by
    unfold ixl
    have hx : x ≠ e := by simpa using h2 0 (by simp)
    rw [if_neg (by simpa using hx)]
    show ixl e L + 1 = L.length + 1
    congr 1
    exact ixl_no L (fun s' hs' => by simpa using h2 (s' + 1) (by simpa using hs'))
def SPF (h : mH) (nf : Int32) (mn : Nat) : Prop := h.1 31 = .inr (7, [.ref 32, .ref 33, .int nf, .int (nI mn)])
def SPL (h : mH) (n M : Nat) : Prop := ∃ F : Nat → Int64, h.1 32 = .inl (1, 42, .inr (.inl F)) ∧ ∀ s, s < M → F s = lN (eA n s)
def SPW (h : mH) (n M : Nat) : Prop := ∃ G : Nat → Int64, h.1 33 = .inl (1, 420, .inr (.inl G)) ∧ ∀ m, m < M → ∀ s, s < (pT n).length → G (42 * m + s) = lN (wA n m s)
section ShapesEv
variable {d n : Nat} {h : mH} {K : Option Value → mH → Prop} {nf : Int32} {mn : Nat}
theorem SPF.f0 (o : SPF h nf mn) : m_fld h 31 [7] 0 = some (.ref 32) := fld_at o (by decide) rfl
theorem SPF.f1 (o : SPF h nf mn) : m_fld h 31 [7] 1 = some (.ref 33) := fld_at o (by decide) rfl
theorem SPF.f2 (o : SPF h nf mn) : m_fld h 31 [7] 2 = some (.int nf) := fld_at o (by decide) rfl
theorem SPF.f3 (o : SPF h nf mn) : m_fld h 31 [7] 3 = some (.int (nI mn)) := fld_at o (by decide) rfl
theorem o16 {l : Nat} (h1 : 1 ≤ l) (h2 : l ≤ 12) : SH (o1 l) = lN (16 ^ (l - 1)) := by
  have := pq_one (l - 1) (by omega)
  rw [show l - 1 + 1 = l by omega] at this
  unfold SH
  rw [this, Nat.pow_mul]
theorem one16_ev {l : Nat} (h1 : 1 ≤ l) (h2 : l ≤ 12) (hK : K (some (.long (lN (16 ^ (l - 1))))) h) : Ev d (0, 0) MX8_one [.int (nI l)] h K := one_ev h1 h2 (by rw [o16 h1 h2]; exact hK)
theorem sh_e {s : Nat} (hn : n < 11) (hs : s < (pT n).length) : SH (ct (pA n s)) = lN (eA n s) := by
  unfold SH
  rw [(tb_enc n hn s hs).1]
theorem timesE_ev {s l : Nat} (hn : n < 11) (hs : s < (pT n).length) (h1 : 1 ≤ l) (h2 : l ≤ 12) (hK : K (some (.int (nI (ct (pA n s) l)))) h) : Ev d (0, 0) MX8_times [.long (lN (eA n s)), .int (nI l)] h K := by
  rw [← sh_e hn hs]
  have := (tb_enc n hn s hs).2.2
  exact times_ev h1 h2 (ct_lt (by omega)) hK
theorem lacks_ev {x : Int32} (o : SPF h nf mn) (h1 : (x < 0 ∨ ¬ x < nI mn) → K (some (.int 1)) h) (h0 : ¬ x < 0 → x < nI mn → K (some (.int 0)) h) : Ev d (0, 0) MX8_lacks [.ref 31, .int x] h K :=
  en_X8_lacks (bk_X8_lacks_0 _ _ ⟨fun q => ⟨rfl, h1 (Or.inl q)⟩, fun q => ⟨_, o.f3, fun q2 => ⟨rfl, h0 q q2⟩, fun q2 => ⟨rfl, h1 (Or.inr q2)⟩⟩⟩)
def ixR (n e : Nat) : Int32 := if ixl e (eT n) < (pT n).length then nI (ixl e (eT n)) else -1000000
theorem indexOf_ev {e : Nat} (hn : n < 11) (o : SPF h nf (pT n).length) (oL : SPL h n (pT n).length) (he : e < 281474976710656) (hK : K (some (.int (ixR n e))) h) : Ev d (0, 0) MX8_indexOf [.ref 31, .long (lN e)] h K := by
  refine en_X8_indexOf (bk_X8_indexOf_0 _ _ ?_)
  obtain ⟨l1, l2, -⟩ := tb_len n hn
  obtain ⟨F, hF, hFq⟩ := oL
  have key : ∀ r s, s + r = (pT n).length → (∀ s', s' < s → (eT n).getD s' 0 ≠ e) → Wm d (0, 0) JX8_indexOf 2 [some (.ref 31), some (.long (lN e)), none, some (.int (nI s))] [] h (fun r h' => h'.1 0 = h.1 0 ∧ K r h') := by
    intro r
    induction r with
    | zero =>
      intro s hs hq
      refine bk_X8_indexOf_2 _ _ _ ⟨_, o.f3, fun _ => ⟨rfl, ?_⟩, fun c => absurd (le_t (by omega) (by omega)) c⟩
      have hi := ixl_no (e := e) (eT n) (fun s' hs' => hq s' (by omega))
      unfold ixR at hK
      rw [hi, if_neg (by omega)] at hK
      exact hK
    | succ r ih =>
      intro s hs hq
      have hsl : s < (pT n).length := by omega
      have e1 : m_ll h 32 (nI s) = some (lN (eA n s)) := by rw [ll_at hF (by omega) (by decide), hFq s hsl]
      have hb := tb_up n hn s hsl
      refine bk_X8_indexOf_2 _ _ _ ⟨_, o.f3, fun c => absurd c (le_f (by omega) (by omega)), fun _ => ⟨_, o.f0, _, e1, fun c => ?_, fun c => ⟨rfl, ?_⟩⟩⟩
      · rw [nI_1]
        refine ih (s + 1) (by omega) (fun s' hs' => ?_)
        by_cases w : s' = s
        · subst w
          intro q
          exact c (by rw [cmp_z]; exact congrArg lN q)
        · exact hq s' (by omega)
      · rw [cmp_z] at c
        have e2 : eA n s = e := lN_inj (by omega) he c
        have hi := ixl_lt (eT n) s (by omega) e2 hq
        unfold ixR at hK
        rw [hi, if_pos hsl] at hK
        exact hK
  exact key (pT n).length 0 (by omega) (fun s' hs' => absurd hs' (by omega))
theorem n42 (m s : Nat) : nI m * 42 + nI s = nI (42 * m + s) := by rw [show (42 : Int32) = nI 42 by decide, pk_mul, nI_add, Nat.mul_comm]
set_option maxRecDepth 4000 in
theorem rowsOf_ev {e m M : Nat} (hn : n < 11) (o : SPF h nf (pT n).length) (oW : SPW h n M) (hm : m < M) (hM : M ≤ 10) (hK : K (some (.long (lN (((wT n).getD m []).getD (ixl e (eT n)) 0)))) h) : Ev (d + 1) (0, 0) MX8_rowsOf [.ref 31, .int (nI m), .int (ixR n e)] h K := by
  obtain ⟨l1, l2, -⟩ := tb_len n hn
  refine en_X8_rowsOf (bk_X8_rowsOf_0 _ _ _ ⟨_, o, ?_⟩)
  refine lacks_ev o (fun q => ⟨_, rfl, fun _ => ⟨rfl, ?_⟩, fun c => absurd c (by decide)⟩) (fun q1 q2 => ⟨_, rfl, fun c => absurd rfl c, fun _ => ⟨fun c => absurd c (lt_f (a := m) (b := 0) (by omega) (by omega)), fun _ => ⟨fun _ => ?_, fun c => absurd (le_t (b := 9) (by omega) (by decide)) c⟩⟩⟩)
  · have : ¬ ixl e (eT n) < (pT n).length := fun w => by
      unfold ixR at q
      rw [if_pos w] at q
      rcases q with q | q
      · exact lt_f (a := ixl e (eT n)) (b := 0) (by omega) (by omega) q
      · exact q (lt_t w (by omega))
    have wl := tb_wl n hn m (by omega)
    rw [List.getD_eq_getElem?_getD (l := (wT n).getD m []), List.getElem?_eq_none (by omega)] at hK
    exact hK
  · by_cases w : ixl e (eT n) < (pT n).length
    · unfold ixR
      rw [if_pos w]
      obtain ⟨G, hG, hGq⟩ := oW
      refine ⟨_, o.f1, _, by rw [n42]; exact ll_at hG (by omega) (by decide), rfl, ?_⟩
      rw [hGq m hm _ w]
      exact hK
    · unfold ixR at q1
      rw [if_neg w] at q1
      exact absurd (by decide) q1
theorem lengthsAt_ev {s : Nat} (hn : n < 11) (o : SPF h nf (pT n).length) (oL : SPL h n (pT n).length) (hs : s < (pT n).length) (hK : K (some (.long (SH (ct (pA n s))))) h) : Ev (d + 1) (0, 0) MX8_lengthsAt [.ref 31, .int (nI s)] h K := by
  obtain ⟨l1, l2, -⟩ := tb_len n hn
  refine en_X8_lengthsAt (bk_X8_lengthsAt_0 _ _ ⟨_, o, ?_⟩)
  refine lacks_ev o (fun q => absurd (lt_t hs (by omega)) (q.resolve_left (lt_f (a := s) (b := 0) (by omega) (by omega)))) (fun q1 q2 => ⟨_, rfl, fun _ => ?_, fun c => absurd rfl c⟩)
  obtain ⟨F, hF, hFq⟩ := oL
  refine ⟨_, o.f0, _, ll_at hF (by omega) (by decide), rfl, ?_⟩
  rw [hFq s hs, ← sh_e hn hs]
  exact hK
set_option maxRecDepth 4000 in
theorem cut_ev {s a m M : Nat} (hn : n < 11) (hs : s < (pT n).length) (o : SPF h nf (pT n).length) (oL : SPL h n (pT n).length) (oW : SPW h n M) (hm : m < M) (hM : M ≤ 10) (ha1 : 1 ≤ a) (ha : a < 11) (hca : ct (pA n s) a ≠ 0) (hK : K (some (.long (lN (cuA (eA n s) a (eT n) ((wT n).getD m []) (a / 2))))) h) : Ev (d + 2) (0, 0) MX8_cut [.ref 31, .long (lN (eA n s)), .int (nI a), .int (nI m)] h K := by
  refine en_X8_cut (bk_X8_cut_0 _ _ _ _ ?_)
  have hge := ((tb_ge n hn s hs a ha).resolve_left hca).1
  have hup := tb_up n hn s hs
  have hb1 : ∀ e p q r : Nat, e < 2 ^ 41 → q ≤ 2 ^ 40 → r ≤ 2 ^ 40 → e - p + q + r < 281474976710656 := by omega
  have key : ∀ r x, x + r = a / 2 → Wm (d + 2) (0, 0) JX8_cut 6 [some (.ref 31), some (.long (lN (eA n s))), none, some (.int (nI a)), some (.int (nI m)), some (.long (lN (cuA (eA n s) a (eT n) ((wT n).getD m []) x))), none, some (.int (nI (x + 1))), none, none, none] [] h (fun r h' => h'.1 0 = h.1 0 ∧ K r h') := by
    intro r
    induction r with
    | zero =>
      intro x hx
      have e2 : (2 : Int32) * nI (x + 1) = nI (2 * (x + 1)) := by rw [show (2 : Int32) = nI 2 from rfl, pk_mul]
      refine bk_X8_cut_6 _ _ _ _ _ _ ⟨fun _ => ⟨rfl, ?_⟩, fun c => absurd (by rw [e2]; exact lt_t (by omega) (by omega)) c⟩
      rw [show x = a / 2 by omega]
      exact hK
    | succ r ih =>
      intro x hx
      have e2 : (2 : Int32) * nI (x + 1) = nI (2 * (x + 1)) := by rw [show (2 : Int32) = nI 2 from rfl, pk_mul]
      have b1 := tb_42 n hn x (by omega)
      have b2 := tb_42 n hn (a - (x + 1) - 1) (by omega)
      have nx := ih (x + 1) (by omega)
      -- what follows once the coefficient is known
      have body : ∀ (co : Nat) (Z : Int64), co < 2147483648 → co = (if 2 * (x + 1) = a then x + 1 else a) → Z = (nI co).toInt64 → Ev (d + 1) (0, 0) MX8_one [.int (nI a)] h (fun r1 h2 => ∃ y3 : Int64, r1 = some (.long y3) ∧ Ev (d + 1) (0, 0) MX8_one [.int (nI (x + 1))] h2 (fun r4 h5 => ∃ y6 : Int64, r4 = some (.long y6) ∧ Ev (d + 1) (0, 0) MX8_one [.int (nI a - nI (x + 1))] h5 (fun r7 h8 => ∃ y9 : Int64, r7 = some (.long y9) ∧ (∃ fs17 : List Value, (h8).1 31 = .inr (7, fs17) ∧ Ev (d + 1) (0, 0) MX8_indexOf [.ref 31, .long (((lN (eA n s) - y3) + y6) + y9)] h8 (fun r10 h11 => ∃ x12 : Int32, r10 = some (.int x12) ∧ (∃ fs16 : List Value, (h11).1 31 = .inr (7, fs16) ∧ Ev (d + 1) (0, 0) MX8_rowsOf [.ref 31, .int (nI m), .int x12] h11 (fun r13 h14 => ∃ y15 : Int64, r13 = some (.long y15) ∧ Wm (d + 2) (0, 0) JX8_cut 6 [some (.ref 31), some (.long (lN (eA n s))), none, some (.int (nI a)), some (.int (nI m)), some (.long (lN (cuA (eA n s) a (eT n) ((wT n).getD m []) x) + Z * y15)), none, some (.int (nI (x + 1) + 1)), none, none, none] [] h14 (fun r h' => h'.1 0 = h.1 0 ∧ K r h')))))))) := by
        intro co Z hco eco eZ
        refine one16_ev (by omega) (by omega) ⟨_, rfl, ?_⟩
        refine one16_ev (by omega) (by omega) ⟨_, rfl, ?_⟩
        rw [pk_sub (by omega)]
        refine one16_ev (by omega) (by omega) ⟨_, rfl, _, o, ?_⟩
        rw [show x + 1 - 1 = x by omega, lN_sub hge, lN_add, lN_add]
        refine indexOf_ev hn o oL (hb1 _ _ _ _ hup b1 b2) ⟨_, rfl, _, o, ?_⟩
        refine rowsOf_ev hn o oW hm hM ⟨_, rfl, ?_⟩
        rw [eZ, nI_l (by omega), lN_mul, lN_add, nI_1, eco]
        exact nx
      refine bk_X8_cut_6 _ _ _ _ _ _ ⟨fun c => absurd c (by rw [e2]; exact lt_f (by omega) (by omega)), fun _ => ⟨fun c => ?_, fun c => ?_⟩⟩
      · rw [e2] at c
        refine body a _ (by omega) ?_ rfl
        rw [if_neg (fun w => c (by rw [w]))]
      · rw [e2] at c
        have w := nI_inj (by omega) (by omega) c
        refine body (x + 1) _ (by omega) ?_ rfl
        rw [if_pos w]
  exact key (a / 2) 0 (by omega)
set_option maxRecDepth 4000 in
theorem cutAndJoined_ev {s m M : Nat} (hn1 : 1 ≤ n) (hn : n < 11) (hs : s < (pT n).length) (o : SPF h nf (pT n).length) (oL : SPL h n (pT n).length) (oW : SPW h n M) (hm : m < M) (hM : M ≤ 9) (hK : K (some (.long (lN (wA n (m + 1) s)))) h) : Ev (d + 3) (0, 0) MX8_cutAndJoined [.ref 31, .long (lN (eA n s)), .int (nI m), .int (nI n)] h K := by
  refine en_X8_cutAndJoined (bk_X8_cutAndJoined_0 _ _ _ _ ?_)
  rw [← tb_way n hn m (by omega) s hs] at hK
  have hup := tb_up n hn s hs
  have c16 : ∀ l, ct (pA n s) l < 16 := ct_lt (by have := (tb_enc n hn s hs).2.2; omega)
  generalize hW : (wT n).getD m [] = W at *
  have hb2 : ∀ e p q r : Nat, e < 2 ^ 41 → r ≤ 16 ^ 11 → e - p - q + r < 281474976710656 := by omega
  have hb3 : ∀ e p q : Nat, p + q ≤ e → q ≤ e - p := by omega
  have outer : ∀ r x, x + r = n → Wm (d + 3) (0, 0) JX8_cutAndJoined 6 [some (.ref 31), some (.long (lN (eA n s))), none, some (.int (nI m)), some (.int (nI n)), some (.long (lN (toA (ct (pA n s)) (eA n s) n (eT n) W x))), none, some (.int (nI (x + 1))), none, none, none, none, none] [] h (fun r h' => h'.1 0 = h.1 0 ∧ K r h') := by
    intro r
    induction r with
    | zero =>
      intro x hx
      refine bk_X8_cutAndJoined_6 _ _ _ _ _ _ ⟨fun _ => ⟨rfl, ?_⟩, fun c => absurd (lt_t (by omega) (by omega)) c⟩
      rw [show x = n by omega]
      exact hK
    | succ r ih =>
      intro x hx
      have nx := ih (x + 1) (by omega)
      refine bk_X8_cutAndJoined_6 _ _ _ _ _ _ ⟨fun c => absurd c (lt_f (by omega) (by omega)), fun _ => ?_⟩
      refine timesE_ev hn hs (by omega) (by omega) ⟨_, rfl, fun c => ?_, fun c => ?_⟩
      · have hc : ct (pA n s) (x + 1) ≠ 0 := fun w => c (by rw [w]; rfl)
        have hx16 := c16 (x + 1)
        refine ⟨_, o, ?_⟩
        refine cut_ev hn hs o oL oW hm (by omega) (by omega) (by omega) hc ⟨_, rfl, ?_⟩
        rw [hW, nI_l (by omega), lN_mul, lN_add]
        -- joins with b
        have inner : ∀ q b, b + q = n → Wm (d + 3) (0, 0) JX8_cutAndJoined 50 [some (.ref 31), some (.long (lN (eA n s))), none, some (.int (nI m)), some (.int (nI n)), some (.long (lN (toA (ct (pA n s)) (eA n s) n (eT n) W x + ct (pA n s) (x + 1) * cuA (eA n s) (x + 1) (eT n) W ((x + 1) / 2) + jnA (ct (pA n s)) (eA n s) (x + 1) (eT n) W b))), none, some (.int (nI (x + 1))), some (.int (nI (ct (pA n s) (x + 1)))), some (.int (nI (b + 1))), none, none, none] [] h (fun r h' => h'.1 0 = h.1 0 ∧ K r h') ∨ b < x := by
          intro q
          induction q with
          | zero =>
            intro b hb
            left
            refine bk_X8_cutAndJoined_50 _ _ _ _ _ _ _ _ ⟨fun _ => ?_, fun c => absurd (lt_t (by omega) (by omega)) c⟩
            rw [nI_1, show b = n by omega]
            have e : toA (ct (pA n s)) (eA n s) n (eT n) W (x + 1) = toA (ct (pA n s)) (eA n s) n (eT n) W x + ct (pA n s) (x + 1) * cuA (eA n s) (x + 1) (eT n) W ((x + 1) / 2) + jnA (ct (pA n s)) (eA n s) (x + 1) (eT n) W n := by
              show _ + (if _ then _ else _) = _
              rw [if_neg hc, Nat.add_assoc]
            rw [← e]
            exact nx
          | succ q ihq =>
            intro b hb
            rcases Nat.lt_or_ge b x with w | w
            · exact Or.inr w
            left
            have nb := (ihq (b + 1) (by omega)).resolve_right (by omega)
            have hb16 := c16 (b + 1)
            -- the pairs
            have hpr : prc (ct (pA n s)) (x + 1) (b + 1) < 2147483648 := by
              unfold prc
              split
              · have : ct (pA n s) (x + 1) * (ct (pA n s) (x + 1) - 1) ≤ 16 * 16 := Nat.mul_le_mul (by omega) (by omega)
                omega
              · have : ct (pA n s) (x + 1) * ct (pA n s) (b + 1) ≤ 16 * 16 := Nat.mul_le_mul (by omega) (by omega)
                omega
            have zero : prc (ct (pA n s)) (x + 1) (b + 1) = 0 → Wm (d + 3) (0, 0) JX8_cutAndJoined 50 [some (.ref 31), some (.long (lN (eA n s))), none, some (.int (nI m)), some (.int (nI n)), some (.long (lN (toA (ct (pA n s)) (eA n s) n (eT n) W x + ct (pA n s) (x + 1) * cuA (eA n s) (x + 1) (eT n) W ((x + 1) / 2) + jnA (ct (pA n s)) (eA n s) (x + 1) (eT n) W b))), none, some (.int (nI (x + 1))), some (.int (nI (ct (pA n s) (x + 1)))), some (.int (nI (b + 1) + 1)), none, none, none] [] h (fun r h' => h'.1 0 = h.1 0 ∧ K r h') := by
              intro z
              have e : jnA (ct (pA n s)) (eA n s) (x + 1) (eT n) W (b + 1) = jnA (ct (pA n s)) (eA n s) (x + 1) (eT n) W b := by
                show _ + (if _ then _ else _) = _
                rw [if_neg (fun w => w.2 z)]
                rfl
              rw [e] at nb
              rw [nI_1]
              exact nb
            have some' : prc (ct (pA n s)) (x + 1) (b + 1) ≠ 0 → ∀ (Z : Int64), Z = (nI (prc (ct (pA n s)) (x + 1) (b + 1)) * nI (x + 1) * nI (b + 1)).toInt64 → Ev (d + 2) (0, 0) MX8_one [.int (nI (x + 1))] h (fun r4 h5 => ∃ y6 : Int64, r4 = some (.long y6) ∧ Ev (d + 2) (0, 0) MX8_one [.int (nI (b + 1))] h5 (fun r7 h8 => ∃ y9 : Int64, r7 = some (.long y9) ∧ Ev (d + 2) (0, 0) MX8_one [.int (nI (x + 1) + nI (b + 1))] h8 (fun r10 h11 => ∃ y12 : Int64, r10 = some (.long y12) ∧ (∃ fs20 : List Value, (h11).1 31 = .inr (7, fs20) ∧ Ev (d + 2) (0, 0) MX8_indexOf [.ref 31, .long (((lN (eA n s) - y6) - y9) + y12)] h11 (fun r13 h14 => ∃ x15 : Int32, r13 = some (.int x15) ∧ (∃ fs19 : List Value, (h14).1 31 = .inr (7, fs19) ∧ Ev (d + 2) (0, 0) MX8_rowsOf [.ref 31, .int (nI m), .int x15] h14 (fun r16 h17 => ∃ y18 : Int64, r16 = some (.long y18) ∧ Wm (d + 3) (0, 0) JX8_cutAndJoined 50 [some (.ref 31), some (.long (lN (eA n s))), none, some (.int (nI m)), some (.int (nI n)), some (.long (lN (toA (ct (pA n s)) (eA n s) n (eT n) W x + ct (pA n s) (x + 1) * cuA (eA n s) (x + 1) (eT n) W ((x + 1) / 2) + jnA (ct (pA n s)) (eA n s) (x + 1) (eT n) W b) + Z * y18)), none, some (.int (nI (x + 1))), some (.int (nI (ct (pA n s) (x + 1)))), some (.int (nI (b + 1) + 1)), none, none, none] [] h17 (fun r h' => h'.1 0 = h.1 0 ∧ K r h')))))))) := by
              intro nz Z eZ
              obtain ⟨s1, s2⟩ := (((tb_sum n hn s hs (x + 1) (by omega) (b + 1) (by omega)).resolve_left (by omega)).resolve_left (by omega)).resolve_left nz
              have b3 : 16 ^ (x + 1 + (b + 1) - 1) ≤ 16 ^ 11 := Nat.pow_le_pow_right (by decide) (by omega)
              refine one16_ev (by omega) (by omega) ⟨_, rfl, ?_⟩
              refine one16_ev (by omega) (by omega) ⟨_, rfl, ?_⟩
              rw [nI_add]
              refine one16_ev (by omega) (by omega) ⟨_, rfl, _, o, ?_⟩
              rw [lN_sub (Nat.le_trans (Nat.le_add_right _ _) s2), lN_sub (hb3 _ _ _ s2), lN_add]
              refine indexOf_ev hn o oL (hb2 _ _ _ _ hup b3) ⟨_, rfl, _, o, ?_⟩
              refine rowsOf_ev hn o oW hm (by omega) ⟨_, rfl, ?_⟩
              have hz : Z = lN (prc (ct (pA n s)) (x + 1) (b + 1) * (x + 1) * (b + 1)) := by
                rw [eZ, pk_mul, pk_mul, nI_l]
                have p1 : prc (ct (pA n s)) (x + 1) (b + 1) ≤ 256 := by
                  unfold prc
                  split
                  · have : ct (pA n s) (x + 1) * (ct (pA n s) (x + 1) - 1) ≤ 16 * 16 := Nat.mul_le_mul (by omega) (by omega)
                    omega
                  · exact Nat.mul_le_mul (show ct (pA n s) (x + 1) ≤ 16 by omega) (show ct (pA n s) (b + 1) ≤ 16 by omega)
                have p2 : prc (ct (pA n s)) (x + 1) (b + 1) * (x + 1) * (b + 1) ≤ 256 * 10 * 10 := Nat.mul_le_mul (Nat.mul_le_mul p1 (by omega)) (by omega)
                omega
              have e : jnA (ct (pA n s)) (eA n s) (x + 1) (eT n) W (b + 1) = jnA (ct (pA n s)) (eA n s) (x + 1) (eT n) W b + prc (ct (pA n s)) (x + 1) (b + 1) * (x + 1) * (b + 1) * W.getD (ixl (eA n s - 16 ^ (x + 1 - 1) - 16 ^ b + 16 ^ (x + 1 + (b + 1) - 1)) (eT n)) 0 := by
                show _ + (if _ then _ else _) = _
                rw [if_pos ⟨by omega, nz⟩]
              rw [e, ← Nat.add_assoc] at nb
              rw [hW, hz, lN_mul, lN_add, nI_1]
              exact nb
            refine bk_X8_cutAndJoined_50 _ _ _ _ _ _ _ _ ⟨fun c => absurd c (lt_f (by omega) (by omega)), fun _ => ⟨fun c => ?_, fun c => ?_⟩⟩
            · have hne : x + 1 ≠ b + 1 := fun w => c (by rw [w])
              have ep : nI (ct (pA n s) (x + 1)) * nI (ct (pA n s) (b + 1)) = nI (prc (ct (pA n s)) (x + 1) (b + 1)) := by
                unfold prc
                rw [pk_mul, if_neg hne]
              refine timesE_ev hn hs (by omega) (by omega) ⟨_, rfl, ?_⟩
              rw [ep]
              refine ⟨fun c2 => zero ?_, fun c2 => some' (fun w => c2 (by rw [w]; decide)) _ rfl⟩
              have := (nI_leI (b := 0) (by omega) (by omega)).mp c2
              omega
            · have heq : x + 1 = b + 1 := nI_inj (by omega) (by omega) c
              have ep : nI (ct (pA n s) (x + 1)) * (nI (ct (pA n s) (x + 1)) - 1) / 2 = nI (prc (ct (pA n s)) (x + 1) (b + 1)) := by
                unfold prc
                rw [if_pos heq, nI_m1 (by omega), pk_mul, show (2 : Int32) = nI 2 from rfl, pk_div _ (by decide) (by decide)]
                have : ct (pA n s) (x + 1) * (ct (pA n s) (x + 1) - 1) ≤ 16 * 16 := Nat.mul_le_mul (by omega) (by omega)
                omega
              rw [ep]
              refine ⟨fun c2 => zero ?_, fun c2 => some' (fun w => c2 (by rw [w]; decide)) _ rfl⟩
              have := (nI_leI (b := 0) (by omega) (by omega)).mp c2
              omega
        have st := (inner (n - x) x (by omega)).resolve_right (by omega)
        have ez : jnA (ct (pA n s)) (eA n s) (x + 1) (eT n) W x = 0 := by
          have : ∀ y, y ≤ x → jnA (ct (pA n s)) (eA n s) (x + 1) (eT n) W y = 0 := by
            intro y
            induction y with
            | zero => exact fun _ => rfl
            | succ y ihy =>
              intro hy
              show _ + (if _ then _ else _) = 0
              rw [ihy (by omega), if_neg (fun w => by omega)]
          exact this x (Nat.le_refl _)
        rw [ez] at st
        exact st
      · have hc : ct (pA n s) (x + 1) = 0 := nI_inj (by have := c16 (x + 1); omega) (by decide) c
        rw [nI_1]
        have e : toA (ct (pA n s)) (eA n s) n (eT n) W (x + 1) = toA (ct (pA n s)) (eA n s) n (eT n) W x := by
          show _ + (if _ then _ else _) = _
          rw [if_pos hc]
          rfl
        rw [e] at nx
        exact nx
  exact outer n 0 (by omega)
end ShapesEv

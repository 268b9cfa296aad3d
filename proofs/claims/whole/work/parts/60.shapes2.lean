/-! the class's Shapes: all of one n -/
def SPS (h : mH) (nf : Nat) : Prop := nf < 11 ∧ SPF h (nI nf) (pT nf).length ∧ SPL h nf (pT nf).length ∧ SPW h nf 10
theorem eA_out {n s : Nat} (hn : n < 11) (hs : (pT n).length ≤ s) : eA n s = 0 := by
  unfold eA
  rw [List.getD_eq_getElem?_getD, List.getElem?_eq_none (by have := (tb_len n hn).1; omega)]
  rfl
section Shapes2
variable {d n : Nat} {h : mH} {K : Option Value → mH → Prop} {nf : Int32} {mn : Nat}
set_option maxRecDepth 4000 in
theorem nextBelow_ev {s : Nat} (hn1 : 1 ≤ n) (hn : n < 11) (hs : s < (pT n).length) (hK : K (some (.long (lN (eA n (s + 1))))) h) : Ev (d + 1) (0, 0) MX8_nextBelow [.ref 31, .long (lN (eA n s)), .int (nI n)] h K := by
  refine en_X8_nextBelow (bk_X8_nextBelow_0 _ _ _ ?_)
  refine timesE_ev hn hs (l := 1) (by omega) (by omega) ⟨_, rfl, ?_⟩
  rw [← tb_nxt n hn s hs] at hK
  have c16 : ∀ l, ct (pA n s) l < 16 := ct_lt (by have := (tb_enc n hn s hs).2.2; omega)
  have hup := tb_up n hn s hs
  have key : ∀ r l, l + r = n + 1 → 2 ≤ l → nbE (ct (pA n s)) (eA n s) r l = nbE (ct (pA n s)) (eA n s) (n - 1) 2 → Wm (d + 1) (0, 0) JX8_nextBelow 10 [none, some (.long (lN (eA n s))), none, some (.int (nI n)), some (.int (nI (ct (pA n s) 1))), some (.int (nI l)), none, none, none, none] [] h (fun r h' => h'.1 0 = h.1 0 ∧ K r h') := by
    intro r
    induction r with
    | zero =>
      intro l hl h2 e
      refine bk_X8_nextBelow_10 _ _ _ _ ⟨fun _ => ⟨rfl, ?_⟩, fun c => absurd (lt_t (by omega) (by omega)) c⟩
      rw [← e] at hK
      exact hK
    | succ r ih =>
      intro l hl h2 e
      have cl := c16 l
      have c1 := c16 1
      refine bk_X8_nextBelow_10 _ _ _ _ ⟨fun c => absurd c (lt_f (by omega) (by omega)), fun _ => ?_⟩
      refine timesE_ev hn hs (by omega) (by omega) ⟨_, rfl, fun c => ?_, fun c => ?_⟩
      · have hc : ct (pA n s) l = 0 := by have := (nI_leI (b := 0) (by omega) (by omega)).mp c; omega
        rw [nI_1]
        refine ih (l + 1) (by omega) (by omega) ?_
        rw [← e]
        show _ = (if _ then _ else _)
        rw [if_pos hc]
      · have hc : ct (pA n s) l ≠ 0 := fun w => c (by rw [w]; decide)
        have hge := ((tb_ge n hn s hs l (by omega)).resolve_left hc).2.resolve_left (by omega)
        have hb3 : ∀ e p q : Nat, p + q ≤ e → q ≤ e - p := by omega
        have nz : ¬ nI l - 1 = 0 := by
          rw [nI_m1 (by omega)]
          exact ne_f (a := l - 1) (b := 0) (by omega) (by omega) (by omega)
        have val : (lN (eA n s) - lN (16 ^ (l - 1)) - (nI (ct (pA n s) 1)).toInt64 * lN (16 ^ (1 - 1))) + ((nI l + nI (ct (pA n s) 1)) / (nI l - 1)).toInt64 * lN (16 ^ (l - 1 - 1)) = lN (eA n s - 16 ^ (l - 1) - ct (pA n s) 1 + (l + ct (pA n s) 1) / (l - 1) * 16 ^ (l - 2)) := by
          rw [nI_m1 (by omega), nI_add, pk_div (by omega) (by omega) (by omega), nI_l (by omega), nI_l (by have := Nat.div_le_self (l + ct (pA n s) 1) (l - 1); omega), lN_mul, lN_mul, lN_sub (Nat.le_trans (Nat.le_add_right _ _) hge), show ct (pA n s) 1 * 16 ^ (1 - 1) = ct (pA n s) 1 by rw [show 16 ^ (1 - 1) = 1 from rfl, Nat.mul_one], lN_sub (hb3 _ _ _ hge), lN_add, show l - 1 - 1 = l - 2 by omega]
        have rem : nI l + nI (ct (pA n s) 1) - (nI l + nI (ct (pA n s) 1)) / (nI l - 1) * (nI l - 1) = nI ((l + ct (pA n s) 1) % (l - 1)) := by
          rw [nI_m1 (by omega), nI_add, pk_rem (by omega) (by omega) (by omega)]
        have hr := Nat.mod_lt (l + ct (pA n s) 1) (show 0 < l - 1 by omega)
        have unf : nbE (ct (pA n s)) (eA n s) (r + 1) l = eA n s - 16 ^ (l - 1) - ct (pA n s) 1 + (l + ct (pA n s) 1) / (l - 1) * 16 ^ (l - 2) + (if (l + ct (pA n s) 1) % (l - 1) = 0 then 0 else 16 ^ ((l + ct (pA n s) 1) % (l - 1) - 1)) := by
          show (if _ then _ else _) = _
          rw [if_neg hc]
        rw [← e, unf] at hK
        refine ⟨nz, ?_⟩
        refine one16_ev (by omega) (by omega) ⟨_, rfl, ?_⟩
        refine one16_ev (l := 1) (by omega) (by omega) ⟨_, rfl, nz, ?_⟩
        have o3 : ∀ {K' : Option Value → mH → Prop}, K' (some (.long (lN (16 ^ (l - 1 - 1))))) h → Ev d (0, 0) MX8_one [.int (nI l - 1)] h K' := fun hk => by
          rw [nI_m1 (by omega)]
          exact one16_ev (by omega) (by omega) hk
        refine o3 ⟨_, rfl, ?_⟩
        rw [rem, val]
        refine ⟨fun c2 => ⟨rfl, ?_⟩, fun c2 => ?_⟩
        · have z : (l + ct (pA n s) 1) % (l - 1) = 0 := by have := (nI_leI (b := 0) (by omega) (by omega)).mp c2; omega
          rw [if_pos z, Nat.add_zero] at hK
          exact hK
        · have z : ¬ (l + ct (pA n s) 1) % (l - 1) = 0 := fun w => c2 (by rw [w]; decide)
          refine one16_ev (by omega) (by omega) ⟨_, rfl, rfl, ?_⟩
          rw [if_neg z] at hK
          rw [lN_add]
          exact hK
  exact key (n - 1) 2 (by omega) (by omega) rfl
theorem SPF.pm' (o : SPF h nf mn) {x : Nat} : ∃ h', m_put h 31 7 3 (.int (nI x)) = some h' ∧ Fr [31] h h' ∧ SPF h' nf x := ⟨_, put_at o (by decide : 3 < 4), Fr.up (List.mem_singleton.mpr rfl), by unfold SPF; exact up_s⟩
set_option maxRecDepth 4000 in
theorem listAll_ev {F : Nat → Int64} (hn1 : 1 ≤ n) (hn : n < 11) (o : SPF h nf mn) (oF : h.1 32 = .inl (1, 42, .inr (.inl F))) (hK : ∀ h', Fr [31, 32] h h' → SPF h' nf (pT n).length → SPL h' n (pT n).length → K none h') : Ev (d + 2) (0, 0) MX8_listAll [.ref 31, .int (nI n)] h K := by
  refine en_X8_listAll (bk_X8_listAll_0 _ _ ?_)
  refine one16_ev (by omega) (by omega) ⟨_, rfl, ?_⟩
  obtain ⟨h4, e4, f4, o4⟩ := o.pm' (x := 0)
  refine ⟨h4, e4, ?_⟩
  rw [← tb_fst n hn hn1]
  obtain ⟨l1, l2, l3⟩ := tb_len n hn
  have key : ∀ r s h', s + r = (pT n).length → Fr [31, 32] h h' → SPF h' nf s → SPL h' n s → Wm (d + 2) (0, 0) JX8_listAll 13 [some (.ref 31), some (.int (nI n)), some (.long (lN (eA n s))), none, some (.int (nI s))] [] h' (fun r h' => h'.1 0 = h.1 0 ∧ K r h') := by
    intro r
    induction r with
    | zero =>
      intro s h' hs f o oL
      have hs : s = (pT n).length := by omega
      subst hs
      have fin : h'.1 0 = h.1 0 ∧ K none h' := ⟨f.z (by decide), hK h' f o oL⟩
      refine bk_X8_listAll_13 _ _ _ _ ⟨fun _ => fin, fun _ => ⟨fun _ => fin, fun c => absurd ?_ c⟩⟩
      rw [eA_out hn (Nat.le_refl _), cmp_z]
      rfl
    | succ r ih =>
      intro s h' hs f o oL
      have hsl : s < (pT n).length := by omega
      have c4 : ¬ (42 : Int32) ≤ nI s := by
        rw [show (42 : Int32) = nI 42 by decide]
        exact le_f (by omega) (by decide)
      have cz : ¬ lg_cmp (lN (eA n s)) 0 = 0 := fun w => by
        rw [cmp_z] at w
        have := tb_up n hn s hsl
        exact (tb_enc n hn s hsl).2.1 (lN_inj (b := 0) (by omega) (by decide) w)
      obtain ⟨F, hF, hFq⟩ := oL
      refine bk_X8_listAll_13 _ _ _ _ ⟨fun c => absurd c c4, fun _ => ⟨fun c => absurd c cz, fun _ => ⟨_, o.f0, _, ls_at hF (by omega) (by decide), ?_⟩⟩⟩
      obtain ⟨h2, hh2⟩ : ∃ h2 : mH, h2 = (m_up h'.1 32 (.inl (1, 42, .inr (.inl (vp_updL F s (lN (eA n s)))))), h'.2) := ⟨_, rfl⟩
      rw [← hh2]
      have f2 : Fr [31, 32] h' h2 := by rw [hh2]; exact Fr.up (by decide)
      have o2 : SPF h2 nf s := by rw [hh2]; exact (up_n (by decide)).trans o
      have a2 : h2.1 32 = .inl (1, 42, .inr (.inl (vp_updL F s (lN (eA n s))))) := by rw [hh2]; exact up_s
      obtain ⟨h5, e5, f5, o5⟩ := o2.pm' (x := s + 1)
      refine ⟨_, o2.f3, h5, by rw [nI_1]; exact e5, _, o5, ?_⟩
      refine nextBelow_ev hn1 hn hsl ⟨_, rfl, ?_⟩
      rw [nI_1]
      refine ih (s + 1) h5 (by omega) (f.tr (f2.tr (f5.wk (by simp)))) o5 ⟨_, f5.at a2 (by decide), fun s' hs' => ?_⟩
      by_cases w : s' = s
      · simp [vp_updL, w]
      · simp [vp_updL, w, hFq s' (by omega)]
  exact key (pT n).length 0 h4 (by omega) (f4.wk (by simp)) o4 ⟨F, f4.at oF (by decide), fun s hs => absurd hs (by omega)⟩
set_option maxRecDepth 4000 in
theorem prepare_ev {n0 : Nat} (hn1 : 1 ≤ n) (hn : n < 11) (o : SPS h n0) (hK : ∀ h', Fr [31, 32, 33] h h' → SPS h' n → K none h') : Ev (d + 4) (0, 0) MX8_prepare [.ref 31, .int (nI n)] h K := by
  obtain ⟨hn0, oF, oL, oW⟩ := o
  obtain ⟨l1, l2, l3⟩ := tb_len n hn
  refine en_X8_prepare (bk_X8_prepare_0 _ _ ⟨_, oF.f2, fun c => ⟨rfl, ?_⟩, fun c => ⟨fun c2 => absurd c2 (lt_f (a := n) (b := 1) (by omega) (by omega)), fun _ => ⟨fun _ => ?_, fun c2 => absurd (le_t (b := 10) (by omega) (by decide)) c2⟩⟩⟩)
  · have : n = n0 := nI_inj (by omega) (by omega) c
    subst this
    exact hK h Fr.rf ⟨hn, oF, oL, oW⟩
  · refine ⟨_, put_at oF (by decide : 2 < 4), ?_⟩
    obtain ⟨h2, hh2⟩ : ∃ h2 : mH, h2 = (m_up h.1 31 (.inr (7, [.ref 32, .ref 33, .int (nI n), .int (nI (pT n0).length)])), h.2) := ⟨_, rfl⟩
    have hh2' : ((m_up h.1 31 (.inr (7, [Value.ref 32, .ref 33, .int (nI n0), .int (nI (pT n0).length)].set 2 (.int (nI n)))), h.2) : mH) = h2 := by rw [hh2]; rfl
    rw [hh2']
    have f2 : Fr [31, 32, 33] h h2 := by rw [hh2]; exact Fr.up (by decide)
    have o2 : SPF h2 (nI n) (pT n0).length := by rw [hh2]; exact up_s
    obtain ⟨F0, hF0, -⟩ := oL
    obtain ⟨G0, hG0, -⟩ := oW
    have a32 : h2.1 32 = .inl (1, 42, .inr (.inl F0)) := by rw [hh2]; exact (up_n (by decide)).trans hF0
    have a33 : h2.1 33 = .inl (1, 420, .inr (.inl G0)) := by rw [hh2]; exact (up_n (by decide)).trans hG0
    refine ⟨_, o2, ?_⟩
    refine listAll_ev (d := d + 1) hn1 hn o2 a32 (fun h4 f4 o4 oL4 => ⟨rfl, _, o4.f1, ?_⟩)
    have b33 : h4.1 33 = .inl (1, 420, .inr (.inl G0)) := f4.at a33 (by decide)
    refine fillL_ev (by decide) b33 (by decide) (fun h7 g7 f7 e7 z7 => ⟨rfl, ?_⟩)
    have F7 : Fr [31, 32, 33] h h7 := f2.tr ((f4.wk (by simp)).tr (f7.wk (by simp)))
    have o7 : SPF h7 (nI n) (pT n).length := f7.at o4 (by decide)
    have oL7 : SPL h7 n (pT n).length := by obtain ⟨F, a, b⟩ := oL4; exact ⟨F, f7.at a (by decide), b⟩
    have hl := l3 hn1
    refine ⟨_, o7.f3, fun c2 => absurd c2 (le_f (a := (pT n).length) (b := 0) (by omega) (by omega)), fun _ => ⟨_, o7.f1, _, o7.f3, ?_⟩⟩
    rw [nI_m1 (by omega)]
    refine ⟨_, ls_at e7 (by omega) (by decide), ?_⟩
    obtain ⟨h8, hh8⟩ : ∃ h8 : mH, h8 = (m_up h7.1 33 (.inl (1, 420, .inr (.inl (vp_updL g7 ((pT n).length - 1) 1)))), h7.2) := ⟨_, rfl⟩
    rw [← hh8]
    have f8 : Fr [33] h7 h8 := by rw [hh8]; exact Fr.up (by decide)
    have o8 : SPF h8 (nI n) (pT n).length := f8.at o7 (by decide)
    have oL8 : SPL h8 n (pT n).length := by obtain ⟨F, a, b⟩ := oL7; exact ⟨F, f8.at a (by decide), b⟩
    have oW8 : SPW h8 n 1 := by
      refine ⟨_, by rw [hh8]; exact up_s, fun m hm s hs => ?_⟩
      rw [show m = 0 by omega, tb_w0 n hn s hs, Nat.mul_zero, Nat.zero_add]
      by_cases w : s + 1 = (pT n).length
      · rw [if_pos w, show s = (pT n).length - 1 by omega]
        simp [vp_updL]
        rfl
      · rw [if_neg w]
        have : s ≠ (pT n).length - 1 := by omega
        simp [vp_updL, this, z7 s (by omega)]
        rfl
    have outer : ∀ r m h', m + r = 10 → 1 ≤ m → Fr [31, 32, 33] h h' → SPF h' (nI n) (pT n).length → SPL h' n (pT n).length → SPW h' n m → Wm (d + 4) (0, 0) JX8_prepare 59 [some (.ref 31), some (.int (nI n)), some (.int (nI m)), none] [] h' (fun r h' => h'.1 0 = h.1 0 ∧ K r h') := by
      intro r
      induction r with
      | zero =>
        intro m h' hm h1 f o oL oW
        have hm : m = 10 := by omega
        subst hm
        exact bk_X8_prepare_59 _ _ _ ⟨fun _ => ⟨f.z (by decide), hK h' f ⟨hn, o, oL, oW⟩⟩, fun c => absurd (lt_t (a := 9) (b := 10) (by omega) (by omega)) c⟩
      | succ r ih =>
        intro m h' hm h1 f o oL oW
        refine bk_X8_prepare_59 _ _ _ ⟨fun c => absurd c (lt_f (a := 9) (b := m) (by omega) (by omega)), fun _ => ?_⟩
        have inner : ∀ q s h', s + q = (pT n).length → Fr [31, 32, 33] h h' → SPF h' (nI n) (pT n).length → SPL h' n (pT n).length → (∃ G : Nat → Int64, h'.1 33 = .inl (1, 420, .inr (.inl G)) ∧ (∀ m', m' < m → ∀ s', s' < (pT n).length → G (42 * m' + s') = lN (wA n m' s')) ∧ ∀ s', s' < s → G (42 * m + s') = lN (wA n m s')) → Wm (d + 4) (0, 0) JX8_prepare 67 [some (.ref 31), some (.int (nI n)), some (.int (nI m)), some (.int (nI s))] [] h' (fun r h' => h'.1 0 = h.1 0 ∧ K r h') := by
          intro q
          induction q with
          | zero =>
            intro s h' hs f o oL oG
            refine bk_X8_prepare_67 _ _ _ _ ⟨_, o.f3, fun _ => ?_, fun c => absurd (le_t (by omega) (by omega)) c⟩
            rw [nI_1]
            obtain ⟨G, g1, g2, g3⟩ := oG
            refine ih (m + 1) h' (by omega) (by omega) f o oL ⟨G, g1, fun m' hm' s' hs' => ?_⟩
            by_cases w : m' = m
            · rw [w]; exact g3 s' (by omega)
            · exact g2 m' (by omega) s' hs'
          | succ q ihq =>
            intro s h' hs f o oL oG
            have hsl : s < (pT n).length := by omega
            obtain ⟨G, g1, g2, g3⟩ := oG
            obtain ⟨F, hF, hFq⟩ := oL
            refine bk_X8_prepare_67 _ _ _ _ ⟨_, o.f3, fun c => absurd c (le_f (by omega) (by omega)), fun _ => ⟨_, o.f1, _, o.f0, _, ll_at hF (by omega) (by decide), _, o, ?_⟩⟩
            rw [hFq s hsl, nI_m1 (by omega)]
            refine cutAndJoined_ev (M := m) hn1 hn hsl o ⟨F, hF, hFq⟩ ⟨G, g1, g2⟩ (by omega) (by omega) ⟨_, rfl, ?_⟩
            rw [n42, show m - 1 + 1 = m by omega]
            refine ⟨_, ls_at g1 (by omega) (by decide), ?_⟩
            rw [nI_1]
            refine ihq (s + 1) _ (by omega) (f.tr (Fr.up (by decide))) ((up_n (by decide)).trans o) ⟨F, (up_n (by decide)).trans hF, hFq⟩ ⟨_, up_s, fun m' hm' s' hs' => ?_, fun s' hs' => ?_⟩
            · have : 42 * m' + s' ≠ 42 * m + s := by omega
              simp [vp_updL, this, g2 m' hm' s' hs']
            · by_cases w : s' = s
              · simp [vp_updL, w]
              · have : 42 * m + s' ≠ 42 * m + s := by omega
                simp [vp_updL, w, g3 s' (by omega)]
        obtain ⟨G, g1, g2⟩ := oW
        exact inner (pT n).length 0 h' (by omega) f o oL ⟨G, g1, g2, fun s' hs' => absurd hs' (by omega)⟩
    exact outer 9 1 h8 (by omega) (by omega) (F7.tr (f8.wk (by simp))) o8 oL8 oW8
end Shapes2

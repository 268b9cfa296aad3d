/-! rows -/
/-- a row's object: its items' cell, lane, size, items, room -/
def RO (h : mH) (r it : Nat) (ln : Int32) (s : Nat) (f : Nat → Int32) (cap : Nat) : Prop := h.1 r = .inr (6, [.ref it, .int ln, .int (nI s)]) ∧ h.1 it = .inl (0, cap, .inl f) ∧ s ≤ cap ∧ cap ≤ 96
section RowEv
variable {d r it s cap : Nat} {ln : Int32} {f : Nat → Int32} {h : mH} {K : Option Value → mH → Prop}
theorem RO.fr {S : List Nat} {h1 : mH} (o : RO h r it ln s f cap) (g : Fr S h h1) (hA : r ∉ S) (hB : it ∉ S) : RO h1 r it ln s f cap := ⟨g.at o.1 hA, g.at o.2.1 hB, o.2.2⟩
theorem RO.fi (o : RO h r it ln s f cap) : m_fld h r [6] 0 = some (.ref it) := fld_at o.1 (by decide) rfl
theorem RO.fl (o : RO h r it ln s f cap) : m_fld h r [6] 1 = some (.int ln) := fld_at o.1 (by decide) rfl
theorem RO.fs (o : RO h r it ln s f cap) : m_fld h r [6] 2 = some (.int (nI s)) := fld_at o.1 (by decide) rfl
theorem sub_lt {s m i : Nat} (hs : s ≤ 1000) (hm : m < 2147483648) (hi : i < 2147483648) : (nI s - nI m < nI i) ↔ s < i + m := by
  rw [Int32.lt_iff_toInt_lt, Int32.toInt_sub, nI_toInt (by omega), nI_toInt (by omega), nI_toInt (by omega), Int.bmod_eq_of_le (by omega) (by omega)]
  omega
/-- n places from one on lie in a row of s -/
def hld (s : Nat) (x y : Int32) : Prop := ∃ i m : Nat, x = nI i ∧ y = nI m ∧ i + m ≤ s
theorem holds_ev {x y : Int32} (o : RO h r it ln s f cap) (h1 : ∀ i m : Nat, x = nI i → y = nI m → i + m ≤ s → K (some (.int 1)) h) (h0 : ¬ hld s x y → K (some (.int 0)) h) : Ev d (0, 0) MX7_holds [.ref r, .int x, .int y] h K := by
  have hs := o.2.2
  have small : ∀ {x : Int32} {i : Nat}, x = nI i → i ≤ 96 → ¬ x < 0 := fun e hi => by rw [e]; exact nI_pos (by omega)
  refine en_X7_holds (bk_X7_holds_0 _ _ _ ⟨fun q => ⟨rfl, h0 ?_⟩, fun q => ⟨fun q2 => ⟨rfl, h0 ?_⟩, fun q2 => ⟨_, o.fs, ?_⟩⟩⟩)
  · rintro ⟨i, m, e1, e2, e3⟩
    exact small e1 (by omega) q
  · rintro ⟨i, m, e1, e2, e3⟩
    exact small e2 (by omega) q2
  · obtain ⟨i, hi, rfl⟩ := nI_of q
    obtain ⟨m, hm, rfl⟩ := nI_of q2
    rw [sub_lt (by omega) (by omega) (by omega)]
    refine ⟨fun q3 => ⟨rfl, h0 ?_⟩, fun q3 => ⟨rfl, h1 i m rfl rfl (by omega)⟩⟩
    rintro ⟨i', m', e1, e2, e3⟩
    have := nI_inj (by omega) (by omega) e1
    have := nI_inj (by omega) (by omega) e2
    omega
theorem item_ev {i : Nat} (o : RO h r it ln s f cap) (hi : i < s) (hK : K (some (.int (f i))) h) : Ev (d + 1) (0, 0) MX7_item [.ref r, .int (nI i)] h K := by
  have hs := o.2.2
  refine en_X7_item (bk_X7_item_0 _ _ ⟨_, o.1, ?_⟩)
  refine holds_ev o (fun i' m _ _ _ => ⟨_, rfl, fun q => absurd q (by decide), fun _ => ⟨_, o.fi, _, il_at o.2.1 (by omega) (by omega), rfl, hK⟩⟩) (fun q => absurd ⟨i, 1, rfl, rfl, by omega⟩ q)
theorem missing_ev (o : RO h r it ln s f cap) (h1 : ln = -1 → K (some (.int 1)) h) (h0 : ¬ ln = -1 → K (some (.int 0)) h) : Ev d (0, 0) MX7_missing [.ref r] h K :=
  en_X7_missing (bk_X7_missing_0 _ ⟨_, o.fl, fun q => ⟨rfl, h0 q⟩, fun q => ⟨rfl, h1 q⟩⟩)
theorem fillI_ev {x : Int32} (hit : it ≠ 0) (hc : h.1 it = .inl (0, cap, .inl f)) (hcap : cap < 2147483648) (hK : ∀ g, (∀ i, i < cap → g i = x) → K none (m_up h.1 it (.inl (0, cap, .inl g)), h.2)) : Ev d (0, 0) MJ7_fill_53178 [.ref it, .int x] h K := by
  refine en_J7_fill_53178 (bk_J7_fill_53178_0 _ _ ⟨_, len_I hc, ?_⟩)
  have hl := dn (n := cap) (fun j => Wm d (0, 0) JJ7_fill_53178 5 [some (.ref it), some (.int x), some (.int (nI j)), some (.int (nI cap))] [] (m_up h.1 it (.inl (0, cap, .inl fun i => if i < j then x else f i)), h.2) (fun r h' => h'.1 0 = h.1 0 ∧ K r h')) ?_ ?_ 0 (Nat.zero_le _)
  · have e : ((m_up h.1 it (.inl (0, cap, .inl fun i => if i < 0 then x else f i)), h.2) : mH) = h := by
      refine Prod.ext (funext fun y => ?_) rfl
      by_cases hy : y = it
      · subst hy
        show m_up h.1 y _ y = _
        rw [m_up_s, hc]
        simp
      · exact m_up_n _ _ hy
    rw [e] at hl
    exact hl
  · exact bk_J7_fill_53178_5 _ _ _ _ ⟨fun _ => ⟨m_up_n _ _ (Ne.symm hit), hK _ (fun i hi => by simp [hi])⟩, fun q => absurd (le_t (Nat.le_refl _) (by omega)) q⟩
  · intro j hj ih
    refine bk_J7_fill_53178_5 _ _ _ _ ⟨fun q => absurd q (le_f hj (by omega)), fun _ => ⟨_, is_at up_s hj hcap, ?_⟩⟩
    rw [nI_1]
    have e : ((m_up (m_up h.1 it (.inl (0, cap, .inl fun i => if i < j then x else f i)), h.2).1 it (.inl (0, cap, .inl (upd (fun i => if i < j then x else f i) j x))), (m_up h.1 it (.inl (0, cap, .inl fun i => if i < j then x else f i)), h.2).2) : mH) = (m_up h.1 it (.inl (0, cap, .inl fun i => if i < j + 1 then x else f i)), h.2) := by
      show ((m_up (m_up h.1 it _) it _, h.2) : mH) = _
      rw [up_up]
      have : upd (fun i => if i < j then x else f i) j x = fun i => if i < j + 1 then x else f i := by
        funext i
        by_cases w : i = j
        · subst w; simp [upd]
        · by_cases w2 : i < j
          · simp [upd, w, w2, show i < j + 1 by omega]
          · simp [upd, w, w2, show ¬ i < j + 1 by omega]
      rw [this]
    rw [e]
    exact ih
theorem begin_ev {l2 : Int32} {n : Nat} (hr0 : r ≠ 0) (hi0 : it ≠ 0) (hri : r ≠ it) (o : RO h r it ln s f cap) (hn : n ≤ cap) (hK : ∀ h' g, Fr [r, it] h h' → RO h' r it l2 n g cap → (∀ i, i < cap → g i = 0) → K none h') : Ev (d + 1) (0, 0) MX7_begin [.ref r, .int l2, .int (nI n)] h K := by
  have hs := o.2.2
  refine en_X7_begin (bk_X7_begin_0 _ _ _ ⟨fun q => absurd q (nI_pos (by omega)), fun _ => ⟨_, o.fi, _, len_I o.2.1, fun _ => ?_, fun q => absurd (le_t hn (by omega)) q⟩⟩)
  refine ⟨_, put_at o.1 (by decide : 1 < 3), _, put_at up_s (by decide : 2 < 3), it, fld_at up_s (by decide) rfl, ?_⟩
  refine fillI_ev (cap := cap) (f := f) hi0 ?_ (by omega) (fun g hg => ⟨rfl, ?_, hK _ g ?_ ⟨?_, m_up_s _ _ _, hn, hs.2⟩ hg⟩)
  · show m_up (m_up h.1 r _) r _ it = _
    rw [m_up_n _ _ (Ne.symm hri), m_up_n _ _ (Ne.symm hri)]
    exact o.2.1
  · show m_up (m_up (m_up h.1 r _) r _) it _ 0 = _
    rw [m_up_n _ _ (Ne.symm hi0), m_up_n _ _ (Ne.symm hr0), m_up_n _ _ (Ne.symm hr0)]
  · refine ⟨rfl, fun x hx => ?_⟩
    simp at hx
    show m_up (m_up (m_up h.1 r _) r _) it _ x = _
    rw [m_up_n _ _ hx.2, m_up_n _ _ hx.1, m_up_n _ _ hx.1]
  · show m_up (m_up (m_up h.1 r _) r _) it _ r = _
    rw [m_up_n _ _ hri, m_up_s]
    rfl
theorem end_ev (hr0 : r ≠ 0) (hri : r ≠ it) (o : RO h r it ln s f cap) (hK : ∀ h', Fr [r] h h' → RO h' r it (-1) 0 f cap → K none h') : Ev d (0, 0) MX7_end [.ref r] h K := by
  have hs := o.2.2
  refine en_X7_end (bk_X7_end_0 _ ⟨_, put_at o.1 (by decide : 1 < 3), _, put_at up_s (by decide : 2 < 3), ?_, hK _ ⟨rfl, fun x hx => ?_⟩ ⟨m_up_s _ _ _, ?_, by omega, hs.2⟩⟩)
  · exact (m_up_n _ _ (Ne.symm hr0)).trans (m_up_n _ _ (Ne.symm hr0))
  · simp at hx
    exact (m_up_n _ _ hx).trans (m_up_n _ _ hx)
  · exact ((m_up_n _ _ (Ne.symm hri)).trans (m_up_n _ _ (Ne.symm hri))).trans o.2.1
/-- a number as a lane holds it -/
def lnv (ln v : Int32) : Int32 := if ln = 0 then v.toInt8.toInt32 else if ln = 1 then v.toInt16.toInt32 else v
theorem put_ev {i : Nat} {v : Int32} (hi0 : it ≠ 0) (hri : r ≠ it) (o : RO h r it ln s f cap) (hi : i < s) (hK : ∀ h', Fr [it] h h' → RO h' r it ln s (upd f i (lnv ln v)) cap → K (some (.int (lnv ln v))) h') : Ev (d + 1) (0, 0) MX7_put [.ref r, .int (nI i), .int v] h K := by
  have hs := o.2.2
  refine en_X7_put (bk_X7_put_0 _ _ _ ⟨_, o.1, ?_⟩)
  refine holds_ev o (fun i' m _ _ _ => ⟨_, rfl, fun _ => ⟨_, o.fi, _, o.fl, ?_⟩, fun q => absurd q (by decide)⟩) (fun q => absurd ⟨i, 1, rfl, rfl, by omega⟩ q)
  have fin : ∀ w, w = lnv ln v → ∃ h7 : mH, m_is h it (nI i) w = some h7 ∧ (∃ r8 : Nat, m_fld h7 r [6] 0 = some (.ref r8) ∧ (∃ x9 : Int32, m_il h7 r8 (nI i) = some x9 ∧ (h7.1 0 = h.1 0 ∧ K (some (.int x9)) h7))) := by
    intro w hw
    have o7 : RO (m_up h.1 it (.inl (0, cap, .inl (upd f i w))), h.2) r it ln s (upd f i w) cap := ⟨(up_n hri).trans o.1, up_s, hs⟩
    refine ⟨_, is_at o.2.1 (by omega) (by omega), it, o7.fi, w, ?_, m_up_n _ _ (Ne.symm hi0), ?_⟩
    · rw [il_at o7.2.1 (by omega) (by omega)]
      simp [upd]
    · rw [hw] at o7 ⊢
      exact hK _ (Fr.up (List.mem_singleton.mpr rfl)) o7
  refine ⟨fun q => ⟨_, o.fl, fun q2 => ?_, fun q2 => ?_⟩, fun q => ?_⟩
  · exact fin v (by unfold lnv; rw [if_neg q, if_neg q2])
  · exact fin _ (by unfold lnv; rw [if_neg q, if_pos q2])
  · exact fin _ (by unfold lnv; rw [if_pos q])
theorem add_ev {v : Int32} (hr0 : r ≠ 0) (hi0 : it ≠ 0) (hri : r ≠ it) (o : RO h r it ln s f cap) (h1 : s < cap → ∀ h', Fr [r, it] h h' → RO h' r it ln (s + 1) (upd f s v) cap → K none h') (h0 : s = cap → K none h) : Ev d (0, 0) MX7_add [.ref r, .int v] h K := by
  have hs := o.2.2
  refine en_X7_add (bk_X7_add_0 _ _ ⟨_, o.fs, _, o.fi, _, len_I o.2.1, fun q => ⟨rfl, h0 ?_⟩, fun q => ?_⟩)
  · have := (nI_leI (by omega) (by omega)).mp q
    omega
  · have hlt : s < cap := by
      rcases Nat.lt_or_ge s cap with w | w
      · exact w
      · exact absurd (le_t w (by omega)) q
    have o7 : RO (m_up h.1 it (.inl (0, cap, .inl (upd f s v))), h.2) r it ln s (upd f s v) cap := ⟨(up_n hri).trans o.1, up_s, hs⟩
    refine ⟨_, o.fi, _, o.fs, _, is_at o.2.1 hlt (by omega), _, o7.fs, _, put_at o7.1 (by decide : 2 < 3), ?_, h1 hlt _ ⟨rfl, fun x hx => ?_⟩ ⟨?_, ?_, hlt, hs.2⟩⟩
    · exact (m_up_n _ _ (Ne.symm hr0)).trans (m_up_n _ _ (Ne.symm hi0))
    · simp at hx
      exact (m_up_n _ _ hx.1).trans (m_up_n _ _ hx.2)
    · rw [nI_1]
      exact m_up_s _ _ _
    · exact (m_up_n _ _ (Ne.symm hri)).trans (m_up_s _ _ _)
theorem take_ev {r2 it2 s2 cap2 i j n : Nat} {ln2 : Int32} {f2 : Nat → Int32} (hi0 : it ≠ 0) (hri : r ≠ it) (o : RO h r it ln s f cap) (o2 : RO h r2 it2 ln2 s2 f2 cap2) (hj : j + n ≤ s) (hi : i + n ≤ s2) (hK : ∀ h', Fr [it] h h' → RO h' r it ln s (va_cpy f2 f i j n) cap → K none h') : Ev (d + 1) (0, 0) MX7_take [.ref r, .int (nI j), .ref r2, .int (nI i), .int (nI n)] h K := by
  have hs := o.2.2
  have hs2 := o2.2.2
  refine en_X7_take (bk_X7_take_0 _ _ _ _ _ ⟨_, o.1, ?_⟩)
  refine holds_ev o (fun i' m _ _ _ => ⟨_, rfl, fun q => absurd q (by decide), fun _ => ⟨_, o2.1, ?_⟩⟩) (fun q => absurd ⟨j, n, rfl, rfl, hj⟩ q)
  refine holds_ev o2 (fun i' m _ _ _ => ⟨_, rfl, fun q => absurd q (by decide), fun _ => ⟨_, o2.fi, _, o.fi, cap2, cap, i, j, n, f2, f, o2.2.1, o.2.1, rfl, rfl, rfl, by omega, by omega, by omega, by omega, fun h16 e => ?_⟩⟩) (fun q => absurd ⟨i, n, rfl, rfl, hi⟩ q)
  subst e
  exact ⟨m_up_n _ _ (Ne.symm hi0), hK _ (Fr.up (List.mem_singleton.mpr rfl)) ⟨(up_n hri).trans o.1, up_s, hs⟩⟩
/-- n items from one on are an order, as both look: bits that were met -/
def ords (n : Nat) (g : Nat → Int32) : Prop := ∃ p : Nat → Nat, pm n p ∧ ∀ i, i < n → g i = nI (p i)
theorem orderFrom_ev {i n : Nat} (hn : n ≤ 12) (o : RO h r it ln s f cap) (hin : i + n ≤ s) (h1 : ∀ p : Nat → Nat, pm n p → (∀ x, x < n → f (i + x) = nI (p x)) → K (some (.long (PK n p))) h) (h0 : ¬ ords n (fun x => f (i + x)) → K (some (.long (-1))) h) : Ev (d + 2) (0, 0) MX7_orderFrom [.ref r, .int (nI i), .int (nI n)] h K := by
  have hs := o.2.2
  refine en_X7_orderFrom (bk_X7_orderFrom_0 _ _ _ ?_)
  have key : ∀ q x (p : Nat → Nat) (m : Nat), x + q = n → m < 4096 → (∀ y, y < x → p y < n) → (∀ y z, y < x → z < x → p y = p z → y = z) → (∀ y, y < x → f (i + y) = nI (p y)) → (∀ z, m.testBit z = true ↔ ∃ y, y < x ∧ p y = z) →
      Wm (d + 2) (0, 0) JX7_orderFrom 8 [some (.ref r), some (.int (nI i)), some (.int (nI n)), some (.long (lN (pk (rs x p)))), none, some (.int (nI m)), some (.int (nI x)), none] [] h (fun r h' => h'.1 0 = h.1 0 ∧ K r h') := by
    intro q
    induction q with
    | zero =>
      intro x p m hx hm hp1 hp2 hp3 hb
      have hx : x = n := by omega
      subst hx
      exact bk_X7_orderFrom_8 _ _ _ _ _ _ ⟨fun _ => ⟨rfl, h1 p ⟨hp1, fun y z hy hz => hp2 y z hy hz⟩ hp3⟩, fun c => absurd (le_t (Nat.le_refl _) (by omega)) c⟩
    | succ q ih =>
      intro x p m hx hm hp1 hp2 hp3 hb
      refine bk_X7_orderFrom_8 _ _ _ _ _ _ ⟨fun c => absurd c (le_f (by omega) (by omega)), fun _ => ⟨_, o.1, ?_⟩⟩
      rw [nI_add]
      refine item_ev o (by omega) ⟨_, rfl, fun c => ⟨rfl, h0 ?_⟩, fun c => ?_⟩
      · rintro ⟨p', hp', e⟩
        have e1 : f (i + x) = nI (p' x) := e x (by omega)
        rw [e1] at c
        exact absurd c (nI_pos (by have := hp'.1 x (by omega); omega))
      · obtain ⟨v, hv, ev⟩ := nI_of c
        rw [ev]
        refine ⟨fun c2 => ⟨rfl, h0 ?_⟩, fun c2 => ?_⟩
        · rintro ⟨p', hp', e⟩
          have e1 := e x (by omega)
          have h2 := hp'.1 x (by omega)
          have e2 : v = p' x := nI_inj (by omega) (by omega) (ev.symm.trans e1)
          have := (nI_leI (by omega) (by omega)).mp c2
          omega
        · have hvn : v < n := by
            rcases Nat.lt_or_ge v n with w | w
            · exact w
            · exact absurd (le_t w (by omega)) c2
          rw [get_bit (by omega) (by omega)]
          by_cases w : m.testBit v = true
          · rw [if_pos w]
            refine ⟨fun c3 => absurd c3 (ne_f (a := 1) (b := 0) (by decide) (by decide) (by decide)), fun _ => ⟨rfl, h0 ?_⟩⟩
            rintro ⟨p', hp', e⟩
            obtain ⟨y, hy, ey⟩ := (hb v).mp w
            have e1 := e x (by omega)
            have e2 := e y (by omega)
            have h2 := hp'.1 x (by omega)
            have h3 := hp'.1 y (by omega)
            have q1 : v = p' x := nI_inj (by omega) (by omega) (ev.symm.trans e1)
            have q2 : p y = p' y := nI_inj (by omega) (by omega) ((hp3 y hy).symm.trans e2)
            have := hp'.2 y x (by omega) (by omega) (by omega)
            omega
          · rw [if_neg w]
            refine ⟨fun _ => ?_, fun c3 => absurd rfl c3⟩
            have hfree : ∀ y, y < x → p y ≠ v := fun y hy e => w ((hb v).mpr ⟨y, hy, e⟩)
            refine with_ev (rs_lt (by decide) (fun y hy => by have := hp1 y hy; omega)) (by omega) (by omega) (rs_out p (Nat.le_refl _)) ⟨_, rfl, ?_⟩
            rw [set_bit (by omega), nI_1]
            have er : un (rs x p) x v = rs (x + 1) (un p x v) := by
              funext y
              by_cases w2 : y = x
              · subst w2; simp [un, rs]
              · by_cases w3 : y < x
                · simp [un, rs, w2, w3, show y < x + 1 by omega]
                · simp [un, rs, w2, w3, show ¬ y < x + 1 by omega]
            rw [er]
            refine ih (x + 1) (un p x v) (m ||| 2 ^ v) (by omega) (or_lt (k := 12) hm (by omega)) ?_ ?_ ?_ ?_
            · intro y hy
              by_cases w2 : y = x
              · subst w2; rw [un_s]; exact hvn
              · rw [un_n _ _ w2]; exact hp1 y (by omega)
            · intro y z hy hz e
              by_cases w2 : y = x
              · by_cases w3 : z = x
                · omega
                · rw [w2, un_s, un_n _ _ w3] at e
                  exact absurd e.symm (hfree z (by omega))
              · by_cases w3 : z = x
                · rw [w3, un_s, un_n _ _ w2] at e
                  exact absurd e (hfree y (by omega))
                · rw [un_n _ _ w2, un_n _ _ w3] at e
                  exact hp2 y z (by omega) (by omega) e
            · intro y hy
              by_cases w2 : y = x
              · subst w2; rw [un_s]; exact ev
              · rw [un_n _ _ w2]; exact hp3 y (by omega)
            · intro z
              rw [tb_or]
              simp only [Bool.or_eq_true, decide_eq_true_eq]
              constructor
              · rintro (w2 | w2)
                · obtain ⟨y, hy, ey⟩ := (hb z).mp w2
                  exact ⟨y, by omega, by rw [un_n _ _ (by omega)]; exact ey⟩
                · exact ⟨x, by omega, by rw [un_s]; exact w2⟩
              · rintro ⟨y, hy, ey⟩
                by_cases w2 : y = x
                · rw [w2, un_s] at ey
                  exact Or.inr ey
                · rw [un_n _ _ w2] at ey
                  exact Or.inl ((hb z).mpr ⟨y, by omega, ey⟩)
  have h00 := key n 0 (fun _ => 0) 0 (by omega) (by decide) (fun y hy => absurd hy (by omega)) (fun y z hy => absurd hy (by omega)) (fun y hy => absurd hy (by omega)) (fun z => by simp)
  rw [pq_z] at h00
  exact h00
end RowEv

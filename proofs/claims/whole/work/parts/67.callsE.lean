/-! alike; the class -/
noncomputable def samV (n k : Nat) (t : Nat → Nat → Nat) (n' k' : Nat) (t' : Nat → Nat → Nat) : Int32 := @ite _ (n = n' ∧ k = k' ∧ teq n k (fnd n k t n).1 (fnd n' k' t' n').1) (Classical.propDecidable _) 1 0
noncomputable def opSame (st : AS) (x y : Int32) : Int32 × AS := match ixI x 10 with
  | none => badO st
  | some p => match ixI y 10 with
    | none => badO st
    | some q => match st.2.1 p with
      | none => fndO st 1
      | some c => if ¬ pn c.1 c.2.1 c.2.2 = 1 then fndO st 3 else match st.2.1 q with
        | none => fndO st 1
        | some e => if ¬ pn e.1 e.2.1 e.2.2 = 1 then fndO st 3 else finO (samV c.1 c.2.1 c.2.2 e.1 e.2.1 e.2.2) st
section CallsE
variable {d : Nat} {h : mH} {st : AS} {K : Option Value → mH → Prop}
theorem CLs.nam (c : CLs h st) {h' : mH} {S : List Nat} (ga : ag S h h') (hS : ∀ a, a ∈ S → a = 22 ∨ a = 23) (hN : NMR h' 22 23) : CLs h' st := by
  have h57 := c.2.2.2.2.2
  obtain ⟨e1, e2, e3, nf, e4⟩ := c.2.2.2.2.1
  exact c.en ga (fun a ha => by have := hS a ha; omega) ⟨hN, e2.ag ga (fun a ha => by have := hS a ha; omega) h57, e3.ag ga (fun a ha => by have := hS a ha; omega) h57, nf, e4.ag ga (fun a ha => by have := hS a ha; omega) h57⟩
theorem alike_ev {n k n' k' a ta a' ta' : Nat} {t t' : Nat → Nat → Nat} {b : Nat × Nat} (c : CLs h st) (hb1 : 1 ≤ b.1) (hb2 : 8 ≤ b.2) (g1 : 57 ≤ a) (g2 : a < h.2) (g3 : 57 ≤ ta) (g4 : ta < h.2) (co : CO h a ta (kcl n k t) n k t (pn n k t)) (g1' : 57 ≤ a') (g2' : a' < h.2) (g3' : 57 ≤ ta') (g4' : ta' < h.2) (co' : CO h a' ta' (kcl n' k' t') n' k' t' (pn n' k' t')) (hw : whl n k t) (hw' : whl n' k' t') (hK : ∀ h', CLs h' st → ag [22, 23] h h' → h'.2 ≤ h.2 + 1 → K (some (.int (samV n k t n' k' t'))) h') : Ev (d + 5) b MX11_alike [.ref 1, .ref a, .ref a'] h K := by
  have h57 := c.2.2.2.2.2
  have hn := co.n12
  have hk := co.k8
  have hn' := co'.n12
  have hk' := co'.k8
  have no : ¬ (n = n' ∧ k = k' ∧ teq n k (fnd n k t n).1 (fnd n' k' t' n').1) → samV n k t n' k' t' = 0 := fun w => by unfold samV; rw [if_neg w]
  refine en_X11_alike (bk_X11_alike_0 _ _ _ ⟨_, co.ft, _, co.2.1.len, _, co.fn, _, co'.fn, fun w => ⟨rfl, ?_⟩, fun w => ⟨_, co'.ft, _, co'.2.1.len, fun w2 => ⟨_, c.f3, _, co.ft, _, co.fn, ?_⟩, fun w2 => ⟨rfl, ?_⟩⟩⟩)
  · have := hK h c ag.rf (by omega)
    rw [no (fun q => w (by rw [q.1]))] at this
    exact this
  · have en : n = n' := nI_inj (by omega) (by omega) w
    have ek : k = k' := nI_inj (by omega) (by omega) w2
    subst en; subst ek
    obtain ⟨⟨lk, nw, od, lf, oN, oL⟩, -⟩ := c.2.2.2.2.1
    refine ⟨_, oN, ?_⟩
    refine find_ev (d := d) (by decide) (by decide) (by decide) (by omega) (by omega) co.n1 hn co.k1 hk co.prm hw co.2.1 oN oL (fun h1 f1 n1 => ⟨rfl, ?_⟩)
    obtain ⟨nw1, od1, lf1, oN1, oL1, e1⟩ := n1
    have c1 : CLs h1 st := c.nam f1.ag (by simp) ⟨_, _, _, _, oN1, oL1⟩
    refine ⟨_, c1.f3, _, oN1.fe, (1, k), by show 1 ≤ b.1; omega, by show k ≤ b.2; omega, ?_⟩
    have h1s : h1.2 = h.2 := f1.1
    refine copyOf_ev (d := d + 3) (m := 8) (by omega) (by omega) oL1 hk (by decide) (Nat.le_refl _) (Nat.le_refl _) (fun F hF => ⟨_, rfl, ?_⟩)
    have gn : ag [22, 23] h1 (nA h1 k F) := ⟨by show h1.2 ≤ h1.2 + 1; omega, fun x hx _ => nA_n (by omega)⟩
    have oN2 : NO (nA h1 k F) 22 23 (nI (fnd n k t n).2) nw1 od1 := (nA_n (by omega)).trans oN1
    have oL2 : (nA h1 k F).1 23 = .inl (1, 8, .inr (.inl lf1)) := (nA_n (by omega)).trans oL1
    have c2 : CLs (nA h1 k F) st := c1.nam gn (by simp) ⟨_, _, _, _, oN2, oL2⟩
    have co2 : CO (nA h1 k F) a' ta' (kcl n k t') n k t' (pn n k t') := (co'.fr f1 (by simp; omega) (by simp; omega)).nA (by omega) (by omega)
    refine ⟨_, c2.f3, _, co2.ft, _, co2.fn, _, oN2, ?_⟩
    refine find_ev (d := d) (by decide) (by decide) (by decide) (by omega) (by omega) co2.n1 hn co2.k1 hk co2.prm hw' co2.2.1 oN2 oL2 (fun h3 f3 n3 => ⟨rfl, ?_⟩)
    obtain ⟨nw3, od3, lf3, oN3, oL3, e3⟩ := n3
    have c3 : CLs h3 st := c2.nam f3.ag (by simp) ⟨_, _, _, _, oN3, oL3⟩
    have G3 : ag [22, 23] h h3 := (f1.ag.wk (by simp)).tr (gn.tr (f3.ag.wk (by simp)))
    have s3 : h3.2 ≤ h.2 + 1 := by rw [f3.1]; show h1.2 + 1 ≤ _; omega
    have z3 : h3.1 0 = h.1 0 := G3.2 0 (by omega) (by simp)
    have a3 : h3.1 h1.2 = .inl (1, k, .inr (.inl F)) := f3.at nA_s (by simp; omega)
    have p1 := fnd_pm (s := n) co.n1 (Nat.le_refl _) co.prm hw
    have p2 := fnd_pm (s := n) co'.n1 (Nat.le_refl _) co'.prm hw'
    have key : ∀ r j, j + r = k → (∀ j', j' < j → ∀ i, i < n → (fnd n k t n).1 j' i = (fnd n k t' n).1 j' i) → Wm (d + 5) (b.1 - 1, b.2 - k) JX11_alike 74 [some (.ref 1), none, none, some (.int (nI k)), some (.ref h1.2), some (.int (nI j))] [] h3 (fun r h' => h'.1 0 = h.1 0 ∧ K r h') := by
      intro r
      induction r with
      | zero =>
        intro j hj hq
        refine bk_X11_alike_74 _ _ _ _ ⟨fun _ => ⟨z3, ?_⟩, fun c => absurd (le_t (by omega) (by omega)) c⟩
        have := hK h3 c3 G3 s3
        have e : samV n k t n k t' = 1 := by unfold samV; rw [if_pos ⟨rfl, rfl, fun j' hj' => hq j' (by omega)⟩]
        rw [e] at this
        exact this
      | succ r ih =>
        intro j hj hq
        have b1 : m_ll h3 h1.2 (nI j) = some (PK n ((fnd n k t n).1 j)) := by rw [ll_at a3 (by omega) (by omega), hF j (by omega), e1 j (by omega)]
        have b2 : m_ll h3 23 (nI j) = some (PK n ((fnd n k t' n).1 j)) := by rw [ll_at oL3 (by omega) (by decide), e3 j (by omega)]
        refine bk_X11_alike_74 _ _ _ _ ⟨fun c => absurd c (le_f (by omega) (by omega)), fun _ => ⟨_, b1, _, c3.f3, _, oN3.fe, _, b2, fun q => ?_, fun q => ⟨z3, ?_⟩⟩⟩
        · rw [cmp_z, PK_eq hn (fun i hi => by have := (p1 j (by omega)).1 i hi; omega) (fun i hi => by have := (p2 j (by omega)).1 i hi; omega)] at q
          rw [nI_1]
          refine ih (j + 1) (by omega) (fun j' hj' => ?_)
          by_cases e : j' = j
          · rw [e]; exact q
          · exact hq j' (by omega)
        · have := hK h3 c3 G3 s3
          rw [no (fun w => q (by rw [cmp_z, PK_eq hn (fun i hi => by have := (p1 j (by omega)).1 i hi; omega) (fun i hi => by have := (p2 j (by omega)).1 i hi; omega)]; exact w.2.2 j (by omega)))] at this
          exact this
    exact key k 0 (by omega) (fun j' hj' => absurd hj' (by omega))
  · have := hK h c ag.rf (by omega)
    rw [no (fun q => w2 (by rw [q.2.1]))] at this
    exact this
theorem c_same {x y : Int32} {b : Nat × Nat} (c : CLs h st) (hb1 : 1 ≤ b.1) (hb2 : 8 ≤ b.2) (hK : ∀ h', CLs h' (opSame st x y).2 → FC h h' → h'.2 ≤ h.2 + 1 → K (some (.int (opSame st x y).1)) h') : Ev (d + 6) b MX11_same [.ref 1, .int x, .int y] h K := by
  have h57 := c.2.2.2.2.2
  refine en_X11_same (bk_X11_same_0 _ _ _ ?_)
  have bad : opSame st x y = badO st → h.1 0 = h.1 0 ∧ K (some (.int (-1000001))) h := fun e => by
    rw [e] at hK
    exact ⟨rfl, hK h c FC.rf (by omega)⟩
  have fnd' : ∀ {z : Int32}, opSame st x y = fndO st z → Ev (d + 5) (0, 0) MX11_found [.ref 1, .int z] h (fun r h' => ∃ y : Int32, r = some (.int y) ∧ (h'.1 0 = h.1 0 ∧ K (some (.int y)) h')) := fun e => by
    rw [e] at hK
    exact found_ev c (fun h16 c16 fc16 f16 => ⟨_, rfl, f16.z (by decide), hK h16 c16 fc16 (by rw [f16.1]; omega)⟩)
  refine noPlace_ev (fun q => ⟨_, rfl, fun _ => bad ?_, fun w => absurd w (by decide)⟩) (fun p hp e => ⟨_, rfl, fun w => absurd rfl w, fun _ => ?_⟩)
  · unfold opSame; rw [ixI_n q]
  subst e
  refine noPlace_ev (fun q => ⟨_, rfl, fun w => absurd w (by decide), fun _ => bad ?_⟩) (fun p' hp' e => ⟨_, rfl, fun _ => ⟨_, c.f1, ?_⟩, fun w => absurd rfl w⟩)
  · unfold opSame; rw [ixI_s hp (by decide), ixI_n q]
  subst e
  have unf : opSame st (nI p) (nI p') = match st.2.1 p with
      | none => fndO st 1
      | some c => if ¬ pn c.1 c.2.1 c.2.2 = 1 then fndO st 3 else match st.2.1 p' with
        | none => fndO st 1
        | some e => if ¬ pn e.1 e.2.1 e.2.2 = 1 then fndO st 3 else finO (samV c.1 c.2.1 c.2.2 e.1 e.2.1 e.2.2) st := by
    unfold opSame
    rw [ixI_s hp (by decide), ixI_s hp' (by decide)]
  cases hc : st.2.1 p with
  | none =>
    rw [hc] at unf
    refine Or.inl ⟨c.no hp hc, _, c.f1, ?_⟩
    cases hc' : st.2.1 p' with
    | none => exact Or.inl ⟨c.no hp' hc', _, c.1, fnd' unf⟩
    | some v =>
      obtain ⟨n', k', t'⟩ := v
      obtain ⟨a', ta', q', -⟩ := c.cv hp' hc'
      exact Or.inr ⟨a', q', _, c.1, fnd' unf⟩
  | some v =>
    obtain ⟨n, k, t⟩ := v
    rw [hc] at unf
    simp only at unf
    obtain ⟨a, ta, q, g1, g2, g3, g4, co⟩ := c.cv hp hc
    have hn := co.n12
    have hpn := pn_le n k t
    refine Or.inr ⟨a, q, _, c.f1, ?_⟩
    cases hc' : st.2.1 p' with
    | none =>
      rw [hc'] at unf
      refine Or.inl ⟨c.no hp' hc', _, _, co.1, co.2.2.1, ?_⟩
      refine whole_ev co (fun w => ⟨_, rfl, fun w => absurd rfl w, fun _ => ⟨_, c.1, fnd' (by rw [unf, if_pos (fun e => w (by rw [e]; rfl))])⟩⟩) (fun w => ⟨_, rfl, fun _ => ⟨_, c.1, fnd' ?_⟩, fun w => absurd w (by decide)⟩)
      have w : pn n k t = 1 := nI_inj (b := 1) (by omega) (by decide) w
      rw [unf, if_neg (fun q => q w)]
    | some v' =>
      obtain ⟨n', k', t'⟩ := v'
      rw [hc'] at unf
      simp only at unf
      obtain ⟨a', ta', q', g1', g2', g3', g4', co'⟩ := c.cv hp' hc'
      have hn' := co'.n12
      have hpn' := pn_le n' k' t'
      refine Or.inr ⟨a', q', _, _, co.1, co.2.2.1, ?_⟩
      refine whole_ev co (fun w => ⟨_, rfl, fun w => absurd rfl w, fun _ => ⟨_, c.1, fnd' (by rw [unf, if_pos (fun e => w (by rw [e]; rfl))])⟩⟩) (fun w => ⟨_, rfl, fun _ => ⟨_, _, co'.1, co'.2.2.1, ?_⟩, fun w => absurd w (by decide)⟩)
      have w : pn n k t = 1 := nI_inj (b := 1) (by omega) (by decide) w
      rw [if_neg (fun q => q w)] at unf
      refine whole_ev co' (fun w => ⟨_, rfl, fun w => absurd rfl w, fun _ => ⟨_, c.1, fnd' (by rw [unf, if_pos (fun e => w (by rw [e]; rfl))])⟩⟩) (fun w' => ⟨_, rfl, fun _ => ⟨b, Nat.le_refl _, Nat.le_refl _, _, c.1, ?_⟩, fun w => absurd w (by decide)⟩)
      have w' : pn n' k' t' = 1 := nI_inj (b := 1) (by omega) (by decide) w'
      rw [if_neg (fun q => q w')] at unf
      have hw := whe_whl co.prm ((pn_one co.n1 co.lt).mp w)
      have hw' := whe_whl co'.prm ((pn_one co'.n1 co'.lt).mp w')
      refine alike_ev c hb1 hb2 g1 g2 g3 g4 co g1' g2' g3' g4' co' hw hw' (fun h' c' G' s' => ⟨_, rfl, ?_⟩)
      rw [unf] at hK
      have z' : h'.1 0 = h.1 0 := G'.2 0 (by omega) (by simp)
      have F' : FC h h' := G'.fc (by simp) h57
      have two : samV n k t n' k' t' = 1 ∨ samV n k t n' k' t' = 0 := by
        unfold samV
        split
        · exact Or.inl rfl
        · exact Or.inr rfl
      generalize samV n k t n' k' t' = R at hK two ⊢
      rcases two with e | e
      · subst e
        exact ⟨fun q => absurd q (by decide), fun _ => ⟨_, c'.1, fine_ev c' (fun h16 c16 fc16 f16 => ⟨_, rfl, (f16.z (by decide)).trans z', hK h16 c16 (F'.tr fc16) (by rw [f16.1]; exact s')⟩)⟩⟩
      · subst e
        exact ⟨fun _ => ⟨_, c'.1, fine_ev c' (fun h16 c16 fc16 f16 => ⟨_, rfl, (f16.z (by decide)).trans z', hK h16 c16 (F'.tr fc16) (by rw [f16.1]; exact s')⟩)⟩, fun q => absurd rfl q⟩
end CallsE

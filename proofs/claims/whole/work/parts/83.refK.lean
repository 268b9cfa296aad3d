/-! the reference: rings -/
/-- a name as a row of 96 -/
def RW (f : Nat → Int32) (n k : Nat) (u : Nat → Nat → Nat) : Prop := (∀ j, j < k → ∀ x, x < n → f (12 * j + x) = nI (u j x)) ∧ ∀ i, i < 96 → offc n k i → f i = 0
theorem RW.eq {f g : Nat → Int32} {n k : Nat} {u v : Nat → Nat → Nat} (hf : RW f n k u) (hg : RW g n k v) (hn : n ≤ 12) (hk : k ≤ 8) (hu : ∀ j, j < k → ∀ i, i < n → u j i < n) (hv : ∀ j, j < k → ∀ i, i < n → v j i < n) : (∀ i, i < 96 → f i = g i) ↔ teq n k u v := by
  constructor
  · intro e j hj x hx
    have h1 := hu j hj x hx
    have h2 := hv j hj x hx
    have := e (12 * j + x) (by omega)
    rw [hf.1 j hj x hx, hg.1 j hj x hx] at this
    exact nI_inj (by omega) (by omega) this
  · intro e i hi
    by_cases o : offc n k i
    · rw [hf.2 i hi o, hg.2 i hi o]
    · have : ∃ j x, j < k ∧ x < n ∧ i = 12 * j + x := by
        apply Classical.byContradiction
        intro q
        exact o (fun j hj x hx e => q ⟨j, x, hj, hx, e⟩)
      obtain ⟨j, x, hj, hx, rfl⟩ := this
      rw [hf.1 j hj x hx, hg.1 j hj x hx, e j hj x hx]
theorem n960 (x : Nat) : (960 : Int32) + nI x = nI (960 + x) := by rw [show (960 : Int32) = nI 960 by decide, nI_add]
theorem n1056 (x : Nat) : (1056 : Int32) + nI x = nI (1056 + x) := by rw [show (1056 : Int32) = nI 1056 by decide, nI_add]
theorem n1152 (x : Nat) : (1152 : Int32) + nI x = nI (1152 + x) := by rw [show (1152 : Int32) = nI 1152 by decide, nI_add]
section RefRing
variable {d : Nat} {h : mH} {r : rst} {st : AS} {K : Option Value → mH → Prop}
theorem isName_ev {i n k : Nat} {u v : Nat → Nat → Nat} (o : RR h r) (hi : i < 300) (hn : n ≤ 12) (hk : k ≤ 8) (hu : ∀ j, j < k → ∀ i, i < n → u j i < n) (hv : ∀ j, j < k → ∀ i, i < n → v j i < n) (Ru : RW (fun c => r.2.1 51 (96 * i + c)) n k u) (Rv : RW (fun c => r.2.1 40 (960 + c)) n k v) (h1 : teq n k u v → K (some (.int 1)) h) (h0 : ¬ teq n k u v → K (some (.int 0)) h) : Ev d (0, 0) MX12_isName [.ref 34, .int (nI i)] h K := by
  have eq := Ru.eq Rv hn hk hu hv
  refine en_X12_isName (bk_X12_isName_0 _ _ ?_)
  have key : ∀ m c, c + m = 96 → (∀ c', c' < c → r.2.1 51 (96 * i + c') = r.2.1 40 (960 + c')) → Wm d (0, 0) JX12_isName 2 [some (.ref 34), some (.int (nI i)), some (.int (nI c))] [] h (fun r h' => h'.1 0 = h.1 0 ∧ K r h') := by
    intro m
    induction m with
    | zero =>
      intro c hc he
      have hc : c = 96 := by omega
      subst hc
      exact bk_X12_isName_2 _ _ _ ⟨fun _ => ⟨rfl, h1 (eq.mp he)⟩, fun q => absurd (le_t (a := 96) (b := 96) (by decide) (by decide)) q⟩
    | succ m ih =>
      intro c hc he
      refine bk_X12_isName_2 _ _ _ ⟨fun q => absurd q (le_f (a := 96) (b := c) (by omega) (by decide)), fun _ => ⟨_, o.f18, ?_⟩⟩
      rw [n96, n960]
      refine ⟨_, o.il 51 28800 (by decide) (by omega), _, o.f7, _, o.il 40 1248 (by decide) (by omega), fun q => ?_, fun q => ⟨rfl, h0 (fun e => q (eq.mpr e c (by omega)))⟩⟩
      rw [nI_1]
      refine ih (c + 1) (by omega) (fun c' hc' => ?_)
      by_cases e : c' = c
      · rw [e]; exact q
      · exact he c' (by omega)
  exact key 96 0 (by omega) (fun c' hc' => absurd hc' (by omega))
/-- the ring so far -/
def RGq (r0 r : rst) (n k : Nat) (q : rS) : Prop := kp r0 r ∧ r.1.2.1 = 0 ∧ (∀ i, i < q.2.1 → RW (fun c => r.2.1 51 (96 * i + c)) n k (q.1 i)) ∧ ∀ i, i < 96 → offc n k i → r.2.1 40 (1056 + i) = 0
theorem r_ring {x : Int32} (F : RFs h st) (w : wfS st) (hK : ∀ h', RFs h' (opRing st x).2 → FR h h' → K (some (.int (opRing st x).1)) h') : Ev (d + 3) (0, 0) MX12_ring [.ref 34, .int x] h K := by
  obtain ⟨r, o, s⟩ := F
  obtain ⟨h1, e1, f1, o1⟩ := o.p0 (x := 0)
  have s1 : rfS (w0 r 0) st := s.kp w kp.w0 s.1
  refine en_X12_ring (bk_X12_ring_0 _ _ ⟨h1, e1, ?_⟩)
  refine isPlace_ev (fun q => ⟨_, rfl, fun z => absurd rfl z, fun _ => ⟨f1.z, ?_⟩⟩) (fun p hp e qp => ⟨_, rfl, fun _ => ⟨_, o1.f1, _, o1.1, ?_⟩, fun z => absurd z (by decide)⟩)
  · have e : opRing st x = badO st := by unfold opRing; rw [q]
    rw [e] at hK
    exact hK h1 ⟨_, o1, s1⟩ f1
  subst e
  have unf : opRing st (nI p) = match st.2.1 p with
    | none => fndO st 1
    | some c => if ¬ pn c.1 c.2.1 c.2.2 = 1 then fndO st 3 else if rgr c.1 c.2.1 c.2.2 = -1 then (-1000003, st) else finO (rgr c.1 c.2.1 c.2.2) st := by unfold opRing; rw [qp]; rfl
  refine rlook_ev o1 hp (s1.2.2.1 p hp) (w.2.1 p hp) (fun hv h' r' f' o' k' t' => ⟨_, rfl, fun z => absurd z (by decide), fun _ => ⟨(f1.tr f').z, ?_⟩⟩) (fun n k t hv hw h' r' f' o' k' t' => ⟨_, rfl, fun _ => ?_, fun z => absurd (by decide) z⟩) (fun n k t hv _ nw h' r' f' o' k' t' => ⟨_, rfl, fun z => absurd z (by decide), fun _ => ⟨(f1.tr f').z, ?_⟩⟩)
  · rw [hv] at unf
    rw [unf] at hK
    exact hK h' ⟨r', o', s1.kp w k' t'⟩ (f1.tr f')
  · rw [hv] at unf
    simp only at unf
    have hw1 : pn n k t = 1 := hw.resolve_left (by decide)
    rw [if_neg (fun q => q hw1)] at unf
    obtain ⟨w1', w2', w3', w4', w5'⟩ := w.2.1 p hp n k t hv
    have hL := s1.2.2.1 p hp
    rw [hv] at hL
    have hL : LC (w0 r 0) p n k t := hL
    have F' := f1.tr f'
    have hwl := whe_whl w5' ((pn_one w1' (fun j hj => (w5' j hj).1)).mp hw1)
    have rgV := rgi_V (n := n) (k := k) (t := t) w1' w5' hwl
    -- too many
    have full : ∀ x j h2 r2 (q : rS), q = rgi n k t x → ¬ q.2.2 = true → x < q.2.1 → x < 300 → j + 1 < k → (rgj n k x (j + 1) q).2.2 = true → FR h h2 → RR h2 r2 → kp (w0 r 0) r2 → ∃ h3, m_put h2 34 11 1 (.int (w0 r 0).1.2.1) = some h3 ∧ (h3.1 0 = h.1 0 ∧ K (some (.int (-1000003))) h3) := by
      intro x j h2 r2 q eq nf hx hx3 hj fl f2 o2 k2
      obtain ⟨h3, e3, f3, o3⟩ := o2.p1 (x := (w0 r 0).1.2.1)
      have a1 := rgj_o (n := n) (k := k) (i := x) (q := q) (j := j + 1) fl (k - 1) (by omega)
      have a2 : rgi n k t (x + 1) = rgj n k x (k - 1) (rgi n k t x) := rgi_go (by rw [← eq]; exact hx)
      have a3 : (rgi n k t (x + 1)).2.2 = true := by rw [a2, ← eq, a1]; exact fl
      have a4 := rgi_o (n := n) (k := k) (t := t) a3 300 (by omega)
      have a5 : rgr n k t = -1 := by unfold rgr; rw [a4, if_pos a3]
      rw [if_pos a5] at unf
      rw [unf] at hK
      exact ⟨h3, e3, (f2.tr f3).z, hK h3 ⟨_, o3, s1.kp w (k2.tr kp.w1) s1.1⟩ (f2.tr f3)⟩
    -- all rows
    have outer : ∀ c x h2 r2, x + c = 300 → ¬ (rgi n k t x).2.2 = true → FR h h2 → RR h2 r2 → RGq (w0 r 0) r2 n k (rgi n k t x) → Wm (d + 2 + 1) (0, 0) JX12_ring 122 [some (.ref 34), some (.int (nI p)), some (.int (w0 r 0).1.2.1), none, none, some (.int (nI (rgi n k t x).2.1)), some (.int (nI x)), none, none, none] [] h2 (fun r h' => h'.1 0 = h.1 0 ∧ K r h') := by
      have fin : ∀ x h2 r2, x ≤ 300 → (rgi n k t x).2.1 ≤ x → ¬ (rgi n k t x).2.2 = true → FR h h2 → RR h2 r2 → RGq (w0 r 0) r2 n k (rgi n k t x) → Wm (d + 2 + 1) (0, 0) JX12_ring 122 [some (.ref 34), some (.int (nI p)), some (.int (w0 r 0).1.2.1), none, none, some (.int (nI (rgi n k t x).2.1)), some (.int (nI x)), none, none, none] [] h2 (fun r h' => h'.1 0 = h.1 0 ∧ K r h') := by
        intro x h2 r2 hx hm nf f2 o2 R2
        have e300 := rgi_stay (n := n) (k := k) (t := t) hm 300 hx
        have er : rgr n k t = nI (rgi n k t x).2.1 := by unfold rgr; rw [e300, if_neg nf]
        have hv' := (rgV x).1
        have nm1 : ¬ rgr n k t = -1 := fun q => by
          rw [er] at q
          have q1 := congrArg Int32.toInt q
          rw [nI_toInt (by omega)] at q1
          have : (-1 : Int32).toInt = -1 := by decide
          omega
        rw [if_neg nm1, er] at unf
        rw [unf] at hK
        exact bk_X12_ring_122 _ _ _ _ _ ⟨fun _ => ⟨f2.z, hK h2 ⟨r2, o2, s1.kp w R2.1 R2.2.1⟩ f2⟩, fun z => absurd (le_t hm (by omega)) z⟩
      intro c
      induction c with
      | zero =>
        intro x h2 r2 hx nf f2 o2 R2
        have := (rgV x).1
        exact fin x h2 r2 (by omega) (by omega) nf f2 o2 R2
      | succ c ih =>
        intro x h2 r2 hx nf f2 o2 R2
        by_cases hm : (rgi n k t x).2.1 ≤ x
        · exact fin x h2 r2 (by omega) hm nf f2 o2 R2
        have hxm : x < (rgi n k t x).2.1 := by omega
        have hV := rgV x
        have ih := fun h2 r2 => ih (x + 1) h2 r2 (by omega)
        rw [rgi_go hxm] at ih
        have fullx := fun j h2 r2 => full x j h2 r2 (rgi n k t x) rfl nf hxm (by omega)
        obtain ⟨Q, eQ⟩ : ∃ Q, Q = rgi n k t x := ⟨_, rfl⟩
        rw [← eQ] at ih fullx hV nf hxm R2 ⊢
        refine bk_X12_ring_122 _ _ _ _ _ ⟨fun z => absurd z (le_f hxm (by have := hV.1; omega)), fun _ => ?_⟩
        -- all turns
        have turns : ∀ c j h2 r2, j + 1 + c = k → ¬ (rgj n k x j Q).2.2 = true → FR h h2 → RR h2 r2 → RGq (w0 r 0) r2 n k (rgj n k x j Q) → Wm (d + 2 + 1) (0, 0) JX12_ring 132 [some (.ref 34), some (.int (nI p)), some (.int (w0 r 0).1.2.1), none, none, some (.int (nI (rgj n k x j Q).2.1)), some (.int (nI x)), some (.int (nI j)), none, none] [] h2 (fun r h' => h'.1 0 = h.1 0 ∧ K r h') := by
          intro c
          induction c with
          | zero =>
            intro j h2 r2 hj nfj f2 o2 R2
            have hj : j = k - 1 := by omega
            subst hj
            have L2 := kp.LC R2.1 hp w2' w4' hL
            refine bk_X12_ring_132 _ _ _ _ _ _ ⟨_, o2.f6, _, o2.il 39 13 (by decide) (by omega), ?_⟩
            rw [L2.2.1]
            refine ⟨fun _ => ?_, fun z => absurd (by rw [nI_1]; exact le_t (by omega) (by omega)) z⟩
            rw [nI_1]
            exact ih h2 r2 nfj f2 o2 R2
          | succ c ihj =>
            intro j h2 r2 hj nfj f2 o2 R2
            have hVj := rgj_V w1' hV hxm j (by omega)
            have hge := rgj_ge (n := n) (k := k) (i := x) (q := Q) j
            have ihj := fun h2 r2 => ihj (j + 1) h2 r2 (by omega)
            have efull := fun h2 r2 => fullx j h2 r2 (by omega)
            have ej : rgj n k x (j + 1) Q = rg1 n k (fnd n k (lfw n ((rgj n k x j Q).1 x) j) n).1 (rgj n k x j Q) := rfl
            rw [ej] at ihj efull
            obtain ⟨C, eC⟩ : ∃ C, C = rgj n k x j Q := ⟨_, rfl⟩
            rw [← eC] at ihj efull hVj hge nfj R2 ⊢
            have hxC : x < C.2.1 := by omega
            obtain ⟨pu, wu⟩ := hVj.2.2 x hxC
            obtain ⟨u, eu⟩ : ∃ u, u = C.1 x := ⟨_, rfl⟩
            have Ru := R2.2.2.1 x hxC
            rw [← eu] at pu wu Ru ihj efull
            obtain ⟨pv, wv⟩ := lfn_ok (j := j) w1' pu wu (by omega)
            have pl := lfw_pm (j := j) pu (by omega)
            have wl' := whe_whl pl (lfw_whe pu (by omega) wu)
            obtain ⟨v, ev⟩ : ∃ v, v = (fnd n k (lfw n u j) n).1 := ⟨_, rfl⟩
            rw [← ev] at ihj efull pv
            have C300 := hVj.1
            have L2 := kp.LC R2.1 hp w2' w4' hL
            obtain ⟨h3, e3, f3, o3⟩ := o2.is (x := nI n) (j := 12) 38 13 (by decide) (by decide)
            obtain ⟨h4, e4, f4, o4⟩ := o3.is (x := nI k) (j := 12) 39 13 (by decide) (by decide)
            obtain ⟨h5, e5, f5, o5⟩ := o4.is (x := nI n) (j := 10) 38 13 (by decide) (by decide)
            obtain ⟨h6, e6, f6, o6⟩ := o5.is (x := nI k) (j := 10) 39 13 (by decide) (by decide)
            have K3 := R2.1.tr (kp_wr38 (r := r2) (i := 12) (v := nI n) (by omega))
            have K4 := K3.tr (kp_wr39 (i := 12) (v := nI k) (by omega))
            have K5 := K4.tr (kp_wr38 (i := 10) (v := nI n) (by omega))
            have K6 := K5.tr (kp_wr39 (i := 10) (v := nI k) (by omega))
            refine bk_X12_ring_132 _ _ _ _ _ _ ⟨_, o2.f6, _, o2.il 39 13 (by decide) (by omega), ?_⟩
            rw [L2.2.1]
            refine ⟨fun z => absurd (by rw [nI_1] at z; exact z) (le_f (by omega) (by omega)), fun _ => ⟨_, o2.f5, _, o2.f5, _, o2.il 38 13 (by decide) (by omega), h3, ?_, _, o3.f6, _, o3.f6, _, o3.il 39 13 (by decide) (by omega), h4, ?_, _, o4.f5, _, o4.f5, _, o4.il 38 13 (by decide) (by omega), h5, ?_, _, o5.f6, _, o5.f6, _, o5.il 39 13 (by decide) (by omega), h6, ?_, ?_⟩⟩
            · rw [L2.1]; exact e3
            · rw [(kp.LC K3 hp w2' w4' hL).2.1]; exact e4
            · rw [(kp.LC K4 hp w2' w4' hL).1]; exact e5
            · rw [(kp.LC K5 hp w2' w4' hL).2.1]; exact e6
            obtain ⟨r6, er6⟩ : ∃ r6, r6 = wr (wr (wr (wr r2 38 12 (nI n)) 39 12 (nI k)) 38 10 (nI n)) 39 10 (nI k) := ⟨_, rfl⟩
            rw [← er6] at o6 K6
            have F6 := (((f2.tr f3).tr f4).tr f5).tr f6
            have a38 : r6.2.1 38 12 = nI n := by rw [er6, wr_n (by decide), wr_i (by decide), wr_n (by decide), wr_j]
            have a39 : r6.2.1 39 12 = nI k := by rw [er6, wr_i (by decide), wr_n (by decide), wr_j]
            have s40 : r6.2.1 40 = r2.2.1 40 := by rw [er6, wr_n (by decide), wr_n (by decide), wr_n (by decide), wr_n (by decide)]
            have s51 : r6.2.1 51 = r2.2.1 51 := by rw [er6, wr_n (by decide), wr_n (by decide), wr_n (by decide), wr_n (by decide)]
            have t6 : r6.1.2.1 = 0 := by rw [er6]; exact R2.2.1
            -- after the name is found
            have after : ∀ h7 r7, FR h h7 → RR h7 r7 → RGq (w0 r 0) r7 n k C → RW (fun c => r7.2.1 40 (960 + c)) n k v → Wm (d + 2 + 1) (0, 0) JX12_ring 272 [some (.ref 34), some (.int (nI p)), some (.int (w0 r 0).1.2.1), none, none, some (.int (nI C.2.1)), some (.int (nI x)), some (.int (nI j)), some (.int 0), some (.int 0)] [] h7 (fun r h' => h'.1 0 = h.1 0 ∧ K r h') := by
              intro h7 r7 f7 o7 R7 W7
              have known : knw n k C v → Wm (d + 2 + 1) (0, 0) JX12_ring 132 [some (.ref 34), some (.int (nI p)), some (.int (w0 r 0).1.2.1), none, none, some (.int (nI C.2.1)), some (.int (nI x)), some (.int (nI j + 1)), none, none] [] h7 (fun r h' => h'.1 0 = h.1 0 ∧ K r h') := by
                intro kn
                rw [rg1_k kn] at ihj
                rw [nI_1]
                exact ihj h7 r7 nfj f7 o7 R7
              have search : ∀ c i, i + c = C.2.1 → (∀ i', i' < i → ¬ teq n k (C.1 i') v) → Wm (d + 2 + 1) (0, 0) JX12_ring 272 [some (.ref 34), some (.int (nI p)), some (.int (w0 r 0).1.2.1), none, none, some (.int (nI C.2.1)), some (.int (nI x)), some (.int (nI j)), some (.int 0), some (.int (nI i))] [] h7 (fun r h' => h'.1 0 = h.1 0 ∧ K r h') := by
                intro c
                induction c with
                | zero =>
                  intro i hi no
                  have hi : i = C.2.1 := by omega
                  subst hi
                  have nk : ¬ knw n k C v := fun ⟨i, hi, e⟩ => no i hi e
                  refine bk_X12_ring_272 _ _ _ _ _ _ _ _ ⟨fun _ => ⟨fun z => absurd rfl z, fun _ => ⟨fun z => ?_, fun z => ?_⟩⟩, fun z => absurd (le_t (Nat.le_refl _) (by omega)) z⟩
                  · have c300 : C.2.1 < 300 := by
                      rcases Nat.lt_or_ge C.2.1 300 with q | q
                      · exact q
                      · exact absurd (by rw [show C.2.1 = 300 by omega]; decide) z
                    rw [rg1_n nfj nk c300] at ihj
                    have cpy : ∀ m c h8 r8, c + m = 96 → FR h h8 → RR h8 r8 → ex [51] r7 r8 → (∀ q, r8.2.1 51 q = if 96 * C.2.1 ≤ q ∧ q < 96 * C.2.1 + c then r7.2.1 40 (960 + (q - 96 * C.2.1)) else r7.2.1 51 q) → Wm (d + 2 + 1) (0, 0) JX12_ring 322 [some (.ref 34), some (.int (nI p)), some (.int (w0 r 0).1.2.1), none, none, some (.int (nI C.2.1)), some (.int (nI x)), some (.int (nI j)), none, some (.int (nI c))] [] h8 (fun r h' => h'.1 0 = h.1 0 ∧ K r h') := by
                      intro m
                      induction m with
                      | zero =>
                        intro c h8 r8 hc f8 o8 x8 v8
                        have hc : c = 96 := by omega
                        subst hc
                        refine bk_X12_ring_322 _ _ _ _ _ _ _ ⟨fun _ => ?_, fun z => absurd (le_t (a := 96) (b := 96) (by decide) (by decide)) z⟩
                        rw [nI_1, nI_1]
                        refine ihj h8 r8 (by show ¬ false = true; decide) f8 o8 ⟨R7.1.tr (x8.kp (by simp)), by rw [x8.1]; exact R7.2.1, fun i hi => ?_, fun i hi ho => by rw [x8.at _ (by simp)]; exact R7.2.2.2 i hi ho⟩
                        have hi : i < C.2.1 + 1 := hi
                        show RW _ n k (uL C.1 C.2.1 v i)
                        by_cases e : i = C.2.1
                        · rw [show uL C.1 C.2.1 v i = v by simp [uL, e], e]
                          refine ⟨fun j' hj' y hy => ?_, fun c hc ho => ?_⟩
                          · show r8.2.1 51 (96 * C.2.1 + (12 * j' + y)) = _
                            rw [v8, if_pos (by omega), show 96 * C.2.1 + (12 * j' + y) - 96 * C.2.1 = 12 * j' + y by omega]
                            exact W7.1 j' hj' y hy
                          · show r8.2.1 51 (96 * C.2.1 + c) = _
                            rw [v8, if_pos (by omega), show 96 * C.2.1 + c - 96 * C.2.1 = c by omega]
                            exact W7.2 c hc ho
                        · rw [show uL C.1 C.2.1 v i = C.1 i by simp [uL, e]]
                          have R := R7.2.2.1 i (by omega)
                          refine ⟨fun j' hj' y hy => ?_, fun c hc ho => ?_⟩
                          · show r8.2.1 51 (96 * i + (12 * j' + y)) = _
                            rw [v8, if_neg (by omega)]
                            exact R.1 j' hj' y hy
                          · show r8.2.1 51 (96 * i + c) = _
                            rw [v8, if_neg (by omega)]
                            exact R.2 c hc ho
                      | succ m ihm =>
                        intro c h8 r8 hc f8 o8 x8 v8
                        obtain ⟨h9, e9, f9, o9⟩ := o8.is (x := r7.2.1 40 (960 + c)) (j := 96 * C.2.1 + c) 51 28800 (by decide) (by omega)
                        refine bk_X12_ring_322 _ _ _ _ _ _ _ ⟨fun z => absurd z (le_f (a := 96) (b := c) (by omega) (by decide)), fun _ => ⟨_, o8.f18, _, o8.f7, ?_⟩⟩
                        rw [n960, n96]
                        refine ⟨_, o8.il 40 1248 (by decide) (by omega), h9, by rw [x8.at _ (by simp)]; exact e9, ?_⟩
                        rw [nI_1]
                        refine ihm (c + 1) h9 _ (by omega) (f8.tr f9) o9 (x8.tr (ex.wr (by simp))) (fun q => ?_)
                        by_cases e : q = 96 * C.2.1 + c
                        · rw [e, wr_j, if_pos (by omega), show 96 * C.2.1 + c - 96 * C.2.1 = c by omega]
                        · rw [wr_i e, v8]
                          by_cases a : 96 * C.2.1 ≤ q ∧ q < 96 * C.2.1 + c
                          · rw [if_pos a, if_pos (by omega)]
                          · rw [if_neg a, if_neg (by omega)]
                    exact cpy 96 0 h7 r7 (by omega) f7 o7 ex.rf (fun q => by rw [if_neg (by omega)])
                  · have c300 : ¬ C.2.1 < 300 := fun q => by
                      rw [show (300 : Int32) = nI 300 by decide] at z
                      have := nI_inj (by omega) (by omega) z
                      omega
                    exact efull h7 r7 (by rw [rg1_x nfj nk c300]) f7 o7 R7.1
                | succ c ihs =>
                  intro i hi no
                  refine bk_X12_ring_272 _ _ _ _ _ _ _ _ ⟨fun z => absurd z (le_f (by omega) (by omega)), fun _ => ⟨fun z => absurd rfl z, fun _ => ⟨_, o7.1, ?_⟩⟩⟩
                  obtain ⟨pi', -⟩ := hVj.2.2 i (by omega)
                  refine isName_ev o7 (by omega) w2' w4' (fun j hj => (pi' j hj).1) (fun j hj => (pv j hj).1) (R7.2.2.1 i (by omega)) W7 (fun e => ⟨_, rfl, ?_⟩) (fun e => ⟨_, rfl, ?_⟩)
                  · have kn : knw n k C v := ⟨i, by omega, e⟩
                    rw [nI_1]
                    exact bk_X12_ring_272 _ _ _ _ _ _ _ _ ⟨fun _ => ⟨fun _ => known kn, fun z => absurd z (by decide)⟩, fun _ => ⟨fun _ => ⟨fun _ => known kn, fun z => absurd z (by decide)⟩, fun z => absurd z (by decide)⟩⟩
                  · rw [nI_1]
                    refine ihs (i + 1) (by omega) (fun i' hi' => ?_)
                    by_cases b : i' = i
                    · rw [b]; exact e
                    · exact no i' (by omega)
              exact search C.2.1 0 (by omega) (fun i' hi' => absurd hi' (by omega))
            -- the row comes to place 12
            have row : ∀ m c h7 r7, c + m = 96 → FR h h7 → RR h7 r7 → ex [40] r6 r7 → (∀ q, r7.2.1 40 q = if 1152 ≤ q ∧ q < 1152 + c then r2.2.1 51 (96 * x + (q - 1152)) else r2.2.1 40 q) → Wm (d + 2 + 1) (0, 0) JX12_ring 200 [some (.ref 34), some (.int (nI p)), some (.int (w0 r 0).1.2.1), none, none, some (.int (nI C.2.1)), some (.int (nI x)), some (.int (nI j)), some (.int (nI c)), none] [] h7 (fun r h' => h'.1 0 = h.1 0 ∧ K r h') := by
              intro m
              induction m with
              | zero =>
                intro c h7 r7 hc f7 o7 x7 v7
                have hc : c = 96 := by omega
                subst hc
                refine bk_X12_ring_200 _ _ _ _ _ _ _ ⟨fun _ => ⟨_, o7.1, ?_⟩, fun z => absurd (le_t (a := 96) (b := 96) (by decide) (by decide)) z⟩
                have in7 : ∀ c, c < 96 → r7.2.1 40 (1152 + c) = r2.2.1 51 (96 * x + c) := fun c hc => by rw [v7, if_pos (by omega), show 1152 + c - 1152 = c by omega]
                have L7 : LC r7 12 n k u := ⟨by rw [x7.at 12 (by simp)]; exact a38, by rw [x7.at 12 (by simp)]; exact a39, fun j' hj' y hy => by
                  have := in7 (12 * j' + y) (by omega)
                  rw [← Nat.add_assoc] at this
                  rw [show 96 * 12 + 12 * j' + y = 1152 + 12 * j' + y by omega, this]
                  exact Ru.1 j' hj' y hy⟩
                have k7 : kp (w0 r 0) r7 := by
                  refine ⟨by rw [x7.1]; exact K6.1, ⟨by rw [x7.2.2 35 (by simp)]; exact K6.2.1.1, by rw [x7.2.2 36 (by simp)]; exact K6.2.1.2.1, by rw [x7.2.2 37 (by simp)]; exact K6.2.1.2.2.1, by rw [x7.2.2 52 (by simp)]; exact K6.2.1.2.2.2⟩, fun p hp => ⟨by rw [x7.2.2 38 (by simp)]; exact (K6.2.2.1 p hp).1, by rw [x7.2.2 39 (by simp)]; exact (K6.2.2.1 p hp).2⟩, fun i hi => ?_⟩
                  rw [v7, if_neg (by omega)]
                  exact R2.1.2.2.2 i hi
                refine rbraided_ev (q := 10) (p := 12) (how := 0) o7 L7 (by omega) (by omega) (by omega) w2' w4' (by omega) pu (fun h8 r8 f8 o8 x8 L8 a8 b8 c8 => ⟨rfl, _, o8.1, ?_⟩)
                have L8 : LC r8 10 n k (lfw n u j) := L8
                refine become_ev (p := 12) (q := 10) o8 (by omega) (by omega) (fun h9 r9 f9 o9 x9 g38 g39 g40 g40' => ⟨rfl, _, o9.1, ?_⟩)
                have in9 : ∀ c, c < 96 → r9.2.1 40 (1152 + c) = r8.2.1 40 (960 + c) := fun c hc => by
                  have := g40 c
                  rw [if_pos hc] at this
                  exact this
                have L9 : LC r9 12 n k (lfw n u j) := ⟨by rw [g38, if_pos rfl]; exact L8.1, by rw [g39, if_pos rfl]; exact L8.2.1, fun j' hj' y hy => by
                  have := in9 (12 * j' + y) (by omega)
                  rw [← Nat.add_assoc, ← Nat.add_assoc] at this
                  rw [show 96 * 12 + 12 * j' + y = 1152 + 12 * j' + y by omega, this]
                  exact L8.2.2 j' hj' y hy⟩
                have k8 : kp r7 r8 := kp_of x8 a8 b8
                have k9 : kp r8 r9 := ⟨by rw [x9.1], ⟨x9.2.2 35 (by simp), x9.2.2 36 (by simp), x9.2.2 37 (by simp), x9.2.2 52 (by simp)⟩, fun p hp => ⟨by rw [g38, if_neg (by omega)], by rw [g39, if_neg (by omega)]⟩, fun i hi => g40' i (by omega)⟩
                refine rleast_ev (q := 10) (p := 12) o9 L9 (by omega) (by omega) (by omega) (by omega) (by omega) w1' w2' w4' pl wl' (fun h10 r10 f10 o10 x10 L10 a10 b10 c10 => ⟨_, rfl, ?_⟩)
                have k10 := kp_of2 (by omega) x10 a10 b10
                have off11 : ∀ i, i < 96 → offc n k i → r9.2.1 40 (1056 + i) = 0 := fun i hi ho => by
                  rw [g40' _ (by omega), b8 _ (by omega), v7, if_neg (by omega)]
                  exact R2.2.2.2 i hi ho
                rw [← ev] at L10
                refine after h10 r10 (((f7.tr f8).tr f9).tr f10) o10 ⟨((k7.tr k8).tr k9).tr k10, by rw [x10.1, x9.1, x8.1, x7.1]; exact t6, fun i hi => ?_, fun i hi ho => ?_⟩ ⟨fun j' hj' y hy => ?_, fun i hi ho => ?_⟩
                · have R := R2.2.2.1 i hi
                  have e51 : r10.2.1 51 = r2.2.1 51 := by rw [x10.2.2 51 (by simp), x9.2.2 51 (by simp), x8.2.2 51 (by simp), x7.2.2 51 (by simp), s51]
                  rw [e51]
                  exact R
                · rw [(c10 i hi ho).2]
                  exact off11 i hi ho
                · show r10.2.1 40 (960 + (12 * j' + y)) = _
                  rw [← Nat.add_assoc]
                  exact L10.2.2 j' hj' y hy
                · show r10.2.1 40 (960 + i) = 0
                  have := (c10 i hi ho).1
                  rw [show 96 * 10 + i = 960 + i by omega] at this
                  rw [this]
                  exact off11 i hi ho
              | succ m ihm =>
                intro c h7 r7 hc f7 o7 x7 v7
                have hx300 : x < 300 := by omega
                obtain ⟨h8, e8, f8, o8⟩ := o7.is (x := r2.2.1 51 (96 * x + c)) (j := 1152 + c) 40 1248 (by decide) (by omega)
                refine bk_X12_ring_200 _ _ _ _ _ _ _ ⟨fun z => absurd z (le_f (a := 96) (b := c) (by omega) (by decide)), fun _ => ⟨_, o7.f7, _, o7.f18, ?_⟩⟩
                rw [n96, n1152]
                refine ⟨_, o7.il 51 28800 (by decide) (by omega), h8, by rw [x7.2.2 51 (by simp), s51]; exact e8, ?_⟩
                rw [nI_1]
                refine ihm (c + 1) h8 _ (by omega) (f7.tr f8) o8 (x7.tr (ex.wr (by simp))) (fun q => ?_)
                by_cases e : q = 1152 + c
                · rw [e, wr_j, if_pos (by omega), show 1152 + c - 1152 = c by omega]
                · rw [wr_i e, v7]
                  by_cases a : 1152 ≤ q ∧ q < 1152 + c
                  · rw [if_pos a, if_pos (by omega)]
                  · rw [if_neg a, if_neg (by omega)]
            exact row 96 0 h6 r6 (by omega) F6 o6 ex.rf (fun q => by rw [if_neg (by omega), s40])
        exact turns (k - 1) 0 h2 r2 (by omega) nf f2 o2 R2
    -- the first name
    have fst : ∀ h2 r2, FR h h2 → RR h2 r2 → kp (w0 r 0) r2 → r2.1.2.1 = 0 → RW (fun c => r2.2.1 40 (960 + c)) n k (fnd n k t n).1 → (∀ i, i < 96 → offc n k i → r2.2.1 40 (1056 + i) = 0) → ∀ m c h3 r3, c + m = 96 → FR h h3 → RR h3 r3 → ex [51] r2 r3 → (∀ q, q < c → r3.2.1 51 q = r2.2.1 40 (960 + q)) → Wm (d + 2 + 1) (0, 0) JX12_ring 85 [some (.ref 34), some (.int (nI p)), some (.int (w0 r 0).1.2.1), none, none, some (.int (nI c)), none, none, none, none] [] h3 (fun r h' => h'.1 0 = h.1 0 ∧ K r h') := by
      intro h2 r2 f2 o2 k2 t2 W2 off2 m
      induction m with
      | zero =>
        intro c h3 r3 hc f3 o3 x3 v3
        have hc : c = 96 := by omega
        subst hc
        refine bk_X12_ring_85 _ _ _ _ ⟨fun _ => ?_, fun z => absurd (le_t (a := 96) (b := 96) (by decide) (by decide)) z⟩
        refine outer 300 0 h3 r3 (by omega) (by show ¬ false = true; decide) f3 o3 ⟨k2.tr (x3.kp (by simp)), by rw [x3.1]; exact t2, fun i hi => ?_, fun i hi ho => by rw [x3.at _ (by simp)]; exact off2 i hi ho⟩
        have hi : i < 1 := hi
        have : i = 0 := by omega
        subst this
        refine ⟨fun j' hj' y hy => ?_, fun c hc ho => ?_⟩
        · show r3.2.1 51 (96 * 0 + (12 * j' + y)) = _
          rw [show 96 * 0 + (12 * j' + y) = 12 * j' + y by omega, v3 _ (by omega)]
          exact W2.1 j' hj' y hy
        · show r3.2.1 51 (96 * 0 + c) = _
          rw [show 96 * 0 + c = c by omega, v3 _ hc]
          exact W2.2 c hc ho
      | succ m ih =>
        intro c h3 r3 hc f3 o3 x3 v3
        obtain ⟨h4, e4, f4, o4⟩ := o3.is (x := r2.2.1 40 (960 + c)) (j := c) 51 28800 (by decide) (by omega)
        refine bk_X12_ring_85 _ _ _ _ ⟨fun z => absurd z (le_f (a := 96) (b := c) (by omega) (by decide)), fun _ => ⟨_, o3.f18, _, o3.f7, ?_⟩⟩
        rw [n960]
        refine ⟨_, o3.il 40 1248 (by decide) (by omega), h4, by rw [x3.at _ (by simp)]; exact e4, ?_⟩
        rw [nI_1]
        refine ih (c + 1) h4 _ (by omega) (f3.tr f4) o4 (x3.tr (ex.wr (by simp))) (fun q hq => ?_)
        by_cases e : q = c
        · rw [e, wr_j]
        · rw [wr_i e]; exact v3 q (by omega)
    -- all is cleared
    have clr : ∀ m c h2 r2, c + m = 96 → FR h h2 → RR h2 r2 → ex [40] r' r2 → (∀ q, q < 960 → r2.2.1 40 q = r'.2.1 40 q) → (∀ q, q < c → r2.2.1 40 (960 + q) = 0 ∧ r2.2.1 40 (1056 + q) = 0) → Wm (d + 2 + 1) (0, 0) JX12_ring 36 [some (.ref 34), some (.int (nI p)), some (.int (w0 r 0).1.2.1), none, some (.int (nI c)), none, none, none, none, none] [] h2 (fun r h' => h'.1 0 = h.1 0 ∧ K r h') := by
      intro m
      induction m with
      | zero =>
        intro c h2 r2 hc f2 o2 x2 l2 v2
        have hc : c = 96 := by omega
        subst hc
        refine bk_X12_ring_36 _ _ _ _ ⟨fun _ => ⟨_, o2.1, ?_⟩, fun z => absurd (le_t (a := 96) (b := 96) (by decide) (by decide)) z⟩
        have k2 : kp (w0 r 0) r2 := k'.tr ⟨by rw [x2.1], ⟨x2.2.2 35 (by simp), x2.2.2 36 (by simp), x2.2.2 37 (by simp), x2.2.2 52 (by simp)⟩, fun p _ => ⟨by rw [x2.2.2 38 (by simp)], by rw [x2.2.2 39 (by simp)]⟩, l2⟩
        have L2 := kp.LC k2 hp w2' w4' hL
        refine rleast_ev (q := 10) o2 L2 (by omega) (by omega) (by omega) (by omega) (by omega) w1' w2' w4' w5' hwl (fun h3 r3 f3 o3 x3 L3 a3 b3 c3 => ⟨_, rfl, ?_⟩)
        have k3 := k2.tr (kp_of2 (by omega) x3 a3 b3)
        refine fst h3 r3 (f2.tr f3) o3 k3 (by rw [x3.1, x2.1]; exact t') ⟨fun j' hj' y hy => ?_, fun i hi ho => ?_⟩ (fun i hi ho => ?_) 96 0 h3 r3 (by omega) (f2.tr f3) o3 ex.rf (fun q hq => absurd hq (by omega))
        · show r3.2.1 40 (960 + (12 * j' + y)) = _
          rw [← Nat.add_assoc]
          exact L3.2.2 j' hj' y hy
        · show r3.2.1 40 (960 + i) = 0
          have := (c3 i hi ho).1
          rw [show 96 * 10 + i = 960 + i by omega] at this
          rw [this]
          exact (v2 i hi).2
        · rw [(c3 i hi ho).2]
          exact (v2 i hi).2
      | succ m ih =>
        intro c h2 r2 hc f2 o2 x2 l2 v2
        obtain ⟨h3, e3, f3, o3⟩ := o2.is (x := 0) (j := 960 + c) 40 1248 (by decide) (by omega)
        obtain ⟨h4, e4, f4, o4⟩ := o3.is (x := 0) (j := 1056 + c) 40 1248 (by decide) (by omega)
        refine bk_X12_ring_36 _ _ _ _ ⟨fun z => absurd z (le_f (a := 96) (b := c) (by omega) (by decide)), fun _ => ⟨_, o2.f7, ?_⟩⟩
        rw [n960, n1056]
        refine ⟨h3, e3, _, o3.f7, h4, e4, ?_⟩
        rw [nI_1]
        refine ih (c + 1) h4 _ (by omega) ((f2.tr f3).tr f4) o4 (x2.tr ((ex.wr (by simp)).tr (ex.wr (by simp)))) (fun q hq => by rw [wr_i (by omega), wr_i (by omega)]; exact l2 q hq) (fun q hq => ?_)
        by_cases e : q = c
        · rw [e, wr_i (by omega), wr_j, wr_j]; exact ⟨rfl, rfl⟩
        · rw [wr_i (by omega), wr_i (by omega), wr_i (by omega), wr_i (by omega)]
          exact v2 q (by omega)
    exact clr 96 0 h' r' (by omega) F' o' ex.rf (fun _ _ => rfl) (fun q hq => absurd hq (by omega))
  · rw [hv] at unf
    simp only at unf
    rw [if_pos nw] at unf
    rw [unf] at hK
    exact hK h' ⟨r', o', s1.kp w k' t'⟩ (f1.tr f')
end RefRing

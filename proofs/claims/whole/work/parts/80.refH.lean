/-! the reference: parts, places led past, mirrors, covers over one another -/
theorem LC.wr {r : rst} {p n k i : Nat} {t : Nat → Nat → Nat} {v : Int32} (L : LC r p n k t) (h : ∀ j, j < k → ∀ x, x < n → 96 * p + 12 * j + x ≠ i) : LC (wr r 40 i v) p n k t := ⟨by rw [wr_n (by decide)]; exact L.1, by rw [wr_n (by decide)]; exact L.2.1, fun j hj x hx => by rw [wr_i (h j hj x hx)]; exact L.2.2 j hj x hx⟩
section RefPart
variable {d : Nat} {h : mH} {r : rst} {st : AS} {K : Option Value → mH → Prop}
theorem r_part {x y z : Int32} (F : RFs h st) (w : wfS st) (hK : ∀ h', RFs h' (opPart st x y z).2 → FR h h' → K (some (.int (opPart st x y z).1)) h') : Ev (d + 4) (0, 0) MX12_part [.ref 34, .int x, .int y, .int z] h K := by
  obtain ⟨r, o, s⟩ := F
  obtain ⟨h1, e1, f1, o1⟩ := o.p0 (x := 0)
  have s1 : rfS (w0 r 0) st := s.kp w kp.w0 s.1
  refine en_X12_part (bk_X12_part_0 _ _ _ _ ⟨h1, e1, ?_⟩)
  have bad0 : opPart st x y z = badO st → h1.1 0 = h.1 0 ∧ K (some (.int (-1000001))) h1 := fun e => by
    rw [e] at hK
    exact ⟨f1.z, hK h1 ⟨_, o1, s1⟩ f1⟩
  refine isPlace_ev (fun q => ⟨_, rfl, fun _ => bad0 (by unfold opPart; rw [q]), fun z => absurd rfl z⟩) (fun p0 hp0 e q0 => ⟨_, rfl, fun z => absurd z (by decide), fun _ => ?_⟩)
  subst e
  refine isPlace_ev (fun q => ⟨_, rfl, fun z => absurd rfl z, fun _ => bad0 (by unfold opPart; rw [q0, q])⟩) (fun p hp e qp => ⟨_, rfl, fun _ => ⟨_, o1.f1, _, o1.1, ?_⟩, fun z => absurd z (by decide)⟩)
  subst e
  have unf : opPart st (nI p0) (nI p) z = match st.2.1 p with
      | none => fndO st 1
      | some c => match ixI z (pn c.1 c.2.1 c.2.2) with
        | none => badO st
        | some i => shvO st p0 (rk (pms c.1 c.2.1 c.2.2 i) c.1) c.2.1 (nrw c.1 (pms c.1 c.2.1 c.2.2 i) (fun i => i) c.2.2) := by
    unfold opPart
    rw [q0, qp]
    rfl
  refine rlook_ev o1 hp (s1.2.2.1 p hp) (w.2.1 p hp) (fun hv h' r' f' o' k' t' => ⟨_, rfl, fun z => absurd z (by decide), fun _ => ⟨(f1.tr f').z, ?_⟩⟩) (fun n k t hv _ h' r' f' o' k' t' => ⟨_, rfl, fun _ => ⟨_, o'.1, ?_⟩, fun z => absurd (by decide) z⟩) (fun n k t hv z => absurd rfl z)
  · rw [hv] at unf
    rw [unf] at hK
    exact hK h' ⟨r', o', s1.kp w k' t'⟩ (f1.tr f')
  rw [hv] at unf
  simp only at unf
  obtain ⟨w1', w2', w3', w4', w5'⟩ := w.2.1 p hp n k t hv
  have hL := s1.2.2.1 p hp
  rw [hv] at hL
  have hL : LC (w0 r 0) p n k t := hL
  have L' : LC r' p n k t := kp.LC k' hp w2' w4' hL
  have hpn := pn_le n k t
  refine rparts_ev (d := d + 2) o' L' (by omega) w2' w4' w5' (fun h3 r3 f3 o3 x3 v3 => ⟨_, rfl, ?_⟩)
  have F3 := (f1.tr f').tr f3
  have k3 := k'.tr (x3.kp (by simp))
  refine rin0_ev (N := pn n k t) (by omega) rfl (fun q2 => ⟨_, rfl, fun z => absurd rfl z, fun _ => ?_⟩) (fun i hi e q2 => ⟨_, rfl, fun _ => ?_, fun z => absurd z (by decide)⟩)
  · obtain ⟨h2, e2, f2, o2⟩ := o3.p1 (x := (w0 r 0).1.2.1)
    rw [unf, q2] at hK
    exact ⟨h2, e2, (F3.tr f2).z, hK h2 ⟨_, o2, s1.kp w (k3.tr kp.w1) s1.1⟩ (F3.tr f2)⟩
  subst e
  rw [q2] at unf
  simp only at unf
  rw [unf] at hK
  obtain ⟨ok0, ok2⟩ := part_ok w5' (p := i)
  have ok1 := ok0 hi
  clear ok0
  obtain ⟨m, em⟩ : ∃ m, m = pms n k t i := ⟨_, rfl⟩
  rw [← em] at hK ok1 ok2
  have mb : ∀ x, x < n → (m.testBit x = true ↔ pix n k t x = i) := fun x hx => by
    rw [em]
    unfold pms
    rw [bm_in hx, beq_iff_eq]
  have hpi : ∀ x, x < n → pix n k t x ≤ 12 := fun x hx => Nat.le_trans (cn_le _ _) (by have := ltj_lt (fun j hj => (w5' j hj).1) k (Nat.le_refl _) x hx; omega)
  have rl : ∀ x, rk m x ≤ x := fun x => cn_le _ _
  -- the puts
  have puts : ∀ h5 r5, FR h h5 → RR h5 r5 → kp (w0 r 0) r5 → r5.1.2.1 = 0 → r5.2.1 38 10 = nI (rk m n) → r5.2.1 39 10 = nI k → (∀ x, x < n → r5.2.1 43 x = nI (pix n k t x)) → (∀ x, x < n → r5.2.1 44 x = nI (rk m x)) → Wm (d + 3 + 1) (0, 0) JX12_part 148 [some (.ref 34), some (.int (nI p0)), some (.int (nI p)), some (.int (nI i)), none, none, none, some (.int (nI 0)), none] [] h5 (fun r h' => h'.1 0 = h.1 0 ∧ K r h') := by
    intro h5 r5 f5 o5 k5 t5 a38 a39 v5 u5
    have outer : ∀ c j h6 r6, j + c = k → FR h h6 → RR h6 r6 → ex [40] r5 r6 → kp (w0 r 0) r6 → (∀ j', j' < j → ∀ x, x < n → m.testBit x = true → r6.2.1 40 (960 + 12 * j' + rk m x) = nI (rk m (t j' x))) → Wm (d + 3 + 1) (0, 0) JX12_part 148 [some (.ref 34), some (.int (nI p0)), some (.int (nI p)), some (.int (nI i)), none, none, none, some (.int (nI j)), none] [] h6 (fun r h' => h'.1 0 = h.1 0 ∧ K r h') := by
      intro c
      induction c with
      | zero =>
        intro j h6 r6 hj f6 o6 x6 k6 a6
        have hj : j = k := by omega
        subst hj
        have L6 := kp.LC k6 hp w2' w4' hL
        refine bk_X12_part_148 _ _ _ _ _ ⟨_, o6.f6, _, o6.il 39 13 (by decide) (by omega), ?_⟩
        rw [L6.2.1]
        refine ⟨fun _ => ⟨_, o6.1, ?_⟩, fun q => absurd (le_t (Nat.le_refl _) (by omega)) q⟩
        have s6 : rfS r6 (stS st 0) := s1.kp w k6 (by rw [x6.1]; exact t5)
        refine rlay_ev o6 s6 w hp0 (t := nrw n m (fun i => i) t) (n := rk m n) (k := j) ⟨by rw [x6.at 10 (by simp)]; exact a38, by rw [x6.at 10 (by simp)]; exact a39, fun j' hj' y hy => ?_⟩ ok1 (Nat.le_trans (rl n) w2') w3' w4' ok2 (fun h7 R7 f7 => ⟨_, rfl, (f6.tr f7).z, hK h7 R7 (f6.tr f7)⟩)
        obtain ⟨x, hx, bx, ex⟩ := rk_surj n y hy
        subst ex
        have : nrw n m (fun i => i) t j' (rk m x) = rk m (t j' x) := nwg_at (f := fun i => i) bx n hx
        rw [this]
        exact a6 j' hj' x hx bx
      | succ c ih =>
        intro j h6 r6 hj f6 o6 x6 k6 a6
        have L6 := kp.LC k6 hp w2' w4' hL
        refine bk_X12_part_148 _ _ _ _ _ ⟨_, o6.f6, _, o6.il 39 13 (by decide) (by omega), ?_⟩
        rw [L6.2.1]
        refine ⟨fun q => absurd q (le_f (by omega) (by omega)), fun _ => ?_⟩
        have inner : ∀ c x h7 r7, x + c = n → FR h h7 → RR h7 r7 → ex [40] r5 r7 → kp (w0 r 0) r7 → (∀ j', j' < j → ∀ x, x < n → m.testBit x = true → r7.2.1 40 (960 + 12 * j' + rk m x) = nI (rk m (t j' x))) → (∀ x', x' < x → m.testBit x' = true → r7.2.1 40 (960 + 12 * j + rk m x') = nI (rk m (t j x'))) → Wm (d + 3 + 1) (0, 0) JX12_part 162 [some (.ref 34), some (.int (nI p0)), some (.int (nI p)), some (.int (nI i)), none, none, none, some (.int (nI j)), some (.int (nI x))] [] h7 (fun r h' => h'.1 0 = h.1 0 ∧ K r h') := by
          intro c
          induction c with
          | zero =>
            intro x h7 r7 hx f7 o7 x7 k7 a7 b7
            have hx : x = n := by omega
            subst hx
            have L7 := kp.LC k7 hp w2' w4' hL
            refine bk_X12_part_162 _ _ _ _ _ _ ⟨_, o7.f5, _, o7.il 38 13 (by decide) (by omega), ?_⟩
            rw [L7.1]
            refine ⟨fun _ => ?_, fun q => absurd (le_t (Nat.le_refl _) (by omega)) q⟩
            rw [nI_1]
            refine ih (j + 1) h7 r7 (by omega) f7 o7 x7 k7 (fun j' hj' y hy by' => ?_)
            by_cases e : j' = j
            · rw [e]; exact b7 y hy by'
            · exact a7 j' (by omega) y hy by'
          | succ c ihc =>
            intro x h7 r7 hx f7 o7 x7 k7 a7 b7
            have hxn : x < n := by omega
            have L7 := kp.LC k7 hp w2' w4' hL
            have htx := (w5' j (by omega)).1 x hxn
            have hpx := hpi x hxn
            refine bk_X12_part_162 _ _ _ _ _ _ ⟨_, o7.f5, _, o7.il 38 13 (by decide) (by omega), ?_⟩
            rw [L7.1]
            refine ⟨fun q => absurd q (le_f (by omega) (by omega)), fun _ => ⟨_, o7.f10, _, o7.il 43 12 (by decide) (by omega), ?_⟩⟩
            rw [x7.at x (by simp), v5 x hxn, nI_1]
            refine ⟨fun q => ?_, fun q => ?_⟩
            · have nb : ¬ m.testBit x = true := fun b => q (by rw [(mb x hxn).mp b])
              refine ihc (x + 1) h7 r7 (by omega) f7 o7 x7 k7 a7 (fun x' hx' bx' => ?_)
              by_cases e : x' = x
              · rw [e] at bx'; exact absurd bx' nb
              · exact b7 x' (by omega) bx'
            · have bx : m.testBit x = true := (mb x hxn).mpr (nI_inj (by omega) (by omega) q)
              have r1 := rl x
              have r2 := rl (t j x)
              refine ⟨_, o7.f11, _, o7.il 44 12 (by decide) (by omega), _, o7.f11, _, o7.1, ?_⟩
              rw [x7.at x (by simp), u5 x hxn]
              refine ratL_ev o7 L7 (by omega) w4' w2' (by omega) hxn ⟨_, rfl, _, o7.il 44 12 (by decide) (by omega), _, o7.1, ?_⟩
              rw [x7.at _ (by simp), u5 _ htx]
              refine rput_ev (p := 10) o7 (by omega) (fun h8 f8 o8 => ⟨rfl, ?_⟩)
              refine ihc (x + 1) h8 _ (by omega) (f7.tr f8) o8 (x7.tr (ex.wr (by simp))) (k7.tr (kp_wr40 (by omega))) (fun j' hj' y hy by' => ?_) (fun x' hx' bx' => ?_)
              · have := rl y
                rw [wr_i (by omega)]
                exact a7 j' hj' y hy by'
              · by_cases e : x' = x
                · rw [e, show 960 + 12 * j + rk m x = 96 * 10 + 12 * j + rk m x by omega, wr_j]
                · have ne : ¬ rk m x' = rk m x := fun q => e (rk_inj bx' bx q)
                  rw [wr_i (by omega)]
                  exact b7 x' (by omega) bx'
        exact inner n 0 h6 r6 (by omega) f6 o6 x6 k6 a6 (fun x' hx' => absurd hx' (by omega))
    exact outer k 0 h5 r5 (by omega) f5 o5 ex.rf k5 (fun j' hj' => absurd hj' (by omega))
  -- the names
  have nam : ∀ c x h4 r4, x + c = n → FR h h4 → RR h4 r4 → ex [44] r3 r4 → (∀ y, y < x → r4.2.1 44 y = nI (rk m y)) → Wm (d + 3 + 1) (0, 0) JX12_part 76 [some (.ref 34), some (.int (nI p0)), some (.int (nI p)), some (.int (nI i)), none, none, some (.int (nI (rk m x))), some (.int (nI x)), none] [] h4 (fun r h' => h'.1 0 = h.1 0 ∧ K r h') := by
    intro c
    induction c with
    | zero =>
      intro x h4 r4 hx f4 o4 x4 u4
      have hx : x = n := by omega
      subst hx
      have k4 := k3.tr (x4.kp (by simp))
      have L4 := kp.LC k4 hp w2' w4' hL
      obtain ⟨h5, e5, f5, o5⟩ := o4.is (x := nI (rk m x)) (j := 10) 38 13 (by decide) (by decide)
      obtain ⟨h6, e6, f6, o6⟩ := o5.is (x := nI k) (j := 10) 39 13 (by decide) (by decide)
      refine bk_X12_part_76 _ _ _ _ _ _ ⟨_, o4.f5, _, o4.il 38 13 (by decide) (by omega), ?_⟩
      rw [L4.1]
      refine ⟨fun _ => ⟨_, o4.f5, h5, e5, _, o5.f6, _, o5.f6, _, o5.il 39 13 (by decide) (by omega), h6, ?_, ?_⟩, fun q => absurd (le_t (Nat.le_refl _) (by omega)) q⟩
      · rw [show (wr r4 38 10 (nI (rk m x))).2.1 39 p = nI k by rw [wr_n (by decide)]; exact L4.2.1]
        exact e6
      · refine puts h6 _ ((f4.tr f5).tr f6) o6 ((k4.tr (kp_wr38 (by omega))).tr (kp_wr39 (by omega))) ?_ ?_ wr_j (fun y hy => ?_) (fun y hy => ?_)
        · show r4.1.2.1 = 0
          rw [x4.1, x3.1]
          exact t'
        · rw [wr_n (by decide), wr_j]
        · rw [wr_n (by decide), wr_n (by decide), x4.at y (by simp)]
          exact v3 y hy
        · rw [wr_n (by decide), wr_n (by decide)]
          exact u4 y hy
    | succ c ih =>
      intro x h4 r4 hx f4 o4 x4 u4
      have hxn : x < n := by omega
      have k4 := k3.tr (x4.kp (by simp))
      have L4 := kp.LC k4 hp w2' w4' hL
      have hpx := hpi x hxn
      obtain ⟨h5, e5, f5, o5⟩ := o4.is (x := nI (rk m x)) (j := x) 44 12 (by decide) (by omega)
      have ih := ih (x + 1) h5 _ (by omega) (f4.tr f5) o5 (x4.tr (ex.wr (by simp))) (fun y hy => by
        by_cases e : y = x
        · rw [e, wr_j]
        · rw [wr_i e]; exact u4 y (by omega))
      rw [rk_succ] at ih
      refine bk_X12_part_76 _ _ _ _ _ _ ⟨_, o4.f5, _, o4.il 38 13 (by decide) (by omega), ?_⟩
      rw [L4.1]
      refine ⟨fun q => absurd q (le_f (by omega) (by omega)), fun _ => ⟨_, o4.f11, h5, e5, _, o5.f10, _, o5.il 43 12 (by decide) (by omega), ?_⟩⟩
      rw [wr_n (by decide), x4.at x (by simp), v3 x hxn]
      refine ⟨fun q => ?_, fun q => ?_⟩
      · rw [if_neg (fun b => q (by rw [(mb x hxn).mp b]))] at ih
        rw [Int32.add_zero, nI_1]
        exact ih
      · rw [if_pos ((mb x hxn).mpr (nI_inj (by omega) (by omega) q))] at ih
        rw [nI_1, nI_1]
        exact ih
  exact nam n 0 h3 r3 (by omega) F3 o3 ex.rf (fun y hy => absurd hy (by omega))
end RefPart
section RefBraid
variable {d : Nat} {h : mH} {r : rst} {st : AS} {K : Option Value → mH → Prop}
def brd (n : Nat) (t : Nat → Nat → Nat) (j : Nat) (how : Int32) : Nat → Nat → Nat := if how = 0 then lfw n t j else lbk n t j
theorem rbraided_ev {q p j n k : Nat} {t : Nat → Nat → Nat} {how : Int32} (o : RR h r) (L : LC r p n k t) (hq : q < 13) (hp : p < 13) (hne : q ≠ p) (hn : n ≤ 12) (hk : k ≤ 8) (hj : j + 1 < k) (hpm : ∀ j, j < k → pm n (t j)) (hK : ∀ h' r', FR h h' → RR h' r' → ex [38, 39, 40] r r' → LC r' q n k (brd n t j how) → (∀ i, i ≠ q → r'.2.1 38 i = r.2.1 38 i ∧ r'.2.1 39 i = r.2.1 39 i) → (∀ i, i < 96 * q ∨ 96 * q + 96 ≤ i → r'.2.1 40 i = r.2.1 40 i) → (∀ i, i < 96 → (∀ j, j < k → ∀ x, x < n → i ≠ 12 * j + x) → r'.2.1 40 (96 * q + i) = r.2.1 40 (96 * p + i)) → K none h') : Ev (d + 2) (0, 0) MX12_braided [.ref 34, .int (nI q), .int (nI p), .int (nI j), .int how] h K := by
  refine en_X12_braided (bk_X12_braided_0 _ _ _ _ _ ⟨_, o.1, ?_⟩)
  refine become_ev o hq hp (fun h1 r1 f1 o1 x1 a38 a39 a40 a40' => ⟨rfl, ?_⟩)
  have out1 : ∀ i, i < 96 * q ∨ 96 * q + 96 ≤ i → r1.2.1 40 i = r.2.1 40 i := fun i hi => by
    rcases hi with hi | hi
    · exact a40' i hi
    · have := a40 (i - 96 * q)
      rw [if_neg (by omega), show 96 * q + (i - 96 * q) = i by omega] at this
      exact this
  have off1 : ∀ i, i < 96 → r1.2.1 40 (96 * q + i) = r.2.1 40 (96 * p + i) := fun i hi => by
    have := a40 i
    rw [if_pos hi] at this
    exact this
  have L1 : LC r1 p n k t := ⟨by rw [a38, if_neg (Ne.symm hne)]; exact L.1, by rw [a39, if_neg (Ne.symm hne)]; exact L.2.1, fun j hj x hx => by rw [out1 _ (by omega)]; exact L.2.2 j hj x hx⟩
  -- rows of the result
  have U0 : ∀ j' y, j' ≠ j → j' ≠ j + 1 → brd n t j how j' y = t j' y := fun j' y h1 h2 => by
    unfold brd lfw lbk ut
    split
    · simp only [h1, h2, if_false]
    · simp only [h1, h2, if_false]
  have key : ∀ c x h2 r2, x + c = n → FR h h2 → RR h2 r2 → ex [40] r1 r2 → LC r2 p n k t → (∀ i, i < 96 * q ∨ 96 * q + 96 ≤ i → r2.2.1 40 i = r.2.1 40 i) → (∀ i, i < 96 → (∀ j, j < k → ∀ x, x < n → i ≠ 12 * j + x) → r2.2.1 40 (96 * q + i) = r.2.1 40 (96 * p + i)) → (∀ j', j' < k → ∀ y, y < n → (j' = j ∨ j' = j + 1 → y < x) → r2.2.1 40 (96 * q + 12 * j' + y) = nI (brd n t j how j' y)) → Wm (d + 1 + 1) (0, 0) JX12_braided 9 [some (.ref 34), some (.int (nI q)), some (.int (nI p)), some (.int (nI j)), some (.int how), some (.int (nI x))] [] h2 (fun r h' => h'.1 0 = h.1 0 ∧ K r h') := by
    intro c
    induction c with
    | zero =>
      intro x h2 r2 hx f2 o2 x2 L2 out2 off2 a2
      have hx : x = n := by omega
      subst hx
      refine bk_X12_braided_9 _ _ _ _ _ _ ⟨_, o2.f5, _, o2.il 38 13 (by decide) hp, ?_⟩
      rw [L2.1]
      refine ⟨fun _ => ⟨f2.z, hK h2 r2 f2 o2 (x1.tr (x2.wk (by simp))) ⟨?_, ?_, fun j' hj' y hy => a2 j' hj' y hy (fun _ => hy)⟩ (fun i hi => ⟨?_, ?_⟩) out2 off2⟩, fun z => absurd (le_t (Nat.le_refl _) (by omega)) z⟩
      · rw [x2.at q (by simp), a38, if_pos rfl]; exact L.1
      · rw [x2.at q (by simp), a39, if_pos rfl]; exact L.2.1
      · rw [x2.at i (by simp), a38, if_neg hi]
      · rw [x2.at i (by simp), a39, if_neg hi]
    | succ c ih =>
      intro x h2 r2 hx f2 o2 x2 L2 out2 off2 a2
      have hxn : x < n := by omega
      have pj := hpm j (by omega)
      have pj1 := hpm (j + 1) hj
      refine bk_X12_braided_9 _ _ _ _ _ _ ⟨_, o2.f5, _, o2.il 38 13 (by decide) hp, ?_⟩
      rw [L2.1]
      refine ⟨fun z => absurd z (le_f hxn (by omega)), fun _ => ⟨fun z => ⟨_, o2.1, ?_⟩, fun z => ⟨_, o2.1, ?_⟩⟩⟩
      · have u1 : brd n t j how (j + 1) x = t j x := by
          unfold brd lbk ut
          rw [if_neg z, if_neg (by omega), if_pos rfl]
        have u0 : brd n t j how j x = iv (t j) n (t (j + 1) (t j x)) := by
          unfold brd lbk ut
          rw [if_neg z, if_pos rfl]
        have l1 := pj.1 x hxn
        have l2 := pj1.1 _ l1
        refine ratL_ev o2 L2 hp hk hn (by omega) hxn ⟨_, rfl, _, o2.1, ?_⟩
        rw [nI_1]
        refine rput_ev o2 (by omega) (fun h3 f3 o3 => ⟨rfl, _, o3.1, ?_⟩)
        have L3 := L2.wr (i := 96 * q + 12 * (j + 1) + x) (v := nI (t j x)) (fun j' hj' y hy => by omega)
        refine ratL_ev o3 L3 hp hk hn (by omega) hxn ⟨_, rfl, _, o3.1, ?_⟩
        refine ratL_ev o3 L3 hp hk hn hj l1 ⟨_, rfl, _, o3.1, ?_⟩
        refine backAt_ev o3 L3 hp hk hn (by omega) pj l2 ⟨_, rfl, _, o3.1, ?_⟩
        refine rput_ev o3 (by omega) (fun h4 f4 o4 => ⟨rfl, ?_⟩)
        rw [nI_1]
        refine ih (x + 1) h4 _ (by omega) ((f2.tr f3).tr f4) o4 ((x2.tr (ex.wr (by simp))).tr (ex.wr (by simp))) (L3.wr (fun j' hj' y hy => by omega)) (fun i hi => by rw [wr_i (by omega), wr_i (by omega)]; exact out2 i hi) (fun i hi hno => ?_) (fun j' hj' y hy hc => ?_)
        · have n1 := hno j (by omega) x hxn
          have n2 := hno (j + 1) hj x hxn
          rw [wr_i (by omega), wr_i (by omega)]
          exact off2 i hi hno
        · by_cases e1 : j' = j ∧ y = x
          · rw [e1.1, e1.2, wr_j, u0]
          · by_cases e2 : j' = j + 1 ∧ y = x
            · rw [e2.1, e2.2, wr_i (by omega), wr_j, u1]
            · rw [wr_i (by omega), wr_i (by omega)]
              exact a2 j' hj' y hy (fun q => by have := hc q; omega)
      · have u0 : brd n t j how j x = t (j + 1) x := by
          unfold brd lfw ut
          rw [if_pos z, if_neg (by omega), if_pos rfl]
        have u1 : brd n t j how (j + 1) x = t (j + 1) (t j (iv (t (j + 1)) n x)) := by
          unfold brd lfw ut
          rw [if_pos z, if_pos rfl]
        have l1 := (pm_iv pj1 hxn).2
        have l2 := pj.1 _ l1
        rw [nI_1]
        refine ratL_ev o2 L2 hp hk hn hj hxn ⟨_, rfl, _, o2.1, ?_⟩
        refine rput_ev o2 (by omega) (fun h3 f3 o3 => ⟨rfl, _, o3.1, ?_⟩)
        have L3 := L2.wr (i := 96 * q + 12 * j + x) (v := nI (t (j + 1) x)) (fun j' hj' y hy => by omega)
        refine backAt_ev o3 L3 hp hk hn hj pj1 hxn ⟨_, rfl, _, o3.1, ?_⟩
        refine ratL_ev o3 L3 hp hk hn (by omega) l1 ⟨_, rfl, _, o3.1, ?_⟩
        refine ratL_ev o3 L3 hp hk hn hj l2 ⟨_, rfl, _, o3.1, ?_⟩
        refine rput_ev o3 (by omega) (fun h4 f4 o4 => ⟨rfl, ?_⟩)
        rw [nI_1]
        refine ih (x + 1) h4 _ (by omega) ((f2.tr f3).tr f4) o4 ((x2.tr (ex.wr (by simp))).tr (ex.wr (by simp))) (L3.wr (fun j' hj' y hy => by omega)) (fun i hi => by rw [wr_i (by omega), wr_i (by omega)]; exact out2 i hi) (fun i hi hno => ?_) (fun j' hj' y hy hc => ?_)
        · have n1 := hno j (by omega) x hxn
          have n2 := hno (j + 1) hj x hxn
          rw [wr_i (by omega), wr_i (by omega)]
          exact off2 i hi hno
        · by_cases e1 : j' = j + 1 ∧ y = x
          · rw [e1.1, e1.2, wr_j, u1]
          · by_cases e2 : j' = j ∧ y = x
            · rw [e2.1, e2.2, wr_i (by omega), wr_j, u0]
            · rw [wr_i (by omega), wr_i (by omega)]
              exact a2 j' hj' y hy (fun q => by have := hc q; omega)
  refine key n 0 h1 r1 (by omega) f1 o1 ex.rf L1 out1 (fun i hi _ => off1 i hi) (fun j' hj' y hy hc => ?_)
  have h1' : j' ≠ j := fun e => absurd (hc (Or.inl e)) (by omega)
  have h2' : j' ≠ j + 1 := fun e => absurd (hc (Or.inr e)) (by omega)
  rw [U0 j' y h1' h2']
  have := off1 (12 * j' + y) (by omega)
  rw [← Nat.add_assoc, ← Nat.add_assoc] at this
  rw [this]
  exact L.2.2 j' hj' y hy
theorem brd_pm {n k j : Nat} {t : Nat → Nat → Nat} {how : Int32} (hp : ∀ j, j < k → pm n (t j)) (hj : j + 1 < k) : ∀ i, i < k → pm n (brd n t j how i) := by
  unfold brd
  split
  · exact lfw_pm hp hj
  · exact lbk_pm hp hj
/-- what is laid at place 10 and above leaves the state -/
theorem kp_of {r r' : rst} (x : ex [38, 39, 40] r r') (h1 : ∀ i, i ≠ 10 → r'.2.1 38 i = r.2.1 38 i ∧ r'.2.1 39 i = r.2.1 39 i) (h2 : ∀ i, i < 96 * 10 ∨ 96 * 10 + 96 ≤ i → r'.2.1 40 i = r.2.1 40 i) : kp r r' := ⟨by rw [x.1], ⟨x.2.2 35 (by simp), x.2.2 36 (by simp), x.2.2 37 (by simp), x.2.2 52 (by simp)⟩, fun p hp => h1 p (by omega), fun i hi => h2 i (by omega)⟩
theorem r_braid {x y j u : Int32} (F : RFs h st) (w : wfS st) (hK : ∀ h', RFs h' (opBraid st x y j u).2 → FR h h' → K (some (.int (opBraid st x y j u).1)) h') : Ev (d + 4) (0, 0) MX12_braid [.ref 34, .int x, .int y, .int j, .int u] h K := by
  obtain ⟨r, o, s⟩ := F
  obtain ⟨h1, e1, f1, o1⟩ := o.p0 (x := 0)
  have s1 : rfS (w0 r 0) st := s.kp w kp.w0 s.1
  refine en_X12_braid (bk_X12_braid_0 _ _ _ _ _ ⟨h1, e1, ?_⟩)
  have bad0 : opBraid st x y j u = badO st → h1.1 0 = h.1 0 ∧ K (some (.int (-1000001))) h1 := fun e => by
    rw [e] at hK
    exact ⟨f1.z, hK h1 ⟨_, o1, s1⟩ f1⟩
  refine isPlace_ev (fun q => ⟨_, rfl, fun _ => bad0 (by unfold opBraid; rw [q]), fun z => absurd rfl z⟩) (fun p0 hp0 e q0 => ⟨_, rfl, fun z => absurd z (by decide), fun _ => ?_⟩)
  subst e
  refine isPlace_ev (fun q => ⟨_, rfl, fun _ => bad0 (by unfold opBraid; rw [q0, q]), fun z => absurd rfl z⟩) (fun p hp e qp => ⟨_, rfl, fun z => absurd z (by decide), fun _ => ?_⟩)
  subst e
  have unf : opBraid st (nI p0) (nI p) j u = if u < 0 ∨ ¬ u ≤ 1 then badO st else match st.2.1 p with
      | none => fndO st 1
      | some c => match ixI j (c.2.1 - 1) with
        | none => badO st
        | some i => shvO st p0 c.1 c.2.1 (if u = 0 then lfw c.1 c.2.2 i else lbk c.1 c.2.2 i) := by
    unfold opBraid
    rw [q0, qp]
    rfl
  refine rin_ev (lo := 0) (hi := 1) (by decide) (by decide) (fun z => ⟨_, rfl, fun z => absurd rfl z, fun _ => bad0 (by rw [unf, if_pos (z.elim Or.inl (fun z => Or.inr (lt1.mp z)))])⟩) (fun v1 v2 => ⟨_, rfl, fun _ => ⟨_, o1.f1, _, o1.1, ?_⟩, fun z => absurd z (by decide)⟩)
  have v3 : u ≤ 1 := Classical.byContradiction fun z => v2 (lt1.mpr z)
  rw [if_neg (fun z => z.elim v1 (fun z => z v3))] at unf
  refine rlook_ev (d := d + 1) o1 hp (s1.2.2.1 p hp) (w.2.1 p hp) (fun hv h' r' f' o' k' t' => ⟨_, rfl, fun z => absurd z (by decide), fun _ => ⟨(f1.tr f').z, ?_⟩⟩) (fun n k t hv _ h' r' f' o' k' t' => ⟨_, rfl, fun _ => ⟨_, o'.f6, _, o'.il 39 13 (by decide) (by omega), ?_⟩, fun z => absurd (by decide) z⟩) (fun n k t hv z => absurd rfl z)
  · rw [hv] at unf
    rw [unf] at hK
    exact hK h' ⟨r', o', s1.kp w k' t'⟩ (f1.tr f')
  rw [hv] at unf
  simp only at unf
  obtain ⟨w1', w2', w3', w4', w5'⟩ := w.2.1 p hp n k t hv
  have hL := s1.2.2.1 p hp
  rw [hv] at hL
  have hL : LC (w0 r 0) p n k t := hL
  have L' : LC r' p n k t := kp.LC k' hp w2' w4' hL
  have F' := f1.tr f'
  rw [L'.2.1]
  have e2 : nI k - 2 = nI (k - 1) - 1 := by
    rcases (show k = 1 ∨ k = 2 ∨ k = 3 ∨ k = 4 ∨ k = 5 ∨ k = 6 ∨ k = 7 ∨ k = 8 by omega) with e | e | e | e | e | e | e | e <;> subst e <;> decide
  refine rin0_ev (N := k - 1) (by omega) (by rw [e2]) (fun q2 => ⟨_, rfl, fun z => absurd rfl z, fun _ => ?_⟩) (fun i hi e q2 => ⟨_, rfl, fun _ => ⟨_, o'.1, ?_⟩, fun z => absurd z (by decide)⟩)
  · obtain ⟨h2, e2, f2, o2⟩ := o'.p1 (x := (w0 r 0).1.2.1)
    rw [unf, q2] at hK
    exact ⟨h2, e2, (F'.tr f2).z, hK h2 ⟨_, o2, s1.kp w (k'.tr kp.w1) s1.1⟩ (F'.tr f2)⟩
  subst e
  rw [q2] at unf
  simp only at unf
  rw [unf] at hK
  refine rbraided_ev (d := d + 1) (q := 10) o' L' (by omega) (by omega) (by omega) w2' w4' (by omega) w5' (fun h3 r3 f3 o3 x3 L3 a3 b3 _ => ⟨rfl, _, o3.1, ?_⟩)
  have k3 := k'.tr (kp_of x3 a3 b3)
  exact rlay_ev (x := 0) o3 (s1.kp w k3 (by rw [x3.1]; exact t')) w hp0 L3 w1' w2' w3' w4' (brd_pm w5' (by omega)) (fun h4 R4 f4 => ⟨_, rfl, ((F'.tr f3).tr f4).z, hK h4 R4 ((F'.tr f3).tr f4)⟩)
theorem r_turn {x y u : Int32} (F : RFs h st) (w : wfS st) (hK : ∀ h', RFs h' (opTurn st x y u).2 → FR h h' → K (some (.int (opTurn st x y u).1)) h') : Ev (d + 4) (0, 0) MX12_turn [.ref 34, .int x, .int y, .int u] h K := by
  obtain ⟨r, o, s⟩ := F
  obtain ⟨h1, e1, f1, o1⟩ := o.p0 (x := 0)
  have s1 : rfS (w0 r 0) st := s.kp w kp.w0 s.1
  refine en_X12_turn (bk_X12_turn_0 _ _ _ _ ⟨h1, e1, ?_⟩)
  have bad0 : opTurn st x y u = badO st → h1.1 0 = h.1 0 ∧ K (some (.int (-1000001))) h1 := fun e => by
    rw [e] at hK
    exact ⟨f1.z, hK h1 ⟨_, o1, s1⟩ f1⟩
  refine isPlace_ev (fun q => ⟨_, rfl, fun _ => bad0 (by unfold opTurn; rw [q]), fun z => absurd rfl z⟩) (fun p0 hp0 e q0 => ⟨_, rfl, fun z => absurd z (by decide), fun _ => ?_⟩)
  subst e
  refine isPlace_ev (fun q => ⟨_, rfl, fun _ => bad0 (by unfold opTurn; rw [q0, q]), fun z => absurd rfl z⟩) (fun p hp e qp => ⟨_, rfl, fun z => absurd z (by decide), fun _ => ?_⟩)
  subst e
  have unf : opTurn st (nI p0) (nI p) u = if u < 0 ∨ ¬ u ≤ 1 then badO st else match st.2.1 p with
      | none => fndO st 1
      | some c => if u = 0 then shvO st p0 c.1 c.2.1 (mir c.1 c.2.1 c.2.2) else if c.2.1 = 3 then shvO st p0 c.1 c.2.1 (lfw c.1 c.2.2 0) else fndO st 3 := by
    unfold opTurn
    rw [q0, qp]
    rfl
  refine rin_ev (lo := 0) (hi := 1) (by decide) (by decide) (fun z => ⟨_, rfl, fun z => absurd rfl z, fun _ => bad0 (by rw [unf, if_pos (z.elim Or.inl (fun z => Or.inr (lt1.mp z)))])⟩) (fun v1 v2 => ⟨_, rfl, fun _ => ⟨_, o1.1, ?_⟩, fun z => absurd z (by decide)⟩)
  have v3 : u ≤ 1 := Classical.byContradiction fun z => v2 (lt1.mpr z)
  rw [if_neg (fun z => z.elim v1 (fun z => z v3))] at unf
  refine rlook_ev (d := d + 1) o1 hp (s1.2.2.1 p hp) (w.2.1 p hp) (fun hv h' r' f' o' k' t' => ⟨_, rfl, fun z => absurd z (by decide), fun _ => ⟨(f1.tr f').z, ?_⟩⟩) (fun n k t hv _ h' r' f' o' k' t' => ⟨_, rfl, fun _ => ?_, fun z => absurd (by decide) z⟩) (fun n k t hv z => absurd rfl z)
  · rw [hv] at unf
    rw [unf] at hK
    exact hK h' ⟨r', o', s1.kp w k' t'⟩ (f1.tr f')
  rw [hv] at unf
  simp only at unf
  obtain ⟨w1', w2', w3', w4', w5'⟩ := w.2.1 p hp n k t hv
  have hL := s1.2.2.1 p hp
  rw [hv] at hL
  have hL : LC (w0 r 0) p n k t := hL
  have L' : LC r' p n k t := kp.LC k' hp w2' w4' hL
  have F' := f1.tr f'
  refine ⟨fun z => ⟨_, o'.1, ?_⟩, fun z => ⟨_, o'.f6, _, o'.il 39 13 (by decide) (by omega), ?_⟩⟩
  · have u0 : u = 0 := by
      obtain ⟨i, hi, rfl⟩ := nI_of v1
      have := (nI_leI (b := 1) (by omega) (by decide)).mp v3
      rcases (show i = 0 ∨ i = 1 by omega) with e | e <;> subst e
      · rfl
      · exact absurd rfl z
    rw [if_pos u0] at unf
    rw [unf] at hK
    refine become_ev (p := 10) o' (by omega) (by omega) (fun h2 r2 f2 o2 x2 a38 a39 a40 a40' => ⟨rfl, ?_⟩)
    have out2 : ∀ i, i < 96 * 10 ∨ 96 * 10 + 96 ≤ i → r2.2.1 40 i = r'.2.1 40 i := fun i hi => by
      rcases hi with hi | hi
      · exact a40' i hi
      · have := a40 (i - 960)
        rw [if_neg (by omega), show 96 * 10 + (i - 960) = i by omega] at this
        exact this
    have kk2 : kp r' r2 := kp_of x2 (fun i hi => ⟨by rw [a38, if_neg hi], by rw [a39, if_neg hi]⟩) out2
    have outer : ∀ c j h3 r3, j + c = k → FR h h3 → RR h3 r3 → ex [40] r2 r3 → kp r' r3 → (∀ j', j' < j → ∀ x, x < n → r3.2.1 40 (960 + 12 * (k - 1 - j') + t j' x) = nI x) → Wm (d + 3 + 1) (0, 0) JX12_turn 94 [some (.ref 34), some (.int (nI p0)), some (.int (nI p)), none, none, some (.int (nI j)), none] [] h3 (fun r h' => h'.1 0 = h.1 0 ∧ K r h') := by
      intro c
      induction c with
      | zero =>
        intro j h3 r3 hj f3 o3 x3 k3 a3
        have hj : j = k := by omega
        subst hj
        have L3 := kp.LC k3 hp w2' w4' L'
        refine bk_X12_turn_94 _ _ _ _ ⟨_, o3.f6, _, o3.il 39 13 (by decide) (by omega), ?_⟩
        rw [L3.2.1]
        refine ⟨fun _ => ⟨_, o3.1, ?_⟩, fun q => absurd (le_t (Nat.le_refl _) (by omega)) q⟩
        refine rlay_ev (x := 0) o3 (s1.kp w (k'.tr k3) (by rw [x3.1, x2.1]; exact t')) w hp0 (t := mir n j t) ⟨by rw [x3.at 10 (by simp), a38, if_pos rfl]; exact L'.1, by rw [x3.at 10 (by simp), a39, if_pos rfl]; exact L'.2.1, fun j' hj' y hy => ?_⟩ w1' w2' w3' w4' (mir_pm w3' w5') (fun h4 R4 f4 => ⟨_, rfl, (f3.tr f4).z, hK h4 R4 (f3.tr f4)⟩)
        obtain ⟨e1, e2⟩ := pm_iv (w5' (j - 1 - j') (by omega)) hy
        have := a3 (j - 1 - j') (by omega) _ e2
        rw [e1, show j - 1 - (j - 1 - j') = j' by omega] at this
        exact this
      | succ c ih =>
        intro j h3 r3 hj f3 o3 x3 k3 a3
        have L3 := kp.LC k3 hp w2' w4' L'
        refine bk_X12_turn_94 _ _ _ _ ⟨_, o3.f6, _, o3.il 39 13 (by decide) (by omega), ?_⟩
        rw [L3.2.1]
        refine ⟨fun q => absurd q (le_f (by omega) (by omega)), fun _ => ?_⟩
        have pj := w5' j (by omega)
        have inner : ∀ c x h4 r4, x + c = n → FR h h4 → RR h4 r4 → ex [40] r2 r4 → kp r' r4 → (∀ j', j' < j → ∀ x, x < n → r4.2.1 40 (960 + 12 * (k - 1 - j') + t j' x) = nI x) → (∀ x', x' < x → r4.2.1 40 (960 + 12 * (k - 1 - j) + t j x') = nI x') → Wm (d + 3 + 1) (0, 0) JX12_turn 108 [some (.ref 34), some (.int (nI p0)), some (.int (nI p)), none, none, some (.int (nI j)), some (.int (nI x))] [] h4 (fun r h' => h'.1 0 = h.1 0 ∧ K r h') := by
          intro c
          induction c with
          | zero =>
            intro x h4 r4 hx f4 o4 x4 k4 a4 b4
            have hx : x = n := by omega
            subst hx
            have L4 := kp.LC k4 hp w2' w4' L'
            refine bk_X12_turn_108 _ _ _ _ _ ⟨_, o4.f5, _, o4.il 38 13 (by decide) (by omega), ?_⟩
            rw [L4.1]
            refine ⟨fun _ => ?_, fun q => absurd (le_t (Nat.le_refl _) (by omega)) q⟩
            rw [nI_1]
            refine ih (j + 1) h4 r4 (by omega) f4 o4 x4 k4 (fun j' hj' y hy => ?_)
            by_cases e : j' = j
            · rw [e]; exact b4 y hy
            · exact a4 j' (by omega) y hy
          | succ c ihc =>
            intro x h4 r4 hx f4 o4 x4 k4 a4 b4
            have hxn : x < n := by omega
            have L4 := kp.LC k4 hp w2' w4' L'
            have ltx := pj.1 x hxn
            refine bk_X12_turn_108 _ _ _ _ _ ⟨_, o4.f5, _, o4.il 38 13 (by decide) (by omega), ?_⟩
            rw [L4.1]
            refine ⟨fun q => absurd q (le_f (by omega) (by omega)), fun _ => ⟨_, o4.f6, _, o4.il 39 13 (by decide) (by omega), _, o4.1, ?_⟩⟩
            rw [L4.2.1]
            refine ratL_ev o4 L4 (by omega) w4' w2' (by omega) hxn ⟨_, rfl, _, o4.1, ?_⟩
            rw [nI_m1 w3', pk_sub (show j ≤ k - 1 by omega)]
            refine rput_ev (p := 10) o4 (by omega) (fun h5 f5 o5 => ⟨rfl, ?_⟩)
            rw [nI_1]
            refine ihc (x + 1) h5 _ (by omega) (f4.tr f5) o5 (x4.tr (ex.wr (by simp))) (k4.tr (kp_wr40 (by omega))) (fun j' hj' y hy => ?_) (fun x' hx' => ?_)
            · have := (w5' j' (by omega)).1 y hy
              rw [wr_i (by omega)]
              exact a4 j' hj' y hy
            · by_cases e : x' = x
              · rw [e, show 960 + 12 * (k - 1 - j) + t j x = 96 * 10 + 12 * (k - 1 - j) + t j x by omega, wr_j]
              · have ne : ¬ t j x' = t j x := fun q => e (pj.2 x' x (by omega) hxn q)
                rw [wr_i (by omega)]
                exact b4 x' (by omega)
        exact inner n 0 h3 r3 (by omega) f3 o3 x3 k3 a3 (fun x' hx' => absurd hx' (by omega))
    exact outer k 0 h2 r2 (by omega) (F'.tr f2) o2 ex.rf kk2 (fun j' hj' => absurd hj' (by omega))
  · have u0 : ¬ u = 0 := fun e => by rw [e] at z; exact absurd z (by decide)
    rw [if_neg u0] at unf
    rw [L'.2.1]
    refine ⟨fun z3 => ⟨_, o'.1, ?_⟩, fun z3 => ⟨_, o'.1, ?_⟩⟩
    · have k3 : k = 3 := nI_inj (by omega) (by decide) z3
      rw [if_pos k3] at unf
      rw [unf] at hK
      refine rbraided_ev (d := d + 1) (q := 10) (j := 0) (how := 0) o' L' (by omega) (by omega) (by omega) w2' w4' (by omega) w5' (fun h3 r3 f3 o3 x3 L3 a3 b3 _ => ⟨rfl, _, o3.1, ?_⟩)
      have kk := k'.tr (kp_of x3 a3 b3)
      exact rlay_ev (x := 0) (t := lfw n t 0) o3 (s1.kp w kk (by rw [x3.1]; exact t')) w hp0 L3 w1' w2' w3' w4' (lfw_pm w5' (by omega)) (fun h4 R4 f4 => ⟨_, rfl, ((F'.tr f3).tr f4).z, hK h4 R4 ((F'.tr f3).tr f4)⟩)
    · rw [if_neg (fun e => z3 (by rw [e]; rfl))] at unf
      rw [unf] at hK
      exact rfound_ev o' (fun h9 f9 o9 => ⟨_, rfl, (F'.tr f9).z, hK h9 ⟨_, o9, s1.kp w (k'.tr kp.w1) rfl⟩ (F'.tr f9)⟩)
theorem r_over {x y z : Int32} (F : RFs h st) (w : wfS st) (hK : ∀ h', RFs h' (opOver st x y z).2 → FR h h' → K (some (.int (opOver st x y z).1)) h') : Ev (d + 4) (0, 0) MX12_over [.ref 34, .int x, .int y, .int z] h K := by
  obtain ⟨r, o, s⟩ := F
  obtain ⟨h1, e1, f1, o1⟩ := o.p0 (x := 0)
  have s1 : rfS (w0 r 0) st := s.kp w kp.w0 s.1
  refine en_X12_over (bk_X12_over_0 _ _ _ _ ⟨h1, e1, ?_⟩)
  have bad : opOver st x y z = badO st → h1.1 0 = h.1 0 ∧ K (some (.int (-1000001))) h1 := fun e => by
    rw [e] at hK
    exact ⟨f1.z, hK h1 ⟨_, o1, s1⟩ f1⟩
  have fnd' : opOver st x y z = fndO st 1 → ∃ fs : List Value, h1.1 34 = .inr (11, fs) ∧ Ev (d + 3) (0, 0) MX12_found [.ref 34, .int 1] h1 (fun r h' => ∃ y : Int32, r = some (.int y) ∧ (h'.1 0 = h.1 0 ∧ K (some (.int y)) h')) := fun e => by
    rw [e] at hK
    exact ⟨_, o1.1, rfound_ev o1 (fun h9 f9 o9 => ⟨_, rfl, (f1.tr f9).z, hK h9 ⟨_, o9, s1.kp w kp.w1 rfl⟩ (f1.tr f9)⟩)⟩
  refine isPlace_ev (fun q => ⟨_, rfl, fun _ => bad (by unfold opOver; rw [q]), fun z => absurd rfl z⟩) (fun p0 hp0 e q0 => ⟨_, rfl, fun z => absurd z (by decide), fun _ => ?_⟩)
  subst e
  refine isPlace_ev (fun q => ⟨_, rfl, fun _ => bad (by unfold opOver; rw [q0, q]), fun z => absurd rfl z⟩) (fun a ha e qa => ⟨_, rfl, fun z => absurd z (by decide), fun _ => ?_⟩)
  subst e
  refine isPlace_ev (fun q => ⟨_, rfl, fun z => absurd rfl z, fun _ => bad (by unfold opOver; rw [q0, qa, q])⟩) (fun b hb e qb => ⟨_, rfl, fun _ => ?_, fun z => absurd z (by decide)⟩)
  subst e
  have unf : opOver st (nI p0) (nI a) (nI b) = match st.2.1 a with
        | none => fndO st 1
        | some c => match st.2.1 b with
          | none => fndO st 1
          | some e => if ¬ c.2.1 = e.2.1 then badO st else if ¬ c.1 * e.1 ≤ 12 then (-1000003, st) else shvO st p0 (c.1 * e.1) c.2.1 (ovr e.1 c.2.2 e.2.2) := by
    unfold opOver
    rw [q0, qa, qb]
    rfl
  refine ⟨_, o1.f5, _, o1.il 38 13 (by decide) (by omega), ?_⟩
  have hca := s1.2.2.1 a ha
  have hcb := s1.2.2.1 b hb
  cases hva : st.2.1 a with
  | none =>
    rw [hva] at hca unf
    have hca : (w0 r 0).2.1 38 a = 0 := hca
    rw [hca]
    exact ⟨fun _ => fnd' unf, fun q => absurd rfl q⟩
  | some v =>
    obtain ⟨n, k, t⟩ := v
    rw [hva] at hca unf
    simp only at unf
    obtain ⟨w1', w2', w3', w4', w5'⟩ := w.2.1 a ha n k t hva
    have La : LC (w0 r 0) a n k t := hca
    rw [La.1]
    refine ⟨fun q => absurd q (nI_ne0 (by omega) (by omega)), fun _ => ⟨_, o1.f5, _, o1.il 38 13 (by decide) (by omega), ?_⟩⟩
    cases hvb : st.2.1 b with
    | none =>
      rw [hvb] at hcb unf
      have hcb : (w0 r 0).2.1 38 b = 0 := hcb
      rw [hcb]
      exact ⟨fun q => absurd rfl q, fun _ => fnd' unf⟩
    | some v' =>
      obtain ⟨m, k', u⟩ := v'
      rw [hvb] at hcb unf
      simp only at unf
      obtain ⟨y1', y2', y3', y4', y5'⟩ := w.2.1 b hb m k' u hvb
      have Lb : LC (w0 r 0) b m k' u := hcb
      rw [Lb.1]
      refine ⟨fun _ => ⟨_, o1.f6, _, o1.il 39 13 (by decide) (by omega), _, o1.f6, _, o1.il 39 13 (by decide) (by omega), ?_⟩, fun q => absurd q (nI_ne0 (by omega) (by omega))⟩
      rw [La.2.1, Lb.2.1]
      refine ⟨fun q => ⟨_, o1.f5, _, o1.il 38 13 (by decide) (by omega), _, o1.f5, _, o1.il 38 13 (by decide) (by omega), ?_⟩, fun q => bad (by rw [unf, if_pos (fun e => q (by rw [e]))])⟩
      have ek : k = k' := nI_inj (by omega) (by omega) q
      subst ek
      rw [if_neg (fun q => q rfl)] at unf
      have hnn : n * m ≤ 12 * 12 := Nat.mul_le_mul w2' y2'
      rw [La.1, Lb.1, pk_mul]
      refine ⟨fun q => ?_, fun q => ⟨f1.z, ?_⟩⟩
      · have hnm : n * m ≤ 12 := (nI_leI (b := 12) (by omega) (by decide)).mp q
        rw [if_neg (fun q => q hnm)] at unf
        rw [unf] at hK
        have pos : 1 ≤ n * m := Nat.mul_le_mul w1' y1'
        obtain ⟨h2, e2, f2, o2⟩ := o1.is (x := nI (n * m)) (j := 10) 38 13 (by decide) (by decide)
        obtain ⟨h3, e3, f3, o3⟩ := o2.is (x := nI k) (j := 10) 39 13 (by decide) (by decide)
        refine ⟨_, o1.f5, _, o1.f5, _, o1.il 38 13 (by decide) (by omega), _, o1.f5, _, o1.il 38 13 (by decide) (by omega), h2, ?_, _, o2.f6, _, o2.f6, _, o2.il 39 13 (by decide) (by omega), h3, ?_, ?_⟩
        · rw [La.1, Lb.1, pk_mul]; exact e2
        · rw [show (wr (w0 r 0) 38 10 (nI (n * m))).2.1 39 a = nI k by rw [wr_n (by decide)]; exact La.2.1]
          exact e3
        have kk3 : kp (w0 r 0) (wr (wr (w0 r 0) 38 10 (nI (n * m))) 39 10 (nI k)) := (kp_wr38 (by omega)).tr (kp_wr39 (by omega))
        have ovx : ∀ x y, x < n → y < m → x * m + y < n * m := fun x y hx hy => by
          have : (x + 1) * m ≤ n * m := Nat.mul_le_mul_right _ hx
          rw [Nat.add_mul, Nat.one_mul] at this
          omega
        have ovi : ∀ x y x' y', y < m → y' < m → x * m + y = x' * m + y' → x = x' ∧ y = y' := fun x y x' y' hy hy' e => by
          have e1 : (x * m + y) / m = (x' * m + y') / m := by rw [e]
          rw [Nat.add_comm, Nat.add_mul_div_right _ _ (by omega), Nat.div_eq_of_lt hy, Nat.zero_add, Nat.add_comm, Nat.add_mul_div_right _ _ (by omega), Nat.div_eq_of_lt hy', Nat.zero_add] at e1
          subst e1
          exact ⟨rfl, by omega⟩
        have A1 : ∀ c j h4 r4, j + c = k → FR h h4 → RR h4 r4 → ex [40] (wr (wr (w0 r 0) 38 10 (nI (n * m))) 39 10 (nI k)) r4 → kp (w0 r 0) r4 → (∀ j', j' < j → ∀ x, x < n → ∀ y, y < m → r4.2.1 40 (960 + 12 * j' + (x * m + y)) = nI (t j' x * m + u j' y)) → Wm (d + 3 + 1) (0, 0) JX12_over 128 [some (.ref 34), some (.int (nI p0)), some (.int (nI a)), some (.int (nI b)), some (.int (nI j)), none, none] [] h4 (fun r h' => h'.1 0 = h.1 0 ∧ K r h') := by
          intro c
          induction c with
          | zero =>
            intro j h4 r4 hj f4 o4 x4 k4 a4
            have hj : j = k := by omega
            subst hj
            have L4 := kp.LC k4 ha w2' w4' La
            refine bk_X12_over_128 _ _ _ _ _ ⟨_, o4.f6, _, o4.il 39 13 (by decide) (by omega), ?_⟩
            rw [L4.2.1]
            refine ⟨fun _ => ⟨_, o4.1, ?_⟩, fun q => absurd (le_t (Nat.le_refl _) (by omega)) q⟩
            refine rlay_ev (x := st.2.2.2) o4 (s1.kp w k4 (by rw [x4.1]; exact s1.1)) w hp0 (t := ovr m t u) (n := n * m) (k := j) ⟨by rw [x4.at 10 (by simp), wr_n (by decide), wr_j], by rw [x4.at 10 (by simp), wr_j], fun j' hj' i hi => ?_⟩ pos hnm w3' w4' (ovr_pm y1' w5' y5') (fun h5 R5 f5 => ⟨_, rfl, (f4.tr f5).z, hK h5 R5 (f4.tr f5)⟩)
            have im := Nat.mod_lt i (show 0 < m by omega)
            have id' : i / m < n := Nat.div_lt_of_lt_mul (by rw [Nat.mul_comm]; exact hi)
            have ei : i / m * m + i % m = i := by rw [Nat.mul_comm]; exact Nat.div_add_mod i m
            have := a4 j' hj' (i / m) id' (i % m) im
            rw [ei] at this
            exact this
          | succ c ih =>
            intro j h4 r4 hj f4 o4 x4 k4 a4
            have L4 := kp.LC k4 ha w2' w4' La
            refine bk_X12_over_128 _ _ _ _ _ ⟨_, o4.f6, _, o4.il 39 13 (by decide) (by omega), ?_⟩
            rw [L4.2.1]
            refine ⟨fun q => absurd q (le_f (by omega) (by omega)), fun _ => ?_⟩
            have A2 : ∀ c x h5 r5, x + c = n → FR h h5 → RR h5 r5 → ex [40] (wr (wr (w0 r 0) 38 10 (nI (n * m))) 39 10 (nI k)) r5 → kp (w0 r 0) r5 → (∀ j', j' < j → ∀ x, x < n → ∀ y, y < m → r5.2.1 40 (960 + 12 * j' + (x * m + y)) = nI (t j' x * m + u j' y)) → (∀ x', x' < x → ∀ y, y < m → r5.2.1 40 (960 + 12 * j + (x' * m + y)) = nI (t j x' * m + u j y)) → Wm (d + 3 + 1) (0, 0) JX12_over 142 [some (.ref 34), some (.int (nI p0)), some (.int (nI a)), some (.int (nI b)), some (.int (nI j)), some (.int (nI x)), none] [] h5 (fun r h' => h'.1 0 = h.1 0 ∧ K r h') := by
              intro c
              induction c with
              | zero =>
                intro x h5 r5 hx f5 o5 x5 k5 a5 b5
                have hx : x = n := by omega
                subst hx
                have L5 := kp.LC k5 ha w2' w4' La
                refine bk_X12_over_142 _ _ _ _ _ _ ⟨_, o5.f5, _, o5.il 38 13 (by decide) (by omega), ?_⟩
                rw [L5.1]
                refine ⟨fun _ => ?_, fun q => absurd (le_t (Nat.le_refl _) (by omega)) q⟩
                rw [nI_1]
                refine ih (j + 1) h5 r5 (by omega) f5 o5 x5 k5 (fun j' hj' x' hx' y hy => ?_)
                by_cases e : j' = j
                · rw [e]; exact b5 x' hx' y hy
                · exact a5 j' (by omega) x' hx' y hy
              | succ c ihx =>
                intro x h5 r5 hx f5 o5 x5 k5 a5 b5
                have hxn : x < n := by omega
                have L5 := kp.LC k5 ha w2' w4' La
                refine bk_X12_over_142 _ _ _ _ _ _ ⟨_, o5.f5, _, o5.il 38 13 (by decide) (by omega), ?_⟩
                rw [L5.1]
                refine ⟨fun q => absurd q (le_f (by omega) (by omega)), fun _ => ?_⟩
                have A3 : ∀ c y h6 r6, y + c = m → FR h h6 → RR h6 r6 → ex [40] (wr (wr (w0 r 0) 38 10 (nI (n * m))) 39 10 (nI k)) r6 → kp (w0 r 0) r6 → (∀ j', j' < j → ∀ x, x < n → ∀ y, y < m → r6.2.1 40 (960 + 12 * j' + (x * m + y)) = nI (t j' x * m + u j' y)) → (∀ x', x' < x → ∀ y, y < m → r6.2.1 40 (960 + 12 * j + (x' * m + y)) = nI (t j x' * m + u j y)) → (∀ y', y' < y → r6.2.1 40 (960 + 12 * j + (x * m + y')) = nI (t j x * m + u j y')) → Wm (d + 3 + 1) (0, 0) JX12_over 156 [some (.ref 34), some (.int (nI p0)), some (.int (nI a)), some (.int (nI b)), some (.int (nI j)), some (.int (nI x)), some (.int (nI y))] [] h6 (fun r h' => h'.1 0 = h.1 0 ∧ K r h') := by
                  intro c
                  induction c with
                  | zero =>
                    intro y h6 r6 hy f6 o6 x6 k6 a6 b6 c6
                    have hy : y = m := by omega
                    subst hy
                    have L6 := kp.LC k6 hb y2' y4' Lb
                    refine bk_X12_over_156 _ _ _ _ _ _ _ ⟨_, o6.f5, _, o6.il 38 13 (by decide) (by omega), ?_⟩
                    rw [L6.1]
                    refine ⟨fun _ => ?_, fun q => absurd (le_t (Nat.le_refl _) (by omega)) q⟩
                    rw [nI_1]
                    refine ihx (x + 1) h6 r6 (by omega) f6 o6 x6 k6 a6 (fun x' hx' y hy => ?_)
                    by_cases e : x' = x
                    · rw [e]; exact c6 y hy
                    · exact b6 x' (by omega) y hy
                  | succ c ihy =>
                    intro y h6 r6 hy f6 o6 x6 k6 a6 b6 c6
                    have hym : y < m := by omega
                    have L6a := kp.LC k6 ha w2' w4' La
                    have L6b := kp.LC k6 hb y2' y4' Lb
                    have i1 := ovx x y hxn hym
                    refine bk_X12_over_156 _ _ _ _ _ _ _ ⟨_, o6.f5, _, o6.il 38 13 (by decide) (by omega), ?_⟩
                    rw [L6b.1]
                    refine ⟨fun q => absurd q (le_f (by omega) (by omega)), fun _ => ⟨_, o6.f5, _, o6.il 38 13 (by decide) (by omega), _, o6.1, ?_⟩⟩
                    rw [L6b.1]
                    refine ratL_ev o6 L6a (by omega) w4' w2' (by omega) hxn ⟨_, rfl, _, o6.f5, _, o6.il 38 13 (by decide) (by omega), _, o6.1, ?_⟩
                    rw [L6b.1]
                    refine ratL_ev o6 L6b (by omega) y4' y2' (by omega) hym ⟨_, rfl, _, o6.1, ?_⟩
                    rw [pk_mul, nI_add, pk_mul, nI_add]
                    refine rput_ev (p := 10) o6 (by omega) (fun h7 f7 o7 => ⟨rfl, ?_⟩)
                    rw [nI_1]
                    refine ihy (y + 1) h7 _ (by omega) (f6.tr f7) o7 (x6.tr (ex.wr (by simp))) (k6.tr (kp_wr40 (by omega))) (fun j' hj' x' hx' y' hy' => ?_) (fun x' hx' y' hy' => ?_) (fun y' hy' => ?_)
                    · have := ovx x' y' hx' hy'
                      rw [wr_i (by omega)]
                      exact a6 j' hj' x' hx' y' hy'
                    · rw [wr_i (fun q => by have := ovi x' y' x y hy' hym (by omega); omega)]
                      exact b6 x' hx' y' hy'
                    · by_cases e : y' = y
                      · rw [e, show 960 + 12 * j + (x * m + y) = 96 * 10 + 12 * j + (x * m + y) by omega, wr_j]
                      · rw [wr_i (by omega)]
                        exact c6 y' (by omega)
                exact A3 m 0 h5 r5 (by omega) f5 o5 x5 k5 a5 b5 (fun y' hy' => absurd hy' (by omega))
            exact A2 n 0 h4 r4 (by omega) f4 o4 x4 k4 a4 (fun x' hx' => absurd hx' (by omega))
        exact A1 k 0 h3 _ (by omega) ((f1.tr f2).tr f3) o3 ex.rf kk3 (fun j' hj' => absurd hj' (by omega))
      · rw [if_pos (fun q2 => q (le_t (b := 12) q2 (by decide)))] at unf
        rw [unf] at hK
        exact hK h1 ⟨_, o1, s1⟩ f1
end RefBraid

/-! the law: its loop -/
theorem Ev.zz {d : Nat} {b : Nat × Nat} {M : mM} {as : List Value} {h : mH} {K K2 : Option Value → mH → Prop} (k : Ev d b M as h K) (hk : ∀ r h', h'.1 0 = h.1 0 → K r h' → K2 r h') : Ev d b M as h K2 := by
  obtain ⟨r, h', a, z, w⟩ := k
  exact ⟨r, h', hk r h' z a, z, w⟩
theorem pair_int {Mc Mr : mM} {ac ar : List Value} {bc : Nat × Nat} {h : mH} {st : AS} {G : mH → Prop} (op : Int32 × AS)
    (hc : Ev 9 bc Mc ac h (fun r h' => r = some (.int op.1) ∧ CLs h' op.2 ∧ FC h h'))
    (hr : ∀ h', RFs h' st → Ev 9 (0, 0) Mr ar h' (fun r h'' => r = some (.int op.1) ∧ RFs h'' op.2 ∧ FR h' h'')) (F : RFs h st)
    (go : ∀ h2, h2.1 0 = h.1 0 → CLs h2 op.2 → RFs h2 op.2 → G h2) :
    Ev 9 bc Mc ac h (fun r h1 => ∃ x, r = some (.int x) ∧ h1.1 0 = h.1 0 ∧ (∃ fs, h1.1 34 = .inr (11, fs)) ∧ Ev 9 (0, 0) Mr ar h1 (fun r2 h2 => ∃ y, r2 = some (.int y) ∧ x = y ∧ G h2)) := by
  refine hc.zz (fun r h1 z q => ?_)
  obtain ⟨e, c1, f1⟩ := q
  have F1 : RFs h1 st := F.fc f1
  refine ⟨_, e, z, ?_, (hr h1 F1).zz (fun r2 h2 z2 q => ?_)⟩
  · obtain ⟨r1, o1, -⟩ := F1
    exact ⟨_, o1.1⟩
  · obtain ⟨e2, F2, f2⟩ := q
    exact ⟨_, e2, rfl, go h2 (z2.trans z) (c1.fR f2) F2⟩
theorem pair_long {Mc Mr : mM} {ac ar : List Value} {bc : Nat × Nat} {h : mH} {st : AS} {G : mH → Prop} (op : Int64)
    (hc : Ev 9 bc Mc ac h (fun r h' => r = some (.long op) ∧ CLs h' st ∧ FC h h'))
    (hr : ∀ h', RFs h' st → Ev 9 (0, 0) Mr ar h' (fun r h'' => r = some (.long op) ∧ RFs h'' st ∧ FR h' h'')) (F : RFs h st)
    (go : ∀ h2, h2.1 0 = h.1 0 → CLs h2 st → RFs h2 st → G h2) :
    Ev 9 bc Mc ac h (fun r h1 => ∃ x, r = some (.long x) ∧ h1.1 0 = h.1 0 ∧ (∃ fs, h1.1 34 = .inr (11, fs)) ∧ Ev 9 (0, 0) Mr ar h1 (fun r2 h2 => ∃ y, r2 = some (.long y) ∧ lg_cmp x y = 0 ∧ G h2)) := by
  refine hc.zz (fun r h1 z q => ?_)
  obtain ⟨e, c1, f1⟩ := q
  have F1 : RFs h1 st := F.fc f1
  refine ⟨_, e, z, ?_, (hr h1 F1).zz (fun r2 h2 z2 q => ?_)⟩
  · obtain ⟨r1, o1, -⟩ := F1
    exact ⟨_, o1.1⟩
  · obtain ⟨e2, F2, f2⟩ := q
    exact ⟨_, e2, cmp_z.mpr rfl, go h2 (z2.trans z) (c1.fR f2) F2⟩
theorem opIs_2 (st : AS) (x y : Int32) : (opIs st x y).2 = st := by
  unfold opIs badO
  repeat' split
  all_goals rfl
theorem opTrace_2 (st : AS) (x : Int32) : (opTrace st x).2 = st := by
  unfold opTrace
  repeat' split
  all_goals rfl
theorem opCount_2 (st : AS) (x : Int32) : (opCount st x).2 = st := by
  unfold opCount badO
  repeat' split
  all_goals rfl
theorem opStatus_2 (st : AS) : (opStatus st).2 = st := rfl
theorem law_loop {L : Nat} {xs : Nat → Int32} (hL : L ≤ 3072) : ∀ (c i : Nat) (st : AS) (h : mH) (b : Nat × Nat), i < 3078 → L ≤ i + 6 * c + 5 → 2 * c ≤ b.1 → 11 * c ≤ b.2 → h.1 0 = .inl (9, L, .inl xs) → CLs h st → RFs h st → Wm (9 + 1) b JL_law 18 [some (.ref 0), some (.ref 1), some (.ref 34), some (.int (nI i))] [] h (fun r _ => r = some (.int 1)) := by
  have hlt : ∀ i, i < 3078 → (nI L - 6 < nI i ↔ L < i + 6) := fun i hi => by
    rw [show (6 : Int32) = nI 6 by decide, Int32.lt_iff_toInt_lt, pk_sub_toInt (by omega) (by decide), nI_toInt (by omega)]
    omega
  intro cc
  induction cc with
  | zero =>
    intro i st h b hi h1 h2 h3 z c F
    exact bk_L_law_18 _ _ _ ⟨_, ⟨z, rfl⟩, fun _ => rfl, fun q => absurd ((hlt i hi).mpr (by omega)) q⟩
  | succ cc ih =>
    intro i st h b hi h1 h2 h3 z c F
    refine bk_L_law_18 (L := L) (xs := xs) _ _ _ ⟨_, ⟨z, rfl⟩, fun _ => rfl, fun q => ?_⟩
    have hi6 : i + 6 ≤ L := Nat.le_of_not_lt (fun w => q ((hlt i hi).mpr w))
    have s : ∀ k, k < 6 → ∀ {h' : mH}, h'.1 0 = .inl (9, L, .inl xs) → SI L xs h' (nI (i + k)) (xs (i + k)) := fun k hk h' z' => ⟨z', fun w => w.elim (fun w => absurd w (lt_f (a := i + k) (b := 0) (by omega) (by omega))) (fun w => by rw [nI_clamp (by omega)] at w; omega), by rw [nI_clamp (by omega)]⟩
    have s0 : SI L xs h (nI i) (xs i) := s 0 (by omega) z
    have s1 : ∀ {h' : mH}, h'.1 0 = .inl (9, L, .inl xs) → SI L xs h' (nI i + 1) (xs (i + 1)) := fun {h'} z' => by
      have := s 1 (by omega) z'
      rw [← nI_add] at this
      exact this
    have s2 : ∀ {h' : mH}, h'.1 0 = .inl (9, L, .inl xs) → SI L xs h' (nI i + 2) (xs (i + 2)) := fun {h'} z' => by
      have := s 2 (by omega) z'
      rw [← nI_add] at this
      exact this
    have s3 : ∀ {h' : mH}, h'.1 0 = .inl (9, L, .inl xs) → SI L xs h' (nI i + 3) (xs (i + 3)) := fun {h'} z' => by
      have := s 3 (by omega) z'
      rw [← nI_add] at this
      exact this
    have s4 : ∀ {h' : mH}, h'.1 0 = .inl (9, L, .inl xs) → SI L xs h' (nI i + 4) (xs (i + 4)) := fun {h'} z' => by
      have := s 4 (by omega) z'
      rw [← nI_add] at this
      exact this
    have s5 : ∀ {h' : mH}, h'.1 0 = .inl (9, L, .inl xs) → SI L xs h' (nI i + 5) (xs (i + 5)) := fun {h'} z' => by
      have := s 5 (by omega) z'
      rw [← nI_add] at this
      exact this
    have go : ∀ (st' : AS) (h' : mH) (b' : Nat × Nat), 2 * cc ≤ b'.1 → 11 * cc ≤ b'.2 → h'.1 0 = .inl (9, L, .inl xs) → CLs h' st' → RFs h' st' → Wm (9 + 1) b' JL_law 18 [some (.ref 0), some (.ref 1), some (.ref 34), some (.int (nI i + 6))] [] h' (fun r _ => r = some (.int 1)) := fun st' h' b' g1 g2 z' c' F' => by
      have := ih (i + 6) st' h' b' (by omega) (by omega) g1 g2 z' c' F'
      rw [← nI_add] at this
      exact this
    have g0 : ∀ (st' : AS) (h' : mH), h'.1 0 = h.1 0 → CLs h' st' → RFs h' st' → Wm (9 + 1) b JL_law 18 [some (.ref 0), some (.ref 1), some (.ref 34), some (.int (nI i + 6))] [] h' (fun r _ => r = some (.int 1)) := fun st' h' z' c' F' => go st' h' b (by omega) (by omega) (z'.trans z) c' F'
    have g1 : ∀ (st' : AS) (h' : mH), h'.1 0 = h.1 0 → CLs h' st' → RFs h' st' → Wm (9 + 1) (b.1 - 2, b.2 - 11) JL_law 18 [some (.ref 0), some (.ref 1), some (.ref 34), some (.int (nI i + 6))] [] h' (fun r _ => r = some (.int 1)) := fun st' h' z' c' F' => go st' h' _ (by show 2 * cc ≤ b.1 - 2; omega) (by show 11 * cc ≤ b.2 - 11; omega) (z'.trans z) c' F'
    have b1 : 2 ≤ b.1 := by omega
    have b2 : 11 ≤ b.2 := by omega
    refine ⟨_, s0, fun _ => ?_, fun _ => ?_, fun _ => ?_, fun _ => ?_, fun _ => ?_, fun _ => ?_, fun _ => ?_, fun _ => ?_, fun _ => ?_, fun _ => ?_, fun _ => ?_, fun _ => ?_, fun _ => ?_, fun _ => ?_, fun _ => ?_, fun _ => ?_, fun _ => ?_, fun _ => ?_, fun _ => ?_, fun _ => ?_, fun _ => ?_, fun _ => ?_, fun _ => ?_, fun _ => ?_, fun _ => ?_, fun _ => ?_, fun _ => ?_, fun _ => ?_, fun _ _ _ _ _ _ _ _ _ _ _ _ _ _ _ _ _ _ _ _ _ _ _ _ _ _ _ _ => g0 st h rfl c F⟩
    · exact ⟨_, s1 z, _, s2 z, _, s3 z, _, c.1, (pair_int (opRow st (xs (i + 1)) (xs (i + 2)) (xs (i + 3))) (c_row (d := 7) c (fun h' c' f' => ⟨rfl, c', f'⟩)) (fun h' F' => r_row (d := 7) F' c.wf (fun h2 c2 f2 => ⟨rfl, c2, f2⟩)) F (g0 _)).mono (fun r h1 ⟨x, e, z1, ⟨fs, e2⟩, kk⟩ => ⟨x, e, _, s1 (z1.trans z), _, s2 (z1.trans z), _, s3 (z1.trans z), fs, e2, kk.mono (fun r2 h2 ⟨y, e3, exy, g⟩ => ⟨y, e3, fun _ => g, fun q => absurd exy q⟩)⟩)⟩
    · exact ⟨_, s1 z, _, s2 z, _, s3 z, _, c.1, (pair_int (opSet st (xs (i + 1)) (xs (i + 2)) (xs (i + 3))) (c_set (d := 7) c (fun h' c' f' => ⟨rfl, c', f'⟩)) (fun h' F' => r_set (d := 7) F' c.wf (fun h2 c2 f2 => ⟨rfl, c2, f2⟩)) F (g0 _)).mono (fun r h1 ⟨x, e, z1, ⟨fs, e2⟩, kk⟩ => ⟨x, e, _, s1 (z1.trans z), _, s2 (z1.trans z), _, s3 (z1.trans z), fs, e2, kk.mono (fun r2 h2 ⟨y, e3, exy, g⟩ => ⟨y, e3, fun _ => g, fun q => absurd exy q⟩)⟩)⟩
    · exact ⟨_, s1 z, _, s2 z, _, s3 z, _, s4 z, _, s5 z, _, c.1, (pair_int (opCopy st (xs (i + 1)) (xs (i + 2)) (xs (i + 3)) (xs (i + 4)) (xs (i + 5))) (c_copy (d := 7) c (fun h' c' f' => ⟨rfl, c', f'⟩)) (fun h' F' => r_copy (d := 7) F' c.wf (fun h2 c2 f2 => ⟨rfl, c2, f2⟩)) F (g0 _)).mono (fun r h1 ⟨x, e, z1, ⟨fs, e2⟩, kk⟩ => ⟨x, e, _, s1 (z1.trans z), _, s2 (z1.trans z), _, s3 (z1.trans z), _, s4 (z1.trans z), _, s5 (z1.trans z), fs, e2, kk.mono (fun r2 h2 ⟨y, e3, exy, g⟩ => ⟨y, e3, fun _ => g, fun q => absurd exy q⟩)⟩)⟩
    · exact ⟨_, s1 z, _, c.1, (pair_int (opDrop st (xs (i + 1))) (c_drop (d := 7) c (fun h' c' f' => ⟨rfl, c', f'⟩)) (fun h' F' => r_drop (d := 7) F' c.wf (fun h2 c2 f2 => ⟨rfl, c2, f2⟩)) F (g0 _)).mono (fun r h1 ⟨x, e, z1, ⟨fs, e2⟩, kk⟩ => ⟨x, e, _, s1 (z1.trans z), fs, e2, kk.mono (fun r2 h2 ⟨y, e3, exy, g⟩ => ⟨y, e3, fun _ => g, fun q => absurd exy q⟩)⟩)⟩
    · exact ⟨_, s1 z, _, s2 z, _, s3 z, _, s4 z, _, s5 z, (2, 11), b1, b2, _, c.1, (pair_int (opCover st (xs (i + 1)) (xs (i + 2)) (xs (i + 3)) (xs (i + 4)) (xs (i + 5))) (c_cover (d := 3) (b := (2, 11)) c (by decide) (by decide) (fun h' c' f' _ => ⟨rfl, c', f'⟩)) (fun h' F' => r_cover (d := 5) F' c.wf (fun h2 c2 f2 => ⟨rfl, c2, f2⟩)) F (g1 _)).mono (fun r h1 ⟨x, e, z1, ⟨fs, e2⟩, kk⟩ => ⟨x, e, _, s1 (z1.trans z), _, s2 (z1.trans z), _, s3 (z1.trans z), _, s4 (z1.trans z), _, s5 (z1.trans z), fs, e2, kk.mono (fun r2 h2 ⟨y, e3, exy, g⟩ => ⟨y, e3, fun _ => g, fun q => absurd exy q⟩)⟩)⟩
    · exact ⟨_, s1 z, _, s2 z, _, s3 z, (2, 11), b1, b2, _, c.1, (pair_int (opPart st (xs (i + 1)) (xs (i + 2)) (xs (i + 3))) (c_part (d := 2) (b := (2, 11)) c (by decide) (by decide) (fun h' c' f' _ => ⟨rfl, c', f'⟩)) (fun h' F' => r_part (d := 5) F' c.wf (fun h2 c2 f2 => ⟨rfl, c2, f2⟩)) F (g1 _)).mono (fun r h1 ⟨x, e, z1, ⟨fs, e2⟩, kk⟩ => ⟨x, e, _, s1 (z1.trans z), _, s2 (z1.trans z), _, s3 (z1.trans z), fs, e2, kk.mono (fun r2 h2 ⟨y, e3, exy, g⟩ => ⟨y, e3, fun _ => g, fun q => absurd exy q⟩)⟩)⟩
    · exact ⟨_, s1 z, _, s2 z, (2, 11), b1, b2, _, c.1, (pair_int (opName st (xs (i + 1)) (xs (i + 2))) (c_name (d := 2) (b := (2, 11)) c (by decide) (by decide) (fun h' c' f' _ => ⟨rfl, c', f'⟩)) (fun h' F' => r_name (d := 5) F' c.wf (fun h2 c2 f2 => ⟨rfl, c2, f2⟩)) F (g1 _)).mono (fun r h1 ⟨x, e, z1, ⟨fs, e2⟩, kk⟩ => ⟨x, e, _, s1 (z1.trans z), _, s2 (z1.trans z), fs, e2, kk.mono (fun r2 h2 ⟨y, e3, exy, g⟩ => ⟨y, e3, fun _ => g, fun q => absurd exy q⟩)⟩)⟩
    · exact ⟨_, s1 z, _, s2 z, _, s3 z, _, s4 z, (2, 11), b1, b2, _, c.1, (pair_int (opBetween st (xs (i + 1)) (xs (i + 2)) (xs (i + 3)) (xs (i + 4))) (c_between (d := 2) (b := (2, 11)) c (by decide) (by decide) (fun h' c' f' _ => ⟨rfl, c', f'⟩)) (fun h' F' => r_between (d := 5) F' c.wf (fun h2 c2 f2 => ⟨rfl, c2, f2⟩)) F (g1 _)).mono (fun r h1 ⟨x, e, z1, ⟨fs, e2⟩, kk⟩ => ⟨x, e, _, s1 (z1.trans z), _, s2 (z1.trans z), _, s3 (z1.trans z), _, s4 (z1.trans z), fs, e2, kk.mono (fun r2 h2 ⟨y, e3, exy, g⟩ => ⟨y, e3, fun _ => g, fun q => absurd exy q⟩)⟩)⟩
    · exact ⟨_, s1 z, _, s2 z, _, s3 z, _, s4 z, (2, 11), b1, b2, _, c.1, (pair_int (opBraid st (xs (i + 1)) (xs (i + 2)) (xs (i + 3)) (xs (i + 4))) (c_braid (d := 2) (b := (2, 11)) c (by decide) (by decide) (fun h' c' f' _ => ⟨rfl, c', f'⟩)) (fun h' F' => r_braid (d := 5) F' c.wf (fun h2 c2 f2 => ⟨rfl, c2, f2⟩)) F (g1 _)).mono (fun r h1 ⟨x, e, z1, ⟨fs, e2⟩, kk⟩ => ⟨x, e, _, s1 (z1.trans z), _, s2 (z1.trans z), _, s3 (z1.trans z), _, s4 (z1.trans z), fs, e2, kk.mono (fun r2 h2 ⟨y, e3, exy, g⟩ => ⟨y, e3, fun _ => g, fun q => absurd exy q⟩)⟩)⟩
    · exact ⟨_, s1 z, _, s2 z, _, s3 z, (2, 11), b1, b2, _, c.1, (pair_int (opTurn st (xs (i + 1)) (xs (i + 2)) (xs (i + 3))) (c_turn (d := 2) (b := (2, 11)) c (by decide) (by decide) (fun h' c' f' _ => ⟨rfl, c', f'⟩)) (fun h' F' => r_turn (d := 5) F' c.wf (fun h2 c2 f2 => ⟨rfl, c2, f2⟩)) F (g1 _)).mono (fun r h1 ⟨x, e, z1, ⟨fs, e2⟩, kk⟩ => ⟨x, e, _, s1 (z1.trans z), _, s2 (z1.trans z), _, s3 (z1.trans z), fs, e2, kk.mono (fun r2 h2 ⟨y, e3, exy, g⟩ => ⟨y, e3, fun _ => g, fun q => absurd exy q⟩)⟩)⟩
    · exact ⟨_, s1 z, _, s2 z, _, s3 z, (2, 11), b1, b2, _, c.1, (pair_int (opOver st (xs (i + 1)) (xs (i + 2)) (xs (i + 3))) (c_over (d := 2) (b := (2, 11)) c (by decide) (by decide) (fun h' c' f' _ => ⟨rfl, c', f'⟩)) (fun h' F' => r_over (d := 5) F' c.wf (fun h2 c2 f2 => ⟨rfl, c2, f2⟩)) F (g1 _)).mono (fun r h1 ⟨x, e, z1, ⟨fs, e2⟩, kk⟩ => ⟨x, e, _, s1 (z1.trans z), _, s2 (z1.trans z), _, s3 (z1.trans z), fs, e2, kk.mono (fun r2 h2 ⟨y, e3, exy, g⟩ => ⟨y, e3, fun _ => g, fun q => absurd exy q⟩)⟩)⟩
    · exact ⟨_, s1 z, _, c.1, (pair_int (opClear st (xs (i + 1))) (c_clear (d := 8) c (fun h' c' f' => ⟨rfl, c', f'⟩)) (fun h' F' => r_clear (d := 7) F' c.wf (fun h2 c2 f2 => ⟨rfl, c2, f2⟩)) F (g0 _)).mono (fun r h1 ⟨x, e, z1, ⟨fs, e2⟩, kk⟩ => ⟨x, e, _, s1 (z1.trans z), fs, e2, kk.mono (fun r2 h2 ⟨y, e3, exy, g⟩ => ⟨y, e3, fun _ => g, fun q => absurd exy q⟩)⟩)⟩
    · exact ⟨_, s1 z, _, s2 z, _, c.1, (pair_int (opTold st (xs (i + 1)) (xs (i + 2))) (c_told (d := 3) c (fun h' c' f' _ => ⟨rfl, c', f'⟩)) (fun h' F' => r_told (d := 6) F' c.wf (fun h2 c2 f2 => ⟨rfl, c2, f2⟩)) F (g0 _)).mono (fun r h1 ⟨x, e, z1, ⟨fs, e2⟩, kk⟩ => ⟨x, e, _, s1 (z1.trans z), _, s2 (z1.trans z), fs, e2, kk.mono (fun r2 h2 ⟨y, e3, exy, g⟩ => ⟨y, e3, fun _ => g, fun q => absurd exy q⟩)⟩)⟩
    · exact ⟨_, s1 z, _, s2 z, _, s3 z, _, c.1, (pair_int (opLeads st (xs (i + 1)) (xs (i + 2)) (xs (i + 3))) (c_leads (d := 7) c (fun h' c' f' => ⟨rfl, c', f'⟩)) (fun h' F' => r_leads (d := 6) F' c.wf (fun h2 c2 f2 => ⟨rfl, c2, f2⟩)) F (g0 _)).mono (fun r h1 ⟨x, e, z1, ⟨fs, e2⟩, kk⟩ => ⟨x, e, _, s1 (z1.trans z), _, s2 (z1.trans z), _, s3 (z1.trans z), fs, e2, kk.mono (fun r2 h2 ⟨y, e3, exy, g⟩ => ⟨y, e3, fun _ => g, fun q => absurd exy q⟩)⟩)⟩
    · exact ⟨_, s1 z, _, s2 z, _, s3 z, _, c.1, (pair_int (opShape st (xs (i + 1)) (xs (i + 2)) (xs (i + 3))) (c_shape (d := 7) c (fun h' c' f' => ⟨rfl, c', f'⟩)) (fun h' F' => r_shape (d := 6) F' c.wf (fun h2 c2 f2 => ⟨rfl, c2, f2⟩)) F (g0 _)).mono (fun r h1 ⟨x, e, z1, ⟨fs, e2⟩, kk⟩ => ⟨x, e, _, s1 (z1.trans z), _, s2 (z1.trans z), _, s3 (z1.trans z), fs, e2, kk.mono (fun r2 h2 ⟨y, e3, exy, g⟩ => ⟨y, e3, fun _ => g, fun q => absurd exy q⟩)⟩)⟩
    · exact ⟨_, s1 z, _, s2 z, _, s3 z, _, s4 z, _, c.1, (pair_int (opBlock st (xs (i + 1)) (xs (i + 2)) (xs (i + 3)) (xs (i + 4))) (c_block (d := 5) c (fun h' c' f' _ => ⟨rfl, c', f'⟩)) (fun h' F' => r_block (d := 6) F' c.wf (fun h2 c2 f2 => ⟨rfl, c2, f2⟩)) F (g0 _)).mono (fun r h1 ⟨x, e, z1, ⟨fs, e2⟩, kk⟩ => ⟨x, e, _, s1 (z1.trans z), _, s2 (z1.trans z), _, s3 (z1.trans z), _, s4 (z1.trans z), fs, e2, kk.mono (fun r2 h2 ⟨y, e3, exy, g⟩ => ⟨y, e3, fun _ => g, fun q => absurd exy q⟩)⟩)⟩
    · exact ⟨_, s1 z, _, s2 z, (2, 11), b1, b2, _, c.1, (pair_int (opSame st (xs (i + 1)) (xs (i + 2))) (c_same (d := 3) (b := (2, 11)) c (by decide) (by decide) (fun h' c' f' _ => ⟨rfl, c', f'⟩)) (fun h' F' => r_same (d := 5) F' c.wf (fun h2 c2 f2 => ⟨rfl, c2, f2⟩)) F (g1 _)).mono (fun r h1 ⟨x, e, z1, ⟨fs, e2⟩, kk⟩ => ⟨x, e, _, s1 (z1.trans z), _, s2 (z1.trans z), fs, e2, kk.mono (fun r2 h2 ⟨y, e3, exy, g⟩ => ⟨y, e3, fun _ => g, fun q => absurd exy q⟩)⟩)⟩
    · exact ⟨_, s1 z, (2, 11), b1, b2, _, c.1, (pair_int (opRing st (xs (i + 1))) (c_ring (d := 3) (b := (2, 11)) c (by decide) (by decide) (fun h' c' f' _ => ⟨rfl, c', f'⟩)) (fun h' F' => r_ring (d := 6) F' c.wf (fun h2 c2 f2 => ⟨rfl, c2, f2⟩)) F (g1 _)).mono (fun r h1 ⟨x, e, z1, ⟨fs, e2⟩, kk⟩ => ⟨x, e, _, s1 (z1.trans z), fs, e2, kk.mono (fun r2 h2 ⟨y, e3, exy, g⟩ => ⟨y, e3, fun _ => g, fun q => absurd exy q⟩)⟩)⟩
    · exact ⟨_, s1 z, _, s2 z, _, s3 z, _, s4 z, _, s5 z, _, c.1, (pair_int (opLift st (xs (i + 1)) (xs (i + 2)) (xs (i + 3)) (xs (i + 4)) (xs (i + 5))) (c_lift (d := 6) c (fun h' c' f' _ => ⟨rfl, c', f'⟩)) (fun h' F' => r_lift (d := 6) F' c.wf (fun h2 c2 f2 => ⟨rfl, c2, f2⟩)) F (g0 _)).mono (fun r h1 ⟨x, e, z1, ⟨fs, e2⟩, kk⟩ => ⟨x, e, _, s1 (z1.trans z), _, s2 (z1.trans z), _, s3 (z1.trans z), _, s4 (z1.trans z), _, s5 (z1.trans z), fs, e2, kk.mono (fun r2 h2 ⟨y, e3, exy, g⟩ => ⟨y, e3, fun _ => g, fun q => absurd exy q⟩)⟩)⟩
    · exact ⟨_, s1 z, _, c.1, (pair_int (opKind st (xs (i + 1))) (c_kind (d := 8) c (fun h' c' f' => ⟨rfl, c', f'⟩)) (fun h' F' => r_kind (d := 6) F' c.wf (fun h2 c2 f2 => ⟨rfl, c2, f2⟩)) F (g0 _)).mono (fun r h1 ⟨x, e, z1, ⟨fs, e2⟩, kk⟩ => ⟨x, e, _, s1 (z1.trans z), fs, e2, kk.mono (fun r2 h2 ⟨y, e3, exy, g⟩ => ⟨y, e3, fun _ => g, fun q => absurd exy q⟩)⟩)⟩
    · exact ⟨_, s1 z, _, s2 z, _, c.1, (pair_int (opIs st (xs (i + 1)) (xs (i + 2))) (c_is (d := 8) c ⟨rfl, by rw [opIs_2]; exact c, FC.rf⟩) (fun h' F' => r_is (d := 6) F' c.wf (fun h2 c2 f2 => ⟨rfl, c2, f2⟩)) F (g0 _)).mono (fun r h1 ⟨x, e, z1, ⟨fs, e2⟩, kk⟩ => ⟨x, e, _, s1 (z1.trans z), _, s2 (z1.trans z), fs, e2, kk.mono (fun r2 h2 ⟨y, e3, exy, g⟩ => ⟨y, e3, fun _ => g, fun q => absurd exy q⟩)⟩)⟩
    · exact ⟨_, s1 z, _, s2 z, _, c.1, (pair_int (opAs st (xs (i + 1)) (xs (i + 2))) (c_as (d := 8) c (fun h' c' f' => ⟨rfl, c', f'⟩)) (fun h' F' => r_as (d := 6) F' c.wf (fun h2 c2 f2 => ⟨rfl, c2, f2⟩)) F (g0 _)).mono (fun r h1 ⟨x, e, z1, ⟨fs, e2⟩, kk⟩ => ⟨x, e, _, s1 (z1.trans z), _, s2 (z1.trans z), fs, e2, kk.mono (fun r2 h2 ⟨y, e3, exy, g⟩ => ⟨y, e3, fun _ => g, fun q => absurd exy q⟩)⟩)⟩
    · exact ⟨_, s1 z, _, s2 z, _, c.1, (pair_int (opAsk st (xs (i + 1)) (xs (i + 2))) (c_ask (d := 3) c (fun h' c' f' => ⟨rfl, c', f'⟩)) (fun h' F' => r_ask (d := 4) F' c.wf (fun h2 c2 f2 => ⟨rfl, c2, f2⟩)) F (g0 _)).mono (fun r h1 ⟨x, e, z1, ⟨fs, e2⟩, kk⟩ => ⟨x, e, _, s1 (z1.trans z), _, s2 (z1.trans z), fs, e2, kk.mono (fun r2 h2 ⟨y, e3, exy, g⟩ => ⟨y, e3, fun _ => g, fun q => absurd exy q⟩)⟩)⟩
    · exact ⟨_, s1 z, _, c.1, (pair_int (opTrace st (xs (i + 1))) (c_trace (d := 7) c ⟨rfl, by rw [opTrace_2]; exact c, FC.rf⟩) (fun h' F' => r_trace (d := 8) F' c.wf (fun h2 c2 f2 => ⟨rfl, c2, f2⟩)) F (g0 _)).mono (fun r h1 ⟨x, e, z1, ⟨fs, e2⟩, kk⟩ => ⟨x, e, _, s1 (z1.trans z), fs, e2, kk.mono (fun r2 h2 ⟨y, e3, exy, g⟩ => ⟨y, e3, fun _ => g, fun q => absurd exy q⟩)⟩)⟩
    · exact ⟨_, s1 z, _, s2 z, _, s3 z, _, c.1, (pair_long (opJoins (xs (i + 1)) (xs (i + 2)) (xs (i + 3))) (c_joins (d := 4) c (fun h' c' f' _ => ⟨rfl, c', f'⟩)) (fun h' F' => r_joins (d := 8) F' c.wf (fun h2 c2 f2 => ⟨rfl, c2, f2⟩)) F (g0 _)).mono (fun r h1 ⟨x, e, z1, ⟨fs, e2⟩, kk⟩ => ⟨x, e, _, s1 (z1.trans z), _, s2 (z1.trans z), _, s3 (z1.trans z), fs, e2, kk.mono (fun r2 h2 ⟨y, e3, exy, g⟩ => ⟨y, e3, fun _ => g, fun q => absurd exy q⟩)⟩)⟩
    · exact ⟨_, s1 z, _, s2 z, _, s3 z, _, c.1, (pair_int (opShapes (xs (i + 1)) (xs (i + 2)) (xs (i + 3)), st) (c_shapes (d := 4) c (fun h' c' f' _ => ⟨rfl, c', f'⟩)) (fun h' F' => r_shapes (d := 8) F' c.wf (fun h2 c2 f2 => ⟨rfl, c2, f2⟩)) F (g0 _)).mono (fun r h1 ⟨x, e, z1, ⟨fs, e2⟩, kk⟩ => ⟨x, e, _, s1 (z1.trans z), _, s2 (z1.trans z), _, s3 (z1.trans z), fs, e2, kk.mono (fun r2 h2 ⟨y, e3, exy, g⟩ => ⟨y, e3, fun _ => g, fun q => absurd exy q⟩)⟩)⟩
    · exact ⟨_, s1 z, _, c.1, (pair_int (opCount st (xs (i + 1))) (c_count (d := 7) c ⟨rfl, by rw [opCount_2]; exact c, FC.rf⟩) (fun h' F' => r_count (d := 6) F' c.wf (fun h2 c2 f2 => ⟨rfl, c2, f2⟩)) F (g0 _)).mono (fun r h1 ⟨x, e, z1, ⟨fs, e2⟩, kk⟩ => ⟨x, e, _, s1 (z1.trans z), fs, e2, kk.mono (fun r2 h2 ⟨y, e3, exy, g⟩ => ⟨y, e3, fun _ => g, fun q => absurd exy q⟩)⟩)⟩
    · exact ⟨_, c.1, (pair_int (opStatus st) (c_status (d := 9) c ⟨rfl, by rw [opStatus_2]; exact c, FC.rf⟩) (fun h' F' => r_status (d := 9) F' c.wf (fun h2 c2 f2 => ⟨rfl, c2, f2⟩)) F (g0 _)).mono (fun r h1 ⟨x, e, z1, ⟨fs, e2⟩, kk⟩ => ⟨x, e, fs, e2, kk.mono (fun r2 h2 ⟨y, e3, exy, g⟩ => ⟨y, e3, fun _ => g, fun q => absurd exy q⟩)⟩)⟩

/-! MINI: System.arraycopy -/
section KRows
variable {d : Nat} {b : Nat × Nat} {J : mJ} {pc : Nat} {ls : List (Option Value)} {st : List Value} {h : mH} {Q : Option Value → mH → Prop}
theorem m_acopyI {idx a0 a1 n0 n1 sp dp n : Nat} {f0 f1 : Nat → Int32} (hw1 : Cond.methodLink J.1 idx arraycopyName ∈ mGood) (hw2 : Cond.native arraycopyName ∈ mGood) (hw3 : Cond.static arraycopyName ∈ mGood) (hw4 : Cond.initialized "java/lang/System" ∈ mGood) (hd : decode J.2.1 pc = .ok (.invokestatic idx, 3))
    (ha0 : h.1 a0 = .inl (0, n0, .inl f0)) (ha1 : h.1 a1 = .inl (0, n1, .inl f1)) (h4 : sp + n ≤ n0) (h5 : dp + n ≤ n1) (hn0 : n0 < 100000) (hn1 : n1 < 100000) (hcat : (st.map fun v => v.category).sum ≤ 8)
    (kk : Wm (d + 1) b J (pc + 3) ls st (m_up h.1 a1 (.inl (0, n1, .inl (va_cpy f0 f1 sp dp n))), h.2) Q) : Wm (d + 1) b J pc ls (.int (nI n) :: .int (nI dp) :: .ref a1 :: .int (nI sp) :: .ref a0 :: st) h Q := by
  obtain ⟨r, h', q, w⟩ := kk
  refine ⟨r, h', q, ?_⟩
  intro g p l e R s m args below meth c H locs cells slots Qk lsm C hR hl hc1 hc2 he
  obtain ⟨hx, hb, hml, hown, hts, hf, hlo, hK, hg, -⟩ := id C
  obtain ⟨j0, rfl, -, j2⟩ := m_live_arr hR.1 ha0 (by decide)
  obtain ⟨j1, rfl, k1, k2⟩ := m_live_arr hR.1 ha1 (by decide)
  have hP := hR.1.1
  have e0 : H[g.1 + j0]? = some (vp_cell (g.2.2.2 0) (n0, .inl f0)) := hP j0 _ j2
  have e1 : H[g.1 + j1]? = some (vp_cell (g.2.2.2 0) (n1, .inl f1)) := hP j1 _ k2
  obtain ⟨-, q0, hq0, cm0, hkk0⟩ := (hK.1.2 0 _ rfl).1 n0 (fun j => Value.int (f0 j))
  obtain ⟨-, q1, hq1, cm1, hkk1⟩ := (hK.1.2 0 _ rfl).1 n1 (fun j => Value.int (f1 j))
  have tsp : (nI sp).toInt = (sp : Int) := nI_toInt (by omega)
  have tdp : (nI dp).toInt = (dp : Int) := nI_toInt (by omega)
  have tn : (nI n).toInt = (n : Int) := nI_toInt (by omega)
  have csp : (nI sp).toNatClampNeg = sp := nI_clamp (by omega)
  have cdp : (nI dp).toNatClampNeg = dp := nI_clamp (by omega)
  have cn : (nI n).toNatClampNeg = n := nI_clamp (by omega)
  have hnat : nativeFrameWords "java/lang/System" "arraycopy" 5 + 11 ≤ 28 := by decide +kernel
  intro T hT X
  obtain ⟨vm', X', step⟩ := X.arraycopy hx hown (hts _ hw1) (hts _ hw2) (hts _ hw3) (hts _ hw4) (src := g.1 + j0) (dst := g.1 + j1) (cs := vp_cell (g.2.2.2 0) (n0, .inl f0)) (cd := vp_cell (g.2.2.2 0) (n1, .inl f1)) (srcPos := nI sp) (destPos := nI dp) (n := nI n) (by rw [hT]; exact e0) (by rw [hT]; exact e1)
    (fun _ h => by cases h) (fun _ h => by cases h) (fun h => by cases h) (fun h => by cases h) hq0 hq1 hkk0 hkk1 (by rfl) (nI_pos (by omega)) (nI_pos (by omega)) (nI_pos (by omega))
    (by rw [tsp, tn]; show ¬ _ > ((arrV (g.2.2.2 0) n0 (fun j => Value.int (f0 j))).slots.size : Int); rw [arrV_size]; omega)
    (by rw [tdp, tn]; show ¬ _ > ((arrV (g.2.2.2 0) n1 (fun j => Value.int (f1 j))).slots.size : Int); rw [arrV_size]; omega)
    (fun vm₁ _ i hi => by
      rw [csp]
      rw [cn] at hi
      have e : (vp_cell (g.2.2.2 0) (n0, .inl f0)).slots.getD (sp + i) .null = Value.int (f0 (sp + i)) := by
        show (arrV (g.2.2.2 0) n0 (fun j => Value.int (f0 j))).slots.getD _ _ = _
        rw [Array.getD_eq_getD_getElem?, arrV_read _ _ (by omega)]
        rfl
      refine ⟨?_, ?_⟩
      · rw [e]
        rfl
      · rw [e]
        exact trivial)
    (g := F0 m pc lsm ((Value.int (nI n) :: .int (nI dp) :: .ref (j1 + 1) :: .int (nI sp) :: .ref (j0 + 1) :: st).map (m_v g))) rfl (by rw [hml]; exact hl.1) (rest := st.map (m_v g)) rfl (by rw [hb]; exact hd) (by omega) (by rw [m_cats]; show 2 * 0 + _ + _ ≤ _; omega)
  have ec : copied (vp_cell (g.2.2.2 0) (n0, .inl f0)) (vp_cell (g.2.2.2 0) (n1, .inl f1)) (nI sp) (nI dp) (nI n) = vp_cell (g.2.2.2 0) (n1, .inl (va_cpy f0 f1 sp dp n)) := by
    have := va_copied (n0 := n0) (n1 := n1) (sp := sp) (dp := dp) (n := n) (fun z => Value.int z) (g.2.2.2 0) (g.2.2.2 0) f0 f1 h4
    rw [← csp, ← cdp, ← cn] at this
    rw [csp, cdp, cn] at this
    unfold copied
    rw [csp, cdp, cn]
    exact this
  rw [ec] at X' step
  have hlt : g.1 + j1 < H.size := (Array.getElem?_eq_some_iff.mp e1).1
  have oq : ∀ q : Nat, q ≠ g.1 + j1 → (H.setIfInBounds (g.1 + j1) (vp_cell (g.2.2.2 0) (n1, .inl (va_cpy f0 f1 sp dp n))))[q]? = H[q]? := fun q hq => by simp [Array.getElem?_setIfInBounds, Ne.symm hq]
  have hheap : ((T.setVm vm').setCell (g.1 + j1) (vp_cell (g.2.2.2 0) (n1, .inl (va_cpy f0 f1 sp dp n)))).heap = H.setIfInBounds (g.1 + j1) (vp_cell (g.2.2.2 0) (n1, .inl (va_cpy f0 f1 sp dp n))) := by rw [← hT]; rfl
  obtain ⟨t, a1, b1⟩ := w g p l e R s m args below meth c (H.setIfInBounds (g.1 + j1) (vp_cell (g.2.2.2 0) (n1, .inl (va_cpy f0 f1 sp dp n)))) _ cells slots Qk lsm C (m_Rel_set hR k1 (by simp) (hP.set (m_D g h) k2 (show (H.setIfInBounds (g.1 + j1) _)[g.1 + j1]? = some _ by simp [Array.getElem?_setIfInBounds, hlt]; rfl) oq) ⟨by simp; exact hR.2.1.1, fun q g1 g2 => by
      rw [oq q (fun e => g2 (by rw [e]; exact Nat.le_add_right _ _))]
      exact hR.2.1.2.1 q g1 g2, fun q hq => by
      rcases List.mem_append.mp hq with h | h
      · exact hR.2.1.2.2 q h
      · obtain ⟨z, -, hz⟩ := List.mem_map.mp h
        rw [← hz]
        exact Nat.le_add_right _ _⟩) hl hc1 hc2 he _ hheap X'
  exact ⟨t, step t a1, b1⟩
theorem m_acopyL {idx a0 a1 n0 n1 sp dp n : Nat} {f0 f1 : Nat → Int64} (hw1 : Cond.methodLink J.1 idx arraycopyName ∈ mGood) (hw2 : Cond.native arraycopyName ∈ mGood) (hw3 : Cond.static arraycopyName ∈ mGood) (hw4 : Cond.initialized "java/lang/System" ∈ mGood) (hd : decode J.2.1 pc = .ok (.invokestatic idx, 3))
    (ha0 : h.1 a0 = .inl (1, n0, .inr (.inl f0))) (ha1 : h.1 a1 = .inl (1, n1, .inr (.inl f1))) (h4 : sp + n ≤ n0) (h5 : dp + n ≤ n1) (hn0 : n0 < 100000) (hn1 : n1 < 100000) (hcat : (st.map fun v => v.category).sum ≤ 8)
    (kk : Wm (d + 1) b J (pc + 3) ls st (m_up h.1 a1 (.inl (1, n1, .inr (.inl (va_cpy f0 f1 sp dp n)))), h.2) Q) : Wm (d + 1) b J pc ls (.int (nI n) :: .int (nI dp) :: .ref a1 :: .int (nI sp) :: .ref a0 :: st) h Q := by
  obtain ⟨r, h', q, w⟩ := kk
  refine ⟨r, h', q, ?_⟩
  intro g p l e R s m args below meth c H locs cells slots Qk lsm C hR hl hc1 hc2 he
  obtain ⟨hx, hb, hml, hown, hts, hf, hlo, hK, hg, -⟩ := id C
  obtain ⟨j0, rfl, -, j2⟩ := m_live_arr hR.1 ha0 (by decide)
  obtain ⟨j1, rfl, k1, k2⟩ := m_live_arr hR.1 ha1 (by decide)
  have hP := hR.1.1
  have e0 : H[g.1 + j0]? = some (vp_cell (g.2.2.2 1) (n0, .inr (.inl f0))) := hP j0 _ j2
  have e1 : H[g.1 + j1]? = some (vp_cell (g.2.2.2 1) (n1, .inr (.inl f1))) := hP j1 _ k2
  obtain ⟨-, q0, hq0, cm0, hkk0⟩ := (hK.1.2 1 _ rfl).1 n0 (fun j => Value.long (f0 j))
  obtain ⟨-, q1, hq1, cm1, hkk1⟩ := (hK.1.2 1 _ rfl).1 n1 (fun j => Value.long (f1 j))
  have tsp : (nI sp).toInt = (sp : Int) := nI_toInt (by omega)
  have tdp : (nI dp).toInt = (dp : Int) := nI_toInt (by omega)
  have tn : (nI n).toInt = (n : Int) := nI_toInt (by omega)
  have csp : (nI sp).toNatClampNeg = sp := nI_clamp (by omega)
  have cdp : (nI dp).toNatClampNeg = dp := nI_clamp (by omega)
  have cn : (nI n).toNatClampNeg = n := nI_clamp (by omega)
  have hnat : nativeFrameWords "java/lang/System" "arraycopy" 5 + 11 ≤ 28 := by decide +kernel
  intro T hT X
  obtain ⟨vm', X', step⟩ := X.arraycopy hx hown (hts _ hw1) (hts _ hw2) (hts _ hw3) (hts _ hw4) (src := g.1 + j0) (dst := g.1 + j1) (cs := vp_cell (g.2.2.2 1) (n0, .inr (.inl f0))) (cd := vp_cell (g.2.2.2 1) (n1, .inr (.inl f1))) (srcPos := nI sp) (destPos := nI dp) (n := nI n) (by rw [hT]; exact e0) (by rw [hT]; exact e1)
    (fun _ h => by cases h) (fun _ h => by cases h) (fun h => by cases h) (fun h => by cases h) hq0 hq1 hkk0 hkk1 (by rfl) (nI_pos (by omega)) (nI_pos (by omega)) (nI_pos (by omega))
    (by rw [tsp, tn]; show ¬ _ > ((arrV (g.2.2.2 1) n0 (fun j => Value.long (f0 j))).slots.size : Int); rw [arrV_size]; omega)
    (by rw [tdp, tn]; show ¬ _ > ((arrV (g.2.2.2 1) n1 (fun j => Value.long (f1 j))).slots.size : Int); rw [arrV_size]; omega)
    (fun vm₁ _ i hi => by
      rw [csp]
      rw [cn] at hi
      have e : (vp_cell (g.2.2.2 1) (n0, .inr (.inl f0))).slots.getD (sp + i) .null = Value.long (f0 (sp + i)) := by
        show (arrV (g.2.2.2 1) n0 (fun j => Value.long (f0 j))).slots.getD _ _ = _
        rw [Array.getD_eq_getD_getElem?, arrV_read _ _ (by omega)]
        rfl
      refine ⟨?_, ?_⟩
      · rw [e]
        rfl
      · rw [e]
        exact trivial)
    (g := F0 m pc lsm ((Value.int (nI n) :: .int (nI dp) :: .ref (j1 + 1) :: .int (nI sp) :: .ref (j0 + 1) :: st).map (m_v g))) rfl (by rw [hml]; exact hl.1) (rest := st.map (m_v g)) rfl (by rw [hb]; exact hd) (by omega) (by rw [m_cats]; show 2 * 0 + _ + _ ≤ _; omega)
  have ec : copied (vp_cell (g.2.2.2 1) (n0, .inr (.inl f0))) (vp_cell (g.2.2.2 1) (n1, .inr (.inl f1))) (nI sp) (nI dp) (nI n) = vp_cell (g.2.2.2 1) (n1, .inr (.inl (va_cpy f0 f1 sp dp n))) := by
    have := va_copied (n0 := n0) (n1 := n1) (sp := sp) (dp := dp) (n := n) (fun z => Value.long z) (g.2.2.2 1) (g.2.2.2 1) f0 f1 h4
    rw [← csp, ← cdp, ← cn] at this
    rw [csp, cdp, cn] at this
    unfold copied
    rw [csp, cdp, cn]
    exact this
  rw [ec] at X' step
  have hlt : g.1 + j1 < H.size := (Array.getElem?_eq_some_iff.mp e1).1
  have oq : ∀ q : Nat, q ≠ g.1 + j1 → (H.setIfInBounds (g.1 + j1) (vp_cell (g.2.2.2 1) (n1, .inr (.inl (va_cpy f0 f1 sp dp n)))))[q]? = H[q]? := fun q hq => by simp [Array.getElem?_setIfInBounds, Ne.symm hq]
  have hheap : ((T.setVm vm').setCell (g.1 + j1) (vp_cell (g.2.2.2 1) (n1, .inr (.inl (va_cpy f0 f1 sp dp n))))).heap = H.setIfInBounds (g.1 + j1) (vp_cell (g.2.2.2 1) (n1, .inr (.inl (va_cpy f0 f1 sp dp n)))) := by rw [← hT]; rfl
  obtain ⟨t, a1, b1⟩ := w g p l e R s m args below meth c (H.setIfInBounds (g.1 + j1) (vp_cell (g.2.2.2 1) (n1, .inr (.inl (va_cpy f0 f1 sp dp n))))) _ cells slots Qk lsm C (m_Rel_set hR k1 (by simp) (hP.set (m_D g h) k2 (show (H.setIfInBounds (g.1 + j1) _)[g.1 + j1]? = some _ by simp [Array.getElem?_setIfInBounds, hlt]; rfl) oq) ⟨by simp; exact hR.2.1.1, fun q g1 g2 => by
      rw [oq q (fun e => g2 (by rw [e]; exact Nat.le_add_right _ _))]
      exact hR.2.1.2.1 q g1 g2, fun q hq => by
      rcases List.mem_append.mp hq with h | h
      · exact hR.2.1.2.2 q h
      · obtain ⟨z, -, hz⟩ := List.mem_map.mp h
        rw [← hz]
        exact Nat.le_add_right _ _⟩) hl hc1 hc2 he _ hheap X'
  exact ⟨t, step t a1, b1⟩
/-- a copy of a row of longs -/
theorem m_cloneL {idx a n : Nat} {f : Nat → Int64} {b2 : Nat × Nat} (hw1 : Cond.methodLink J.1 idx ⟨"[J", "clone", "()Ljava/lang/Object;"⟩ ∈ mGood) (hw2 : Cond.sameMethod "[J" "java/lang/Object" "clone" "()Ljava/lang/Object;" ∈ mGood) (hw3 : Cond.native ⟨"java/lang/Object", "clone", "()Ljava/lang/Object;"⟩ ∈ mGood) (hw4 : Cond.instanceMethod ⟨"java/lang/Object", "clone", "()Ljava/lang/Object;"⟩ ∈ mGood) (hw5 : Cond.selects "[J" ⟨"[J", "clone", "()Ljava/lang/Object;"⟩ ⟨"java/lang/Object", "clone", "()Ljava/lang/Object;"⟩ ∈ mGood) (hd : decode J.2.1 pc = .ok (.invokevirtual idx, 3))
    (ha : h.1 a = .inl (1, n, .inr (.inl f))) (hcat : (st.map fun v => v.category).sum ≤ 8) (hb1 : b2.1 + 1 ≤ b.1) (hb2 : b2.2 + n ≤ b.2)
    (kk : Wm (d + 1) b2 J (pc + 3) ls (.ref h.2 :: st) (m_up h.1 h.2 (.inl (1, n, .inr (.inl f))), h.2 + 1) Q) : Wm (d + 1) b J pc ls (.ref a :: st) h Q := by
  obtain ⟨r, h', q, w⟩ := kk
  refine ⟨r, h', q, ?_⟩
  intro g p l e R s m args below meth c H locs cells slots Qk lsm C hR hl hc1 hc2 he
  obtain ⟨hx, hb, hml, hown, hts, hf, hlo, hK, hg, -⟩ := id C
  obtain ⟨j, rfl, j1, j2⟩ := m_live_arr hR.1 ha (by decide)
  have hP := hR.1.1
  have hsz0 : H.size = g.1 + (h.2 - 1) := by have := hR.1.2.1; have := hR.1.2.2.1; omega
  have h1h := hR.1.2.2.1
  have hc0 : H[g.1 + j]? = some (arrV (g.2.2.2 1) n (fun j => .long (f j))) := hP j _ j2
  have hnm : s.vm.findClass "[J" = some (g.2.2.2 1) := (hK.1.2 1 _ rfl).2
  obtain ⟨c0, t0', f1, f2, f3⟩ := Cond.castable_spec (va_Nw.use (A := args) rfl (hK.2.2.1 ("[J", "java/lang/Cloneable") (by decide)))
  cases hnm.symm.trans f1
  have had : m_v g (.ref h.2) = .ref H.size := by
    show Value.ref (m_ad g h.2) = _
    rw [hsz0, show h.2 = (h.2 - 1) + 1 by omega, m_ad_s]
    rfl
  intro T hT X
  obtain ⟨-, kA, hkA, comp, hkind⟩ := State.isArrayOf_alike X.warmed.alike ((hK.1.2 1 _ rfl).1 0 (fun _ => .null))
  obtain ⟨-, kS, hkS, compS, hkindS⟩ := (hK.1.2 1 _ rfl).1 0 (fun _ => .null)
  have hm := m_cats g st
  obtain ⟨vm', X', stp⟩ := X.cloneArray hx hown (hts _ hw1) (hts _ hw2) (hts _ hw3) (hts _ hw4) (hts _ hw5) (a := g.1 + j) (cell := arrV (g.2.2.2 1) n (fun j => .long (f j))) (by rw [hT]; exact hc0) (fun k h => by cases h) (fun h => by cases h) hnm f2 f3
    (fun i v hv => by
      have hk' : T.vm.classes[g.2.2.2 1]? = some kA := hkA
      have hfit : fits .long v = true := by
        rcases Nat.lt_or_ge i n with hi | hi
        · rw [arrV_read _ _ hi] at hv
          cases hv
          rfl
        · have : (arrV (g.2.2.2 1) n (fun j => Value.long (f j))).slots.size ≤ i := by rw [arrV_size]; exact hi
          rw [Array.getElem?_eq_none this] at hv
          cases hv
      show State.fitsSlot T (g.2.2.2 1) _ i v = true
      simpa [State.fitsSlot, State.slotType?, hk', hkind] using hfit)
    (g := F0 m pc lsm ((Value.ref (j + 1) :: st).map (m_v g))) rfl (by rw [hml]; exact hl.1) rfl (by rw [hb]; exact hd) (by omega) (by rw [hm]; show 2 * 0 + _ + 14 ≤ _; omega) (by omega) (by rw [arrV_size]; omega) (hloader := Vm.clonesLoader_of_array hkS hkindS)
  rw [arrV_size] at X'
  obtain ⟨t, a1, b1⟩ := w g p l e R s m args below meth c (H.push (arrV (g.2.2.2 1) n (fun j => .long (f j)))) locs (cells + 1) (slots + n) Qk lsm C (m_Rel_push hR (by simp) ((hP.kept (fun k x hx => by rw [Array.getElem?_push, if_neg (Nat.ne_of_lt (hP k x hx).lt)])).app (fun k x hx => by
      have hz : k < 1 := (List.getElem?_eq_some_iff.mp hx).1
      rw [show k = 0 by omega] at hx
      cases hx
      show (H.push _)[g.1 + (h.2 - 1)]? = some (vp_cell (g.2.2.2 1) (n, .inr (.inl f)))
      rw [← hsz0, Array.getElem?_push_size]
      rfl)) ⟨Nat.le_trans hR.2.1.1 (by simp), fun x g1 g2 => by rw [Array.getElem?_push, if_neg (Nat.ne_of_lt (Nat.lt_of_lt_of_le g1 hR.2.1.1))]; exact hR.2.1.2.1 x g1 g2, hR.2.1.2.2⟩) hl (by omega) (by omega) he
    ((T.setVm vm').pushCell (arrV (g.2.2.2 1) n (fun j => .long (f j)))) (by rw [← hT]; rfl) X'
  refine ⟨t, stp t ?_, b1⟩
  rw [List.map_cons, had] at a1
  rw [hT]
  exact a1
theorem m_mmax {idx : Nat} {x y : Int32} (hw1 : Cond.methodLink J.1 idx Lib.Math.max.name ∈ mGood) (hw2 : Cond.static Lib.Math.max.name ∈ mGood) (hw3 : Cond.initialized "java/lang/Math" ∈ mGood) (hw4 : Cond.code Lib.Math.max.name Lib.Math.max.code 2 (some .int) ∈ mGood) (hd : decode J.2.1 pc = .ok (.invokestatic idx, 3)) (hcat : (st.map fun v => v.category).sum ≤ 8) (kk : Wm (d + 1) b J (pc + 3) ls (.int (if x < y then y else x) :: st) h Q) : Wm (d + 1) b J pc ls (.int y :: .int x :: st) h Q := by
  obtain ⟨r, h', q, w⟩ := kk
  refine ⟨r, h', q, ?_⟩
  intro g p l e R s m args below meth c H locs cells slots Qk lsm C hR hl hc1 hc2 he
  obtain ⟨hx, hb, hml, hown, hts, hf, hlo, hK, hg, -⟩ := id C
  exact va_mmax hx hb (by rw [hml]; exact hl.1.symm) hown (hts _ hw1) (hts _ hw2) (hts _ hw3) (hts _ hw4) (by omega) (by rw [m_cats]; omega) (by omega) (by omega) hd (w g p l e R s m args below meth c H locs cells slots Qk lsm C hR hl hc1 hc2 he)
theorem m_mmin {idx : Nat} {x y : Int32} (hw1 : Cond.methodLink J.1 idx Lib.Math.min.name ∈ mGood) (hw2 : Cond.static Lib.Math.min.name ∈ mGood) (hw3 : Cond.initialized "java/lang/Math" ∈ mGood) (hw4 : Cond.code Lib.Math.min.name Lib.Math.min.code 2 (some .int) ∈ mGood) (hd : decode J.2.1 pc = .ok (.invokestatic idx, 3)) (hcat : (st.map fun v => v.category).sum ≤ 8) (kk : Wm (d + 1) b J (pc + 3) ls (.int (if y < x then y else x) :: st) h Q) : Wm (d + 1) b J pc ls (.int y :: .int x :: st) h Q := by
  obtain ⟨r, h', q, w⟩ := kk
  refine ⟨r, h', q, ?_⟩
  intro g p l e R s m args below meth c H locs cells slots Qk lsm C hR hl hc1 hc2 he
  obtain ⟨hx, hb, hml, hown, hts, hf, hlo, hK, hg, -⟩ := id C
  exact va_mmin hx hb (by rw [hml]; exact hl.1.symm) hown (hts _ hw1) (hts _ hw2) (hts _ hw3) (hts _ hw4) (by omega) (by rw [m_cats]; omega) (by omega) (by omega) hd (w g p l e R s m args below meth c H locs cells slots Qk lsm C hR hl hc1 hc2 he)
theorem m_castJ {idx a n : Nat} {f : Nat → Int64} (hw : Cond.classLink J.1 idx "[J" ∈ mGood) (hd : decode J.2.1 pc = .ok (.checkcast idx, 3)) (ha : h.1 a = .inl (1, n, .inr (.inl f))) (kk : Wm d b J (pc + 3) ls (.ref a :: st) h Q) : Wm d b J pc ls (.ref a :: st) h Q := by
  obtain ⟨r, h', q, w⟩ := kk
  refine ⟨r, h', q, ?_⟩
  intro g p l e R s m args below meth c H locs cells slots Qk lsm C hR hl hc1 hc2 he
  obtain ⟨hx, hb, hml, hown, hts, hf, hlo, hK, hg, -⟩ := id C
  obtain ⟨j, rfl, j1, j2⟩ := m_live_arr hR.1 ha (by decide)
  exact va_castA hx hb hown (hts _ hw) hR.1.1 j j2 (hK.1.2 1 _ rfl).2 hd (w g p l e R s m args below meth c H locs cells slots Qk lsm C hR hl hc1 hc2 he)
end KRows

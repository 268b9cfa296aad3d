/-! MINI: System.arraycopy -/
section KRows
variable {d : Nat} {b : Nat × Nat} {J : mJ} {pc : Nat} {ls : List (Option Value)} {st : List Value} {h : mH} {Q : Option Value → mH → Prop}
theorem m_acopyI {idx a0 a1 n0 n1 sp dp n : Nat} {f0 f1 : Nat → Int32} (hw1 : Cond.methodLink J.1 idx arraycopyName ∈ mGood) (hw2 : Cond.native arraycopyName ∈ mGood) (hw3 : Cond.static arraycopyName ∈ mGood) (hw4 : Cond.initialized "java/lang/System" ∈ mGood) (hd : decode J.2.1 pc = .ok (.invokestatic idx, 3))
    (ha0 : h.1 a0 = .inl (0, n0, .inl f0)) (ha1 : h.1 a1 = .inl (0, n1, .inl f1)) (h4 : sp + n ≤ n0) (h5 : dp + n ≤ n1) (hn0 : n0 < 100000) (hn1 : n1 < 100000) (hcat : (st.map fun v => v.category).sum ≤ 8)
    (kk : Wm (d + 1) b J (pc + 3) ls st (m_up h.1 a1 (.inl (0, n1, .inl (va_cpy f0 f1 sp dp n))), h.2) Q) : Wm (d + 1) b J pc ls (.int (nI n) :: .int (nI dp) :: .ref a1 :: .int (nI sp) :: .ref a0 :: st) h Q := by
  obtain ⟨r, h', q, w⟩ := kk
  refine ⟨r, h', q, ?_⟩
  intro g p l e R s m args below meth c H locs cells slots Qk lsm C hR hl hc1 hc2 he
  obtain ⟨hx, hb, hml, hown, hts, hf, hlo, hK, hg, -⟩ := id C
  obtain ⟨j0, rfl, -, j2⟩ := m_live_arr hR.1 ha0 (by decide)
  obtain ⟨j1, rfl, k1, k2⟩ := m_live_arr hR.1 ha1 (by decide)
  have hP := hR.1.1
  have e0 : H[g.1 + j0]? = some (vp_cell (g.2.2.2 0) (n0, .inl f0)) := hP j0 _ j2
  have e1 : H[g.1 + j1]? = some (vp_cell (g.2.2.2 0) (n1, .inl f1)) := hP j1 _ k2
  obtain ⟨-, q0, hq0, cm0, hkk0⟩ := (hK.1.2 0 _ rfl).1 n0 (fun j => Value.int (f0 j))
  obtain ⟨-, q1, hq1, cm1, hkk1⟩ := (hK.1.2 0 _ rfl).1 n1 (fun j => Value.int (f1 j))
  have tsp : (nI sp).toInt = (sp : Int) := nI_toInt (by omega)
  have tdp : (nI dp).toInt = (dp : Int) := nI_toInt (by omega)
  have tn : (nI n).toInt = (n : Int) := nI_toInt (by omega)
  have csp : (nI sp).toNatClampNeg = sp := nI_clamp (by omega)
  have cdp : (nI dp).toNatClampNeg = dp := nI_clamp (by omega)
  have cn : (nI n).toNatClampNeg = n := nI_clamp (by omega)
  have hnat : nativeFrameWords "java/lang/System" "arraycopy" 5 + 11 ≤ 28 := by decide +kernel
  intro T hT X
  obtain ⟨vm', X', step⟩ := X.arraycopy hx hown (hts _ hw1) (hts _ hw2) (hts _ hw3) (hts _ hw4) (src := g.1 + j0) (dst := g.1 + j1) (cs := vp_cell (g.2.2.2 0) (n0, .inl f0)) (cd := vp_cell (g.2.2.2 0) (n1, .inl f1)) (srcPos := nI sp) (destPos := nI dp) (n := nI n) (by rw [hT]; exact e0) (by rw [hT]; exact e1)
    (fun _ h => by cases h) (fun _ h => by cases h) (fun h => by cases h) (fun h => by cases h) hq0 hq1 hkk0 hkk1 (by rfl) (nI_pos (by omega)) (nI_pos (by omega)) (nI_pos (by omega))
    (by rw [tsp, tn]; show ¬ _ > ((arrV (g.2.2.2 0) n0 (fun j => Value.int (f0 j))).slots.size : Int); rw [arrV_size]; omega)
    (by rw [tdp, tn]; show ¬ _ > ((arrV (g.2.2.2 0) n1 (fun j => Value.int (f1 j))).slots.size : Int); rw [arrV_size]; omega)
    (fun vm₁ _ i hi => by
      rw [csp]
      rw [cn] at hi
      have e : (vp_cell (g.2.2.2 0) (n0, .inl f0)).slots.getD (sp + i) .null = Value.int (f0 (sp + i)) := by
        show (arrV (g.2.2.2 0) n0 (fun j => Value.int (f0 j))).slots.getD _ _ = _
        rw [Array.getD_eq_getD_getElem?, arrV_read _ _ (by omega)]
        rfl
      refine ⟨?_, ?_⟩
      · rw [e]
        rfl
      · rw [e]
        exact trivial)
    (g := F0 m pc lsm ((Value.int (nI n) :: .int (nI dp) :: .ref (j1 + 1) :: .int (nI sp) :: .ref (j0 + 1) :: st).map (m_v g))) rfl (by rw [hml]; exact hl.1) (rest := st.map (m_v g)) rfl (by rw [hb]; exact hd) (by omega) (by rw [m_cats]; show 2 * 0 + _ + _ ≤ _; omega)
  have ec : copied (vp_cell (g.2.2.2 0) (n0, .inl f0)) (vp_cell (g.2.2.2 0) (n1, .inl f1)) (nI sp) (nI dp) (nI n) = vp_cell (g.2.2.2 0) (n1, .inl (va_cpy f0 f1 sp dp n)) := by
    have := va_copied (n0 := n0) (n1 := n1) (sp := sp) (dp := dp) (n := n) (fun z => Value.int z) (g.2.2.2 0) (g.2.2.2 0) f0 f1 h4
    rw [← csp, ← cdp, ← cn] at this
    rw [csp, cdp, cn] at this
    unfold copied
    rw [csp, cdp, cn]
    exact this
  rw [ec] at X' step
  have hlt : g.1 + j1 < H.size := (Array.getElem?_eq_some_iff.mp e1).1
  have oq : ∀ q : Nat, q ≠ g.1 + j1 → (H.setIfInBounds (g.1 + j1) (vp_cell (g.2.2.2 0) (n1, .inl (va_cpy f0 f1 sp dp n))))[q]? = H[q]? := fun q hq => by simp [Array.getElem?_setIfInBounds, Ne.symm hq]
  have hheap : ((T.setVm vm').setCell (g.1 + j1) (vp_cell (g.2.2.2 0) (n1, .inl (va_cpy f0 f1 sp dp n)))).heap = H.setIfInBounds (g.1 + j1) (vp_cell (g.2.2.2 0) (n1, .inl (va_cpy f0 f1 sp dp n))) := by rw [← hT]; rfl
  obtain ⟨t, a1, b1⟩ := w g p l e R s m args below meth c (H.setIfInBounds (g.1 + j1) (vp_cell (g.2.2.2 0) (n1, .inl (va_cpy f0 f1 sp dp n)))) _ cells slots Qk lsm C (m_Rel_set hR k1 (by simp) (hP.set (m_D g h) k2 (show (H.setIfInBounds (g.1 + j1) _)[g.1 + j1]? = some _ by simp [Array.getElem?_setIfInBounds, hlt]; rfl) oq) ⟨by simp; exact hR.2.1.1, fun q g1 g2 => by
      rw [oq q (fun e => g2 (by rw [e]; exact Nat.le_add_right _ _))]
      exact hR.2.1.2.1 q g1 g2, fun q hq => by
      rcases List.mem_append.mp hq with h | h
      · exact hR.2.1.2.2 q h
      · obtain ⟨z, -, hz⟩ := List.mem_map.mp h
        rw [← hz]
        exact Nat.le_add_right _ _⟩) hl hc1 hc2 he _ hheap X'
  exact ⟨t, step t a1, b1⟩
theorem m_acopyL {idx a0 a1 n0 n1 sp dp n : Nat} {f0 f1 : Nat → Int64} (hw1 : Cond.methodLink J.1 idx arraycopyName ∈ mGood) (hw2 : Cond.native arraycopyName ∈ mGood) (hw3 : Cond.static arraycopyName ∈ mGood) (hw4 : Cond.initialized "java/lang/System" ∈ mGood) (hd : decode J.2.1 pc = .ok (.invokestatic idx, 3))
    (ha0 : h.1 a0 = .inl (1, n0, .inr (.inl f0))) (ha1 : h.1 a1 = .inl (1, n1, .inr (.inl f1))) (h4 : sp + n ≤ n0) (h5 : dp + n ≤ n1) (hn0 : n0 < 100000) (hn1 : n1 < 100000) (hcat : (st.map fun v => v.category).sum ≤ 8)
    (kk : Wm (d + 1) b J (pc + 3) ls st (m_up h.1 a1 (.inl (1, n1, .inr (.inl (va_cpy f0 f1 sp dp n)))), h.2) Q) : Wm (d + 1) b J pc ls (.int (nI n) :: .int (nI dp) :: .ref a1 :: .int (nI sp) :: .ref a0 :: st) h Q := by
  obtain ⟨r, h', q, w⟩ := kk
  refine ⟨r, h', q, ?_⟩
  intro g p l e R s m args below meth c H locs cells slots Qk lsm C hR hl hc1 hc2 he
  obtain ⟨hx, hb, hml, hown, hts, hf, hlo, hK, hg, -⟩ := id C
  obtain ⟨j0, rfl, -, j2⟩ := m_live_arr hR.1 ha0 (by decide)
  obtain ⟨j1, rfl, k1, k2⟩ := m_live_arr hR.1 ha1 (by decide)
  have hP := hR.1.1
  have e0 : H[g.1 + j0]? = some (vp_cell (g.2.2.2 1) (n0, .inr (.inl f0))) := hP j0 _ j2
  have e1 : H[g.1 + j1]? = some (vp_cell (g.2.2.2 1) (n1, .inr (.inl f1))) := hP j1 _ k2
  obtain ⟨-, q0, hq0, cm0, hkk0⟩ := (hK.1.2 1 _ rfl).1 n0 (fun j => Value.long (f0 j))
  obtain ⟨-, q1, hq1, cm1, hkk1⟩ := (hK.1.2 1 _ rfl).1 n1 (fun j => Value.long (f1 j))
  have tsp : (nI sp).toInt = (sp : Int) := nI_toInt (by omega)
  have tdp : (nI dp).toInt = (dp : Int) := nI_toInt (by omega)
  have tn : (nI n).toInt = (n : Int) := nI_toInt (by omega)
  have csp : (nI sp).toNatClampNeg = sp := nI_clamp (by omega)
  have cdp : (nI dp).toNatClampNeg = dp := nI_clamp (by omega)
  have cn : (nI n).toNatClampNeg = n := nI_clamp (by omega)
  have hnat : nativeFrameWords "java/lang/System" "arraycopy" 5 + 11 ≤ 28 := by decide +kernel
  intro T hT X
  obtain ⟨vm', X', step⟩ := X.arraycopy hx hown (hts _ hw1) (hts _ hw2) (hts _ hw3) (hts _ hw4) (src := g.1 + j0) (dst := g.1 + j1) (cs := vp_cell (g.2.2.2 1) (n0, .inr (.inl f0))) (cd := vp_cell (g.2.2.2 1) (n1, .inr (.inl f1))) (srcPos := nI sp) (destPos := nI dp) (n := nI n) (by rw [hT]; exact e0) (by rw [hT]; exact e1)
    (fun _ h => by cases h) (fun _ h => by cases h) (fun h => by cases h) (fun h => by cases h) hq0 hq1 hkk0 hkk1 (by rfl) (nI_pos (by omega)) (nI_pos (by omega)) (nI_pos (by omega))
    (by rw [tsp, tn]; show ¬ _ > ((arrV (g.2.2.2 1) n0 (fun j => Value.long (f0 j))).slots.size : Int); rw [arrV_size]; omega)
    (by rw [tdp, tn]; show ¬ _ > ((arrV (g.2.2.2 1) n1 (fun j => Value.long (f1 j))).slots.size : Int); rw [arrV_size]; omega)
    (fun vm₁ _ i hi => by
      rw [csp]
      rw [cn] at hi
      have e : (vp_cell (g.2.2.2 1) (n0, .inr (.inl f0))).slots.getD (sp + i) .null = Value.long (f0 (sp + i)) := by
        show (arrV (g.2.2.2 1) n0 (fun j => Value.long (f0 j))).slots.getD _ _ = _
        rw [Array.getD_eq_getD_getElem?, arrV_read _ _ (by omega)]
        rfl
      refine ⟨?_, ?_⟩
      · rw [e]
        rfl
      · rw [e]
        exact trivial)
    (g := F0 m pc lsm ((Value.int (nI n) :: .int (nI dp) :: .ref (j1 + 1) :: .int (nI sp) :: .ref (j0 + 1) :: st).map (m_v g))) rfl (by rw [hml]; exact hl.1) (rest := st.map (m_v g)) rfl (by rw [hb]; exact hd) (by omega) (by rw [m_cats]; show 2 * 0 + _ + _ ≤ _; omega)
  have ec : copied (vp_cell (g.2.2.2 1) (n0, .inr (.inl f0))) (vp_cell (g.2.2.2 1) (n1, .inr (.inl f1))) (nI sp) (nI dp) (nI n) = vp_cell (g.2.2.2 1) (n1, .inr (.inl (va_cpy f0 f1 sp dp n))) := by
    have := va_copied (n0 := n0) (n1 := n1) (sp := sp) (dp := dp) (n := n) (fun z => Value.long z) (g.2.2.2 1) (g.2.2.2 1) f0 f1 h4
    rw [← csp, ← cdp, ← cn] at this
    rw [csp, cdp, cn] at this
    unfold copied
    rw [csp, cdp, cn]
    exact this
  rw [ec] at X' step
  have hlt : g.1 + j1 < H.size := (Array.getElem?_eq_some_iff.mp e1).1
  have oq : ∀ q : Nat, q ≠ g.1 + j1 → (H.setIfInBounds (g.1 + j1) (vp_cell (g.2.2.2 1) (n1, .inr (.inl (va_cpy f0 f1 sp dp n)))))[q]? = H[q]? := fun q hq => by simp [Array.getElem?_setIfInBounds, Ne.symm hq]
  have hheap : ((T.setVm vm').setCell (g.1 + j1) (vp_cell (g.2.2.2 1) (n1, .inr (.inl (va_cpy f0 f1 sp dp n))))).heap = H.setIfInBounds (g.1 + j1) (vp_cell (g.2.2.2 1) (n1, .inr (.inl (va_cpy f0 f1 sp dp n)))) := by rw [← hT]; rfl
  obtain ⟨t, a1, b1⟩ := w g p l e R s m args below meth c (H.setIfInBounds (g.1 + j1) (vp_cell (g.2.2.2 1) (n1, .inr (.inl (va_cpy f0 f1 sp dp n))))) _ cells slots Qk lsm C (m_Rel_set hR k1 (by simp) (hP.set (m_D g h) k2 (show (H.setIfInBounds (g.1 + j1) _)[g.1 + j1]? = some _ by simp [Array.getElem?_setIfInBounds, hlt]; rfl) oq) ⟨by simp; exact hR.2.1.1, fun q g1 g2 => by
      rw [oq q (fun e => g2 (by rw [e]; exact Nat.le_add_right _ _))]
      exact hR.2.1.2.1 q g1 g2, fun q hq => by
      rcases List.mem_append.mp hq with h | h
      · exact hR.2.1.2.2 q h
      · obtain ⟨z, -, hz⟩ := List.mem_map.mp h
        rw [← hz]
        exact Nat.le_add_right _ _⟩) hl hc1 hc2 he _ hheap X'
  exact ⟨t, step t a1, b1⟩
end KRows

/-! MINI: a call with up to twelve words left on the stack -/
def m_cV1 (own : String) (idx ci : Nat) (M : mM) (n : Nat) : Prop := ∃ r : vw_C, vwCl[ci]? = some r ∧ m_cB M n ∧ Cond.instanceMethod M.1 ∈ mGood ∧ Cond.methodLink own idx M.1 ∈ mGood ∧ Cond.selects r.1 M.1 M.1 ∈ mGood
section WRows
variable {d : Nat} {b : Nat × Nat} {J : mJ} {pc : Nat} {ls : List (Option Value)} {st : List Value} {h : mH} {Q : Option Value → mH → Prop} {a : Nat}
theorem m_mon12 {m : MethodId} {pc : Nat} {lsm : Array Slot} {stk : List Value} {n : Nat} (h : n ≤ 12) : 2 * (F0 m pc lsm stk).monitorRoom + n ≤ 12 := by
  have : (F0 m pc lsm stk).monitorRoom = 0 := rfl
  omega
theorem m_virtual12 {idx n ci : Nat} {M : mM} {as rest fs : List Value} {b1 b2 : Nat × Nat} (hc : m_cV1 J.1 idx ci M n) (hm13 : M.2.2.1 ≤ 13) (ha : h.1 a = .inr (ci, fs)) (hd : decode J.2.1 pc = .ok (.invokevirtual idx, 3)) (hst : st = as.reverse ++ .ref a :: rest) (hn : as.length = n) (hcat : (rest.map fun v => v.category).sum ≤ 12) (hb1 : b1.1 + b2.1 ≤ b.1) (hb2 : b1.2 + b2.2 ≤ b.2)
    (k : Ev d b1 M (.ref a :: as) h (fun r h1 => Wm (d + 1) b2 J (pc + 3) ls (r.toList ++ rest) h1 Q)) : Wm (d + 1) b J pc ls st h Q := by
  obtain ⟨r1, h1, ⟨r, h', hq, w⟩, z, hM⟩ := k
  refine ⟨r, h', hq, ?_⟩
  intro g p l e R s m args below meth c H locs cells slots Qk lsm C hR hl hc1 hc2 he
  obtain ⟨x, x1, ⟨w1, w2, w3, w4, w5⟩, w7, u1, u2⟩ := hc
  obtain ⟨hx, hb, hml, hown, hts, hf, hlo, hK, hg, -⟩ := id C
  obtain ⟨j, rfl, j1, j2⟩ := m_live_obj hR.1 ha x1
  obtain ⟨cellB, hcB, hoB, hclB⟩ := va_recv hK.1 hR.1.1 x1 j2
  have hstk : st.map (m_v g) = (as.map (m_v g)).reverse ++ .ref (g.1 + j) :: rest.map (m_v g) := by
    rw [hst]
    simp
    rfl
  have hKb : Back l R p e below s args M.1 3 12 (PreOf R b1.1 b1.2 (m_Pc g (.ref (j + 1) :: as) h)) (PostOf (m_Qc g r1 h1) b1.1 b1.2 (fun q => g.1 ≤ q)) :=
    back_of (bytes := M.2.1) (maxL := M.2.2.1) (ret := M.2.2.2) (hM g l) (m_blind g _ h) rfl rfl (by rw [hf]; exact Nat.le_refl _) (by show 12 + (M.2.2.1 + 11) + 36 * d ≤ _; omega) (pay_in hts (m_gin w2)) List.mem_cons_self (fun a' U hW => word_at hW (mGood_good w1) (hts _ w1))
  have run : va_Run p l e R s m args below meth c H locs cells slots b1.1 b1.2 (F0 m pc lsm (st.map (m_v g))) (rest.map (m_v g)) (m_Qc g r1 h1 (((.ref (j + 1) :: as).map (m_v g)).toArray)) (fun q => g.1 ≤ q) := by
    intro T hT X
    obtain ⟨v, vm₁, ⟨U', l2, c2, s2⟩, hW₁, X', ⟨g', mk, t, L, e1, e2, hq2, h3, hL, h4, h5⟩, hsteps⟩ := callV X hx (C := x.1) (bytes := M.2.1) (maxL := M.2.2.1) (ret := M.2.2.2) hown (hts _ u1) (hts _ w7) (hts _ u2) (hts _ w2) w3 hKb (b := g.1 + j) (by rw [hT]; exact hcB) hoB hclB (g := F0 m pc lsm (st.map (m_v g))) rfl (by rw [hml]; exact hl.1) (argsL := as.map (m_v g)) (rest := rest.map (m_v g)) (fun sig hs => by
      rw [hs] at w4
      rw [List.length_map]
      exact hn.trans (Option.some.inj w4).symm) hstk (m_mon12 (by rw [m_cats]; exact hcat)) (by rw [hb]; exact hd)
      (fun vm₁ hW₁ => ⟨by show cells + _ ≤ _; omega, by show slots + _ ≤ _; omega, rfl, m_K_warm hW₁ hK, by show m_R0 g T.heap h; rw [hT]; exact hR.1, by show g.1 ≤ T.heap.size; rw [hT]; exact Nat.le_trans hg hR.2.1.1⟩)
    dsimp only [Pt.U, Pt.locs, Pt.cells, Pt.slots] at X' e1 e2 h3 h4 h5 hsteps
    subst h3; subst h4; subst h5
    exact ⟨v, (T.setVm vm₁).calling g' mk (((.ref (j + 1) :: as).map (m_v g)).toArray), t, U', L, hT, X', hL, e1, e2, hq2, hsteps⟩
  exact m_back (rest := rest) (as := .ref (j + 1) :: as) (r1 := r1) (h1 := h1) run w z C hR hl (by omega) (by omega) he
end WRows

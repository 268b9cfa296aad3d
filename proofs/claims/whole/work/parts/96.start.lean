/-! the machine at the law's entry: classes, arrays, casts -/
theorem k_in : ∀ q ∈ vwCl, ∀ w ∈ u_ws q.1 q.2.1 q.2.2, w ∈ lw_tbl := by decide +kernel
theorem k_inst : ∀ q ∈ vwCl, Cond.instantiable q.1 q.2.2 ∈ lw_tbl := by decide +kernel
theorem k_yc : ∀ q ∈ m_yc, Cond.castable q.1 q.2 ∈ lw_tbl := by decide +kernel
theorem k_ao : ∀ C ∈ (["SphereSheets$Row", "SphereSheets$Cover"] : List String), Cond.arrayOver (.object C) ∈ lw_tbl := by decide +kernel
section Start
variable {args : Array Value} {s : State}
theorem k_cls (hts : ∀ w ∈ lw_tbl, w.before args s = true) : ∃ D : va_G, ∀ (c : Nat) (q : vw_C), vwCl[c]? = some q → u_Kn s q.1 q.2.1 q.2.2 (D.1 c) (D.2 c) := by
  have h2 : ∀ c : Nat, ∃ (cC : ClassId) (iS : Nat → Nat), ∀ q : vw_C, vwCl[c]? = some q → u_Kn s q.1 q.2.1 q.2.2 cC iS := by
    intro c
    cases e : vwCl[c]? with
    | none => exact ⟨0, fun _ => 0, fun q hq => by cases hq⟩
    | some q =>
      have hm := List.mem_of_getElem? e
      obtain ⟨cC, iS, hk⟩ := u_known (n := q.2.2) hts (k_in q hm) (hts _ (k_inst q hm))
      exact ⟨cC, iS, fun q' hq => by cases hq; exact hk⟩
  exact ⟨(fun c => Classical.choose (h2 c), fun c => Classical.choose (Classical.choose_spec (h2 c))), fun c q hq => Classical.choose_spec (Classical.choose_spec (h2 c)) q hq⟩
theorem k_prim {ty : FieldType} (h : (Cond.arrayClass ty).before args s = true) : ∃ cA : ClassId, ArrOfT s cA ty ∧ s.vm.findClass ("[" ++ ty.toString) = some cA := by
  obtain ⟨cA, kA, comp, h1, h2, h3⟩ := Cond.arrayClass_spec h
  exact ⟨cA, fun n z => ⟨fun k h => (by cases h), kA, h2, comp, h3⟩, h1⟩
theorem k_obj {C : String} (h : (Cond.arrayOver (.object C)).before args s = true) : ∃ cA : ClassId, ArrOfT s cA (.object C) ∧ va_RA s cA (.object C) := by
  obtain ⟨comp, c, k, h1, h2, h3, h4, h5⟩ := Cond.arrayOver_spec h
  exact ⟨c, fun n z => ⟨fun k h => (by cases h), k, h3, comp, h4⟩, k, comp, h3, h4, h1, h5⟩
theorem k_nc (hgv : (Jvm.Cond.and given_1 narrow_1).before args s = true) (q : String × String) (hq : q ∈ m_nc) : va_Nc q.1 q.2 s := by
  refine va_Nc.of (flat_of_before _ hgv (Cond.not (.castable q.1 q.2)) ?_)
  revert hq
  revert q
  decide +kernel
theorem k_all (hts : ∀ w ∈ lw_tbl, w.before args s = true) (hgv : (Jvm.Cond.and given_1 narrow_1).before args s = true) (b : Nat) : ∃ (D : va_G) (A : Nat → ClassId), m_K (s.heap.size, b, D, A) s := by
  have hg := m_hts hts
  obtain ⟨D, hD⟩ := k_cls hts
  obtain ⟨cI, i1, i2⟩ := k_prim (hg _ ac_int)
  obtain ⟨cJ, j1, j2⟩ := k_prim (hg _ ac_long)
  obtain ⟨cZ, z1, z2⟩ := k_prim (hg _ ac_boolean)
  obtain ⟨cR, r1, r2⟩ := k_obj (hts _ (k_ao "SphereSheets$Row" (by decide)))
  obtain ⟨cC, c1, c2⟩ := k_obj (hts _ (k_ao "SphereSheets$Cover" (by decide)))
  refine ⟨D, fun t => match t with
    | 0 => cI
    | 1 => cJ
    | 2 => cZ
    | 3 => cR
    | _ => cC, ⟨hD, fun k q hk => ?_⟩, k_nc hgv, fun q hq => va_Nw.of rfl (hts _ (k_yc q hq)), fun C hC => va_AO.of (hts _ (k_ao C hC))⟩
  match k, hk with
  | 0, hk => cases hk; exact ⟨i1, i2⟩
  | 1, hk => cases hk; exact ⟨j1, j2⟩
  | 2, hk => cases hk; exact ⟨z1, z2⟩
  | 3, hk => cases hk; exact ⟨r1, r2⟩
  | 4, hk => cases hk; exact ⟨c1, c2⟩
  | k + 5, hk => cases hk
end Start

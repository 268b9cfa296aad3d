/-! MINI: references in arrays, new objects, the script, instanceof, arraycopy -/
theorem m_up_map (g : mG) (f : Nat → Option Nat) (k : Nat) (x : Option Nat) : (fun j => (va_up f k x j).map (m_ad g)) = va_up (fun j => (f j).map (m_ad g)) k (x.map (m_ad g)) := by
  funext j
  by_cases hj : j = k <;> simp [va_up, hj]
def m_cn (ci : Nat) : String := match vwCl[ci]? with
  | some r => r.1
  | none => ""
section MRows
variable {d : Nat} {b : Nat × Nat} {J : mJ} {pc : Nat} {ls : List (Option Value)} {st : List Value} {h : mH} {Q : Option Value → mH → Prop} {a : Nat}
theorem m_aastN {i : Int32} {h1 : mH} (hd : decode J.2.1 pc = .ok (.aastore, 1)) (hv : m_rs h a i .null = some h1) (kk : Wm d b J (pc + 1) ls st h1 Q) : Wm d b J pc ls (.null :: .int i :: .ref a :: st) h Q := by
  obtain ⟨r, h', q, w⟩ := kk
  refine ⟨r, h', q, ?_⟩
  intro g p l e R s m args below meth c H locs cells slots Qk lsm C hR hl hc1 hc2 he
  obtain ⟨n, f, y1, hin, rfl⟩ : ∃ n f, h.1 a = .inl (4, n, .inr (.inr (.inr (.inr f)))) ∧ ¬ (i < 0 ∨ n ≤ i.toNatClampNeg) ∧ h1 = (m_up h.1 a (.inl (4, n, .inr (.inr (.inr (.inr (va_up f i.toNatClampNeg none)))))), h.2) := by
    unfold m_rs at hv
    split at hv
    · rename_i hh; cases hh
    · rename_i hh; cases hh
    · rename_i n f he _
      split at hv
      · cases hv
      · rename_i hc
        exact ⟨n, f, he, hc, (Option.some.inj hv).symm⟩
    · cases hv
  obtain ⟨j, rfl, j1, j2⟩ := m_live_arr hR.1 y1 (by decide)
  have hP := hR.1.1
  have hc : H[g.1 + j]? = some (vp_cell (g.2.2.2 4) (n, .inr (.inr (.inr (.inr fun k => (f k).map (m_ad g)))))) := hP j _ j2
  refine va_WaastN (C := "SphereSheets$Cover") C.1 C.2.1 hc ((C.2.2.2.2.2.2.2.1.1.2 4 _ rfl).1 n (fun k => va_rf ((f k).map (m_ad g)))) (fun q => by cases q) (by show ¬ (i < 0 ∨ (arrV _ _ _).slots.size ≤ _); rw [arrV_size]; exact hin) rfl rfl hd fun H1 e1 z oq => ?_
  refine w g p l e R s m args below meth c H1 _ cells slots Qk lsm C (m_Rel_set hR j1 z (hP.set (m_D g h) j2 ?_ oq) (hR.2.1.put z oq (Nat.le_add_right _ _))) hl hc1 hc2 he
  show H1[g.1 + j]? = some (vp_cell (g.2.2.2 4) (n, .inr (.inr (.inr (.inr fun k => (va_up f i.toNatClampNeg none k).map (m_ad g))))))
  rw [e1, m_up_map]
  exact congrArg some (m_setQ _ _ _ _ none)
theorem m_aast {i : Int32} {v : Nat} {h1 : mH} (hd : decode J.2.1 pc = .ok (.aastore, 1)) (hv : m_rs h a i (.ref v) = some h1) (kk : Wm d b J (pc + 1) ls st h1 Q) : Wm d b J pc ls (.ref v :: .int i :: .ref a :: st) h Q := by
  obtain ⟨r, h', q, w⟩ := kk
  refine ⟨r, h', q, ?_⟩
  intro g p l e R s m args below meth c H locs cells slots Qk lsm C hR hl hc1 hc2 he
  obtain ⟨t, n, f, ci, fs, y1, y2, ht, hin, rfl⟩ : ∃ t n f ci fs, h.1 a = .inl (t, n, .inr (.inr (.inr (.inr f)))) ∧ h.1 v = .inr (ci, fs) ∧ ((t = 3 ∧ ci = 6) ∨ (t = 4 ∧ ci ∈ [0, 1, 4, 8, 9])) ∧ ¬ (i < 0 ∨ n ≤ i.toNatClampNeg) ∧ h1 = (m_up h.1 a (.inl (t, n, .inr (.inr (.inr (.inr (va_up f i.toNatClampNeg (some v))))))), h.2) := by
    unfold m_rs at hv
    split at hv
    · rename_i n f q he hq
      cases hq
      split at hv
      · rename_i fs hfs
        split at hv
        · cases hv
        · rename_i hc
          exact ⟨3, n, f, 6, fs, he, hfs, Or.inl ⟨rfl, rfl⟩, hc, (Option.some.inj hv).symm⟩
      · cases hv
    · rename_i n f q he hq
      cases hq
      split at hv
      · rename_i ci fs hfs
        split at hv
        · cases hv
        · rename_i hc
          split at hv
          · rename_i hm
            exact ⟨4, n, f, ci, fs, he, hfs, Or.inr ⟨rfl, List.contains_iff_mem.mp hm⟩, hc, (Option.some.inj hv).symm⟩
          · cases hv
      · cases hv
    · rename_i hh; cases hh
    · cases hv
  obtain ⟨j, rfl, j1, j2⟩ := m_live_arr hR.1 y1 (by omega)
  have hK := C.2.2.2.2.2.2.2.1
  have hP := hR.1.1
  have hci : ci < 12 := by
    rcases ht with ⟨-, rfl⟩ | ⟨-, hm⟩
    · decide
    · simp at hm; omega
  have hx : ∃ x, vwCl[ci]? = some x := ⟨vwCl[ci]'hci, List.getElem?_eq_getElem hci⟩
  obtain ⟨x, x1⟩ := hx
  obtain ⟨jv, rfl, v1, v2⟩ := m_live_obj hR.1 y2 x1
  have hlt : i.toNatClampNeg < n := Nat.not_le.mp fun q => hin (Or.inr q)
  have h0 : ¬ i < 0 := fun q => hin (Or.inl q)
  obtain ⟨x', -, cellV, g1, g2, g3, -⟩ := hP jv _ v2
  have hcls := (hK.1.1 ci x x1).2
  obtain ⟨ty, hty, kA, comp, k1, k2, k3, hass⟩ : ∃ ty, (m_tys g)[t]? = some (g.2.2.2 t, .object ty) ∧ ∃ (kA : Class) (comp : ClassId), s.vm.classes[g.2.2.2 t]? = some kA ∧ kA.kind = .array comp (.object ty) ∧ s.vm.findClass ty = some comp ∧ s.vm.assignable (g.2.2.1.1 ci) comp = true := by
    rcases ht with ⟨rfl, rfl⟩ | ⟨rfl, hm⟩
    · obtain ⟨kA, comp, k1, k2, k3, -⟩ := (hK.1.2 3 _ rfl).2
      cases x1
      cases k3.symm.trans hcls.1
      exact ⟨_, rfl, kA, _, k1, k2, k3, va_assign hcls⟩
    · obtain ⟨kA, comp, k1, k2, k3, -⟩ := (hK.1.2 4 _ rfl).2
      refine ⟨_, rfl, kA, comp, k1, k2, k3, ?_⟩
      have cast : ∀ nm, x.1 = nm → (nm, "SphereSheets$Cover") ∈ m_yc → s.vm.assignable (g.2.2.1.1 ci) comp = true := by
        intro nm hnm hin2
        have hca := hK.2.2.1 _ hin2
        obtain ⟨c0, t1, f1, f2, f3⟩ := Cond.castable_spec (va_Nw.use (A := args) rfl hca)
        subst hnm
        cases hcls.1.symm.trans f1
        cases k3.symm.trans f2
        exact f3
      simp at hm
      rcases hm with rfl | rfl | rfl | rfl | rfl
      · cases x1; exact cast _ rfl (by decide)
      · cases x1
        cases k3.symm.trans hcls.1
        exact va_assign hcls
      · cases x1; exact cast _ rfl (by decide)
      · cases x1; exact cast _ rfl (by decide)
      · cases x1; exact cast _ rfl (by decide)
  obtain ⟨kE, hkE, -⟩ := Vm.findClass_spec k3
  obtain ⟨kC, hkC, -⟩ := hcls.2
  have hc : H[g.1 + j]? = some (vp_cell (g.2.2.2 t) (n, .inr (.inr (.inr (.inr fun k => (f k).map (m_ad g)))))) := hP j _ j2
  refine W.aast C.1 C.2.1 hc (fun q h => by cases h) (fun h => by cases h) k1 k2 rfl hkE ⟨h0, by show _ < (arrV _ _ _).slots.size; rw [arrV_size]; exact hlt⟩ g1 (fun q h => by rw [g3] at h; cases h) (by rw [g2]; exact hkC) (by rw [g2]; exact hass) rfl rfl hd fun H1 e1 z oq => ?_
  refine w g p l e R s m args below meth c H1 _ cells slots Qk lsm C (m_Rel_set hR j1 z (hP.set (m_D g h) j2 ?_ oq) (hR.2.1.put z oq (Nat.le_add_right _ _))) hl hc1 hc2 he
  show H1[g.1 + j]? = some (vp_cell (g.2.2.2 t) (n, .inr (.inr (.inr (.inr fun k => (va_up f i.toNatClampNeg (some (jv + 1)) k).map (m_ad g))))))
  rw [e1, m_up_map]
  exact congrArg some (m_setQ _ _ _ _ (some (g.1 + jv)))
/-- a new array of rows, of covers -/
theorem m_anewarr {t N idx : Nat} {n : Int32} {b2 : Nat × Nat} {CN : String} (ht : (t = 3 ∧ CN = "SphereSheets$Row") ∨ (t = 4 ∧ CN = "SphereSheets$Cover")) (hd : decode J.2.1 pc = .ok (.anewarray idx, 3)) (hn : ¬ n < 0) (hN : n.toNatClampNeg = N) (hlim : N ≤ 100000) (hw : Cond.classLink J.1 idx CN ∈ mGood) (hb1 : b2.1 + 1 ≤ b.1) (hb2 : b2.2 + N ≤ b.2)
    (kk : Wm d b2 J (pc + 3) ls (.ref h.2 :: st) (m_up h.1 h.2 (.inl (t, N, .inr (.inr (.inr (.inr fun _ => none))))), h.2 + 1) Q) : Wm d b J pc ls (.int n :: st) h Q := by
  obtain ⟨r, h', q, w⟩ := kk
  refine ⟨r, h', q, ?_⟩
  intro g p l e R s m args below meth c H locs cells slots Qk lsm C hR hl hc1 hc2 he
  have hsz : H.size = g.1 + (h.2 - 1) := by have := hR.1.2.1; have := hR.1.2.2.1; omega
  have h1h := hR.1.2.2.1
  have hK := C.2.2.2.2.2.2.2.1
  have hAO : va_AO CN s := hK.2.2.2 CN (by rcases ht with ⟨-, rfl⟩ | ⟨-, rfl⟩ <;> decide)
  subst hN
  refine W.anew C.1 C.2.1 C.2.2.2.1 (C.2.2.2.2.1 _ hw) hAO.use rfl hd rfl hn (by omega) (by omega) (by omega) fun cA kA comp f1 f2 f3 f4 => ?_
  have hP := hR.1.1
  have hcA : cA = g.2.2.2 t := by
    rcases ht with ⟨rfl, rfl⟩ | ⟨rfl, rfl⟩
    · obtain ⟨_, _, -, -, -, k4⟩ := (hK.1.2 3 _ rfl).2
      exact Option.some.inj (f1.symm.trans k4)
    · obtain ⟨_, _, -, -, -, k4⟩ := (hK.1.2 4 _ rfl).2
      exact Option.some.inj (f1.symm.trans k4)
  subst hcA
  have had : m_v g (.ref h.2) = .ref H.size := by
    show Value.ref (m_ad g h.2) = _
    rw [hsz, show h.2 = (h.2 - 1) + 1 by omega, m_ad_s]
    rfl
  have w2 := w g p l e R s m args below meth c (H.push { cls := g.2.2.2 t, slots := Array.replicate n.toNatClampNeg .null, vm := .none }) locs (cells + 1) (slots + n.toNatClampNeg) Qk lsm C (m_Rel_push hR (by simp) ?_ ?_) hl (by omega) (by omega) he
  · rw [List.map_cons, had] at w2
    exact w2
  · refine (hP.kept (fun k x hx => by rw [Array.getElem?_push, if_neg (Nat.ne_of_lt (hP k x hx).lt)])).app (fun k x hx => ?_)
    have hz : k < 1 := (List.getElem?_eq_some_iff.mp hx).1
    rw [show k = 0 by omega] at hx
    cases hx
    show (H.push _)[g.1 + (h.2 - 1)]? = some (vp_cell (g.2.2.2 t) (n.toNatClampNeg, .inr (.inr (.inr (.inr fun _ => none)))))
    rw [← hsz, vp_cell_q]
    simp [arrV_new, va_rf]
  · exact ⟨Nat.le_trans hR.2.1.1 (by simp), fun x g1 g2 => by rw [Array.getElem?_push, if_neg (Nat.ne_of_lt (Nat.lt_of_lt_of_le g1 hR.2.1.1))]; exact hR.2.1.2.1 x g1 g2, hR.2.1.2.2⟩
def m_nref (v : Value) : Bool := match v with
  | .ref _ => false
  | _ => true
/-- a new object, its fields at their defaults -/
def m_nw (own : String) (idx ci : Nat) (fs : List Value) : Prop := ∃ (r : vw_C), vwCl[ci]? = some r ∧ Cond.classLink own idx r.1 ∈ mGood ∧ Cond.instantiable r.1 r.2.2 ∈ mGood ∧ Cond.initialized r.1 ∈ mGood ∧ fs.length = r.2.2 ∧ (∀ j, j < r.2.2 → fs[j]? = some (defaultValue (m_tyOf ci j))) ∧ fs.all m_nref = true
theorem m_newobj {idx ci : Nat} {fs : List Value} {b2 : Nat × Nat} (hf : m_nw J.1 idx ci fs) (hd : decode J.2.1 pc = .ok (.new idx, 3)) (hb1 : b2.1 + 1 ≤ b.1) (hb2 : b2.2 + fs.length ≤ b.2)
    (kk : Wm d b2 J (pc + 3) ls (.ref h.2 :: st) (m_up h.1 h.2 (.inr (ci, fs)), h.2 + 1) Q) : Wm d b J pc ls st h Q := by
  obtain ⟨r, h', q, w⟩ := kk
  refine ⟨r, h', q, ?_⟩
  intro g p l e R s m args below meth c H locs cells slots Qk lsm C hR hl hc1 hc2 he
  obtain ⟨x, x1, x2, x3, x4, x5, x6, x7⟩ := hf
  have hsz : H.size = g.1 + (h.2 - 1) := by have := hR.1.2.1; have := hR.1.2.2.1; omega
  have h1h := hR.1.2.2.1
  have hK := C.2.2.2.2.2.2.2.1
  have hts := C.2.2.2.2.1
  have hKn := hK.1.1 ci _ x1
  rw [x5] at hb2
  refine W.newcK C.1 C.2.1 C.2.2.2.1 (hts _ x2) (hts _ x3) (hts _ x4) rfl hd (by omega) (by omega) hKn.2.1 hsz fun H1 kC hkC e1 z1 o1 => ?_
  have hP := hR.1.1
  have had : m_v g (.ref h.2) = .ref (g.1 + (h.2 - 1)) := by
    show Value.ref (m_ad g h.2) = _
    rw [show h.2 = (h.2 - 1) + 1 by omega, m_ad_s]
    rfl
  have hfs : fs.map (m_v g) = fs := by
    have : ∀ v ∈ fs, m_v g v = id v := fun v hv => by
      have hn := List.all_eq_true.mp x7 v hv
      unfold m_v
      split
      · cases hn
      · rfl
    rw [List.map_congr_left this]
    simp
  have w2 := w g p l e R s m args below meth c H1 locs (cells + 1) (slots + x.2.2) Qk lsm C (m_Rel_push hR (by omega) ?_ ?_) hl (by omega) (by omega) he
  · rw [List.map_cons, had] at w2
    exact w2
  · refine (hP.kept (fun k y hy => o1 y.1 (by rw [← hsz]; exact (hP k y hy).lt))).app (fun k y hy => ?_)
    have hz : k < 1 := (List.getElem?_eq_some_iff.mp hy).1
    rw [show k = 0 by omega] at hy
    cases hy
    refine ⟨_, x1, (u_born (m_tyOf ci) hts (m_lays ci x x1) hKn hkC e1 (m_tyOk ci x x1)).to (fun j hj => ?_)⟩
    show defaultValue (m_tyOf ci j) = vp_V (fs.map (m_v g)) j
    rw [hfs]
    simp [vp_V, x6 j hj]
  · exact ⟨Nat.le_trans hR.2.1.1 (by omega), fun y g1 g2 => (o1 y (by rw [← hsz]; exact Nat.lt_of_lt_of_le g1 hR.2.1.1)).trans (hR.2.1.2.1 y g1 g2), hR.2.1.2.2⟩
/-- the script: the law alone reads it -/
theorem m_slen {L : Nat} {xs : Nat → Int32} (hJ : J.1 = RL) (hd : decode J.2.1 pc = .ok (.arraylength, 1)) (hv : h.1 0 = .inl (9, L, .inl xs)) (kk : Wm d b J (pc + 1) ls (.int (nI L) :: st) h Q) : Wm d b J pc ls (.ref 0 :: st) h Q := by
  obtain ⟨r, h', q, w⟩ := kk
  refine ⟨r, h', q, ?_⟩
  intro g p l e R s m args below meth c H locs cells slots Qk lsm C hR hl hc1 hc2 he
  obtain ⟨hX, hbl, hlt⟩ := hR.2.2 hJ L xs hv
  exact va_slen C.1 C.2.1 hX hbl (Nat.not_le.mpr hlt) hR.2.1 hd (w g p l e R s m args below meth c H locs cells slots Qk lsm C hR hl hc1 hc2 he)
theorem m_sld {L : Nat} {xs : Nat → Int32} {i : Int32} (hJ : J.1 = RL) (hd : decode J.2.1 pc = .ok (.iaload, 1)) (hv : h.1 0 = .inl (9, L, .inl xs)) (hin : ¬ (i < 0 ∨ L ≤ i.toNatClampNeg)) (kk : Wm d b J (pc + 1) ls (.int (xs i.toNatClampNeg) :: st) h Q) : Wm d b J pc ls (.int i :: .ref 0 :: st) h Q := by
  obtain ⟨r, h', q, w⟩ := kk
  refine ⟨r, h', q, ?_⟩
  intro g p l e R s m args below meth c H locs cells slots Qk lsm C hR hl hc1 hc2 he
  obtain ⟨hX, hbl, hlt⟩ := hR.2.2 hJ L xs hv
  exact va_sld C.1 C.2.1 hX hbl (Nat.not_le.mpr hlt) hR.2.1 hin hd (w g p l e R s m args below meth c H locs cells slots Qk lsm C hR hl hc1 hc2 he)
/-- instanceof -/
def m_isa (ci ct : Nat) : Bool := (ci == ct) || [(0, 9), (4, 9), (4, 0)].contains (ci, ct)
theorem m_instN {idx : Nat} (hd : decode J.2.1 pc = .ok (.instanceof idx, 3)) (kk : Wm d b J (pc + 3) ls (.int 0 :: st) h Q) : Wm d b J pc ls (.null :: st) h Q :=
  m_step (fun _ _ _ _ _ _ _ _ _ _ _ _ _ _ _ _ _ hx hb kk => lv_instN hx hb hd kk) kk
theorem m_inst {idx ci ct : Nat} {fs : List Value} (hd : decode J.2.1 pc = .ok (.instanceof idx, 3)) (hct : ct ∈ [0, 4, 8, 9]) (hci : ci ∈ [0, 1, 4, 8, 9]) (hw : Cond.classLink J.1 idx (m_cn ct) ∈ mGood) (ha : h.1 a = .inr (ci, fs)) (kk : Wm d b J (pc + 3) ls (.int (if m_isa ci ct = true then 1 else 0) :: st) h Q) : Wm d b J pc ls (.ref a :: st) h Q := by
  obtain ⟨r, h', q, w⟩ := kk
  refine ⟨r, h', q, ?_⟩
  intro g p l e R s m args below meth c H locs cells slots Qk lsm C hR hl hc1 hc2 he
  have hci12 : ci < 12 := by simp at hci; omega
  obtain ⟨x, x1⟩ : ∃ x, vwCl[ci]? = some x := ⟨vwCl[ci]'hci12, List.getElem?_eq_getElem hci12⟩
  obtain ⟨j, rfl, j1, j2⟩ := m_live_obj hR.1 ha x1
  have hK := C.2.2.2.2.2.2.2.1
  have hrc := va_recv hK.1 hR.1.1 x1 j2
  have hlink := C.2.2.2.2.1 _ hw
  have w2 := w g p l e R s m args below meth c H locs cells slots Qk lsm C hR hl hc1 hc2 he
  have no : ∀ (cn : String) (nm : String), x.1 = cn → m_cn ct = nm → (cn, nm) ∈ m_nc → m_isa ci ct = false → W p l e R s m args below meth c H locs cells slots Qk (F0 m pc lsm ((Value.ref (j + 1) :: st).map (m_v g))) := by
    intro cn nm h1 h2 h3 h4
    rw [h4] at w2
    rw [h1] at hrc
    rw [h2] at hlink
    exact va_instNo C.1 C.2.1 C.2.2.2.1 hlink (hK.2.1 _ h3) hrc hd w2
  have yes : ∀ (cn : String) (nm : String), x.1 = cn → m_cn ct = nm → (cn, nm) ∈ m_yc → m_isa ci ct = true → W p l e R s m args below meth c H locs cells slots Qk (F0 m pc lsm ((Value.ref (j + 1) :: st).map (m_v g))) := by
    intro cn nm h1 h2 h3 h4
    rw [h4] at w2
    rw [h1] at hrc
    rw [h2] at hlink
    exact va_instY C.1 C.2.1 C.2.2.2.1 hlink (hK.2.2.1 _ h3) hrc hd w2
  have same : ∀ (nm : String), x.1 = nm → m_cn ct = nm → m_isa ci ct = true → W p l e R s m args below meth c H locs cells slots Qk (F0 m pc lsm ((Value.ref (j + 1) :: st).map (m_v g))) := by
    intro nm h1 h2 h4
    rw [h4] at w2
    rw [h1] at hrc
    rw [h2] at hlink
    have hcl := (hK.1.1 ci x x1).2
    rw [h1] at hcl
    exact va_instS C.1 C.2.1 C.2.2.2.1 hlink hcl hrc hd w2
  simp at hct hci
  rcases hci with rfl | rfl | rfl | rfl | rfl <;> cases x1 <;> rcases hct with rfl | rfl | rfl | rfl <;> first
    | exact same _ rfl rfl rfl
    | exact yes _ _ rfl rfl (by decide) rfl
    | exact no _ _ rfl rfl (by decide) rfl
end MRows

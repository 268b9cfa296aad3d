/-! MINI: rows that read and write the heap -/
theorem m_lays : ∀ (ci : Nat) (r : vw_C), vwCl[ci]? = some r → ∀ w ∈ u_ws r.1 r.2.1 r.2.2, w ∈ mGood := by
  have key : ∀ r ∈ vwCl, ∀ w ∈ u_ws r.1 r.2.1 r.2.2, w ∈ lw_tbl ∧ goodWord w = true := by decide +kernel
  intro ci r hr w hw
  obtain ⟨k1, k2⟩ := key r (List.mem_of_getElem? hr) w hw
  exact List.mem_filter.mpr ⟨List.mem_append_left _ k1, k2⟩
def m_tyOf (ci : Nat) : Nat → FieldType := match ci with
  | 0 => tyX0
  | 1 => tyX1
  | 2 => tyX2
  | 3 => tyX3
  | 4 => tyX4
  | 5 => tyX6
  | 6 => tyX7
  | 7 => tyX8
  | 8 => tyX9
  | 9 => tyX10
  | 10 => tyX11
  | _ => tyX12
theorem m_tyOk (ci : Nat) (r : vw_C) (hr : vwCl[ci]? = some r) : ∀ k, k < r.2.2 → parseFieldDescriptor (r.2.1 k).2.2.1 = some (m_tyOf ci k) := by
  match ci, hr with
  | 0, hr => cases hr; exact tyX0_ok
  | 1, hr => cases hr; exact tyX1_ok
  | 2, hr => cases hr; exact tyX2_ok
  | 3, hr => cases hr; exact tyX3_ok
  | 4, hr => cases hr; exact tyX4_ok
  | 5, hr => cases hr; exact tyX6_ok
  | 6, hr => cases hr; exact tyX7_ok
  | 7, hr => cases hr; exact tyX8_ok
  | 8, hr => cases hr; exact tyX9_ok
  | 9, hr => cases hr; exact tyX10_ok
  | 10, hr => cases hr; exact tyX11_ok
  | 11, hr => cases hr; exact tyX12_ok
  | n + 12, hr => cases hr
theorem m_nmOk (ci : Nat) (r : vw_C) (hr : vwCl[ci]? = some r) : ∀ a, a < r.2.2 → ∀ b, b < r.2.2 → a ≠ b → (r.2.1 a).2.1 ≠ (r.2.1 b).2.1 := by
  match ci, hr with
  | 0, hr => cases hr; exact nmX0
  | 1, hr => cases hr; exact nmX1
  | 2, hr => cases hr; exact nmX2
  | 3, hr => cases hr; exact nmX3
  | 4, hr => cases hr; exact nmX4
  | 5, hr => cases hr; exact nmX6
  | 6, hr => cases hr; exact nmX7
  | 7, hr => cases hr; exact nmX8
  | 8, hr => cases hr; exact nmX9
  | 9, hr => cases hr; exact nmX10
  | 10, hr => cases hr; exact nmX11
  | 11, hr => cases hr; exact nmX12
  | n + 12, hr => cases hr
section Live
variable {g : mG} {H : Heap} {h : mH} {a : Nat}
theorem m_live {c : mC} (hR : m_R0 g H h) (ha : h.1 a = c) (hc : c ≠ m_dead) (h9 : ∀ L xs, c ≠ .inl (9, L, .inl xs)) : ∃ k, a = k + 1 ∧ k + 1 < h.2 := by
  obtain ⟨-, -, -, hd, L, xs, h0⟩ := hR
  match a, ha with
  | 0, ha => exact absurd (ha.symm.trans h0) (h9 L xs)
  | k + 1, ha =>
    refine ⟨k, rfl, ?_⟩
    rcases Nat.lt_or_ge (k + 1) h.2 with q | q
    · exact q
    · exact absurd (ha.symm.trans (hd _ q)) hc
theorem m_live_obj {ci : Nat} {fs : List Value} {r : vw_C} (hR : m_R0 g H h) (ha : h.1 a = .inr (ci, fs)) (hr : vwCl[ci]? = some r) : ∃ k, a = k + 1 ∧ k + 1 < h.2 ∧ (m_ws g h)[k]? = some (g.1 + k, .inr (ci, fs.map (m_v g))) := by
  have hci : ci < 12 := (List.getElem?_eq_some_iff.mp hr).1
  obtain ⟨k, rfl, hk⟩ := m_live hR ha (fun q => by unfold m_dead at q; cases q; exact absurd hci (by decide)) (fun L xs q => by cases q)
  refine ⟨k, rfl, hk, ?_⟩
  rw [m_ws_at g h hk, ha]
  rfl
theorem m_live_arr {t : Nat} {x : vp_A} (hR : m_R0 g H h) (ha : h.1 a = .inl (t, x)) (ht : t < 5) : ∃ k, a = k + 1 ∧ k + 1 < h.2 ∧ (m_ws g h)[k]? = some (g.1 + k, .inl (g.2.2.2 t, m_arr g x)) := by
  obtain ⟨k, rfl, hk⟩ := m_live hR ha (fun q => by unfold m_dead at q; cases q) (fun L xs q => by cases q; exact absurd ht (by decide))
  refine ⟨k, rfl, hk, ?_⟩
  rw [m_ws_at g h hk, ha]
  rfl
/-- a cell of the picture was replaced -/
theorem m_Rel_set {J : mJ} {s : State} {H1 : Heap} {locs locs1 : List Loc} {k : Nat} {c : mC} (hR : m_Rel g J s H locs h) (hk : k + 1 < h.2) (hz : H1.size = H.size) (hP : va_P g.2.2.1 vwCl ((m_ws g h).set k (g.1 + k, m_cell g c)) H1) (hS : va_S (fun q => g.1 ≤ q) s.heap H1 locs1) : m_Rel g J s H1 locs1 (m_up h.1 (k + 1) c, h.2) := by
  obtain ⟨⟨-, h2, h3, h4, L, xs, h5⟩, -, h6⟩ := hR
  have e0 : (m_up h.1 (k + 1) c) 0 = h.1 0 := m_up_n _ _ (by omega)
  refine ⟨⟨?_, ?_, h3, fun j hj => ?_, L, xs, ?_⟩, hS, ?_⟩
  · rw [m_ws_set g h c hk]; exact hP
  · rw [hz]; exact h2
  · have hj : h.2 ≤ j := hj
    show m_up h.1 (k + 1) c j = m_dead
    rw [m_up_n _ _ (by omega)]
    exact h4 j hj
  · show m_up h.1 (k + 1) c 0 = _
    rw [e0]; exact h5
  · intro hJ L2 xs2 hx
    refine h6 hJ L2 xs2 ?_
    rw [← e0]; exact hx
/-- a cell was made -/
theorem m_Rel_push {J : mJ} {s : State} {H1 : Heap} {locs : List Loc} {c : mC} (hR : m_Rel g J s H locs h) (hz : H1.size = H.size + 1) (hP : va_P g.2.2.1 vwCl (m_ws g h ++ [(g.1 + (h.2 - 1), m_cell g c)]) H1) (hS : va_S (fun q => g.1 ≤ q) s.heap H1 locs) : m_Rel g J s H1 locs (m_up h.1 h.2 c, h.2 + 1) := by
  obtain ⟨⟨-, h2, h3, h4, L, xs, h5⟩, -, h6⟩ := hR
  have e0 : (m_up h.1 h.2 c) 0 = h.1 0 := m_up_n _ _ (by omega)
  refine ⟨⟨?_, ?_, ?_, fun j hj => ?_, L, xs, ?_⟩, hS, ?_⟩
  · rw [m_ws_push g h c h3]; exact hP
  · show H1.size + 1 = g.1 + (h.2 + 1)
    omega
  · show 1 ≤ h.2 + 1
    omega
  · have hj : h.2 + 1 ≤ j := hj
    show m_up h.1 h.2 c j = m_dead
    rw [m_up_n _ _ (by omega)]
    exact h4 j (by omega)
  · show m_up h.1 h.2 c 0 = _
    rw [e0]; exact h5
  · intro hJ L2 xs2 hx
    refine h6 hJ L2 xs2 ?_
    rw [← e0]; exact hx
end Live
theorem m_ad_s (g : mG) (k : Nat) : m_ad g (k + 1) = g.1 + k := rfl
-- certificates of field links
def m_fl (own : String) (idx k : Nat) (cis : List Nat) : Prop := ∀ ci ∈ cis, ∃ (r : vw_C) (ref : String), vwCl[ci]? = some r ∧ k < r.2.2 ∧ Cond.fieldLink own idx ref (r.2.1 k).2.1 (r.2.1 k).2.2.1 ∈ mGood ∧ (ref = (r.2.1 k).1 ∨ Cond.sameField ref (r.2.1 k).1 (r.2.1 k).2.1 (r.2.1 k).2.2.1 ∈ mGood)
def m_pl (own : String) (idx k : Nat) (ci : Nat) (fin : Bool) : Prop := ∃ (r : vw_C), vwCl[ci]? = some r ∧ k < r.2.2 ∧ Cond.fieldLink own idx (r.2.1 k).1 (r.2.1 k).2.1 (r.2.1 k).2.2.1 ∈ mGood ∧ (r.2.1 k).2.2.2 = fin ∧ (fin = true → (r.2.1 k).1 = own)
def m_fld (h : mH) (a : Nat) (cis : List Nat) (k : Nat) : Option Value := match h.1 a with
  | .inr (ci, fs) => if cis.contains ci = true then fs[k]? else none
  | _ => none
theorem m_fld_some {h : mH} {a k : Nat} {cis : List Nat} {v : Value} (hv : m_fld h a cis k = some v) : ∃ ci fs, h.1 a = .inr (ci, fs) ∧ ci ∈ cis ∧ fs[k]? = some v := by
  unfold m_fld at hv
  split at hv
  · rename_i ci fs he
    split at hv
    · rename_i hc
      exact ⟨ci, fs, he, List.contains_iff_mem.mp hc, hv⟩
    · cases hv
  · cases hv
def m_put (h : mH) (a : Nat) (ci k : Nat) (v : Value) : Option mH := match h.1 a with
  | .inr (ci', fs) => if ci' = ci ∧ k < fs.length then some (m_up h.1 a (.inr (ci, fs.set k v)), h.2) else none
  | _ => none
theorem m_put_some {h h1 : mH} {a ci k : Nat} {v : Value} (hv : m_put h a ci k v = some h1) : ∃ fs, h.1 a = .inr (ci, fs) ∧ k < fs.length ∧ h1 = (m_up h.1 a (.inr (ci, fs.set k v)), h.2) := by
  unfold m_put at hv
  split at hv
  · rename_i ci' fs he
    split at hv
    · rename_i hc
      obtain ⟨rfl, hk⟩ := hc
      exact ⟨fs, he, hk, (Option.some.inj hv).symm⟩
    · cases hv
  · cases hv
def m_vfit (t : FieldType) (v : Value) : Prop := match t, v with
  | .int, .int _ => True
  | .long, .long _ => True
  | .object _, .ref _ => True
  | .array _, .ref _ => True
  | _, _ => False
theorem m_vfit_ok {t : FieldType} {v : Value} (g : mG) (h : m_vfit t v) : narrow t (m_v g v) = m_v g v ∧ fits t (m_v g v) = true := by
  unfold m_vfit at h
  split at h
  · exact ⟨rfl, rfl⟩
  · exact ⟨rfl, rfl⟩
  · exact ⟨rfl, rfl⟩
  · exact ⟨rfl, rfl⟩
  · exact h.elim
section HRows
variable {d : Nat} {b : Nat × Nat} {J : mJ} {pc : Nat} {ls : List (Option Value)} {st : List Value} {h : mH} {Q : Option Value → mH → Prop} {a : Nat}
theorem m_get {idx k : Nat} {cis : List Nat} {v : Value} (hf : m_fl J.1 idx k cis) (hd : decode J.2.1 pc = .ok (.getfield idx, 3)) (hv : m_fld h a cis k = some v) (kk : Wm d b J (pc + 3) ls (v :: st) h Q) : Wm d b J pc ls (.ref a :: st) h Q := by
  obtain ⟨r, h', q, w⟩ := kk
  refine ⟨r, h', q, ?_⟩
  intro g p l e R s m args below meth c H locs cells slots Qk lsm C hR hl hc1 hc2 he
  obtain ⟨ci, fs, h1, h2, h3⟩ := m_fld_some hv
  obtain ⟨x, ref, x1, x2, x3, x4⟩ := hf ci h2
  obtain ⟨j, rfl, j1, j2⟩ := m_live_obj hR.1 h1 x1
  obtain ⟨hx, hb, hml, hown, hts, -, -, hK, -, -⟩ := id C
  refine va_get (D := g.2.2.1) (cl := vwCl) (tys := m_tys g) (ws := m_ws g h) (C := x.1) (T := x.2.1) (N := x.2.2) (ref := ref) hx hb hts (m_lays ci x x1) hown hK.1 hR.1.1 j j2 x1 k x2 (hts _ x3) ?_ (v := m_v g v) (by rw [List.getElem?_map, h3]; rfl) hd (w g p l e R s m args below meth c H locs cells slots Qk lsm C hR hl hc1 hc2 he)
  intro y hy
  rcases x4 with rfl | x4
  · exact hy
  · exact u_same (hts _ x4) y hy
theorem m_putf {idx k ci : Nat} {v : Value} {h1 : mH} (hf : m_pl J.1 idx k ci false) (hd : decode J.2.1 pc = .ok (.putfield idx, 3)) (ht : m_vfit (m_tyOf ci k) v) (hv : m_put h a ci k v = some h1) (kk : Wm d b J (pc + 3) ls st h1 Q) : Wm d b J pc ls (v :: .ref a :: st) h Q := by
  obtain ⟨r, h', q, w⟩ := kk
  refine ⟨r, h', q, ?_⟩
  intro g p l e R s m args below meth c H locs cells slots Qk lsm C hR hl hc1 hc2 he
  obtain ⟨fs, y1, y2, rfl⟩ := m_put_some hv
  obtain ⟨x, x1, x2, x3, x4, -⟩ := hf
  obtain ⟨j, rfl, j1, j2⟩ := m_live_obj hR.1 y1 x1
  obtain ⟨hx, hb, hml, hown, hts, -, -, hK, -, -⟩ := id C
  obtain ⟨t1, t2⟩ := m_vfit_ok g ht
  have hP := hR.1.1
  have hap := va_apart (own := J.1) hts (m_lays ci x x1) (m_tyOf ci) (m_tyOk ci x x1) (m_nmOk ci x x1) hK.1 x1
  obtain ⟨x', e0, cell, q1, q2, q3, q4⟩ := hP j _ j2
  cases e0.symm.trans x1
  obtain ⟨hSl, hfc, kC, hkC, hkind⟩ := hK.1.1 ci _ x1
  obtain ⟨cf, kf, fi, f, hi, hsl⟩ := hSl k x2
  have hlay := hts _ (m_lays ci x x1 _ (u_in_lay x2))
  unfold u_lay at hlay
  rw [if_neg (by rw [x4]; decide)] at hlay
  have hst := (u_facts hfc hkC (u_lays hts (m_lays ci x x1) x2) hi).1
  have h6 := u_store hfc hkC hkind hlay hi (m_tyOk ci x x1 k x2) t1 t2
  refine W.putK hx hb (f := f) ⟨hown, hts _ x3, ⟨_, _, _, hi⟩, hst⟩ (by rw [q2]; exact h6) q1 q3 (by rw [hsl]; exact k2_hasslot (q4 k x2)) rfl rfl hd fun H1 e1 e2 e3 => ?_
  rw [hsl] at e1 ⊢
  refine w g p l e R s m args below meth c H1 _ cells slots Qk lsm C (m_Rel_set hR j1 e2 (hP.set (m_D g h) j2 ⟨_, x1, t_OB.to (V := updV (vp_V (fs.map (m_v g))) k (m_v g v)) ⟨_, e1, q2, q3, t_set q4 hap x2 (m_v g v)⟩ (fun i _ => ?_)⟩ e3) (hR.2.1.put e2 e3 (Nat.le_add_right _ _))) hl hc1 hc2 he
  rw [List.map_set]
  exact vp_updV_set (by simpa using y2) (m_v g v) i
theorem m_putfF {idx k ci : Nat} {v : Value} {h1 : mH} (hf : m_pl J.1 idx k ci true) (hini : J.2.2.2.1 = true) (hd : decode J.2.1 pc = .ok (.putfield idx, 3)) (ht : m_vfit (m_tyOf ci k) v) (hv : m_put h a ci k v = some h1) (kk : Wm d b J (pc + 3) ls st h1 Q) : Wm d b J pc ls (v :: .ref a :: st) h Q := by
  obtain ⟨r, h', q, w⟩ := kk
  refine ⟨r, h', q, ?_⟩
  intro g p l e R s m args below meth c H locs cells slots Qk lsm C hR hl hc1 hc2 he
  obtain ⟨fs, y1, y2, rfl⟩ := m_put_some hv
  obtain ⟨x, x1, x2, x3, x4, x5⟩ := hf
  obtain ⟨j, rfl, j1, j2⟩ := m_live_obj hR.1 y1 x1
  obtain ⟨hx, hb, hml, hown, hts, -, -, hK, -, hnm⟩ := id C
  obtain ⟨t1, t2⟩ := m_vfit_ok g ht
  have hP := hR.1.1
  have hap := va_apart (own := J.1) hts (m_lays ci x x1) (m_tyOf ci) (m_tyOk ci x x1) (m_nmOk ci x x1) hK.1 x1
  obtain ⟨x', e0, cell, q1, q2, q3, q4⟩ := hP j _ j2
  cases e0.symm.trans x1
  obtain ⟨hSl, hfc, kC, hkC, hkind⟩ := hK.1.1 ci _ x1
  obtain ⟨cf, kf, fi, f, hi, hsl⟩ := hSl k x2
  have hlay := hts _ (m_lays ci x x1 _ (u_in_lay x2))
  unfold u_lay at hlay
  rw [if_pos x4] at hlay
  have hst := (u_facts hfc hkC (u_lays hts (m_lays ci x x1) x2) hi).1
  have hcf : m.cls = cf := by
    obtain ⟨_, _, c', _, _, _, -, -, hf', -, -, -, hown2, -⟩ := Cond.laysFinal_spec hlay
    have e1 : c' = cf := by have := hi.symm.trans hf'; simp at this; exact this.1.symm
    rw [x5 rfl] at hown2
    rw [← e1]; exact Option.some.inj (hown.symm.trans hown2)
  have h6 := u_fits hfc hkC hkind (Or.inr hlay) hi (m_tyOk ci x x1 k x2) t1 t2
  refine W.putFinK hx hb hown (hts _ x3) hi hst hcf (hnm hini) (by rw [q2]; exact h6) q1 q3 (by rw [hsl]; exact k2_hasslot (q4 k x2)) rfl rfl hd fun H1 e1 e2 e3 => ?_
  rw [hsl] at e1 ⊢
  refine w g p l e R s m args below meth c H1 _ cells slots Qk lsm C (m_Rel_set hR j1 e2 (hP.set (m_D g h) j2 ⟨_, x1, t_OB.to (V := updV (vp_V (fs.map (m_v g))) k (m_v g v)) ⟨_, e1, q2, q3, t_set q4 hap x2 (m_v g v)⟩ (fun i _ => ?_)⟩ e3) (hR.2.1.put e2 e3 (Nat.le_add_right _ _))) hl hc1 hc2 he
  rw [List.map_set]
  exact vp_updV_set (by simpa using y2) (m_v g v) i
end HRows

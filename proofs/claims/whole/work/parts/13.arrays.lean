/-! MINI: arrays -/
theorem m_setI (cA : ClassId) (n k : Nat) (f : Nat → Int32) (x : Int32) : (vp_cell cA (n, .inl f)).setSlot k (.int x) = vp_cell cA (n, .inl (upd f k x)) := by
  rw [vp_cell_i, vp_cell_i, arrV_store]
  congr 1
  funext q
  by_cases hq : q = k <;> simp [updV, upd, hq]
theorem m_setL (cA : ClassId) (n k : Nat) (f : Nat → Int64) (x : Int64) : (vp_cell cA (n, .inr (.inl f))).setSlot k (.long x) = vp_cell cA (n, .inr (.inl (vp_updL f k x))) := by
  rw [vp_cell_l, vp_cell_l, arrV_store]
  congr 1
  funext q
  by_cases hq : q = k <;> simp [updV, vp_updL, hq]
theorem m_setQ (cA : ClassId) (n k : Nat) (f : Nat → Option Nat) (x : Option Nat) : (vp_cell cA (n, .inr (.inr (.inr (.inr f))))).setSlot k (va_rf x) = vp_cell cA (n, .inr (.inr (.inr (.inr (va_up f k x))))) := by
  rw [vp_cell_q, vp_cell_q, arrV_store]
  congr 1
  funext q
  by_cases hq : q = k <;> simp [updV, va_up, hq]
def m_len (h : mH) (a : Nat) : Option Nat := match h.1 a with
  | .inl (t, n, _) => if t < 5 then some n else none
  | _ => none
def m_il (h : mH) (a : Nat) (i : Int32) : Option Int32 := match h.1 a with
  | .inl (0, n, .inl f) => if i < 0 ∨ n ≤ i.toNatClampNeg then none else some (f i.toNatClampNeg)
  | _ => none
def m_is (h : mH) (a : Nat) (i x : Int32) : Option mH := match h.1 a with
  | .inl (0, n, .inl f) => if i < 0 ∨ n ≤ i.toNatClampNeg then none else some (m_up h.1 a (.inl (0, n, .inl (upd f i.toNatClampNeg x))), h.2)
  | _ => none
def m_ll (h : mH) (a : Nat) (i : Int32) : Option Int64 := match h.1 a with
  | .inl (1, n, .inr (.inl f)) => if i < 0 ∨ n ≤ i.toNatClampNeg then none else some (f i.toNatClampNeg)
  | _ => none
def m_ls (h : mH) (a : Nat) (i : Int32) (x : Int64) : Option mH := match h.1 a with
  | .inl (1, n, .inr (.inl f)) => if i < 0 ∨ n ≤ i.toNatClampNeg then none else some (m_up h.1 a (.inl (1, n, .inr (.inl (vp_updL f i.toNatClampNeg x)))), h.2)
  | _ => none
def m_zl (h : mH) (a : Nat) (i : Int32) : Option Int32 := match h.1 a with
  | .inl (2, n, .inl f) => if i < 0 ∨ n ≤ i.toNatClampNeg then none else some (f i.toNatClampNeg)
  | _ => none
def m_zs (h : mH) (a : Nat) (i x : Int32) : Option mH := match h.1 a with
  | .inl (2, n, .inl f) => if i < 0 ∨ n ≤ i.toNatClampNeg then none else some (m_up h.1 a (.inl (2, n, .inl (upd f i.toNatClampNeg (vp_nar .boolean x)))), h.2)
  | _ => none
def m_rl (h : mH) (a : Nat) (i : Int32) : Option Value := match h.1 a with
  | .inl (t, n, .inr (.inr (.inr (.inr f)))) => if (t = 3 ∨ t = 4) ∧ ¬ (i < 0 ∨ n ≤ i.toNatClampNeg) then some (va_rf (f i.toNatClampNeg)) else none
  | _ => none
def m_rs (h : mH) (a : Nat) (i : Int32) (v : Value) : Option mH := match h.1 a, v with
  | .inl (3, n, .inr (.inr (.inr (.inr f)))), .ref q => (match h.1 q with
    | .inr (6, _) => if i < 0 ∨ n ≤ i.toNatClampNeg then none else some (m_up h.1 a (.inl (3, n, .inr (.inr (.inr (.inr (va_up f i.toNatClampNeg (some q))))))), h.2)
    | _ => none)
  | .inl (4, n, .inr (.inr (.inr (.inr f)))), .ref q => (match h.1 q with
    | .inr (ci, _) => if i < 0 ∨ n ≤ i.toNatClampNeg then none else if [0, 1, 4, 8, 9].contains ci = true then some (m_up h.1 a (.inl (4, n, .inr (.inr (.inr (.inr (va_up f i.toNatClampNeg (some q))))))), h.2) else none
    | _ => none)
  | .inl (4, n, .inr (.inr (.inr (.inr f)))), .null => if i < 0 ∨ n ≤ i.toNatClampNeg then none else some (m_up h.1 a (.inl (4, n, .inr (.inr (.inr (.inr (va_up f i.toNatClampNeg none)))))), h.2)
  | _, _ => none
theorem m_il_some {h : mH} {a : Nat} {i x : Int32} (hv : m_il h a i = some x) : ∃ n f, h.1 a = .inl (0, n, .inl f) ∧ ¬ (i < 0 ∨ n ≤ i.toNatClampNeg) ∧ x = f i.toNatClampNeg := by
  unfold m_il at hv
  split at hv
  · rename_i n f he
    split at hv
    · cases hv
    · rename_i hc
      exact ⟨n, f, he, hc, (Option.some.inj hv).symm⟩
  · cases hv
theorem m_is_some {h h1 : mH} {a : Nat} {i x : Int32} (hv : m_is h a i x = some h1) : ∃ n f, h.1 a = .inl (0, n, .inl f) ∧ ¬ (i < 0 ∨ n ≤ i.toNatClampNeg) ∧ h1 = (m_up h.1 a (.inl (0, n, .inl (upd f i.toNatClampNeg x))), h.2) := by
  unfold m_is at hv
  split at hv
  · rename_i n f he
    split at hv
    · cases hv
    · rename_i hc
      exact ⟨n, f, he, hc, (Option.some.inj hv).symm⟩
  · cases hv
theorem m_ll_some {h : mH} {a : Nat} {i : Int32} {x : Int64} (hv : m_ll h a i = some x) : ∃ n f, h.1 a = .inl (1, n, .inr (.inl f)) ∧ ¬ (i < 0 ∨ n ≤ i.toNatClampNeg) ∧ x = f i.toNatClampNeg := by
  unfold m_ll at hv
  split at hv
  · rename_i n f he
    split at hv
    · cases hv
    · rename_i hc
      exact ⟨n, f, he, hc, (Option.some.inj hv).symm⟩
  · cases hv
theorem m_ls_some {h h1 : mH} {a : Nat} {i : Int32} {x : Int64} (hv : m_ls h a i x = some h1) : ∃ n f, h.1 a = .inl (1, n, .inr (.inl f)) ∧ ¬ (i < 0 ∨ n ≤ i.toNatClampNeg) ∧ h1 = (m_up h.1 a (.inl (1, n, .inr (.inl (vp_updL f i.toNatClampNeg x)))), h.2) := by
  unfold m_ls at hv
  split at hv
  · rename_i n f he
    split at hv
    · cases hv
    · rename_i hc
      exact ⟨n, f, he, hc, (Option.some.inj hv).symm⟩
  · cases hv
theorem m_zl_some {h : mH} {a : Nat} {i x : Int32} (hv : m_zl h a i = some x) : ∃ n f, h.1 a = .inl (2, n, .inl f) ∧ ¬ (i < 0 ∨ n ≤ i.toNatClampNeg) ∧ x = f i.toNatClampNeg := by
  unfold m_zl at hv
  split at hv
  · rename_i n f he
    split at hv
    · cases hv
    · rename_i hc
      exact ⟨n, f, he, hc, (Option.some.inj hv).symm⟩
  · cases hv
theorem m_zs_some {h h1 : mH} {a : Nat} {i x : Int32} (hv : m_zs h a i x = some h1) : ∃ n f, h.1 a = .inl (2, n, .inl f) ∧ ¬ (i < 0 ∨ n ≤ i.toNatClampNeg) ∧ h1 = (m_up h.1 a (.inl (2, n, .inl (upd f i.toNatClampNeg (vp_nar .boolean x)))), h.2) := by
  unfold m_zs at hv
  split at hv
  · rename_i n f he
    split at hv
    · cases hv
    · rename_i hc
      exact ⟨n, f, he, hc, (Option.some.inj hv).symm⟩
  · cases hv
theorem m_rl_some {h : mH} {a : Nat} {i : Int32} {v : Value} (hv : m_rl h a i = some v) : ∃ t n f, h.1 a = .inl (t, n, .inr (.inr (.inr (.inr f)))) ∧ (t = 3 ∨ t = 4) ∧ ¬ (i < 0 ∨ n ≤ i.toNatClampNeg) ∧ v = va_rf (f i.toNatClampNeg) := by
  unfold m_rl at hv
  split at hv
  · rename_i t n f he
    split at hv
    · rename_i hc
      exact ⟨t, n, f, he, hc.1, hc.2, (Option.some.inj hv).symm⟩
    · cases hv
  · cases hv
theorem m_vrf (g : mG) (x : Option Nat) : m_v g (va_rf x) = va_rf (x.map (m_ad g)) := by cases x <;> rfl
section ARows
variable {d : Nat} {b : Nat × Nat} {J : mJ} {pc : Nat} {ls : List (Option Value)} {st : List Value} {h : mH} {Q : Option Value → mH → Prop} {a : Nat}
theorem m_alen {n : Nat} (hd : decode J.2.1 pc = .ok (.arraylength, 1)) (hv : m_len h a = some n) (kk : Wm d b J (pc + 1) ls (.int (nI n) :: st) h Q) : Wm d b J pc ls (.ref a :: st) h Q := by
  obtain ⟨r, h', q, w⟩ := kk
  refine ⟨r, h', q, ?_⟩
  intro g p l e R s m args below meth c H locs cells slots Qk lsm C hR hl hc1 hc2 he
  obtain ⟨t, x, h1, ht, hn⟩ : ∃ t x, h.1 a = .inl (t, n, x) ∧ t < 5 ∧ True := by
    unfold m_len at hv
    split at hv
    · rename_i t n' x he
      split at hv
      · rename_i hc
        cases hv
        exact ⟨t, x, he, hc, trivial⟩
      · cases hv
    · cases hv
  obtain ⟨j, rfl, j1, j2⟩ := m_live_arr hR.1 h1 ht
  have hl1 : (m_arr g (n, x)).1 = n := by
    unfold m_arr
    split
    · rename_i hh
      cases hh
      rfl
    · rfl
  obtain ⟨ty, hty⟩ : ∃ ty, (m_tys g)[t]? = some (g.2.2.2 t, ty) := by
    match t, ht with
    | 0, _ => exact ⟨_, rfl⟩
    | 1, _ => exact ⟨_, rfl⟩
    | 2, _ => exact ⟨_, rfl⟩
    | 3, _ => exact ⟨_, rfl⟩
    | 4, _ => exact ⟨_, rfl⟩
  exact va_alen C.1 C.2.1 C.2.2.2.2.2.2.2.1.1 hR.1.1 j t j2 hty (v := nI n) (by rw [hl1]; rfl) hd (w g p l e R s m args below meth c H locs cells slots Qk lsm C hR hl hc1 hc2 he)
theorem m_iald {i x : Int32} (hd : decode J.2.1 pc = .ok (.iaload, 1)) (hv : m_il h a i = some x) (kk : Wm d b J (pc + 1) ls (.int x :: st) h Q) : Wm d b J pc ls (.int i :: .ref a :: st) h Q := by
  obtain ⟨r, h', q, w⟩ := kk
  refine ⟨r, h', q, ?_⟩
  intro g p l e R s m args below meth c H locs cells slots Qk lsm C hR hl hc1 hc2 he
  obtain ⟨n, f, h1, hin, rfl⟩ := m_il_some hv
  obtain ⟨j, rfl, j1, j2⟩ := m_live_arr hR.1 h1 (by decide)
  exact va_iald C.1 C.2.1 C.2.2.2.2.2.2.2.1.1 hR.1.1 j 0 (f := f) j2 rfl hin hd (w g p l e R s m args below meth c H locs cells slots Qk lsm C hR hl hc1 hc2 he)
theorem m_lald {i : Int32} {x : Int64} (hd : decode J.2.1 pc = .ok (.laload, 1)) (hv : m_ll h a i = some x) (kk : Wm d b J (pc + 1) ls (.long x :: st) h Q) : Wm d b J pc ls (.int i :: .ref a :: st) h Q := by
  obtain ⟨r, h', q, w⟩ := kk
  refine ⟨r, h', q, ?_⟩
  intro g p l e R s m args below meth c H locs cells slots Qk lsm C hR hl hc1 hc2 he
  obtain ⟨n, f, h1, hin, rfl⟩ := m_ll_some hv
  obtain ⟨j, rfl, j1, j2⟩ := m_live_arr hR.1 h1 (by decide)
  exact va_lald C.1 C.2.1 C.2.2.2.2.2.2.2.1.1 hR.1.1 j 1 (f := f) j2 rfl hin hd (w g p l e R s m args below meth c H locs cells slots Qk lsm C hR hl hc1 hc2 he)
theorem m_zald {i x : Int32} (hd : decode J.2.1 pc = .ok (.baload, 1)) (hv : m_zl h a i = some x) (kk : Wm d b J (pc + 1) ls (.int x :: st) h Q) : Wm d b J pc ls (.int i :: .ref a :: st) h Q := by
  obtain ⟨r, h', q, w⟩ := kk
  refine ⟨r, h', q, ?_⟩
  intro g p l e R s m args below meth c H locs cells slots Qk lsm C hR hl hc1 hc2 he
  obtain ⟨n, f, h1, hin, rfl⟩ := m_zl_some hv
  obtain ⟨j, rfl, j1, j2⟩ := m_live_arr hR.1 h1 (by decide)
  exact va_zald C.1 C.2.1 C.2.2.2.2.2.2.2.1.1 hR.1.1 j 2 (f := f) j2 rfl hin hd (w g p l e R s m args below meth c H locs cells slots Qk lsm C hR hl hc1 hc2 he)
theorem m_aald {i : Int32} {v : Value} (hd : decode J.2.1 pc = .ok (.aaload, 1)) (hv : m_rl h a i = some v) (kk : Wm d b J (pc + 1) ls (v :: st) h Q) : Wm d b J pc ls (.int i :: .ref a :: st) h Q := by
  obtain ⟨r, h', q, w⟩ := kk
  refine ⟨r, h', q, ?_⟩
  intro g p l e R s m args below meth c H locs cells slots Qk lsm C hR hl hc1 hc2 he
  obtain ⟨t, n, f, h1, ht, hin, rfl⟩ := m_rl_some hv
  obtain ⟨j, rfl, j1, j2⟩ := m_live_arr hR.1 h1 (by omega)
  have w2 := w g p l e R s m args below meth c H locs cells slots Qk lsm C hR hl hc1 hc2 he
  rw [List.map_cons, m_vrf] at w2
  rcases ht with rfl | rfl
  · exact va_aldq C.1 C.2.1 C.2.2.2.2.2.2.2.1.1 hR.1.1 j 3 (f := fun k => (f k).map (m_ad g)) j2 rfl hin hd w2
  · exact va_aldq C.1 C.2.1 C.2.2.2.2.2.2.2.1.1 hR.1.1 j 4 (f := fun k => (f k).map (m_ad g)) j2 rfl hin hd w2
theorem m_iast {i x : Int32} {h1 : mH} (hd : decode J.2.1 pc = .ok (.iastore, 1)) (hv : m_is h a i x = some h1) (kk : Wm d b J (pc + 1) ls st h1 Q) : Wm d b J pc ls (.int x :: .int i :: .ref a :: st) h Q := by
  obtain ⟨r, h', q, w⟩ := kk
  refine ⟨r, h', q, ?_⟩
  intro g p l e R s m args below meth c H locs cells slots Qk lsm C hR hl hc1 hc2 he
  obtain ⟨n, f, y1, hin, rfl⟩ := m_is_some hv
  obtain ⟨j, rfl, j1, j2⟩ := m_live_arr hR.1 y1 (by decide)
  have hP := hR.1.1
  have hc : H[g.1 + j]? = some (vp_cell (g.2.2.2 0) (n, .inl f)) := hP j _ j2
  refine W.iast C.1 C.2.1 hc ((C.2.2.2.2.2.2.2.1.1.2 0 _ rfl).1 n (fun j => .int (f j))) (fun q => by cases q) (by show ¬ (i < 0 ∨ (arrV _ _ _).slots.size ≤ _); rw [arrV_size]; exact hin) rfl rfl hd fun H1 e1 z oq => ?_
  refine w g p l e R s m args below meth c H1 _ cells slots Qk lsm C (m_Rel_set hR j1 z (hP.set (m_D g h) j2 ?_ oq) (hR.2.1.put z oq (Nat.le_add_right _ _))) hl hc1 hc2 he
  show H1[g.1 + j]? = some (vp_cell (g.2.2.2 0) (n, .inl (upd f i.toNatClampNeg x)))
  rw [e1, m_setI]
theorem m_last {i : Int32} {x : Int64} {h1 : mH} (hd : decode J.2.1 pc = .ok (.lastore, 1)) (hv : m_ls h a i x = some h1) (kk : Wm d b J (pc + 1) ls st h1 Q) : Wm d b J pc ls (.long x :: .int i :: .ref a :: st) h Q := by
  obtain ⟨r, h', q, w⟩ := kk
  refine ⟨r, h', q, ?_⟩
  intro g p l e R s m args below meth c H locs cells slots Qk lsm C hR hl hc1 hc2 he
  obtain ⟨n, f, y1, hin, rfl⟩ := m_ls_some hv
  obtain ⟨j, rfl, j1, j2⟩ := m_live_arr hR.1 y1 (by decide)
  have hP := hR.1.1
  have hc : H[g.1 + j]? = some (vp_cell (g.2.2.2 1) (n, .inr (.inl f))) := hP j _ j2
  refine W.last C.1 C.2.1 hc ((C.2.2.2.2.2.2.2.1.1.2 1 _ rfl).1 n (fun j => .long (f j))) (fun q => by cases q) (by show ¬ (i < 0 ∨ (arrV _ _ _).slots.size ≤ _); rw [arrV_size]; exact hin) rfl rfl hd fun H1 e1 z oq => ?_
  refine w g p l e R s m args below meth c H1 _ cells slots Qk lsm C (m_Rel_set hR j1 z (hP.set (m_D g h) j2 ?_ oq) (hR.2.1.put z oq (Nat.le_add_right _ _))) hl hc1 hc2 he
  show H1[g.1 + j]? = some (vp_cell (g.2.2.2 1) (n, .inr (.inl (vp_updL f i.toNatClampNeg x))))
  rw [e1, m_setL]
theorem m_nar_z (x : Int32) : narrow .boolean (.int x) = .int (vp_nar .boolean x) := rfl
theorem m_zast {i x : Int32} {h1 : mH} (hd : decode J.2.1 pc = .ok (.bastore, 1)) (hv : m_zs h a i x = some h1) (kk : Wm d b J (pc + 1) ls st h1 Q) : Wm d b J pc ls (.int x :: .int i :: .ref a :: st) h Q := by
  obtain ⟨r, h', q, w⟩ := kk
  refine ⟨r, h', q, ?_⟩
  intro g p l e R s m args below meth c H locs cells slots Qk lsm C hR hl hc1 hc2 he
  obtain ⟨n, f, y1, hin, rfl⟩ := m_zs_some hv
  obtain ⟨j, rfl, j1, j2⟩ := m_live_arr hR.1 y1 (by decide)
  have hP := hR.1.1
  have hc : H[g.1 + j]? = some (vp_cell (g.2.2.2 2) (n, .inl f)) := hP j _ j2
  refine W.zast C.1 C.2.1 hc ((C.2.2.2.2.2.2.2.1.1.2 2 _ rfl).1 n (fun j => .int (f j))) (fun q => by cases q) (by show ¬ (i < 0 ∨ (arrV _ _ _).slots.size ≤ _); rw [arrV_size]; exact hin) rfl rfl hd fun H1 e1 z oq => ?_
  refine w g p l e R s m args below meth c H1 _ cells slots Qk lsm C (m_Rel_set hR j1 z (hP.set (m_D g h) j2 ?_ oq) (hR.2.1.put z oq (Nat.le_add_right _ _))) hl hc1 hc2 he
  show H1[g.1 + j]? = some (vp_cell (g.2.2.2 2) (n, .inl (upd f i.toNatClampNeg (vp_nar .boolean x))))
  rw [e1, m_nar_z, m_setI]
/-- a new array of ints, longs, booleans -/
theorem m_newarr {t N : Nat} {n : Int32} {at_ : ArrayType} {a0 : vp_A} {b2 : Nat × Nat} (hd : decode J.2.1 pc = .ok (.newarray at_, 2)) (hn : ¬ n < 0) (hN : n.toNatClampNeg = N) (hlim : N ≤ 100000) (ht : (t = 0 ∧ at_ = .int ∧ a0 = (N, .inl fun _ => 0)) ∨ (t = 1 ∧ at_ = .long ∧ a0 = (N, .inr (.inl fun _ => 0))) ∨ (t = 2 ∧ at_ = .boolean ∧ a0 = (N, .inl fun _ => 0))) (hw : Cond.arrayClass (newarray.typeOf at_) ∈ mGood) (hb1 : b2.1 + 1 ≤ b.1) (hb2 : b2.2 + N ≤ b.2)
    (kk : Wm d b2 J (pc + 2) ls (.ref h.2 :: st) (m_up h.1 h.2 (.inl (t, a0)), h.2 + 1) Q) : Wm d b J pc ls (.int n :: st) h Q := by
  obtain ⟨r, h', q, w⟩ := kk
  refine ⟨r, h', q, ?_⟩
  intro g p l e R s m args below meth c H locs cells slots Qk lsm C hR hl hc1 hc2 he
  have hsz : H.size = g.1 + (h.2 - 1) := by have := hR.1.2.1; have := hR.1.2.2.1; omega
  have h1h := hR.1.2.2.1
  have hbytes : N * componentBytes (newarray.typeOf at_) ≤ 536870912 := by
    rcases ht with ⟨-, rfl, -⟩ | ⟨-, rfl, -⟩ | ⟨-, rfl, -⟩
    · show N * 4 ≤ _; omega
    · show N * 8 ≤ _; omega
    · show N * 1 ≤ _; omega
  refine va_newaK C.1 C.2.1 (C.2.2.2.2.1 _ hw) rfl hd rfl hn hN hbytes (by omega) (by omega) hsz fun H1 cA e1 z1 o1 hAr hNm => ?_
  have hP := hR.1.1
  have hK2 := C.2.2.2.2.2.2.2.1.1.2
  have hcell : H1[g.1 + (h.2 - 1)]? = some (vp_cell (g.2.2.2 t) a0) ∧ m_arr g a0 = a0 := by
    rcases ht with ⟨rfl, rfl, rfl⟩ | ⟨rfl, rfl, rfl⟩ | ⟨rfl, rfl, rfl⟩
    · have hh : s.vm.findClass ("[" ++ (FieldType.int).toString) = some (g.2.2.2 0) := (hK2 0 _ rfl).2
      cases hNm.symm.trans hh
      exact ⟨e1, rfl⟩
    · have hh : s.vm.findClass ("[" ++ (FieldType.long).toString) = some (g.2.2.2 1) := (hK2 1 _ rfl).2
      cases hNm.symm.trans hh
      exact ⟨e1, rfl⟩
    · have hh : s.vm.findClass ("[" ++ (FieldType.boolean).toString) = some (g.2.2.2 2) := (hK2 2 _ rfl).2
      cases hNm.symm.trans hh
      exact ⟨e1, rfl⟩
  have had : m_v g (.ref h.2) = .ref (g.1 + (h.2 - 1)) := by
    show Value.ref (m_ad g h.2) = _
    rw [show h.2 = (h.2 - 1) + 1 by omega, m_ad_s]
    rfl
  have w2 := w g p l e R s m args below meth c H1 locs (cells + 1) (slots + N) Qk lsm C (m_Rel_push hR (by omega) ?_ ?_) hl (by omega) (by omega) he
  · rw [List.map_cons, had] at w2
    exact w2
  · refine (hP.kept (fun k x hx => o1 x.1 (by rw [← hsz]; exact (hP k x hx).lt))).app (fun k x hx => ?_)
    have hz : k < 1 := (List.getElem?_eq_some_iff.mp hx).1
    rw [show k = 0 by omega] at hx
    cases hx
    show H1[g.1 + (h.2 - 1)]? = some (vp_cell (g.2.2.2 t) (m_arr g a0))
    rw [hcell.2]
    exact hcell.1
  · exact ⟨Nat.le_trans hR.2.1.1 (by omega), fun x g1 g2 => (o1 x (by rw [← hsz]; exact Nat.lt_of_lt_of_le g1 hR.2.1.1)).trans (hR.2.1.2.1 x g1 g2), hR.2.1.2.2⟩
end ARows

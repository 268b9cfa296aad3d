/-! MINI: the machine's heap and frames under small names. A cell: an array (kind: 0 int, 1 long, 2 boolean, 3 rows, 4 covers, 9 the script; length; contents) or an object (its class in vwCl, its fields). Addresses: 0 the script, k + 1 the k-th cell that was made since the law began. -/
abbrev mC : Type := (Nat × vp_A) ⊕ (Nat × List Value)
abbrev mH : Type := (Nat → mC) × Nat
/-- the machine's side of it: the first address, the script's, class ids and field slots, array classes -/
abbrev mG : Type := Nat × Nat × va_G × (Nat → ClassId)
def m_dead : mC := .inr (99, [])
def m_ad (g : mG) (k : Nat) : Nat := match k with
  | 0 => g.2.1
  | k + 1 => g.1 + k
def m_v (g : mG) (v : Value) : Value := match v with
  | .ref k => .ref (m_ad g k)
  | v => v
def m_arr (g : mG) (a : vp_A) : vp_A := match a with
  | (n, .inr (.inr (.inr (.inr f)))) => (n, .inr (.inr (.inr (.inr fun j => (f j).map (m_ad g)))))
  | a => a
def m_cell (g : mG) (c : mC) : va_E := match c with
  | .inl (t, a) => .inl (g.2.2.2 t, m_arr g a)
  | .inr (ci, fs) => .inr (ci, fs.map (m_v g))
def m_ws (g : mG) (h : mH) : va_W := (List.range (h.2 - 1)).map fun k => (g.1 + k, m_cell g (h.1 (k + 1)))
def m_tys (g : mG) : List (ClassId × FieldType) := [(g.2.2.2 0, .int), (g.2.2.2 1, .long), (g.2.2.2 2, .boolean), (g.2.2.2 3, .object "SphereSheets$Row"), (g.2.2.2 4, .object "SphereSheets$Cover")]
def m_up (f : Nat → mC) (a : Nat) (c : mC) : Nat → mC := fun k => if k = a then c else f k
theorem m_up_s (f : Nat → mC) (a : Nat) (c : mC) : m_up f a c a = c := by simp [m_up]
theorem m_up_n (f : Nat → mC) {a k : Nat} (c : mC) (h : k ≠ a) : m_up f a c k = f k := by simp [m_up, h]
theorem m_v_cat (g : mG) (v : Value) : (m_v g v).category = v.category := by cases v <;> rfl
theorem m_cats (g : mG) (st : List Value) : ((st.map (m_v g)).map fun v => v.category).sum = (st.map fun v => v.category).sum := by
  rw [List.map_map]
  congr 1
  exact List.map_congr_left fun v _ => m_v_cat g v
theorem m_ws_at (g : mG) (h : mH) {k : Nat} (hk : k + 1 < h.2) : (m_ws g h)[k]? = some (g.1 + k, m_cell g (h.1 (k + 1))) := by
  have h1 : k < h.2 - 1 := by omega
  simp [m_ws, List.getElem?_range h1]
theorem m_ws_in {g : mG} {h : mH} {k : Nat} {q : Nat × va_E} (hq : (m_ws g h)[k]? = some q) : k + 1 < h.2 ∧ q = (g.1 + k, m_cell g (h.1 (k + 1))) := by
  have hl : k < (m_ws g h).length := (List.getElem?_eq_some_iff.mp hq).1
  have hk : k + 1 < h.2 := by
    simp [m_ws] at hl
    omega
  rw [m_ws_at g h hk] at hq
  exact ⟨hk, (Option.some.inj hq).symm⟩
theorem m_ws_len (g : mG) (h : mH) : (m_ws g h).length = h.2 - 1 := by simp [m_ws]
theorem m_ws_set (g : mG) (h : mH) {k : Nat} (c : mC) (hk : k + 1 < h.2) : m_ws g (m_up h.1 (k + 1) c, h.2) = (m_ws g h).set k (g.1 + k, m_cell g c) := by
  apply List.ext_getElem?
  intro j
  by_cases hj : j + 1 < h.2
  · rw [m_ws_at g (m_up h.1 (k + 1) c, h.2) hj, List.getElem?_set]
    by_cases e : k = j
    · subst e
      have : k < (m_ws g h).length := by rw [m_ws_len]; omega
      simp [this, m_up_s]
    · have e2 : j + 1 ≠ k + 1 := by omega
      simp only [e, if_false]
      rw [m_ws_at g h hj, m_up_n _ _ e2]
  · rw [List.getElem?_eq_none (by rw [m_ws_len]; show h.2 - 1 ≤ j; omega), List.getElem?_eq_none (by rw [List.length_set, m_ws_len]; omega)]
theorem m_ws_push (g : mG) (h : mH) (c : mC) (h1 : 1 ≤ h.2) : m_ws g (m_up h.1 h.2 c, h.2 + 1) = m_ws g h ++ [(g.1 + (h.2 - 1), m_cell g c)] := by
  apply List.ext_getElem?
  intro j
  by_cases hj : j + 1 < h.2
  · rw [m_ws_at g (m_up h.1 h.2 c, h.2 + 1) (show j + 1 < h.2 + 1 by omega), List.getElem?_append_left (by rw [m_ws_len]; omega), m_ws_at g h hj]
    show some (g.1 + j, m_cell g (m_up h.1 h.2 c (j + 1))) = _
    rw [m_up_n _ _ (show j + 1 ≠ h.2 by omega)]
  · by_cases e : j + 1 = h.2
    · rw [m_ws_at g (m_up h.1 h.2 c, h.2 + 1) (show j + 1 < h.2 + 1 by omega), List.getElem?_append_right (by rw [m_ws_len]; omega), m_ws_len]
      have e1 : j - (h.2 - 1) = 0 := by omega
      have e2 : h.2 - 1 = j := by omega
      show some (g.1 + j, m_cell g (m_up h.1 h.2 c (j + 1))) = _
      rw [e1, e2, e, m_up_s]
      rfl
    · rw [List.getElem?_eq_none (by rw [m_ws_len]; show h.2 + 1 - 1 ≤ j; omega), List.getElem?_eq_none (by rw [List.length_append, m_ws_len]; show h.2 - 1 + 1 ≤ j; omega)]
theorem m_D (g : mG) (h : mH) : va_D (fun q => g.1 ≤ q) (m_ws g h) := by
  refine ⟨fun i j p q hp hq e => ?_, fun k q hq => ?_⟩
  · obtain ⟨-, rfl⟩ := m_ws_in hp
    obtain ⟨-, rfl⟩ := m_ws_in hq
    have e : g.1 + i = g.1 + j := e
    omega
  · obtain ⟨-, rfl⟩ := m_ws_in hq
    exact Nat.le_add_right _ _
-- the words that hold everywhere
def m_pm : List MethodName := [⟨"SphereSheets$Cover", "narrowed", "(IJ)[J"⟩]
/-- a private method is the one that is selected, whatever class below it the object is of -/
def mX : List Cond := (["SphereSheets$Bristled", "SphereSheets$One", "SphereSheets$Simple", "SphereSheets$Three"] : List String).flatMap fun C => m_pm.map fun y => Cond.selects C y y
theorem m_selects_private {C : String} {y : MethodName} {s : State} {args : Array Value} {n n' : Nat} (hy : y.cls ≠ "java/lang/invoke/MethodHandle" ∧ y.cls ≠ "java/lang/invoke/VarHandle")
    (hC : (Cond.instantiable C n').before args s = true) (hins : (Cond.instantiable y.cls n).before args s = true) (hpriv : (Cond.privateMethod y).before args s = true) (hinst : (Cond.instanceMethod y).before args s = true) :
    (Cond.selects C y y).before args s = true := by
  obtain ⟨c0, k0, hc0, -⟩ := Cond.instantiable_spec hC
  obtain ⟨c, k, hc, hk, -, hniab, -, -⟩ := Cond.instantiable_spec hins
  have hni : k.isInterface = false := (Bool.or_eq_false_iff.mp hniab).1
  obtain ⟨mk, methM, hnamed, hmethM, -, -⟩ := Cond.instanceMethod_spec hinst
  have hfound : s.methodFound? y.cls y.name y.desc = some mk := State.methodFound?_of_named hnamed hy
  have hcls : mk.cls = c := Option.some.inj ((findClass_of_methodNamed hnamed).symm.trans hc)
  have hsel : selectMethod {} s.vm c0 mk = .method mk := selectMethod_private hmethM (Cond.privateMethod_at hpriv mk methM hnamed hmethM)
  simp only [Cond.before, Cond.holds, Cond.value, hc0, hfound, hnamed, hsel, hcls, hk]
  simp; exact hni
def mTbl : List Cond := lw_tbl ++ mX
def mGood : List Cond := mTbl.filter goodWord
theorem m_hts {args : Array Value} {s : State} (hts : ∀ w ∈ lw_tbl, w.before args s = true) : ∀ w ∈ mGood, w.before args s = true := by
  intro w hw
  rcases List.mem_append.mp (List.mem_filter.mp hw).1 with h | h
  · exact hts w h
  · unfold mX at h
    obtain ⟨C, hC, h⟩ := List.mem_flatMap.mp h
    obtain ⟨y, hy, rfl⟩ := List.mem_map.mp h
    have k1 : ∀ C ∈ (["SphereSheets$Bristled", "SphereSheets$One", "SphereSheets$Simple", "SphereSheets$Three"] : List String), Cond.instantiable C 3 ∈ lw_tbl := by decide +kernel
    have k2 : ∀ y ∈ m_pm, (y.cls ≠ "java/lang/invoke/MethodHandle" ∧ y.cls ≠ "java/lang/invoke/VarHandle") ∧ Cond.instantiable y.cls 3 ∈ lw_tbl ∧ Cond.privateMethod y ∈ lw_tbl ∧ Cond.instanceMethod y ∈ lw_tbl := by decide +kernel
    obtain ⟨q1, q2, q3, q4⟩ := k2 y hy
    exact m_selects_private q1 (hts _ (k1 C hC)) (hts _ q2) (hts _ q3) (hts _ q4)
theorem m_mem (i : Nat) {w : Cond} (h : mTbl[i]? = some w) (hg : goodWord w = true) : w ∈ mGood := List.mem_filter.mpr ⟨List.mem_of_getElem? h, hg⟩
theorem mGood_good {w : Cond} (h : w ∈ mGood) : (w.onTables && w.keeps) = true ∨ ∃ ty, w = .arrayClass ty := good_of_word (List.mem_filter.mp h).2
-- what the classes are, at a state
def m_nc : List (String × String) := [("SphereSheets$Cover", "SphereSheets$Three"), ("SphereSheets$Cover", "SphereSheets$Simple"), ("SphereSheets$Cover", "SphereSheets$One"), ("SphereSheets$Cover", "SphereSheets$Bristled"), ("SphereSheets$Simple", "SphereSheets$Three"), ("SphereSheets$Simple", "SphereSheets$One"), ("SphereSheets$Simple", "SphereSheets$Bristled"), ("SphereSheets$Three", "SphereSheets$Simple"), ("SphereSheets$Three", "SphereSheets$One"), ("SphereSheets$Three", "SphereSheets$Bristled"), ("SphereSheets$Bristled", "SphereSheets$Simple"), ("SphereSheets$Bristled", "SphereSheets$One"), ("SphereSheets$One", "SphereSheets$Simple")]
def m_yc : List (String × String) := [("SphereSheets$Bristled", "SphereSheets$Three"), ("SphereSheets$One", "SphereSheets$Three"), ("SphereSheets$One", "SphereSheets$Bristled"), ("SphereSheets$Simple", "SphereSheets$Cover"), ("SphereSheets$Three", "SphereSheets$Cover"), ("SphereSheets$Bristled", "SphereSheets$Cover"), ("SphereSheets$One", "SphereSheets$Cover"), ("[J", "java/lang/Cloneable")]
def m_K (g : mG) (s : State) : Prop := va_K g.2.2.1 vwCl (m_tys g) s ∧ (∀ q ∈ m_nc, va_Nc q.1 q.2 s) ∧ (∀ q ∈ m_yc, va_Nw (.castable q.1 q.2) s) ∧ ∀ C ∈ (["SphereSheets$Row", "SphereSheets$Cover"] : List String), va_AO C s
theorem m_K_warm {g : mG} {s U : State} (hW : s.WarmedH U.vm) (h : m_K g s) : m_K g U := ⟨va_K.moved hW.alike h.1, fun q hq => (h.2.1 q hq).moved hW.alike, fun q hq => va_Nw.warmC hW (h.2.2.1 q hq), fun C hC => (h.2.2.2 C hC).moved hW.alike⟩
theorem m_K_call {g : mG} {U : State} {gf : JFrame} {mk : MethodId} {a : Array Value} (h : m_K g U) : m_K g (U.calling gf mk a) := ⟨va_K.moved (u := U) (U := U.calling gf mk a) (Vm.Alike.refl U.vm) h.1, fun q hq => (h.2.1 q hq).moved (u := U) (U := U.calling gf mk a) (Vm.Alike.refl U.vm), fun q hq => va_Nw.same (u := U) (U := U.calling gf mk a) rfl rfl (h.2.2.1 q hq), fun C hC => va_AO.moved (u := U) (U := U.calling gf mk a) (Vm.Alike.refl U.vm) (h.2.2.2 C hC)⟩
/-- the heap H holds the picture h -/
def m_R0 (g : mG) (H : Heap) (h : mH) : Prop := va_P g.2.2.1 vwCl (m_ws g h) H ∧ H.size + 1 = g.1 + h.2 ∧ 1 ≤ h.2 ∧ (∀ k, h.2 ≤ k → h.1 k = m_dead) ∧ ∃ (L : Nat) (xs : Nat → Int32), h.1 0 = .inl (9, L, .inl xs)
/-- a class, its code, its locals, whether it is a constructor, what it returns -/
abbrev mJ : Type := String × ByteArray × Nat × Bool × Option FieldType
def m_RS (g : mG) (J : mJ) (s : State) (h : mH) : Prop := J.1 = RL → ∀ (L : Nat) (xs : Nat → Int32), h.1 0 = .inl (9, L, .inl xs) → va_X g.2.1 L xs s s.heap ∧ g.2.1 < s.heap.size ∧ g.2.1 < g.1
def m_Rel (g : mG) (J : mJ) (s : State) (H : Heap) (locs : List Loc) (h : mH) : Prop := m_R0 g H h ∧ va_S (fun q => g.1 ≤ q) s.heap H locs ∧ m_RS g J s h
/-- the locals -/
def m_L (g : mG) (nL : Nat) (ls : List (Option Value)) (lsm : Array Slot) : Prop := lsm.size = nL ∧ lv_wf lsm ∧ ∀ (i : Nat) (v : Value), ls[i]? = some (some v) → lsm[i]? = some (.val (m_v g v))
def m_kill (x : Option Value) : Option Value := match x with
  | some (.long _) => none
  | some (.double _) => none
  | x => x
def m_st1 (ls : List (Option Value)) (i : Nat) (v : Value) : List (Option Value) := match ls, i with
  | [], _ => []
  | _ :: r, 0 => some v :: r
  | x :: r, 1 => m_kill x :: r.set 0 (some v)
  | x :: r, i + 2 => x :: m_st1 r (i + 1) v
def m_st2 (ls : List (Option Value)) (i : Nat) (v : Value) : List (Option Value) := (m_st1 ls i v).set (i + 1) none
theorem m_kill_some {x : Option Value} {w : Value} (h : m_kill x = some w) : x = some w ∧ ¬ w.category = 2 := by
  unfold m_kill at h
  split at h
  · cases h
  · cases h
  · rename_i h1 h2
    refine ⟨h, fun hc => ?_⟩
    subst h
    cases w with
    | long z => exact h1 z rfl
    | double z => exact h2 z rfl
    | _ => cases hc
theorem m_st1_at : ∀ (ls : List (Option Value)) (i : Nat) (v : Value) (j : Nat) (w : Value), (m_st1 ls i v)[j]? = some (some w) → (j = i ∧ w = v) ∨ (j ≠ i ∧ ls[j]? = some (some w) ∧ ¬ (j + 1 = i ∧ w.category = 2))
  | [], i, v, j, w, h => by simp [m_st1] at h
  | x :: r, 0, v, 0, w, h => by
    simp [m_st1] at h
    exact Or.inl ⟨rfl, h.symm⟩
  | x :: r, 0, v, j + 1, w, h => by
    refine Or.inr ⟨by omega, h, by omega⟩
  | x :: r, 1, v, 0, w, h => by
    have h1 : m_kill x = some w := by simpa [m_st1] using h
    obtain ⟨h2, h3⟩ := m_kill_some h1
    exact Or.inr ⟨by omega, by simp [h2], fun q => h3 q.2⟩
  | x :: r, 1, v, j + 1, w, h => by
    have h1 : (r.set 0 (some v))[j]? = some (some w) := h
    rw [List.getElem?_set] at h1
    by_cases e : 0 = j
    · subst e
      simp at h1
      exact Or.inl ⟨rfl, h1.2.symm⟩
    · rw [if_neg e] at h1
      exact Or.inr ⟨by omega, h1, by omega⟩
  | x :: r, i + 2, v, 0, w, h => by
    have h1 : x = some w := by simpa [m_st1] using h
    exact Or.inr ⟨by omega, by simp [h1], by omega⟩
  | x :: r, i + 2, v, j + 1, w, h => by
    have h1 : (m_st1 r (i + 1) v)[j]? = some (some w) := h
    rcases m_st1_at r (i + 1) v j w h1 with ⟨e1, e2⟩ | ⟨e1, e2, e3⟩
    · exact Or.inl ⟨by omega, e2⟩
    · exact Or.inr ⟨by omega, e2, fun q => e3 ⟨by omega, q.2⟩⟩
theorem m_st2_at {ls : List (Option Value)} {i : Nat} {v : Value} {j : Nat} {w : Value} (h : (m_st2 ls i v)[j]? = some (some w)) : (j = i ∧ w = v) ∨ (j ≠ i ∧ j ≠ i + 1 ∧ ls[j]? = some (some w) ∧ ¬ (j + 1 = i ∧ w.category = 2)) := by
  unfold m_st2 at h
  rw [List.getElem?_set] at h
  by_cases e : i + 1 = j
  · rw [if_pos e] at h
    split at h <;> cases h
  · rw [if_neg e] at h
    rcases m_st1_at ls i v j w h with h1 | ⟨h1, h2, h3⟩
    · exact Or.inl h1
    · exact Or.inr ⟨h1, by omega, h2, h3⟩
/-- the picture's locals as the kit lists them -/
def m_al (g : mG) (ls : List (Option Value)) : List (Nat × Value) := (List.range ls.length).filterMap fun i => match ls[i]? with
  | some (some v) => some (i, m_v g v)
  | _ => none
theorem m_al_in {g : mG} {ls : List (Option Value)} {i : Nat} {v : Value} (h : ls[i]? = some (some v)) : (i, m_v g v) ∈ m_al g ls := by
  unfold m_al
  refine List.mem_filterMap.mpr ⟨i, List.mem_range.mpr (List.getElem?_eq_some_iff.mp h).1, ?_⟩
  rw [h]
theorem m_al_out {g : mG} {ls : List (Option Value)} {q : Nat × Value} (h : q ∈ m_al g ls) : ∃ v, ls[q.1]? = some (some v) ∧ q.2 = m_v g v := by
  unfold m_al at h
  obtain ⟨i, -, h1⟩ := List.mem_filterMap.mp h
  split at h1
  · rename_i v hv
    cases h1
    exact ⟨v, hv, rfl⟩
  · cases h1
theorem m_L_has {g : mG} {nL : Nat} {ls : List (Option Value)} {lsm : Array Slot} (h : m_L g nL ls lsm) : lv_has lsm nL (m_al g ls) := ⟨h.1, h.2.1, fun q hq => by
  obtain ⟨v, h1, h2⟩ := m_al_out hq
  rw [h2]
  exact h.2.2 q.1 v h1⟩
theorem m_L_st1 {g : mG} {nL : Nat} {ls : List (Option Value)} {lsm : Array Slot} {i : Nat} {v : Value} (h : lv_has lsm nL ((i, m_v g v) :: (m_al g ls).filter (fun q => !(q.1 == i) && !(q.1 + 1 == i && q.2.category == 2)))) : m_L g nL (m_st1 ls i v) lsm := by
  refine ⟨h.1, h.2.1, fun j w hj => ?_⟩
  rcases m_st1_at ls i v j w hj with ⟨e1, e2⟩ | ⟨e1, e2, e3⟩
  · subst e1; subst e2
    exact h.2.2 (j, m_v g w) List.mem_cons_self
  · refine h.2.2 (j, m_v g w) (List.mem_cons_of_mem _ (List.mem_filter.mpr ⟨m_al_in e2, ?_⟩))
    rw [m_v_cat]
    by_cases q : j + 1 = i
    · have q2 : ¬ w.category = 2 := fun q2 => e3 ⟨q, q2⟩
      simp [e1, q2]
    · simp [e1, q]
theorem m_L_st2 {g : mG} {nL : Nat} {ls : List (Option Value)} {lsm : Array Slot} {i : Nat} {v : Value} (h : lv_has lsm nL ((i, m_v g v) :: (m_al g ls).filter (fun q => !(q.1 == i) && (!(q.1 == i + 1) && !(q.1 + 1 == i && q.2.category == 2))))) : m_L g nL (m_st2 ls i v) lsm := by
  refine ⟨h.1, h.2.1, fun j w hj => ?_⟩
  rcases m_st2_at hj with ⟨e1, e2⟩ | ⟨e1, e0, e2, e3⟩
  · subst e1; subst e2
    exact h.2.2 (j, m_v g w) List.mem_cons_self
  · refine h.2.2 (j, m_v g w) (List.mem_cons_of_mem _ (List.mem_filter.mpr ⟨m_al_in e2, ?_⟩))
    rw [m_v_cat]
    by_cases q : j + 1 = i
    · have q2 : ¬ w.category = 2 := fun q2 => e3 ⟨q, q2⟩
      simp [e1, e0, q2]
    · simp [e1, e0, q]
/-- fewer locals -/
def m_drop (ls : List (Option Value)) (is : List Nat) : List (Option Value) := match is with
  | [] => ls
  | i :: r => m_drop (ls.set i none) r
theorem m_drop_at : ∀ (is : List Nat) (ls : List (Option Value)) (i : Nat) (v : Value), (m_drop ls is)[i]? = some (some v) → ls[i]? = some (some v)
  | [], _, _, _, h => h
  | k :: r, ls, i, v, h => by
    have h1 := m_drop_at r (ls.set k none) i v h
    rw [List.getElem?_set] at h1
    split at h1
    · split at h1 <;> cases h1
    · exact h1
-- entry
def m_entL (as : List Value) : List (Option Value) := match as with
  | [] => []
  | .long x :: r => some (.long x) :: none :: m_entL r
  | .double x :: r => some (.double x) :: none :: m_entL r
  | v :: r => some v :: m_entL r
def m_ent (nL : Nat) (as : List Value) : List (Option Value) := m_entL as ++ List.replicate (nL - (m_entL as).length) none
theorem m_entL_at (g : mG) : ∀ (as : List Value) (o i : Nat) (v : Value), (m_entL as)[i]? = some (some v) → (o + i, m_v g v) ∈ lv_args o (as.map (m_v g))
  | [], o, i, v, h => by simp [m_entL] at h
  | a :: r, o, i, v, h => by
    have key : ∀ (k : Nat), a.category = k → (k = 2 → m_entL (a :: r) = some a :: none :: m_entL r) ∧ (¬ k = 2 → m_entL (a :: r) = some a :: m_entL r) := by
      intro k hk
      cases a <;> simp [m_entL, Value.category] at hk ⊢ <;> omega
    show (o + i, m_v g v) ∈ (o, m_v g a) :: lv_args (if (m_v g a).category = 2 then o + 2 else o + 1) (r.map (m_v g))
    rw [m_v_cat]
    by_cases hc : a.category = 2
    · rw [(key 2 hc).1 rfl] at h
      rw [if_pos hc]
      match i, h with
      | 0, h =>
        simp at h
        subst h
        exact List.mem_cons_self
      | 1, h => simp at h
      | i + 2, h =>
        have h1 : (m_entL r)[i]? = some (some v) := h
        have := m_entL_at g r (o + 2) i v h1
        rw [show o + (i + 2) = o + 2 + i by omega]
        exact List.mem_cons_of_mem _ this
    · rw [(key _ rfl).2 hc] at h
      rw [if_neg hc]
      match i, h with
      | 0, h =>
        simp at h
        subst h
        exact List.mem_cons_self
      | i + 1, h =>
        have h1 : (m_entL r)[i]? = some (some v) := h
        have := m_entL_at g r (o + 1) i v h1
        rw [show o + (i + 1) = o + 1 + i by omega]
        exact List.mem_cons_of_mem _ this
theorem m_ent_L (g : mG) (nL : Nat) (as : List Value) {lsm : Array Slot} (h : lv_has lsm nL (lv_args 0 (as.map (m_v g)))) : m_L g nL (m_ent nL as) lsm := by
  refine ⟨h.1, h.2.1, fun i v hi => ?_⟩
  unfold m_ent at hi
  by_cases hl : i < (m_entL as).length
  · rw [List.getElem?_append_left hl] at hi
    have := h.2.2 _ (m_entL_at g as 0 i v hi)
    simpa using this
  · rw [List.getElem?_append_right (by omega), List.getElem?_replicate] at hi
    split at hi <;> cases hi

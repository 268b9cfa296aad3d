/-! MINI, the judgement and its plain rows -/
def m_Ctx (g : mG) (J : mJ) (d : Nat) (p : Program) (R : Room) (s : State) (m : MethodId) (args : Array Value) (meth : Method) (c : Code) : Prop :=
  p.tables.exec = Jvm.exec ∧ c.code = J.2.1 ∧ c.maxLocals = J.2.2.1 ∧ s.vm.findClass J.1 = some m.cls ∧ (∀ w ∈ mGood, w.before args s = true) ∧ R.frames = d ∧ 36 * d ≤ R.locals ∧ m_K g s ∧ g.1 ≤ s.heap.size ∧ (J.2.2.2.1 = true → meth.name = "<init>")
def m_ret (r : Option Value) : Instr := match r with
  | none => .return_
  | some (.int _) => .ireturn
  | some (.long _) => .lreturn
  | _ => .areturn
def m_rok (t : Option FieldType) (r : Option Value) : Prop := match t, r with
  | none, none => True
  | some .int, some (.int _) => True
  | some .boolean, some (.int v) => v = 0 ∨ v = 1
  | some .long, some (.long _) => True
  | some (.object _), some (.ref _) => True
  | some (.object _), some .null => True
  | some (.array _), some (.ref _) => True
  | _, _ => False
/-- from this place of the method J, with d frames and b cells and slots to spend, it comes to its end with the answer r and the heap h' -/
def m_W (d : Nat) (b : Nat × Nat) (J : mJ) (pc : Nat) (ls : List (Option Value)) (st : List Value) (h : mH) (r : Option Value) (h' : mH) : Prop :=
  ∀ (g : mG) (p : Program) (l : Launch) (e : Env) (R : Room) (s : State) (m : MethodId) (args : Array Value) (below : List Frame) (meth : Method) (c : Code) (H : Heap) (locs : List Loc) (cells slots : Nat) (Qk : State → Prop) (lsm : Array Slot),
    m_Ctx g J d p R s m args meth c → m_Rel g J s H locs h → m_L g J.2.2.1 ls lsm → cells + b.1 ≤ R.cells → slots + b.2 ≤ R.slots →
    (∀ (pc1 : Nat) (lsm1 : Array Slot) (H1 : Heap) (locs1 : List Loc) (cells1 slots1 : Nat), m_Rel g J s H1 locs1 h' → cells1 ≤ R.cells → slots1 ≤ R.slots → m_rok J.2.2.2.2 r → decode J.2.1 pc1 = .ok (m_ret r, 1) → W p l e R s m args below meth c H1 locs1 cells1 slots1 Qk (F0 m pc1 lsm1 (r.toList.map (m_v g)))) →
    W p l e R s m args below meth c H locs cells slots Qk (F0 m pc lsm (st.map (m_v g)))
def Wm (d : Nat) (b : Nat × Nat) (J : mJ) (pc : Nat) (ls : List (Option Value)) (st : List Value) (h : mH) (Q : Option Value → mH → Prop) : Prop := ∃ (r : Option Value) (h' : mH), Q r h' ∧ m_W d b J pc ls st h r h'
section Rows
variable {d : Nat} {b : Nat × Nat} {J : mJ} {pc : Nat} {ls : List (Option Value)} {st : List Value} {h : mH} {Q : Option Value → mH → Prop}
theorem Wm.mono {Q2 : Option Value → mH → Prop} (k : Wm d b J pc ls st h Q) (hq : ∀ r h', Q r h' → Q2 r h') : Wm d b J pc ls st h Q2 := by
  obtain ⟨r, h', q, w⟩ := k
  exact ⟨r, h', hq r h' q, w⟩
/-- a step that touches the stack alone -/
theorem m_step {pc2 : Nat} {st2 : List Value} (f : ∀ (g : mG) (p : Program) (l : Launch) (e : Env) (R : Room) (s : State) (m : MethodId) (args : Array Value) (below : List Frame) (meth : Method) (c : Code) (H : Heap) (locs : List Loc) (cells slots : Nat) (Qk : State → Prop) (lsm : Array Slot), p.tables.exec = Jvm.exec → c.code = J.2.1 → W p l e R s m args below meth c H locs cells slots Qk (F0 m pc2 lsm (st2.map (m_v g))) → W p l e R s m args below meth c H locs cells slots Qk (F0 m pc lsm (st.map (m_v g))))
    (k : Wm d b J pc2 ls st2 h Q) : Wm d b J pc ls st h Q := by
  obtain ⟨r, h', q, w⟩ := k
  refine ⟨r, h', q, ?_⟩
  intro g p l e R s m args below meth c H locs cells slots Qk lsm C hR hl hc1 hc2 he
  exact f g p l e R s m args below meth c H locs cells slots Qk lsm C.1 C.2.1 (w g p l e R s m args below meth c H locs cells slots Qk lsm C hR hl hc1 hc2 he)
/-- .. and reads a constant of the class's pool -/
theorem m_stepC {pc2 : Nat} {st2 : List Value} (f : ∀ (g : mG) (p : Program) (l : Launch) (e : Env) (R : Room) (s : State) (m : MethodId) (args : Array Value) (below : List Frame) (meth : Method) (c : Code) (H : Heap) (locs : List Loc) (cells slots : Nat) (Qk : State → Prop) (lsm : Array Slot), p.tables.exec = Jvm.exec → c.code = J.2.1 → s.vm.findClass J.1 = some m.cls → (∀ w ∈ mGood, w.before args s = true) → W p l e R s m args below meth c H locs cells slots Qk (F0 m pc2 lsm (st2.map (m_v g))) → W p l e R s m args below meth c H locs cells slots Qk (F0 m pc lsm (st.map (m_v g))))
    (k : Wm d b J pc2 ls st2 h Q) : Wm d b J pc ls st h Q := by
  obtain ⟨r, h', q, w⟩ := k
  refine ⟨r, h', q, ?_⟩
  intro g p l e R s m args below meth c H locs cells slots Qk lsm C hR hl hc1 hc2 he
  exact f g p l e R s m args below meth c H locs cells slots Qk lsm C.1 C.2.1 C.2.2.2.1 C.2.2.2.2.1 (w g p l e R s m args below meth c H locs cells slots Qk lsm C hR hl hc1 hc2 he)
/-- .. and reads a local -/
theorem m_load {pc2 i : Nat} {v : Value} (hl0 : ls[i]? = some (some v)) (f : ∀ (g : mG) (p : Program) (l : Launch) (e : Env) (R : Room) (s : State) (m : MethodId) (args : Array Value) (below : List Frame) (meth : Method) (c : Code) (H : Heap) (locs : List Loc) (cells slots : Nat) (Qk : State → Prop) (lsm : Array Slot), p.tables.exec = Jvm.exec → c.code = J.2.1 → lsm[i]? = some (.val (m_v g v)) → W p l e R s m args below meth c H locs cells slots Qk (F0 m pc2 lsm (m_v g v :: st.map (m_v g))) → W p l e R s m args below meth c H locs cells slots Qk (F0 m pc lsm (st.map (m_v g))))
    (k : Wm d b J pc2 ls (v :: st) h Q) : Wm d b J pc ls st h Q := by
  obtain ⟨r, h', q, w⟩ := k
  refine ⟨r, h', q, ?_⟩
  intro g p l e R s m args below meth c H locs cells slots Qk lsm C hR hl hc1 hc2 he
  exact f g p l e R s m args below meth c H locs cells slots Qk lsm C.1 C.2.1 (hl.2.2 i v hl0) (w g p l e R s m args below meth c H locs cells slots Qk lsm C hR hl hc1 hc2 he)
/-- .. and writes a local of one word -/
theorem m_store1 {pc2 i : Nat} {v : Value} {ls2 : List (Option Value)} (hls : m_st1 ls i v = ls2) (f : ∀ (g : mG) (p : Program) (l : Launch) (e : Env) (R : Room) (s : State) (m : MethodId) (args : Array Value) (below : List Frame) (meth : Method) (c : Code) (H : Heap) (locs : List Loc) (cells slots : Nat) (Qk : State → Prop) (lsm : Array Slot), p.tables.exec = Jvm.exec → c.code = J.2.1 → m_L g J.2.2.1 ls lsm → (∀ ls' : Array Slot, lv_has ls' J.2.2.1 ((i, m_v g v) :: (m_al g ls).filter (fun q => !(q.1 == i) && !(q.1 + 1 == i && q.2.category == 2))) → W p l e R s m args below meth c H locs cells slots Qk (F0 m pc2 ls' (st.map (m_v g)))) → W p l e R s m args below meth c H locs cells slots Qk (F0 m pc lsm (m_v g v :: st.map (m_v g))))
    (k : Wm d b J pc2 ls2 st h Q) : Wm d b J pc ls (v :: st) h Q := by
  obtain ⟨r, h', q, w⟩ := k
  refine ⟨r, h', q, ?_⟩
  intro g p l e R s m args below meth c H locs cells slots Qk lsm C hR hl hc1 hc2 he
  exact f g p l e R s m args below meth c H locs cells slots Qk lsm C.1 C.2.1 hl (fun ls' h2 => w g p l e R s m args below meth c H locs cells slots Qk ls' C hR (hls ▸ m_L_st1 h2) hc1 hc2 he)
theorem m_store2 {pc2 i : Nat} {v : Value} {ls2 : List (Option Value)} (hls : m_st2 ls i v = ls2) (f : ∀ (g : mG) (p : Program) (l : Launch) (e : Env) (R : Room) (s : State) (m : MethodId) (args : Array Value) (below : List Frame) (meth : Method) (c : Code) (H : Heap) (locs : List Loc) (cells slots : Nat) (Qk : State → Prop) (lsm : Array Slot), p.tables.exec = Jvm.exec → c.code = J.2.1 → m_L g J.2.2.1 ls lsm → (∀ ls' : Array Slot, lv_has ls' J.2.2.1 ((i, m_v g v) :: (m_al g ls).filter (fun q => !(q.1 == i) && (!(q.1 == i + 1) && !(q.1 + 1 == i && q.2.category == 2)))) → W p l e R s m args below meth c H locs cells slots Qk (F0 m pc2 ls' (st.map (m_v g)))) → W p l e R s m args below meth c H locs cells slots Qk (F0 m pc lsm (m_v g v :: st.map (m_v g))))
    (k : Wm d b J pc2 ls2 st h Q) : Wm d b J pc ls (v :: st) h Q := by
  obtain ⟨r, h', q, w⟩ := k
  refine ⟨r, h', q, ?_⟩
  intro g p l e R s m args below meth c H locs cells slots Qk lsm C hR hl hc1 hc2 he
  exact f g p l e R s m args below meth c H locs cells slots Qk lsm C.1 C.2.1 hl (fun ls' h2 => w g p l e R s m args below meth c H locs cells slots Qk ls' C hR (hls ▸ m_L_st2 h2) hc1 hc2 he)
/-- fewer locals are known -/
theorem m_wk (is : List Nat) {ls2 : List (Option Value)} (hls : m_drop ls is = ls2) (k : Wm d b J pc ls2 st h Q) : Wm d b J pc ls st h Q := by
  obtain ⟨r, h', q, w⟩ := k
  refine ⟨r, h', q, ?_⟩
  intro g p l e R s m args below meth c H locs cells slots Qk lsm C hR hl hc1 hc2 he
  refine w g p l e R s m args below meth c H locs cells slots Qk lsm C hR ⟨hl.1, hl.2.1, fun i v hi => hl.2.2 i v ?_⟩ hc1 hc2 he
  subst hls
  exact m_drop_at is ls i v hi
/-- less is spent than may be -/
theorem m_bud {b2 : Nat × Nat} (h1 : b2.1 ≤ b.1) (h2 : b2.2 ≤ b.2) (k : Wm d b2 J pc ls st h Q) : Wm d b J pc ls st h Q := by
  obtain ⟨r, h', q, w⟩ := k
  refine ⟨r, h', q, ?_⟩
  intro g p l e R s m args below meth c H locs cells slots Qk lsm C hR hl hc1 hc2 he
  exact w g p l e R s m args below meth c H locs cells slots Qk lsm C hR hl (by omega) (by omega) he
theorem m_iadd {x y : Int32} (hd : decode J.2.1 pc = .ok (.iadd, 1)) (k : Wm d b J (pc + 1) ls (.int (x + y) :: st) h Q) : Wm d b J pc ls (.int y :: .int x :: st) h Q :=
  m_step (fun _ _ _ _ _ _ _ _ _ _ _ _ _ _ _ _ _ hx hb kk => lv_iadd hx hb hd kk) k
theorem m_isub {x y : Int32} (hd : decode J.2.1 pc = .ok (.isub, 1)) (k : Wm d b J (pc + 1) ls (.int (x - y) :: st) h Q) : Wm d b J pc ls (.int y :: .int x :: st) h Q :=
  m_step (fun _ _ _ _ _ _ _ _ _ _ _ _ _ _ _ _ _ hx hb kk => lv_isub hx hb hd kk) k
theorem m_imul {x y : Int32} (hd : decode J.2.1 pc = .ok (.imul, 1)) (k : Wm d b J (pc + 1) ls (.int (x * y) :: st) h Q) : Wm d b J pc ls (.int y :: .int x :: st) h Q :=
  m_step (fun _ _ _ _ _ _ _ _ _ _ _ _ _ _ _ _ _ hx hb kk => lv_imul hx hb hd kk) k
theorem m_iand {x y : Int32} (hd : decode J.2.1 pc = .ok (.iand, 1)) (k : Wm d b J (pc + 1) ls (.int (x &&& y) :: st) h Q) : Wm d b J pc ls (.int y :: .int x :: st) h Q :=
  m_step (fun _ _ _ _ _ _ _ _ _ _ _ _ _ _ _ _ _ hx hb kk => lv_iand hx hb hd kk) k
theorem m_ior {x y : Int32} (hd : decode J.2.1 pc = .ok (.ior, 1)) (k : Wm d b J (pc + 1) ls (.int (x ||| y) :: st) h Q) : Wm d b J pc ls (.int y :: .int x :: st) h Q :=
  m_step (fun _ _ _ _ _ _ _ _ _ _ _ _ _ _ _ _ _ hx hb kk => lv_ior hx hb hd kk) k
theorem m_idiv {x y : Int32} (hd : decode J.2.1 pc = .ok (.idiv, 1)) (hne : ¬ y = 0) (k : Wm d b J (pc + 1) ls (.int (x / y) :: st) h Q) : Wm d b J pc ls (.int y :: .int x :: st) h Q :=
  m_step (fun _ _ _ _ _ _ _ _ _ _ _ _ _ _ _ _ _ hx hb kk => lv_idiv hx hb hd hne kk) k
theorem m_irem {x y : Int32} (hd : decode J.2.1 pc = .ok (.irem, 1)) (hne : ¬ y = 0) (k : Wm d b J (pc + 1) ls (.int (x - x / y * y) :: st) h Q) : Wm d b J pc ls (.int y :: .int x :: st) h Q :=
  m_step (fun _ _ _ _ _ _ _ _ _ _ _ _ _ _ _ _ _ hx hb kk => lv_irem hx hb hd hne kk) k
theorem m_ineg {x : Int32} (hd : decode J.2.1 pc = .ok (.ineg, 1)) (k : Wm d b J (pc + 1) ls (.int (-x) :: st) h Q) : Wm d b J pc ls (.int x :: st) h Q :=
  m_step (fun _ _ _ _ _ _ _ _ _ _ _ _ _ _ _ _ _ hx hb kk => lv_ineg hx hb hd kk) k
theorem m_ishl {x y : Int32} (hd : decode J.2.1 pc = .ok (.ishl, 1)) (k : Wm d b J (pc + 1) ls (.int (x <<< (y &&& 31)) :: st) h Q) : Wm d b J pc ls (.int y :: .int x :: st) h Q :=
  m_step (fun _ _ _ _ _ _ _ _ _ _ _ _ _ _ _ _ _ hx hb kk => lv_ishl hx hb hd kk) k
theorem m_ishr {x y : Int32} (hd : decode J.2.1 pc = .ok (.ishr, 1)) (k : Wm d b J (pc + 1) ls (.int (x >>> (y &&& 31)) :: st) h Q) : Wm d b J pc ls (.int y :: .int x :: st) h Q :=
  m_step (fun _ _ _ _ _ _ _ _ _ _ _ _ _ _ _ _ _ hx hb kk => lv_ishr hx hb hd kk) k
theorem m_iushr {x y : Int32} (hd : decode J.2.1 pc = .ok (.iushr, 1)) (k : Wm d b J (pc + 1) ls (.int (x.toUInt32 >>> (y.toUInt32 &&& Int32.toUInt32 31)).toInt32 :: st) h Q) : Wm d b J pc ls (.int y :: .int x :: st) h Q :=
  m_step (fun _ _ _ _ _ _ _ _ _ _ _ _ _ _ _ _ _ hx hb kk => lv_iushr hx hb hd rfl kk) k
theorem m_ladd {x y : Int64} (hd : decode J.2.1 pc = .ok (.ladd, 1)) (k : Wm d b J (pc + 1) ls (.long (x + y) :: st) h Q) : Wm d b J pc ls (.long y :: .long x :: st) h Q :=
  m_step (fun _ _ _ _ _ _ _ _ _ _ _ _ _ _ _ _ _ hx hb kk => lv_ladd hx hb hd kk) k
theorem m_lsub {x y : Int64} (hd : decode J.2.1 pc = .ok (.lsub, 1)) (k : Wm d b J (pc + 1) ls (.long (x - y) :: st) h Q) : Wm d b J pc ls (.long y :: .long x :: st) h Q :=
  m_step (fun _ _ _ _ _ _ _ _ _ _ _ _ _ _ _ _ _ hx hb kk => lv_lsub hx hb hd kk) k
theorem m_lmul {x y : Int64} (hd : decode J.2.1 pc = .ok (.lmul, 1)) (k : Wm d b J (pc + 1) ls (.long (x * y) :: st) h Q) : Wm d b J pc ls (.long y :: .long x :: st) h Q :=
  m_step (fun _ _ _ _ _ _ _ _ _ _ _ _ _ _ _ _ _ hx hb kk => lv_lmul hx hb hd kk) k
theorem m_lor {x y : Int64} (hd : decode J.2.1 pc = .ok (.lor, 1)) (k : Wm d b J (pc + 1) ls (.long (x ||| y) :: st) h Q) : Wm d b J pc ls (.long y :: .long x :: st) h Q :=
  m_step (fun _ _ _ _ _ _ _ _ _ _ _ _ _ _ _ _ _ hx hb kk => lv_lor hx hb hd kk) k
theorem m_lushr {x : Int64} {y : Int32} (hd : decode J.2.1 pc = .ok (.lushr, 1)) (k : Wm d b J (pc + 1) ls (.long (x.toUInt64 >>> (y.toInt64.toUInt64 &&& Int64.toUInt64 63)).toInt64 :: st) h Q) : Wm d b J pc ls (.int y :: .long x :: st) h Q :=
  m_step (fun _ _ _ _ _ _ _ _ _ _ _ _ _ _ _ _ _ hx hb kk => lv_lushr hx hb hd rfl kk) k
theorem m_lshl {x : Int64} {y : Int32} (hd : decode J.2.1 pc = .ok (.lshl, 1)) (k : Wm d b J (pc + 1) ls (.long (x <<< (y.toInt64 &&& 63)) :: st) h Q) : Wm d b J pc ls (.int y :: .long x :: st) h Q :=
  m_step (fun _ _ _ _ _ _ _ _ _ _ _ _ _ _ _ _ _ hx hb kk => lv_lshl hx hb hd rfl kk) k
theorem m_lcmp {x y : Int64} (hd : decode J.2.1 pc = .ok (.lcmp, 1)) (k : Wm d b J (pc + 1) ls (.int (lg_cmp x y) :: st) h Q) : Wm d b J pc ls (.long y :: .long x :: st) h Q :=
  m_step (fun _ _ _ _ _ _ _ _ _ _ _ _ _ _ _ _ _ hx hb kk => W.lcmp hx hb hd kk) k
theorem m_i2l {x : Int32} (hd : decode J.2.1 pc = .ok (.i2l, 1)) (k : Wm d b J (pc + 1) ls (.long x.toInt64 :: st) h Q) : Wm d b J pc ls (.int x :: st) h Q :=
  m_step (fun _ _ _ _ _ _ _ _ _ _ _ _ _ _ _ _ _ hx hb kk => lv_i2l hx hb hd rfl kk) k
theorem m_l2i {x : Int64} (hd : decode J.2.1 pc = .ok (.l2i, 1)) (k : Wm d b J (pc + 1) ls (.int x.toInt32 :: st) h Q) : Wm d b J pc ls (.long x :: st) h Q :=
  m_step (fun _ _ _ _ _ _ _ _ _ _ _ _ _ _ _ _ _ hx hb kk => lv_l2i hx hb hd rfl kk) k
theorem m_i2b {x : Int32} (hd : decode J.2.1 pc = .ok (.i2b, 1)) (k : Wm d b J (pc + 1) ls (.int x.toInt8.toInt32 :: st) h Q) : Wm d b J pc ls (.int x :: st) h Q :=
  m_step (fun _ _ _ _ _ _ _ _ _ _ _ _ _ _ _ _ _ hx hb kk => lv_i2b hx hb hd rfl kk) k
theorem m_i2s {x : Int32} (hd : decode J.2.1 pc = .ok (.i2s, 1)) (k : Wm d b J (pc + 1) ls (.int x.toInt16.toInt32 :: st) h Q) : Wm d b J pc ls (.int x :: st) h Q :=
  m_step (fun _ _ _ _ _ _ _ _ _ _ _ _ _ _ _ _ _ hx hb kk => lv_i2s hx hb hd rfl kk) k
theorem m_null  (hd : decode J.2.1 pc = .ok (.aconst_null, 1)) (k : Wm d b J (pc + 1) ls (.null :: st) h Q) : Wm d b J pc ls (st) h Q :=
  m_step (fun _ _ _ _ _ _ _ _ _ _ _ _ _ _ _ _ _ hx hb kk => lv_null hx hb hd kk) k
theorem m_dup {v : Value} (hd : decode J.2.1 pc = .ok (.dup, 1)) (hv : v.category = 1) (k : Wm d b J (pc + 1) ls (v :: v :: st) h Q) : Wm d b J pc ls (v :: st) h Q :=
  m_step (fun g _ _ _ _ _ _ _ _ _ _ _ _ _ _ _ _ hx hb kk => lv_dup hx hb hd (by rw [m_v_cat]; exact hv) kk) k
theorem m_pop {v : Value} (hd : decode J.2.1 pc = .ok (.pop, 1)) (hv : v.category = 1) (k : Wm d b J (pc + 1) ls st h Q) : Wm d b J pc ls (v :: st) h Q :=
  m_step (fun g _ _ _ _ _ _ _ _ _ _ _ _ _ _ _ _ hx hb kk => lv_pop hx hb hd (by rw [m_v_cat]; exact hv) kk) k
theorem m_iconst {n : Int} {v : Int32} (hd : decode J.2.1 pc = .ok (.iconst n, 1)) (hv : Int32.ofInt n = v) (k : Wm d b J (pc + 1) ls (.int v :: st) h Q) : Wm d b J pc ls st h Q :=
  m_step (fun _ _ _ _ _ _ _ _ _ _ _ _ _ _ _ _ _ hx hb kk => lv_iconst hx hb hd hv kk) k
theorem m_bipush {n : Int} {v : Int32} (hd : decode J.2.1 pc = .ok (.bipush n, 2)) (hv : (Int8.ofInt n).toInt32 = v) (k : Wm d b J (pc + 2) ls (.int v :: st) h Q) : Wm d b J pc ls st h Q :=
  m_step (fun _ _ _ _ _ _ _ _ _ _ _ _ _ _ _ _ _ hx hb kk => lv_bipush hx hb hd hv kk) k
theorem m_sipush {n : Int} {v : Int32} (hd : decode J.2.1 pc = .ok (.sipush n, 3)) (hv : (Int16.ofInt n).toInt32 = v) (k : Wm d b J (pc + 3) ls (.int v :: st) h Q) : Wm d b J pc ls st h Q :=
  m_step (fun _ _ _ _ _ _ _ _ _ _ _ _ _ _ _ _ _ hx hb kk => lv_sipush hx hb hd hv kk) k
theorem m_lconst {n : Fin 2} {v : Int64} (hd : decode J.2.1 pc = .ok (.lconst n, 1)) (hv : Int64.ofNat (n : Nat) = v) (k : Wm d b J (pc + 1) ls (.long v :: st) h Q) : Wm d b J pc ls st h Q :=
  m_step (fun _ _ _ _ _ _ _ _ _ _ _ _ _ _ _ _ _ hx hb kk => lv_lconst hx hb hd hv kk) k
theorem m_ldc {idx : Nat} {v : Int32} (hd : decode J.2.1 pc = .ok (.ldc idx, 2)) (hw : Cond.constant J.1 idx v ∈ mGood) (k : Wm d b J (pc + 2) ls (.int v :: st) h Q) : Wm d b J pc ls st h Q :=
  m_stepC (fun _ _ _ _ _ _ _ _ _ _ _ _ _ _ _ _ _ hx hb ho hts kk => lv_ldc hx hb ho (hts _ hw) hd kk) k
theorem m_ldc_w {idx : Nat} {v : Int32} (hd : decode J.2.1 pc = .ok (.ldc_w idx, 3)) (hw : Cond.constant J.1 idx v ∈ mGood) (k : Wm d b J (pc + 3) ls (.int v :: st) h Q) : Wm d b J pc ls st h Q :=
  m_stepC (fun _ _ _ _ _ _ _ _ _ _ _ _ _ _ _ _ _ hx hb ho hts kk => lv_ldcw hx hb ho (hts _ hw) hd kk) k
theorem m_ldc2_w {idx : Nat} {v : Int64} (hd : decode J.2.1 pc = .ok (.ldc2_w idx, 3)) (hw : Cond.constantLong J.1 idx v ∈ mGood) (k : Wm d b J (pc + 3) ls (.long v :: st) h Q) : Wm d b J pc ls st h Q :=
  m_stepC (fun _ _ _ _ _ _ _ _ _ _ _ _ _ _ _ _ _ hx hb ho hts kk => lv_ldc2 hx hb ho (hts _ hw) hd kk) k
theorem m_iload {i : Nat} {x : Int32} (hd : decode J.2.1 pc = .ok (.iload i, 2)) (hl : ls[i]? = some (some (.int x))) (k : Wm d b J (pc + 2) ls (.int x :: st) h Q) : Wm d b J pc ls st h Q :=
  m_load hl (fun _ _ _ _ _ _ _ _ _ _ _ _ _ _ _ _ _ hx hb hl kk => lv_iload hx hb hd hl kk) k
theorem m_iload_n {i : Fin 4} {x : Int32} (hd : decode J.2.1 pc = .ok (.iload_n i, 1)) (hl : ls[(i : Nat)]? = some (some (.int x))) (k : Wm d b J (pc + 1) ls (.int x :: st) h Q) : Wm d b J pc ls st h Q :=
  m_load hl (fun _ _ _ _ _ _ _ _ _ _ _ _ _ _ _ _ _ hx hb hl kk => lv_iload_n hx hb hd rfl hl kk) k
theorem m_lload {i : Nat} {x : Int64} (hd : decode J.2.1 pc = .ok (.lload i, 2)) (hl : ls[i]? = some (some (.long x))) (k : Wm d b J (pc + 2) ls (.long x :: st) h Q) : Wm d b J pc ls st h Q :=
  m_load hl (fun _ _ _ _ _ _ _ _ _ _ _ _ _ _ _ _ _ hx hb hl kk => lv_lload hx hb hd hl kk) k
theorem m_lload_n {i : Fin 4} {x : Int64} (hd : decode J.2.1 pc = .ok (.lload_n i, 1)) (hl : ls[(i : Nat)]? = some (some (.long x))) (k : Wm d b J (pc + 1) ls (.long x :: st) h Q) : Wm d b J pc ls st h Q :=
  m_load hl (fun _ _ _ _ _ _ _ _ _ _ _ _ _ _ _ _ _ hx hb hl kk => lv_lload_n hx hb hd rfl hl kk) k
theorem m_aload {i : Nat} {x : Nat} (hd : decode J.2.1 pc = .ok (.aload i, 2)) (hl : ls[i]? = some (some (.ref x))) (k : Wm d b J (pc + 2) ls (.ref x :: st) h Q) : Wm d b J pc ls st h Q :=
  m_load hl (fun _ _ _ _ _ _ _ _ _ _ _ _ _ _ _ _ _ hx hb hl kk => lv_aload hx hb hd hl kk) k
theorem m_aload_n {i : Fin 4} {x : Nat} (hd : decode J.2.1 pc = .ok (.aload_n i, 1)) (hl : ls[(i : Nat)]? = some (some (.ref x))) (k : Wm d b J (pc + 1) ls (.ref x :: st) h Q) : Wm d b J pc ls st h Q :=
  m_load hl (fun _ _ _ _ _ _ _ _ _ _ _ _ _ _ _ _ _ hx hb hl kk => lv_aload_n hx hb hd rfl hl kk) k
theorem m_aloadN {i : Nat} (hd : decode J.2.1 pc = .ok (.aload i, 2)) (hl : ls[i]? = some (some .null)) (k : Wm d b J (pc + 2) ls (.null :: st) h Q) : Wm d b J pc ls st h Q :=
  m_load hl (fun _ _ _ _ _ _ _ _ _ _ _ _ _ _ _ _ _ hx hb hl kk => lv_aloadN hx hb hd hl kk) k
theorem m_aload_nN {i : Fin 4} (hd : decode J.2.1 pc = .ok (.aload_n i, 1)) (hl : ls[(i : Nat)]? = some (some .null)) (k : Wm d b J (pc + 1) ls (.null :: st) h Q) : Wm d b J pc ls st h Q :=
  m_load hl (fun _ _ _ _ _ _ _ _ _ _ _ _ _ _ _ _ _ hx hb hl kk => lv_aload_nN hx hb hd rfl hl kk) k
theorem m_istore {i : Nat} {x : Int32} {ls2 : List (Option Value)} (hd : decode J.2.1 pc = .ok (.istore i, 2)) (hn : i < J.2.2.1) (hls : m_st1 ls i (.int x) = ls2) (k : Wm d b J (pc + 2) ls2 st h Q) : Wm d b J pc ls (.int x :: st) h Q :=
  m_store1 hls (fun _ _ _ _ _ _ _ _ _ _ _ _ _ _ _ _ _ hx hb hl kk => lv_istore hx hb hd (m_L_has hl) hn rfl kk) k
theorem m_istore_n {i : Fin 4} {x : Int32} {ls2 : List (Option Value)} (hd : decode J.2.1 pc = .ok (.istore_n i, 1)) (hn : (i : Nat) < J.2.2.1) (hls : m_st1 ls (i : Nat) (.int x) = ls2) (k : Wm d b J (pc + 1) ls2 st h Q) : Wm d b J pc ls (.int x :: st) h Q :=
  m_store1 hls (fun _ _ _ _ _ _ _ _ _ _ _ _ _ _ _ _ _ hx hb hl kk => lv_istore_n hx hb hd rfl (m_L_has hl) hn rfl kk) k
theorem m_astore {i : Nat} {x : Nat} {ls2 : List (Option Value)} (hd : decode J.2.1 pc = .ok (.astore i, 2)) (hn : i < J.2.2.1) (hls : m_st1 ls i (.ref x) = ls2) (k : Wm d b J (pc + 2) ls2 st h Q) : Wm d b J pc ls (.ref x :: st) h Q :=
  m_store1 hls (fun _ _ _ _ _ _ _ _ _ _ _ _ _ _ _ _ _ hx hb hl kk => lv_astore hx hb hd (m_L_has hl) hn rfl kk) k
theorem m_astore_n {i : Fin 4} {x : Nat} {ls2 : List (Option Value)} (hd : decode J.2.1 pc = .ok (.astore_n i, 1)) (hn : (i : Nat) < J.2.2.1) (hls : m_st1 ls (i : Nat) (.ref x) = ls2) (k : Wm d b J (pc + 1) ls2 st h Q) : Wm d b J pc ls (.ref x :: st) h Q :=
  m_store1 hls (fun _ _ _ _ _ _ _ _ _ _ _ _ _ _ _ _ _ hx hb hl kk => lv_astore_n hx hb hd rfl (m_L_has hl) hn rfl kk) k
theorem m_astoreN {i : Nat} {ls2 : List (Option Value)} (hd : decode J.2.1 pc = .ok (.astore i, 2)) (hn : i < J.2.2.1) (hls : m_st1 ls i .null = ls2) (k : Wm d b J (pc + 2) ls2 st h Q) : Wm d b J pc ls (.null :: st) h Q :=
  m_store1 hls (fun _ _ _ _ _ _ _ _ _ _ _ _ _ _ _ _ _ hx hb hl kk => lv_astoreN hx hb hd (m_L_has hl) hn rfl kk) k
theorem m_astore_nN {i : Fin 4} {ls2 : List (Option Value)} (hd : decode J.2.1 pc = .ok (.astore_n i, 1)) (hn : (i : Nat) < J.2.2.1) (hls : m_st1 ls (i : Nat) .null = ls2) (k : Wm d b J (pc + 1) ls2 st h Q) : Wm d b J pc ls (.null :: st) h Q :=
  m_store1 hls (fun _ _ _ _ _ _ _ _ _ _ _ _ _ _ _ _ _ hx hb hl kk => lv_astore_nN hx hb hd rfl (m_L_has hl) hn rfl kk) k
theorem m_lstore {i : Nat} {x : Int64} {ls2 : List (Option Value)} (hd : decode J.2.1 pc = .ok (.lstore i, 2)) (hn : i + 1 < J.2.2.1) (hls : m_st2 ls i (.long x) = ls2) (k : Wm d b J (pc + 2) ls2 st h Q) : Wm d b J pc ls (.long x :: st) h Q :=
  m_store2 hls (fun _ _ _ _ _ _ _ _ _ _ _ _ _ _ _ _ _ hx hb hl kk => lv_lstore hx hb hd (m_L_has hl) hn rfl kk) k
theorem m_lstore_n {i : Fin 4} {x : Int64} {ls2 : List (Option Value)} (hd : decode J.2.1 pc = .ok (.lstore_n i, 1)) (hn : (i : Nat) + 1 < J.2.2.1) (hls : m_st2 ls (i : Nat) (.long x) = ls2) (k : Wm d b J (pc + 1) ls2 st h Q) : Wm d b J pc ls (.long x :: st) h Q :=
  m_store2 hls (fun _ _ _ _ _ _ _ _ _ _ _ _ _ _ _ _ _ hx hb hl kk => lv_lstore_n hx hb hd rfl (m_L_has hl) hn rfl kk) k
theorem m_iinc {i : Nat} {n : Int} {x v : Int32} {ls2 : List (Option Value)} (hd : decode J.2.1 pc = .ok (.iinc i n, 3)) (hn : i < J.2.2.1) (hl0 : ls[i]? = some (some (.int x))) (hv : x + Int32.ofInt n = v) (hls : m_st1 ls i (.int v) = ls2) (k : Wm d b J (pc + 3) ls2 st h Q) : Wm d b J pc ls st h Q := by
  obtain ⟨r, h', q, w⟩ := k
  refine ⟨r, h', q, ?_⟩
  intro g p l e R s m args below meth c H locs cells slots Qk lsm C hR hl hc1 hc2 he
  obtain ⟨k0, hk0⟩ := List.getElem?_of_mem (m_al_in (g := g) hl0)
  exact lv_iinc C.1 C.2.1 hd (m_L_has hl) hk0 hv hn rfl (fun ls' h2 => w g p l e R s m args below meth c H locs cells slots Qk ls' C hR (hls ▸ m_L_st1 (v := .int v) h2) hc1 hc2 he)
theorem m_goto {off : Int} (tgt : Nat) (hd : decode J.2.1 pc = .ok (.goto off, 3)) (ht : (pc : Int) + off = (tgt : Int)) (k : Wm d b J tgt ls st h Q) : Wm d b J pc ls st h Q :=
  m_step (fun _ _ _ _ _ _ _ _ _ _ _ _ _ _ _ _ _ hx hb kk => lv_goto hx hb hd ht kk) k
theorem m_if_eq {x : Int32} {off : Int} (tgt : Nat) (hd : decode J.2.1 pc = .ok (.ifCond .eq off, 3)) (ht : (pc : Int) + off = (tgt : Int)) (kt : x = 0 → Wm d b J tgt ls st h Q) (kf : ¬ (x = 0) → Wm d b J (pc + 3) ls st h Q) : Wm d b J pc ls (.int x :: st) h Q := by
  by_cases hP : ¬ (x = 0)
  · exact m_step (fun _ _ _ _ _ _ _ _ _ _ _ _ _ _ _ _ _ hx hb kk => lv_if_eq hx hb hd ht (fun q => absurd q hP) (fun _ => kk)) (kf hP)
  · exact m_step (fun _ _ _ _ _ _ _ _ _ _ _ _ _ _ _ _ _ hx hb kk => lv_if_eq hx hb hd ht (fun _ => kk) (fun q => absurd q hP)) (kt (Classical.not_not.mp hP))
theorem m_icmp_eq {x y : Int32} {off : Int} (tgt : Nat) (hd : decode J.2.1 pc = .ok (.if_icmp .eq off, 3)) (ht : (pc : Int) + off = (tgt : Int)) (kt : x = y → Wm d b J tgt ls st h Q) (kf : ¬ (x = y) → Wm d b J (pc + 3) ls st h Q) : Wm d b J pc ls (.int y :: .int x :: st) h Q := by
  by_cases hP : ¬ (x = y)
  · exact m_step (fun _ _ _ _ _ _ _ _ _ _ _ _ _ _ _ _ _ hx hb kk => lv_icmp_eq hx hb hd ht (fun q => absurd q hP) (fun _ => kk)) (kf hP)
  · exact m_step (fun _ _ _ _ _ _ _ _ _ _ _ _ _ _ _ _ _ hx hb kk => lv_icmp_eq hx hb hd ht (fun _ => kk) (fun q => absurd q hP)) (kt (Classical.not_not.mp hP))
theorem m_if_ne {x : Int32} {off : Int} (tgt : Nat) (hd : decode J.2.1 pc = .ok (.ifCond .ne off, 3)) (ht : (pc : Int) + off = (tgt : Int)) (kt : ¬ x = 0 → Wm d b J tgt ls st h Q) (kf : x = 0 → Wm d b J (pc + 3) ls st h Q) : Wm d b J pc ls (.int x :: st) h Q := by
  by_cases hP : x = 0
  · exact m_step (fun _ _ _ _ _ _ _ _ _ _ _ _ _ _ _ _ _ hx hb kk => lv_if_ne hx hb hd ht (fun q => absurd hP q) (fun _ => kk)) (kf hP)
  · exact m_step (fun _ _ _ _ _ _ _ _ _ _ _ _ _ _ _ _ _ hx hb kk => lv_if_ne hx hb hd ht (fun _ => kk) (fun q => absurd q hP)) (kt hP)
theorem m_icmp_ne {x y : Int32} {off : Int} (tgt : Nat) (hd : decode J.2.1 pc = .ok (.if_icmp .ne off, 3)) (ht : (pc : Int) + off = (tgt : Int)) (kt : ¬ x = y → Wm d b J tgt ls st h Q) (kf : x = y → Wm d b J (pc + 3) ls st h Q) : Wm d b J pc ls (.int y :: .int x :: st) h Q := by
  by_cases hP : x = y
  · exact m_step (fun _ _ _ _ _ _ _ _ _ _ _ _ _ _ _ _ _ hx hb kk => lv_icmp_ne hx hb hd ht (fun q => absurd hP q) (fun _ => kk)) (kf hP)
  · exact m_step (fun _ _ _ _ _ _ _ _ _ _ _ _ _ _ _ _ _ hx hb kk => lv_icmp_ne hx hb hd ht (fun _ => kk) (fun q => absurd q hP)) (kt hP)
theorem m_if_lt {x : Int32} {off : Int} (tgt : Nat) (hd : decode J.2.1 pc = .ok (.ifCond .lt off, 3)) (ht : (pc : Int) + off = (tgt : Int)) (kt : x < 0 → Wm d b J tgt ls st h Q) (kf : ¬ (x < 0) → Wm d b J (pc + 3) ls st h Q) : Wm d b J pc ls (.int x :: st) h Q := by
  by_cases hP : ¬ (x < 0)
  · exact m_step (fun _ _ _ _ _ _ _ _ _ _ _ _ _ _ _ _ _ hx hb kk => lv_if_lt hx hb hd ht (fun q => absurd q hP) (fun _ => kk)) (kf hP)
  · exact m_step (fun _ _ _ _ _ _ _ _ _ _ _ _ _ _ _ _ _ hx hb kk => lv_if_lt hx hb hd ht (fun _ => kk) (fun q => absurd q hP)) (kt (Classical.not_not.mp hP))
theorem m_icmp_lt {x y : Int32} {off : Int} (tgt : Nat) (hd : decode J.2.1 pc = .ok (.if_icmp .lt off, 3)) (ht : (pc : Int) + off = (tgt : Int)) (kt : x < y → Wm d b J tgt ls st h Q) (kf : ¬ (x < y) → Wm d b J (pc + 3) ls st h Q) : Wm d b J pc ls (.int y :: .int x :: st) h Q := by
  by_cases hP : ¬ (x < y)
  · exact m_step (fun _ _ _ _ _ _ _ _ _ _ _ _ _ _ _ _ _ hx hb kk => lv_icmp_lt hx hb hd ht (fun q => absurd q hP) (fun _ => kk)) (kf hP)
  · exact m_step (fun _ _ _ _ _ _ _ _ _ _ _ _ _ _ _ _ _ hx hb kk => lv_icmp_lt hx hb hd ht (fun _ => kk) (fun q => absurd q hP)) (kt (Classical.not_not.mp hP))
theorem m_if_ge {x : Int32} {off : Int} (tgt : Nat) (hd : decode J.2.1 pc = .ok (.ifCond .ge off, 3)) (ht : (pc : Int) + off = (tgt : Int)) (kt : 0 ≤ x → Wm d b J tgt ls st h Q) (kf : ¬ (0 ≤ x) → Wm d b J (pc + 3) ls st h Q) : Wm d b J pc ls (.int x :: st) h Q := by
  by_cases hP : ¬ (0 ≤ x)
  · exact m_step (fun _ _ _ _ _ _ _ _ _ _ _ _ _ _ _ _ _ hx hb kk => lv_if_ge hx hb hd ht (fun q => absurd q hP) (fun _ => kk)) (kf hP)
  · exact m_step (fun _ _ _ _ _ _ _ _ _ _ _ _ _ _ _ _ _ hx hb kk => lv_if_ge hx hb hd ht (fun _ => kk) (fun q => absurd q hP)) (kt (Classical.not_not.mp hP))
theorem m_icmp_ge {x y : Int32} {off : Int} (tgt : Nat) (hd : decode J.2.1 pc = .ok (.if_icmp .ge off, 3)) (ht : (pc : Int) + off = (tgt : Int)) (kt : y ≤ x → Wm d b J tgt ls st h Q) (kf : ¬ (y ≤ x) → Wm d b J (pc + 3) ls st h Q) : Wm d b J pc ls (.int y :: .int x :: st) h Q := by
  by_cases hP : ¬ (y ≤ x)
  · exact m_step (fun _ _ _ _ _ _ _ _ _ _ _ _ _ _ _ _ _ hx hb kk => lv_icmp_ge hx hb hd ht (fun q => absurd q hP) (fun _ => kk)) (kf hP)
  · exact m_step (fun _ _ _ _ _ _ _ _ _ _ _ _ _ _ _ _ _ hx hb kk => lv_icmp_ge hx hb hd ht (fun _ => kk) (fun q => absurd q hP)) (kt (Classical.not_not.mp hP))
theorem m_if_gt {x : Int32} {off : Int} (tgt : Nat) (hd : decode J.2.1 pc = .ok (.ifCond .gt off, 3)) (ht : (pc : Int) + off = (tgt : Int)) (kt : 0 < x → Wm d b J tgt ls st h Q) (kf : ¬ (0 < x) → Wm d b J (pc + 3) ls st h Q) : Wm d b J pc ls (.int x :: st) h Q := by
  by_cases hP : ¬ (0 < x)
  · exact m_step (fun _ _ _ _ _ _ _ _ _ _ _ _ _ _ _ _ _ hx hb kk => lv_if_gt hx hb hd ht (fun q => absurd q hP) (fun _ => kk)) (kf hP)
  · exact m_step (fun _ _ _ _ _ _ _ _ _ _ _ _ _ _ _ _ _ hx hb kk => lv_if_gt hx hb hd ht (fun _ => kk) (fun q => absurd q hP)) (kt (Classical.not_not.mp hP))
theorem m_icmp_gt {x y : Int32} {off : Int} (tgt : Nat) (hd : decode J.2.1 pc = .ok (.if_icmp .gt off, 3)) (ht : (pc : Int) + off = (tgt : Int)) (kt : y < x → Wm d b J tgt ls st h Q) (kf : ¬ (y < x) → Wm d b J (pc + 3) ls st h Q) : Wm d b J pc ls (.int y :: .int x :: st) h Q := by
  by_cases hP : ¬ (y < x)
  · exact m_step (fun _ _ _ _ _ _ _ _ _ _ _ _ _ _ _ _ _ hx hb kk => lv_icmp_gt hx hb hd ht (fun q => absurd q hP) (fun _ => kk)) (kf hP)
  · exact m_step (fun _ _ _ _ _ _ _ _ _ _ _ _ _ _ _ _ _ hx hb kk => lv_icmp_gt hx hb hd ht (fun _ => kk) (fun q => absurd q hP)) (kt (Classical.not_not.mp hP))
theorem m_if_le {x : Int32} {off : Int} (tgt : Nat) (hd : decode J.2.1 pc = .ok (.ifCond .le off, 3)) (ht : (pc : Int) + off = (tgt : Int)) (kt : x ≤ 0 → Wm d b J tgt ls st h Q) (kf : ¬ (x ≤ 0) → Wm d b J (pc + 3) ls st h Q) : Wm d b J pc ls (.int x :: st) h Q := by
  by_cases hP : ¬ (x ≤ 0)
  · exact m_step (fun _ _ _ _ _ _ _ _ _ _ _ _ _ _ _ _ _ hx hb kk => lv_if_le hx hb hd ht (fun q => absurd q hP) (fun _ => kk)) (kf hP)
  · exact m_step (fun _ _ _ _ _ _ _ _ _ _ _ _ _ _ _ _ _ hx hb kk => lv_if_le hx hb hd ht (fun _ => kk) (fun q => absurd q hP)) (kt (Classical.not_not.mp hP))
theorem m_icmp_le {x y : Int32} {off : Int} (tgt : Nat) (hd : decode J.2.1 pc = .ok (.if_icmp .le off, 3)) (ht : (pc : Int) + off = (tgt : Int)) (kt : x ≤ y → Wm d b J tgt ls st h Q) (kf : ¬ (x ≤ y) → Wm d b J (pc + 3) ls st h Q) : Wm d b J pc ls (.int y :: .int x :: st) h Q := by
  by_cases hP : ¬ (x ≤ y)
  · exact m_step (fun _ _ _ _ _ _ _ _ _ _ _ _ _ _ _ _ _ hx hb kk => lv_icmp_le hx hb hd ht (fun q => absurd q hP) (fun _ => kk)) (kf hP)
  · exact m_step (fun _ _ _ _ _ _ _ _ _ _ _ _ _ _ _ _ _ hx hb kk => lv_icmp_le hx hb hd ht (fun _ => kk) (fun q => absurd q hP)) (kt (Classical.not_not.mp hP))
theorem m_ifnonnull {x : Nat} {off : Int} (tgt : Nat) (hd : decode J.2.1 pc = .ok (.ifnonnull off, 3)) (ht : (pc : Int) + off = (tgt : Int)) (k : Wm d b J tgt ls st h Q) : Wm d b J pc ls (.ref x :: st) h Q :=
  m_step (fun _ _ _ _ _ _ _ _ _ _ _ _ _ _ _ _ _ hx hb kk => lv_ifnonnull hx hb hd ht kk) k
theorem m_ifnonnullN {off : Int} (hd : decode J.2.1 pc = .ok (.ifnonnull off, 3)) (k : Wm d b J (pc + 3) ls st h Q) : Wm d b J pc ls (.null :: st) h Q :=
  m_step (fun _ _ _ _ _ _ _ _ _ _ _ _ _ _ _ _ _ hx hb kk => lv_ifnonnullN hx hb hd kk) k
theorem m_ifnull {x : Nat} {off : Int} (hd : decode J.2.1 pc = .ok (.ifnull off, 3)) (k : Wm d b J (pc + 3) ls st h Q) : Wm d b J pc ls (.ref x :: st) h Q :=
  m_step (fun _ _ _ _ _ _ _ _ _ _ _ _ _ _ _ _ _ hx hb kk => lv_ifnull hx hb hd kk) k
theorem m_ifnullN {off : Int} (tgt : Nat) (hd : decode J.2.1 pc = .ok (.ifnull off, 3)) (ht : (pc : Int) + off = (tgt : Int)) (k : Wm d b J tgt ls st h Q) : Wm d b J pc ls (.null :: st) h Q :=
  m_step (fun _ _ _ _ _ _ _ _ _ _ _ _ _ _ _ _ _ hx hb kk => lv_ifnullN hx hb hd ht kk) k
theorem m_tableOut {dflt lo hi : Int} {offs : Array Int} {len : Nat} {x : Int32} (tgt : Nat) (hd : decode J.2.1 pc = .ok (.tableswitch dflt lo hi offs, len)) (hq : x.toInt < lo ∨ hi < x.toInt) (ht : (pc : Int) + dflt = (tgt : Int)) (k : Wm d b J tgt ls st h Q) : Wm d b J pc ls (.int x :: st) h Q :=
  m_step (fun _ _ _ _ _ _ _ _ _ _ _ _ _ _ _ _ _ hx hb kk => lv_tableOut hx hb hd hq ht kk) k
theorem m_tableIn {dflt lo hi : Int} {offs : Array Int} {len : Nat} {x : Int32} {off : Int} (tgt : Nat) (hd : decode J.2.1 pc = .ok (.tableswitch dflt lo hi offs, len)) (h1 : ¬ x.toInt < lo) (h2 : ¬ hi < x.toInt) (ho : offs[(x.toInt - lo).toNat]? = some off) (ht : (pc : Int) + off = (tgt : Int)) (k : Wm d b J tgt ls st h Q) : Wm d b J pc ls (.int x :: st) h Q :=
  m_step (fun _ _ _ _ _ _ _ _ _ _ _ _ _ _ _ _ _ hx hb kk => lv_tableIn hx hb hd h1 h2 ho ht kk) k
theorem m_ireturn {v : Int32} (hd : decode J.2.1 pc = .ok (.ireturn, 1)) (hr : m_rok J.2.2.2.2 (some (.int v))) (hq : Q (some (.int v)) h) : Wm d b J pc ls [.int v] h Q := by
  refine ⟨_, h, hq, ?_⟩
  intro g p l e R s m args below meth c H locs cells slots Qk lsm C hR hl hc1 hc2 he
  exact he pc lsm H locs cells slots hR (by omega) (by omega) hr hd
theorem m_lreturn {v : Int64} (hd : decode J.2.1 pc = .ok (.lreturn, 1)) (hr : m_rok J.2.2.2.2 (some (.long v))) (hq : Q (some (.long v)) h) : Wm d b J pc ls [.long v] h Q := by
  refine ⟨_, h, hq, ?_⟩
  intro g p l e R s m args below meth c H locs cells slots Qk lsm C hR hl hc1 hc2 he
  exact he pc lsm H locs cells slots hR (by omega) (by omega) hr hd
theorem m_areturn {v : Nat} (hd : decode J.2.1 pc = .ok (.areturn, 1)) (hr : m_rok J.2.2.2.2 (some (.ref v))) (hq : Q (some (.ref v)) h) : Wm d b J pc ls [.ref v] h Q := by
  refine ⟨_, h, hq, ?_⟩
  intro g p l e R s m args below meth c H locs cells slots Qk lsm C hR hl hc1 hc2 he
  exact he pc lsm H locs cells slots hR (by omega) (by omega) hr hd
theorem m_areturnN  (hd : decode J.2.1 pc = .ok (.areturn, 1)) (hr : m_rok J.2.2.2.2 (some .null)) (hq : Q (some .null) h) : Wm d b J pc ls [.null] h Q := by
  refine ⟨_, h, hq, ?_⟩
  intro g p l e R s m args below meth c H locs cells slots Qk lsm C hR hl hc1 hc2 he
  exact he pc lsm H locs cells slots hR (by omega) (by omega) hr hd
theorem m_return  (hd : decode J.2.1 pc = .ok (.return_, 1)) (hr : m_rok J.2.2.2.2 (none)) (hq : Q (none) h) : Wm d b J pc ls [] h Q := by
  refine ⟨_, h, hq, ?_⟩
  intro g p l e R s m args below meth c H locs cells slots Qk lsm C hR hl hc1 hc2 he
  exact he pc lsm H locs cells slots hR (by omega) (by omega) hr hd
end Rows

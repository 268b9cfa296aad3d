/-! MINI: methods and calls -/
abbrev mM : Type := MethodName × ByteArray × Nat × Option FieldType
def m_words (M : mM) : List Cond := Cond.code M.1 M.2.1 M.2.2.1 M.2.2.2 :: mGood
def m_room (d : Nat) (b : Nat × Nat) : Room := { frames := d, cells := b.1, slots := b.2, locals := 36 * d }
def m_Pc (g : mG) (as : List Value) (h : mH) : Array Value → State → Prop := fun v U => v = (as.map (m_v g)).toArray ∧ m_K g U ∧ m_R0 g U.heap h ∧ g.1 ≤ U.heap.size
def m_Qc (g : mG) (r : Option Value) (h' : mH) : Array Value → State → Outcome → State → Prop := fun _ st o t => o = .returned (r.map (m_v g)) ∧ m_R0 g t.heap h' ∧ st.heap.size ≤ t.heap.size ∧ ∀ q, q < g.1 → t.heap[q]? = st.heap[q]?
def m_Met (d : Nat) (b : Nat × Nat) (M : mM) (as : List Value) (h : mH) (r : Option Value) (h' : mH) : Prop := ∀ (g : mG) (l : Launch), Met l M.1 (m_words M) (m_room d b) (m_Pc g as h) (m_Qc g r h') b.1 b.2 (fun q => g.1 ≤ q)
/-- the method M, called with these on this heap, d frames and b cells and slots to spend, answers so that K holds. The cell of the script stays as it was -/
def Ev (d : Nat) (b : Nat × Nat) (M : mM) (as : List Value) (h : mH) (K : Option Value → mH → Prop) : Prop := ∃ (r : Option Value) (h' : mH), K r h' ∧ h'.1 0 = h.1 0 ∧ m_Met d b M as h r h'
theorem Ev.mono {d : Nat} {b : Nat × Nat} {M : mM} {as : List Value} {h : mH} {K K2 : Option Value → mH → Prop} (k : Ev d b M as h K) (hk : ∀ r h', K r h' → K2 r h') : Ev d b M as h K2 := by
  obtain ⟨r, h', a, z, w⟩ := k
  exact ⟨r, h', hk r h' a, z, w⟩
theorem m_blind (g : mG) (as : List Value) (h : mH) : FrameBlind (m_Pc g as h) := by
  intro a U gf mk hp
  obtain ⟨h1, h2, h3, h4⟩ := hp
  exact ⟨h1, m_K_call h2, h3, h4⟩
theorem m_rok_cases {t : Option FieldType} {r : Option Value} (h : m_rok t r) : (t = none ∧ r = none) ∨ (t = some .int ∧ ∃ v, r = some (.int v)) ∨ (t = some .boolean ∧ ∃ v, r = some (.int v) ∧ (v = 0 ∨ v = 1)) ∨ (t = some .long ∧ ∃ v, r = some (.long v)) ∨ (∃ n, t = some (.object n) ∧ ∃ v, r = some (.ref v)) ∨ (∃ n, t = some (.object n) ∧ r = some .null) ∨ (∃ n, t = some (.array n) ∧ ∃ v, r = some (.ref v)) := by
  unfold m_rok at h
  split at h
  · exact Or.inl ⟨rfl, rfl⟩
  · exact Or.inr (Or.inl ⟨rfl, _, rfl⟩)
  · exact Or.inr (Or.inr (Or.inl ⟨rfl, _, rfl, h⟩))
  · exact Or.inr (Or.inr (Or.inr (Or.inl ⟨rfl, _, rfl⟩)))
  · exact Or.inr (Or.inr (Or.inr (Or.inr (Or.inl ⟨_, rfl, _, rfl⟩))))
  · exact Or.inr (Or.inr (Or.inr (Or.inr (Or.inr (Or.inl ⟨_, rfl, rfl⟩)))))
  · exact Or.inr (Or.inr (Or.inr (Or.inr (Or.inr (Or.inr ⟨_, rfl, _, rfl⟩)))))
  · exact h.elim
/-- the method of a frame -/
def m_J (M : mM) : mJ := (M.1.cls, M.2.1, M.2.2.1, M.1.name == "<init>", M.2.2.2)
/-- a method's contract out of a walk of its body -/
theorem m_met {d : Nat} {b : Nat × Nat} {M : mM} {as : List Value} {h : mH} {K : Option Value → mH → Prop} (hy : plainName M.1.cls = true) (hRL : M.1.cls ≠ RL) (hlen : ∀ g, (lg_sl (as.map (m_v g))).length ≤ M.2.2.1)
    (k : Wm d b (m_J M) 0 (m_ent M.2.2.1 as) [] h (fun r h' => h'.1 0 = h.1 0 ∧ K r h')) : Ev d b M as h K := by
  obtain ⟨r, h', ⟨z, hk⟩, w⟩ := k
  refine ⟨r, h', hk, z, fun g l => ?_⟩
  refine Met.ofW (cc := M.2.1) (maxL := M.2.2.1) (ret := M.2.2.2) hy rfl ?_
  intro p e s m args below meth c s₁ B hml hv
  obtain ⟨rfl, hK, hR0, hg⟩ := hv
  have hx := B.exec
  have hb := B.bytes
  have hr := B.returns
  have hts := atoms_spec (ws := m_words M) B.pre
  have hown : s.vm.findClass M.1.cls = some m.cls := findClass_of_methodNamed B.named
  have hlocks := B.notSynchronized
  have hin : meth.name = M.1.name := (name_of_methodNamed B.named B.method).1
  have hl := lv_entry (as.map (m_v g)) (n := M.2.2.1) (hlen g)
  rw [lg_entry_eq]
  generalize (lg_sl (as.map (m_v g)) ++ List.replicate (M.2.2.1 - (lg_sl (as.map (m_v g))).length) Slot.unset).toArray = lsm at hl ⊢
  refine w g p l e (m_room d b) s m _ below meth c s.heap [] 0 0 _ lsm ⟨hx, hb, hml, hown, fun w hw => hts w (List.mem_cons_of_mem _ hw), rfl, Nat.le_refl _, hK, hg, fun hi => ?_⟩ ⟨hR0, va_S.rf, fun q => absurd q hRL⟩ (m_ent_L g _ as hl) (by show 0 + b.1 ≤ b.1; omega) (by show 0 + b.2 ≤ b.2; omega) ?_
  · rw [hin]
    exact beq_iff_eq.mp hi
  · intro pc1 lsm1 H1 locs1 cells1 slots1 hR hc1 hc2 hrok hdec
    have hq : ∀ t : State, t.heap = H1 → s.WarmedH t.vm → m_Qc g r h' ((as.map (m_v g)).toArray) s (.returned (r.map (m_v g))) t := by
      intro t ht _
      refine ⟨rfl, by rw [ht]; exact hR.1, by rw [ht]; exact hR.2.1.1, fun q hq => ?_⟩
      rw [ht]
      exact hR.2.1.2.1 q (Nat.lt_of_lt_of_le hq hg) (Nat.not_le.mpr hq)
    refine W.widen (k := b.1) (n := b.2) hc1 hc2 ?_
    rcases m_rok_cases hrok with ⟨e1, rfl⟩ | ⟨e1, v, rfl⟩ | ⟨e1, v, rfl, hv⟩ | ⟨e1, v, rfl⟩ | ⟨n, e1, v, rfl⟩ | ⟨n, e1, rfl⟩ | ⟨n, e1, v, rfl⟩
    · exact W.vret hx hb (hr.trans e1) hq hR.2.1.2.2 hdec
    · exact W.iret hx hb (hr.trans e1) hq hR.2.1.2.2 hdec
    · refine W.zret hx hb (hr.trans e1) ?_ hq hR.2.1.2.2 hdec
      rcases hv with rfl | rfl <;> rfl
    · exact W.lret hx hb (hr.trans e1) hq hR.2.1.2.2 hdec
    · exact W.aret hx hb (hr.trans e1) (Or.inl ⟨_, rfl⟩) (Or.inr ⟨_, rfl⟩) hq hR.2.1.2.2 hdec
    · exact W.aret hx hb (hr.trans e1) (Or.inl ⟨_, rfl⟩) (Or.inl rfl) hq hR.2.1.2.2 hdec
    · exact W.aret hx hb (hr.trans e1) (Or.inr ⟨_, rfl⟩) (Or.inr ⟨_, rfl⟩) hq hR.2.1.2.2 hdec
-- certificates of call sites
def m_cB (M : mM) (n : Nat) : Prop := Cond.initialized M.1.cls ∈ mGood ∧ Cond.code M.1 M.2.1 M.2.2.1 M.2.2.2 ∈ mGood ∧ (M.1.cls ≠ "java/lang/invoke/MethodHandle" ∧ M.1.cls ≠ "java/lang/invoke/VarHandle") ∧ (parseMethodDescriptor M.1.desc).map (fun d => d.parameters.length) = some n ∧ M.2.2.1 ≤ 17
def m_cS (own : String) (idx : Nat) (M : mM) (n : Nat) : Prop := m_cB M n ∧ Cond.methodLink own idx M.1 ∈ mGood ∧ Cond.static M.1 ∈ mGood
def m_cI (own : String) (idx : Nat) (M : mM) (n : Nat) : Prop := m_cB M n ∧ Cond.methodLink own idx M.1 ∈ mGood ∧ Cond.instanceMethod M.1 ∈ mGood ∧ M.1.name = "<init>" ∧ M.2.2.2 = none
def m_cV (own : String) (idx ci : Nat) (M : mM) (n : Nat) : Prop := ∃ r : vw_C, vwCl[ci]? = some r ∧ m_cB M n ∧ Cond.instanceMethod M.1 ∈ mGood ∧
  ((Cond.methodLink own idx M.1 ∈ mGood ∧ Cond.selects r.1 M.1 M.1 ∈ mGood) ∨
   (∃ (x : MethodName) (owner : String), Cond.methodLink own idx x ∈ mGood ∧ Cond.sameMethod x.cls owner x.name x.desc ∈ mGood ∧ Cond.selects r.1 x M.1 ∈ mGood ∧ (parseMethodDescriptor x.desc).map (fun d => d.parameters.length) = some n ∧ (owner ≠ "java/lang/invoke/MethodHandle" ∧ owner ≠ "java/lang/invoke/VarHandle") ∧
      (M.1 = ⟨owner, x.name, x.desc⟩ ∨ (Cond.instanceMethod ⟨owner, x.name, x.desc⟩ ∈ mGood ∧ ∃ b0 m0 r0, Cond.code ⟨owner, x.name, x.desc⟩ b0 m0 r0 ∈ mGood))))
def m_cU (own : String) (idx : Nat) (M : mM) (n : Nat) : Prop := m_cB M n ∧ Cond.instanceMethod M.1 ∈ mGood ∧ ∃ x : MethodName, Cond.methodLink own idx x ∈ mGood ∧ Cond.sameMethod x.cls M.1.cls x.name x.desc ∈ mGood ∧ Cond.superclass own x.cls ∈ mGood ∧ M.1 = ⟨M.1.cls, x.name, x.desc⟩ ∧ x.name ≠ "<init>" ∧ (x.cls = M.1.cls ∨ Cond.superclass x.cls M.1.cls ∈ mGood)
theorem m_gin {M : mM} (hc : Cond.code M.1 M.2.1 M.2.2.1 M.2.2.2 ∈ mGood) : GoodIn mGood (m_words M) := by
  intro w hw
  rcases List.mem_cons.mp hw with rfl | hw
  · exact ⟨hc, mGood_good hc⟩
  · exact ⟨hw, mGood_good hw⟩
theorem m_ginL {M : mM} {L : List Cond} (hL : ∀ w ∈ L, w ∈ mGood) (hc : Cond.code M.1 M.2.1 M.2.2.1 M.2.2.2 ∈ mGood) : GoodIn mGood (L ++ m_words M) := by
  intro w hw
  rcases List.mem_append.mp hw with hw | hw
  · exact ⟨hL w hw, mGood_good (hL w hw)⟩
  · exact m_gin hc w hw
section CRows
variable {d : Nat} {b : Nat × Nat} {J : mJ} {pc : Nat} {ls : List (Option Value)} {st : List Value} {h : mH} {Q : Option Value → mH → Prop} {a : Nat}
/-- behind a call -/
theorem m_back {g : mG} {p : Program} {l : Launch} {e : Env} {R : Room} {s : State} {m : MethodId} {args : Array Value} {below : List Frame} {meth : Method} {c : Code} {H : Heap} {locs : List Loc} {cells slots mc ms : Nat} {Qk : State → Prop} {lsm : Array Slot} {rest stk as : List Value} {r : Option Value} {h' h1 : mH} {r1 : Option Value}
    (hr : va_Run p l e R s m args below meth c H locs cells slots mc ms (F0 m pc lsm stk) (rest.map (m_v g)) (m_Qc g r1 h1 ((as.map (m_v g)).toArray)) (fun q => g.1 ≤ q))
    (w : m_W d b J (pc + 3) ls (r1.toList ++ rest) h1 r h') (z : h1.1 0 = h.1 0) (C : m_Ctx g J d p R s m args meth c) (hR : m_Rel g J s H locs h) (hl : m_L g J.2.2.1 ls lsm) (hc1 : cells + mc + b.1 ≤ R.cells) (hc2 : slots + ms + b.2 ≤ R.slots)
    (he : ∀ (pc1 : Nat) (lsm1 : Array Slot) (H1 : Heap) (locs1 : List Loc) (cells1 slots1 : Nat), m_Rel g J s H1 locs1 h' → cells1 ≤ R.cells → slots1 ≤ R.slots → m_rok J.2.2.2.2 r → decode J.2.1 pc1 = .ok (m_ret r, 1) → W p l e R s m args below meth c H1 locs1 cells1 slots1 Qk (F0 m pc1 lsm1 (r.toList.map (m_v g)))) :
    W p l e R s m args below meth c H locs cells slots Qk (F0 m pc lsm stk) := by
  intro T hT X
  obtain ⟨v, st₀, t, T', L, h0, X', hL, e1, e2, hq, go⟩ := hr T hT X
  obtain ⟨q1, q2, q3, q4⟩ := hq
  cases q1
  have hS : va_S (fun q => g.1 ≤ q) s.heap t.heap (locs ++ L) := by
    refine ⟨Nat.le_trans hR.2.1.1 (by rw [← h0]; exact q3), fun q g1 g2 => ?_, fun x hx => ?_⟩
    · rw [q4 q (Nat.not_le.mp g2), h0]
      exact hR.2.1.2.1 q g1 g2
    · rcases List.mem_append.mp hx with hx | hx
      · exact hR.2.1.2.2 x hx
      · exact hL x hx
  have hR2 : m_Rel g J s t.heap (locs ++ L) h1 := ⟨q2, hS, fun hJ L2 xs hx => hR.2.2 hJ L2 xs (by rw [← z]; exact hx)⟩
  have w2 := w g p l e R s m args below meth c t.heap (locs ++ L) (cells + mc) (slots + ms) Qk lsm C hR2 hl hc1 hc2 he
  obtain ⟨t2, a1, b1⟩ := w2 T' e1 X'
  refine ⟨t2, go t2 ?_, b1⟩
  have e3 : (r1.toList ++ rest).map (m_v g) = (Option.map (m_v g) r1).toList ++ rest.map (m_v g) := by
    cases r1 <;> simp
  rw [e3] at a1
  exact a1
theorem m_mon {m : MethodId} {pc : Nat} {lsm : Array Slot} {stk : List Value} {n : Nat} (h : n ≤ 8) : 2 * (F0 m pc lsm stk).monitorRoom + n ≤ 8 := by
  have : (F0 m pc lsm stk).monitorRoom = 0 := rfl
  omega
theorem m_static {idx n : Nat} {M : mM} {as rest : List Value} {b1 b2 : Nat × Nat} (hc : m_cS J.1 idx M n) (hd : decode J.2.1 pc = .ok (.invokestatic idx, 3)) (hst : st = as.reverse ++ rest) (hn : as.length = n) (hcat : (rest.map fun v => v.category).sum ≤ 8) (hb1 : b1.1 + b2.1 ≤ b.1) (hb2 : b1.2 + b2.2 ≤ b.2)
    (k : Ev d b1 M as h (fun r h1 => Wm (d + 1) b2 J (pc + 3) ls (r.toList ++ rest) h1 Q)) : Wm (d + 1) b J pc ls st h Q := by
  obtain ⟨r1, h1, ⟨r, h', hq, w⟩, z, hM⟩ := k
  refine ⟨r, h', hq, ?_⟩
  intro g p l e R s m args below meth c H locs cells slots Qk lsm C hR hl hc1 hc2 he
  obtain ⟨⟨w1, w2, w3, w4, w5⟩, w6, w7⟩ := hc
  obtain ⟨hx, hb, hml, hown, hts, hf, hlo, hK, hg, -⟩ := id C
  have cw : CallB R s args J.1 idx M.1 M.2.1 M.2.2.1 M.2.2.2 (m_words M) (m_room d b1) b1.1 b1.2 n ∧ (Cond.static M.1).before args s = true :=
    ⟨callB_of n hts (m_gin w2) rfl rfl rfl (hts _ w1) (hts _ w6) ⟨w3.1, w3.2, w4⟩ ⟨by rw [hf]; exact Nat.le_refl _, by show 8 + (M.2.2.1 + 11) + 36 * d ≤ _; omega⟩, hts _ w7⟩
  refine m_back (rest := rest) (as := as) (r1 := r1) (h1 := h1) (va_runS (As := as.map (m_v g)) (rest := rest.map (m_v g)) ⟨hx, hb, hml, hown, hts⟩ (hM g l) cw ⟨m_blind g as h, fun U hU hW => ⟨rfl, m_K_warm hW hK, by rw [hU]; exact hR.1, by rw [hU]; exact Nat.le_trans hg hR.2.1.1⟩⟩ rfl (by simpa using hn) hl.1 ?_ (m_mon (by rw [m_cats]; exact hcat)) hd ⟨by omega, by omega⟩) w z C hR hl (by omega) (by omega) he
  show st.map (m_v g) = _
  rw [hst]
  simp
theorem m_special {idx n : Nat} {M : mM} {as rest : List Value} {b1 b2 : Nat × Nat} (hc : m_cI J.1 idx M n) (hd : decode J.2.1 pc = .ok (.invokespecial idx, 3)) (hst : st = as.reverse ++ .ref a :: rest) (hn : as.length = n) (hcat : (rest.map fun v => v.category).sum ≤ 8) (hb1 : b1.1 + b2.1 ≤ b.1) (hb2 : b1.2 + b2.2 ≤ b.2)
    (k : Ev d b1 M (.ref a :: as) h (fun r h1 => Wm (d + 1) b2 J (pc + 3) ls (r.toList ++ rest) h1 Q)) : Wm (d + 1) b J pc ls st h Q := by
  obtain ⟨r1, h1, ⟨r, h', hq, w⟩, z, hM⟩ := k
  refine ⟨r, h', hq, ?_⟩
  intro g p l e R s m args below meth c H locs cells slots Qk lsm C hR hl hc1 hc2 he
  obtain ⟨⟨w1, w2, w3, w4, w5⟩, w6, w7, w8, w9⟩ := hc
  obtain ⟨hx, hb, hml, hown, hts, hf, hlo, hK, hg, -⟩ := id C
  have cw : CallB R s args J.1 idx M.1 M.2.1 M.2.2.1 none (m_words M) (m_room d b1) b1.1 b1.2 n ∧ M.1.name = "<init>" ∧ (Cond.instanceMethod M.1).before args s = true :=
    ⟨callB_of n hts (m_gin w2) (by rw [← w9]; rfl) rfl rfl (hts _ w1) (hts _ w6) ⟨w3.1, w3.2, w4⟩ ⟨by rw [hf]; exact Nat.le_refl _, by show 8 + (M.2.2.1 + 11) + 36 * d ≤ _; omega⟩, w8, hts _ w7⟩
  refine m_back (rest := rest) (as := .ref a :: as) (r1 := r1) (h1 := h1) (va_runI (b := m_ad g a) (As := as.map (m_v g)) (rest := rest.map (m_v g)) ⟨hx, hb, hml, hown, hts⟩ (hM g l) cw ⟨m_blind g _ h, fun U hU hW => ⟨rfl, m_K_warm hW hK, by rw [hU]; exact hR.1, by rw [hU]; exact Nat.le_trans hg hR.2.1.1⟩⟩ rfl (by simpa using hn) hl.1 ?_ (m_mon (by rw [m_cats]; exact hcat)) hd ⟨by omega, by omega⟩) w z C hR hl (by omega) (by omega) he
  show st.map (m_v g) = _
  rw [hst]
  simp
  rfl
theorem m_virtual {idx n ci : Nat} {M : mM} {as rest fs : List Value} {b1 b2 : Nat × Nat} (hc : m_cV J.1 idx ci M n) (ha : h.1 a = .inr (ci, fs)) (hd : decode J.2.1 pc = .ok (.invokevirtual idx, 3)) (hst : st = as.reverse ++ .ref a :: rest) (hn : as.length = n) (hcat : (rest.map fun v => v.category).sum ≤ 8) (hb1 : b1.1 + b2.1 ≤ b.1) (hb2 : b1.2 + b2.2 ≤ b.2)
    (k : Ev d b1 M (.ref a :: as) h (fun r h1 => Wm (d + 1) b2 J (pc + 3) ls (r.toList ++ rest) h1 Q)) : Wm (d + 1) b J pc ls st h Q := by
  obtain ⟨r1, h1, ⟨r, h', hq, w⟩, z, hM⟩ := k
  refine ⟨r, h', hq, ?_⟩
  intro g p l e R s m args below meth c H locs cells slots Qk lsm C hR hl hc1 hc2 he
  obtain ⟨x, x1, ⟨w1, w2, w3, w4, w5⟩, w7, hor⟩ := hc
  obtain ⟨hx, hb, hml, hown, hts, hf, hlo, hK, hg, -⟩ := id C
  obtain ⟨j, rfl, j1, j2⟩ := m_live_obj hR.1 ha x1
  have hrv := va_recv hK.1 hR.1.1 x1 j2
  have hroom : (m_room d b1).frames + 1 ≤ R.frames ∧ 8 + (M.2.2.1 + 11) + (m_room d b1).locals ≤ R.locals := ⟨by rw [hf]; exact Nat.le_refl _, by show 8 + (M.2.2.1 + 11) + 36 * d ≤ _; omega⟩
  have hpre : PreV s H x.1 (g.1 + j) (m_Pc g (.ref (j + 1) :: as) h) (as.map (m_v g)) := ⟨m_blind g _ h, hrv, fun U hU hW => ⟨rfl, m_K_warm hW hK, by rw [hU]; exact hR.1, by rw [hU]; exact Nat.le_trans hg hR.2.1.1⟩⟩
  have hstk : st.map (m_v g) = (as.map (m_v g)).reverse ++ .ref (g.1 + j) :: rest.map (m_v g) := by
    rw [hst]
    simp
    rfl
  have run : va_Run p l e R s m args below meth c H locs cells slots b1.1 b1.2 (F0 m pc lsm (st.map (m_v g))) (rest.map (m_v g)) (m_Qc g r1 h1 (((.ref (j + 1) :: as).map (m_v g)).toArray)) (fun q => g.1 ≤ q) := by
    rcases hor with ⟨u1, u2⟩ | ⟨y, owner, u1, u2, u3, u4, u5, u6⟩
    · have cw : CallW R s args J.1 x.1 idx M.1 M.2.1 M.2.2.1 M.2.2.2 (m_words M) (m_room d b1) b1.1 b1.2 n :=
        ⟨callB_of n hts (m_gin w2) rfl rfl rfl (hts _ w1) (hts _ u1) ⟨w3.1, w3.2, w4⟩ hroom, hts _ w7, hts _ u2⟩
      exact va_runV (As := as.map (m_v g)) (rest := rest.map (m_v g)) ⟨hx, hb, hml, hown, hts⟩ (hM g l) cw hpre rfl (by simpa using hn) hl.1 hstk (m_mon (by rw [m_cats]; exact hcat)) hd ⟨by omega, by omega⟩
    · have cw : va_CU R s args J.1 x.1 owner idx y M.1 M.2.1 M.2.2.1 M.2.2.2 (m_words M) (m_room d b1) b1.1 b1.2 n := by
        rcases u6 with u6 | ⟨u7, b0, m0, r0, u8⟩
        · refine va_cwU n hts ?_ rfl rfl rfl u6 ⟨u5.1, u5.2, u4⟩ hroom
          refine m_ginL (L := [.methodLink J.1 idx y, .sameMethod y.cls owner y.name y.desc, .selects x.1 y M.1, .instanceMethod M.1, .initialized M.1.cls]) (fun v hv => ?_) w2
          simp at hv
          rcases hv with rfl | rfl | rfl | rfl | rfl <;> assumption
        · refine va_cwO n hts ?_ rfl rfl rfl u8 ⟨u5.1, u5.2, u4⟩ hroom
          refine m_ginL (L := [.methodLink J.1 idx y, .sameMethod y.cls owner y.name y.desc, .instanceMethod ⟨owner, y.name, y.desc⟩, .selects x.1 y M.1, .instanceMethod M.1, .initialized M.1.cls]) (fun v hv => ?_) w2
          simp at hv
          rcases hv with rfl | rfl | rfl | rfl | rfl | rfl <;> assumption
      exact va_runU (As := as.map (m_v g)) (rest := rest.map (m_v g)) ⟨hx, hb, hml, hown, hts⟩ (hM g l) cw hpre rfl (by simpa using hn) hl.1 hstk (m_mon (by rw [m_cats]; exact hcat)) hd ⟨by omega, by omega⟩
  exact m_back (rest := rest) (as := .ref (j + 1) :: as) (r1 := r1) (h1 := h1) run w z C hR hl (by omega) (by omega) he
theorem m_super {idx n ci : Nat} {M : mM} {as rest fs : List Value} {b1 b2 : Nat × Nat} (hc : m_cU J.1 idx M n) (ha : h.1 a = .inr (ci, fs)) (hci : ci < 12) (hd : decode J.2.1 pc = .ok (.invokespecial idx, 3)) (hst : st = as.reverse ++ .ref a :: rest) (hn : as.length = n) (hcat : (rest.map fun v => v.category).sum ≤ 8) (hb1 : b1.1 + b2.1 ≤ b.1) (hb2 : b1.2 + b2.2 ≤ b.2)
    (k : Ev d b1 M (.ref a :: as) h (fun r h1 => Wm (d + 1) b2 J (pc + 3) ls (r.toList ++ rest) h1 Q)) : Wm (d + 1) b J pc ls st h Q := by
  obtain ⟨r1, h1, ⟨r, h', hq, w⟩, z, hM⟩ := k
  refine ⟨r, h', hq, ?_⟩
  intro g p l e R s m args below meth c H locs cells slots Qk lsm C hR hl hc1 hc2 he
  obtain ⟨⟨w1, w2, w3, w4, w5⟩, w6, y, u1, u2, u3, u4, u5, u6⟩ := hc
  obtain ⟨hx, hb, hml, hown, hts, hf, hlo, hK, hg, -⟩ := id C
  obtain ⟨x, x1⟩ : ∃ x, vwCl[ci]? = some x := ⟨vwCl[ci]'hci, List.getElem?_eq_getElem hci⟩
  obtain ⟨j, rfl, j1, j2⟩ := m_live_obj hR.1 ha x1
  obtain ⟨cellB, hcB, hoB, hclB⟩ := va_recv hK.1 hR.1.1 x1 j2
  obtain ⟨hfc, kB, hkB, -⟩ := (hK.1.1 ci x x1).2
  have ecl : cellB.cls = g.2.2.1.1 ci := Option.some.inj (hclB.symm.trans hfc)
  have hstk : st.map (m_v g) = (as.map (m_v g)).reverse ++ .ref (g.1 + j) :: rest.map (m_v g) := by
    rw [hst]
    simp
    rfl
  have run : va_Run p l e R s m args below meth c H locs cells slots b1.1 b1.2 (F0 m pc lsm (st.map (m_v g))) (rest.map (m_v g)) (m_Qc g r1 h1 (((.ref (j + 1) :: as).map (m_v g)).toArray)) (fun q => g.1 ≤ q) := by
    have hKb : Back l R p e below s args M.1 3 8 (PreOf R b1.1 b1.2 (m_Pc g (.ref (j + 1) :: as) h)) (PostOf (m_Qc g r1 h1) b1.1 b1.2 (fun q => g.1 ≤ q)) :=
      back_of (bytes := M.2.1) (maxL := M.2.2.1) (ret := M.2.2.2) (hM g l) (m_blind g _ h) rfl rfl (by rw [hf]; exact Nat.le_refl _) (by show 8 + (M.2.2.1 + 11) + 36 * d ≤ _; omega) (pay_in hts (m_gin w2)) List.mem_cons_self (fun a' U hW => word_at hW (mGood_good w1) (hts _ w1))
    obtain ⟨mk, methM, hnamed, hmethM, hstM, habM⟩ := Cond.instanceMethod_spec (hts _ w6)
    obtain ⟨methM', cM, hmethM', -, -, -, -, -, -, hsigM⟩ := Cond.code_spec hnamed (hts _ w2)
    cases hmethM.symm.trans hmethM'
    obtain ⟨ps, dk, kp, hps, hdk, hkp, hsuper, -, -, hnid⟩ := Cond.superclass_spec hown (hts _ u3)
    have hnm : s.methodNamed? ⟨M.1.cls, y.name, y.desc⟩ = some mk := by rw [← u4]; exact hnamed
    have hfm : s.vm.findClass M.1.cls = some mk.cls := findClass_of_methodNamed hnamed
    have hsub : s.vm.isSubclass ps mk.cls = true := by
      rcases u6 with u6 | u6
      · rw [u6] at hps
        cases hps.symm.trans hfm
        simp [Vm.isSubclass, Vm.isSubclassAux]
      · obtain ⟨p2, k2, kp2, f1, f2, f3, f4, -, -, -⟩ := Cond.superclass_spec hps (hts _ u6)
        cases f1.symm.trans hfm
        have hlt : ps < s.vm.classes.size := (Array.getElem?_eq_some_iff.mp f2).1
        obtain ⟨n0, hn0⟩ : ∃ n0, s.vm.classes.size = n0 + 1 := ⟨s.vm.classes.size - 1, (Nat.succ_pred_eq_of_pos (Nat.lt_of_le_of_lt (Nat.zero_le _) hlt)).symm⟩
        unfold Vm.isSubclass
        rw [hn0]
        simp [Vm.isSubclassAux, f2, f4]
    have hpar : as.length = methM.sig.parameters.length := by
      rw [hsigM] at w4
      exact hn.trans (Option.some.inj w4).symm
    intro T hT X
    obtain ⟨vm₁, X₁, hstep₁⟩ := X.invokespecialUp hx hown (hts _ u1) (hts _ u2) hnm hmethM hstM habM u5 hdk hnid hps hsuper hsub (a := g.1 + j) (cell := cellB) (by rw [hT]; exact hcB)
      (fun z h => by rw [h] at hoB; cases hoB) (by rw [ecl]; exact hkB) (g := F0 m pc lsm (st.map (m_v g))) rfl (argsL := as.map (m_v g)) (rest := rest.map (m_v g)) (by simpa using hpar) hstk (by rw [hb]; exact hd)
    obtain ⟨v, ⟨U', l2, c2, s2⟩, X', ⟨g', mk2, t, L, e1, e2, hq2, h3, hL, h4, h5⟩, hsteps⟩ := hKb m meth c ⟨T.setVm vm₁, locs, cells, slots⟩ { F0 m pc lsm (st.map (m_v g)) with stack := rest.map (m_v g) } (.invokespecial idx) mk (((.ref (j + 1) :: as).map (m_v g)).toArray) X₁ rfl (by rw [hml]; exact hl.1) (by rw [hb]; exact hd) (m_mon (by rw [m_cats]; exact hcat)) (X₁.named hnamed) ⟨by show cells + _ ≤ _; omega, by show slots + _ ≤ _; omega, rfl, m_K_warm X₁.warmed hK, by show m_R0 g T.heap h; rw [hT]; exact hR.1, by show g.1 ≤ T.heap.size; rw [hT]; exact Nat.le_trans hg hR.2.1.1⟩
    dsimp only [Pt.U, Pt.locs, Pt.cells, Pt.slots] at X' e1 e2 h3 h4 h5 hsteps
    subst h3; subst h4; subst h5
    exact ⟨v, (T.setVm vm₁).calling g' mk2 (((.ref (j + 1) :: as).map (m_v g)).toArray), t, U', L, hT, X', hL, e1, e2, hq2, fun target h => hstep₁ _ (by rw [doInvoke_state]; exact hsteps.trans h)⟩
  exact m_back (rest := rest) (as := .ref (j + 1) :: as) (r1 := r1) (h1 := h1) run w z C hR hl (by omega) (by omega) he
/-- Object's constructor -/
theorem m_objinit {idx : Nat} (hw1 : Cond.methodLink J.1 idx Lib.objectInit ∈ mGood) (hw2 : Cond.instanceMethod Lib.objectInit ∈ mGood) (hw3 : Cond.code Lib.objectInit ⟨#[0xb1]⟩ 1 none ∈ mGood) (hd : decode J.2.1 pc = .ok (.invokespecial idx, 3)) (hcat : (st.map fun v => v.category).sum ≤ 8) (k : Wm (d + 1) b J (pc + 3) ls st h Q) : Wm (d + 1) b J pc ls (.ref a :: st) h Q := by
  obtain ⟨r, h', q, w⟩ := k
  refine ⟨r, h', q, ?_⟩
  intro g p l e R s m args below meth c H locs cells slots Qk lsm C hR hl hc1 hc2 he
  obtain ⟨hx, hb, hml, hown, hts, hf, hlo, hK, hg, -⟩ := id C
  have hm := m_mon (m := m) (pc := pc) (lsm := lsm) (stk := (Value.ref a :: st).map (m_v g)) (n := ((st.map (m_v g)).map fun v => v.category).sum) (by rw [m_cats]; exact hcat)
  exact W.objInit hx hb hown (hts _ hw1) (hts _ hw2) (hts _ hw3) (g := F0 m pc lsm ((Value.ref a :: st).map (m_v g))) rfl (by rw [hml]; exact hl.1) (rest := st.map (m_v g)) rfl hd (by omega) (by omega) (w g p l e R s m args below meth c H locs cells slots Qk lsm C hR hl hc1 hc2 he)
end CRows

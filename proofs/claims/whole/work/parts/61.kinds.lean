/-! kinds and what is asked of them -/
abbrev trc : Type := Nat × (Nat → Int32)
def TR (h : mH) (tr : trc) : Prop := RO h 20 21 2 tr.1 tr.2 16
def tad (tr : trc) (v : Int32) : trc := if tr.1 < 16 then (tr.1 + 1, upd tr.2 tr.1 v) else tr
def rdn (n : Nat) (p : Nat → Nat) : Nat := sm (ct (cyl p n n)) 12
def knd (ci : Nat) : Int32 := if ci = 0 then 3 else if ci = 1 then 0 else if ci = 4 then 4 else if ci = 8 then 1 else 2
def mkT (ci : Nat) (tr : trc) : trc := if ci = 4 then tad (tad (tad tr 22) 21) 20 else if ci = 0 ∨ ci = 9 then tad (tad tr 21) 20 else tad tr 20
def mkV (ci n k : Nat) (t : Nat → Nat → Nat) : Int32 := if ci = 4 then nI (pn n k t) + 100 + nI (rdn n (t 2)) else if ci = 0 ∨ ci = 9 then nI (pn n k t) + 100 else nI (pn n k t)
def szT (ci : Nat) (tr : trc) : trc := if ci = 8 then tad (tad tr 11) 10 else if ci = 1 then tad tr 10 else if ci = 9 then tad (tad tr 12) 10 else if ci = 0 then tad (tad (tad tr 13) 12) 10 else mkT 4 (tad (tad (tad (tad tr 14) 13) 12) 10)
def szV (ci n k : Nat) (t : Nat → Nat → Nat) : Int32 := if ci = 8 then nI n + nI k else if ci = 1 then nI n else if ci = 9 then nI n + nI (rdn n (t 0)) else if ci = 0 then 2 * (nI n + nI (rdn n (t 0))) else 2 * (nI n + nI (rdn n (t 0))) + mkV 4 n k t
section Kinds
variable {d n k a ta ci : Nat} {t : Nat → Nat → Nat} {h : mH} {K : Option Value → mH → Prop} {tr : trc}
theorem tadd_ev {v : Int32} (o : TR h tr) (hK : ∀ h', Fr [20, 21] h h' → TR h' (tad tr v) → K none h') : Ev d (0, 0) MX7_add [.ref 20, .int v] h K := by
  refine add_ev (by decide) (by decide) (by decide) o (fun w h' f o' => hK h' f ?_) (fun w => hK h Fr.rf ?_)
  · unfold tad TR
    rw [if_pos w]
    exact o'
  · unfold tad
    rw [if_neg (by omega)]
    exact o
theorem CO.f2 {pr : Nat} {h1 : mH} (c : CO h a ta ci n k t pr) (f : Fr [20, 21] h h1) (ha : 57 ≤ a) (hta : 57 ≤ ta) : CO h1 a ta ci n k t pr := c.fr f (nm_ge (by decide) ha) (nm_ge (by decide) hta)
theorem ci12 (h : ci ∈ [0, 1, 4, 8, 9]) : ci < 12 := by simp at h; omega
theorem size1_ev {pr : Nat} (c : CO h a ta ci n k t pr) (ha : 57 ≤ a) (hta : 57 ≤ ta) (o : TR h tr) (hK : ∀ h', Fr [20, 21] h h' → TR h' (tad tr 10) → K (some (.int (nI n))) h') : Ev (d + 1) (0, 0) MX1_sizeAsked [.ref a, .ref 20] h K := by
  refine en_X1_sizeAsked (bk_X1_sizeAsked_0 _ _ ⟨_, o.1, ?_⟩)
  exact tadd_ev o (fun h2 f2 o2 => ⟨rfl, _, (c.f2 f2 ha hta).fn, f2.z (by decide), hK h2 f2 o2⟩)
theorem mark1_ev {pr : Nat} (c : CO h a ta ci n k t pr) (ha : 57 ≤ a) (hta : 57 ≤ ta) (o : TR h tr) (hK : ∀ h', Fr [20, 21] h h' → TR h' (tad tr 20) → K (some (.int (nI pr))) h') : Ev (d + 1) (0, 0) MX1_markAsked [.ref a, .ref 20] h K := by
  refine en_X1_markAsked (bk_X1_markAsked_0 _ _ ⟨_, o.1, ?_⟩)
  exact tadd_ev o (fun h2 f2 o2 => ⟨rfl, _, (c.f2 f2 ha hta).fp, f2.z (by decide), hK h2 f2 o2⟩)
theorem size9_ev {pr : Nat} (c : CO h a ta 8 n k t pr) (ha : 57 ≤ a) (hta : 57 ≤ ta) (o : TR h tr) (hK : ∀ h', Fr [20, 21] h h' → TR h' (tad (tad tr 11) 10) → K (some (.int (nI n + nI k))) h') : Ev (d + 2) (0, 0) MX9_sizeAsked [.ref a, .ref 20] h K := by
  refine en_X9_sizeAsked (bk_X9_sizeAsked_0 _ _ ⟨_, o.1, ?_⟩)
  refine tadd_ev o (fun h2 f2 o2 => ⟨rfl, _, _, (c.f2 f2 ha hta).1, by decide, ?_⟩)
  refine size1_ev (c.f2 f2 ha hta) ha hta o2 (fun h4 f4 o4 => ⟨_, rfl, ?_⟩)
  have c4 := c.f2 (f2.tr f4) ha hta
  exact ⟨_, fld_at c4.1 (by decide) rfl, _, c4.2.1.len, (f2.tr f4).z (by decide), hK h4 (f2.tr f4) o4⟩
theorem size10_ev {pr : Nat} (c : CO h a ta ci n k t pr) (hci : ci ∈ [0, 4, 9]) (ha : 57 ≤ a) (hta : 57 ≤ ta) (o : TR h tr) (hK : ∀ h', Fr [20, 21] h h' → TR h' (tad (tad tr 12) 10) → K (some (.int (nI n + nI (rdn n (t 0))))) h') : Ev (d + 3) (0, 0) MX10_sizeAsked [.ref a, .ref 20] h K := by
  refine en_X10_sizeAsked (bk_X10_sizeAsked_0 _ _ ⟨_, o.1, ?_⟩)
  refine tadd_ev o (fun h2 f2 o2 => ⟨rfl, _, _, (c.f2 f2 ha hta).1, ci12 c.2.2.1, ?_⟩)
  refine size1_ev (c.f2 f2 ha hta) ha hta o2 (fun h4 f4 o4 => ⟨_, rfl, ?_⟩)
  have c4 := c.f2 (f2.tr f4) ha hta
  refine ⟨_, _, c4.1, hci, ?_⟩
  exact rounds_ev (j := 0) c4 c4.k1 ⟨_, rfl, (f2.tr f4).z (by decide), hK h4 (f2.tr f4) o4⟩
theorem mark10_ev {pr : Nat} (c : CO h a ta ci n k t pr) (ha : 57 ≤ a) (hta : 57 ≤ ta) (o : TR h tr) (hK : ∀ h', Fr [20, 21] h h' → TR h' (tad (tad tr 21) 20) → K (some (.int (nI pr + 100))) h') : Ev (d + 2) (0, 0) MX10_markAsked [.ref a, .ref 20] h K := by
  refine en_X10_markAsked (bk_X10_markAsked_0 _ _ ⟨_, o.1, ?_⟩)
  refine tadd_ev o (fun h2 f2 o2 => ⟨rfl, _, _, (c.f2 f2 ha hta).1, ci12 c.2.2.1, ?_⟩)
  exact mark1_ev (c.f2 f2 ha hta) ha hta o2 (fun h4 f4 o4 => ⟨_, rfl, (f2.tr f4).z (by decide), hK h4 (f2.tr f4) o4⟩)
theorem size0_ev {pr : Nat} (c : CO h a ta ci n k t pr) (hci : ci ∈ [0, 4, 9]) (ha : 57 ≤ a) (hta : 57 ≤ ta) (o : TR h tr) (hK : ∀ h', Fr [20, 21] h h' → TR h' (tad (tad (tad tr 13) 12) 10) → K (some (.int (2 * (nI n + nI (rdn n (t 0)))))) h') : Ev (d + 4) (0, 0) MX0_sizeAsked [.ref a, .ref 20] h K := by
  refine en_X0_sizeAsked (bk_X0_sizeAsked_0 _ _ ⟨_, o.1, ?_⟩)
  refine tadd_ev o (fun h2 f2 o2 => ⟨rfl, _, _, (c.f2 f2 ha hta).1, ci12 c.2.2.1, ?_⟩)
  exact size10_ev (c.f2 f2 ha hta) hci ha hta o2 (fun h4 f4 o4 => ⟨_, rfl, (f2.tr f4).z (by decide), hK h4 (f2.tr f4) o4⟩)
theorem mark4_ev {pr : Nat} (c : CO h a ta 4 n k t pr) (hk : 3 ≤ k) (ha : 57 ≤ a) (hta : 57 ≤ ta) (o : TR h tr) (hK : ∀ h', Fr [20, 21] h h' → TR h' (tad (tad (tad tr 22) 21) 20) → K (some (.int (nI pr + 100 + nI (rdn n (t 2))))) h') : Ev (d + 3) (0, 0) MX4_markAsked [.ref a, .ref 20] h K := by
  refine en_X4_markAsked (bk_X4_markAsked_0 _ _ ⟨_, o.1, ?_⟩)
  refine tadd_ev o (fun h2 f2 o2 => ⟨rfl, _, _, (c.f2 f2 ha hta).1, by decide, ?_⟩)
  refine mark10_ev (c.f2 f2 ha hta) ha hta o2 (fun h4 f4 o4 => ⟨_, rfl, ?_⟩)
  have c4 := c.f2 (f2.tr f4) ha hta
  refine ⟨_, c4.1, ?_⟩
  exact rounds_ev (j := 2) c4 (by omega) ⟨_, rfl, (f2.tr f4).z (by decide), hK h4 (f2.tr f4) o4⟩
theorem size4_ev {pr : Nat} (c : CO h a ta 4 n k t pr) (hk : 3 ≤ k) (ha : 57 ≤ a) (hta : 57 ≤ ta) (o : TR h tr) (hK : ∀ h', Fr [20, 21] h h' → TR h' (tad (tad (tad (tad (tad (tad (tad tr 14) 13) 12) 10) 22) 21) 20) → K (some (.int (2 * (nI n + nI (rdn n (t 0))) + (nI pr + 100 + nI (rdn n (t 2)))))) h') : Ev (d + 5) (0, 0) MX4_sizeAsked [.ref a, .ref 20] h K := by
  refine en_X4_sizeAsked (bk_X4_sizeAsked_0 _ _ ⟨_, o.1, ?_⟩)
  refine tadd_ev o (fun h2 f2 o2 => ⟨rfl, _, _, (c.f2 f2 ha hta).1, by decide, ?_⟩)
  refine size0_ev (c.f2 f2 ha hta) (by decide) ha hta o2 (fun h4 f4 o4 => ⟨_, rfl, ?_⟩)
  have c4 := c.f2 (f2.tr f4) ha hta
  refine ⟨_, c4.1, ?_⟩
  exact mark4_ev c4 hk ha hta o4 (fun h6 f6 o6 => ⟨_, rfl, ((f2.tr f4).tr f6).z (by decide), hK h6 ((f2.tr f4).tr f6) o6⟩)
theorem kcl_k {n k : Nat} {t : Nat → Nat → Nat} (h : kcl n k t = 0 ∨ kcl n k t = 4 ∨ kcl n k t = 9) : k = 3 := by
  unfold kcl at h
  split at h
  · assumption
  · exfalso
    split at h <;> omega
theorem kcl_k8 {n k : Nat} {t : Nat → Nat → Nat} (h : kcl n k t = 1 ∨ kcl n k t = 8) : k ≠ 3 := by
  intro w
  unfold kcl at h
  rw [if_pos w] at h
  split at h
  · split at h <;> omega
  · omega
theorem sizeAsked_ev (hc : ci = kcl n k t) (c : CO h a ta ci n k t (pn n k t)) (ha : 57 ≤ a) (hta : 57 ≤ ta) (o : TR h tr) (hK : ∀ h', Fr [20, 21] h h' → TR h' (szT ci tr) → K (some (.int (szV ci n k t))) h') : Ev (d + 5) (0, 0) (tg_X11_232 ci) [.ref a, .ref 20] h K := by
  have hci := c.2.2.1
  simp only [List.mem_cons, List.not_mem_nil, or_false] at hci
  rcases hci with e | e | e | e | e <;> subst e
  · exact size0_ev (d := d + 1) c (by decide) ha hta o hK
  · exact size1_ev (d := d + 4) c ha hta o hK
  · exact size4_ev c (by have := kcl_k (n := n) (k := k) (t := t) (Or.inr (Or.inl hc.symm)); omega) ha hta o hK
  · exact size9_ev (d := d + 3) c ha hta o hK
  · exact size10_ev (d := d + 2) c (by decide) ha hta o hK
theorem markAsked_ev (hc : ci = kcl n k t) (c : CO h a ta ci n k t (pn n k t)) (ha : 57 ≤ a) (hta : 57 ≤ ta) (o : TR h tr) (hK : ∀ h', Fr [20, 21] h h' → TR h' (mkT ci tr) → K (some (.int (mkV ci n k t))) h') : Ev (d + 5) (0, 0) (tg_X11_236 ci) [.ref a, .ref 20] h K := by
  have hci := c.2.2.1
  simp only [List.mem_cons, List.not_mem_nil, or_false] at hci
  rcases hci with e | e | e | e | e <;> subst e
  · exact mark10_ev (d := d + 3) c ha hta o hK
  · exact mark1_ev (d := d + 4) c ha hta o hK
  · exact mark4_ev (d := d + 2) c (by have := kcl_k (n := n) (k := k) (t := t) (Or.inr (Or.inl hc.symm)); omega) ha hta o hK
  · exact mark1_ev (d := d + 4) c ha hta o hK
  · exact mark10_ev (d := d + 3) c ha hta o hK
theorem kindNumber_ev (hci : ci ∈ [0, 1, 4, 8, 9]) (hK : K (some (.int (knd ci))) h) : Ev d (0, 0) (tg_X11_224 ci) [.ref a] h K := by
  simp only [List.mem_cons, List.not_mem_nil, or_false] at hci
  rcases hci with e | e | e | e | e <;> subst e
  · exact en_X0_kindNumber (bk_X0_kindNumber_0 _ ⟨rfl, hK⟩)
  · exact en_X1_kindNumber (bk_X1_kindNumber_0 _ ⟨rfl, hK⟩)
  · exact en_X4_kindNumber (bk_X4_kindNumber_0 _ ⟨rfl, hK⟩)
  · exact en_X9_kindNumber (bk_X9_kindNumber_0 _ ⟨rfl, hK⟩)
  · exact en_X10_kindNumber (bk_X10_kindNumber_0 _ ⟨rfl, hK⟩)
end Kinds

/-! what is made first: heaps as lists -/
def HL (l : List mC) : mH := (fun a => l.getD a m_dead, l.length)
theorem HL_push (l : List mC) (c : mC) : (m_up (HL l).1 (HL l).2 c, (HL l).2 + 1) = HL (l ++ [c]) := by
  refine Prod.ext (funext fun a => ?_) ?_
  · show (if a = l.length then c else l.getD a m_dead) = (l ++ [c]).getD a m_dead
    rw [List.getD_eq_getElem?_getD, List.getD_eq_getElem?_getD]
    by_cases e : a = l.length
    · rw [if_pos e, e, List.getElem?_append_right (Nat.le_refl _), Nat.sub_self]
      rfl
    · rw [if_neg e]
      rcases Nat.lt_or_ge a l.length with w | w
      · rw [List.getElem?_append_left w]
      · rw [List.getElem?_append_right w, List.getElem?_eq_none w, List.getElem?_eq_none (by show 1 ≤ a - l.length; omega)]
  · show l.length + 1 = (l ++ [c]).length
    rw [List.length_append]
    rfl
section HLs
variable {P X : List mC} {p : Nat} {c c' : mC}
theorem HL_at (hP : P.length = p) : (HL (P ++ c :: X)).1 p = c := by
  show (P ++ c :: X).getD p m_dead = c
  rw [List.getD_eq_getElem?_getD, ← hP, List.getElem?_append_right (Nat.le_refl _), Nat.sub_self]
  rfl
theorem HL_len (hP : P.length = p) : (HL (P ++ X)).2 = p + X.length := by
  show (P ++ X).length = _
  rw [List.length_append, hP]
theorem HL_up (hP : P.length = p) : (m_up (HL (P ++ c :: X)).1 p c', (HL (P ++ c :: X)).2) = HL (P ++ c' :: X) := by
  refine Prod.ext (funext fun a => ?_) ?_
  · show (if a = p then c' else (P ++ c :: X).getD a m_dead) = (P ++ c' :: X).getD a m_dead
    by_cases e : a = p
    · rw [if_pos e, e]
      exact (HL_at hP).symm
    · rw [if_neg e, List.getD_eq_getElem?_getD, List.getD_eq_getElem?_getD]
      rcases Nat.lt_or_ge a P.length with w | w
      · rw [List.getElem?_append_left w, List.getElem?_append_left w]
      · rw [List.getElem?_append_right w, List.getElem?_append_right w]
        obtain ⟨j, hj⟩ : ∃ j, a - P.length = j + 1 := ⟨a - P.length - 1, by omega⟩
        rw [hj]
        rfl
  · show (P ++ c :: X).length = (P ++ c' :: X).length
    simp
theorem HL_z {Y : List mC} (hp : 1 ≤ P.length) : (HL (P ++ X)).1 0 = (HL (P ++ Y)).1 0 := by
  show (P ++ X).getD 0 m_dead = (P ++ Y).getD 0 m_dead
  rw [List.getD_eq_getElem?_getD, List.getD_eq_getElem?_getD, List.getElem?_append_left (by omega), List.getElem?_append_left (by omega)]
theorem HL_put {ci k : Nat} {fs fs' : List Value} {v : Value} (hP : P.length = p) (hk : k < fs.length) (e : fs' = fs.set k v) : m_put (HL (P ++ .inr (ci, fs) :: X)) p ci k v = some (HL (P ++ .inr (ci, fs') :: X)) := by
  rw [put_at (HL_at hP) hk, HL_up hP, e]
theorem nw_put {ci k m : Nat} {fs fs' : List Value} {X' : List mC} (hP : P.length = p) (hk : k < fs.length) (hm : p + (X.length + 1) = m) (e : fs' = fs.set k (.ref m)) (e2 : X' = X ++ [c]) : m_put (m_up (HL (P ++ .inr (ci, fs) :: X)).1 (HL (P ++ .inr (ci, fs) :: X)).2 c, (HL (P ++ .inr (ci, fs) :: X)).2 + 1) p ci k (.ref (HL (P ++ .inr (ci, fs) :: X)).2) = some (HL (P ++ .inr (ci, fs') :: X')) := by
  have hl : (HL (P ++ .inr (ci, fs) :: X)).2 = m := by rw [HL_len hP]; exact hm
  rw [HL_push, hl, List.append_assoc, e2]
  exact HL_put hP hk e
theorem HL_is {j N : Nat} {f : Nat → Int32} {x : Int32} {o : mC} (hP : P.length = p) (hj : j < N) (hN : N < 2147483648) : m_is (HL (P ++ o :: .inl (0, N, .inl f) :: X)) (p + 1) (nI j) x = some (HL (P ++ o :: .inl (0, N, .inl (upd f j x)) :: X)) := by
  have e : ∀ c : mC, P ++ o :: c :: X = (P ++ [o]) ++ c :: X := fun c => by rw [List.append_assoc]; rfl
  have hP' : (P ++ [o]).length = p + 1 := by rw [List.length_append, hP]; rfl
  rw [e, e, is_at (HL_at hP') hj hN, HL_up hP']
theorem HL_rs {j N q : Nat} {f : Nat → Option Nat} {fs : List Value} (hP : P.length = p) (hj : j < N) (hN : N < 2147483648) (hq : (HL (P ++ .inl (3, N, .inr (.inr (.inr (.inr f)))) :: X)).1 q = .inr (6, fs)) : m_rs (HL (P ++ .inl (3, N, .inr (.inr (.inr (.inr f)))) :: X)) p (nI j) (.ref q) = some (HL (P ++ .inl (3, N, .inr (.inr (.inr (.inr (va_up f j (some q)))))) :: X)) := by
  have ha := HL_at (c := .inl (3, N, .inr (.inr (.inr (.inr f))))) (X := X) hP
  unfold m_rs
  rw [ha]
  show (match (HL (P ++ .inl (3, N, .inr (.inr (.inr (.inr f)))) :: X)).1 q with
    | .inr (6, _) => _
    | _ => none) = _
  rw [hq]
  show (if _ then _ else _) = _
  rw [if_neg (ix_in hj hN), nI_clamp (by omega), HL_up hP]
/-- what a frame of two cells at the end leaves -/
theorem HL_fr {x y x' y' : mC} {h' : mH} (hP : P.length = p) (f : Fr [p, p + 1] (HL (P ++ [x, y])) h') (e1 : h'.1 p = x') (e2 : h'.1 (p + 1) = y') : h' = HL (P ++ [x', y']) := by
  have a1 : ∀ z : mC, (HL (P ++ [x', z])).1 p = x' := fun z => HL_at hP
  have hP' : (P ++ [x']).length = p + 1 := by rw [List.length_append, hP]; rfl
  have a2 : (HL (P ++ [x', y'])).1 (p + 1) = y' := by
    have := HL_at (c := y') (X := []) hP'
    rw [List.append_assoc] at this
    exact this
  refine Prod.ext (funext fun a => ?_) ?_
  · by_cases w1 : a = p
    · rw [w1, e1, a1]
    · by_cases w2 : a = p + 1
      · rw [w2, e2, a2]
      · rw [f.2 a (by simp [w1, w2])]
        show (P ++ [x, y]).getD a m_dead = (P ++ [x', y']).getD a m_dead
        rw [List.getD_eq_getElem?_getD, List.getD_eq_getElem?_getD]
        rcases Nat.lt_or_ge a P.length with w | w
        · rw [List.getElem?_append_left w, List.getElem?_append_left w]
        · rw [List.getElem?_append_right w, List.getElem?_append_right w, List.getElem?_eq_none (by show 2 ≤ a - P.length; omega), List.getElem?_eq_none (by show 2 ≤ a - P.length; omega)]
  · rw [f.1]
    show (P ++ [x, y]).length = (P ++ [x', y']).length
    simp
end HLs
/-- the state at the start -/
def st0 : AS := (fun _ => (-1, 0, fun _ => 0), fun _ => none, (0, fun _ => 0), 0)
section Inits
variable {d p : Nat} {b : Nat × Nat} {P : List mC} {K : Option Value → mH → Prop}
theorem x7_init {n : Nat} (hP : P.length = p) (hp : 1 ≤ p) (hn : n ≤ 100000) (b1 : 1 ≤ b.1) (b2 : n ≤ b.2) (hK : K none (HL (P ++ [.inr (6, [.ref (p + 1), .int (-1), .int 0]), .inl (0, n, .inl fun _ => 0)]))) : Ev (d + 1) b MX7_init [.ref p, .int (nI n)] (HL (P ++ [.inr (6, [.null, .int 0, .int 0])])) K := by
  refine en_X7_init (bk_X7_init_0 _ _ ⟨n, lt_f (b := 0) (by omega) (by omega), nI_clamp (by omega), hn, b1, b2, fun h2 e2 => ?_⟩)
  subst e2
  exact ⟨_, nw_put hP (Nat.le_of_ble_eq_true rfl) rfl rfl rfl, _, HL_put hP (Nat.le_of_ble_eq_true rfl) rfl, HL_z (by omega), hK⟩
theorem x3_init (hP : P.length = p) (hp : 1 ≤ p) (b1 : 1 ≤ b.1) (b2 : 8 ≤ b.2) (hK : K none (HL (P ++ [.inr (3, [.ref (p + 1), .int 0, .long 0, .long 0]), .inl (1, 8, .inr (.inl fun _ => 0))]))) : Ev (d + 1) b MX3_init [.ref p] (HL (P ++ [.inr (3, [.null, .int 0, .long 0, .long 0])])) K := by
  refine en_X3_init (bk_X3_init_0 _ ⟨8, by decide, by decide, by decide, b1, b2, fun h2 e2 => ?_⟩)
  subst e2
  exact ⟨_, nw_put hP (Nat.le_of_ble_eq_true rfl) rfl rfl rfl, HL_z (by omega), hK⟩
theorem x2_init (hP : P.length = p) (hp : 1 ≤ p) (b1 : 2 ≤ b.1) (b2 : 210 ≤ b.2) (hK : K none (HL (P ++ [.inr (2, [.ref (p + 1), .ref (p + 2), .int 0]), .inl (1, 66, .inr (.inl fun _ => 0)), .inl (1, 144, .inr (.inl fun _ => 0))]))) : Ev (d + 1) b MX2_init [.ref p] (HL (P ++ [.inr (2, [.null, .null, .int 0])])) K := by
  refine en_X2_init (bk_X2_init_0 _ ⟨66, by decide, by decide, by decide, by omega, by omega, fun h2 e2 => ?_⟩)
  subst e2
  refine ⟨_, nw_put hP (Nat.le_of_ble_eq_true rfl) rfl rfl rfl, 144, by decide, by decide, by decide, by omega, by omega, fun h2 e2 => ?_⟩
  subst e2
  exact ⟨_, nw_put hP (Nat.le_of_ble_eq_true rfl) rfl rfl rfl, HL_z (by omega), hK⟩
theorem x8_init (hP : P.length = p) (hp : 1 ≤ p) (b1 : 2 ≤ b.1) (b2 : 462 ≤ b.2) (hK : K none (HL (P ++ [.inr (7, [.ref (p + 1), .ref (p + 2), .int 0, .int 0]), .inl (1, 42, .inr (.inl fun _ => 0)), .inl (1, 420, .inr (.inl fun _ => 0))]))) : Ev (d + 1) b MX8_init [.ref p] (HL (P ++ [.inr (7, [.null, .null, .int 0, .int 0])])) K := by
  refine en_X8_init (bk_X8_init_0 _ ⟨42, by decide, by decide, by decide, by omega, by omega, fun h2 e2 => ?_⟩)
  subst e2
  refine ⟨_, nw_put hP (Nat.le_of_ble_eq_true rfl) rfl rfl rfl, 420, by decide, by decide, by decide, by omega, by omega, fun h2 e2 => ?_⟩
  subst e2
  exact ⟨_, nw_put hP (Nat.le_of_ble_eq_true rfl) rfl rfl rfl, HL_z (by omega), hK⟩
theorem x6_init (hP : P.length = p) (hp : 1 ≤ p) (b1 : 3 ≤ b.1) (b2 : 2412 ≤ b.2) (hK : K none (HL (P ++ [.inr (5, [.ref (p + 1), .ref (p + 3), .int 0]), .inr (3, [.ref (p + 2), .int 0, .long 0, .long 0]), .inl (1, 8, .inr (.inl fun _ => 0)), .inl (1, 2400, .inr (.inl fun _ => 0))]))) : Ev (d + 2) b MX6_init [.ref p] (HL (P ++ [.inr (5, [.null, .null, .int 0])])) K := by
  refine en_X6_init (bk_X6_init_0 _ ⟨by omega, by omega, fun h1 e1 => ?_⟩)
  have hP' : (P ++ ([.inr (5, [.null, .null, .int 0])] : List mC)).length = p + 1 := by rw [List.length_append, hP]; rfl
  rw [HL_push] at e1
  subst e1
  rw [show (HL (P ++ [.inr (5, [.null, .null, .int 0])])).2 = p + 1 from hP']
  refine ⟨(1, 8), by show 1 ≤ b.1 - 1; omega, by show 8 ≤ b.2 - 4; omega, x3_init hP' (by omega) (by decide) (by decide) ⟨rfl, ?_⟩⟩
  rw [List.append_assoc]
  refine ⟨_, HL_put hP (Nat.le_of_ble_eq_true rfl) rfl, 2400, by decide, by decide, by decide, by show 1 ≤ b.1 - 1 - 1; omega, by show 2400 ≤ b.2 - 4 - 8; omega, fun h7 e7 => ?_⟩
  subst e7
  exact ⟨_, nw_put hP (Nat.le_of_ble_eq_true rfl) rfl rfl rfl, HL_z (by omega), hK⟩
end Inits

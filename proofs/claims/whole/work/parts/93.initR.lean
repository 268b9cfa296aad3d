/-! what is made first: the reference -/
def ln8 : Nat → Int32 := upd (upd (upd (upd (upd (upd (upd (upd (fun _ => 0) 0 (-1)) 1 (-1)) 2 (-1)) 3 (-1)) 4 (-1)) 5 (-1)) 6 (-1)) 7 (-1)
theorem ln8_at : ∀ s, s < 8 → ln8 s = -1 := by decide
def FIN : List mC := .inr (11, [.int 0, .int 0, .ref 35, .ref 36, .ref 37, .ref 38, .ref 39, .ref 40, .ref 41, .ref 42, .ref 43, .ref 44, .ref 45, .ref 46, .ref 47, .ref 48, .ref 49, .ref 50, .ref 51, .ref 52, .int 0, .int 0, .ref 53, .ref 54, .ref 55, .ref 56]) :: [.inl (0, 8, .inl ln8), .inl (0, 8, .inl fun _ => 0), .inl (0, 768, .inl fun _ => 0), .inl (0, 13, .inl fun _ => 0), .inl (0, 13, .inl fun _ => 0), .inl (0, 1248, .inl fun _ => 0), .inl (2, 12, .inl fun _ => 0), .inl (0, 12, .inl fun _ => 0), .inl (0, 12, .inl fun _ => 0), .inl (0, 12, .inl fun _ => 0), .inl (0, 12, .inl fun _ => 0), .inl (0, 12, .inl fun _ => 0), .inl (2, 144, .inl fun _ => 0), .inl (0, 1728, .inl fun _ => 0), .inl (0, 12, .inl fun _ => 0), .inl (0, 12, .inl fun _ => 0), .inl (0, 28800, .inl fun _ => 0), .inl (0, 16, .inl fun _ => 0), .inl (0, 430, .inl fun _ => 0), .inl (0, 10, .inl fun _ => 0), .inl (1, 43, .inr (.inl fun _ => 0)), .inl (1, 43, .inr (.inl fun _ => 0))]
theorem HL_k {P X : List mC} {p : Nat} (hP : P.length = p) (k : Nat) : (HL (P ++ X)).1 (p + k) = X.getD k m_dead := by
  show (P ++ X).getD (p + k) m_dead = X.getD k m_dead
  rw [List.getD_eq_getElem?_getD, List.getD_eq_getElem?_getD, List.getElem?_append_right (by omega), show p + k - P.length = k by omega]
theorem fin_i : ∀ k, 1 ≤ k → k ≤ 20 → FIN.getD k m_dead = .inl (rknd (34 + k), rlen (34 + k), .inl (if 34 + k = 35 then ln8 else fun _ => 0))
  | 0, h, _ => absurd h (by decide)
  | 1, _, _ => rfl
  | 2, _, _ => rfl
  | 3, _, _ => rfl
  | 4, _, _ => rfl
  | 5, _, _ => rfl
  | 6, _, _ => rfl
  | 7, _, _ => rfl
  | 8, _, _ => rfl
  | 9, _, _ => rfl
  | 10, _, _ => rfl
  | 11, _, _ => rfl
  | 12, _, _ => rfl
  | 13, _, _ => rfl
  | 14, _, _ => rfl
  | 15, _, _ => rfl
  | 16, _, _ => rfl
  | 17, _, _ => rfl
  | 18, _, _ => rfl
  | 19, _, _ => rfl
  | 20, _, _ => rfl
  | k + 21, _, h => absurd h (by omega)
theorem rf0 {P : List mC} (hP : P.length = 34) : RFs (HL (P ++ FIN)) st0 := by
  refine ⟨((0, 0, 0, 0), fun a => if a = 35 then ln8 else fun _ => 0, fun _ _ => 0), ⟨HL_k hP 0, fun a h1 h2 => ?_, fun a h1 h2 => ?_⟩, rfl, fun s hs => ⟨ln8_at s hs, fun q => absurd rfl q, fun x _ => rfl⟩, fun p _ => rfl, rfl, fun x hx => absurd hx (Nat.not_lt_zero x)⟩
  · obtain ⟨k, rfl⟩ : ∃ k, a = 34 + k := ⟨a - 34, by omega⟩
    rw [HL_k hP]
    exact fin_i k (by omega) (by omega)
  · rcases (show a = 55 ∨ a = 56 by omega) with e | e
    · rw [e]; exact HL_k hP 21
    · rw [e]; exact HL_k hP 22
theorem x12_init {d : Nat} {P : List mC} {K : Option Value → mH → Prop} (hP : P.length = 34) (hK : ∀ X : List mC, X.length = 23 → RFs (HL (P ++ X)) st0 → K none (HL (P ++ X))) : Ev (d + 1) (30, 40000) MX12_init [.ref 34] (HL (P ++ [.inr (11, [.int 0, .int 0, .null, .null, .null, .null, .null, .null, .null, .null, .null, .null, .null, .null, .null, .null, .null, .null, .null, .null, .int 0, .int 0, .null, .null, .null, .null])])) K := by
  refine en_X12_init (bk_X12_init_0 _ ⟨8, by decide, by decide, by decide, by decide, by decide, fun h2 e2 => ?_⟩)
  rw [HL_push, List.append_assoc] at e2
  subst e2
  rw [show (HL (P ++ ([.inr (11, [.int 0, .int 0, .null, .null, .null, .null, .null, .null, .null, .null, .null, .null, .null, .null, .null, .null, .null, .null, .null, .null, .int 0, .int 0, .null, .null, .null, .null])] : List mC))).2 = 35 from by rw [HL_len hP]; rfl]
  refine ⟨_, HL_is (j := 0) hP (by decide) (by decide), _, HL_is (j := 1) hP (by decide) (by decide), _, HL_is (j := 2) hP (by decide) (by decide), _, HL_is (j := 3) hP (by decide) (by decide), _, HL_is (j := 4) hP (by decide) (by decide), _, HL_is (j := 5) hP (by decide) (by decide), _, HL_is (j := 6) hP (by decide) (by decide), _, HL_is (j := 7) hP (by decide) (by decide), HL (P ++ .inr (11, [.int 0, .int 0, .ref 35, .null, .null, .null, .null, .null, .null, .null, .null, .null, .null, .null, .null, .null, .null, .null, .null, .null, .int 0, .int 0, .null, .null, .null, .null]) :: [.inl (0, 8, .inl ln8)]), HL_put hP (Nat.le_of_ble_eq_true rfl) rfl, ?_⟩
  refine ⟨8, by decide, by decide, by decide, by decide, by decide, fun h2 e2 => ?_⟩
  subst e2
  refine ⟨HL (P ++ .inr (11, [.int 0, .int 0, .ref 35, .ref 36, .null, .null, .null, .null, .null, .null, .null, .null, .null, .null, .null, .null, .null, .null, .null, .null, .int 0, .int 0, .null, .null, .null, .null]) :: [.inl (0, 8, .inl ln8), .inl (0, 8, .inl fun _ => 0)]), nw_put hP (Nat.le_of_ble_eq_true rfl) rfl rfl rfl, ?_⟩
  refine ⟨768, by decide, by decide, by decide, by decide, by decide, fun h2 e2 => ?_⟩
  subst e2
  refine ⟨HL (P ++ .inr (11, [.int 0, .int 0, .ref 35, .ref 36, .ref 37, .null, .null, .null, .null, .null, .null, .null, .null, .null, .null, .null, .null, .null, .null, .null, .int 0, .int 0, .null, .null, .null, .null]) :: [.inl (0, 8, .inl ln8), .inl (0, 8, .inl fun _ => 0), .inl (0, 768, .inl fun _ => 0)]), nw_put hP (Nat.le_of_ble_eq_true rfl) rfl rfl rfl, ?_⟩
  refine ⟨13, by decide, by decide, by decide, by decide, by decide, fun h2 e2 => ?_⟩
  subst e2
  refine ⟨HL (P ++ .inr (11, [.int 0, .int 0, .ref 35, .ref 36, .ref 37, .ref 38, .null, .null, .null, .null, .null, .null, .null, .null, .null, .null, .null, .null, .null, .null, .int 0, .int 0, .null, .null, .null, .null]) :: [.inl (0, 8, .inl ln8), .inl (0, 8, .inl fun _ => 0), .inl (0, 768, .inl fun _ => 0), .inl (0, 13, .inl fun _ => 0)]), nw_put hP (Nat.le_of_ble_eq_true rfl) rfl rfl rfl, ?_⟩
  refine ⟨13, by decide, by decide, by decide, by decide, by decide, fun h2 e2 => ?_⟩
  subst e2
  refine ⟨HL (P ++ .inr (11, [.int 0, .int 0, .ref 35, .ref 36, .ref 37, .ref 38, .ref 39, .null, .null, .null, .null, .null, .null, .null, .null, .null, .null, .null, .null, .null, .int 0, .int 0, .null, .null, .null, .null]) :: [.inl (0, 8, .inl ln8), .inl (0, 8, .inl fun _ => 0), .inl (0, 768, .inl fun _ => 0), .inl (0, 13, .inl fun _ => 0), .inl (0, 13, .inl fun _ => 0)]), nw_put hP (Nat.le_of_ble_eq_true rfl) rfl rfl rfl, ?_⟩
  refine ⟨1248, by decide, by decide, by decide, by decide, by decide, fun h2 e2 => ?_⟩
  subst e2
  refine ⟨HL (P ++ .inr (11, [.int 0, .int 0, .ref 35, .ref 36, .ref 37, .ref 38, .ref 39, .ref 40, .null, .null, .null, .null, .null, .null, .null, .null, .null, .null, .null, .null, .int 0, .int 0, .null, .null, .null, .null]) :: [.inl (0, 8, .inl ln8), .inl (0, 8, .inl fun _ => 0), .inl (0, 768, .inl fun _ => 0), .inl (0, 13, .inl fun _ => 0), .inl (0, 13, .inl fun _ => 0), .inl (0, 1248, .inl fun _ => 0)]), nw_put hP (Nat.le_of_ble_eq_true rfl) rfl rfl rfl, ?_⟩
  refine ⟨12, by decide, by decide, by decide, by decide, by decide, fun h2 e2 => ?_⟩
  subst e2
  refine ⟨HL (P ++ .inr (11, [.int 0, .int 0, .ref 35, .ref 36, .ref 37, .ref 38, .ref 39, .ref 40, .ref 41, .null, .null, .null, .null, .null, .null, .null, .null, .null, .null, .null, .int 0, .int 0, .null, .null, .null, .null]) :: [.inl (0, 8, .inl ln8), .inl (0, 8, .inl fun _ => 0), .inl (0, 768, .inl fun _ => 0), .inl (0, 13, .inl fun _ => 0), .inl (0, 13, .inl fun _ => 0), .inl (0, 1248, .inl fun _ => 0), .inl (2, 12, .inl fun _ => 0)]), nw_put hP (Nat.le_of_ble_eq_true rfl) rfl rfl rfl, ?_⟩
  refine ⟨12, by decide, by decide, by decide, by decide, by decide, fun h2 e2 => ?_⟩
  subst e2
  refine ⟨HL (P ++ .inr (11, [.int 0, .int 0, .ref 35, .ref 36, .ref 37, .ref 38, .ref 39, .ref 40, .ref 41, .ref 42, .null, .null, .null, .null, .null, .null, .null, .null, .null, .null, .int 0, .int 0, .null, .null, .null, .null]) :: [.inl (0, 8, .inl ln8), .inl (0, 8, .inl fun _ => 0), .inl (0, 768, .inl fun _ => 0), .inl (0, 13, .inl fun _ => 0), .inl (0, 13, .inl fun _ => 0), .inl (0, 1248, .inl fun _ => 0), .inl (2, 12, .inl fun _ => 0), .inl (0, 12, .inl fun _ => 0)]), nw_put hP (Nat.le_of_ble_eq_true rfl) rfl rfl rfl, ?_⟩
  refine ⟨12, by decide, by decide, by decide, by decide, by decide, fun h2 e2 => ?_⟩
  subst e2
  refine ⟨HL (P ++ .inr (11, [.int 0, .int 0, .ref 35, .ref 36, .ref 37, .ref 38, .ref 39, .ref 40, .ref 41, .ref 42, .ref 43, .null, .null, .null, .null, .null, .null, .null, .null, .null, .int 0, .int 0, .null, .null, .null, .null]) :: [.inl (0, 8, .inl ln8), .inl (0, 8, .inl fun _ => 0), .inl (0, 768, .inl fun _ => 0), .inl (0, 13, .inl fun _ => 0), .inl (0, 13, .inl fun _ => 0), .inl (0, 1248, .inl fun _ => 0), .inl (2, 12, .inl fun _ => 0), .inl (0, 12, .inl fun _ => 0), .inl (0, 12, .inl fun _ => 0)]), nw_put hP (Nat.le_of_ble_eq_true rfl) rfl rfl rfl, ?_⟩
  refine ⟨12, by decide, by decide, by decide, by decide, by decide, fun h2 e2 => ?_⟩
  subst e2
  refine ⟨HL (P ++ .inr (11, [.int 0, .int 0, .ref 35, .ref 36, .ref 37, .ref 38, .ref 39, .ref 40, .ref 41, .ref 42, .ref 43, .ref 44, .null, .null, .null, .null, .null, .null, .null, .null, .int 0, .int 0, .null, .null, .null, .null]) :: [.inl (0, 8, .inl ln8), .inl (0, 8, .inl fun _ => 0), .inl (0, 768, .inl fun _ => 0), .inl (0, 13, .inl fun _ => 0), .inl (0, 13, .inl fun _ => 0), .inl (0, 1248, .inl fun _ => 0), .inl (2, 12, .inl fun _ => 0), .inl (0, 12, .inl fun _ => 0), .inl (0, 12, .inl fun _ => 0), .inl (0, 12, .inl fun _ => 0)]), nw_put hP (Nat.le_of_ble_eq_true rfl) rfl rfl rfl, ?_⟩
  refine ⟨12, by decide, by decide, by decide, by decide, by decide, fun h2 e2 => ?_⟩
  subst e2
  refine ⟨HL (P ++ .inr (11, [.int 0, .int 0, .ref 35, .ref 36, .ref 37, .ref 38, .ref 39, .ref 40, .ref 41, .ref 42, .ref 43, .ref 44, .ref 45, .null, .null, .null, .null, .null, .null, .null, .int 0, .int 0, .null, .null, .null, .null]) :: [.inl (0, 8, .inl ln8), .inl (0, 8, .inl fun _ => 0), .inl (0, 768, .inl fun _ => 0), .inl (0, 13, .inl fun _ => 0), .inl (0, 13, .inl fun _ => 0), .inl (0, 1248, .inl fun _ => 0), .inl (2, 12, .inl fun _ => 0), .inl (0, 12, .inl fun _ => 0), .inl (0, 12, .inl fun _ => 0), .inl (0, 12, .inl fun _ => 0), .inl (0, 12, .inl fun _ => 0)]), nw_put hP (Nat.le_of_ble_eq_true rfl) rfl rfl rfl, ?_⟩
  refine ⟨12, by decide, by decide, by decide, by decide, by decide, fun h2 e2 => ?_⟩
  subst e2
  refine ⟨HL (P ++ .inr (11, [.int 0, .int 0, .ref 35, .ref 36, .ref 37, .ref 38, .ref 39, .ref 40, .ref 41, .ref 42, .ref 43, .ref 44, .ref 45, .ref 46, .null, .null, .null, .null, .null, .null, .int 0, .int 0, .null, .null, .null, .null]) :: [.inl (0, 8, .inl ln8), .inl (0, 8, .inl fun _ => 0), .inl (0, 768, .inl fun _ => 0), .inl (0, 13, .inl fun _ => 0), .inl (0, 13, .inl fun _ => 0), .inl (0, 1248, .inl fun _ => 0), .inl (2, 12, .inl fun _ => 0), .inl (0, 12, .inl fun _ => 0), .inl (0, 12, .inl fun _ => 0), .inl (0, 12, .inl fun _ => 0), .inl (0, 12, .inl fun _ => 0), .inl (0, 12, .inl fun _ => 0)]), nw_put hP (Nat.le_of_ble_eq_true rfl) rfl rfl rfl, ?_⟩
  refine ⟨144, by decide, by decide, by decide, by decide, by decide, fun h2 e2 => ?_⟩
  subst e2
  refine ⟨HL (P ++ .inr (11, [.int 0, .int 0, .ref 35, .ref 36, .ref 37, .ref 38, .ref 39, .ref 40, .ref 41, .ref 42, .ref 43, .ref 44, .ref 45, .ref 46, .ref 47, .null, .null, .null, .null, .null, .int 0, .int 0, .null, .null, .null, .null]) :: [.inl (0, 8, .inl ln8), .inl (0, 8, .inl fun _ => 0), .inl (0, 768, .inl fun _ => 0), .inl (0, 13, .inl fun _ => 0), .inl (0, 13, .inl fun _ => 0), .inl (0, 1248, .inl fun _ => 0), .inl (2, 12, .inl fun _ => 0), .inl (0, 12, .inl fun _ => 0), .inl (0, 12, .inl fun _ => 0), .inl (0, 12, .inl fun _ => 0), .inl (0, 12, .inl fun _ => 0), .inl (0, 12, .inl fun _ => 0), .inl (2, 144, .inl fun _ => 0)]), nw_put hP (Nat.le_of_ble_eq_true rfl) rfl rfl rfl, ?_⟩
  refine ⟨1728, by decide, by decide, by decide, by decide, by decide, fun h2 e2 => ?_⟩
  subst e2
  refine ⟨HL (P ++ .inr (11, [.int 0, .int 0, .ref 35, .ref 36, .ref 37, .ref 38, .ref 39, .ref 40, .ref 41, .ref 42, .ref 43, .ref 44, .ref 45, .ref 46, .ref 47, .ref 48, .null, .null, .null, .null, .int 0, .int 0, .null, .null, .null, .null]) :: [.inl (0, 8, .inl ln8), .inl (0, 8, .inl fun _ => 0), .inl (0, 768, .inl fun _ => 0), .inl (0, 13, .inl fun _ => 0), .inl (0, 13, .inl fun _ => 0), .inl (0, 1248, .inl fun _ => 0), .inl (2, 12, .inl fun _ => 0), .inl (0, 12, .inl fun _ => 0), .inl (0, 12, .inl fun _ => 0), .inl (0, 12, .inl fun _ => 0), .inl (0, 12, .inl fun _ => 0), .inl (0, 12, .inl fun _ => 0), .inl (2, 144, .inl fun _ => 0), .inl (0, 1728, .inl fun _ => 0)]), nw_put hP (Nat.le_of_ble_eq_true rfl) rfl rfl rfl, ?_⟩
  refine ⟨12, by decide, by decide, by decide, by decide, by decide, fun h2 e2 => ?_⟩
  subst e2
  refine ⟨HL (P ++ .inr (11, [.int 0, .int 0, .ref 35, .ref 36, .ref 37, .ref 38, .ref 39, .ref 40, .ref 41, .ref 42, .ref 43, .ref 44, .ref 45, .ref 46, .ref 47, .ref 48, .ref 49, .null, .null, .null, .int 0, .int 0, .null, .null, .null, .null]) :: [.inl (0, 8, .inl ln8), .inl (0, 8, .inl fun _ => 0), .inl (0, 768, .inl fun _ => 0), .inl (0, 13, .inl fun _ => 0), .inl (0, 13, .inl fun _ => 0), .inl (0, 1248, .inl fun _ => 0), .inl (2, 12, .inl fun _ => 0), .inl (0, 12, .inl fun _ => 0), .inl (0, 12, .inl fun _ => 0), .inl (0, 12, .inl fun _ => 0), .inl (0, 12, .inl fun _ => 0), .inl (0, 12, .inl fun _ => 0), .inl (2, 144, .inl fun _ => 0), .inl (0, 1728, .inl fun _ => 0), .inl (0, 12, .inl fun _ => 0)]), nw_put hP (Nat.le_of_ble_eq_true rfl) rfl rfl rfl, ?_⟩
  refine ⟨12, by decide, by decide, by decide, by decide, by decide, fun h2 e2 => ?_⟩
  subst e2
  refine ⟨HL (P ++ .inr (11, [.int 0, .int 0, .ref 35, .ref 36, .ref 37, .ref 38, .ref 39, .ref 40, .ref 41, .ref 42, .ref 43, .ref 44, .ref 45, .ref 46, .ref 47, .ref 48, .ref 49, .ref 50, .null, .null, .int 0, .int 0, .null, .null, .null, .null]) :: [.inl (0, 8, .inl ln8), .inl (0, 8, .inl fun _ => 0), .inl (0, 768, .inl fun _ => 0), .inl (0, 13, .inl fun _ => 0), .inl (0, 13, .inl fun _ => 0), .inl (0, 1248, .inl fun _ => 0), .inl (2, 12, .inl fun _ => 0), .inl (0, 12, .inl fun _ => 0), .inl (0, 12, .inl fun _ => 0), .inl (0, 12, .inl fun _ => 0), .inl (0, 12, .inl fun _ => 0), .inl (0, 12, .inl fun _ => 0), .inl (2, 144, .inl fun _ => 0), .inl (0, 1728, .inl fun _ => 0), .inl (0, 12, .inl fun _ => 0), .inl (0, 12, .inl fun _ => 0)]), nw_put hP (Nat.le_of_ble_eq_true rfl) rfl rfl rfl, ?_⟩
  refine ⟨28800, by decide, by decide, by decide, by decide, by decide, fun h2 e2 => ?_⟩
  subst e2
  refine ⟨HL (P ++ .inr (11, [.int 0, .int 0, .ref 35, .ref 36, .ref 37, .ref 38, .ref 39, .ref 40, .ref 41, .ref 42, .ref 43, .ref 44, .ref 45, .ref 46, .ref 47, .ref 48, .ref 49, .ref 50, .ref 51, .null, .int 0, .int 0, .null, .null, .null, .null]) :: [.inl (0, 8, .inl ln8), .inl (0, 8, .inl fun _ => 0), .inl (0, 768, .inl fun _ => 0), .inl (0, 13, .inl fun _ => 0), .inl (0, 13, .inl fun _ => 0), .inl (0, 1248, .inl fun _ => 0), .inl (2, 12, .inl fun _ => 0), .inl (0, 12, .inl fun _ => 0), .inl (0, 12, .inl fun _ => 0), .inl (0, 12, .inl fun _ => 0), .inl (0, 12, .inl fun _ => 0), .inl (0, 12, .inl fun _ => 0), .inl (2, 144, .inl fun _ => 0), .inl (0, 1728, .inl fun _ => 0), .inl (0, 12, .inl fun _ => 0), .inl (0, 12, .inl fun _ => 0), .inl (0, 28800, .inl fun _ => 0)]), nw_put hP (Nat.le_of_ble_eq_true rfl) rfl rfl rfl, ?_⟩
  refine ⟨16, by decide, by decide, by decide, by decide, by decide, fun h2 e2 => ?_⟩
  subst e2
  refine ⟨HL (P ++ .inr (11, [.int 0, .int 0, .ref 35, .ref 36, .ref 37, .ref 38, .ref 39, .ref 40, .ref 41, .ref 42, .ref 43, .ref 44, .ref 45, .ref 46, .ref 47, .ref 48, .ref 49, .ref 50, .ref 51, .ref 52, .int 0, .int 0, .null, .null, .null, .null]) :: [.inl (0, 8, .inl ln8), .inl (0, 8, .inl fun _ => 0), .inl (0, 768, .inl fun _ => 0), .inl (0, 13, .inl fun _ => 0), .inl (0, 13, .inl fun _ => 0), .inl (0, 1248, .inl fun _ => 0), .inl (2, 12, .inl fun _ => 0), .inl (0, 12, .inl fun _ => 0), .inl (0, 12, .inl fun _ => 0), .inl (0, 12, .inl fun _ => 0), .inl (0, 12, .inl fun _ => 0), .inl (0, 12, .inl fun _ => 0), .inl (2, 144, .inl fun _ => 0), .inl (0, 1728, .inl fun _ => 0), .inl (0, 12, .inl fun _ => 0), .inl (0, 12, .inl fun _ => 0), .inl (0, 28800, .inl fun _ => 0), .inl (0, 16, .inl fun _ => 0)]), nw_put hP (Nat.le_of_ble_eq_true rfl) rfl rfl rfl, ?_⟩
  refine ⟨430, by decide, by decide, by decide, by decide, by decide, fun h2 e2 => ?_⟩
  subst e2
  refine ⟨HL (P ++ .inr (11, [.int 0, .int 0, .ref 35, .ref 36, .ref 37, .ref 38, .ref 39, .ref 40, .ref 41, .ref 42, .ref 43, .ref 44, .ref 45, .ref 46, .ref 47, .ref 48, .ref 49, .ref 50, .ref 51, .ref 52, .int 0, .int 0, .ref 53, .null, .null, .null]) :: [.inl (0, 8, .inl ln8), .inl (0, 8, .inl fun _ => 0), .inl (0, 768, .inl fun _ => 0), .inl (0, 13, .inl fun _ => 0), .inl (0, 13, .inl fun _ => 0), .inl (0, 1248, .inl fun _ => 0), .inl (2, 12, .inl fun _ => 0), .inl (0, 12, .inl fun _ => 0), .inl (0, 12, .inl fun _ => 0), .inl (0, 12, .inl fun _ => 0), .inl (0, 12, .inl fun _ => 0), .inl (0, 12, .inl fun _ => 0), .inl (2, 144, .inl fun _ => 0), .inl (0, 1728, .inl fun _ => 0), .inl (0, 12, .inl fun _ => 0), .inl (0, 12, .inl fun _ => 0), .inl (0, 28800, .inl fun _ => 0), .inl (0, 16, .inl fun _ => 0), .inl (0, 430, .inl fun _ => 0)]), nw_put hP (Nat.le_of_ble_eq_true rfl) rfl rfl rfl, ?_⟩
  refine ⟨10, by decide, by decide, by decide, by decide, by decide, fun h2 e2 => ?_⟩
  subst e2
  refine ⟨HL (P ++ .inr (11, [.int 0, .int 0, .ref 35, .ref 36, .ref 37, .ref 38, .ref 39, .ref 40, .ref 41, .ref 42, .ref 43, .ref 44, .ref 45, .ref 46, .ref 47, .ref 48, .ref 49, .ref 50, .ref 51, .ref 52, .int 0, .int 0, .ref 53, .ref 54, .null, .null]) :: [.inl (0, 8, .inl ln8), .inl (0, 8, .inl fun _ => 0), .inl (0, 768, .inl fun _ => 0), .inl (0, 13, .inl fun _ => 0), .inl (0, 13, .inl fun _ => 0), .inl (0, 1248, .inl fun _ => 0), .inl (2, 12, .inl fun _ => 0), .inl (0, 12, .inl fun _ => 0), .inl (0, 12, .inl fun _ => 0), .inl (0, 12, .inl fun _ => 0), .inl (0, 12, .inl fun _ => 0), .inl (0, 12, .inl fun _ => 0), .inl (2, 144, .inl fun _ => 0), .inl (0, 1728, .inl fun _ => 0), .inl (0, 12, .inl fun _ => 0), .inl (0, 12, .inl fun _ => 0), .inl (0, 28800, .inl fun _ => 0), .inl (0, 16, .inl fun _ => 0), .inl (0, 430, .inl fun _ => 0), .inl (0, 10, .inl fun _ => 0)]), nw_put hP (Nat.le_of_ble_eq_true rfl) rfl rfl rfl, ?_⟩
  refine ⟨43, by decide, by decide, by decide, by decide, by decide, fun h2 e2 => ?_⟩
  subst e2
  refine ⟨HL (P ++ .inr (11, [.int 0, .int 0, .ref 35, .ref 36, .ref 37, .ref 38, .ref 39, .ref 40, .ref 41, .ref 42, .ref 43, .ref 44, .ref 45, .ref 46, .ref 47, .ref 48, .ref 49, .ref 50, .ref 51, .ref 52, .int 0, .int 0, .ref 53, .ref 54, .ref 55, .null]) :: [.inl (0, 8, .inl ln8), .inl (0, 8, .inl fun _ => 0), .inl (0, 768, .inl fun _ => 0), .inl (0, 13, .inl fun _ => 0), .inl (0, 13, .inl fun _ => 0), .inl (0, 1248, .inl fun _ => 0), .inl (2, 12, .inl fun _ => 0), .inl (0, 12, .inl fun _ => 0), .inl (0, 12, .inl fun _ => 0), .inl (0, 12, .inl fun _ => 0), .inl (0, 12, .inl fun _ => 0), .inl (0, 12, .inl fun _ => 0), .inl (2, 144, .inl fun _ => 0), .inl (0, 1728, .inl fun _ => 0), .inl (0, 12, .inl fun _ => 0), .inl (0, 12, .inl fun _ => 0), .inl (0, 28800, .inl fun _ => 0), .inl (0, 16, .inl fun _ => 0), .inl (0, 430, .inl fun _ => 0), .inl (0, 10, .inl fun _ => 0), .inl (1, 43, .inr (.inl fun _ => 0))]), nw_put hP (Nat.le_of_ble_eq_true rfl) rfl rfl rfl, ?_⟩
  refine ⟨43, by decide, by decide, by decide, by decide, by decide, fun h2 e2 => ?_⟩
  subst e2
  refine ⟨HL (P ++ .inr (11, [.int 0, .int 0, .ref 35, .ref 36, .ref 37, .ref 38, .ref 39, .ref 40, .ref 41, .ref 42, .ref 43, .ref 44, .ref 45, .ref 46, .ref 47, .ref 48, .ref 49, .ref 50, .ref 51, .ref 52, .int 0, .int 0, .ref 53, .ref 54, .ref 55, .ref 56]) :: [.inl (0, 8, .inl ln8), .inl (0, 8, .inl fun _ => 0), .inl (0, 768, .inl fun _ => 0), .inl (0, 13, .inl fun _ => 0), .inl (0, 13, .inl fun _ => 0), .inl (0, 1248, .inl fun _ => 0), .inl (2, 12, .inl fun _ => 0), .inl (0, 12, .inl fun _ => 0), .inl (0, 12, .inl fun _ => 0), .inl (0, 12, .inl fun _ => 0), .inl (0, 12, .inl fun _ => 0), .inl (0, 12, .inl fun _ => 0), .inl (2, 144, .inl fun _ => 0), .inl (0, 1728, .inl fun _ => 0), .inl (0, 12, .inl fun _ => 0), .inl (0, 12, .inl fun _ => 0), .inl (0, 28800, .inl fun _ => 0), .inl (0, 16, .inl fun _ => 0), .inl (0, 430, .inl fun _ => 0), .inl (0, 10, .inl fun _ => 0), .inl (1, 43, .inr (.inl fun _ => 0)), .inl (1, 43, .inr (.inl fun _ => 0))]), nw_put hP (Nat.le_of_ble_eq_true rfl) rfl rfl rfl, ?_⟩
  exact ⟨HL_z (by omega), hK FIN rfl (rf0 hP)⟩

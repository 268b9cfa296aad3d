/-! what is made first: the class -/
def fi (i : Nat) : Nat → Option Nat := fun j => if j < i then some (3 + 2 * j) else none
theorem fi_0 : fi 0 = fun _ => none := funext fun j => if_neg (by omega)
theorem fi_up (i : Nat) : va_up (fi i) i (some (3 + 2 * i)) = fi (i + 1) := funext fun j => by
  show (if j = i then some (3 + 2 * i) else if j < i then some (3 + 2 * j) else none) = (if j < i + 1 then some (3 + 2 * j) else none)
  by_cases e : j = i
  · rw [if_pos e, if_pos (by omega), e]
  · rw [if_neg e]
    by_cases w : j < i
    · rw [if_pos w, if_pos (by omega)]
    · rw [if_neg w, if_neg (by omega)]
def rwc (i : Nat) : List mC := [.inr (6, [.ref (3 + 2 * i + 1), .int (-1), .int 0]), .inl (0, 96, .inl fun _ => 0)]
def rws : Nat → List mC
  | 0 => []
  | i + 1 => rws i ++ rwc i
theorem rws_len : ∀ i, (rws i).length = 2 * i
  | 0 => rfl
  | i + 1 => by
    show (rws i ++ rwc i).length = _
    rw [List.length_append, rws_len i]
    show 2 * i + 2 = _
    omega
def ra (i : Nat) : mC := .inl (3, 8, .inr (.inr (.inr (.inr (fi i)))))
def oc (a1 a2 a3 a4 a5 a6 : Value) : mC := .inr (10, [.ref 2, a1, a2, a3, a4, a5, a6, .int 0])
def S1 : List mC := (ra 8 :: rws 8) ++ [.inl (4, 10, .inr (.inr (.inr (.inr fun _ => none))))]
def T1 : List mC := S1 ++ [.inr (6, [.ref 21, .int (-1), .int 0]), .inl (0, 16, .inl fun _ => 0)]
def S2 (g : Nat → Int32) : List mC := S1 ++ [.inr (6, [.ref 21, .int 2, .int (nI 0)]), .inl (0, 16, .inl g)]
def S3 (g : Nat → Int32) : List mC := S2 g ++ [.inr (3, [.ref 23, .int 0, .long 0, .long 0]), .inl (1, 8, .inr (.inl fun _ => 0))]
def S4 (g : Nat → Int32) : List mC := S3 g ++ [.inr (5, [.ref 25, .ref 27, .int 0]), .inr (3, [.ref 26, .int 0, .long 0, .long 0]), .inl (1, 8, .inr (.inl fun _ => 0)), .inl (1, 2400, .inr (.inl fun _ => 0))]
def S5 (g : Nat → Int32) : List mC := S4 g ++ [.inr (2, [.ref 29, .ref 30, .int 0]), .inl (1, 66, .inr (.inl fun _ => 0)), .inl (1, 144, .inr (.inl fun _ => 0))]
def S6 (g : Nat → Int32) : List mC := S5 g ++ [.inr (7, [.ref 32, .ref 33, .int 0, .int 0]), .inl (1, 42, .inr (.inl fun _ => 0)), .inl (1, 420, .inr (.inl fun _ => 0))]
def oF : mC := oc (.ref 19) (.ref 20) (.ref 22) (.ref 24) (.ref 28) (.ref 31)
theorem cl0 {c0 : mC} {g : Nat → Int32} {X : List mC} (hX : X.length = 23) : CLs (HL (([c0] ++ oF :: S6 g) ++ X)) st0 := by
  refine ⟨rfl, ⟨⟨fi 8, rfl, fun i hi => if_pos hi⟩, fun i hi => ⟨⟨fun _ => 0, ?_, fun x _ => rfl⟩, Or.inl rfl⟩⟩, ⟨fun _ => none, rfl, fun p _ => Or.inl ⟨rfl, rfl⟩⟩, ⟨(0, g), ⟨rfl, rfl, Nat.zero_le _, by decide⟩, rfl, fun x hx => absurd hx (Nat.not_lt_zero x)⟩, ⟨⟨_, _, _, _, rfl, rfl⟩, ⟨⟨_, rfl⟩, ⟨_, _, _, _, rfl, rfl⟩, _, rfl⟩, ⟨_, _, _, rfl, rfl, rfl⟩, 0, by decide, rfl, ⟨_, rfl, fun s hs => absurd hs (Nat.not_lt_zero s)⟩, _, rfl, fun m hm s hs => absurd hs (Nat.not_lt_zero s)⟩, ?_⟩
  · match i, hi with
    | 0, _ => exact ⟨rfl, rfl, by decide, by decide⟩
    | 1, _ => exact ⟨rfl, rfl, by decide, by decide⟩
    | 2, _ => exact ⟨rfl, rfl, by decide, by decide⟩
    | 3, _ => exact ⟨rfl, rfl, by decide, by decide⟩
    | 4, _ => exact ⟨rfl, rfl, by decide, by decide⟩
    | 5, _ => exact ⟨rfl, rfl, by decide, by decide⟩
    | 6, _ => exact ⟨rfl, rfl, by decide, by decide⟩
    | 7, _ => exact ⟨rfl, rfl, by decide, by decide⟩
    | k + 8, hi => exact absurd hi (by omega)
  · show 57 ≤ (([c0] ++ oF :: S6 g) ++ X).length
    rw [List.length_append, hX]
    exact Nat.le_of_ble_eq_true rfl
section InitC
variable {d : Nat} {K : Option Value → mH → Prop} {c0 : mC}
theorem x11_end {z : mC} (hz : (HL ([c0] ++ oF :: [])).1 0 = z) (hK : ∀ Y : List mC, Y.length = 33 → (∀ X : List mC, X.length = 23 → CLs (HL (([c0] ++ Y) ++ X)) st0) → K none (HL ([c0] ++ Y))) : Wm (d + 3 + 1) (15, 4200) JX11_init 15 [some (.ref 1), some (.int 8)] [] (HL ([c0] ++ oc .null .null .null .null .null .null :: (ra 8 :: rws 8))) (fun r h' => h'.1 0 = z ∧ K r h') := by
  refine bk_X11_init_15 _ _ ⟨fun _ => ⟨10, by decide, by decide, by decide, by decide, by decide, fun h2 e2 => ?_⟩, fun q => absurd (le_t (a := 8) (b := 8) (by decide) (by decide)) q⟩
  subst e2
  refine ⟨HL ([c0] ++ oc (.ref 19) .null .null .null .null .null :: S1), nw_put rfl (Nat.le_of_ble_eq_true rfl) rfl rfl rfl, by decide, by decide, fun h4 e4 => ?_⟩
  rw [HL_push] at e4
  subst e4
  refine ⟨(1, 16), by decide, by decide, x7_init (p := 20) (n := 16) rfl (by decide) (by decide) (by decide) (by decide) ⟨rfl, ?_⟩⟩
  refine ⟨HL ([c0] ++ oc (.ref 19) (.ref 20) .null .null .null .null :: T1), HL_put (P := [c0]) (X := T1) (fs := [.ref 2, .ref 19, .null, .null, .null, .null, .null, .int 0]) rfl (Nat.le_of_ble_eq_true rfl) rfl, 20, fld_at (ci := 10) rfl (by decide) rfl, _, rfl, ?_⟩
  refine begin_ev (r := 20) (it := 21) (ln := -1) (s := 0) (f := fun _ => 0) (cap := 16) (n := 0) (by decide) (by decide) (by decide) ⟨rfl, rfl, by decide, by decide⟩ (by decide) (fun h' g f' o' _ => ⟨rfl, ?_⟩)
  have e' : h' = HL (([c0] ++ oc (.ref 19) (.ref 20) .null .null .null .null :: S1) ++ [.inr (6, [.ref 21, .int 2, .int (nI 0)]), .inl (0, 16, .inl g)]) := HL_fr (p := 20) (x := .inr (6, [.ref 21, .int (-1), .int 0])) (y := .inl (0, 16, .inl fun _ => 0)) rfl f' o'.1 o'.2.1
  subst e'
  refine ⟨by decide, by decide, fun h12 e12 => ?_⟩
  rw [HL_push] at e12
  subst e12
  refine ⟨(1, 8), by decide, by decide, x3_init (p := 22) rfl (by decide) (by decide) (by decide) ⟨rfl, ?_⟩⟩
  refine ⟨HL ([c0] ++ oc (.ref 19) (.ref 20) (.ref 22) .null .null .null :: S3 g), HL_put (P := [c0]) (X := S3 g) (fs := [.ref 2, .ref 19, .ref 20, .null, .null, .null, .null, .int 0]) rfl (Nat.le_of_ble_eq_true rfl) rfl, by decide, by decide, fun h17 e17 => ?_⟩
  rw [HL_push] at e17
  subst e17
  refine ⟨(3, 2412), by decide, by decide, x6_init (p := 24) rfl (by decide) (by decide) (by decide) ⟨rfl, ?_⟩⟩
  refine ⟨HL ([c0] ++ oc (.ref 19) (.ref 20) (.ref 22) (.ref 24) .null .null :: S4 g), HL_put (P := [c0]) (X := S4 g) (fs := [.ref 2, .ref 19, .ref 20, .ref 22, .null, .null, .null, .int 0]) rfl (Nat.le_of_ble_eq_true rfl) rfl, by decide, by decide, fun h22 e22 => ?_⟩
  rw [HL_push] at e22
  subst e22
  refine ⟨(2, 210), by decide, by decide, x2_init (p := 28) rfl (by decide) (by decide) (by decide) ⟨rfl, ?_⟩⟩
  refine ⟨HL ([c0] ++ oc (.ref 19) (.ref 20) (.ref 22) (.ref 24) (.ref 28) .null :: S5 g), HL_put (P := [c0]) (X := S5 g) (fs := [.ref 2, .ref 19, .ref 20, .ref 22, .ref 24, .null, .null, .int 0]) rfl (Nat.le_of_ble_eq_true rfl) rfl, by decide, by decide, fun h27 e27 => ?_⟩
  rw [HL_push] at e27
  subst e27
  refine ⟨(2, 462), by decide, by decide, x8_init (p := 31) rfl (by decide) (by decide) (by decide) ⟨rfl, ?_⟩⟩
  refine ⟨HL ([c0] ++ oF :: S6 g), HL_put (P := [c0]) (X := S6 g) (fs := [.ref 2, .ref 19, .ref 20, .ref 22, .ref 24, .ref 28, .null, .int 0]) rfl (Nat.le_of_ble_eq_true rfl) rfl, ?_, hK (oF :: S6 g) rfl (fun X hX => cl0 hX)⟩
  exact hz
theorem x11_init (hK : ∀ Y : List mC, Y.length = 33 → (∀ X : List mC, X.length = 23 → CLs (HL (([c0] ++ Y) ++ X)) st0) → K none (HL ([c0] ++ Y))) : Ev (d + 3 + 1) (32, 5000) MX11_init [.ref 1] (HL ([c0] ++ [.inr (10, [.null, .null, .null, .null, .null, .null, .null, .int 0])])) K := by
  refine en_X11_init (bk_X11_init_0 _ ⟨8, by decide, by decide, by decide, by decide, by decide, fun h2 e2 => ?_⟩)
  subst e2
  refine ⟨HL ([c0] ++ oc .null .null .null .null .null .null :: [ra 0]), nw_put rfl (Nat.le_of_ble_eq_true rfl) rfl rfl (by unfold ra; rw [fi_0]; rfl), ?_⟩
  have loop : ∀ c i, i + c = 8 → Wm (d + 3 + 1) (15 + 2 * c, 4200 + 99 * c) JX11_init 15 [some (.ref 1), some (.int (nI i))] [] (HL ([c0, oc .null .null .null .null .null .null] ++ ra i :: rws i)) (fun r h' => h'.1 0 = (HL ([c0] ++ [.inr (10, [.null, .null, .null, .null, .null, .null, .null, .int 0])])).1 0 ∧ K r h') := by
    intro c
    induction c with
    | zero =>
      intro i hi
      have hi : i = 8 := by omega
      subst hi
      exact x11_end rfl hK
    | succ c ih =>
      intro i hi
      have hPl : ([c0, oc .null .null .null .null .null .null] ++ ra i :: rws i).length = 3 + 2 * i := by
        show (rws i).length + 3 = _
        rw [rws_len]
        omega
      refine bk_X11_init_15 _ _ ⟨fun q => absurd q (le_f (a := 8) (by omega) (by decide)), fun _ => ⟨2, fld_at (ci := 10) rfl (by decide) rfl, by show 1 ≤ 15 + 2 * (c + 1); omega, by show 3 ≤ 4200 + 99 * (c + 1); omega, fun h34 e34 => ?_⟩⟩
      rw [HL_push] at e34
      subst e34
      rw [show (HL ([c0, oc .null .null .null .null .null .null] ++ ra i :: rws i)).2 = 3 + 2 * i from hPl]
      refine ⟨(1, 96), by show 1 ≤ 15 + 2 * (c + 1) - 1; omega, by show 96 ≤ 4200 + 99 * (c + 1) - 3; omega, x7_init (n := 96) hPl (by omega) (by decide) (by decide) (by decide) ⟨rfl, ?_⟩⟩
      have hq := HL_at (c := .inr (6, [.ref (3 + 2 * i + 1), .int (-1), .int 0])) (X := [.inl (0, 96, .inl fun _ => 0)]) hPl
      rw [List.append_assoc, List.cons_append] at hq ⊢
      refine ⟨_, HL_rs (P := [c0, oc .null .null .null .null .null .null]) (X := rws i ++ rwc i) (f := fi i) rfl (by omega) (by decide) hq, ?_⟩
      rw [fi_up, nI_1]
      have hb : ((15 + 2 * (c + 1) - 1 - 1, 4200 + 99 * (c + 1) - 3 - 96) : Nat × Nat) = (15 + 2 * c, 4200 + 99 * c) := Prod.ext (by show 15 + 2 * (c + 1) - 1 - 1 = 15 + 2 * c; omega) (by show 4200 + 99 * (c + 1) - 3 - 96 = 4200 + 99 * c; omega)
      have k := ih (i + 1) (by omega)
      rw [← hb] at k
      exact k
  exact loop 8 0 rfl
end InitC

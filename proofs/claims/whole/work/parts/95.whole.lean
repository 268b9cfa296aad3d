/-! the law's body, from its entry to its end -/
theorem law_all {L : Nat} {xs : Nat → Int32} (hL : L ≤ 3072) : Wm (9 + 1) (600000, 7302250) JL_law 0 [some (.ref 0), none, none, none] [] (HL [.inl (9, L, .inl xs)]) (fun r _ => r = some (.int 1)) := by
  refine bk_L_law_0 ⟨by decide, by decide, fun h1 e1 => ?_⟩
  rw [HL_push] at e1
  subst e1
  refine ⟨(32, 5000), by decide, by decide, x11_init (d := 5) (fun Y hY hC => ⟨rfl, by decide, by decide, fun h5 e5 => ?_⟩)⟩
  have hP : ([.inl (9, L, .inl xs)] ++ Y : List mC).length = 34 := by
    show Y.length + 1 = 34
    rw [hY]
  rw [HL_push] at e5
  subst e5
  rw [show (HL ([.inl (9, L, .inl xs)] ++ Y)).2 = 34 from hP]
  refine ⟨(30, 40000), by decide, by decide, x12_init (d := 8) hP (fun X hX hR => ⟨rfl, ?_⟩)⟩
  exact law_loop hL 512 0 st0 _ _ (by decide) (by omega) (by decide) (by decide) rfl (hC X hX) hR

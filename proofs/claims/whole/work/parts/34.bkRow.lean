theorem bk_X7_init_0 {d : Nat} {b : Nat × Nat} (r_0 : Nat) (x_1 : Int32) {h : mH} {Q : Option Value → mH → Prop} (hF : (∃ n1 : Nat, ¬ x_1 < 0 ∧ x_1.toNatClampNeg = n1 ∧ n1 ≤ 100000 ∧ 1 ≤ b.1 ∧ n1 ≤ b.2 ∧ ∀ h2 : mH, h2 = (m_up h.1 h.2 (.inl (0, n1, .inl fun _ => 0)), h.2 + 1) → (∃ h3 : mH, m_put h2 r_0 6 0 (.ref h.2) = some h3 ∧ (∃ h4 : mH, m_put h3 r_0 6 1 (.int (-1)) = some h4 ∧ Q none h4)))) : Wm (d + 1) b JX7_init 0 [some (.ref r_0), some (.int x_1)] [] h Q := by
  refine m_aload_n dX7_init_0 rfl ?_
  refine m_objinit ol_X7_1 oi_1 oi_2 dX7_init_1 (Nat.le_of_ble_eq_true rfl) ?_
  refine m_aload_n dX7_init_4 rfl ?_
  refine m_iload_n dX7_init_5 rfl ?_
  obtain ⟨n1, e1, e2, e3, e4, e5, hF⟩ := hF
  refine m_newarr (t := 0) (b2 := (b.1 - 1, b.2 - n1)) dX7_init_6 e1 e2 e3 (Or.inl ⟨rfl, rfl, rfl⟩) ac_int (Nat.le_of_eq (Nat.sub_add_cancel e4)) (Nat.le_of_eq (Nat.sub_add_cancel e5)) ?_
  replace hF := hF _ rfl
  generalize (m_up h.1 h.2 (.inl (0, n1, .inl fun _ => 0)), h.2 + 1) = h2 at hF ⊢
  obtain ⟨h3, e, hF⟩ := hF
  refine m_putfF fp_X7_7_6 rfl dX7_init_8 trivial e ?_
  refine m_aload_n dX7_init_11 rfl ?_
  refine m_iconst dX7_init_12 ki_m1 ?_
  obtain ⟨h4, e, hF⟩ := hF
  refine m_putf fp_X7_13_6 dX7_init_13 trivial e ?_
  exact m_return dX7_init_16 trivial hF
theorem en_X7_init {d : Nat} {b : Nat × Nat} {r_0 : Nat} {x_1 : Int32} {h : mH} {K : Option Value → mH → Prop} (hk : Wm (d + 1) b JX7_init 0 [some (.ref r_0), some (.int x_1)] [] h (fun r h' => h'.1 0 = h.1 0 ∧ K r h')) : Ev (d + 1) b MX7_init [.ref r_0, .int x_1] h K :=
  m_met pn_X7 nl_X7 (fun _ => Nat.le_of_ble_eq_true rfl) hk
theorem bk_X7_missing_0 {d : Nat} (r_0 : Nat) {h : mH} {Q : Option Value → mH → Prop} (hF : (∃ x1 : Int32, m_fld h r_0 [6] 1 = some (.int x1) ∧ ((¬ x1 = (-1) → Q (some (.int 0)) h) ∧ (x1 = (-1) → Q (some (.int 1)) h)))) : Wm d (0, 0) JX7_missing 0 [some (.ref r_0)] [] h Q := by
  refine m_aload_n dX7_missing_0 rfl ?_
  obtain ⟨x1, e, hF⟩ := hF
  refine m_get fg_X7_13 dX7_missing_1 e ?_
  refine m_iconst dX7_missing_4 ki_m1 ?_
  refine m_icmp_ne 12 dX7_missing_5 (by decide) (fun c => ?_) (fun c => ?_)
  · replace hF := hF.1 c
    refine m_iconst dX7_missing_12 ki_0 ?_
    exact m_ireturn dX7_missing_13 (Or.inl rfl) hF
  · replace hF := hF.2 c
    refine m_iconst dX7_missing_8 ki_1 ?_
    refine m_goto 13 dX7_missing_9 (by decide) ?_
    exact m_ireturn dX7_missing_13 (Or.inr rfl) hF
theorem en_X7_missing {d : Nat} {r_0 : Nat} {h : mH} {K : Option Value → mH → Prop} (hk : Wm d (0, 0) JX7_missing 0 [some (.ref r_0)] [] h (fun r h' => h'.1 0 = h.1 0 ∧ K r h')) : Ev d (0, 0) MX7_missing [.ref r_0] h K :=
  m_met pn_X7 nl_X7 (fun _ => Nat.le_of_ble_eq_true rfl) hk
theorem bk_X7_begin_0 {d : Nat} (r_0 : Nat) (x_1 : Int32) (x_2 : Int32) {h : mH} {Q : Option Value → mH → Prop} (hF : ((x_2 < 0 → Q none h) ∧ (¬ (x_2 < 0) → (∃ r1 : Nat, m_fld h r_0 [6] 0 = some (.ref r1) ∧ (∃ n2 : Nat, m_len h r1 = some n2 ∧ ((x_2 ≤ (nI n2) → (∃ h3 : mH, m_put h r_0 6 1 (.int x_1) = some h3 ∧ (∃ h4 : mH, m_put h3 r_0 6 2 (.int x_2) = some h4 ∧ (∃ r5 : Nat, m_fld h4 r_0 [6] 0 = some (.ref r5) ∧ Ev d (0, 0) MJ7_fill_53178 [.ref r5, .int 0] h4 (fun r6 h7 => r6 = none ∧ Q none h7))))) ∧ (¬ (x_2 ≤ (nI n2)) → Q none h))))))) : Wm (d + 1) (0, 0) JX7_begin 0 [some (.ref r_0), some (.int x_1), some (.int x_2)] [] h Q := by
  refine m_iload_n dX7_begin_0 rfl ?_
  refine m_if_lt 13 dX7_begin_1 (by decide) (fun c => ?_) (fun c => ?_)
  · replace hF := hF.1 c
    exact m_return dX7_begin_13 trivial hF
  · replace hF := hF.2 c
    refine m_iload_n dX7_begin_4 rfl ?_
    refine m_aload_n dX7_begin_5 rfl ?_
    obtain ⟨r1, e, hF⟩ := hF
    refine m_get fg_X7_7 dX7_begin_6 e ?_
    obtain ⟨n2, e, hF⟩ := hF
    refine m_alen dX7_begin_9 e ?_
    refine m_icmp_le 14 dX7_begin_10 (by decide) (fun c => ?_) (fun c => ?_)
    · replace hF := hF.1 c
      refine m_aload_n dX7_begin_14 rfl ?_
      refine m_iload_n dX7_begin_15 rfl ?_
      obtain ⟨h3, e, hF⟩ := hF
      refine m_putf fp_X7_13_6 dX7_begin_16 trivial e ?_
      refine m_aload_n dX7_begin_19 rfl ?_
      refine m_iload_n dX7_begin_20 rfl ?_
      obtain ⟨h4, e, hF⟩ := hF
      refine m_putf fp_X7_17_6 dX7_begin_21 trivial e ?_
      refine m_aload_n dX7_begin_24 rfl ?_
      obtain ⟨r5, e, hF⟩ := hF
      refine m_get fg_X7_7 dX7_begin_25 e ?_
      refine m_iconst dX7_begin_28 ki_0 ?_
      refine m_static (as := [.ref r5, .int 0]) (rest := []) cs_X7_20 dX7_begin_29 rfl rfl (Nat.le_of_ble_eq_true rfl) (Nat.le_of_eq (Nat.zero_add _)) (Nat.le_of_eq (Nat.zero_add _)) (b1 := (0, 0)) (b2 := (0, 0)) (Ev.mono hF ?_)
      intro r6 h7 hF
      obtain ⟨rfl, hF⟩ := hF
      exact m_return dX7_begin_32 trivial hF
    · replace hF := hF.2 c
      exact m_return dX7_begin_13 trivial hF
theorem en_X7_begin {d : Nat} {r_0 : Nat} {x_1 : Int32} {x_2 : Int32} {h : mH} {K : Option Value → mH → Prop} (hk : Wm (d + 1) (0, 0) JX7_begin 0 [some (.ref r_0), some (.int x_1), some (.int x_2)] [] h (fun r h' => h'.1 0 = h.1 0 ∧ K r h')) : Ev (d + 1) (0, 0) MX7_begin [.ref r_0, .int x_1, .int x_2] h K :=
  m_met pn_X7 nl_X7 (fun _ => Nat.le_of_ble_eq_true rfl) hk
theorem bk_X7_end_0 {d : Nat} (r_0 : Nat) {h : mH} {Q : Option Value → mH → Prop} (hF : (∃ h1 : mH, m_put h r_0 6 1 (.int (-1)) = some h1 ∧ (∃ h2 : mH, m_put h1 r_0 6 2 (.int 0) = some h2 ∧ Q none h2))) : Wm d (0, 0) JX7_end 0 [some (.ref r_0)] [] h Q := by
  refine m_aload_n dX7_end_0 rfl ?_
  refine m_iconst dX7_end_1 ki_m1 ?_
  obtain ⟨h1, e, hF⟩ := hF
  refine m_putf fp_X7_13_6 dX7_end_2 trivial e ?_
  refine m_aload_n dX7_end_5 rfl ?_
  refine m_iconst dX7_end_6 ki_0 ?_
  obtain ⟨h2, e, hF⟩ := hF
  refine m_putf fp_X7_17_6 dX7_end_7 trivial e ?_
  exact m_return dX7_end_10 trivial hF
theorem en_X7_end {d : Nat} {r_0 : Nat} {h : mH} {K : Option Value → mH → Prop} (hk : Wm d (0, 0) JX7_end 0 [some (.ref r_0)] [] h (fun r h' => h'.1 0 = h.1 0 ∧ K r h')) : Ev d (0, 0) MX7_end [.ref r_0] h K :=
  m_met pn_X7 nl_X7 (fun _ => Nat.le_of_ble_eq_true rfl) hk
theorem bk_X7_holds_0 {d : Nat} (r_0 : Nat) (x_1 : Int32) (x_2 : Int32) {h : mH} {Q : Option Value → mH → Prop} (hF : ((x_1 < 0 → Q (some (.int 0)) h) ∧ (¬ (x_1 < 0) → ((x_2 < 0 → Q (some (.int 0)) h) ∧ (¬ (x_2 < 0) → (∃ x1 : Int32, m_fld h r_0 [6] 2 = some (.int x1) ∧ (((x1 - x_2) < x_1 → Q (some (.int 0)) h) ∧ (¬ ((x1 - x_2) < x_1) → Q (some (.int 1)) h)))))))) : Wm d (0, 0) JX7_holds 0 [some (.ref r_0), some (.int x_1), some (.int x_2)] [] h Q := by
  refine m_iload_n dX7_holds_0 rfl ?_
  refine m_if_lt 22 dX7_holds_1 (by decide) (fun c => ?_) (fun c => ?_)
  · replace hF := hF.1 c
    refine m_iconst dX7_holds_22 ki_0 ?_
    exact m_ireturn dX7_holds_23 (Or.inl rfl) hF
  · replace hF := hF.2 c
    refine m_iload_n dX7_holds_4 rfl ?_
    refine m_if_lt 22 dX7_holds_5 (by decide) (fun c => ?_) (fun c => ?_)
    · replace hF := hF.1 c
      refine m_iconst dX7_holds_22 ki_0 ?_
      exact m_ireturn dX7_holds_23 (Or.inl rfl) hF
    · replace hF := hF.2 c
      refine m_iload_n dX7_holds_8 rfl ?_
      refine m_aload_n dX7_holds_9 rfl ?_
      obtain ⟨x1, e, hF⟩ := hF
      refine m_get fg_X7_17 dX7_holds_10 e ?_
      refine m_iload_n dX7_holds_13 rfl ?_
      refine m_isub dX7_holds_14 ?_
      refine m_icmp_gt 22 dX7_holds_15 (by decide) (fun c => ?_) (fun c => ?_)
      · replace hF := hF.1 c
        refine m_iconst dX7_holds_22 ki_0 ?_
        exact m_ireturn dX7_holds_23 (Or.inl rfl) hF
      · replace hF := hF.2 c
        refine m_iconst dX7_holds_18 ki_1 ?_
        refine m_goto 23 dX7_holds_19 (by decide) ?_
        exact m_ireturn dX7_holds_23 (Or.inr rfl) hF
theorem en_X7_holds {d : Nat} {r_0 : Nat} {x_1 : Int32} {x_2 : Int32} {h : mH} {K : Option Value → mH → Prop} (hk : Wm d (0, 0) JX7_holds 0 [some (.ref r_0), some (.int x_1), some (.int x_2)] [] h (fun r h' => h'.1 0 = h.1 0 ∧ K r h')) : Ev d (0, 0) MX7_holds [.ref r_0, .int x_1, .int x_2] h K :=
  m_met pn_X7 nl_X7 (fun _ => Nat.le_of_ble_eq_true rfl) hk
theorem bk_X7_item_0 {d : Nat} (r_0 : Nat) (x_1 : Int32) {h : mH} {Q : Option Value → mH → Prop} (hF : (∃ fs6 : List Value, (h).1 r_0 = .inr (6, fs6) ∧ Ev d (0, 0) MX7_holds [.ref r_0, .int x_1, .int 1] h (fun r1 h2 => ∃ x3 : Int32, r1 = some (.int x3) ∧ ((x3 = 0 → Q (some (.int 0)) h2) ∧ (¬ (x3 = 0) → (∃ r4 : Nat, m_fld h2 r_0 [6] 0 = some (.ref r4) ∧ (∃ x5 : Int32, m_il h2 r4 x_1 = some x5 ∧ Q (some (.int x5)) h2))))))) : Wm (d + 1) (0, 0) JX7_item 0 [some (.ref r_0), some (.int x_1)] [] h Q := by
  refine m_aload_n dX7_item_0 rfl ?_
  refine m_iload_n dX7_item_1 rfl ?_
  refine m_iconst dX7_item_2 ki_1 ?_
  obtain ⟨fs6, e, hF⟩ := hF
  refine m_virtual (as := [.int x_1, .int 1]) (rest := []) cv_X7_26_6 e dX7_item_3 rfl rfl (Nat.le_of_ble_eq_true rfl) (Nat.le_of_eq (Nat.zero_add _)) (Nat.le_of_eq (Nat.zero_add _)) (b1 := (0, 0)) (b2 := (0, 0)) (Ev.mono hF ?_)
  intro r1 h2 hF
  obtain ⟨x3, rfl, hF⟩ := hF
  refine m_if_eq 18 dX7_item_6 (by decide) (fun c => ?_) (fun c => ?_)
  · replace hF := hF.1 c
    refine m_iconst dX7_item_18 ki_0 ?_
    exact m_ireturn dX7_item_19 trivial hF
  · replace hF := hF.2 c
    refine m_aload_n dX7_item_9 rfl ?_
    obtain ⟨r4, e, hF⟩ := hF
    refine m_get fg_X7_7 dX7_item_10 e ?_
    refine m_iload_n dX7_item_13 rfl ?_
    obtain ⟨x5, e, hF⟩ := hF
    refine m_iald dX7_item_14 e ?_
    refine m_goto 19 dX7_item_15 (by decide) ?_
    exact m_ireturn dX7_item_19 trivial hF
theorem en_X7_item {d : Nat} {r_0 : Nat} {x_1 : Int32} {h : mH} {K : Option Value → mH → Prop} (hk : Wm (d + 1) (0, 0) JX7_item 0 [some (.ref r_0), some (.int x_1)] [] h (fun r h' => h'.1 0 = h.1 0 ∧ K r h')) : Ev (d + 1) (0, 0) MX7_item [.ref r_0, .int x_1] h K :=
  m_met pn_X7 nl_X7 (fun _ => Nat.le_of_ble_eq_true rfl) hk
theorem bk_X7_put_0 {d : Nat} (r_0 : Nat) (x_1 : Int32) (x_2 : Int32) {h : mH} {Q : Option Value → mH → Prop} (hF : (∃ fs16 : List Value, (h).1 r_0 = .inr (6, fs16) ∧ Ev d (0, 0) MX7_holds [.ref r_0, .int x_1, .int 1] h (fun r1 h2 => ∃ x3 : Int32, r1 = some (.int x3) ∧ ((¬ x3 = 0 → (∃ r4 : Nat, m_fld h2 r_0 [6] 0 = some (.ref r4) ∧ (∃ x5 : Int32, m_fld h2 r_0 [6] 1 = some (.int x5) ∧ ((¬ x5 = 0 → (∃ x6 : Int32, m_fld h2 r_0 [6] 1 = some (.int x6) ∧ ((¬ x6 = 1 → (∃ h7 : mH, m_is h2 r4 x_1 x_2 = some h7 ∧ (∃ r8 : Nat, m_fld h7 r_0 [6] 0 = some (.ref r8) ∧ (∃ x9 : Int32, m_il h7 r8 x_1 = some x9 ∧ Q (some (.int x9)) h7)))) ∧ (x6 = 1 → (∃ h10 : mH, m_is h2 r4 x_1 x_2.toInt16.toInt32 = some h10 ∧ (∃ r11 : Nat, m_fld h10 r_0 [6] 0 = some (.ref r11) ∧ (∃ x12 : Int32, m_il h10 r11 x_1 = some x12 ∧ Q (some (.int x12)) h10))))))) ∧ (x5 = 0 → (∃ h13 : mH, m_is h2 r4 x_1 x_2.toInt8.toInt32 = some h13 ∧ (∃ r14 : Nat, m_fld h13 r_0 [6] 0 = some (.ref r14) ∧ (∃ x15 : Int32, m_il h13 r14 x_1 = some x15 ∧ Q (some (.int x15)) h13)))))))) ∧ (x3 = 0 → Q (some (.int 0)) h2))))) : Wm (d + 1) (0, 0) JX7_put 0 [some (.ref r_0), some (.int x_1), some (.int x_2)] [] h Q := by
  refine m_aload_n dX7_put_0 rfl ?_
  refine m_iload_n dX7_put_1 rfl ?_
  refine m_iconst dX7_put_2 ki_1 ?_
  obtain ⟨fs16, e, hF⟩ := hF
  refine m_virtual (as := [.int x_1, .int 1]) (rest := []) cv_X7_26_6 e dX7_put_3 rfl rfl (Nat.le_of_ble_eq_true rfl) (Nat.le_of_eq (Nat.zero_add _)) (Nat.le_of_eq (Nat.zero_add _)) (b1 := (0, 0)) (b2 := (0, 0)) (Ev.mono hF ?_)
  intro r1 h2 hF
  obtain ⟨x3, rfl, hF⟩ := hF
  refine m_if_ne 11 dX7_put_6 (by decide) (fun c => ?_) (fun c => ?_)
  · replace hF := hF.1 c
    refine m_aload_n dX7_put_11 rfl ?_
    obtain ⟨r4, e, hF⟩ := hF
    refine m_get fg_X7_7 dX7_put_12 e ?_
    refine m_iload_n dX7_put_15 rfl ?_
    refine m_aload_n dX7_put_16 rfl ?_
    obtain ⟨x5, e, hF⟩ := hF
    refine m_get fg_X7_13 dX7_put_17 e ?_
    refine m_if_ne 28 dX7_put_20 (by decide) (fun c => ?_) (fun c => ?_)
    · replace hF := hF.1 c
      refine m_aload_n dX7_put_28 rfl ?_
      obtain ⟨x6, e, hF⟩ := hF
      refine m_get fg_X7_13 dX7_put_29 e ?_
      refine m_iconst dX7_put_32 ki_1 ?_
      refine m_icmp_ne 41 dX7_put_33 (by decide) (fun c => ?_) (fun c => ?_)
      · replace hF := hF.1 c
        refine m_iload_n dX7_put_41 rfl ?_
        obtain ⟨h7, e, hF⟩ := hF
        refine m_iast dX7_put_42 e ?_
        refine m_aload_n dX7_put_43 rfl ?_
        obtain ⟨r8, e, hF⟩ := hF
        refine m_get fg_X7_7 dX7_put_44 e ?_
        refine m_iload_n dX7_put_47 rfl ?_
        obtain ⟨x9, e, hF⟩ := hF
        refine m_iald dX7_put_48 e ?_
        exact m_ireturn dX7_put_49 trivial hF
      · replace hF := hF.2 c
        refine m_iload_n dX7_put_36 rfl ?_
        refine m_i2s dX7_put_37 ?_
        refine m_goto 42 dX7_put_38 (by decide) ?_
        obtain ⟨h10, e, hF⟩ := hF
        refine m_iast dX7_put_42 e ?_
        refine m_aload_n dX7_put_43 rfl ?_
        obtain ⟨r11, e, hF⟩ := hF
        refine m_get fg_X7_7 dX7_put_44 e ?_
        refine m_iload_n dX7_put_47 rfl ?_
        obtain ⟨x12, e, hF⟩ := hF
        refine m_iald dX7_put_48 e ?_
        exact m_ireturn dX7_put_49 trivial hF
    · replace hF := hF.2 c
      refine m_iload_n dX7_put_23 rfl ?_
      refine m_i2b dX7_put_24 ?_
      refine m_goto 42 dX7_put_25 (by decide) ?_
      obtain ⟨h13, e, hF⟩ := hF
      refine m_iast dX7_put_42 e ?_
      refine m_aload_n dX7_put_43 rfl ?_
      obtain ⟨r14, e, hF⟩ := hF
      refine m_get fg_X7_7 dX7_put_44 e ?_
      refine m_iload_n dX7_put_47 rfl ?_
      obtain ⟨x15, e, hF⟩ := hF
      refine m_iald dX7_put_48 e ?_
      exact m_ireturn dX7_put_49 trivial hF
  · replace hF := hF.2 c
    refine m_iconst dX7_put_9 ki_0 ?_
    exact m_ireturn dX7_put_10 trivial hF
theorem en_X7_put {d : Nat} {r_0 : Nat} {x_1 : Int32} {x_2 : Int32} {h : mH} {K : Option Value → mH → Prop} (hk : Wm (d + 1) (0, 0) JX7_put 0 [some (.ref r_0), some (.int x_1), some (.int x_2)] [] h (fun r h' => h'.1 0 = h.1 0 ∧ K r h')) : Ev (d + 1) (0, 0) MX7_put [.ref r_0, .int x_1, .int x_2] h K :=
  m_met pn_X7 nl_X7 (fun _ => Nat.le_of_ble_eq_true rfl) hk
theorem bk_X7_add_0 {d : Nat} (r_0 : Nat) (x_1 : Int32) {h : mH} {Q : Option Value → mH → Prop} (hF : (∃ x1 : Int32, m_fld h r_0 [6] 2 = some (.int x1) ∧ (∃ r2 : Nat, m_fld h r_0 [6] 0 = some (.ref r2) ∧ (∃ n3 : Nat, m_len h r2 = some n3 ∧ (((nI n3) ≤ x1 → Q none h) ∧ (¬ ((nI n3) ≤ x1) → (∃ r4 : Nat, m_fld h r_0 [6] 0 = some (.ref r4) ∧ (∃ x5 : Int32, m_fld h r_0 [6] 2 = some (.int x5) ∧ (∃ h6 : mH, m_is h r4 x5 x_1 = some h6 ∧ (∃ x7 : Int32, m_fld h6 r_0 [6] 2 = some (.int x7) ∧ (∃ h8 : mH, m_put h6 r_0 6 2 (.int (x7 + 1)) = some h8 ∧ Q none h8))))))))))) : Wm d (0, 0) JX7_add 0 [some (.ref r_0), some (.int x_1)] [] h Q := by
  refine m_aload_n dX7_add_0 rfl ?_
  obtain ⟨x1, e, hF⟩ := hF
  refine m_get fg_X7_17 dX7_add_1 e ?_
  refine m_aload_n dX7_add_4 rfl ?_
  obtain ⟨r2, e, hF⟩ := hF
  refine m_get fg_X7_7 dX7_add_5 e ?_
  obtain ⟨n3, e, hF⟩ := hF
  refine m_alen dX7_add_8 e ?_
  refine m_icmp_ge 32 dX7_add_9 (by decide) (fun c => ?_) (fun c => ?_)
  · replace hF := hF.1 c
    exact m_return dX7_add_32 trivial hF
  · replace hF := hF.2 c
    refine m_aload_n dX7_add_12 rfl ?_
    obtain ⟨r4, e, hF⟩ := hF
    refine m_get fg_X7_7 dX7_add_13 e ?_
    refine m_aload_n dX7_add_16 rfl ?_
    obtain ⟨x5, e, hF⟩ := hF
    refine m_get fg_X7_17 dX7_add_17 e ?_
    refine m_iload_n dX7_add_20 rfl ?_
    obtain ⟨h6, e, hF⟩ := hF
    refine m_iast dX7_add_21 e ?_
    refine m_aload_n dX7_add_22 rfl ?_
    refine m_dup dX7_add_23 rfl ?_
    obtain ⟨x7, e, hF⟩ := hF
    refine m_get fg_X7_17 dX7_add_24 e ?_
    refine m_iconst dX7_add_27 ki_1 ?_
    refine m_iadd dX7_add_28 ?_
    obtain ⟨h8, e, hF⟩ := hF
    refine m_putf fp_X7_17_6 dX7_add_29 trivial e ?_
    exact m_return dX7_add_32 trivial hF
theorem en_X7_add {d : Nat} {r_0 : Nat} {x_1 : Int32} {h : mH} {K : Option Value → mH → Prop} (hk : Wm d (0, 0) JX7_add 0 [some (.ref r_0), some (.int x_1)] [] h (fun r h' => h'.1 0 = h.1 0 ∧ K r h')) : Ev d (0, 0) MX7_add [.ref r_0, .int x_1] h K :=
  m_met pn_X7 nl_X7 (fun _ => Nat.le_of_ble_eq_true rfl) hk
theorem bk_X7_take_0 {d : Nat} (r_0 : Nat) (x_1 : Int32) (r_2 : Nat) (x_3 : Int32) (x_4 : Int32) {h : mH} {Q : Option Value → mH → Prop} (hF : (∃ fs18 : List Value, (h).1 r_0 = .inr (6, fs18) ∧ Ev d (0, 0) MX7_holds [.ref r_0, .int x_1, .int x_4] h (fun r1 h2 => ∃ x3 : Int32, r1 = some (.int x3) ∧ ((x3 = 0 → Q none h2) ∧ (¬ (x3 = 0) → (∃ fs17 : List Value, (h2).1 r_2 = .inr (6, fs17) ∧ Ev d (0, 0) MX7_holds [.ref r_2, .int x_3, .int x_4] h2 (fun r4 h5 => ∃ x6 : Int32, r4 = some (.int x6) ∧ ((x6 = 0 → Q none h5) ∧ (¬ (x6 = 0) → (∃ r7 : Nat, m_fld h5 r_2 [6] 0 = some (.ref r7) ∧ (∃ r8 : Nat, m_fld h5 r_0 [6] 0 = some (.ref r8) ∧ (∃ (n9 n10 k11 k12 k13 : Nat) (f14 f15 : Nat → Int32), (h5).1 r7 = .inl (0, n9, .inl f14) ∧ (h5).1 r8 = .inl (0, n10, .inl f15) ∧ x_3 = nI k11 ∧ x_1 = nI k12 ∧ x_4 = nI k13 ∧ k11 + k13 ≤ n9 ∧ k12 + k13 ≤ n10 ∧ n9 < 100000 ∧ n10 < 100000 ∧ ∀ h16 : mH, h16 = (m_up h5.1 r8 (.inl (0, n10, .inl (va_cpy f14 f15 k11 k12 k13))), h5.2) → Q none h16)))))))))))) : Wm (d + 1) (0, 0) JX7_take 0 [some (.ref r_0), some (.int x_1), some (.ref r_2), some (.int x_3), some (.int x_4)] [] h Q := by
  refine m_aload_n dX7_take_0 rfl ?_
  refine m_iload_n dX7_take_1 rfl ?_
  refine m_iload dX7_take_2 rfl ?_
  obtain ⟨fs18, e, hF⟩ := hF
  refine m_virtual (as := [.int x_1, .int x_4]) (rest := []) cv_X7_26_6 e dX7_take_4 rfl rfl (Nat.le_of_ble_eq_true rfl) (Nat.le_of_eq (Nat.zero_add _)) (Nat.le_of_eq (Nat.zero_add _)) (b1 := (0, 0)) (b2 := (0, 0)) (Ev.mono hF ?_)
  intro r1 h2 hF
  obtain ⟨x3, rfl, hF⟩ := hF
  refine m_if_eq 35 dX7_take_7 (by decide) (fun c => ?_) (fun c => ?_)
  · replace hF := hF.1 c
    exact m_return dX7_take_35 trivial hF
  · replace hF := hF.2 c
    refine m_aload_n dX7_take_10 rfl ?_
    refine m_iload_n dX7_take_11 rfl ?_
    refine m_iload dX7_take_12 rfl ?_
    obtain ⟨fs17, e, hF⟩ := hF
    refine m_virtual (as := [.int x_3, .int x_4]) (rest := []) cv_X7_26_6 e dX7_take_14 rfl rfl (Nat.le_of_ble_eq_true rfl) (Nat.le_of_eq (Nat.zero_add _)) (Nat.le_of_eq (Nat.zero_add _)) (b1 := (0, 0)) (b2 := (0, 0)) (Ev.mono hF ?_)
    intro r4 h5 hF
    obtain ⟨x6, rfl, hF⟩ := hF
    refine m_if_eq 35 dX7_take_17 (by decide) (fun c => ?_) (fun c => ?_)
    · replace hF := hF.1 c
      exact m_return dX7_take_35 trivial hF
    · replace hF := hF.2 c
      refine m_aload_n dX7_take_20 rfl ?_
      obtain ⟨r7, e, hF⟩ := hF
      refine m_get fg_X7_7 dX7_take_21 e ?_
      refine m_iload_n dX7_take_24 rfl ?_
      refine m_aload_n dX7_take_25 rfl ?_
      obtain ⟨r8, e, hF⟩ := hF
      refine m_get fg_X7_7 dX7_take_26 e ?_
      refine m_iload_n dX7_take_29 rfl ?_
      refine m_iload dX7_take_30 rfl ?_
      obtain ⟨n9, n10, k11, k12, k13, f14, f15, ea, eb, es, ed, en, e4, e5, e6, e7, hF⟩ := hF
      refine m_copyeq es ed en ?_
      refine m_acopyI al_X7_30 ap_1 ap_2 ap_3 dX7_take_32 ea eb e4 e5 e6 e7 (Nat.le_of_ble_eq_true rfl) ?_
      replace hF := hF _ rfl
      generalize (m_up h5.1 r8 (.inl (0, n10, .inl (va_cpy f14 f15 k11 k12 k13))), h5.2) = h16 at hF ⊢
      exact m_return dX7_take_35 trivial hF
theorem en_X7_take {d : Nat} {r_0 : Nat} {x_1 : Int32} {r_2 : Nat} {x_3 : Int32} {x_4 : Int32} {h : mH} {K : Option Value → mH → Prop} (hk : Wm (d + 1) (0, 0) JX7_take 0 [some (.ref r_0), some (.int x_1), some (.ref r_2), some (.int x_3), some (.int x_4)] [] h (fun r h' => h'.1 0 = h.1 0 ∧ K r h')) : Ev (d + 1) (0, 0) MX7_take [.ref r_0, .int x_1, .ref r_2, .int x_3, .int x_4] h K :=
  m_met pn_X7 nl_X7 (fun _ => Nat.le_of_ble_eq_true rfl) hk
theorem bk_X7_orderFrom_0 {d : Nat} (r_0 : Nat) (x_1 : Int32) (x_2 : Int32) {h : mH} {Q : Option Value → mH → Prop} (hF : Wm (d + 1) (0, 0) JX7_orderFrom 8 [some (.ref r_0), some (.int x_1), some (.int x_2), some (.long 0), none, some (.int 0), some (.int 0), none] [] h Q) : Wm (d + 1) (0, 0) JX7_orderFrom 0 [some (.ref r_0), some (.int x_1), some (.int x_2), none, none, none, none, none] [] h Q := by
  refine m_lconst dX7_orderFrom_0 kl_0 ?_
  refine m_lstore_n (ls2 := [some (.ref r_0), some (.int x_1), some (.int x_2), some (.long 0), none, none, none, none]) dX7_orderFrom_1 (by decide) rfl ?_
  refine m_iconst dX7_orderFrom_2 ki_0 ?_
  refine m_istore (ls2 := [some (.ref r_0), some (.int x_1), some (.int x_2), some (.long 0), none, some (.int 0), none, none]) dX7_orderFrom_3 (by decide) rfl ?_
  refine m_iconst dX7_orderFrom_5 ki_0 ?_
  refine m_istore (ls2 := [some (.ref r_0), some (.int x_1), some (.int x_2), some (.long 0), none, some (.int 0), some (.int 0), none]) dX7_orderFrom_6 (by decide) rfl ?_
  exact hF
theorem bk_X7_orderFrom_8 {d : Nat} (r_0 : Nat) (x_1 : Int32) (x_2 : Int32) (y_3 : Int64) (x_5 : Int32) (x_6 : Int32) {h : mH} {Q : Option Value → mH → Prop} (hF : ((x_2 ≤ x_6 → Q (some (.long y_3)) h) ∧ (¬ (x_2 ≤ x_6) → (∃ fs7 : List Value, (h).1 r_0 = .inr (6, fs7) ∧ Ev d (0, 0) MX7_item [.ref r_0, .int (x_1 + x_6)] h (fun r1 h2 => ∃ x3 : Int32, r1 = some (.int x3) ∧ ((x3 < 0 → Q (some (.long (-1))) h2) ∧ (¬ (x3 < 0) → ((x_2 ≤ x3 → Q (some (.long (-1))) h2) ∧ (¬ (x_2 ≤ x3) → ((((x_5 >>> (x3 &&& 31)) &&& 1) = 0 → Ev d (0, 0) MX5_with [.long y_3, .int x_6, .int x3] h2 (fun r4 h5 => ∃ y6 : Int64, r4 = some (.long y6) ∧ Wm (d + 1) (0, 0) JX7_orderFrom 8 [some (.ref r_0), some (.int x_1), some (.int x_2), some (.long y6), none, some (.int (x_5 ||| (1 <<< (x3 &&& 31)))), some (.int (x_6 + 1)), none] [] h5 Q)) ∧ (¬ (((x_5 >>> (x3 &&& 31)) &&& 1) = 0) → Q (some (.long (-1))) h2))))))))))) : Wm (d + 1) (0, 0) JX7_orderFrom 8 [some (.ref r_0), some (.int x_1), some (.int x_2), some (.long y_3), none, some (.int x_5), some (.int x_6), none] [] h Q := by
  refine m_iload dX7_orderFrom_8 rfl ?_
  refine m_iload_n dX7_orderFrom_10 rfl ?_
  refine m_icmp_ge 73 dX7_orderFrom_11 (by decide) (fun c => ?_) (fun c => ?_)
  · replace hF := hF.1 c
    refine m_lload_n dX7_orderFrom_73 rfl ?_
    exact m_lreturn dX7_orderFrom_74 trivial hF
  · replace hF := hF.2 c
    refine m_aload_n dX7_orderFrom_14 rfl ?_
    refine m_iload_n dX7_orderFrom_15 rfl ?_
    refine m_iload dX7_orderFrom_16 rfl ?_
    refine m_iadd dX7_orderFrom_18 ?_
    obtain ⟨fs7, e, hF⟩ := hF
    refine m_virtual (as := [.int (x_1 + x_6)]) (rest := []) cv_X7_36_6 e dX7_orderFrom_19 rfl rfl (Nat.le_of_ble_eq_true rfl) (Nat.le_of_eq (Nat.zero_add _)) (Nat.le_of_eq (Nat.zero_add _)) (b1 := (0, 0)) (b2 := (0, 0)) (Ev.mono hF ?_)
    intro r1 h2 hF
    obtain ⟨x3, rfl, hF⟩ := hF
    refine m_istore (ls2 := [some (.ref r_0), some (.int x_1), some (.int x_2), some (.long y_3), none, some (.int x_5), some (.int x_6), some (.int x3)]) dX7_orderFrom_22 (by decide) rfl ?_
    refine m_iload dX7_orderFrom_24 rfl ?_
    refine m_if_lt 45 dX7_orderFrom_26 (by decide) (fun c => ?_) (fun c => ?_)
    · replace hF := hF.1 c
      refine m_ldc2_w dX7_orderFrom_45 kc_X7_42 ?_
      exact m_lreturn dX7_orderFrom_48 trivial hF
    · replace hF := hF.2 c
      refine m_iload dX7_orderFrom_29 rfl ?_
      refine m_iload_n dX7_orderFrom_31 rfl ?_
      refine m_icmp_ge 45 dX7_orderFrom_32 (by decide) (fun c => ?_) (fun c => ?_)
      · replace hF := hF.1 c
        refine m_ldc2_w dX7_orderFrom_45 kc_X7_42 ?_
        exact m_lreturn dX7_orderFrom_48 trivial hF
      · replace hF := hF.2 c
        refine m_iload dX7_orderFrom_35 rfl ?_
        refine m_iload dX7_orderFrom_37 rfl ?_
        refine m_ishr dX7_orderFrom_39 ?_
        refine m_iconst dX7_orderFrom_40 ki_1 ?_
        refine m_iand dX7_orderFrom_41 ?_
        refine m_if_eq 49 dX7_orderFrom_42 (by decide) (fun c => ?_) (fun c => ?_)
        · replace hF := hF.1 c
          refine m_iload dX7_orderFrom_49 rfl ?_
          refine m_iconst dX7_orderFrom_51 ki_1 ?_
          refine m_iload dX7_orderFrom_52 rfl ?_
          refine m_ishl dX7_orderFrom_54 ?_
          refine m_ior dX7_orderFrom_55 ?_
          refine m_istore (ls2 := [some (.ref r_0), some (.int x_1), some (.int x_2), some (.long y_3), none, some (.int (x_5 ||| (1 <<< (x3 &&& 31)))), some (.int x_6), some (.int x3)]) dX7_orderFrom_56 (by decide) rfl ?_
          refine m_lload_n dX7_orderFrom_58 rfl ?_
          refine m_iload dX7_orderFrom_59 rfl ?_
          refine m_iload dX7_orderFrom_61 rfl ?_
          refine m_static (as := [.long y_3, .int x_6, .int x3]) (rest := []) cs_X7_44 dX7_orderFrom_63 rfl rfl (Nat.le_of_ble_eq_true rfl) (Nat.le_of_eq (Nat.zero_add _)) (Nat.le_of_eq (Nat.zero_add _)) (b1 := (0, 0)) (b2 := (0, 0)) (Ev.mono hF ?_)
          intro r4 h5 hF
          obtain ⟨y6, rfl, hF⟩ := hF
          refine m_lstore_n (ls2 := [some (.ref r_0), some (.int x_1), some (.int x_2), some (.long y6), none, some (.int (x_5 ||| (1 <<< (x3 &&& 31)))), some (.int x_6), some (.int x3)]) dX7_orderFrom_66 (by decide) rfl ?_
          refine m_iinc (v := x_6 + 1) (ls2 := [some (.ref r_0), some (.int x_1), some (.int x_2), some (.long y6), none, some (.int (x_5 ||| (1 <<< (x3 &&& 31)))), some (.int (x_6 + 1)), some (.int x3)]) dX7_orderFrom_67 (by decide) rfl (congrArg (_ + ·) ki_1) rfl ?_
          refine m_goto 8 dX7_orderFrom_70 (by decide) ?_
          refine m_wk [7] rfl ?_
          exact hF
        · replace hF := hF.2 c
          refine m_ldc2_w dX7_orderFrom_45 kc_X7_42 ?_
          exact m_lreturn dX7_orderFrom_48 trivial hF
theorem en_X7_orderFrom {d : Nat} {r_0 : Nat} {x_1 : Int32} {x_2 : Int32} {h : mH} {K : Option Value → mH → Prop} (hk : Wm (d + 1) (0, 0) JX7_orderFrom 0 [some (.ref r_0), some (.int x_1), some (.int x_2), none, none, none, none, none] [] h (fun r h' => h'.1 0 = h.1 0 ∧ K r h')) : Ev (d + 1) (0, 0) MX7_orderFrom [.ref r_0, .int x_1, .int x_2] h K :=
  m_met pn_X7 nl_X7 (fun _ => Nat.le_of_ble_eq_true rfl) hk

theorem bk_X11_init_0 {d : Nat} {b : Nat × Nat} (r_0 : Nat) {h : mH} {Q : Option Value → mH → Prop} (hF : (∃ n1 : Nat, ¬ (8 : Int32) < 0 ∧ (8 : Int32).toNatClampNeg = n1 ∧ n1 ≤ 100000 ∧ 1 ≤ b.1 ∧ n1 ≤ b.2 ∧ ∀ h2 : mH, h2 = (m_up h.1 h.2 (.inl (3, n1, .inr (.inr (.inr (.inr fun _ => none))))), h.2 + 1) → (∃ h3 : mH, m_put h2 r_0 10 0 (.ref h.2) = some h3 ∧ Wm (d + 1) (b.1 - 1, b.2 - n1) JX11_init 15 [some (.ref r_0), some (.int 0)] [] h3 Q))) : Wm (d + 1) b JX11_init 0 [some (.ref r_0), none] [] h Q := by
  refine m_aload_n dX11_init_0 rfl ?_
  refine m_objinit ol_X11_1 oi_1 oi_2 dX11_init_1 (Nat.le_of_ble_eq_true rfl) ?_
  refine m_aload_n dX11_init_4 rfl ?_
  refine m_bipush dX11_init_5 kb_8 ?_
  obtain ⟨n1, e1, e2, e3, e4, e5, hF⟩ := hF
  refine m_anewarr (t := 3) (b2 := (b.1 - 1, b.2 - n1)) (Or.inl ⟨rfl, rfl⟩) dX11_init_7 e1 e2 e3 cl_X11_9 (Nat.le_of_eq (Nat.sub_add_cancel e4)) (Nat.le_of_eq (Nat.sub_add_cancel e5)) ?_
  replace hF := hF _ rfl
  generalize (m_up h.1 h.2 (.inl (3, n1, .inr (.inr (.inr (.inr fun _ => none))))), h.2 + 1) = h2 at hF ⊢
  obtain ⟨h3, e, hF⟩ := hF
  refine m_putfF fp_X11_11_10 rfl dX11_init_10 trivial e ?_
  refine m_iconst dX11_init_13 ki_0 ?_
  refine m_istore_n (ls2 := [some (.ref r_0), some (.int 0)]) dX11_init_14 (by decide) rfl ?_
  exact hF
theorem bk_X11_init_15 {d : Nat} {b : Nat × Nat} (r_0 : Nat) (x_1 : Int32) {h : mH} {Q : Option Value → mH → Prop} (hF : ((8 ≤ x_1 → (∃ n1 : Nat, ¬ (10 : Int32) < 0 ∧ (10 : Int32).toNatClampNeg = n1 ∧ n1 ≤ 100000 ∧ 1 ≤ b.1 ∧ n1 ≤ b.2 ∧ ∀ h2 : mH, h2 = (m_up h.1 h.2 (.inl (4, n1, .inr (.inr (.inr (.inr fun _ => none))))), h.2 + 1) → (∃ h3 : mH, m_put h2 r_0 10 1 (.ref h.2) = some h3 ∧ (1 ≤ b.1 - 1 ∧ 3 ≤ b.2 - n1 ∧ ∀ h4 : mH, h4 = (m_up h3.1 h3.2 (.inr (6, [.null, .int 0, .int 0])), h3.2 + 1) → (∃ b7 : Nat × Nat, b7.1 ≤ b.1 - 1 - 1 ∧ b7.2 ≤ b.2 - n1 - 3 ∧ Ev d b7 MX7_init [.ref h3.2, .int 16] h4 (fun r5 h6 => r5 = none ∧ (∃ h8 : mH, m_put h6 r_0 10 2 (.ref h3.2) = some h8 ∧ (∃ r9 : Nat, m_fld h8 r_0 [10] 2 = some (.ref r9) ∧ (∃ fs32 : List Value, (h8).1 r9 = .inr (6, fs32) ∧ Ev d (0, 0) MX7_begin [.ref r9, .int 2, .int 0] h8 (fun r10 h11 => r10 = none ∧ (1 ≤ b.1 - 1 - 1 - b7.1 ∧ 4 ≤ b.2 - n1 - 3 - b7.2 ∧ ∀ h12 : mH, h12 = (m_up h11.1 h11.2 (.inr (3, [.null, .int 0, .long 0, .long 0])), h11.2 + 1) → (∃ b15 : Nat × Nat, b15.1 ≤ b.1 - 1 - 1 - b7.1 - 1 ∧ b15.2 ≤ b.2 - n1 - 3 - b7.2 - 4 ∧ Ev d b15 MX3_init [.ref h11.2] h12 (fun r13 h14 => r13 = none ∧ (∃ h16 : mH, m_put h14 r_0 10 3 (.ref h11.2) = some h16 ∧ (1 ≤ b.1 - 1 - 1 - b7.1 - 1 - b15.1 ∧ 3 ≤ b.2 - n1 - 3 - b7.2 - 4 - b15.2 ∧ ∀ h17 : mH, h17 = (m_up h16.1 h16.2 (.inr (5, [.null, .null, .int 0])), h16.2 + 1) → (∃ b20 : Nat × Nat, b20.1 ≤ b.1 - 1 - 1 - b7.1 - 1 - b15.1 - 1 ∧ b20.2 ≤ b.2 - n1 - 3 - b7.2 - 4 - b15.2 - 3 ∧ Ev d b20 MX6_init [.ref h16.2] h17 (fun r18 h19 => r18 = none ∧ (∃ h21 : mH, m_put h19 r_0 10 4 (.ref h16.2) = some h21 ∧ (1 ≤ b.1 - 1 - 1 - b7.1 - 1 - b15.1 - 1 - b20.1 ∧ 3 ≤ b.2 - n1 - 3 - b7.2 - 4 - b15.2 - 3 - b20.2 ∧ ∀ h22 : mH, h22 = (m_up h21.1 h21.2 (.inr (2, [.null, .null, .int 0])), h21.2 + 1) → (∃ b25 : Nat × Nat, b25.1 ≤ b.1 - 1 - 1 - b7.1 - 1 - b15.1 - 1 - b20.1 - 1 ∧ b25.2 ≤ b.2 - n1 - 3 - b7.2 - 4 - b15.2 - 3 - b20.2 - 3 ∧ Ev d b25 MX2_init [.ref h21.2] h22 (fun r23 h24 => r23 = none ∧ (∃ h26 : mH, m_put h24 r_0 10 5 (.ref h21.2) = some h26 ∧ (1 ≤ b.1 - 1 - 1 - b7.1 - 1 - b15.1 - 1 - b20.1 - 1 - b25.1 ∧ 4 ≤ b.2 - n1 - 3 - b7.2 - 4 - b15.2 - 3 - b20.2 - 3 - b25.2 ∧ ∀ h27 : mH, h27 = (m_up h26.1 h26.2 (.inr (7, [.null, .null, .int 0, .int 0])), h26.2 + 1) → (∃ b30 : Nat × Nat, b30.1 ≤ b.1 - 1 - 1 - b7.1 - 1 - b15.1 - 1 - b20.1 - 1 - b25.1 - 1 ∧ b30.2 ≤ b.2 - n1 - 3 - b7.2 - 4 - b15.2 - 3 - b20.2 - 3 - b25.2 - 4 ∧ Ev d b30 MX8_init [.ref h26.2] h27 (fun r28 h29 => r28 = none ∧ (∃ h31 : mH, m_put h29 r_0 10 6 (.ref h26.2) = some h31 ∧ Q none h31)))))))))))))))))))))))))) ∧ (¬ (8 ≤ x_1) → (∃ r33 : Nat, m_fld h r_0 [10] 0 = some (.ref r33) ∧ (1 ≤ b.1 ∧ 3 ≤ b.2 ∧ ∀ h34 : mH, h34 = (m_up h.1 h.2 (.inr (6, [.null, .int 0, .int 0])), h.2 + 1) → (∃ b37 : Nat × Nat, b37.1 ≤ b.1 - 1 ∧ b37.2 ≤ b.2 - 3 ∧ Ev d b37 MX7_init [.ref h.2, .int 96] h34 (fun r35 h36 => r35 = none ∧ (∃ h38 : mH, m_rs h36 r33 x_1 (.ref h.2) = some h38 ∧ Wm (d + 1) (b.1 - 1 - b37.1, b.2 - 3 - b37.2) JX11_init 15 [some (.ref r_0), some (.int (x_1 + 1))] [] h38 Q)))))))) : Wm (d + 1) b JX11_init 15 [some (.ref r_0), some (.int x_1)] [] h Q := by
  refine m_iload_n dX11_init_15 rfl ?_
  refine m_bipush dX11_init_16 kb_8 ?_
  refine m_icmp_ge 42 dX11_init_18 (by decide) (fun c => ?_) (fun c => ?_)
  · replace hF := hF.1 c
    refine m_aload_n dX11_init_42 rfl ?_
    refine m_bipush dX11_init_43 kb_10 ?_
    obtain ⟨n1, e1, e2, e3, e4, e5, hF⟩ := hF
    refine m_anewarr (t := 4) (b2 := (b.1 - 1, b.2 - n1)) (Or.inr ⟨rfl, rfl⟩) dX11_init_45 e1 e2 e3 cl_X11_18 (Nat.le_of_eq (Nat.sub_add_cancel e4)) (Nat.le_of_eq (Nat.sub_add_cancel e5)) ?_
    replace hF := hF _ rfl
    generalize (m_up h.1 h.2 (.inl (4, n1, .inr (.inr (.inr (.inr fun _ => none))))), h.2 + 1) = h2 at hF ⊢
    obtain ⟨h3, e, hF⟩ := hF
    refine m_putfF fp_X11_20_10 rfl dX11_init_48 trivial e ?_
    refine m_aload_n dX11_init_51 rfl ?_
    obtain ⟨e4, e5, hF⟩ := hF
    refine m_newobj (b2 := (b.1 - 1 - 1, b.2 - n1 - 3)) nw_X11_9 dX11_init_52 (Nat.le_of_eq (Nat.sub_add_cancel e4)) (Nat.le_of_eq (Nat.sub_add_cancel e5)) ?_
    replace hF := hF _ rfl
    generalize (m_up h3.1 h3.2 (.inr (6, [.null, .int 0, .int 0])), h3.2 + 1) = h4 at hF ⊢
    refine m_dup dX11_init_55 rfl ?_
    refine m_bipush dX11_init_56 kb_16 ?_
    obtain ⟨b7, g1, g2, hF⟩ := hF
    refine m_special (as := [.int 16]) (rest := [.ref h3.2, .ref r_0]) ci_X11_15 dX11_init_58 rfl rfl (Nat.le_of_ble_eq_true rfl) (Nat.le_of_eq (Nat.add_sub_cancel' g1)) (Nat.le_of_eq (Nat.add_sub_cancel' g2)) (b1 := b7) (b2 := (b.1 - 1 - 1 - b7.1, b.2 - n1 - 3 - b7.2)) (Ev.mono hF ?_)
    intro r5 h6 hF
    obtain ⟨rfl, hF⟩ := hF
    obtain ⟨h8, e, hF⟩ := hF
    refine m_putfF fp_X11_24_10 rfl dX11_init_61 trivial e ?_
    refine m_aload_n dX11_init_64 rfl ?_
    obtain ⟨r9, e, hF⟩ := hF
    refine m_get fg_X11_24 dX11_init_65 e ?_
    refine m_iconst dX11_init_68 ki_2 ?_
    refine m_iconst dX11_init_69 ki_0 ?_
    obtain ⟨fs32, e, hF⟩ := hF
    refine m_virtual (as := [.int 2, .int 0]) (rest := []) cv_X11_28_6 e dX11_init_70 rfl rfl (Nat.le_of_ble_eq_true rfl) (Nat.le_of_eq (Nat.zero_add _)) (Nat.le_of_eq (Nat.zero_add _)) (b1 := (0, 0)) (b2 := (b.1 - 1 - 1 - b7.1, b.2 - n1 - 3 - b7.2)) (Ev.mono hF ?_)
    intro r10 h11 hF
    obtain ⟨rfl, hF⟩ := hF
    refine m_aload_n dX11_init_73 rfl ?_
    obtain ⟨e4, e5, hF⟩ := hF
    refine m_newobj (b2 := (b.1 - 1 - 1 - b7.1 - 1, b.2 - n1 - 3 - b7.2 - 4)) nw_X11_32 dX11_init_74 (Nat.le_of_eq (Nat.sub_add_cancel e4)) (Nat.le_of_eq (Nat.sub_add_cancel e5)) ?_
    replace hF := hF _ rfl
    generalize (m_up h11.1 h11.2 (.inr (3, [.null, .int 0, .long 0, .long 0])), h11.2 + 1) = h12 at hF ⊢
    refine m_dup dX11_init_77 rfl ?_
    obtain ⟨b15, g1, g2, hF⟩ := hF
    refine m_special (as := []) (rest := [.ref h11.2, .ref r_0]) ci_X11_34 dX11_init_78 rfl rfl (Nat.le_of_ble_eq_true rfl) (Nat.le_of_eq (Nat.add_sub_cancel' g1)) (Nat.le_of_eq (Nat.add_sub_cancel' g2)) (b1 := b15) (b2 := (b.1 - 1 - 1 - b7.1 - 1 - b15.1, b.2 - n1 - 3 - b7.2 - 4 - b15.2)) (Ev.mono hF ?_)
    intro r13 h14 hF
    obtain ⟨rfl, hF⟩ := hF
    obtain ⟨h16, e, hF⟩ := hF
    refine m_putfF fp_X11_35_10 rfl dX11_init_81 trivial e ?_
    refine m_aload_n dX11_init_84 rfl ?_
    obtain ⟨e4, e5, hF⟩ := hF
    refine m_newobj (b2 := (b.1 - 1 - 1 - b7.1 - 1 - b15.1 - 1, b.2 - n1 - 3 - b7.2 - 4 - b15.2 - 3)) nw_X11_39 dX11_init_85 (Nat.le_of_eq (Nat.sub_add_cancel e4)) (Nat.le_of_eq (Nat.sub_add_cancel e5)) ?_
    replace hF := hF _ rfl
    generalize (m_up h16.1 h16.2 (.inr (5, [.null, .null, .int 0])), h16.2 + 1) = h17 at hF ⊢
    refine m_dup dX11_init_88 rfl ?_
    obtain ⟨b20, g1, g2, hF⟩ := hF
    refine m_special (as := []) (rest := [.ref h16.2, .ref r_0]) ci_X11_41 dX11_init_89 rfl rfl (Nat.le_of_ble_eq_true rfl) (Nat.le_of_eq (Nat.add_sub_cancel' g1)) (Nat.le_of_eq (Nat.add_sub_cancel' g2)) (b1 := b20) (b2 := (b.1 - 1 - 1 - b7.1 - 1 - b15.1 - 1 - b20.1, b.2 - n1 - 3 - b7.2 - 4 - b15.2 - 3 - b20.2)) (Ev.mono hF ?_)
    intro r18 h19 hF
    obtain ⟨rfl, hF⟩ := hF
    obtain ⟨h21, e, hF⟩ := hF
    refine m_putfF fp_X11_42_10 rfl dX11_init_92 trivial e ?_
    refine m_aload_n dX11_init_95 rfl ?_
    obtain ⟨e4, e5, hF⟩ := hF
    refine m_newobj (b2 := (b.1 - 1 - 1 - b7.1 - 1 - b15.1 - 1 - b20.1 - 1, b.2 - n1 - 3 - b7.2 - 4 - b15.2 - 3 - b20.2 - 3)) nw_X11_46 dX11_init_96 (Nat.le_of_eq (Nat.sub_add_cancel e4)) (Nat.le_of_eq (Nat.sub_add_cancel e5)) ?_
    replace hF := hF _ rfl
    generalize (m_up h21.1 h21.2 (.inr (2, [.null, .null, .int 0])), h21.2 + 1) = h22 at hF ⊢
    refine m_dup dX11_init_99 rfl ?_
    obtain ⟨b25, g1, g2, hF⟩ := hF
    refine m_special (as := []) (rest := [.ref h21.2, .ref r_0]) ci_X11_48 dX11_init_100 rfl rfl (Nat.le_of_ble_eq_true rfl) (Nat.le_of_eq (Nat.add_sub_cancel' g1)) (Nat.le_of_eq (Nat.add_sub_cancel' g2)) (b1 := b25) (b2 := (b.1 - 1 - 1 - b7.1 - 1 - b15.1 - 1 - b20.1 - 1 - b25.1, b.2 - n1 - 3 - b7.2 - 4 - b15.2 - 3 - b20.2 - 3 - b25.2)) (Ev.mono hF ?_)
    intro r23 h24 hF
    obtain ⟨rfl, hF⟩ := hF
    obtain ⟨h26, e, hF⟩ := hF
    refine m_putfF fp_X11_49_10 rfl dX11_init_103 trivial e ?_
    refine m_aload_n dX11_init_106 rfl ?_
    obtain ⟨e4, e5, hF⟩ := hF
    refine m_newobj (b2 := (b.1 - 1 - 1 - b7.1 - 1 - b15.1 - 1 - b20.1 - 1 - b25.1 - 1, b.2 - n1 - 3 - b7.2 - 4 - b15.2 - 3 - b20.2 - 3 - b25.2 - 4)) nw_X11_53 dX11_init_107 (Nat.le_of_eq (Nat.sub_add_cancel e4)) (Nat.le_of_eq (Nat.sub_add_cancel e5)) ?_
    replace hF := hF _ rfl
    generalize (m_up h26.1 h26.2 (.inr (7, [.null, .null, .int 0, .int 0])), h26.2 + 1) = h27 at hF ⊢
    refine m_dup dX11_init_110 rfl ?_
    obtain ⟨b30, g1, g2, hF⟩ := hF
    refine m_special (as := []) (rest := [.ref h26.2, .ref r_0]) ci_X11_55 dX11_init_111 rfl rfl (Nat.le_of_ble_eq_true rfl) (Nat.le_of_eq (Nat.add_sub_cancel' g1)) (Nat.le_of_eq (Nat.add_sub_cancel' g2)) (b1 := b30) (b2 := (b.1 - 1 - 1 - b7.1 - 1 - b15.1 - 1 - b20.1 - 1 - b25.1 - 1 - b30.1, b.2 - n1 - 3 - b7.2 - 4 - b15.2 - 3 - b20.2 - 3 - b25.2 - 4 - b30.2)) (Ev.mono hF ?_)
    intro r28 h29 hF
    obtain ⟨rfl, hF⟩ := hF
    obtain ⟨h31, e, hF⟩ := hF
    refine m_putfF fp_X11_56_10 rfl dX11_init_114 trivial e ?_
    exact m_return dX11_init_117 trivial hF
  · replace hF := hF.2 c
    refine m_aload_n dX11_init_21 rfl ?_
    obtain ⟨r33, e, hF⟩ := hF
    refine m_get fg_X11_11 dX11_init_22 e ?_
    refine m_iload_n dX11_init_25 rfl ?_
    obtain ⟨e4, e5, hF⟩ := hF
    refine m_newobj (b2 := (b.1 - 1, b.2 - 3)) nw_X11_9 dX11_init_26 (Nat.le_of_eq (Nat.sub_add_cancel e4)) (Nat.le_of_eq (Nat.sub_add_cancel e5)) ?_
    replace hF := hF _ rfl
    generalize (m_up h.1 h.2 (.inr (6, [.null, .int 0, .int 0])), h.2 + 1) = h34 at hF ⊢
    refine m_dup dX11_init_29 rfl ?_
    refine m_bipush dX11_init_30 kb_96 ?_
    obtain ⟨b37, g1, g2, hF⟩ := hF
    refine m_special (as := [.int 96]) (rest := [.ref h.2, .int x_1, .ref r33]) ci_X11_15 dX11_init_32 rfl rfl (Nat.le_of_ble_eq_true rfl) (Nat.le_of_eq (Nat.add_sub_cancel' g1)) (Nat.le_of_eq (Nat.add_sub_cancel' g2)) (b1 := b37) (b2 := (b.1 - 1 - b37.1, b.2 - 3 - b37.2)) (Ev.mono hF ?_)
    intro r35 h36 hF
    obtain ⟨rfl, hF⟩ := hF
    obtain ⟨h38, e, hF⟩ := hF
    refine m_aast dX11_init_35 e ?_
    refine m_iinc (v := x_1 + 1) (ls2 := [some (.ref r_0), some (.int (x_1 + 1))]) dX11_init_36 (by decide) rfl (congrArg (_ + ·) ki_1) rfl ?_
    refine m_goto 15 dX11_init_39 (by decide) ?_
    exact hF
theorem en_X11_init {d : Nat} {b : Nat × Nat} {r_0 : Nat} {h : mH} {K : Option Value → mH → Prop} (hk : Wm (d + 1) b JX11_init 0 [some (.ref r_0), none] [] h (fun r h' => h'.1 0 = h.1 0 ∧ K r h')) : Ev (d + 1) b MX11_init [.ref r_0] h K :=
  m_met pn_X11 nl_X11 (fun _ => Nat.le_of_ble_eq_true rfl) hk
theorem bk_X11_row_0 {d : Nat} (r_0 : Nat) (x_1 : Int32) (x_2 : Int32) (x_3 : Int32) {h : mH} {Q : Option Value → mH → Prop} (hF : Ev d (0, 0) MX11_noRow [.int x_1] h (fun r1 h2 => ∃ x3 : Int32, r1 = some (.int x3) ∧ ((¬ x3 = 0 → Q (some (.int (-1000001))) h2) ∧ (x3 = 0 → ((x_2 < 0 → Q (some (.int (-1000001))) h2) ∧ (¬ (x_2 < 0) → ((2 < x_2 → Q (some (.int (-1000001))) h2) ∧ (¬ (2 < x_2) → ((x_3 ≤ 96 → ((0 ≤ x_3 → (∃ r4 : Nat, m_fld h2 r_0 [10] 0 = some (.ref r4) ∧ ((m_rl h2 r4 x_1 = some .null ∧ False) ∨ (∃ r5 : Nat, m_rl h2 r4 x_1 = some (.ref r5) ∧ (∃ fs14 : List Value, (h2).1 r5 = .inr (6, fs14) ∧ Ev d (0, 0) MX7_begin [.ref r5, .int x_2, .int x_3] h2 (fun r8 h9 => r8 = none ∧ (∃ fs13 : List Value, (h9).1 r_0 = .inr (10, fs13) ∧ Ev d (0, 0) MX11_fine [.ref r_0, .int x_3] h9 (fun r10 h11 => ∃ x12 : Int32, r10 = some (.int x12) ∧ Q (some (.int x12)) h11)))))))) ∧ (¬ (0 ≤ x_3) → (∃ fs18 : List Value, (h2).1 r_0 = .inr (10, fs18) ∧ Ev d (0, 0) MX11_found [.ref r_0, .int 4] h2 (fun r15 h16 => ∃ x17 : Int32, r15 = some (.int x17) ∧ Q (some (.int x17)) h16))))) ∧ (¬ (x_3 ≤ 96) → Q (some (.int (-1000001))) h2)))))))))) : Wm (d + 1) (0, 0) JX11_row 0 [some (.ref r_0), some (.int x_1), some (.int x_2), some (.int x_3)] [] h Q := by
  refine m_iload_n dX11_row_0 rfl ?_
  refine m_static (as := [.int x_1]) (rest := []) cs_X11_60 dX11_row_1 rfl rfl (Nat.le_of_ble_eq_true rfl) (Nat.le_of_eq (Nat.zero_add _)) (Nat.le_of_eq (Nat.zero_add _)) (b1 := (0, 0)) (b2 := (0, 0)) (Ev.mono hF ?_)
  intro r1 h2 hF
  obtain ⟨x3, rfl, hF⟩ := hF
  refine m_if_ne 22 dX11_row_4 (by decide) (fun c => ?_) (fun c => ?_)
  · replace hF := hF.1 c
    refine m_ldc dX11_row_22 kc_X11_64 ?_
    exact m_ireturn dX11_row_24 trivial hF
  · replace hF := hF.2 c
    refine m_iload_n dX11_row_7 rfl ?_
    refine m_if_lt 22 dX11_row_8 (by decide) (fun c => ?_) (fun c => ?_)
    · replace hF := hF.1 c
      refine m_ldc dX11_row_22 kc_X11_64 ?_
      exact m_ireturn dX11_row_24 trivial hF
    · replace hF := hF.2 c
      refine m_iload_n dX11_row_11 rfl ?_
      refine m_iconst dX11_row_12 ki_2 ?_
      refine m_icmp_gt 22 dX11_row_13 (by decide) (fun c => ?_) (fun c => ?_)
      · replace hF := hF.1 c
        refine m_ldc dX11_row_22 kc_X11_64 ?_
        exact m_ireturn dX11_row_24 trivial hF
      · replace hF := hF.2 c
        refine m_iload_n dX11_row_16 rfl ?_
        refine m_bipush dX11_row_17 kb_96 ?_
        refine m_icmp_le 25 dX11_row_19 (by decide) (fun c => ?_) (fun c => ?_)
        · replace hF := hF.1 c
          refine m_iload_n dX11_row_25 rfl ?_
          refine m_if_ge 35 dX11_row_26 (by decide) (fun c => ?_) (fun c => ?_)
          · replace hF := hF.1 c
            refine m_aload_n dX11_row_35 rfl ?_
            obtain ⟨r4, e, hF⟩ := hF
            refine m_get fg_X11_11 dX11_row_36 e ?_
            refine m_iload_n dX11_row_39 rfl ?_
            rcases hF with ⟨e, hF⟩ | ⟨r5, e, hF⟩
            · refine m_aald dX11_row_40 e ?_
              refine m_iload_n dX11_row_41 rfl ?_
              refine m_iload_n dX11_row_42 rfl ?_
              exact hF.elim
            · refine m_aald dX11_row_40 e ?_
              refine m_iload_n dX11_row_41 rfl ?_
              refine m_iload_n dX11_row_42 rfl ?_
              obtain ⟨fs14, e, hF⟩ := hF
              refine m_virtual (as := [.int x_2, .int x_3]) (rest := []) cv_X11_28_6 e dX11_row_43 rfl rfl (Nat.le_of_ble_eq_true rfl) (Nat.le_of_eq (Nat.zero_add _)) (Nat.le_of_eq (Nat.zero_add _)) (b1 := (0, 0)) (b2 := (0, 0)) (Ev.mono hF ?_)
              intro r8 h9 hF
              obtain ⟨rfl, hF⟩ := hF
              refine m_aload_n dX11_row_46 rfl ?_
              refine m_iload_n dX11_row_47 rfl ?_
              obtain ⟨fs13, e, hF⟩ := hF
              refine m_virtual (as := [.int x_3]) (rest := []) cv_X11_69_10 e dX11_row_48 rfl rfl (Nat.le_of_ble_eq_true rfl) (Nat.le_of_eq (Nat.zero_add _)) (Nat.le_of_eq (Nat.zero_add _)) (b1 := (0, 0)) (b2 := (0, 0)) (Ev.mono hF ?_)
              intro r10 h11 hF
              obtain ⟨x12, rfl, hF⟩ := hF
              exact m_ireturn dX11_row_51 trivial hF
          · replace hF := hF.2 c
            refine m_aload_n dX11_row_29 rfl ?_
            refine m_iconst dX11_row_30 ki_4 ?_
            obtain ⟨fs18, e, hF⟩ := hF
            refine m_virtual (as := [.int 4]) (rest := []) cv_X11_65_10 e dX11_row_31 rfl rfl (Nat.le_of_ble_eq_true rfl) (Nat.le_of_eq (Nat.zero_add _)) (Nat.le_of_eq (Nat.zero_add _)) (b1 := (0, 0)) (b2 := (0, 0)) (Ev.mono hF ?_)
            intro r15 h16 hF
            obtain ⟨x17, rfl, hF⟩ := hF
            exact m_ireturn dX11_row_34 trivial hF
        · replace hF := hF.2 c
          refine m_ldc dX11_row_22 kc_X11_64 ?_
          exact m_ireturn dX11_row_24 trivial hF
theorem en_X11_row {d : Nat} {r_0 : Nat} {x_1 : Int32} {x_2 : Int32} {x_3 : Int32} {h : mH} {K : Option Value → mH → Prop} (hk : Wm (d + 1) (0, 0) JX11_row 0 [some (.ref r_0), some (.int x_1), some (.int x_2), some (.int x_3)] [] h (fun r h' => h'.1 0 = h.1 0 ∧ K r h')) : Ev (d + 1) (0, 0) MX11_row [.ref r_0, .int x_1, .int x_2, .int x_3] h K :=
  m_met pn_X11 nl_X11 (fun _ => Nat.le_of_ble_eq_true rfl) hk
theorem bk_X11_set_0 {d : Nat} (r_0 : Nat) (x_1 : Int32) (x_2 : Int32) (x_3 : Int32) {h : mH} {Q : Option Value → mH → Prop} (hF : Ev d (0, 0) MX11_noRow [.int x_1] h (fun r1 h2 => ∃ x3 : Int32, r1 = some (.int x3) ∧ ((x3 = 0 → (∃ r4 : Nat, m_fld h2 r_0 [10] 0 = some (.ref r4) ∧ ((m_rl h2 r4 x_1 = some .null ∧ False) ∨ (∃ r5 : Nat, m_rl h2 r4 x_1 = some (.ref r5) ∧ (∃ fs32 : List Value, (h2).1 r5 = .inr (6, fs32) ∧ Ev d (0, 0) MX7_missing [.ref r5] h2 (fun r9 h10 => ∃ x11 : Int32, r9 = some (.int x11) ∧ ((x11 = 0 → (∃ fs27 : List Value, (h10).1 r5 = .inr (6, fs27) ∧ Ev d (0, 0) MX7_holds [.ref r5, .int x_2, .int 1] h10 (fun r12 h13 => ∃ x14 : Int32, r12 = some (.int x14) ∧ ((¬ x14 = 0 → (∃ fs22 : List Value, (h13).1 r5 = .inr (6, fs22) ∧ Ev d (0, 0) MX7_put [.ref r5, .int x_2, .int x_3] h13 (fun r15 h16 => ∃ x17 : Int32, r15 = some (.int x17) ∧ (∃ fs21 : List Value, (h16).1 r_0 = .inr (10, fs21) ∧ Ev d (0, 0) MX11_fine [.ref r_0, .int x17] h16 (fun r18 h19 => ∃ x20 : Int32, r18 = some (.int x20) ∧ Q (some (.int x20)) h19))))) ∧ (x14 = 0 → (∃ fs26 : List Value, (h13).1 r_0 = .inr (10, fs26) ∧ Ev d (0, 0) MX11_found [.ref r_0, .int 2] h13 (fun r23 h24 => ∃ x25 : Int32, r23 = some (.int x25) ∧ Q (some (.int x25)) h24))))))) ∧ (¬ (x11 = 0) → (∃ fs31 : List Value, (h10).1 r_0 = .inr (10, fs31) ∧ Ev d (0, 0) MX11_found [.ref r_0, .int 1] h10 (fun r28 h29 => ∃ x30 : Int32, r28 = some (.int x30) ∧ Q (some (.int x30)) h29)))))))))) ∧ (¬ (x3 = 0) → Q (some (.int (-1000001))) h2)))) : Wm (d + 1) (0, 0) JX11_set 0 [some (.ref r_0), some (.int x_1), some (.int x_2), some (.int x_3), none] [] h Q := by
  refine m_iload_n dX11_set_0 rfl ?_
  refine m_static (as := [.int x_1]) (rest := []) cs_X11_60 dX11_set_1 rfl rfl (Nat.le_of_ble_eq_true rfl) (Nat.le_of_eq (Nat.zero_add _)) (Nat.le_of_eq (Nat.zero_add _)) (b1 := (0, 0)) (b2 := (0, 0)) (Ev.mono hF ?_)
  intro r1 h2 hF
  obtain ⟨x3, rfl, hF⟩ := hF
  refine m_if_eq 10 dX11_set_4 (by decide) (fun c => ?_) (fun c => ?_)
  · replace hF := hF.1 c
    refine m_aload_n dX11_set_10 rfl ?_
    obtain ⟨r4, e, hF⟩ := hF
    refine m_get fg_X11_11 dX11_set_11 e ?_
    refine m_iload_n dX11_set_14 rfl ?_
    rcases hF with ⟨e, hF⟩ | ⟨r5, e, hF⟩
    · refine m_aald dX11_set_15 e ?_
      refine m_astoreN (ls2 := [some (.ref r_0), some (.int x_1), some (.int x_2), some (.int x_3), some (.null)]) dX11_set_16 (by decide) rfl ?_
      refine m_aloadN dX11_set_18 rfl ?_
      exact hF.elim
    · refine m_aald dX11_set_15 e ?_
      refine m_astore (ls2 := [some (.ref r_0), some (.int x_1), some (.int x_2), some (.int x_3), some (.ref r5)]) dX11_set_16 (by decide) rfl ?_
      refine m_aload dX11_set_18 rfl ?_
      obtain ⟨fs32, e, hF⟩ := hF
      refine m_virtual (as := []) (rest := []) cv_X11_72_6 e dX11_set_20 rfl rfl (Nat.le_of_ble_eq_true rfl) (Nat.le_of_eq (Nat.zero_add _)) (Nat.le_of_eq (Nat.zero_add _)) (b1 := (0, 0)) (b2 := (0, 0)) (Ev.mono hF ?_)
      intro r9 h10 hF
      obtain ⟨x11, rfl, hF⟩ := hF
      refine m_if_eq 32 dX11_set_23 (by decide) (fun c => ?_) (fun c => ?_)
      · replace hF := hF.1 c
        refine m_aload dX11_set_32 rfl ?_
        refine m_iload_n dX11_set_34 rfl ?_
        refine m_iconst dX11_set_35 ki_1 ?_
        obtain ⟨fs27, e, hF⟩ := hF
        refine m_virtual (as := [.int x_2, .int 1]) (rest := []) cv_X11_76_6 e dX11_set_36 rfl rfl (Nat.le_of_ble_eq_true rfl) (Nat.le_of_eq (Nat.zero_add _)) (Nat.le_of_eq (Nat.zero_add _)) (b1 := (0, 0)) (b2 := (0, 0)) (Ev.mono hF ?_)
        intro r12 h13 hF
        obtain ⟨x14, rfl, hF⟩ := hF
        refine m_if_ne 48 dX11_set_39 (by decide) (fun c => ?_) (fun c => ?_)
        · replace hF := hF.1 c
          refine m_aload_n dX11_set_48 rfl ?_
          refine m_aload dX11_set_49 rfl ?_
          refine m_iload_n dX11_set_51 rfl ?_
          refine m_iload_n dX11_set_52 rfl ?_
          obtain ⟨fs22, e, hF⟩ := hF
          refine m_virtual (as := [.int x_2, .int x_3]) (rest := [.ref r_0]) cv_X11_80_6 e dX11_set_53 rfl rfl (Nat.le_of_ble_eq_true rfl) (Nat.le_of_eq (Nat.zero_add _)) (Nat.le_of_eq (Nat.zero_add _)) (b1 := (0, 0)) (b2 := (0, 0)) (Ev.mono hF ?_)
          intro r15 h16 hF
          obtain ⟨x17, rfl, hF⟩ := hF
          obtain ⟨fs21, e, hF⟩ := hF
          refine m_virtual (as := [.int x17]) (rest := []) cv_X11_69_10 e dX11_set_56 rfl rfl (Nat.le_of_ble_eq_true rfl) (Nat.le_of_eq (Nat.zero_add _)) (Nat.le_of_eq (Nat.zero_add _)) (b1 := (0, 0)) (b2 := (0, 0)) (Ev.mono hF ?_)
          intro r18 h19 hF
          obtain ⟨x20, rfl, hF⟩ := hF
          exact m_ireturn dX11_set_59 trivial hF
        · replace hF := hF.2 c
          refine m_aload_n dX11_set_42 rfl ?_
          refine m_iconst dX11_set_43 ki_2 ?_
          obtain ⟨fs26, e, hF⟩ := hF
          refine m_virtual (as := [.int 2]) (rest := []) cv_X11_65_10 e dX11_set_44 rfl rfl (Nat.le_of_ble_eq_true rfl) (Nat.le_of_eq (Nat.zero_add _)) (Nat.le_of_eq (Nat.zero_add _)) (b1 := (0, 0)) (b2 := (0, 0)) (Ev.mono hF ?_)
          intro r23 h24 hF
          obtain ⟨x25, rfl, hF⟩ := hF
          exact m_ireturn dX11_set_47 trivial hF
      · replace hF := hF.2 c
        refine m_aload_n dX11_set_26 rfl ?_
        refine m_iconst dX11_set_27 ki_1 ?_
        obtain ⟨fs31, e, hF⟩ := hF
        refine m_virtual (as := [.int 1]) (rest := []) cv_X11_65_10 e dX11_set_28 rfl rfl (Nat.le_of_ble_eq_true rfl) (Nat.le_of_eq (Nat.zero_add _)) (Nat.le_of_eq (Nat.zero_add _)) (b1 := (0, 0)) (b2 := (0, 0)) (Ev.mono hF ?_)
        intro r28 h29 hF
        obtain ⟨x30, rfl, hF⟩ := hF
        exact m_ireturn dX11_set_31 trivial hF
  · replace hF := hF.2 c
    refine m_ldc dX11_set_7 kc_X11_64 ?_
    exact m_ireturn dX11_set_9 trivial hF
theorem en_X11_set {d : Nat} {r_0 : Nat} {x_1 : Int32} {x_2 : Int32} {x_3 : Int32} {h : mH} {K : Option Value → mH → Prop} (hk : Wm (d + 1) (0, 0) JX11_set 0 [some (.ref r_0), some (.int x_1), some (.int x_2), some (.int x_3), none] [] h (fun r h' => h'.1 0 = h.1 0 ∧ K r h')) : Ev (d + 1) (0, 0) MX11_set [.ref r_0, .int x_1, .int x_2, .int x_3] h K :=
  m_met pn_X11 nl_X11 (fun _ => Nat.le_of_ble_eq_true rfl) hk
theorem bk_X11_copy_0 {d : Nat} (r_0 : Nat) (x_1 : Int32) (x_2 : Int32) (x_3 : Int32) (x_4 : Int32) (x_5 : Int32) {h : mH} {Q : Option Value → mH → Prop} (hF : Ev d (0, 0) MX11_noRow [.int x_1] h (fun r1 h2 => ∃ x3 : Int32, r1 = some (.int x3) ∧ ((¬ x3 = 0 → Q (some (.int (-1000001))) h2) ∧ (x3 = 0 → Ev d (0, 0) MX11_noRow [.int x_3] h2 (fun r4 h5 => ∃ x6 : Int32, r4 = some (.int x6) ∧ ((x6 = 0 → (∃ r7 : Nat, m_fld h5 r_0 [10] 0 = some (.ref r7) ∧ ((m_rl h5 r7 x_1 = some .null ∧ (∃ r9 : Nat, m_fld h5 r_0 [10] 0 = some (.ref r9) ∧ ((m_rl h5 r9 x_3 = some .null ∧ False) ∨ (∃ r10 : Nat, m_rl h5 r9 x_3 = some (.ref r10) ∧ False)))) ∨ (∃ r8 : Nat, m_rl h5 r7 x_1 = some (.ref r8) ∧ (∃ r17 : Nat, m_fld h5 r_0 [10] 0 = some (.ref r17) ∧ ((m_rl h5 r17 x_3 = some .null ∧ (∃ fs29 : List Value, (h5).1 r8 = .inr (6, fs29) ∧ Ev d (0, 0) MX7_missing [.ref r8] h5 (fun r19 h20 => ∃ x21 : Int32, r19 = some (.int x21) ∧ ((¬ x21 = 0 → (∃ fs25 : List Value, (h20).1 r_0 = .inr (10, fs25) ∧ Ev d (0, 0) MX11_found [.ref r_0, .int 1] h20 (fun r22 h23 => ∃ x24 : Int32, r22 = some (.int x24) ∧ Q (some (.int x24)) h23))) ∧ (x21 = 0 → False))))) ∨ (∃ r18 : Nat, m_rl h5 r17 x_3 = some (.ref r18) ∧ (∃ fs74 : List Value, (h5).1 r8 = .inr (6, fs74) ∧ Ev d (0, 0) MX7_missing [.ref r8] h5 (fun r30 h31 => ∃ x32 : Int32, r30 = some (.int x32) ∧ ((¬ x32 = 0 → (∃ fs36 : List Value, (h31).1 r_0 = .inr (10, fs36) ∧ Ev d (0, 0) MX11_found [.ref r_0, .int 1] h31 (fun r33 h34 => ∃ x35 : Int32, r33 = some (.int x35) ∧ Q (some (.int x35)) h34))) ∧ (x32 = 0 → (∃ fs73 : List Value, (h31).1 r18 = .inr (6, fs73) ∧ Ev d (0, 0) MX7_missing [.ref r18] h31 (fun r37 h38 => ∃ x39 : Int32, r37 = some (.int x39) ∧ ((x39 = 0 → (∃ x40 : Int32, m_fld h38 r8 [6] 1 = some (.int x40) ∧ (∃ x41 : Int32, m_fld h38 r18 [6] 1 = some (.int x41) ∧ ((x40 = x41 → (∃ fs64 : List Value, (h38).1 r8 = .inr (6, fs64) ∧ Ev d (0, 0) MX7_holds [.ref r8, .int x_2, .int x_5] h38 (fun r42 h43 => ∃ x44 : Int32, r42 = some (.int x44) ∧ ((x44 = 0 → (∃ fs48 : List Value, (h43).1 r_0 = .inr (10, fs48) ∧ Ev d (0, 0) MX11_found [.ref r_0, .int 2] h43 (fun r45 h46 => ∃ x47 : Int32, r45 = some (.int x47) ∧ Q (some (.int x47)) h46))) ∧ (¬ (x44 = 0) → (∃ fs63 : List Value, (h43).1 r18 = .inr (6, fs63) ∧ Ev d (0, 0) MX7_holds [.ref r18, .int x_4, .int x_5] h43 (fun r49 h50 => ∃ x51 : Int32, r49 = some (.int x51) ∧ ((¬ x51 = 0 → (∃ fs58 : List Value, (h50).1 r18 = .inr (6, fs58) ∧ Ev d (0, 0) MX7_take [.ref r18, .int x_4, .ref r8, .int x_2, .int x_5] h50 (fun r52 h53 => r52 = none ∧ (∃ fs57 : List Value, (h53).1 r_0 = .inr (10, fs57) ∧ Ev d (0, 0) MX11_fine [.ref r_0, .int x_5] h53 (fun r54 h55 => ∃ x56 : Int32, r54 = some (.int x56) ∧ Q (some (.int x56)) h55))))) ∧ (x51 = 0 → (∃ fs62 : List Value, (h50).1 r_0 = .inr (10, fs62) ∧ Ev d (0, 0) MX11_found [.ref r_0, .int 2] h50 (fun r59 h60 => ∃ x61 : Int32, r59 = some (.int x61) ∧ Q (some (.int x61)) h60))))))))))) ∧ (¬ (x40 = x41) → (∃ fs68 : List Value, (h38).1 r_0 = .inr (10, fs68) ∧ Ev d (0, 0) MX11_found [.ref r_0, .int 5] h38 (fun r65 h66 => ∃ x67 : Int32, r65 = some (.int x67) ∧ Q (some (.int x67)) h66))))))) ∧ (¬ (x39 = 0) → (∃ fs72 : List Value, (h38).1 r_0 = .inr (10, fs72) ∧ Ev d (0, 0) MX11_found [.ref r_0, .int 1] h38 (fun r69 h70 => ∃ x71 : Int32, r69 = some (.int x71) ∧ Q (some (.int x71)) h70))))))))))))))))) ∧ (¬ (x6 = 0) → Q (some (.int (-1000001))) h5))))))) : Wm (d + 1) (0, 0) JX11_copy 0 [some (.ref r_0), some (.int x_1), some (.int x_2), some (.int x_3), some (.int x_4), some (.int x_5), none, none] [] h Q := by
  refine m_iload_n dX11_copy_0 rfl ?_
  refine m_static (as := [.int x_1]) (rest := []) cs_X11_60 dX11_copy_1 rfl rfl (Nat.le_of_ble_eq_true rfl) (Nat.le_of_eq (Nat.zero_add _)) (Nat.le_of_eq (Nat.zero_add _)) (b1 := (0, 0)) (b2 := (0, 0)) (Ev.mono hF ?_)
  intro r1 h2 hF
  obtain ⟨x3, rfl, hF⟩ := hF
  refine m_if_ne 14 dX11_copy_4 (by decide) (fun c => ?_) (fun c => ?_)
  · replace hF := hF.1 c
    refine m_ldc dX11_copy_14 kc_X11_64 ?_
    exact m_ireturn dX11_copy_16 trivial hF
  · replace hF := hF.2 c
    refine m_iload_n dX11_copy_7 rfl ?_
    refine m_static (as := [.int x_3]) (rest := []) cs_X11_60 dX11_copy_8 rfl rfl (Nat.le_of_ble_eq_true rfl) (Nat.le_of_eq (Nat.zero_add _)) (Nat.le_of_eq (Nat.zero_add _)) (b1 := (0, 0)) (b2 := (0, 0)) (Ev.mono hF ?_)
    intro r4 h5 hF
    obtain ⟨x6, rfl, hF⟩ := hF
    refine m_if_eq 17 dX11_copy_11 (by decide) (fun c => ?_) (fun c => ?_)
    · replace hF := hF.1 c
      refine m_aload_n dX11_copy_17 rfl ?_
      obtain ⟨r7, e, hF⟩ := hF
      refine m_get fg_X11_11 dX11_copy_18 e ?_
      refine m_iload_n dX11_copy_21 rfl ?_
      rcases hF with ⟨e, hF⟩ | ⟨r8, e, hF⟩
      · refine m_aald dX11_copy_22 e ?_
        refine m_astoreN (ls2 := [some (.ref r_0), some (.int x_1), some (.int x_2), some (.int x_3), some (.int x_4), some (.int x_5), some (.null), none]) dX11_copy_23 (by decide) rfl ?_
        refine m_aload_n dX11_copy_25 rfl ?_
        obtain ⟨r9, e, hF⟩ := hF
        refine m_get fg_X11_11 dX11_copy_26 e ?_
        refine m_iload_n dX11_copy_29 rfl ?_
        rcases hF with ⟨e, hF⟩ | ⟨r10, e, hF⟩
        · refine m_aald dX11_copy_30 e ?_
          refine m_astoreN (ls2 := [some (.ref r_0), some (.int x_1), some (.int x_2), some (.int x_3), some (.int x_4), some (.int x_5), some (.null), some (.null)]) dX11_copy_31 (by decide) rfl ?_
          refine m_aloadN dX11_copy_33 rfl ?_
          exact hF.elim
        · refine m_aald dX11_copy_30 e ?_
          refine m_astore (ls2 := [some (.ref r_0), some (.int x_1), some (.int x_2), some (.int x_3), some (.int x_4), some (.int x_5), some (.null), some (.ref r10)]) dX11_copy_31 (by decide) rfl ?_
          refine m_aloadN dX11_copy_33 rfl ?_
          exact hF.elim
      · refine m_aald dX11_copy_22 e ?_
        refine m_astore (ls2 := [some (.ref r_0), some (.int x_1), some (.int x_2), some (.int x_3), some (.int x_4), some (.int x_5), some (.ref r8), none]) dX11_copy_23 (by decide) rfl ?_
        refine m_aload_n dX11_copy_25 rfl ?_
        obtain ⟨r17, e, hF⟩ := hF
        refine m_get fg_X11_11 dX11_copy_26 e ?_
        refine m_iload_n dX11_copy_29 rfl ?_
        rcases hF with ⟨e, hF⟩ | ⟨r18, e, hF⟩
        · refine m_aald dX11_copy_30 e ?_
          refine m_astoreN (ls2 := [some (.ref r_0), some (.int x_1), some (.int x_2), some (.int x_3), some (.int x_4), some (.int x_5), some (.ref r8), some (.null)]) dX11_copy_31 (by decide) rfl ?_
          refine m_aload dX11_copy_33 rfl ?_
          obtain ⟨fs29, e, hF⟩ := hF
          refine m_virtual (as := []) (rest := []) cv_X11_72_6 e dX11_copy_35 rfl rfl (Nat.le_of_ble_eq_true rfl) (Nat.le_of_eq (Nat.zero_add _)) (Nat.le_of_eq (Nat.zero_add _)) (b1 := (0, 0)) (b2 := (0, 0)) (Ev.mono hF ?_)
          intro r19 h20 hF
          obtain ⟨x21, rfl, hF⟩ := hF
          refine m_if_ne 49 dX11_copy_38 (by decide) (fun c => ?_) (fun c => ?_)
          · replace hF := hF.1 c
            refine m_aload_n dX11_copy_49 rfl ?_
            refine m_iconst dX11_copy_50 ki_1 ?_
            obtain ⟨fs25, e, hF⟩ := hF
            refine m_virtual (as := [.int 1]) (rest := []) cv_X11_65_10 e dX11_copy_51 rfl rfl (Nat.le_of_ble_eq_true rfl) (Nat.le_of_eq (Nat.zero_add _)) (Nat.le_of_eq (Nat.zero_add _)) (b1 := (0, 0)) (b2 := (0, 0)) (Ev.mono hF ?_)
            intro r22 h23 hF
            obtain ⟨x24, rfl, hF⟩ := hF
            exact m_ireturn dX11_copy_54 trivial hF
          · replace hF := hF.2 c
            refine m_aloadN dX11_copy_41 rfl ?_
            exact hF.elim
        · refine m_aald dX11_copy_30 e ?_
          refine m_astore (ls2 := [some (.ref r_0), some (.int x_1), some (.int x_2), some (.int x_3), some (.int x_4), some (.int x_5), some (.ref r8), some (.ref r18)]) dX11_copy_31 (by decide) rfl ?_
          refine m_aload dX11_copy_33 rfl ?_
          obtain ⟨fs74, e, hF⟩ := hF
          refine m_virtual (as := []) (rest := []) cv_X11_72_6 e dX11_copy_35 rfl rfl (Nat.le_of_ble_eq_true rfl) (Nat.le_of_eq (Nat.zero_add _)) (Nat.le_of_eq (Nat.zero_add _)) (b1 := (0, 0)) (b2 := (0, 0)) (Ev.mono hF ?_)
          intro r30 h31 hF
          obtain ⟨x32, rfl, hF⟩ := hF
          refine m_if_ne 49 dX11_copy_38 (by decide) (fun c => ?_) (fun c => ?_)
          · replace hF := hF.1 c
            refine m_aload_n dX11_copy_49 rfl ?_
            refine m_iconst dX11_copy_50 ki_1 ?_
            obtain ⟨fs36, e, hF⟩ := hF
            refine m_virtual (as := [.int 1]) (rest := []) cv_X11_65_10 e dX11_copy_51 rfl rfl (Nat.le_of_ble_eq_true rfl) (Nat.le_of_eq (Nat.zero_add _)) (Nat.le_of_eq (Nat.zero_add _)) (b1 := (0, 0)) (b2 := (0, 0)) (Ev.mono hF ?_)
            intro r33 h34 hF
            obtain ⟨x35, rfl, hF⟩ := hF
            exact m_ireturn dX11_copy_54 trivial hF
          · replace hF := hF.2 c
            refine m_aload dX11_copy_41 rfl ?_
            obtain ⟨fs73, e, hF⟩ := hF
            refine m_virtual (as := []) (rest := []) cv_X11_72_6 e dX11_copy_43 rfl rfl (Nat.le_of_ble_eq_true rfl) (Nat.le_of_eq (Nat.zero_add _)) (Nat.le_of_eq (Nat.zero_add _)) (b1 := (0, 0)) (b2 := (0, 0)) (Ev.mono hF ?_)
            intro r37 h38 hF
            obtain ⟨x39, rfl, hF⟩ := hF
            refine m_if_eq 55 dX11_copy_46 (by decide) (fun c => ?_) (fun c => ?_)
            · replace hF := hF.1 c
              refine m_aload dX11_copy_55 rfl ?_
              obtain ⟨x40, e, hF⟩ := hF
              refine m_get fg_X11_84 dX11_copy_57 e ?_
              refine m_aload dX11_copy_60 rfl ?_
              obtain ⟨x41, e, hF⟩ := hF
              refine m_get fg_X11_84 dX11_copy_62 e ?_
              refine m_icmp_eq 74 dX11_copy_65 (by decide) (fun c => ?_) (fun c => ?_)
              · replace hF := hF.1 c
                refine m_aload dX11_copy_74 rfl ?_
                refine m_iload_n dX11_copy_76 rfl ?_
                refine m_iload dX11_copy_77 rfl ?_
                obtain ⟨fs64, e, hF⟩ := hF
                refine m_virtual (as := [.int x_2, .int x_5]) (rest := []) cv_X11_76_6 e dX11_copy_79 rfl rfl (Nat.le_of_ble_eq_true rfl) (Nat.le_of_eq (Nat.zero_add _)) (Nat.le_of_eq (Nat.zero_add _)) (b1 := (0, 0)) (b2 := (0, 0)) (Ev.mono hF ?_)
                intro r42 h43 hF
                obtain ⟨x44, rfl, hF⟩ := hF
                refine m_if_eq 97 dX11_copy_82 (by decide) (fun c => ?_) (fun c => ?_)
                · replace hF := hF.1 c
                  refine m_aload_n dX11_copy_97 rfl ?_
                  refine m_iconst dX11_copy_98 ki_2 ?_
                  obtain ⟨fs48, e, hF⟩ := hF
                  refine m_virtual (as := [.int 2]) (rest := []) cv_X11_65_10 e dX11_copy_99 rfl rfl (Nat.le_of_ble_eq_true rfl) (Nat.le_of_eq (Nat.zero_add _)) (Nat.le_of_eq (Nat.zero_add _)) (b1 := (0, 0)) (b2 := (0, 0)) (Ev.mono hF ?_)
                  intro r45 h46 hF
                  obtain ⟨x47, rfl, hF⟩ := hF
                  exact m_ireturn dX11_copy_102 trivial hF
                · replace hF := hF.2 c
                  refine m_aload dX11_copy_85 rfl ?_
                  refine m_iload dX11_copy_87 rfl ?_
                  refine m_iload dX11_copy_89 rfl ?_
                  obtain ⟨fs63, e, hF⟩ := hF
                  refine m_virtual (as := [.int x_4, .int x_5]) (rest := []) cv_X11_76_6 e dX11_copy_91 rfl rfl (Nat.le_of_ble_eq_true rfl) (Nat.le_of_eq (Nat.zero_add _)) (Nat.le_of_eq (Nat.zero_add _)) (b1 := (0, 0)) (b2 := (0, 0)) (Ev.mono hF ?_)
                  intro r49 h50 hF
                  obtain ⟨x51, rfl, hF⟩ := hF
                  refine m_if_ne 103 dX11_copy_94 (by decide) (fun c => ?_) (fun c => ?_)
                  · replace hF := hF.1 c
                    refine m_aload dX11_copy_103 rfl ?_
                    refine m_iload dX11_copy_105 rfl ?_
                    refine m_aload dX11_copy_107 rfl ?_
                    refine m_iload_n dX11_copy_109 rfl ?_
                    refine m_iload dX11_copy_110 rfl ?_
                    obtain ⟨fs58, e, hF⟩ := hF
                    refine m_virtual (as := [.int x_4, .ref r8, .int x_2, .int x_5]) (rest := []) cv_X11_88_6 e dX11_copy_112 rfl rfl (Nat.le_of_ble_eq_true rfl) (Nat.le_of_eq (Nat.zero_add _)) (Nat.le_of_eq (Nat.zero_add _)) (b1 := (0, 0)) (b2 := (0, 0)) (Ev.mono hF ?_)
                    intro r52 h53 hF
                    obtain ⟨rfl, hF⟩ := hF
                    refine m_aload_n dX11_copy_115 rfl ?_
                    refine m_iload dX11_copy_116 rfl ?_
                    obtain ⟨fs57, e, hF⟩ := hF
                    refine m_virtual (as := [.int x_5]) (rest := []) cv_X11_69_10 e dX11_copy_118 rfl rfl (Nat.le_of_ble_eq_true rfl) (Nat.le_of_eq (Nat.zero_add _)) (Nat.le_of_eq (Nat.zero_add _)) (b1 := (0, 0)) (b2 := (0, 0)) (Ev.mono hF ?_)
                    intro r54 h55 hF
                    obtain ⟨x56, rfl, hF⟩ := hF
                    exact m_ireturn dX11_copy_121 trivial hF
                  · replace hF := hF.2 c
                    refine m_aload_n dX11_copy_97 rfl ?_
                    refine m_iconst dX11_copy_98 ki_2 ?_
                    obtain ⟨fs62, e, hF⟩ := hF
                    refine m_virtual (as := [.int 2]) (rest := []) cv_X11_65_10 e dX11_copy_99 rfl rfl (Nat.le_of_ble_eq_true rfl) (Nat.le_of_eq (Nat.zero_add _)) (Nat.le_of_eq (Nat.zero_add _)) (b1 := (0, 0)) (b2 := (0, 0)) (Ev.mono hF ?_)
                    intro r59 h60 hF
                    obtain ⟨x61, rfl, hF⟩ := hF
                    exact m_ireturn dX11_copy_102 trivial hF
              · replace hF := hF.2 c
                refine m_aload_n dX11_copy_68 rfl ?_
                refine m_iconst dX11_copy_69 ki_5 ?_
                obtain ⟨fs68, e, hF⟩ := hF
                refine m_virtual (as := [.int 5]) (rest := []) cv_X11_65_10 e dX11_copy_70 rfl rfl (Nat.le_of_ble_eq_true rfl) (Nat.le_of_eq (Nat.zero_add _)) (Nat.le_of_eq (Nat.zero_add _)) (b1 := (0, 0)) (b2 := (0, 0)) (Ev.mono hF ?_)
                intro r65 h66 hF
                obtain ⟨x67, rfl, hF⟩ := hF
                exact m_ireturn dX11_copy_73 trivial hF
            · replace hF := hF.2 c
              refine m_aload_n dX11_copy_49 rfl ?_
              refine m_iconst dX11_copy_50 ki_1 ?_
              obtain ⟨fs72, e, hF⟩ := hF
              refine m_virtual (as := [.int 1]) (rest := []) cv_X11_65_10 e dX11_copy_51 rfl rfl (Nat.le_of_ble_eq_true rfl) (Nat.le_of_eq (Nat.zero_add _)) (Nat.le_of_eq (Nat.zero_add _)) (b1 := (0, 0)) (b2 := (0, 0)) (Ev.mono hF ?_)
              intro r69 h70 hF
              obtain ⟨x71, rfl, hF⟩ := hF
              exact m_ireturn dX11_copy_54 trivial hF
    · replace hF := hF.2 c
      refine m_ldc dX11_copy_14 kc_X11_64 ?_
      exact m_ireturn dX11_copy_16 trivial hF
theorem en_X11_copy {d : Nat} {r_0 : Nat} {x_1 : Int32} {x_2 : Int32} {x_3 : Int32} {x_4 : Int32} {x_5 : Int32} {h : mH} {K : Option Value → mH → Prop} (hk : Wm (d + 1) (0, 0) JX11_copy 0 [some (.ref r_0), some (.int x_1), some (.int x_2), some (.int x_3), some (.int x_4), some (.int x_5), none, none] [] h (fun r h' => h'.1 0 = h.1 0 ∧ K r h')) : Ev (d + 1) (0, 0) MX11_copy [.ref r_0, .int x_1, .int x_2, .int x_3, .int x_4, .int x_5] h K :=
  m_met pn_X11 nl_X11 (fun _ => Nat.le_of_ble_eq_true rfl) hk
theorem bk_X11_drop_0 {d : Nat} (r_0 : Nat) (x_1 : Int32) {h : mH} {Q : Option Value → mH → Prop} (hF : Ev d (0, 0) MX11_noRow [.int x_1] h (fun r1 h2 => ∃ x3 : Int32, r1 = some (.int x3) ∧ ((x3 = 0 → (∃ r4 : Nat, m_fld h2 r_0 [10] 0 = some (.ref r4) ∧ ((m_rl h2 r4 x_1 = some .null ∧ False) ∨ (∃ r5 : Nat, m_rl h2 r4 x_1 = some (.ref r5) ∧ (∃ fs24 : List Value, (h2).1 r5 = .inr (6, fs24) ∧ Ev d (0, 0) MX7_missing [.ref r5] h2 (fun r9 h10 => ∃ x11 : Int32, r9 = some (.int x11) ∧ ((x11 = 0 → (∃ x12 : Int32, m_fld h10 r5 [6] 2 = some (.int x12) ∧ (∃ fs19 : List Value, (h10).1 r5 = .inr (6, fs19) ∧ Ev d (0, 0) MX7_end [.ref r5] h10 (fun r13 h14 => r13 = none ∧ (∃ fs18 : List Value, (h14).1 r_0 = .inr (10, fs18) ∧ Ev d (0, 0) MX11_fine [.ref r_0, .int x12] h14 (fun r15 h16 => ∃ x17 : Int32, r15 = some (.int x17) ∧ Q (some (.int x17)) h16)))))) ∧ (¬ (x11 = 0) → (∃ fs23 : List Value, (h10).1 r_0 = .inr (10, fs23) ∧ Ev d (0, 0) MX11_found [.ref r_0, .int 1] h10 (fun r20 h21 => ∃ x22 : Int32, r20 = some (.int x22) ∧ Q (some (.int x22)) h21)))))))))) ∧ (¬ (x3 = 0) → Q (some (.int (-1000001))) h2)))) : Wm (d + 1) (0, 0) JX11_drop 0 [some (.ref r_0), some (.int x_1), none, none] [] h Q := by
  refine m_iload_n dX11_drop_0 rfl ?_
  refine m_static (as := [.int x_1]) (rest := []) cs_X11_60 dX11_drop_1 rfl rfl (Nat.le_of_ble_eq_true rfl) (Nat.le_of_eq (Nat.zero_add _)) (Nat.le_of_eq (Nat.zero_add _)) (b1 := (0, 0)) (b2 := (0, 0)) (Ev.mono hF ?_)
  intro r1 h2 hF
  obtain ⟨x3, rfl, hF⟩ := hF
  refine m_if_eq 10 dX11_drop_4 (by decide) (fun c => ?_) (fun c => ?_)
  · replace hF := hF.1 c
    refine m_aload_n dX11_drop_10 rfl ?_
    obtain ⟨r4, e, hF⟩ := hF
    refine m_get fg_X11_11 dX11_drop_11 e ?_
    refine m_iload_n dX11_drop_14 rfl ?_
    rcases hF with ⟨e, hF⟩ | ⟨r5, e, hF⟩
    · refine m_aald dX11_drop_15 e ?_
      refine m_astore_nN (ls2 := [some (.ref r_0), some (.int x_1), some (.null), none]) dX11_drop_16 (by decide) rfl ?_
      refine m_aload_nN dX11_drop_17 rfl ?_
      exact hF.elim
    · refine m_aald dX11_drop_15 e ?_
      refine m_astore_n (ls2 := [some (.ref r_0), some (.int x_1), some (.ref r5), none]) dX11_drop_16 (by decide) rfl ?_
      refine m_aload_n dX11_drop_17 rfl ?_
      obtain ⟨fs24, e, hF⟩ := hF
      refine m_virtual (as := []) (rest := []) cv_X11_72_6 e dX11_drop_18 rfl rfl (Nat.le_of_ble_eq_true rfl) (Nat.le_of_eq (Nat.zero_add _)) (Nat.le_of_eq (Nat.zero_add _)) (b1 := (0, 0)) (b2 := (0, 0)) (Ev.mono hF ?_)
      intro r9 h10 hF
      obtain ⟨x11, rfl, hF⟩ := hF
      refine m_if_eq 30 dX11_drop_21 (by decide) (fun c => ?_) (fun c => ?_)
      · replace hF := hF.1 c
        refine m_aload_n dX11_drop_30 rfl ?_
        obtain ⟨x12, e, hF⟩ := hF
        refine m_get fg_X11_92 dX11_drop_31 e ?_
        refine m_istore_n (ls2 := [some (.ref r_0), some (.int x_1), some (.ref r5), some (.int x12)]) dX11_drop_34 (by decide) rfl ?_
        refine m_aload_n dX11_drop_35 rfl ?_
        obtain ⟨fs19, e, hF⟩ := hF
        refine m_virtual (as := []) (rest := []) cv_X11_95_6 e dX11_drop_36 rfl rfl (Nat.le_of_ble_eq_true rfl) (Nat.le_of_eq (Nat.zero_add _)) (Nat.le_of_eq (Nat.zero_add _)) (b1 := (0, 0)) (b2 := (0, 0)) (Ev.mono hF ?_)
        intro r13 h14 hF
        obtain ⟨rfl, hF⟩ := hF
        refine m_aload_n dX11_drop_39 rfl ?_
        refine m_iload_n dX11_drop_40 rfl ?_
        obtain ⟨fs18, e, hF⟩ := hF
        refine m_virtual (as := [.int x12]) (rest := []) cv_X11_69_10 e dX11_drop_41 rfl rfl (Nat.le_of_ble_eq_true rfl) (Nat.le_of_eq (Nat.zero_add _)) (Nat.le_of_eq (Nat.zero_add _)) (b1 := (0, 0)) (b2 := (0, 0)) (Ev.mono hF ?_)
        intro r15 h16 hF
        obtain ⟨x17, rfl, hF⟩ := hF
        exact m_ireturn dX11_drop_44 trivial hF
      · replace hF := hF.2 c
        refine m_aload_n dX11_drop_24 rfl ?_
        refine m_iconst dX11_drop_25 ki_1 ?_
        obtain ⟨fs23, e, hF⟩ := hF
        refine m_virtual (as := [.int 1]) (rest := []) cv_X11_65_10 e dX11_drop_26 rfl rfl (Nat.le_of_ble_eq_true rfl) (Nat.le_of_eq (Nat.zero_add _)) (Nat.le_of_eq (Nat.zero_add _)) (b1 := (0, 0)) (b2 := (0, 0)) (Ev.mono hF ?_)
        intro r20 h21 hF
        obtain ⟨x22, rfl, hF⟩ := hF
        exact m_ireturn dX11_drop_29 trivial hF
  · replace hF := hF.2 c
    refine m_ldc dX11_drop_7 kc_X11_64 ?_
    exact m_ireturn dX11_drop_9 trivial hF
theorem en_X11_drop {d : Nat} {r_0 : Nat} {x_1 : Int32} {h : mH} {K : Option Value → mH → Prop} (hk : Wm (d + 1) (0, 0) JX11_drop 0 [some (.ref r_0), some (.int x_1), none, none] [] h (fun r h' => h'.1 0 = h.1 0 ∧ K r h')) : Ev (d + 1) (0, 0) MX11_drop [.ref r_0, .int x_1] h K :=
  m_met pn_X11 nl_X11 (fun _ => Nat.le_of_ble_eq_true rfl) hk
theorem bk_X11_cover_0 {d : Nat} {b : Nat × Nat} (r_0 : Nat) (x_1 : Int32) (x_2 : Int32) (x_3 : Int32) (x_4 : Int32) (x_5 : Int32) {h : mH} {Q : Option Value → mH → Prop} (hF : Ev d (0, 0) MX11_noPlace [.int x_1] h (fun r1 h2 => ∃ x3 : Int32, r1 = some (.int x3) ∧ ((¬ x3 = 0 → Q (some (.int (-1000001))) h2) ∧ (x3 = 0 → Ev d (0, 0) MX11_noRow [.int x_2] h2 (fun r4 h5 => ∃ x6 : Int32, r4 = some (.int x6) ∧ ((¬ x6 = 0 → Q (some (.int (-1000001))) h5) ∧ (x6 = 0 → ((x_4 < 1 → Q (some (.int (-1000001))) h5) ∧ (¬ (x_4 < 1) → ((12 < x_4 → Q (some (.int (-1000001))) h5) ∧ (¬ (12 < x_4) → ((x_5 < 1 → Q (some (.int (-1000001))) h5) ∧ (¬ (x_5 < 1) → ((x_5 ≤ 8 → (∃ r7 : Nat, m_fld h5 r_0 [10] 0 = some (.ref r7) ∧ ((m_rl h5 r7 x_2 = some .null ∧ False) ∨ (∃ r8 : Nat, m_rl h5 r7 x_2 = some (.ref r8) ∧ (∃ fs32 : List Value, (h5).1 r8 = .inr (6, fs32) ∧ Ev d (0, 0) MX7_missing [.ref r8] h5 (fun r12 h13 => ∃ x14 : Int32, r12 = some (.int x14) ∧ ((x14 = 0 → (∃ fs27 : List Value, (h13).1 r8 = .inr (6, fs27) ∧ Ev d (0, 0) MX7_holds [.ref r8, .int x_3, .int (x_4 * (x_5 - 1))] h13 (fun r15 h16 => ∃ x17 : Int32, r15 = some (.int x17) ∧ ((¬ x17 = 0 → (∃ n18 : Nat, ¬ x_5 < 0 ∧ x_5.toNatClampNeg = n18 ∧ n18 ≤ 100000 ∧ 1 ≤ b.1 ∧ n18 ≤ b.2 ∧ ∀ h19 : mH, h19 = (m_up h16.1 h16.2 (.inl (1, n18, .inr (.inl fun _ => 0))), h16.2 + 1) → Ev d (0, 0) MX5_still [.int x_4] h19 (fun r20 h21 => ∃ y22 : Int64, r20 = some (.long y22) ∧ Wm (d + 1) (b.1 - 1, b.2 - n18) JX11_cover 103 [some (.ref r_0), some (.int x_1), none, some (.int x_3), some (.int x_4), some (.int x_5), some (.ref r8), some (.ref h16.2), some (.long y22), none, some (.int 0)] [] h21 Q))) ∧ (x17 = 0 → (∃ fs26 : List Value, (h16).1 r_0 = .inr (10, fs26) ∧ Ev d (0, 0) MX11_found [.ref r_0, .int 2] h16 (fun r23 h24 => ∃ x25 : Int32, r23 = some (.int x25) ∧ Q (some (.int x25)) h24))))))) ∧ (¬ (x14 = 0) → (∃ fs31 : List Value, (h13).1 r_0 = .inr (10, fs31) ∧ Ev d (0, 0) MX11_found [.ref r_0, .int 1] h13 (fun r28 h29 => ∃ x30 : Int32, r28 = some (.int x30) ∧ Q (some (.int x30)) h29)))))))))) ∧ (¬ (x_5 ≤ 8) → Q (some (.int (-1000001))) h5))))))))))))))) : Wm (d + 1) b JX11_cover 0 [some (.ref r_0), some (.int x_1), some (.int x_2), some (.int x_3), some (.int x_4), some (.int x_5), none, none, none, none, none] [] h Q := by
  refine m_iload_n dX11_cover_0 rfl ?_
  refine m_static (as := [.int x_1]) (rest := []) cs_X11_98 dX11_cover_1 rfl rfl (Nat.le_of_ble_eq_true rfl) (Nat.le_of_eq (Nat.zero_add _)) (Nat.le_of_eq (Nat.zero_add _)) (b1 := (0, 0)) (b2 := b) (Ev.mono hF ?_)
  intro r1 h2 hF
  obtain ⟨x3, rfl, hF⟩ := hF
  refine m_if_ne 40 dX11_cover_4 (by decide) (fun c => ?_) (fun c => ?_)
  · replace hF := hF.1 c
    refine m_ldc dX11_cover_40 kc_X11_64 ?_
    exact m_ireturn dX11_cover_42 trivial hF
  · replace hF := hF.2 c
    refine m_iload_n dX11_cover_7 rfl ?_
    refine m_static (as := [.int x_2]) (rest := []) cs_X11_60 dX11_cover_8 rfl rfl (Nat.le_of_ble_eq_true rfl) (Nat.le_of_eq (Nat.zero_add _)) (Nat.le_of_eq (Nat.zero_add _)) (b1 := (0, 0)) (b2 := b) (Ev.mono hF ?_)
    intro r4 h5 hF
    obtain ⟨x6, rfl, hF⟩ := hF
    refine m_if_ne 40 dX11_cover_11 (by decide) (fun c => ?_) (fun c => ?_)
    · replace hF := hF.1 c
      refine m_ldc dX11_cover_40 kc_X11_64 ?_
      exact m_ireturn dX11_cover_42 trivial hF
    · replace hF := hF.2 c
      refine m_iload dX11_cover_14 rfl ?_
      refine m_iconst dX11_cover_16 ki_1 ?_
      refine m_icmp_lt 40 dX11_cover_17 (by decide) (fun c => ?_) (fun c => ?_)
      · replace hF := hF.1 c
        refine m_ldc dX11_cover_40 kc_X11_64 ?_
        exact m_ireturn dX11_cover_42 trivial hF
      · replace hF := hF.2 c
        refine m_iload dX11_cover_20 rfl ?_
        refine m_bipush dX11_cover_22 kb_12 ?_
        refine m_icmp_gt 40 dX11_cover_24 (by decide) (fun c => ?_) (fun c => ?_)
        · replace hF := hF.1 c
          refine m_ldc dX11_cover_40 kc_X11_64 ?_
          exact m_ireturn dX11_cover_42 trivial hF
        · replace hF := hF.2 c
          refine m_iload dX11_cover_27 rfl ?_
          refine m_iconst dX11_cover_29 ki_1 ?_
          refine m_icmp_lt 40 dX11_cover_30 (by decide) (fun c => ?_) (fun c => ?_)
          · replace hF := hF.1 c
            refine m_ldc dX11_cover_40 kc_X11_64 ?_
            exact m_ireturn dX11_cover_42 trivial hF
          · replace hF := hF.2 c
            refine m_iload dX11_cover_33 rfl ?_
            refine m_bipush dX11_cover_35 kb_8 ?_
            refine m_icmp_le 43 dX11_cover_37 (by decide) (fun c => ?_) (fun c => ?_)
            · replace hF := hF.1 c
              refine m_aload_n dX11_cover_43 rfl ?_
              obtain ⟨r7, e, hF⟩ := hF
              refine m_get fg_X11_11 dX11_cover_44 e ?_
              refine m_iload_n dX11_cover_47 rfl ?_
              rcases hF with ⟨e, hF⟩ | ⟨r8, e, hF⟩
              · refine m_aald dX11_cover_48 e ?_
                refine m_astoreN (ls2 := [some (.ref r_0), some (.int x_1), some (.int x_2), some (.int x_3), some (.int x_4), some (.int x_5), some (.null), none, none, none, none]) dX11_cover_49 (by decide) rfl ?_
                refine m_aloadN dX11_cover_51 rfl ?_
                exact hF.elim
              · refine m_aald dX11_cover_48 e ?_
                refine m_astore (ls2 := [some (.ref r_0), some (.int x_1), some (.int x_2), some (.int x_3), some (.int x_4), some (.int x_5), some (.ref r8), none, none, none, none]) dX11_cover_49 (by decide) rfl ?_
                refine m_aload dX11_cover_51 rfl ?_
                obtain ⟨fs32, e, hF⟩ := hF
                refine m_virtual (as := []) (rest := []) cv_X11_72_6 e dX11_cover_53 rfl rfl (Nat.le_of_ble_eq_true rfl) (Nat.le_of_eq (Nat.zero_add _)) (Nat.le_of_eq (Nat.zero_add _)) (b1 := (0, 0)) (b2 := b) (Ev.mono hF ?_)
                intro r12 h13 hF
                obtain ⟨x14, rfl, hF⟩ := hF
                refine m_if_eq 65 dX11_cover_56 (by decide) (fun c => ?_) (fun c => ?_)
                · replace hF := hF.1 c
                  refine m_aload dX11_cover_65 rfl ?_
                  refine m_iload_n dX11_cover_67 rfl ?_
                  refine m_iload dX11_cover_68 rfl ?_
                  refine m_iload dX11_cover_70 rfl ?_
                  refine m_iconst dX11_cover_72 ki_1 ?_
                  refine m_isub dX11_cover_73 ?_
                  refine m_imul dX11_cover_74 ?_
                  obtain ⟨fs27, e, hF⟩ := hF
                  refine m_virtual (as := [.int x_3, .int (x_4 * (x_5 - 1))]) (rest := []) cv_X11_76_6 e dX11_cover_75 rfl rfl (Nat.le_of_ble_eq_true rfl) (Nat.le_of_eq (Nat.zero_add _)) (Nat.le_of_eq (Nat.zero_add _)) (b1 := (0, 0)) (b2 := b) (Ev.mono hF ?_)
                  intro r15 h16 hF
                  obtain ⟨x17, rfl, hF⟩ := hF
                  refine m_if_ne 87 dX11_cover_78 (by decide) (fun c => ?_) (fun c => ?_)
                  · replace hF := hF.1 c
                    refine m_iload dX11_cover_87 rfl ?_
                    obtain ⟨n18, e1, e2, e3, e4, e5, hF⟩ := hF
                    refine m_newarr (t := 1) (b2 := (b.1 - 1, b.2 - n18)) dX11_cover_89 e1 e2 e3 (Or.inr (Or.inl ⟨rfl, rfl, rfl⟩)) ac_long (Nat.le_of_eq (Nat.sub_add_cancel e4)) (Nat.le_of_eq (Nat.sub_add_cancel e5)) ?_
                    replace hF := hF _ rfl
                    generalize (m_up h16.1 h16.2 (.inl (1, n18, .inr (.inl fun _ => 0))), h16.2 + 1) = h19 at hF ⊢
                    refine m_astore (ls2 := [some (.ref r_0), some (.int x_1), some (.int x_2), some (.int x_3), some (.int x_4), some (.int x_5), some (.ref r8), some (.ref h16.2), none, none, none]) dX11_cover_91 (by decide) rfl ?_
                    refine m_iload dX11_cover_93 rfl ?_
                    refine m_static (as := [.int x_4]) (rest := []) cs_X11_101 dX11_cover_95 rfl rfl (Nat.le_of_ble_eq_true rfl) (Nat.le_of_eq (Nat.zero_add _)) (Nat.le_of_eq (Nat.zero_add _)) (b1 := (0, 0)) (b2 := (b.1 - 1, b.2 - n18)) (Ev.mono hF ?_)
                    intro r20 h21 hF
                    obtain ⟨y22, rfl, hF⟩ := hF
                    refine m_lstore (ls2 := [some (.ref r_0), some (.int x_1), some (.int x_2), some (.int x_3), some (.int x_4), some (.int x_5), some (.ref r8), some (.ref h16.2), some (.long y22), none, none]) dX11_cover_98 (by decide) rfl ?_
                    refine m_iconst dX11_cover_100 ki_0 ?_
                    refine m_istore (ls2 := [some (.ref r_0), some (.int x_1), some (.int x_2), some (.int x_3), some (.int x_4), some (.int x_5), some (.ref r8), some (.ref h16.2), some (.long y22), none, some (.int 0)]) dX11_cover_101 (by decide) rfl ?_
                    refine m_wk [2] rfl ?_
                    exact hF
                  · replace hF := hF.2 c
                    refine m_aload_n dX11_cover_81 rfl ?_
                    refine m_iconst dX11_cover_82 ki_2 ?_
                    obtain ⟨fs26, e, hF⟩ := hF
                    refine m_virtual (as := [.int 2]) (rest := []) cv_X11_65_10 e dX11_cover_83 rfl rfl (Nat.le_of_ble_eq_true rfl) (Nat.le_of_eq (Nat.zero_add _)) (Nat.le_of_eq (Nat.zero_add _)) (b1 := (0, 0)) (b2 := b) (Ev.mono hF ?_)
                    intro r23 h24 hF
                    obtain ⟨x25, rfl, hF⟩ := hF
                    exact m_ireturn dX11_cover_86 trivial hF
                · replace hF := hF.2 c
                  refine m_aload_n dX11_cover_59 rfl ?_
                  refine m_iconst dX11_cover_60 ki_1 ?_
                  obtain ⟨fs31, e, hF⟩ := hF
                  refine m_virtual (as := [.int 1]) (rest := []) cv_X11_65_10 e dX11_cover_61 rfl rfl (Nat.le_of_ble_eq_true rfl) (Nat.le_of_eq (Nat.zero_add _)) (Nat.le_of_eq (Nat.zero_add _)) (b1 := (0, 0)) (b2 := b) (Ev.mono hF ?_)
                  intro r28 h29 hF
                  obtain ⟨x30, rfl, hF⟩ := hF
                  exact m_ireturn dX11_cover_64 trivial hF
            · replace hF := hF.2 c
              refine m_ldc dX11_cover_40 kc_X11_64 ?_
              exact m_ireturn dX11_cover_42 trivial hF
theorem bk_X11_cover_103 {d : Nat} {b : Nat × Nat} (r_0 : Nat) (x_1 : Int32) (x_3 : Int32) (x_4 : Int32) (x_5 : Int32) (r_6 : Nat) (r_7 : Nat) (y_8 : Int64) (x_10 : Int32) {h : mH} {Q : Option Value → mH → Prop} (hF : (((x_5 - 1) ≤ x_10 → Ev d (0, 0) MX5_inverse [.long y_8, .int x_4] h (fun r1 h2 => ∃ y3 : Int64, r1 = some (.long y3) ∧ (∃ h4 : mH, m_ls h2 r_7 (x_5 - 1) y3 = some h4 ∧ (∃ b8 : Nat × Nat, b8.1 ≤ b.1 ∧ b8.2 ≤ b.2 ∧ Ev d b8 MX1_of [.int x_4, .ref r_7] h4 (fun r5 h6 => ∃ q7 : Nat, r5 = some (.ref q7) ∧ (∃ fs12 : List Value, (h6).1 r_0 = .inr (10, fs12) ∧ Ev d (0, 0) MX11_shelve [.ref r_0, .int x_1, .ref q7] h6 (fun r9 h10 => ∃ x11 : Int32, r9 = some (.int x11) ∧ Q (some (.int x11)) h10))))))) ∧ (¬ ((x_5 - 1) ≤ x_10) → (∃ fs22 : List Value, (h).1 r_6 = .inr (6, fs22) ∧ Ev d (0, 0) MX7_orderFrom [.ref r_6, .int (x_3 + (x_10 * x_4)), .int x_4] h (fun r13 h14 => ∃ y15 : Int64, r13 = some (.long y15) ∧ (∃ h16 : mH, m_ls h14 r_7 x_10 y15 = some h16 ∧ (∃ y17 : Int64, m_ll h16 r_7 x_10 = some y17 ∧ ((¬ (lg_cmp y17 (-1)) = 0 → (∃ y18 : Int64, m_ll h16 r_7 x_10 = some y18 ∧ Ev d (0, 0) MX5_behind [.long y_8, .long y18, .int x_4] h16 (fun r19 h20 => ∃ y21 : Int64, r19 = some (.long y21) ∧ Wm (d + 1) b JX11_cover 103 [some (.ref r_0), some (.int x_1), none, some (.int x_3), some (.int x_4), some (.int x_5), some (.ref r_6), some (.ref r_7), some (.long y21), none, some (.int (x_10 + 1))] [] h20 Q))) ∧ ((lg_cmp y17 (-1)) = 0 → Q (some (.int (-1000001))) h16))))))))) : Wm (d + 1) b JX11_cover 103 [some (.ref r_0), some (.int x_1), none, some (.int x_3), some (.int x_4), some (.int x_5), some (.ref r_6), some (.ref r_7), some (.long y_8), none, some (.int x_10)] [] h Q := by
  refine m_iload dX11_cover_103 rfl ?_
  refine m_iload dX11_cover_105 rfl ?_
  refine m_iconst dX11_cover_107 ki_1 ?_
  refine m_isub dX11_cover_108 ?_
  refine m_icmp_ge 166 dX11_cover_109 (by decide) (fun c => ?_) (fun c => ?_)
  · replace hF := hF.1 c
    refine m_aload dX11_cover_166 rfl ?_
    refine m_iload dX11_cover_168 rfl ?_
    refine m_iconst dX11_cover_170 ki_1 ?_
    refine m_isub dX11_cover_171 ?_
    refine m_lload dX11_cover_172 rfl ?_
    refine m_iload dX11_cover_174 rfl ?_
    refine m_static (as := [.long y_8, .int x_4]) (rest := [.int (x_5 - 1), .ref r_7]) cs_X11_117 dX11_cover_176 rfl rfl (Nat.le_of_ble_eq_true rfl) (Nat.le_of_eq (Nat.zero_add _)) (Nat.le_of_eq (Nat.zero_add _)) (b1 := (0, 0)) (b2 := b) (Ev.mono hF ?_)
    intro r1 h2 hF
    obtain ⟨y3, rfl, hF⟩ := hF
    obtain ⟨h4, e, hF⟩ := hF
    refine m_last dX11_cover_179 e ?_
    refine m_aload_n dX11_cover_180 rfl ?_
    refine m_iload_n dX11_cover_181 rfl ?_
    refine m_iload dX11_cover_182 rfl ?_
    refine m_aload dX11_cover_184 rfl ?_
    obtain ⟨b8, g1, g2, hF⟩ := hF
    refine m_static (as := [.int x_4, .ref r_7]) (rest := [.int x_1, .ref r_0]) cs_X11_121 dX11_cover_186 rfl rfl (Nat.le_of_ble_eq_true rfl) (Nat.le_of_eq (Nat.add_sub_cancel' g1)) (Nat.le_of_eq (Nat.add_sub_cancel' g2)) (b1 := b8) (b2 := (b.1 - b8.1, b.2 - b8.2)) (Ev.mono hF ?_)
    intro r5 h6 hF
    obtain ⟨q7, rfl, hF⟩ := hF
    obtain ⟨fs12, e, hF⟩ := hF
    refine m_virtual (as := [.int x_1, .ref q7]) (rest := []) cv_X11_125_10 e dX11_cover_189 rfl rfl (Nat.le_of_ble_eq_true rfl) (Nat.le_of_eq (Nat.zero_add _)) (Nat.le_of_eq (Nat.zero_add _)) (b1 := (0, 0)) (b2 := (b.1 - b8.1, b.2 - b8.2)) (Ev.mono hF ?_)
    intro r9 h10 hF
    obtain ⟨x11, rfl, hF⟩ := hF
    exact m_ireturn dX11_cover_192 trivial hF
  · replace hF := hF.2 c
    refine m_aload dX11_cover_112 rfl ?_
    refine m_iload dX11_cover_114 rfl ?_
    refine m_aload dX11_cover_116 rfl ?_
    refine m_iload_n dX11_cover_118 rfl ?_
    refine m_iload dX11_cover_119 rfl ?_
    refine m_iload dX11_cover_121 rfl ?_
    refine m_imul dX11_cover_123 ?_
    refine m_iadd dX11_cover_124 ?_
    refine m_iload dX11_cover_125 rfl ?_
    obtain ⟨fs22, e, hF⟩ := hF
    refine m_virtual (as := [.int (x_3 + (x_10 * x_4)), .int x_4]) (rest := [.int x_10, .ref r_7]) cv_X11_107_6 e dX11_cover_127 rfl rfl (Nat.le_of_ble_eq_true rfl) (Nat.le_of_eq (Nat.zero_add _)) (Nat.le_of_eq (Nat.zero_add _)) (b1 := (0, 0)) (b2 := b) (Ev.mono hF ?_)
    intro r13 h14 hF
    obtain ⟨y15, rfl, hF⟩ := hF
    obtain ⟨h16, e, hF⟩ := hF
    refine m_last dX11_cover_130 e ?_
    refine m_aload dX11_cover_131 rfl ?_
    refine m_iload dX11_cover_133 rfl ?_
    obtain ⟨y17, e, hF⟩ := hF
    refine m_lald dX11_cover_135 e ?_
    refine m_ldc2_w dX11_cover_136 kc_X11_111 ?_
    refine m_lcmp dX11_cover_139 ?_
    refine m_if_ne 146 dX11_cover_140 (by decide) (fun c => ?_) (fun c => ?_)
    · replace hF := hF.1 c
      refine m_lload dX11_cover_146 rfl ?_
      refine m_aload dX11_cover_148 rfl ?_
      refine m_iload dX11_cover_150 rfl ?_
      obtain ⟨y18, e, hF⟩ := hF
      refine m_lald dX11_cover_152 e ?_
      refine m_iload dX11_cover_153 rfl ?_
      refine m_static (as := [.long y_8, .long y18, .int x_4]) (rest := []) cs_X11_113 dX11_cover_155 rfl rfl (Nat.le_of_ble_eq_true rfl) (Nat.le_of_eq (Nat.zero_add _)) (Nat.le_of_eq (Nat.zero_add _)) (b1 := (0, 0)) (b2 := b) (Ev.mono hF ?_)
      intro r19 h20 hF
      obtain ⟨y21, rfl, hF⟩ := hF
      refine m_lstore (ls2 := [some (.ref r_0), some (.int x_1), none, some (.int x_3), some (.int x_4), some (.int x_5), some (.ref r_6), some (.ref r_7), some (.long y21), none, some (.int x_10)]) dX11_cover_158 (by decide) rfl ?_
      refine m_iinc (v := x_10 + 1) (ls2 := [some (.ref r_0), some (.int x_1), none, some (.int x_3), some (.int x_4), some (.int x_5), some (.ref r_6), some (.ref r_7), some (.long y21), none, some (.int (x_10 + 1))]) dX11_cover_160 (by decide) rfl (congrArg (_ + ·) ki_1) rfl ?_
      refine m_goto 103 dX11_cover_163 (by decide) ?_
      exact hF
    · replace hF := hF.2 c
      refine m_ldc dX11_cover_143 kc_X11_64 ?_
      exact m_ireturn dX11_cover_145 trivial hF
theorem en_X11_cover {d : Nat} {b : Nat × Nat} {r_0 : Nat} {x_1 : Int32} {x_2 : Int32} {x_3 : Int32} {x_4 : Int32} {x_5 : Int32} {h : mH} {K : Option Value → mH → Prop} (hk : Wm (d + 1) b JX11_cover 0 [some (.ref r_0), some (.int x_1), some (.int x_2), some (.int x_3), some (.int x_4), some (.int x_5), none, none, none, none, none] [] h (fun r h' => h'.1 0 = h.1 0 ∧ K r h')) : Ev (d + 1) b MX11_cover [.ref r_0, .int x_1, .int x_2, .int x_3, .int x_4, .int x_5] h K :=
  m_met pn_X11 nl_X11 (fun _ => Nat.le_of_ble_eq_true rfl) hk
theorem bk_X11_part_0 {d : Nat} {b : Nat × Nat} (r_0 : Nat) (x_1 : Int32) (x_2 : Int32) (x_3 : Int32) {h : mH} {Q : Option Value → mH → Prop} (hF : Ev d (0, 0) MX11_noPlace [.int x_1] h (fun r1 h2 => ∃ x3 : Int32, r1 = some (.int x3) ∧ ((¬ x3 = 0 → Q (some (.int (-1000001))) h2) ∧ (x3 = 0 → Ev d (0, 0) MX11_noPlace [.int x_2] h2 (fun r4 h5 => ∃ x6 : Int32, r4 = some (.int x6) ∧ ((x6 = 0 → (∃ r7 : Nat, m_fld h5 r_0 [10] 1 = some (.ref r7) ∧ ((m_rl h5 r7 x_2 = some .null ∧ (∃ fs12 : List Value, (h5).1 r_0 = .inr (10, fs12) ∧ Ev d (0, 0) MX11_found [.ref r_0, .int 1] h5 (fun r9 h10 => ∃ x11 : Int32, r9 = some (.int x11) ∧ Q (some (.int x11)) h10))) ∨ (∃ r8 : Nat, m_rl h5 r7 x_2 = some (.ref r8) ∧ ((x_3 < 0 → Q (some (.int (-1000001))) h5) ∧ (¬ (x_3 < 0) → (∃ x13 : Int32, m_fld h5 r8 [0, 1, 4, 8, 9] 2 = some (.int x13) ∧ ((x_3 < x13 → (∃ b17 : Nat × Nat, b17.1 ≤ b.1 ∧ b17.2 ≤ b.2 ∧ (∃ (c22 : Nat) (fs23 : List Value), (h5).1 r8 = .inr (c22, fs23) ∧ c22 ∈ [0, 1, 4, 8, 9] ∧ Ev d b17 MX1_partAlone [.ref r8, .int x_3] h5 (fun r14 h15 => ∃ q16 : Nat, r14 = some (.ref q16) ∧ (∃ fs21 : List Value, (h15).1 r_0 = .inr (10, fs21) ∧ Ev d (0, 0) MX11_shelve [.ref r_0, .int x_1, .ref q16] h15 (fun r18 h19 => ∃ x20 : Int32, r18 = some (.int x20) ∧ Q (some (.int x20)) h19)))))) ∧ (¬ (x_3 < x13) → Q (some (.int (-1000001))) h5))))))))) ∧ (¬ (x6 = 0) → Q (some (.int (-1000001))) h5))))))) : Wm (d + 1) b JX11_part 0 [some (.ref r_0), some (.int x_1), some (.int x_2), some (.int x_3), none] [] h Q := by
  refine m_iload_n dX11_part_0 rfl ?_
  refine m_static (as := [.int x_1]) (rest := []) cs_X11_98 dX11_part_1 rfl rfl (Nat.le_of_ble_eq_true rfl) (Nat.le_of_eq (Nat.zero_add _)) (Nat.le_of_eq (Nat.zero_add _)) (b1 := (0, 0)) (b2 := b) (Ev.mono hF ?_)
  intro r1 h2 hF
  obtain ⟨x3, rfl, hF⟩ := hF
  refine m_if_ne 14 dX11_part_4 (by decide) (fun c => ?_) (fun c => ?_)
  · replace hF := hF.1 c
    refine m_ldc dX11_part_14 kc_X11_64 ?_
    exact m_ireturn dX11_part_16 trivial hF
  · replace hF := hF.2 c
    refine m_iload_n dX11_part_7 rfl ?_
    refine m_static (as := [.int x_2]) (rest := []) cs_X11_98 dX11_part_8 rfl rfl (Nat.le_of_ble_eq_true rfl) (Nat.le_of_eq (Nat.zero_add _)) (Nat.le_of_eq (Nat.zero_add _)) (b1 := (0, 0)) (b2 := b) (Ev.mono hF ?_)
    intro r4 h5 hF
    obtain ⟨x6, rfl, hF⟩ := hF
    refine m_if_eq 17 dX11_part_11 (by decide) (fun c => ?_) (fun c => ?_)
    · replace hF := hF.1 c
      refine m_aload_n dX11_part_17 rfl ?_
      obtain ⟨r7, e, hF⟩ := hF
      refine m_get fg_X11_20 dX11_part_18 e ?_
      refine m_iload_n dX11_part_21 rfl ?_
      rcases hF with ⟨e, hF⟩ | ⟨r8, e, hF⟩
      · refine m_aald dX11_part_22 e ?_
        refine m_astoreN (ls2 := [some (.ref r_0), some (.int x_1), some (.int x_2), some (.int x_3), some (.null)]) dX11_part_23 (by decide) rfl ?_
        refine m_aloadN dX11_part_25 rfl ?_
        refine m_ifnonnullN dX11_part_27 ?_
        refine m_aload_n dX11_part_30 rfl ?_
        refine m_iconst dX11_part_31 ki_1 ?_
        obtain ⟨fs12, e, hF⟩ := hF
        refine m_virtual (as := [.int 1]) (rest := []) cv_X11_65_10 e dX11_part_32 rfl rfl (Nat.le_of_ble_eq_true rfl) (Nat.le_of_eq (Nat.zero_add _)) (Nat.le_of_eq (Nat.zero_add _)) (b1 := (0, 0)) (b2 := b) (Ev.mono hF ?_)
        intro r9 h10 hF
        obtain ⟨x11, rfl, hF⟩ := hF
        exact m_ireturn dX11_part_35 trivial hF
      · refine m_aald dX11_part_22 e ?_
        refine m_astore (ls2 := [some (.ref r_0), some (.int x_1), some (.int x_2), some (.int x_3), some (.ref r8)]) dX11_part_23 (by decide) rfl ?_
        refine m_aload dX11_part_25 rfl ?_
        refine m_ifnonnull 36 dX11_part_27 (by decide) ?_
        refine m_iload_n dX11_part_36 rfl ?_
        refine m_if_lt 49 dX11_part_37 (by decide) (fun c => ?_) (fun c => ?_)
        · replace hF := hF.1 c
          refine m_ldc dX11_part_49 kc_X11_64 ?_
          exact m_ireturn dX11_part_51 trivial hF
        · replace hF := hF.2 c
          refine m_iload_n dX11_part_40 rfl ?_
          refine m_aload dX11_part_41 rfl ?_
          obtain ⟨x13, e, hF⟩ := hF
          refine m_get fg_X11_129 dX11_part_43 e ?_
          refine m_icmp_lt 52 dX11_part_46 (by decide) (fun c => ?_) (fun c => ?_)
          · replace hF := hF.1 c
            refine m_aload_n dX11_part_52 rfl ?_
            refine m_iload_n dX11_part_53 rfl ?_
            refine m_aload dX11_part_54 rfl ?_
            refine m_iload_n dX11_part_56 rfl ?_
            obtain ⟨b17, g1, g2, hF⟩ := hF
            obtain ⟨c22, fs23, e, hc, hF⟩ := hF
            refine m_virtual (as := [.int x_3]) (rest := [.int x_1, .ref r_0]) (cw_X11_132 _ hc) e dX11_part_57 rfl rfl (Nat.le_of_ble_eq_true rfl) (Nat.le_of_eq (Nat.add_sub_cancel' g1)) (Nat.le_of_eq (Nat.add_sub_cancel' g2)) (b1 := b17) (b2 := (b.1 - b17.1, b.2 - b17.2)) (Ev.mono hF ?_)
            intro r14 h15 hF
            obtain ⟨q16, rfl, hF⟩ := hF
            obtain ⟨fs21, e, hF⟩ := hF
            refine m_virtual (as := [.int x_1, .ref q16]) (rest := []) cv_X11_125_10 e dX11_part_60 rfl rfl (Nat.le_of_ble_eq_true rfl) (Nat.le_of_eq (Nat.zero_add _)) (Nat.le_of_eq (Nat.zero_add _)) (b1 := (0, 0)) (b2 := (b.1 - b17.1, b.2 - b17.2)) (Ev.mono hF ?_)
            intro r18 h19 hF
            obtain ⟨x20, rfl, hF⟩ := hF
            exact m_ireturn dX11_part_63 trivial hF
          · replace hF := hF.2 c
            refine m_ldc dX11_part_49 kc_X11_64 ?_
            exact m_ireturn dX11_part_51 trivial hF
    · replace hF := hF.2 c
      refine m_ldc dX11_part_14 kc_X11_64 ?_
      exact m_ireturn dX11_part_16 trivial hF
theorem en_X11_part {d : Nat} {b : Nat × Nat} {r_0 : Nat} {x_1 : Int32} {x_2 : Int32} {x_3 : Int32} {h : mH} {K : Option Value → mH → Prop} (hk : Wm (d + 1) b JX11_part 0 [some (.ref r_0), some (.int x_1), some (.int x_2), some (.int x_3), none] [] h (fun r h' => h'.1 0 = h.1 0 ∧ K r h')) : Ev (d + 1) b MX11_part [.ref r_0, .int x_1, .int x_2, .int x_3] h K :=
  m_met pn_X11 nl_X11 (fun _ => Nat.le_of_ble_eq_true rfl) hk
theorem bk_X11_name_0 {d : Nat} {b : Nat × Nat} (r_0 : Nat) (x_1 : Int32) (x_2 : Int32) {h : mH} {Q : Option Value → mH → Prop} (hF : Ev d (0, 0) MX11_noPlace [.int x_1] h (fun r1 h2 => ∃ x3 : Int32, r1 = some (.int x3) ∧ ((¬ x3 = 0 → Q (some (.int (-1000001))) h2) ∧ (x3 = 0 → Ev d (0, 0) MX11_noPlace [.int x_2] h2 (fun r4 h5 => ∃ x6 : Int32, r4 = some (.int x6) ∧ ((x6 = 0 → (∃ r7 : Nat, m_fld h5 r_0 [10] 1 = some (.ref r7) ∧ ((m_rl h5 r7 x_2 = some .null ∧ (∃ fs12 : List Value, (h5).1 r_0 = .inr (10, fs12) ∧ Ev d (0, 0) MX11_found [.ref r_0, .int 1] h5 (fun r9 h10 => ∃ x11 : Int32, r9 = some (.int x11) ∧ Q (some (.int x11)) h10))) ∨ (∃ r8 : Nat, m_rl h5 r7 x_2 = some (.ref r8) ∧ (∃ (c43 : Nat) (fs44 : List Value), (h5).1 r8 = .inr (c43, fs44) ∧ c43 ∈ [0, 1, 4, 8, 9] ∧ Ev d (0, 0) MX1_whole [.ref r8] h5 (fun r13 h14 => ∃ x15 : Int32, r13 = some (.int x15) ∧ ((¬ x15 = 0 → (∃ r16 : Nat, m_fld h14 r_0 [10] 3 = some (.ref r16) ∧ (∃ r17 : Nat, m_fld h14 r8 [0, 1, 4, 8, 9] 1 = some (.ref r17) ∧ (∃ x18 : Int32, m_fld h14 r8 [0, 1, 4, 8, 9] 0 = some (.int x18) ∧ (∃ fs38 : List Value, (h14).1 r16 = .inr (3, fs38) ∧ Ev d (0, 0) MX3_find [.ref r16, .ref r17, .int x18] h14 (fun r19 h20 => r19 = none ∧ (∃ x21 : Int32, m_fld h20 r8 [0, 1, 4, 8, 9] 0 = some (.int x21) ∧ (∃ r22 : Nat, m_fld h20 r_0 [10] 3 = some (.ref r22) ∧ (∃ r23 : Nat, m_fld h20 r22 [3] 0 = some (.ref r23) ∧ (∃ r24 : Nat, m_fld h20 r8 [0, 1, 4, 8, 9] 1 = some (.ref r24) ∧ (∃ n25 : Nat, m_len h20 r24 = some n25 ∧ (∃ b29 : Nat × Nat, b29.1 ≤ b.1 ∧ b29.2 ≤ b.2 ∧ Ev d b29 MJ7_copyOf_c38d5 [.ref r23, .int (nI n25)] h20 (fun r26 h27 => ∃ q28 : Nat, r26 = some (.ref q28) ∧ (∃ b33 : Nat × Nat, b33.1 ≤ b.1 - b29.1 ∧ b33.2 ≤ b.2 - b29.2 ∧ Ev d b33 MX1_of [.int x21, .ref q28] h27 (fun r30 h31 => ∃ q32 : Nat, r30 = some (.ref q32) ∧ (∃ fs37 : List Value, (h31).1 r_0 = .inr (10, fs37) ∧ Ev d (0, 0) MX11_shelve [.ref r_0, .int x_1, .ref q32] h31 (fun r34 h35 => ∃ x36 : Int32, r34 = some (.int x36) ∧ Q (some (.int x36)) h35))))))))))))))))) ∧ (x15 = 0 → (∃ fs42 : List Value, (h14).1 r_0 = .inr (10, fs42) ∧ Ev d (0, 0) MX11_found [.ref r_0, .int 3] h14 (fun r39 h40 => ∃ x41 : Int32, r39 = some (.int x41) ∧ Q (some (.int x41)) h40)))))))))) ∧ (¬ (x6 = 0) → Q (some (.int (-1000001))) h5))))))) : Wm (d + 1) b JX11_name 0 [some (.ref r_0), some (.int x_1), some (.int x_2), none] [] h Q := by
  refine m_iload_n dX11_name_0 rfl ?_
  refine m_static (as := [.int x_1]) (rest := []) cs_X11_98 dX11_name_1 rfl rfl (Nat.le_of_ble_eq_true rfl) (Nat.le_of_eq (Nat.zero_add _)) (Nat.le_of_eq (Nat.zero_add _)) (b1 := (0, 0)) (b2 := b) (Ev.mono hF ?_)
  intro r1 h2 hF
  obtain ⟨x3, rfl, hF⟩ := hF
  refine m_if_ne 14 dX11_name_4 (by decide) (fun c => ?_) (fun c => ?_)
  · replace hF := hF.1 c
    refine m_ldc dX11_name_14 kc_X11_64 ?_
    exact m_ireturn dX11_name_16 trivial hF
  · replace hF := hF.2 c
    refine m_iload_n dX11_name_7 rfl ?_
    refine m_static (as := [.int x_2]) (rest := []) cs_X11_98 dX11_name_8 rfl rfl (Nat.le_of_ble_eq_true rfl) (Nat.le_of_eq (Nat.zero_add _)) (Nat.le_of_eq (Nat.zero_add _)) (b1 := (0, 0)) (b2 := b) (Ev.mono hF ?_)
    intro r4 h5 hF
    obtain ⟨x6, rfl, hF⟩ := hF
    refine m_if_eq 17 dX11_name_11 (by decide) (fun c => ?_) (fun c => ?_)
    · replace hF := hF.1 c
      refine m_aload_n dX11_name_17 rfl ?_
      obtain ⟨r7, e, hF⟩ := hF
      refine m_get fg_X11_20 dX11_name_18 e ?_
      refine m_iload_n dX11_name_21 rfl ?_
      rcases hF with ⟨e, hF⟩ | ⟨r8, e, hF⟩
      · refine m_aald dX11_name_22 e ?_
        refine m_astore_nN (ls2 := [some (.ref r_0), some (.int x_1), some (.int x_2), some (.null)]) dX11_name_23 (by decide) rfl ?_
        refine m_aload_nN dX11_name_24 rfl ?_
        refine m_ifnonnullN dX11_name_25 ?_
        refine m_aload_n dX11_name_28 rfl ?_
        refine m_iconst dX11_name_29 ki_1 ?_
        obtain ⟨fs12, e, hF⟩ := hF
        refine m_virtual (as := [.int 1]) (rest := []) cv_X11_65_10 e dX11_name_30 rfl rfl (Nat.le_of_ble_eq_true rfl) (Nat.le_of_eq (Nat.zero_add _)) (Nat.le_of_eq (Nat.zero_add _)) (b1 := (0, 0)) (b2 := b) (Ev.mono hF ?_)
        intro r9 h10 hF
        obtain ⟨x11, rfl, hF⟩ := hF
        exact m_ireturn dX11_name_33 trivial hF
      · refine m_aald dX11_name_22 e ?_
        refine m_astore_n (ls2 := [some (.ref r_0), some (.int x_1), some (.int x_2), some (.ref r8)]) dX11_name_23 (by decide) rfl ?_
        refine m_aload_n dX11_name_24 rfl ?_
        refine m_ifnonnull 34 dX11_name_25 (by decide) ?_
        refine m_aload_n dX11_name_34 rfl ?_
        obtain ⟨c43, fs44, e, hc, hF⟩ := hF
        refine m_virtual (as := []) (rest := []) (cw_X11_136 _ hc) e dX11_name_35 rfl rfl (Nat.le_of_ble_eq_true rfl) (Nat.le_of_eq (Nat.zero_add _)) (Nat.le_of_eq (Nat.zero_add _)) (b1 := (0, 0)) (b2 := b) (Ev.mono hF ?_)
        intro r13 h14 hF
        obtain ⟨x15, rfl, hF⟩ := hF
        refine m_if_ne 47 dX11_name_38 (by decide) (fun c => ?_) (fun c => ?_)
        · replace hF := hF.1 c
          refine m_aload_n dX11_name_47 rfl ?_
          obtain ⟨r16, e, hF⟩ := hF
          refine m_get fg_X11_35 dX11_name_48 e ?_
          refine m_aload_n dX11_name_51 rfl ?_
          obtain ⟨r17, e, hF⟩ := hF
          refine m_get fg_X11_139 dX11_name_52 e ?_
          refine m_aload_n dX11_name_55 rfl ?_
          obtain ⟨x18, e, hF⟩ := hF
          refine m_get fg_X11_143 dX11_name_56 e ?_
          obtain ⟨fs38, e, hF⟩ := hF
          refine m_virtual (as := [.ref r17, .int x18]) (rest := []) cv_X11_146_3 e dX11_name_59 rfl rfl (Nat.le_of_ble_eq_true rfl) (Nat.le_of_eq (Nat.zero_add _)) (Nat.le_of_eq (Nat.zero_add _)) (b1 := (0, 0)) (b2 := b) (Ev.mono hF ?_)
          intro r19 h20 hF
          obtain ⟨rfl, hF⟩ := hF
          refine m_aload_n dX11_name_62 rfl ?_
          refine m_iload_n dX11_name_63 rfl ?_
          refine m_aload_n dX11_name_64 rfl ?_
          obtain ⟨x21, e, hF⟩ := hF
          refine m_get fg_X11_143 dX11_name_65 e ?_
          refine m_aload_n dX11_name_68 rfl ?_
          obtain ⟨r22, e, hF⟩ := hF
          refine m_get fg_X11_35 dX11_name_69 e ?_
          obtain ⟨r23, e, hF⟩ := hF
          refine m_get fg_X11_150 dX11_name_72 e ?_
          refine m_aload_n dX11_name_75 rfl ?_
          obtain ⟨r24, e, hF⟩ := hF
          refine m_get fg_X11_139 dX11_name_76 e ?_
          obtain ⟨n25, e, hF⟩ := hF
          refine m_alen dX11_name_79 e ?_
          obtain ⟨b29, g1, g2, hF⟩ := hF
          refine m_static (as := [.ref r23, .int (nI n25)]) (rest := [.int x21, .int x_1, .ref r_0]) cs_X11_153 dX11_name_80 rfl rfl (Nat.le_of_ble_eq_true rfl) (Nat.le_of_eq (Nat.add_sub_cancel' g1)) (Nat.le_of_eq (Nat.add_sub_cancel' g2)) (b1 := b29) (b2 := (b.1 - b29.1, b.2 - b29.2)) (Ev.mono hF ?_)
          intro r26 h27 hF
          obtain ⟨q28, rfl, hF⟩ := hF
          obtain ⟨b33, g1, g2, hF⟩ := hF
          refine m_static (as := [.int x21, .ref q28]) (rest := [.int x_1, .ref r_0]) cs_X11_121 dX11_name_83 rfl rfl (Nat.le_of_ble_eq_true rfl) (Nat.le_of_eq (Nat.add_sub_cancel' g1)) (Nat.le_of_eq (Nat.add_sub_cancel' g2)) (b1 := b33) (b2 := (b.1 - b29.1 - b33.1, b.2 - b29.2 - b33.2)) (Ev.mono hF ?_)
          intro r30 h31 hF
          obtain ⟨q32, rfl, hF⟩ := hF
          obtain ⟨fs37, e, hF⟩ := hF
          refine m_virtual (as := [.int x_1, .ref q32]) (rest := []) cv_X11_125_10 e dX11_name_86 rfl rfl (Nat.le_of_ble_eq_true rfl) (Nat.le_of_eq (Nat.zero_add _)) (Nat.le_of_eq (Nat.zero_add _)) (b1 := (0, 0)) (b2 := (b.1 - b29.1 - b33.1, b.2 - b29.2 - b33.2)) (Ev.mono hF ?_)
          intro r34 h35 hF
          obtain ⟨x36, rfl, hF⟩ := hF
          exact m_ireturn dX11_name_89 trivial hF
        · replace hF := hF.2 c
          refine m_aload_n dX11_name_41 rfl ?_
          refine m_iconst dX11_name_42 ki_3 ?_
          obtain ⟨fs42, e, hF⟩ := hF
          refine m_virtual (as := [.int 3]) (rest := []) cv_X11_65_10 e dX11_name_43 rfl rfl (Nat.le_of_ble_eq_true rfl) (Nat.le_of_eq (Nat.zero_add _)) (Nat.le_of_eq (Nat.zero_add _)) (b1 := (0, 0)) (b2 := b) (Ev.mono hF ?_)
          intro r39 h40 hF
          obtain ⟨x41, rfl, hF⟩ := hF
          exact m_ireturn dX11_name_46 trivial hF
    · replace hF := hF.2 c
      refine m_ldc dX11_name_14 kc_X11_64 ?_
      exact m_ireturn dX11_name_16 trivial hF
theorem en_X11_name {d : Nat} {b : Nat × Nat} {r_0 : Nat} {x_1 : Int32} {x_2 : Int32} {h : mH} {K : Option Value → mH → Prop} (hk : Wm (d + 1) b JX11_name 0 [some (.ref r_0), some (.int x_1), some (.int x_2), none] [] h (fun r h' => h'.1 0 = h.1 0 ∧ K r h')) : Ev (d + 1) b MX11_name [.ref r_0, .int x_1, .int x_2] h K :=
  m_met pn_X11 nl_X11 (fun _ => Nat.le_of_ble_eq_true rfl) hk
theorem bk_X11_between_0 {d : Nat} {b : Nat × Nat} (r_0 : Nat) (x_1 : Int32) (x_2 : Int32) (x_3 : Int32) (x_4 : Int32) {h : mH} {Q : Option Value → mH → Prop} (hF : Ev d (0, 0) MX11_noPlace [.int x_1] h (fun r1 h2 => ∃ x3 : Int32, r1 = some (.int x3) ∧ ((¬ x3 = 0 → Q (some (.int (-1000001))) h2) ∧ (x3 = 0 → Ev d (0, 0) MX11_noPlace [.int x_2] h2 (fun r4 h5 => ∃ x6 : Int32, r4 = some (.int x6) ∧ ((x6 = 0 → (∃ r7 : Nat, m_fld h5 r_0 [10] 1 = some (.ref r7) ∧ ((m_rl h5 r7 x_2 = some .null ∧ (∃ fs12 : List Value, (h5).1 r_0 = .inr (10, fs12) ∧ Ev d (0, 0) MX11_found [.ref r_0, .int 1] h5 (fun r9 h10 => ∃ x11 : Int32, r9 = some (.int x11) ∧ Q (some (.int x11)) h10))) ∨ (∃ r8 : Nat, m_rl h5 r7 x_2 = some (.ref r8) ∧ (∃ (c40 : Nat) (fs41 : List Value), (h5).1 r8 = .inr (c40, fs41) ∧ c40 ∈ [0, 1, 4, 8, 9] ∧ Ev d (0, 0) MX1_whole [.ref r8] h5 (fun r13 h14 => ∃ x15 : Int32, r13 = some (.int x15) ∧ ((¬ x15 = 0 → (∃ (c34 : Nat) (fs35 : List Value), (h14).1 r8 = .inr (c34, fs35) ∧ c34 ∈ [0, 1, 4, 8, 9] ∧ Ev d (0, 0) MX1_noSheet [.ref r8, .int x_3] h14 (fun r16 h17 => ∃ x18 : Int32, r16 = some (.int x18) ∧ ((¬ x18 = 0 → Q (some (.int (-1000001))) h17) ∧ (x18 = 0 → (∃ (c32 : Nat) (fs33 : List Value), (h17).1 r8 = .inr (c32, fs33) ∧ c32 ∈ [0, 1, 4, 8, 9] ∧ Ev d (0, 0) MX1_noSheet [.ref r8, .int x_4] h17 (fun r19 h20 => ∃ x21 : Int32, r19 = some (.int x21) ∧ ((x21 = 0 → (∃ b25 : Nat × Nat, b25.1 ≤ b.1 ∧ b25.2 ≤ b.2 ∧ (∃ (c30 : Nat) (fs31 : List Value), (h20).1 r8 = .inr (c30, fs31) ∧ c30 ∈ [0, 1, 4, 8, 9] ∧ Ev d b25 MX1_ofBlocks [.ref r8, .int x_3, .int x_4] h20 (fun r22 h23 => ∃ q24 : Nat, r22 = some (.ref q24) ∧ (∃ fs29 : List Value, (h23).1 r_0 = .inr (10, fs29) ∧ Ev d (0, 0) MX11_shelve [.ref r_0, .int x_1, .ref q24] h23 (fun r26 h27 => ∃ x28 : Int32, r26 = some (.int x28) ∧ Q (some (.int x28)) h27)))))) ∧ (¬ (x21 = 0) → Q (some (.int (-1000001))) h20))))))))) ∧ (x15 = 0 → (∃ fs39 : List Value, (h14).1 r_0 = .inr (10, fs39) ∧ Ev d (0, 0) MX11_found [.ref r_0, .int 3] h14 (fun r36 h37 => ∃ x38 : Int32, r36 = some (.int x38) ∧ Q (some (.int x38)) h37)))))))))) ∧ (¬ (x6 = 0) → Q (some (.int (-1000001))) h5))))))) : Wm (d + 1) b JX11_between 0 [some (.ref r_0), some (.int x_1), some (.int x_2), some (.int x_3), some (.int x_4), none] [] h Q := by
  refine m_iload_n dX11_between_0 rfl ?_
  refine m_static (as := [.int x_1]) (rest := []) cs_X11_98 dX11_between_1 rfl rfl (Nat.le_of_ble_eq_true rfl) (Nat.le_of_eq (Nat.zero_add _)) (Nat.le_of_eq (Nat.zero_add _)) (b1 := (0, 0)) (b2 := b) (Ev.mono hF ?_)
  intro r1 h2 hF
  obtain ⟨x3, rfl, hF⟩ := hF
  refine m_if_ne 14 dX11_between_4 (by decide) (fun c => ?_) (fun c => ?_)
  · replace hF := hF.1 c
    refine m_ldc dX11_between_14 kc_X11_64 ?_
    exact m_ireturn dX11_between_16 trivial hF
  · replace hF := hF.2 c
    refine m_iload_n dX11_between_7 rfl ?_
    refine m_static (as := [.int x_2]) (rest := []) cs_X11_98 dX11_between_8 rfl rfl (Nat.le_of_ble_eq_true rfl) (Nat.le_of_eq (Nat.zero_add _)) (Nat.le_of_eq (Nat.zero_add _)) (b1 := (0, 0)) (b2 := b) (Ev.mono hF ?_)
    intro r4 h5 hF
    obtain ⟨x6, rfl, hF⟩ := hF
    refine m_if_eq 17 dX11_between_11 (by decide) (fun c => ?_) (fun c => ?_)
    · replace hF := hF.1 c
      refine m_aload_n dX11_between_17 rfl ?_
      obtain ⟨r7, e, hF⟩ := hF
      refine m_get fg_X11_20 dX11_between_18 e ?_
      refine m_iload_n dX11_between_21 rfl ?_
      rcases hF with ⟨e, hF⟩ | ⟨r8, e, hF⟩
      · refine m_aald dX11_between_22 e ?_
        refine m_astoreN (ls2 := [some (.ref r_0), some (.int x_1), some (.int x_2), some (.int x_3), some (.int x_4), some (.null)]) dX11_between_23 (by decide) rfl ?_
        refine m_aloadN dX11_between_25 rfl ?_
        refine m_ifnonnullN dX11_between_27 ?_
        refine m_aload_n dX11_between_30 rfl ?_
        refine m_iconst dX11_between_31 ki_1 ?_
        obtain ⟨fs12, e, hF⟩ := hF
        refine m_virtual (as := [.int 1]) (rest := []) cv_X11_65_10 e dX11_between_32 rfl rfl (Nat.le_of_ble_eq_true rfl) (Nat.le_of_eq (Nat.zero_add _)) (Nat.le_of_eq (Nat.zero_add _)) (b1 := (0, 0)) (b2 := b) (Ev.mono hF ?_)
        intro r9 h10 hF
        obtain ⟨x11, rfl, hF⟩ := hF
        exact m_ireturn dX11_between_35 trivial hF
      · refine m_aald dX11_between_22 e ?_
        refine m_astore (ls2 := [some (.ref r_0), some (.int x_1), some (.int x_2), some (.int x_3), some (.int x_4), some (.ref r8)]) dX11_between_23 (by decide) rfl ?_
        refine m_aload dX11_between_25 rfl ?_
        refine m_ifnonnull 36 dX11_between_27 (by decide) ?_
        refine m_aload dX11_between_36 rfl ?_
        obtain ⟨c40, fs41, e, hc, hF⟩ := hF
        refine m_virtual (as := []) (rest := []) (cw_X11_136 _ hc) e dX11_between_38 rfl rfl (Nat.le_of_ble_eq_true rfl) (Nat.le_of_eq (Nat.zero_add _)) (Nat.le_of_eq (Nat.zero_add _)) (b1 := (0, 0)) (b2 := b) (Ev.mono hF ?_)
        intro r13 h14 hF
        obtain ⟨x15, rfl, hF⟩ := hF
        refine m_if_ne 50 dX11_between_41 (by decide) (fun c => ?_) (fun c => ?_)
        · replace hF := hF.1 c
          refine m_aload dX11_between_50 rfl ?_
          refine m_iload_n dX11_between_52 rfl ?_
          obtain ⟨c34, fs35, e, hc, hF⟩ := hF
          refine m_virtual (as := [.int x_3]) (rest := []) (cw_X11_159 _ hc) e dX11_between_53 rfl rfl (Nat.le_of_ble_eq_true rfl) (Nat.le_of_eq (Nat.zero_add _)) (Nat.le_of_eq (Nat.zero_add _)) (b1 := (0, 0)) (b2 := b) (Ev.mono hF ?_)
          intro r16 h17 hF
          obtain ⟨x18, rfl, hF⟩ := hF
          refine m_if_ne 69 dX11_between_56 (by decide) (fun c => ?_) (fun c => ?_)
          · replace hF := hF.1 c
            refine m_ldc dX11_between_69 kc_X11_64 ?_
            exact m_ireturn dX11_between_71 trivial hF
          · replace hF := hF.2 c
            refine m_aload dX11_between_59 rfl ?_
            refine m_iload dX11_between_61 rfl ?_
            obtain ⟨c32, fs33, e, hc, hF⟩ := hF
            refine m_virtual (as := [.int x_4]) (rest := []) (cw_X11_159 _ hc) e dX11_between_63 rfl rfl (Nat.le_of_ble_eq_true rfl) (Nat.le_of_eq (Nat.zero_add _)) (Nat.le_of_eq (Nat.zero_add _)) (b1 := (0, 0)) (b2 := b) (Ev.mono hF ?_)
            intro r19 h20 hF
            obtain ⟨x21, rfl, hF⟩ := hF
            refine m_if_eq 72 dX11_between_66 (by decide) (fun c => ?_) (fun c => ?_)
            · replace hF := hF.1 c
              refine m_aload_n dX11_between_72 rfl ?_
              refine m_iload_n dX11_between_73 rfl ?_
              refine m_aload dX11_between_74 rfl ?_
              refine m_iload_n dX11_between_76 rfl ?_
              refine m_iload dX11_between_77 rfl ?_
              obtain ⟨b25, g1, g2, hF⟩ := hF
              obtain ⟨c30, fs31, e, hc, hF⟩ := hF
              refine m_virtual (as := [.int x_3, .int x_4]) (rest := [.int x_1, .ref r_0]) (cw_X11_162 _ hc) e dX11_between_79 rfl rfl (Nat.le_of_ble_eq_true rfl) (Nat.le_of_eq (Nat.add_sub_cancel' g1)) (Nat.le_of_eq (Nat.add_sub_cancel' g2)) (b1 := b25) (b2 := (b.1 - b25.1, b.2 - b25.2)) (Ev.mono hF ?_)
              intro r22 h23 hF
              obtain ⟨q24, rfl, hF⟩ := hF
              obtain ⟨fs29, e, hF⟩ := hF
              refine m_virtual (as := [.int x_1, .ref q24]) (rest := []) cv_X11_125_10 e dX11_between_82 rfl rfl (Nat.le_of_ble_eq_true rfl) (Nat.le_of_eq (Nat.zero_add _)) (Nat.le_of_eq (Nat.zero_add _)) (b1 := (0, 0)) (b2 := (b.1 - b25.1, b.2 - b25.2)) (Ev.mono hF ?_)
              intro r26 h27 hF
              obtain ⟨x28, rfl, hF⟩ := hF
              exact m_ireturn dX11_between_85 trivial hF
            · replace hF := hF.2 c
              refine m_ldc dX11_between_69 kc_X11_64 ?_
              exact m_ireturn dX11_between_71 trivial hF
        · replace hF := hF.2 c
          refine m_aload_n dX11_between_44 rfl ?_
          refine m_iconst dX11_between_45 ki_3 ?_
          obtain ⟨fs39, e, hF⟩ := hF
          refine m_virtual (as := [.int 3]) (rest := []) cv_X11_65_10 e dX11_between_46 rfl rfl (Nat.le_of_ble_eq_true rfl) (Nat.le_of_eq (Nat.zero_add _)) (Nat.le_of_eq (Nat.zero_add _)) (b1 := (0, 0)) (b2 := b) (Ev.mono hF ?_)
          intro r36 h37 hF
          obtain ⟨x38, rfl, hF⟩ := hF
          exact m_ireturn dX11_between_49 trivial hF
    · replace hF := hF.2 c
      refine m_ldc dX11_between_14 kc_X11_64 ?_
      exact m_ireturn dX11_between_16 trivial hF
theorem en_X11_between {d : Nat} {b : Nat × Nat} {r_0 : Nat} {x_1 : Int32} {x_2 : Int32} {x_3 : Int32} {x_4 : Int32} {h : mH} {K : Option Value → mH → Prop} (hk : Wm (d + 1) b JX11_between 0 [some (.ref r_0), some (.int x_1), some (.int x_2), some (.int x_3), some (.int x_4), none] [] h (fun r h' => h'.1 0 = h.1 0 ∧ K r h')) : Ev (d + 1) b MX11_between [.ref r_0, .int x_1, .int x_2, .int x_3, .int x_4] h K :=
  m_met pn_X11 nl_X11 (fun _ => Nat.le_of_ble_eq_true rfl) hk
theorem bk_X11_braid_0 {d : Nat} {b : Nat × Nat} (r_0 : Nat) (x_1 : Int32) (x_2 : Int32) (x_3 : Int32) (x_4 : Int32) {h : mH} {Q : Option Value → mH → Prop} (hF : Ev d (0, 0) MX11_noPlace [.int x_1] h (fun r1 h2 => ∃ x3 : Int32, r1 = some (.int x3) ∧ ((¬ x3 = 0 → Q (some (.int (-1000001))) h2) ∧ (x3 = 0 → Ev d (0, 0) MX11_noPlace [.int x_2] h2 (fun r4 h5 => ∃ x6 : Int32, r4 = some (.int x6) ∧ ((¬ x6 = 0 → Q (some (.int (-1000001))) h5) ∧ (x6 = 0 → ((x_4 < 0 → Q (some (.int (-1000001))) h5) ∧ (¬ (x_4 < 0) → ((x_4 ≤ 1 → (∃ r7 : Nat, m_fld h5 r_0 [10] 1 = some (.ref r7) ∧ ((m_rl h5 r7 x_2 = some .null ∧ (∃ fs12 : List Value, (h5).1 r_0 = .inr (10, fs12) ∧ Ev d (0, 0) MX11_found [.ref r_0, .int 1] h5 (fun r9 h10 => ∃ x11 : Int32, r9 = some (.int x11) ∧ Q (some (.int x11)) h10))) ∨ (∃ r8 : Nat, m_rl h5 r7 x_2 = some (.ref r8) ∧ ((x_3 < 0 → Q (some (.int (-1000001))) h5) ∧ (¬ (x_3 < 0) → (∃ r13 : Nat, m_fld h5 r8 [0, 1, 4, 8, 9] 1 = some (.ref r13) ∧ (∃ n14 : Nat, m_len h5 r13 = some n14 ∧ ((x_3 < ((nI n14) - 1) → ((¬ x_4 = 0 → (∃ b18 : Nat × Nat, b18.1 ≤ b.1 ∧ b18.2 ≤ b.2 ∧ (∃ (c23 : Nat) (fs24 : List Value), (h5).1 r8 = .inr (c23, fs24) ∧ c23 ∈ [0, 1, 4, 8, 9] ∧ Ev d b18 MX1_ledPast [.ref r8, .int x_3, .int 0] h5 (fun r15 h16 => ∃ q17 : Nat, r15 = some (.ref q17) ∧ (∃ fs22 : List Value, (h16).1 r_0 = .inr (10, fs22) ∧ Ev d (0, 0) MX11_shelve [.ref r_0, .int x_1, .ref q17] h16 (fun r19 h20 => ∃ x21 : Int32, r19 = some (.int x21) ∧ Q (some (.int x21)) h20)))))) ∧ (x_4 = 0 → (∃ b28 : Nat × Nat, b28.1 ≤ b.1 ∧ b28.2 ≤ b.2 ∧ (∃ (c33 : Nat) (fs34 : List Value), (h5).1 r8 = .inr (c33, fs34) ∧ c33 ∈ [0, 1, 4, 8, 9] ∧ Ev d b28 MX1_ledPast [.ref r8, .int x_3, .int 1] h5 (fun r25 h26 => ∃ q27 : Nat, r25 = some (.ref q27) ∧ (∃ fs32 : List Value, (h26).1 r_0 = .inr (10, fs32) ∧ Ev d (0, 0) MX11_shelve [.ref r_0, .int x_1, .ref q27] h26 (fun r29 h30 => ∃ x31 : Int32, r29 = some (.int x31) ∧ Q (some (.int x31)) h30)))))))) ∧ (¬ (x_3 < ((nI n14) - 1)) → Q (some (.int (-1000001))) h5)))))))))) ∧ (¬ (x_4 ≤ 1) → Q (some (.int (-1000001))) h5))))))))))) : Wm (d + 1) b JX11_braid 0 [some (.ref r_0), some (.int x_1), some (.int x_2), some (.int x_3), some (.int x_4), none] [] h Q := by
  refine m_iload_n dX11_braid_0 rfl ?_
  refine m_static (as := [.int x_1]) (rest := []) cs_X11_98 dX11_braid_1 rfl rfl (Nat.le_of_ble_eq_true rfl) (Nat.le_of_eq (Nat.zero_add _)) (Nat.le_of_eq (Nat.zero_add _)) (b1 := (0, 0)) (b2 := b) (Ev.mono hF ?_)
  intro r1 h2 hF
  obtain ⟨x3, rfl, hF⟩ := hF
  refine m_if_ne 25 dX11_braid_4 (by decide) (fun c => ?_) (fun c => ?_)
  · replace hF := hF.1 c
    refine m_ldc dX11_braid_25 kc_X11_64 ?_
    exact m_ireturn dX11_braid_27 trivial hF
  · replace hF := hF.2 c
    refine m_iload_n dX11_braid_7 rfl ?_
    refine m_static (as := [.int x_2]) (rest := []) cs_X11_98 dX11_braid_8 rfl rfl (Nat.le_of_ble_eq_true rfl) (Nat.le_of_eq (Nat.zero_add _)) (Nat.le_of_eq (Nat.zero_add _)) (b1 := (0, 0)) (b2 := b) (Ev.mono hF ?_)
    intro r4 h5 hF
    obtain ⟨x6, rfl, hF⟩ := hF
    refine m_if_ne 25 dX11_braid_11 (by decide) (fun c => ?_) (fun c => ?_)
    · replace hF := hF.1 c
      refine m_ldc dX11_braid_25 kc_X11_64 ?_
      exact m_ireturn dX11_braid_27 trivial hF
    · replace hF := hF.2 c
      refine m_iload dX11_braid_14 rfl ?_
      refine m_if_lt 25 dX11_braid_16 (by decide) (fun c => ?_) (fun c => ?_)
      · replace hF := hF.1 c
        refine m_ldc dX11_braid_25 kc_X11_64 ?_
        exact m_ireturn dX11_braid_27 trivial hF
      · replace hF := hF.2 c
        refine m_iload dX11_braid_19 rfl ?_
        refine m_iconst dX11_braid_21 ki_1 ?_
        refine m_icmp_le 28 dX11_braid_22 (by decide) (fun c => ?_) (fun c => ?_)
        · replace hF := hF.1 c
          refine m_aload_n dX11_braid_28 rfl ?_
          obtain ⟨r7, e, hF⟩ := hF
          refine m_get fg_X11_20 dX11_braid_29 e ?_
          refine m_iload_n dX11_braid_32 rfl ?_
          rcases hF with ⟨e, hF⟩ | ⟨r8, e, hF⟩
          · refine m_aald dX11_braid_33 e ?_
            refine m_astoreN (ls2 := [some (.ref r_0), some (.int x_1), some (.int x_2), some (.int x_3), some (.int x_4), some (.null)]) dX11_braid_34 (by decide) rfl ?_
            refine m_aloadN dX11_braid_36 rfl ?_
            refine m_ifnonnullN dX11_braid_38 ?_
            refine m_aload_n dX11_braid_41 rfl ?_
            refine m_iconst dX11_braid_42 ki_1 ?_
            obtain ⟨fs12, e, hF⟩ := hF
            refine m_virtual (as := [.int 1]) (rest := []) cv_X11_65_10 e dX11_braid_43 rfl rfl (Nat.le_of_ble_eq_true rfl) (Nat.le_of_eq (Nat.zero_add _)) (Nat.le_of_eq (Nat.zero_add _)) (b1 := (0, 0)) (b2 := b) (Ev.mono hF ?_)
            intro r9 h10 hF
            obtain ⟨x11, rfl, hF⟩ := hF
            exact m_ireturn dX11_braid_46 trivial hF
          · refine m_aald dX11_braid_33 e ?_
            refine m_astore (ls2 := [some (.ref r_0), some (.int x_1), some (.int x_2), some (.int x_3), some (.int x_4), some (.ref r8)]) dX11_braid_34 (by decide) rfl ?_
            refine m_aload dX11_braid_36 rfl ?_
            refine m_ifnonnull 47 dX11_braid_38 (by decide) ?_
            refine m_iload_n dX11_braid_47 rfl ?_
            refine m_if_lt 63 dX11_braid_48 (by decide) (fun c => ?_) (fun c => ?_)
            · replace hF := hF.1 c
              refine m_ldc dX11_braid_63 kc_X11_64 ?_
              exact m_ireturn dX11_braid_65 trivial hF
            · replace hF := hF.2 c
              refine m_iload_n dX11_braid_51 rfl ?_
              refine m_aload dX11_braid_52 rfl ?_
              obtain ⟨r13, e, hF⟩ := hF
              refine m_get fg_X11_139 dX11_braid_54 e ?_
              obtain ⟨n14, e, hF⟩ := hF
              refine m_alen dX11_braid_57 e ?_
              refine m_iconst dX11_braid_58 ki_1 ?_
              refine m_isub dX11_braid_59 ?_
              refine m_icmp_lt 66 dX11_braid_60 (by decide) (fun c => ?_) (fun c => ?_)
              · replace hF := hF.1 c
                refine m_aload_n dX11_braid_66 rfl ?_
                refine m_iload_n dX11_braid_67 rfl ?_
                refine m_aload dX11_braid_68 rfl ?_
                refine m_iload_n dX11_braid_70 rfl ?_
                refine m_iload dX11_braid_71 rfl ?_
                refine m_if_ne 80 dX11_braid_73 (by decide) (fun c => ?_) (fun c => ?_)
                · replace hF := hF.1 c
                  refine m_iconst dX11_braid_80 ki_0 ?_
                  obtain ⟨b18, g1, g2, hF⟩ := hF
                  obtain ⟨c23, fs24, e, hc, hF⟩ := hF
                  refine m_virtual (as := [.int x_3, .int 0]) (rest := [.int x_1, .ref r_0]) (cw_X11_166 _ hc) e dX11_braid_81 rfl rfl (Nat.le_of_ble_eq_true rfl) (Nat.le_of_eq (Nat.add_sub_cancel' g1)) (Nat.le_of_eq (Nat.add_sub_cancel' g2)) (b1 := b18) (b2 := (b.1 - b18.1, b.2 - b18.2)) (Ev.mono hF ?_)
                  intro r15 h16 hF
                  obtain ⟨q17, rfl, hF⟩ := hF
                  obtain ⟨fs22, e, hF⟩ := hF
                  refine m_virtual (as := [.int x_1, .ref q17]) (rest := []) cv_X11_125_10 e dX11_braid_84 rfl rfl (Nat.le_of_ble_eq_true rfl) (Nat.le_of_eq (Nat.zero_add _)) (Nat.le_of_eq (Nat.zero_add _)) (b1 := (0, 0)) (b2 := (b.1 - b18.1, b.2 - b18.2)) (Ev.mono hF ?_)
                  intro r19 h20 hF
                  obtain ⟨x21, rfl, hF⟩ := hF
                  exact m_ireturn dX11_braid_87 trivial hF
                · replace hF := hF.2 c
                  refine m_iconst dX11_braid_76 ki_1 ?_
                  refine m_goto 81 dX11_braid_77 (by decide) ?_
                  obtain ⟨b28, g1, g2, hF⟩ := hF
                  obtain ⟨c33, fs34, e, hc, hF⟩ := hF
                  refine m_virtual (as := [.int x_3, .int 1]) (rest := [.int x_1, .ref r_0]) (cw_X11_166 _ hc) e dX11_braid_81 rfl rfl (Nat.le_of_ble_eq_true rfl) (Nat.le_of_eq (Nat.add_sub_cancel' g1)) (Nat.le_of_eq (Nat.add_sub_cancel' g2)) (b1 := b28) (b2 := (b.1 - b28.1, b.2 - b28.2)) (Ev.mono hF ?_)
                  intro r25 h26 hF
                  obtain ⟨q27, rfl, hF⟩ := hF
                  obtain ⟨fs32, e, hF⟩ := hF
                  refine m_virtual (as := [.int x_1, .ref q27]) (rest := []) cv_X11_125_10 e dX11_braid_84 rfl rfl (Nat.le_of_ble_eq_true rfl) (Nat.le_of_eq (Nat.zero_add _)) (Nat.le_of_eq (Nat.zero_add _)) (b1 := (0, 0)) (b2 := (b.1 - b28.1, b.2 - b28.2)) (Ev.mono hF ?_)
                  intro r29 h30 hF
                  obtain ⟨x31, rfl, hF⟩ := hF
                  exact m_ireturn dX11_braid_87 trivial hF
              · replace hF := hF.2 c
                refine m_ldc dX11_braid_63 kc_X11_64 ?_
                exact m_ireturn dX11_braid_65 trivial hF
        · replace hF := hF.2 c
          refine m_ldc dX11_braid_25 kc_X11_64 ?_
          exact m_ireturn dX11_braid_27 trivial hF
theorem en_X11_braid {d : Nat} {b : Nat × Nat} {r_0 : Nat} {x_1 : Int32} {x_2 : Int32} {x_3 : Int32} {x_4 : Int32} {h : mH} {K : Option Value → mH → Prop} (hk : Wm (d + 1) b JX11_braid 0 [some (.ref r_0), some (.int x_1), some (.int x_2), some (.int x_3), some (.int x_4), none] [] h (fun r h' => h'.1 0 = h.1 0 ∧ K r h')) : Ev (d + 1) b MX11_braid [.ref r_0, .int x_1, .int x_2, .int x_3, .int x_4] h K :=
  m_met pn_X11 nl_X11 (fun _ => Nat.le_of_ble_eq_true rfl) hk
theorem bk_X11_turn_0 {d : Nat} {b : Nat × Nat} (r_0 : Nat) (x_1 : Int32) (x_2 : Int32) (x_3 : Int32) {h : mH} {Q : Option Value → mH → Prop} (hF : Ev d (0, 0) MX11_noPlace [.int x_1] h (fun r1 h2 => ∃ x3 : Int32, r1 = some (.int x3) ∧ ((¬ x3 = 0 → Q (some (.int (-1000001))) h2) ∧ (x3 = 0 → Ev d (0, 0) MX11_noPlace [.int x_2] h2 (fun r4 h5 => ∃ x6 : Int32, r4 = some (.int x6) ∧ ((¬ x6 = 0 → Q (some (.int (-1000001))) h5) ∧ (x6 = 0 → ((x_3 < 0 → Q (some (.int (-1000001))) h5) ∧ (¬ (x_3 < 0) → ((x_3 ≤ 1 → (∃ r7 : Nat, m_fld h5 r_0 [10] 1 = some (.ref r7) ∧ ((m_rl h5 r7 x_2 = some .null ∧ (∃ fs12 : List Value, (h5).1 r_0 = .inr (10, fs12) ∧ Ev d (0, 0) MX11_found [.ref r_0, .int 1] h5 (fun r9 h10 => ∃ x11 : Int32, r9 = some (.int x11) ∧ Q (some (.int x11)) h10))) ∨ (∃ r8 : Nat, m_rl h5 r7 x_2 = some (.ref r8) ∧ ((¬ x_3 = 0 → (∃ (c13 : Nat) (fs14 : List Value), (h5).1 r8 = .inr (c13, fs14) ∧ c13 ∈ [0, 1, 4, 8, 9] ∧ ((¬ (if m_isa c13 9 = true then (1 : Int32) else 0) = 0 → (∃ b18 : Nat × Nat, b18.1 ≤ b.1 ∧ b18.2 ≤ b.2 ∧ (∃ (c23 : Nat) (fs24 : List Value), (h5).1 r8 = .inr (c23, fs24) ∧ c23 ∈ [0, 1, 4, 8, 9] ∧ Ev d b18 MX1_ledPast [.ref r8, .int 0, .int 1] h5 (fun r15 h16 => ∃ q17 : Nat, r15 = some (.ref q17) ∧ (∃ fs22 : List Value, (h16).1 r_0 = .inr (10, fs22) ∧ Ev d (0, 0) MX11_shelve [.ref r_0, .int x_1, .ref q17] h16 (fun r19 h20 => ∃ x21 : Int32, r19 = some (.int x21) ∧ Q (some (.int x21)) h20)))))) ∧ ((if m_isa c13 9 = true then (1 : Int32) else 0) = 0 → (∃ fs28 : List Value, (h5).1 r_0 = .inr (10, fs28) ∧ Ev d (0, 0) MX11_found [.ref r_0, .int 3] h5 (fun r25 h26 => ∃ x27 : Int32, r25 = some (.int x27) ∧ Q (some (.int x27)) h26)))))) ∧ (x_3 = 0 → (∃ b32 : Nat × Nat, b32.1 ≤ b.1 ∧ b32.2 ≤ b.2 ∧ (∃ (c37 : Nat) (fs38 : List Value), (h5).1 r8 = .inr (c37, fs38) ∧ c37 ∈ [0, 1, 4, 8, 9] ∧ Ev d b32 MX1_mirror [.ref r8] h5 (fun r29 h30 => ∃ q31 : Nat, r29 = some (.ref q31) ∧ (∃ fs36 : List Value, (h30).1 r_0 = .inr (10, fs36) ∧ Ev d (0, 0) MX11_shelve [.ref r_0, .int x_1, .ref q31] h30 (fun r33 h34 => ∃ x35 : Int32, r33 = some (.int x35) ∧ Q (some (.int x35)) h34))))))))))) ∧ (¬ (x_3 ≤ 1) → Q (some (.int (-1000001))) h5))))))))))) : Wm (d + 1) b JX11_turn 0 [some (.ref r_0), some (.int x_1), some (.int x_2), some (.int x_3), none] [] h Q := by
  refine m_iload_n dX11_turn_0 rfl ?_
  refine m_static (as := [.int x_1]) (rest := []) cs_X11_98 dX11_turn_1 rfl rfl (Nat.le_of_ble_eq_true rfl) (Nat.le_of_eq (Nat.zero_add _)) (Nat.le_of_eq (Nat.zero_add _)) (b1 := (0, 0)) (b2 := b) (Ev.mono hF ?_)
  intro r1 h2 hF
  obtain ⟨x3, rfl, hF⟩ := hF
  refine m_if_ne 23 dX11_turn_4 (by decide) (fun c => ?_) (fun c => ?_)
  · replace hF := hF.1 c
    refine m_ldc dX11_turn_23 kc_X11_64 ?_
    exact m_ireturn dX11_turn_25 trivial hF
  · replace hF := hF.2 c
    refine m_iload_n dX11_turn_7 rfl ?_
    refine m_static (as := [.int x_2]) (rest := []) cs_X11_98 dX11_turn_8 rfl rfl (Nat.le_of_ble_eq_true rfl) (Nat.le_of_eq (Nat.zero_add _)) (Nat.le_of_eq (Nat.zero_add _)) (b1 := (0, 0)) (b2 := b) (Ev.mono hF ?_)
    intro r4 h5 hF
    obtain ⟨x6, rfl, hF⟩ := hF
    refine m_if_ne 23 dX11_turn_11 (by decide) (fun c => ?_) (fun c => ?_)
    · replace hF := hF.1 c
      refine m_ldc dX11_turn_23 kc_X11_64 ?_
      exact m_ireturn dX11_turn_25 trivial hF
    · replace hF := hF.2 c
      refine m_iload_n dX11_turn_14 rfl ?_
      refine m_if_lt 23 dX11_turn_15 (by decide) (fun c => ?_) (fun c => ?_)
      · replace hF := hF.1 c
        refine m_ldc dX11_turn_23 kc_X11_64 ?_
        exact m_ireturn dX11_turn_25 trivial hF
      · replace hF := hF.2 c
        refine m_iload_n dX11_turn_18 rfl ?_
        refine m_iconst dX11_turn_19 ki_1 ?_
        refine m_icmp_le 26 dX11_turn_20 (by decide) (fun c => ?_) (fun c => ?_)
        · replace hF := hF.1 c
          refine m_aload_n dX11_turn_26 rfl ?_
          obtain ⟨r7, e, hF⟩ := hF
          refine m_get fg_X11_20 dX11_turn_27 e ?_
          refine m_iload_n dX11_turn_30 rfl ?_
          rcases hF with ⟨e, hF⟩ | ⟨r8, e, hF⟩
          · refine m_aald dX11_turn_31 e ?_
            refine m_astoreN (ls2 := [some (.ref r_0), some (.int x_1), some (.int x_2), some (.int x_3), some (.null)]) dX11_turn_32 (by decide) rfl ?_
            refine m_aloadN dX11_turn_34 rfl ?_
            refine m_ifnonnullN dX11_turn_36 ?_
            refine m_aload_n dX11_turn_39 rfl ?_
            refine m_iconst dX11_turn_40 ki_1 ?_
            obtain ⟨fs12, e, hF⟩ := hF
            refine m_virtual (as := [.int 1]) (rest := []) cv_X11_65_10 e dX11_turn_41 rfl rfl (Nat.le_of_ble_eq_true rfl) (Nat.le_of_eq (Nat.zero_add _)) (Nat.le_of_eq (Nat.zero_add _)) (b1 := (0, 0)) (b2 := b) (Ev.mono hF ?_)
            intro r9 h10 hF
            obtain ⟨x11, rfl, hF⟩ := hF
            exact m_ireturn dX11_turn_44 trivial hF
          · refine m_aald dX11_turn_31 e ?_
            refine m_astore (ls2 := [some (.ref r_0), some (.int x_1), some (.int x_2), some (.int x_3), some (.ref r8)]) dX11_turn_32 (by decide) rfl ?_
            refine m_aload dX11_turn_34 rfl ?_
            refine m_ifnonnull 45 dX11_turn_36 (by decide) ?_
            refine m_iload_n dX11_turn_45 rfl ?_
            refine m_if_ne 60 dX11_turn_46 (by decide) (fun c => ?_) (fun c => ?_)
            · replace hF := hF.1 c
              refine m_aload dX11_turn_60 rfl ?_
              obtain ⟨c13, fs14, e, hc, hF⟩ := hF
              refine m_inst (ct := 9) dX11_turn_62 (by decide) hc cl_X11_174 e ?_
              refine m_if_ne 74 dX11_turn_65 (by decide) (fun c => ?_) (fun c => ?_)
              · replace hF := hF.1 c
                refine m_aload_n dX11_turn_74 rfl ?_
                refine m_iload_n dX11_turn_75 rfl ?_
                refine m_aload dX11_turn_76 rfl ?_
                refine m_iconst dX11_turn_78 ki_0 ?_
                refine m_iconst dX11_turn_79 ki_1 ?_
                obtain ⟨b18, g1, g2, hF⟩ := hF
                obtain ⟨c23, fs24, e, hc, hF⟩ := hF
                refine m_virtual (as := [.int 0, .int 1]) (rest := [.int x_1, .ref r_0]) (cw_X11_166 _ hc) e dX11_turn_80 rfl rfl (Nat.le_of_ble_eq_true rfl) (Nat.le_of_eq (Nat.add_sub_cancel' g1)) (Nat.le_of_eq (Nat.add_sub_cancel' g2)) (b1 := b18) (b2 := (b.1 - b18.1, b.2 - b18.2)) (Ev.mono hF ?_)
                intro r15 h16 hF
                obtain ⟨q17, rfl, hF⟩ := hF
                obtain ⟨fs22, e, hF⟩ := hF
                refine m_virtual (as := [.int x_1, .ref q17]) (rest := []) cv_X11_125_10 e dX11_turn_83 rfl rfl (Nat.le_of_ble_eq_true rfl) (Nat.le_of_eq (Nat.zero_add _)) (Nat.le_of_eq (Nat.zero_add _)) (b1 := (0, 0)) (b2 := (b.1 - b18.1, b.2 - b18.2)) (Ev.mono hF ?_)
                intro r19 h20 hF
                obtain ⟨x21, rfl, hF⟩ := hF
                exact m_ireturn dX11_turn_86 trivial hF
              · replace hF := hF.2 c
                refine m_aload_n dX11_turn_68 rfl ?_
                refine m_iconst dX11_turn_69 ki_3 ?_
                obtain ⟨fs28, e, hF⟩ := hF
                refine m_virtual (as := [.int 3]) (rest := []) cv_X11_65_10 e dX11_turn_70 rfl rfl (Nat.le_of_ble_eq_true rfl) (Nat.le_of_eq (Nat.zero_add _)) (Nat.le_of_eq (Nat.zero_add _)) (b1 := (0, 0)) (b2 := b) (Ev.mono hF ?_)
                intro r25 h26 hF
                obtain ⟨x27, rfl, hF⟩ := hF
                exact m_ireturn dX11_turn_73 trivial hF
            · replace hF := hF.2 c
              refine m_aload_n dX11_turn_49 rfl ?_
              refine m_iload_n dX11_turn_50 rfl ?_
              refine m_aload dX11_turn_51 rfl ?_
              obtain ⟨b32, g1, g2, hF⟩ := hF
              obtain ⟨c37, fs38, e, hc, hF⟩ := hF
              refine m_virtual (as := []) (rest := [.int x_1, .ref r_0]) (cw_X11_170 _ hc) e dX11_turn_53 rfl rfl (Nat.le_of_ble_eq_true rfl) (Nat.le_of_eq (Nat.add_sub_cancel' g1)) (Nat.le_of_eq (Nat.add_sub_cancel' g2)) (b1 := b32) (b2 := (b.1 - b32.1, b.2 - b32.2)) (Ev.mono hF ?_)
              intro r29 h30 hF
              obtain ⟨q31, rfl, hF⟩ := hF
              obtain ⟨fs36, e, hF⟩ := hF
              refine m_virtual (as := [.int x_1, .ref q31]) (rest := []) cv_X11_125_10 e dX11_turn_56 rfl rfl (Nat.le_of_ble_eq_true rfl) (Nat.le_of_eq (Nat.zero_add _)) (Nat.le_of_eq (Nat.zero_add _)) (b1 := (0, 0)) (b2 := (b.1 - b32.1, b.2 - b32.2)) (Ev.mono hF ?_)
              intro r33 h34 hF
              obtain ⟨x35, rfl, hF⟩ := hF
              exact m_ireturn dX11_turn_59 trivial hF
        · replace hF := hF.2 c
          refine m_ldc dX11_turn_23 kc_X11_64 ?_
          exact m_ireturn dX11_turn_25 trivial hF
theorem en_X11_turn {d : Nat} {b : Nat × Nat} {r_0 : Nat} {x_1 : Int32} {x_2 : Int32} {x_3 : Int32} {h : mH} {K : Option Value → mH → Prop} (hk : Wm (d + 1) b JX11_turn 0 [some (.ref r_0), some (.int x_1), some (.int x_2), some (.int x_3), none] [] h (fun r h' => h'.1 0 = h.1 0 ∧ K r h')) : Ev (d + 1) b MX11_turn [.ref r_0, .int x_1, .int x_2, .int x_3] h K :=
  m_met pn_X11 nl_X11 (fun _ => Nat.le_of_ble_eq_true rfl) hk
theorem bk_X11_over_0 {d : Nat} {b : Nat × Nat} (r_0 : Nat) (x_1 : Int32) (x_2 : Int32) (x_3 : Int32) {h : mH} {Q : Option Value → mH → Prop} (hF : Ev d (0, 0) MX11_noPlace [.int x_1] h (fun r1 h2 => ∃ x3 : Int32, r1 = some (.int x3) ∧ ((¬ x3 = 0 → Q (some (.int (-1000001))) h2) ∧ (x3 = 0 → Ev d (0, 0) MX11_noPlace [.int x_2] h2 (fun r4 h5 => ∃ x6 : Int32, r4 = some (.int x6) ∧ ((¬ x6 = 0 → Q (some (.int (-1000001))) h5) ∧ (x6 = 0 → Ev d (0, 0) MX11_noPlace [.int x_3] h5 (fun r7 h8 => ∃ x9 : Int32, r7 = some (.int x9) ∧ ((x9 = 0 → (∃ r10 : Nat, m_fld h8 r_0 [10] 1 = some (.ref r10) ∧ ((m_rl h8 r10 x_2 = some .null ∧ (∃ r12 : Nat, m_fld h8 r_0 [10] 1 = some (.ref r12) ∧ ((m_rl h8 r12 x_3 = some .null ∧ (∃ fs17 : List Value, (h8).1 r_0 = .inr (10, fs17) ∧ Ev d (0, 0) MX11_found [.ref r_0, .int 1] h8 (fun r14 h15 => ∃ x16 : Int32, r14 = some (.int x16) ∧ Q (some (.int x16)) h15))) ∨ (∃ r13 : Nat, m_rl h8 r12 x_3 = some (.ref r13) ∧ (∃ fs21 : List Value, (h8).1 r_0 = .inr (10, fs21) ∧ Ev d (0, 0) MX11_found [.ref r_0, .int 1] h8 (fun r18 h19 => ∃ x20 : Int32, r18 = some (.int x20) ∧ Q (some (.int x20)) h19)))))) ∨ (∃ r11 : Nat, m_rl h8 r10 x_2 = some (.ref r11) ∧ (∃ r22 : Nat, m_fld h8 r_0 [10] 1 = some (.ref r22) ∧ ((m_rl h8 r22 x_3 = some .null ∧ (∃ fs27 : List Value, (h8).1 r_0 = .inr (10, fs27) ∧ Ev d (0, 0) MX11_found [.ref r_0, .int 1] h8 (fun r24 h25 => ∃ x26 : Int32, r24 = some (.int x26) ∧ Q (some (.int x26)) h25))) ∨ (∃ r23 : Nat, m_rl h8 r22 x_3 = some (.ref r23) ∧ (∃ r28 : Nat, m_fld h8 r11 [0, 1, 4, 8, 9] 1 = some (.ref r28) ∧ (∃ n29 : Nat, m_len h8 r28 = some n29 ∧ (∃ r30 : Nat, m_fld h8 r23 [0, 1, 4, 8, 9] 1 = some (.ref r30) ∧ (∃ n31 : Nat, m_len h8 r30 = some n31 ∧ (((nI n29) = (nI n31) → (∃ x32 : Int32, m_fld h8 r11 [0, 1, 4, 8, 9] 0 = some (.int x32) ∧ (∃ x33 : Int32, m_fld h8 r23 [0, 1, 4, 8, 9] 0 = some (.int x33) ∧ (((x32 * x33) ≤ 12 → (∃ b37 : Nat × Nat, b37.1 ≤ b.1 ∧ b37.2 ≤ b.2 ∧ (∃ (c42 : Nat) (fs43 : List Value), (h8).1 r11 = .inr (c42, fs43) ∧ c42 ∈ [0, 1, 4, 8, 9] ∧ Ev d b37 MX1_laidOver [.ref r11, .ref r23] h8 (fun r34 h35 => ∃ q36 : Nat, r34 = some (.ref q36) ∧ (∃ fs41 : List Value, (h35).1 r_0 = .inr (10, fs41) ∧ Ev d (0, 0) MX11_shelve [.ref r_0, .int x_1, .ref q36] h35 (fun r38 h39 => ∃ x40 : Int32, r38 = some (.int x40) ∧ Q (some (.int x40)) h39)))))) ∧ (¬ ((x32 * x33) ≤ 12) → Q (some (.int (-1000003))) h8))))) ∧ (¬ ((nI n29) = (nI n31)) → Q (some (.int (-1000001))) h8))))))))))))) ∧ (¬ (x9 = 0) → Q (some (.int (-1000001))) h8)))))))))) : Wm (d + 1) b JX11_over 0 [some (.ref r_0), some (.int x_1), some (.int x_2), some (.int x_3), none, none] [] h Q := by
  refine m_iload_n dX11_over_0 rfl ?_
  refine m_static (as := [.int x_1]) (rest := []) cs_X11_98 dX11_over_1 rfl rfl (Nat.le_of_ble_eq_true rfl) (Nat.le_of_eq (Nat.zero_add _)) (Nat.le_of_eq (Nat.zero_add _)) (b1 := (0, 0)) (b2 := b) (Ev.mono hF ?_)
  intro r1 h2 hF
  obtain ⟨x3, rfl, hF⟩ := hF
  refine m_if_ne 21 dX11_over_4 (by decide) (fun c => ?_) (fun c => ?_)
  · replace hF := hF.1 c
    refine m_ldc dX11_over_21 kc_X11_64 ?_
    exact m_ireturn dX11_over_23 trivial hF
  · replace hF := hF.2 c
    refine m_iload_n dX11_over_7 rfl ?_
    refine m_static (as := [.int x_2]) (rest := []) cs_X11_98 dX11_over_8 rfl rfl (Nat.le_of_ble_eq_true rfl) (Nat.le_of_eq (Nat.zero_add _)) (Nat.le_of_eq (Nat.zero_add _)) (b1 := (0, 0)) (b2 := b) (Ev.mono hF ?_)
    intro r4 h5 hF
    obtain ⟨x6, rfl, hF⟩ := hF
    refine m_if_ne 21 dX11_over_11 (by decide) (fun c => ?_) (fun c => ?_)
    · replace hF := hF.1 c
      refine m_ldc dX11_over_21 kc_X11_64 ?_
      exact m_ireturn dX11_over_23 trivial hF
    · replace hF := hF.2 c
      refine m_iload_n dX11_over_14 rfl ?_
      refine m_static (as := [.int x_3]) (rest := []) cs_X11_98 dX11_over_15 rfl rfl (Nat.le_of_ble_eq_true rfl) (Nat.le_of_eq (Nat.zero_add _)) (Nat.le_of_eq (Nat.zero_add _)) (b1 := (0, 0)) (b2 := b) (Ev.mono hF ?_)
      intro r7 h8 hF
      obtain ⟨x9, rfl, hF⟩ := hF
      refine m_if_eq 24 dX11_over_18 (by decide) (fun c => ?_) (fun c => ?_)
      · replace hF := hF.1 c
        refine m_aload_n dX11_over_24 rfl ?_
        obtain ⟨r10, e, hF⟩ := hF
        refine m_get fg_X11_20 dX11_over_25 e ?_
        refine m_iload_n dX11_over_28 rfl ?_
        rcases hF with ⟨e, hF⟩ | ⟨r11, e, hF⟩
        · refine m_aald dX11_over_29 e ?_
          refine m_astoreN (ls2 := [some (.ref r_0), some (.int x_1), some (.int x_2), some (.int x_3), some (.null), none]) dX11_over_30 (by decide) rfl ?_
          refine m_aload_n dX11_over_32 rfl ?_
          obtain ⟨r12, e, hF⟩ := hF
          refine m_get fg_X11_20 dX11_over_33 e ?_
          refine m_iload_n dX11_over_36 rfl ?_
          rcases hF with ⟨e, hF⟩ | ⟨r13, e, hF⟩
          · refine m_aald dX11_over_37 e ?_
            refine m_astoreN (ls2 := [some (.ref r_0), some (.int x_1), some (.int x_2), some (.int x_3), some (.null), some (.null)]) dX11_over_38 (by decide) rfl ?_
            refine m_aloadN dX11_over_40 rfl ?_
            refine m_ifnullN 50 dX11_over_42 (by decide) ?_
            refine m_aload_n dX11_over_50 rfl ?_
            refine m_iconst dX11_over_51 ki_1 ?_
            obtain ⟨fs17, e, hF⟩ := hF
            refine m_virtual (as := [.int 1]) (rest := []) cv_X11_65_10 e dX11_over_52 rfl rfl (Nat.le_of_ble_eq_true rfl) (Nat.le_of_eq (Nat.zero_add _)) (Nat.le_of_eq (Nat.zero_add _)) (b1 := (0, 0)) (b2 := b) (Ev.mono hF ?_)
            intro r14 h15 hF
            obtain ⟨x16, rfl, hF⟩ := hF
            exact m_ireturn dX11_over_55 trivial hF
          · refine m_aald dX11_over_37 e ?_
            refine m_astore (ls2 := [some (.ref r_0), some (.int x_1), some (.int x_2), some (.int x_3), some (.null), some (.ref r13)]) dX11_over_38 (by decide) rfl ?_
            refine m_aloadN dX11_over_40 rfl ?_
            refine m_ifnullN 50 dX11_over_42 (by decide) ?_
            refine m_aload_n dX11_over_50 rfl ?_
            refine m_iconst dX11_over_51 ki_1 ?_
            obtain ⟨fs21, e, hF⟩ := hF
            refine m_virtual (as := [.int 1]) (rest := []) cv_X11_65_10 e dX11_over_52 rfl rfl (Nat.le_of_ble_eq_true rfl) (Nat.le_of_eq (Nat.zero_add _)) (Nat.le_of_eq (Nat.zero_add _)) (b1 := (0, 0)) (b2 := b) (Ev.mono hF ?_)
            intro r18 h19 hF
            obtain ⟨x20, rfl, hF⟩ := hF
            exact m_ireturn dX11_over_55 trivial hF
        · refine m_aald dX11_over_29 e ?_
          refine m_astore (ls2 := [some (.ref r_0), some (.int x_1), some (.int x_2), some (.int x_3), some (.ref r11), none]) dX11_over_30 (by decide) rfl ?_
          refine m_aload_n dX11_over_32 rfl ?_
          obtain ⟨r22, e, hF⟩ := hF
          refine m_get fg_X11_20 dX11_over_33 e ?_
          refine m_iload_n dX11_over_36 rfl ?_
          rcases hF with ⟨e, hF⟩ | ⟨r23, e, hF⟩
          · refine m_aald dX11_over_37 e ?_
            refine m_astoreN (ls2 := [some (.ref r_0), some (.int x_1), some (.int x_2), some (.int x_3), some (.ref r11), some (.null)]) dX11_over_38 (by decide) rfl ?_
            refine m_aload dX11_over_40 rfl ?_
            refine m_ifnull dX11_over_42 ?_
            refine m_aloadN dX11_over_45 rfl ?_
            refine m_ifnonnullN dX11_over_47 ?_
            refine m_aload_n dX11_over_50 rfl ?_
            refine m_iconst dX11_over_51 ki_1 ?_
            obtain ⟨fs27, e, hF⟩ := hF
            refine m_virtual (as := [.int 1]) (rest := []) cv_X11_65_10 e dX11_over_52 rfl rfl (Nat.le_of_ble_eq_true rfl) (Nat.le_of_eq (Nat.zero_add _)) (Nat.le_of_eq (Nat.zero_add _)) (b1 := (0, 0)) (b2 := b) (Ev.mono hF ?_)
            intro r24 h25 hF
            obtain ⟨x26, rfl, hF⟩ := hF
            exact m_ireturn dX11_over_55 trivial hF
          · refine m_aald dX11_over_37 e ?_
            refine m_astore (ls2 := [some (.ref r_0), some (.int x_1), some (.int x_2), some (.int x_3), some (.ref r11), some (.ref r23)]) dX11_over_38 (by decide) rfl ?_
            refine m_aload dX11_over_40 rfl ?_
            refine m_ifnull dX11_over_42 ?_
            refine m_aload dX11_over_45 rfl ?_
            refine m_ifnonnull 56 dX11_over_47 (by decide) ?_
            refine m_aload dX11_over_56 rfl ?_
            obtain ⟨r28, e, hF⟩ := hF
            refine m_get fg_X11_139 dX11_over_58 e ?_
            obtain ⟨n29, e, hF⟩ := hF
            refine m_alen dX11_over_61 e ?_
            refine m_aload dX11_over_62 rfl ?_
            obtain ⟨r30, e, hF⟩ := hF
            refine m_get fg_X11_139 dX11_over_64 e ?_
            obtain ⟨n31, e, hF⟩ := hF
            refine m_alen dX11_over_67 e ?_
            refine m_icmp_eq 74 dX11_over_68 (by decide) (fun c => ?_) (fun c => ?_)
            · replace hF := hF.1 c
              refine m_aload dX11_over_74 rfl ?_
              obtain ⟨x32, e, hF⟩ := hF
              refine m_get fg_X11_143 dX11_over_76 e ?_
              refine m_aload dX11_over_79 rfl ?_
              obtain ⟨x33, e, hF⟩ := hF
              refine m_get fg_X11_143 dX11_over_81 e ?_
              refine m_imul dX11_over_84 ?_
              refine m_bipush dX11_over_85 kb_12 ?_
              refine m_icmp_le 93 dX11_over_87 (by decide) (fun c => ?_) (fun c => ?_)
              · replace hF := hF.1 c
                refine m_aload_n dX11_over_93 rfl ?_
                refine m_iload_n dX11_over_94 rfl ?_
                refine m_aload dX11_over_95 rfl ?_
                refine m_aload dX11_over_97 rfl ?_
                obtain ⟨b37, g1, g2, hF⟩ := hF
                obtain ⟨c42, fs43, e, hc, hF⟩ := hF
                refine m_virtual (as := [.ref r23]) (rest := [.int x_1, .ref r_0]) (cw_X11_177 _ hc) e dX11_over_99 rfl rfl (Nat.le_of_ble_eq_true rfl) (Nat.le_of_eq (Nat.add_sub_cancel' g1)) (Nat.le_of_eq (Nat.add_sub_cancel' g2)) (b1 := b37) (b2 := (b.1 - b37.1, b.2 - b37.2)) (Ev.mono hF ?_)
                intro r34 h35 hF
                obtain ⟨q36, rfl, hF⟩ := hF
                obtain ⟨fs41, e, hF⟩ := hF
                refine m_virtual (as := [.int x_1, .ref q36]) (rest := []) cv_X11_125_10 e dX11_over_102 rfl rfl (Nat.le_of_ble_eq_true rfl) (Nat.le_of_eq (Nat.zero_add _)) (Nat.le_of_eq (Nat.zero_add _)) (b1 := (0, 0)) (b2 := (b.1 - b37.1, b.2 - b37.2)) (Ev.mono hF ?_)
                intro r38 h39 hF
                obtain ⟨x40, rfl, hF⟩ := hF
                exact m_ireturn dX11_over_105 trivial hF
              · replace hF := hF.2 c
                refine m_ldc dX11_over_90 kc_X11_176 ?_
                exact m_ireturn dX11_over_92 trivial hF
            · replace hF := hF.2 c
              refine m_ldc dX11_over_71 kc_X11_64 ?_
              exact m_ireturn dX11_over_73 trivial hF
      · replace hF := hF.2 c
        refine m_ldc dX11_over_21 kc_X11_64 ?_
        exact m_ireturn dX11_over_23 trivial hF
theorem en_X11_over {d : Nat} {b : Nat × Nat} {r_0 : Nat} {x_1 : Int32} {x_2 : Int32} {x_3 : Int32} {h : mH} {K : Option Value → mH → Prop} (hk : Wm (d + 1) b JX11_over 0 [some (.ref r_0), some (.int x_1), some (.int x_2), some (.int x_3), none, none] [] h (fun r h' => h'.1 0 = h.1 0 ∧ K r h')) : Ev (d + 1) b MX11_over [.ref r_0, .int x_1, .int x_2, .int x_3] h K :=
  m_met pn_X11 nl_X11 (fun _ => Nat.le_of_ble_eq_true rfl) hk
theorem bk_X11_clear_0 {d : Nat} (r_0 : Nat) (x_1 : Int32) {h : mH} {Q : Option Value → mH → Prop} (hF : Ev d (0, 0) MX11_noPlace [.int x_1] h (fun r1 h2 => ∃ x3 : Int32, r1 = some (.int x3) ∧ ((x3 = 0 → (∃ r4 : Nat, m_fld h2 r_0 [10] 1 = some (.ref r4) ∧ ((m_rl h2 r4 x_1 = some .null ∧ (∃ r6 : Nat, m_fld h2 r_0 [10] 1 = some (.ref r6) ∧ (∃ h7 : mH, m_rs h2 r6 x_1 (.null) = some h7 ∧ Q (some (.int 0)) h7))) ∨ (∃ r5 : Nat, m_rl h2 r4 x_1 = some (.ref r5) ∧ (∃ r8 : Nat, m_fld h2 r_0 [10] 1 = some (.ref r8) ∧ (∃ h9 : mH, m_rs h2 r8 x_1 (.null) = some h9 ∧ Q (some (.int 1)) h9)))))) ∧ (¬ (x3 = 0) → Q (some (.int (-1000001))) h2)))) : Wm (d + 1) (0, 0) JX11_clear 0 [some (.ref r_0), some (.int x_1), none] [] h Q := by
  refine m_iload_n dX11_clear_0 rfl ?_
  refine m_static (as := [.int x_1]) (rest := []) cs_X11_98 dX11_clear_1 rfl rfl (Nat.le_of_ble_eq_true rfl) (Nat.le_of_eq (Nat.zero_add _)) (Nat.le_of_eq (Nat.zero_add _)) (b1 := (0, 0)) (b2 := (0, 0)) (Ev.mono hF ?_)
  intro r1 h2 hF
  obtain ⟨x3, rfl, hF⟩ := hF
  refine m_if_eq 10 dX11_clear_4 (by decide) (fun c => ?_) (fun c => ?_)
  · replace hF := hF.1 c
    refine m_aload_n dX11_clear_10 rfl ?_
    obtain ⟨r4, e, hF⟩ := hF
    refine m_get fg_X11_20 dX11_clear_11 e ?_
    refine m_iload_n dX11_clear_14 rfl ?_
    rcases hF with ⟨e, hF⟩ | ⟨r5, e, hF⟩
    · refine m_aald dX11_clear_15 e ?_
      refine m_ifnonnullN dX11_clear_16 ?_
      refine m_iconst dX11_clear_19 ki_0 ?_
      refine m_goto 24 dX11_clear_20 (by decide) ?_
      refine m_istore_n (ls2 := [some (.ref r_0), some (.int x_1), some (.int 0)]) dX11_clear_24 (by decide) rfl ?_
      refine m_aload_n dX11_clear_25 rfl ?_
      obtain ⟨r6, e, hF⟩ := hF
      refine m_get fg_X11_20 dX11_clear_26 e ?_
      refine m_iload_n dX11_clear_29 rfl ?_
      refine m_null dX11_clear_30 ?_
      obtain ⟨h7, e, hF⟩ := hF
      refine m_aastN dX11_clear_31 e ?_
      refine m_iload_n dX11_clear_32 rfl ?_
      exact m_ireturn dX11_clear_33 trivial hF
    · refine m_aald dX11_clear_15 e ?_
      refine m_ifnonnull 23 dX11_clear_16 (by decide) ?_
      refine m_iconst dX11_clear_23 ki_1 ?_
      refine m_istore_n (ls2 := [some (.ref r_0), some (.int x_1), some (.int 1)]) dX11_clear_24 (by decide) rfl ?_
      refine m_aload_n dX11_clear_25 rfl ?_
      obtain ⟨r8, e, hF⟩ := hF
      refine m_get fg_X11_20 dX11_clear_26 e ?_
      refine m_iload_n dX11_clear_29 rfl ?_
      refine m_null dX11_clear_30 ?_
      obtain ⟨h9, e, hF⟩ := hF
      refine m_aastN dX11_clear_31 e ?_
      refine m_iload_n dX11_clear_32 rfl ?_
      exact m_ireturn dX11_clear_33 trivial hF
  · replace hF := hF.2 c
    refine m_ldc dX11_clear_7 kc_X11_64 ?_
    exact m_ireturn dX11_clear_9 trivial hF
theorem en_X11_clear {d : Nat} {r_0 : Nat} {x_1 : Int32} {h : mH} {K : Option Value → mH → Prop} (hk : Wm (d + 1) (0, 0) JX11_clear 0 [some (.ref r_0), some (.int x_1), none] [] h (fun r h' => h'.1 0 = h.1 0 ∧ K r h')) : Ev (d + 1) (0, 0) MX11_clear [.ref r_0, .int x_1] h K :=
  m_met pn_X11 nl_X11 (fun _ => Nat.le_of_ble_eq_true rfl) hk
theorem bk_X11_told_0 {d : Nat} (r_0 : Nat) (x_1 : Int32) (x_2 : Int32) {h : mH} {Q : Option Value → mH → Prop} (hF : Ev d (0, 0) MX11_noPlace [.int x_1] h (fun r1 h2 => ∃ x3 : Int32, r1 = some (.int x3) ∧ ((¬ x3 = 0 → Q (some (.int (-1000001))) h2) ∧ (x3 = 0 → ((x_2 < 0 → Q (some (.int (-1000001))) h2) ∧ (¬ (x_2 < 0) → ((x_2 ≤ 5 → (∃ r4 : Nat, m_fld h2 r_0 [10] 1 = some (.ref r4) ∧ ((m_rl h2 r4 x_1 = some .null ∧ (∃ fs9 : List Value, (h2).1 r_0 = .inr (10, fs9) ∧ Ev d (0, 0) MX11_found [.ref r_0, .int 1] h2 (fun r6 h7 => ∃ x8 : Int32, r6 = some (.int x8) ∧ Q (some (.int x8)) h7))) ∨ (∃ r5 : Nat, m_rl h2 r4 x_1 = some (.ref r5) ∧ ((x_2 = 3 → (∃ (c25 : Nat) (fs26 : List Value), (h2).1 r5 = .inr (c25, fs26) ∧ c25 ∈ [0, 1, 4, 8, 9] ∧ Ev d (0, 0) MX1_whole [.ref r5] h2 (fun r10 h11 => ∃ x12 : Int32, r10 = some (.int x12) ∧ ((¬ x12 = 0 → (∃ fs20 : List Value, (h11).1 r_0 = .inr (10, fs20) ∧ Ev d (0, 0) MX11_tellOf [.ref r_0, .ref r5, .int x_2] h11 (fun r13 h14 => ∃ x15 : Int32, r13 = some (.int x15) ∧ (∃ fs19 : List Value, (h14).1 r_0 = .inr (10, fs19) ∧ Ev d (0, 0) MX11_fine [.ref r_0, .int x15] h14 (fun r16 h17 => ∃ x18 : Int32, r16 = some (.int x18) ∧ Q (some (.int x18)) h17))))) ∧ (x12 = 0 → (∃ fs24 : List Value, (h11).1 r_0 = .inr (10, fs24) ∧ Ev d (0, 0) MX11_found [.ref r_0, .int 3] h11 (fun r21 h22 => ∃ x23 : Int32, r21 = some (.int x23) ∧ Q (some (.int x23)) h22))))))) ∧ (¬ (x_2 = 3) → ((¬ x_2 = 4 → (∃ fs34 : List Value, (h2).1 r_0 = .inr (10, fs34) ∧ Ev d (0, 0) MX11_tellOf [.ref r_0, .ref r5, .int x_2] h2 (fun r27 h28 => ∃ x29 : Int32, r27 = some (.int x29) ∧ (∃ fs33 : List Value, (h28).1 r_0 = .inr (10, fs33) ∧ Ev d (0, 0) MX11_fine [.ref r_0, .int x29] h28 (fun r30 h31 => ∃ x32 : Int32, r30 = some (.int x32) ∧ Q (some (.int x32)) h31))))) ∧ (x_2 = 4 → (∃ (c50 : Nat) (fs51 : List Value), (h2).1 r5 = .inr (c50, fs51) ∧ c50 ∈ [0, 1, 4, 8, 9] ∧ Ev d (0, 0) MX1_whole [.ref r5] h2 (fun r35 h36 => ∃ x37 : Int32, r35 = some (.int x37) ∧ ((¬ x37 = 0 → (∃ fs45 : List Value, (h36).1 r_0 = .inr (10, fs45) ∧ Ev d (0, 0) MX11_tellOf [.ref r_0, .ref r5, .int x_2] h36 (fun r38 h39 => ∃ x40 : Int32, r38 = some (.int x40) ∧ (∃ fs44 : List Value, (h39).1 r_0 = .inr (10, fs44) ∧ Ev d (0, 0) MX11_fine [.ref r_0, .int x40] h39 (fun r41 h42 => ∃ x43 : Int32, r41 = some (.int x43) ∧ Q (some (.int x43)) h42))))) ∧ (x37 = 0 → (∃ fs49 : List Value, (h36).1 r_0 = .inr (10, fs49) ∧ Ev d (0, 0) MX11_found [.ref r_0, .int 3] h36 (fun r46 h47 => ∃ x48 : Int32, r46 = some (.int x48) ∧ Q (some (.int x48)) h47)))))))))))))) ∧ (¬ (x_2 ≤ 5) → Q (some (.int (-1000001))) h2)))))))) : Wm (d + 1) (0, 0) JX11_told 0 [some (.ref r_0), some (.int x_1), some (.int x_2), none] [] h Q := by
  refine m_iload_n dX11_told_0 rfl ?_
  refine m_static (as := [.int x_1]) (rest := []) cs_X11_98 dX11_told_1 rfl rfl (Nat.le_of_ble_eq_true rfl) (Nat.le_of_eq (Nat.zero_add _)) (Nat.le_of_eq (Nat.zero_add _)) (b1 := (0, 0)) (b2 := (0, 0)) (Ev.mono hF ?_)
  intro r1 h2 hF
  obtain ⟨x3, rfl, hF⟩ := hF
  refine m_if_ne 16 dX11_told_4 (by decide) (fun c => ?_) (fun c => ?_)
  · replace hF := hF.1 c
    refine m_ldc dX11_told_16 kc_X11_64 ?_
    exact m_ireturn dX11_told_18 trivial hF
  · replace hF := hF.2 c
    refine m_iload_n dX11_told_7 rfl ?_
    refine m_if_lt 16 dX11_told_8 (by decide) (fun c => ?_) (fun c => ?_)
    · replace hF := hF.1 c
      refine m_ldc dX11_told_16 kc_X11_64 ?_
      exact m_ireturn dX11_told_18 trivial hF
    · replace hF := hF.2 c
      refine m_iload_n dX11_told_11 rfl ?_
      refine m_iconst dX11_told_12 ki_5 ?_
      refine m_icmp_le 19 dX11_told_13 (by decide) (fun c => ?_) (fun c => ?_)
      · replace hF := hF.1 c
        refine m_aload_n dX11_told_19 rfl ?_
        obtain ⟨r4, e, hF⟩ := hF
        refine m_get fg_X11_20 dX11_told_20 e ?_
        refine m_iload_n dX11_told_23 rfl ?_
        rcases hF with ⟨e, hF⟩ | ⟨r5, e, hF⟩
        · refine m_aald dX11_told_24 e ?_
          refine m_astore_nN (ls2 := [some (.ref r_0), some (.int x_1), some (.int x_2), some (.null)]) dX11_told_25 (by decide) rfl ?_
          refine m_aload_nN dX11_told_26 rfl ?_
          refine m_ifnonnullN dX11_told_27 ?_
          refine m_aload_n dX11_told_30 rfl ?_
          refine m_iconst dX11_told_31 ki_1 ?_
          obtain ⟨fs9, e, hF⟩ := hF
          refine m_virtual (as := [.int 1]) (rest := []) cv_X11_65_10 e dX11_told_32 rfl rfl (Nat.le_of_ble_eq_true rfl) (Nat.le_of_eq (Nat.zero_add _)) (Nat.le_of_eq (Nat.zero_add _)) (b1 := (0, 0)) (b2 := (0, 0)) (Ev.mono hF ?_)
          intro r6 h7 hF
          obtain ⟨x8, rfl, hF⟩ := hF
          exact m_ireturn dX11_told_35 trivial hF
        · refine m_aald dX11_told_24 e ?_
          refine m_astore_n (ls2 := [some (.ref r_0), some (.int x_1), some (.int x_2), some (.ref r5)]) dX11_told_25 (by decide) rfl ?_
          refine m_aload_n dX11_told_26 rfl ?_
          refine m_ifnonnull 36 dX11_told_27 (by decide) ?_
          refine m_iload_n dX11_told_36 rfl ?_
          refine m_iconst dX11_told_37 ki_3 ?_
          refine m_icmp_eq 46 dX11_told_38 (by decide) (fun c => ?_) (fun c => ?_)
          · replace hF := hF.1 c
            refine m_aload_n dX11_told_46 rfl ?_
            obtain ⟨c25, fs26, e, hc, hF⟩ := hF
            refine m_virtual (as := []) (rest := []) (cw_X11_136 _ hc) e dX11_told_47 rfl rfl (Nat.le_of_ble_eq_true rfl) (Nat.le_of_eq (Nat.zero_add _)) (Nat.le_of_eq (Nat.zero_add _)) (b1 := (0, 0)) (b2 := (0, 0)) (Ev.mono hF ?_)
            intro r10 h11 hF
            obtain ⟨x12, rfl, hF⟩ := hF
            refine m_if_ne 59 dX11_told_50 (by decide) (fun c => ?_) (fun c => ?_)
            · replace hF := hF.1 c
              refine m_aload_n dX11_told_59 rfl ?_
              refine m_aload_n dX11_told_60 rfl ?_
              refine m_aload_n dX11_told_61 rfl ?_
              refine m_iload_n dX11_told_62 rfl ?_
              obtain ⟨fs20, e, hF⟩ := hF
              refine m_virtual (as := [.ref r5, .int x_2]) (rest := [.ref r_0]) cv_X11_181_10 e dX11_told_63 rfl rfl (Nat.le_of_ble_eq_true rfl) (Nat.le_of_eq (Nat.zero_add _)) (Nat.le_of_eq (Nat.zero_add _)) (b1 := (0, 0)) (b2 := (0, 0)) (Ev.mono hF ?_)
              intro r13 h14 hF
              obtain ⟨x15, rfl, hF⟩ := hF
              obtain ⟨fs19, e, hF⟩ := hF
              refine m_virtual (as := [.int x15]) (rest := []) cv_X11_69_10 e dX11_told_66 rfl rfl (Nat.le_of_ble_eq_true rfl) (Nat.le_of_eq (Nat.zero_add _)) (Nat.le_of_eq (Nat.zero_add _)) (b1 := (0, 0)) (b2 := (0, 0)) (Ev.mono hF ?_)
              intro r16 h17 hF
              obtain ⟨x18, rfl, hF⟩ := hF
              exact m_ireturn dX11_told_69 trivial hF
            · replace hF := hF.2 c
              refine m_aload_n dX11_told_53 rfl ?_
              refine m_iconst dX11_told_54 ki_3 ?_
              obtain ⟨fs24, e, hF⟩ := hF
              refine m_virtual (as := [.int 3]) (rest := []) cv_X11_65_10 e dX11_told_55 rfl rfl (Nat.le_of_ble_eq_true rfl) (Nat.le_of_eq (Nat.zero_add _)) (Nat.le_of_eq (Nat.zero_add _)) (b1 := (0, 0)) (b2 := (0, 0)) (Ev.mono hF ?_)
              intro r21 h22 hF
              obtain ⟨x23, rfl, hF⟩ := hF
              exact m_ireturn dX11_told_58 trivial hF
          · replace hF := hF.2 c
            refine m_iload_n dX11_told_41 rfl ?_
            refine m_iconst dX11_told_42 ki_4 ?_
            refine m_icmp_ne 59 dX11_told_43 (by decide) (fun c => ?_) (fun c => ?_)
            · replace hF := hF.1 c
              refine m_aload_n dX11_told_59 rfl ?_
              refine m_aload_n dX11_told_60 rfl ?_
              refine m_aload_n dX11_told_61 rfl ?_
              refine m_iload_n dX11_told_62 rfl ?_
              obtain ⟨fs34, e, hF⟩ := hF
              refine m_virtual (as := [.ref r5, .int x_2]) (rest := [.ref r_0]) cv_X11_181_10 e dX11_told_63 rfl rfl (Nat.le_of_ble_eq_true rfl) (Nat.le_of_eq (Nat.zero_add _)) (Nat.le_of_eq (Nat.zero_add _)) (b1 := (0, 0)) (b2 := (0, 0)) (Ev.mono hF ?_)
              intro r27 h28 hF
              obtain ⟨x29, rfl, hF⟩ := hF
              obtain ⟨fs33, e, hF⟩ := hF
              refine m_virtual (as := [.int x29]) (rest := []) cv_X11_69_10 e dX11_told_66 rfl rfl (Nat.le_of_ble_eq_true rfl) (Nat.le_of_eq (Nat.zero_add _)) (Nat.le_of_eq (Nat.zero_add _)) (b1 := (0, 0)) (b2 := (0, 0)) (Ev.mono hF ?_)
              intro r30 h31 hF
              obtain ⟨x32, rfl, hF⟩ := hF
              exact m_ireturn dX11_told_69 trivial hF
            · replace hF := hF.2 c
              refine m_aload_n dX11_told_46 rfl ?_
              obtain ⟨c50, fs51, e, hc, hF⟩ := hF
              refine m_virtual (as := []) (rest := []) (cw_X11_136 _ hc) e dX11_told_47 rfl rfl (Nat.le_of_ble_eq_true rfl) (Nat.le_of_eq (Nat.zero_add _)) (Nat.le_of_eq (Nat.zero_add _)) (b1 := (0, 0)) (b2 := (0, 0)) (Ev.mono hF ?_)
              intro r35 h36 hF
              obtain ⟨x37, rfl, hF⟩ := hF
              refine m_if_ne 59 dX11_told_50 (by decide) (fun c => ?_) (fun c => ?_)
              · replace hF := hF.1 c
                refine m_aload_n dX11_told_59 rfl ?_
                refine m_aload_n dX11_told_60 rfl ?_
                refine m_aload_n dX11_told_61 rfl ?_
                refine m_iload_n dX11_told_62 rfl ?_
                obtain ⟨fs45, e, hF⟩ := hF
                refine m_virtual (as := [.ref r5, .int x_2]) (rest := [.ref r_0]) cv_X11_181_10 e dX11_told_63 rfl rfl (Nat.le_of_ble_eq_true rfl) (Nat.le_of_eq (Nat.zero_add _)) (Nat.le_of_eq (Nat.zero_add _)) (b1 := (0, 0)) (b2 := (0, 0)) (Ev.mono hF ?_)
                intro r38 h39 hF
                obtain ⟨x40, rfl, hF⟩ := hF
                obtain ⟨fs44, e, hF⟩ := hF
                refine m_virtual (as := [.int x40]) (rest := []) cv_X11_69_10 e dX11_told_66 rfl rfl (Nat.le_of_ble_eq_true rfl) (Nat.le_of_eq (Nat.zero_add _)) (Nat.le_of_eq (Nat.zero_add _)) (b1 := (0, 0)) (b2 := (0, 0)) (Ev.mono hF ?_)
                intro r41 h42 hF
                obtain ⟨x43, rfl, hF⟩ := hF
                exact m_ireturn dX11_told_69 trivial hF
              · replace hF := hF.2 c
                refine m_aload_n dX11_told_53 rfl ?_
                refine m_iconst dX11_told_54 ki_3 ?_
                obtain ⟨fs49, e, hF⟩ := hF
                refine m_virtual (as := [.int 3]) (rest := []) cv_X11_65_10 e dX11_told_55 rfl rfl (Nat.le_of_ble_eq_true rfl) (Nat.le_of_eq (Nat.zero_add _)) (Nat.le_of_eq (Nat.zero_add _)) (b1 := (0, 0)) (b2 := (0, 0)) (Ev.mono hF ?_)
                intro r46 h47 hF
                obtain ⟨x48, rfl, hF⟩ := hF
                exact m_ireturn dX11_told_58 trivial hF
      · replace hF := hF.2 c
        refine m_ldc dX11_told_16 kc_X11_64 ?_
        exact m_ireturn dX11_told_18 trivial hF
theorem en_X11_told {d : Nat} {r_0 : Nat} {x_1 : Int32} {x_2 : Int32} {h : mH} {K : Option Value → mH → Prop} (hk : Wm (d + 1) (0, 0) JX11_told 0 [some (.ref r_0), some (.int x_1), some (.int x_2), none] [] h (fun r h' => h'.1 0 = h.1 0 ∧ K r h')) : Ev (d + 1) (0, 0) MX11_told [.ref r_0, .int x_1, .int x_2] h K :=
  m_met pn_X11 nl_X11 (fun _ => Nat.le_of_ble_eq_true rfl) hk
theorem bk_X11_leads_0 {d : Nat} (r_0 : Nat) (x_1 : Int32) (x_2 : Int32) (x_3 : Int32) {h : mH} {Q : Option Value → mH → Prop} (hF : Ev d (0, 0) MX11_noPlace [.int x_1] h (fun r1 h2 => ∃ x3 : Int32, r1 = some (.int x3) ∧ ((x3 = 0 → (∃ r4 : Nat, m_fld h2 r_0 [10] 1 = some (.ref r4) ∧ ((m_rl h2 r4 x_1 = some .null ∧ (∃ fs9 : List Value, (h2).1 r_0 = .inr (10, fs9) ∧ Ev d (0, 0) MX11_found [.ref r_0, .int 1] h2 (fun r6 h7 => ∃ x8 : Int32, r6 = some (.int x8) ∧ Q (some (.int x8)) h7))) ∨ (∃ r5 : Nat, m_rl h2 r4 x_1 = some (.ref r5) ∧ (∃ (c30 : Nat) (fs31 : List Value), (h2).1 r5 = .inr (c30, fs31) ∧ c30 ∈ [0, 1, 4, 8, 9] ∧ Ev d (0, 0) MX1_noTurn [.ref r5, .int x_2] h2 (fun r10 h11 => ∃ x12 : Int32, r10 = some (.int x12) ∧ ((¬ x12 = 0 → Q (some (.int (-1000001))) h11) ∧ (x12 = 0 → (∃ (c28 : Nat) (fs29 : List Value), (h11).1 r5 = .inr (c28, fs29) ∧ c28 ∈ [0, 1, 4, 8, 9] ∧ Ev d (0, 0) MX1_noSheet [.ref r5, .int x_3] h11 (fun r13 h14 => ∃ x15 : Int32, r13 = some (.int x15) ∧ ((x15 = 0 → (∃ (c26 : Nat) (fs27 : List Value), (h14).1 r5 = .inr (c26, fs27) ∧ c26 ∈ [0, 1, 4, 8, 9] ∧ Ev d (0, 0) MX1_turnAt [.ref r5, .int x_2] h14 (fun r16 h17 => ∃ y18 : Int64, r16 = some (.long y18) ∧ Ev d (0, 0) MX5_at [.long y18, .int x_3] h17 (fun r19 h20 => ∃ x21 : Int32, r19 = some (.int x21) ∧ (∃ fs25 : List Value, (h20).1 r_0 = .inr (10, fs25) ∧ Ev d (0, 0) MX11_fine [.ref r_0, .int x21] h20 (fun r22 h23 => ∃ x24 : Int32, r22 = some (.int x24) ∧ Q (some (.int x24)) h23)))))) ∧ (¬ (x15 = 0) → Q (some (.int (-1000001))) h14)))))))))))) ∧ (¬ (x3 = 0) → Q (some (.int (-1000001))) h2)))) : Wm (d + 1) (0, 0) JX11_leads 0 [some (.ref r_0), some (.int x_1), some (.int x_2), some (.int x_3), none] [] h Q := by
  refine m_iload_n dX11_leads_0 rfl ?_
  refine m_static (as := [.int x_1]) (rest := []) cs_X11_98 dX11_leads_1 rfl rfl (Nat.le_of_ble_eq_true rfl) (Nat.le_of_eq (Nat.zero_add _)) (Nat.le_of_eq (Nat.zero_add _)) (b1 := (0, 0)) (b2 := (0, 0)) (Ev.mono hF ?_)
  intro r1 h2 hF
  obtain ⟨x3, rfl, hF⟩ := hF
  refine m_if_eq 10 dX11_leads_4 (by decide) (fun c => ?_) (fun c => ?_)
  · replace hF := hF.1 c
    refine m_aload_n dX11_leads_10 rfl ?_
    obtain ⟨r4, e, hF⟩ := hF
    refine m_get fg_X11_20 dX11_leads_11 e ?_
    refine m_iload_n dX11_leads_14 rfl ?_
    rcases hF with ⟨e, hF⟩ | ⟨r5, e, hF⟩
    · refine m_aald dX11_leads_15 e ?_
      refine m_astoreN (ls2 := [some (.ref r_0), some (.int x_1), some (.int x_2), some (.int x_3), some (.null)]) dX11_leads_16 (by decide) rfl ?_
      refine m_aloadN dX11_leads_18 rfl ?_
      refine m_ifnonnullN dX11_leads_20 ?_
      refine m_aload_n dX11_leads_23 rfl ?_
      refine m_iconst dX11_leads_24 ki_1 ?_
      obtain ⟨fs9, e, hF⟩ := hF
      refine m_virtual (as := [.int 1]) (rest := []) cv_X11_65_10 e dX11_leads_25 rfl rfl (Nat.le_of_ble_eq_true rfl) (Nat.le_of_eq (Nat.zero_add _)) (Nat.le_of_eq (Nat.zero_add _)) (b1 := (0, 0)) (b2 := (0, 0)) (Ev.mono hF ?_)
      intro r6 h7 hF
      obtain ⟨x8, rfl, hF⟩ := hF
      exact m_ireturn dX11_leads_28 trivial hF
    · refine m_aald dX11_leads_15 e ?_
      refine m_astore (ls2 := [some (.ref r_0), some (.int x_1), some (.int x_2), some (.int x_3), some (.ref r5)]) dX11_leads_16 (by decide) rfl ?_
      refine m_aload dX11_leads_18 rfl ?_
      refine m_ifnonnull 29 dX11_leads_20 (by decide) ?_
      refine m_aload dX11_leads_29 rfl ?_
      refine m_iload_n dX11_leads_31 rfl ?_
      obtain ⟨c30, fs31, e, hc, hF⟩ := hF
      refine m_virtual (as := [.int x_2]) (rest := []) (cw_X11_185 _ hc) e dX11_leads_32 rfl rfl (Nat.le_of_ble_eq_true rfl) (Nat.le_of_eq (Nat.zero_add _)) (Nat.le_of_eq (Nat.zero_add _)) (b1 := (0, 0)) (b2 := (0, 0)) (Ev.mono hF ?_)
      intro r10 h11 hF
      obtain ⟨x12, rfl, hF⟩ := hF
      refine m_if_ne 47 dX11_leads_35 (by decide) (fun c => ?_) (fun c => ?_)
      · replace hF := hF.1 c
        refine m_ldc dX11_leads_47 kc_X11_64 ?_
        exact m_ireturn dX11_leads_49 trivial hF
      · replace hF := hF.2 c
        refine m_aload dX11_leads_38 rfl ?_
        refine m_iload_n dX11_leads_40 rfl ?_
        obtain ⟨c28, fs29, e, hc, hF⟩ := hF
        refine m_virtual (as := [.int x_3]) (rest := []) (cw_X11_159 _ hc) e dX11_leads_41 rfl rfl (Nat.le_of_ble_eq_true rfl) (Nat.le_of_eq (Nat.zero_add _)) (Nat.le_of_eq (Nat.zero_add _)) (b1 := (0, 0)) (b2 := (0, 0)) (Ev.mono hF ?_)
        intro r13 h14 hF
        obtain ⟨x15, rfl, hF⟩ := hF
        refine m_if_eq 50 dX11_leads_44 (by decide) (fun c => ?_) (fun c => ?_)
        · replace hF := hF.1 c
          refine m_aload_n dX11_leads_50 rfl ?_
          refine m_aload dX11_leads_51 rfl ?_
          refine m_iload_n dX11_leads_53 rfl ?_
          obtain ⟨c26, fs27, e, hc, hF⟩ := hF
          refine m_virtual (as := [.int x_2]) (rest := [.ref r_0]) (cw_X11_188 _ hc) e dX11_leads_54 rfl rfl (Nat.le_of_ble_eq_true rfl) (Nat.le_of_eq (Nat.zero_add _)) (Nat.le_of_eq (Nat.zero_add _)) (b1 := (0, 0)) (b2 := (0, 0)) (Ev.mono hF ?_)
          intro r16 h17 hF
          obtain ⟨y18, rfl, hF⟩ := hF
          refine m_iload_n dX11_leads_57 rfl ?_
          refine m_static (as := [.long y18, .int x_3]) (rest := [.ref r_0]) cs_X11_191 dX11_leads_58 rfl rfl (Nat.le_of_ble_eq_true rfl) (Nat.le_of_eq (Nat.zero_add _)) (Nat.le_of_eq (Nat.zero_add _)) (b1 := (0, 0)) (b2 := (0, 0)) (Ev.mono hF ?_)
          intro r19 h20 hF
          obtain ⟨x21, rfl, hF⟩ := hF
          obtain ⟨fs25, e, hF⟩ := hF
          refine m_virtual (as := [.int x21]) (rest := []) cv_X11_69_10 e dX11_leads_61 rfl rfl (Nat.le_of_ble_eq_true rfl) (Nat.le_of_eq (Nat.zero_add _)) (Nat.le_of_eq (Nat.zero_add _)) (b1 := (0, 0)) (b2 := (0, 0)) (Ev.mono hF ?_)
          intro r22 h23 hF
          obtain ⟨x24, rfl, hF⟩ := hF
          exact m_ireturn dX11_leads_64 trivial hF
        · replace hF := hF.2 c
          refine m_ldc dX11_leads_47 kc_X11_64 ?_
          exact m_ireturn dX11_leads_49 trivial hF
  · replace hF := hF.2 c
    refine m_ldc dX11_leads_7 kc_X11_64 ?_
    exact m_ireturn dX11_leads_9 trivial hF
theorem en_X11_leads {d : Nat} {r_0 : Nat} {x_1 : Int32} {x_2 : Int32} {x_3 : Int32} {h : mH} {K : Option Value → mH → Prop} (hk : Wm (d + 1) (0, 0) JX11_leads 0 [some (.ref r_0), some (.int x_1), some (.int x_2), some (.int x_3), none] [] h (fun r h' => h'.1 0 = h.1 0 ∧ K r h')) : Ev (d + 1) (0, 0) MX11_leads [.ref r_0, .int x_1, .int x_2, .int x_3] h K :=
  m_met pn_X11 nl_X11 (fun _ => Nat.le_of_ble_eq_true rfl) hk
theorem bk_X11_shape_0 {d : Nat} (r_0 : Nat) (x_1 : Int32) (x_2 : Int32) (x_3 : Int32) {h : mH} {Q : Option Value → mH → Prop} (hF : Ev d (0, 0) MX11_noPlace [.int x_1] h (fun r1 h2 => ∃ x3 : Int32, r1 = some (.int x3) ∧ ((x3 = 0 → (∃ r4 : Nat, m_fld h2 r_0 [10] 1 = some (.ref r4) ∧ ((m_rl h2 r4 x_1 = some .null ∧ (∃ fs9 : List Value, (h2).1 r_0 = .inr (10, fs9) ∧ Ev d (0, 0) MX11_found [.ref r_0, .int 1] h2 (fun r6 h7 => ∃ x8 : Int32, r6 = some (.int x8) ∧ Q (some (.int x8)) h7))) ∨ (∃ r5 : Nat, m_rl h2 r4 x_1 = some (.ref r5) ∧ (∃ (c29 : Nat) (fs30 : List Value), (h2).1 r5 = .inr (c29, fs30) ∧ c29 ∈ [0, 1, 4, 8, 9] ∧ Ev d (0, 0) MX1_noTurn [.ref r5, .int x_2] h2 (fun r10 h11 => ∃ x12 : Int32, r10 = some (.int x12) ∧ ((x12 = 0 → (∃ (c27 : Nat) (fs28 : List Value), (h11).1 r5 = .inr (c27, fs28) ∧ c27 ∈ [0, 1, 4, 8, 9] ∧ Ev d (0, 0) MX1_turnAt [.ref r5, .int x_2] h11 (fun r13 h14 => ∃ y15 : Int64, r13 = some (.long y15) ∧ (∃ x16 : Int32, m_fld h14 r5 [0, 1, 4, 8, 9] 0 = some (.int x16) ∧ Ev d (0, 0) MX8_lengthsOf [.long y15, .int x16] h14 (fun r17 h18 => ∃ y19 : Int64, r17 = some (.long y19) ∧ Ev d (0, 0) MX8_lengthAt [.long y19, .int x_3] h18 (fun r20 h21 => ∃ x22 : Int32, r20 = some (.int x22) ∧ (∃ fs26 : List Value, (h21).1 r_0 = .inr (10, fs26) ∧ Ev d (0, 0) MX11_fine [.ref r_0, .int x22] h21 (fun r23 h24 => ∃ x25 : Int32, r23 = some (.int x25) ∧ Q (some (.int x25)) h24)))))))) ∧ (¬ (x12 = 0) → Q (some (.int (-1000001))) h11)))))))) ∧ (¬ (x3 = 0) → Q (some (.int (-1000001))) h2)))) : Wm (d + 1) (0, 0) JX11_shape 0 [some (.ref r_0), some (.int x_1), some (.int x_2), some (.int x_3), none] [] h Q := by
  refine m_iload_n dX11_shape_0 rfl ?_
  refine m_static (as := [.int x_1]) (rest := []) cs_X11_98 dX11_shape_1 rfl rfl (Nat.le_of_ble_eq_true rfl) (Nat.le_of_eq (Nat.zero_add _)) (Nat.le_of_eq (Nat.zero_add _)) (b1 := (0, 0)) (b2 := (0, 0)) (Ev.mono hF ?_)
  intro r1 h2 hF
  obtain ⟨x3, rfl, hF⟩ := hF
  refine m_if_eq 10 dX11_shape_4 (by decide) (fun c => ?_) (fun c => ?_)
  · replace hF := hF.1 c
    refine m_aload_n dX11_shape_10 rfl ?_
    obtain ⟨r4, e, hF⟩ := hF
    refine m_get fg_X11_20 dX11_shape_11 e ?_
    refine m_iload_n dX11_shape_14 rfl ?_
    rcases hF with ⟨e, hF⟩ | ⟨r5, e, hF⟩
    · refine m_aald dX11_shape_15 e ?_
      refine m_astoreN (ls2 := [some (.ref r_0), some (.int x_1), some (.int x_2), some (.int x_3), some (.null)]) dX11_shape_16 (by decide) rfl ?_
      refine m_aloadN dX11_shape_18 rfl ?_
      refine m_ifnonnullN dX11_shape_20 ?_
      refine m_aload_n dX11_shape_23 rfl ?_
      refine m_iconst dX11_shape_24 ki_1 ?_
      obtain ⟨fs9, e, hF⟩ := hF
      refine m_virtual (as := [.int 1]) (rest := []) cv_X11_65_10 e dX11_shape_25 rfl rfl (Nat.le_of_ble_eq_true rfl) (Nat.le_of_eq (Nat.zero_add _)) (Nat.le_of_eq (Nat.zero_add _)) (b1 := (0, 0)) (b2 := (0, 0)) (Ev.mono hF ?_)
      intro r6 h7 hF
      obtain ⟨x8, rfl, hF⟩ := hF
      exact m_ireturn dX11_shape_28 trivial hF
    · refine m_aald dX11_shape_15 e ?_
      refine m_astore (ls2 := [some (.ref r_0), some (.int x_1), some (.int x_2), some (.int x_3), some (.ref r5)]) dX11_shape_16 (by decide) rfl ?_
      refine m_aload dX11_shape_18 rfl ?_
      refine m_ifnonnull 29 dX11_shape_20 (by decide) ?_
      refine m_aload dX11_shape_29 rfl ?_
      refine m_iload_n dX11_shape_31 rfl ?_
      obtain ⟨c29, fs30, e, hc, hF⟩ := hF
      refine m_virtual (as := [.int x_2]) (rest := []) (cw_X11_185 _ hc) e dX11_shape_32 rfl rfl (Nat.le_of_ble_eq_true rfl) (Nat.le_of_eq (Nat.zero_add _)) (Nat.le_of_eq (Nat.zero_add _)) (b1 := (0, 0)) (b2 := (0, 0)) (Ev.mono hF ?_)
      intro r10 h11 hF
      obtain ⟨x12, rfl, hF⟩ := hF
      refine m_if_eq 41 dX11_shape_35 (by decide) (fun c => ?_) (fun c => ?_)
      · replace hF := hF.1 c
        refine m_aload_n dX11_shape_41 rfl ?_
        refine m_aload dX11_shape_42 rfl ?_
        refine m_iload_n dX11_shape_44 rfl ?_
        obtain ⟨c27, fs28, e, hc, hF⟩ := hF
        refine m_virtual (as := [.int x_2]) (rest := [.ref r_0]) (cw_X11_188 _ hc) e dX11_shape_45 rfl rfl (Nat.le_of_ble_eq_true rfl) (Nat.le_of_eq (Nat.zero_add _)) (Nat.le_of_eq (Nat.zero_add _)) (b1 := (0, 0)) (b2 := (0, 0)) (Ev.mono hF ?_)
        intro r13 h14 hF
        obtain ⟨y15, rfl, hF⟩ := hF
        refine m_aload dX11_shape_48 rfl ?_
        obtain ⟨x16, e, hF⟩ := hF
        refine m_get fg_X11_143 dX11_shape_50 e ?_
        refine m_static (as := [.long y15, .int x16]) (rest := [.ref r_0]) cs_X11_195 dX11_shape_53 rfl rfl (Nat.le_of_ble_eq_true rfl) (Nat.le_of_eq (Nat.zero_add _)) (Nat.le_of_eq (Nat.zero_add _)) (b1 := (0, 0)) (b2 := (0, 0)) (Ev.mono hF ?_)
        intro r17 h18 hF
        obtain ⟨y19, rfl, hF⟩ := hF
        refine m_iload_n dX11_shape_56 rfl ?_
        refine m_static (as := [.long y19, .int x_3]) (rest := [.ref r_0]) cs_X11_198 dX11_shape_57 rfl rfl (Nat.le_of_ble_eq_true rfl) (Nat.le_of_eq (Nat.zero_add _)) (Nat.le_of_eq (Nat.zero_add _)) (b1 := (0, 0)) (b2 := (0, 0)) (Ev.mono hF ?_)
        intro r20 h21 hF
        obtain ⟨x22, rfl, hF⟩ := hF
        obtain ⟨fs26, e, hF⟩ := hF
        refine m_virtual (as := [.int x22]) (rest := []) cv_X11_69_10 e dX11_shape_60 rfl rfl (Nat.le_of_ble_eq_true rfl) (Nat.le_of_eq (Nat.zero_add _)) (Nat.le_of_eq (Nat.zero_add _)) (b1 := (0, 0)) (b2 := (0, 0)) (Ev.mono hF ?_)
        intro r23 h24 hF
        obtain ⟨x25, rfl, hF⟩ := hF
        exact m_ireturn dX11_shape_63 trivial hF
      · replace hF := hF.2 c
        refine m_ldc dX11_shape_38 kc_X11_64 ?_
        exact m_ireturn dX11_shape_40 trivial hF
  · replace hF := hF.2 c
    refine m_ldc dX11_shape_7 kc_X11_64 ?_
    exact m_ireturn dX11_shape_9 trivial hF
theorem en_X11_shape {d : Nat} {r_0 : Nat} {x_1 : Int32} {x_2 : Int32} {x_3 : Int32} {h : mH} {K : Option Value → mH → Prop} (hk : Wm (d + 1) (0, 0) JX11_shape 0 [some (.ref r_0), some (.int x_1), some (.int x_2), some (.int x_3), none] [] h (fun r h' => h'.1 0 = h.1 0 ∧ K r h')) : Ev (d + 1) (0, 0) MX11_shape [.ref r_0, .int x_1, .int x_2, .int x_3] h K :=
  m_met pn_X11 nl_X11 (fun _ => Nat.le_of_ble_eq_true rfl) hk
theorem bk_X11_block_0 {d : Nat} (r_0 : Nat) (x_1 : Int32) (x_2 : Int32) (x_3 : Int32) (x_4 : Int32) {h : mH} {Q : Option Value → mH → Prop} (hF : Ev d (0, 0) MX11_noPlace [.int x_1] h (fun r1 h2 => ∃ x3 : Int32, r1 = some (.int x3) ∧ ((x3 = 0 → (∃ r4 : Nat, m_fld h2 r_0 [10] 1 = some (.ref r4) ∧ ((m_rl h2 r4 x_1 = some .null ∧ (∃ fs9 : List Value, (h2).1 r_0 = .inr (10, fs9) ∧ Ev d (0, 0) MX11_found [.ref r_0, .int 1] h2 (fun r6 h7 => ∃ x8 : Int32, r6 = some (.int x8) ∧ Q (some (.int x8)) h7))) ∨ (∃ r5 : Nat, m_rl h2 r4 x_1 = some (.ref r5) ∧ (∃ (c78 : Nat) (fs79 : List Value), (h2).1 r5 = .inr (c78, fs79) ∧ c78 ∈ [0, 1, 4, 8, 9] ∧ Ev d (0, 0) MX1_whole [.ref r5] h2 (fun r10 h11 => ∃ x12 : Int32, r10 = some (.int x12) ∧ ((¬ x12 = 0 → (∃ (c72 : Nat) (fs73 : List Value), (h11).1 r5 = .inr (c72, fs73) ∧ c72 ∈ [0, 1, 4, 8, 9] ∧ Ev d (0, 0) MX1_noSheet [.ref r5, .int x_2] h11 (fun r13 h14 => ∃ x15 : Int32, r13 = some (.int x15) ∧ ((¬ x15 = 0 → Q (some (.int (-1000001))) h14) ∧ (x15 = 0 → (∃ (c70 : Nat) (fs71 : List Value), (h14).1 r5 = .inr (c70, fs71) ∧ c70 ∈ [0, 1, 4, 8, 9] ∧ Ev d (0, 0) MX1_noSheet [.ref r5, .int x_3] h14 (fun r16 h17 => ∃ x18 : Int32, r16 = some (.int x18) ∧ ((¬ x18 = 0 → Q (some (.int (-1000001))) h17) ∧ (x18 = 0 → ((x_4 = (-1) → (∃ (c40 : Nat) (fs41 : List Value), (h17).1 r5 = .inr (c40, fs41) ∧ c40 ∈ [0, 1, 4, 8, 9] ∧ Ev d (0, 0) MX1_blockLabels [.ref r5, .int x_2, .int x_3] h17 (fun r19 h20 => ∃ y21 : Int64, r19 = some (.long y21) ∧ ((¬ x_4 = (-1) → Ev d (0, 0) MX5_at [.long y21, .int x_4] h20 (fun r22 h23 => ∃ x24 : Int32, r22 = some (.int x24) ∧ Ev d (0, 0) MX5_groups [.long y21, .int x24] h23 (fun r25 h26 => ∃ x27 : Int32, r25 = some (.int x27) ∧ (∃ fs31 : List Value, (h26).1 r_0 = .inr (10, fs31) ∧ Ev d (0, 0) MX11_fine [.ref r_0, .int x27] h26 (fun r28 h29 => ∃ x30 : Int32, r28 = some (.int x30) ∧ Q (some (.int x30)) h29))))) ∧ (x_4 = (-1) → (∃ x32 : Int32, m_fld h20 r5 [0, 1, 4, 8, 9] 0 = some (.int x32) ∧ Ev d (0, 0) MX5_groups [.long y21, .int x32] h20 (fun r33 h34 => ∃ x35 : Int32, r33 = some (.int x35) ∧ (∃ fs39 : List Value, (h34).1 r_0 = .inr (10, fs39) ∧ Ev d (0, 0) MX11_fine [.ref r_0, .int x35] h34 (fun r36 h37 => ∃ x38 : Int32, r36 = some (.int x38) ∧ Q (some (.int x38)) h37))))))))) ∧ (¬ (x_4 = (-1)) → (∃ (c68 : Nat) (fs69 : List Value), (h17).1 r5 = .inr (c68, fs69) ∧ c68 ∈ [0, 1, 4, 8, 9] ∧ Ev d (0, 0) MX1_noSheet [.ref r5, .int x_4] h17 (fun r42 h43 => ∃ x44 : Int32, r42 = some (.int x44) ∧ ((x44 = 0 → (∃ (c66 : Nat) (fs67 : List Value), (h43).1 r5 = .inr (c66, fs67) ∧ c66 ∈ [0, 1, 4, 8, 9] ∧ Ev d (0, 0) MX1_blockLabels [.ref r5, .int x_2, .int x_3] h43 (fun r45 h46 => ∃ y47 : Int64, r45 = some (.long y47) ∧ ((¬ x_4 = (-1) → Ev d (0, 0) MX5_at [.long y47, .int x_4] h46 (fun r48 h49 => ∃ x50 : Int32, r48 = some (.int x50) ∧ Ev d (0, 0) MX5_groups [.long y47, .int x50] h49 (fun r51 h52 => ∃ x53 : Int32, r51 = some (.int x53) ∧ (∃ fs57 : List Value, (h52).1 r_0 = .inr (10, fs57) ∧ Ev d (0, 0) MX11_fine [.ref r_0, .int x53] h52 (fun r54 h55 => ∃ x56 : Int32, r54 = some (.int x56) ∧ Q (some (.int x56)) h55))))) ∧ (x_4 = (-1) → (∃ x58 : Int32, m_fld h46 r5 [0, 1, 4, 8, 9] 0 = some (.int x58) ∧ Ev d (0, 0) MX5_groups [.long y47, .int x58] h46 (fun r59 h60 => ∃ x61 : Int32, r59 = some (.int x61) ∧ (∃ fs65 : List Value, (h60).1 r_0 = .inr (10, fs65) ∧ Ev d (0, 0) MX11_fine [.ref r_0, .int x61] h60 (fun r62 h63 => ∃ x64 : Int32, r62 = some (.int x64) ∧ Q (some (.int x64)) h63))))))))) ∧ (¬ (x44 = 0) → Q (some (.int (-1000001))) h43))))))))))))))) ∧ (x12 = 0 → (∃ fs77 : List Value, (h11).1 r_0 = .inr (10, fs77) ∧ Ev d (0, 0) MX11_found [.ref r_0, .int 3] h11 (fun r74 h75 => ∃ x76 : Int32, r74 = some (.int x76) ∧ Q (some (.int x76)) h75)))))))))) ∧ (¬ (x3 = 0) → Q (some (.int (-1000001))) h2)))) : Wm (d + 1) (0, 0) JX11_block 0 [some (.ref r_0), some (.int x_1), some (.int x_2), some (.int x_3), some (.int x_4), none, none, none] [] h Q := by
  refine m_iload_n dX11_block_0 rfl ?_
  refine m_static (as := [.int x_1]) (rest := []) cs_X11_98 dX11_block_1 rfl rfl (Nat.le_of_ble_eq_true rfl) (Nat.le_of_eq (Nat.zero_add _)) (Nat.le_of_eq (Nat.zero_add _)) (b1 := (0, 0)) (b2 := (0, 0)) (Ev.mono hF ?_)
  intro r1 h2 hF
  obtain ⟨x3, rfl, hF⟩ := hF
  refine m_if_eq 10 dX11_block_4 (by decide) (fun c => ?_) (fun c => ?_)
  · replace hF := hF.1 c
    refine m_aload_n dX11_block_10 rfl ?_
    obtain ⟨r4, e, hF⟩ := hF
    refine m_get fg_X11_20 dX11_block_11 e ?_
    refine m_iload_n dX11_block_14 rfl ?_
    rcases hF with ⟨e, hF⟩ | ⟨r5, e, hF⟩
    · refine m_aald dX11_block_15 e ?_
      refine m_astoreN (ls2 := [some (.ref r_0), some (.int x_1), some (.int x_2), some (.int x_3), some (.int x_4), some (.null), none, none]) dX11_block_16 (by decide) rfl ?_
      refine m_aloadN dX11_block_18 rfl ?_
      refine m_ifnonnullN dX11_block_20 ?_
      refine m_aload_n dX11_block_23 rfl ?_
      refine m_iconst dX11_block_24 ki_1 ?_
      obtain ⟨fs9, e, hF⟩ := hF
      refine m_virtual (as := [.int 1]) (rest := []) cv_X11_65_10 e dX11_block_25 rfl rfl (Nat.le_of_ble_eq_true rfl) (Nat.le_of_eq (Nat.zero_add _)) (Nat.le_of_eq (Nat.zero_add _)) (b1 := (0, 0)) (b2 := (0, 0)) (Ev.mono hF ?_)
      intro r6 h7 hF
      obtain ⟨x8, rfl, hF⟩ := hF
      exact m_ireturn dX11_block_28 trivial hF
    · refine m_aald dX11_block_15 e ?_
      refine m_astore (ls2 := [some (.ref r_0), some (.int x_1), some (.int x_2), some (.int x_3), some (.int x_4), some (.ref r5), none, none]) dX11_block_16 (by decide) rfl ?_
      refine m_aload dX11_block_18 rfl ?_
      refine m_ifnonnull 29 dX11_block_20 (by decide) ?_
      refine m_aload dX11_block_29 rfl ?_
      obtain ⟨c78, fs79, e, hc, hF⟩ := hF
      refine m_virtual (as := []) (rest := []) (cw_X11_136 _ hc) e dX11_block_31 rfl rfl (Nat.le_of_ble_eq_true rfl) (Nat.le_of_eq (Nat.zero_add _)) (Nat.le_of_eq (Nat.zero_add _)) (b1 := (0, 0)) (b2 := (0, 0)) (Ev.mono hF ?_)
      intro r10 h11 hF
      obtain ⟨x12, rfl, hF⟩ := hF
      refine m_if_ne 43 dX11_block_34 (by decide) (fun c => ?_) (fun c => ?_)
      · replace hF := hF.1 c
        refine m_aload dX11_block_43 rfl ?_
        refine m_iload_n dX11_block_45 rfl ?_
        obtain ⟨c72, fs73, e, hc, hF⟩ := hF
        refine m_virtual (as := [.int x_2]) (rest := []) (cw_X11_159 _ hc) e dX11_block_46 rfl rfl (Nat.le_of_ble_eq_true rfl) (Nat.le_of_eq (Nat.zero_add _)) (Nat.le_of_eq (Nat.zero_add _)) (b1 := (0, 0)) (b2 := (0, 0)) (Ev.mono hF ?_)
        intro r13 h14 hF
        obtain ⟨x15, rfl, hF⟩ := hF
        refine m_if_ne 77 dX11_block_49 (by decide) (fun c => ?_) (fun c => ?_)
        · replace hF := hF.1 c
          refine m_ldc dX11_block_77 kc_X11_64 ?_
          exact m_ireturn dX11_block_79 trivial hF
        · replace hF := hF.2 c
          refine m_aload dX11_block_52 rfl ?_
          refine m_iload_n dX11_block_54 rfl ?_
          obtain ⟨c70, fs71, e, hc, hF⟩ := hF
          refine m_virtual (as := [.int x_3]) (rest := []) (cw_X11_159 _ hc) e dX11_block_55 rfl rfl (Nat.le_of_ble_eq_true rfl) (Nat.le_of_eq (Nat.zero_add _)) (Nat.le_of_eq (Nat.zero_add _)) (b1 := (0, 0)) (b2 := (0, 0)) (Ev.mono hF ?_)
          intro r16 h17 hF
          obtain ⟨x18, rfl, hF⟩ := hF
          refine m_if_ne 77 dX11_block_58 (by decide) (fun c => ?_) (fun c => ?_)
          · replace hF := hF.1 c
            refine m_ldc dX11_block_77 kc_X11_64 ?_
            exact m_ireturn dX11_block_79 trivial hF
          · replace hF := hF.2 c
            refine m_iload dX11_block_61 rfl ?_
            refine m_iconst dX11_block_63 ki_m1 ?_
            refine m_icmp_eq 80 dX11_block_64 (by decide) (fun c => ?_) (fun c => ?_)
            · replace hF := hF.1 c
              refine m_aload dX11_block_80 rfl ?_
              refine m_iload_n dX11_block_82 rfl ?_
              refine m_iload_n dX11_block_83 rfl ?_
              obtain ⟨c40, fs41, e, hc, hF⟩ := hF
              refine m_virtual (as := [.int x_2, .int x_3]) (rest := []) (cw_X11_201 _ hc) e dX11_block_84 rfl rfl (Nat.le_of_ble_eq_true rfl) (Nat.le_of_eq (Nat.zero_add _)) (Nat.le_of_eq (Nat.zero_add _)) (b1 := (0, 0)) (b2 := (0, 0)) (Ev.mono hF ?_)
              intro r19 h20 hF
              obtain ⟨y21, rfl, hF⟩ := hF
              refine m_lstore (ls2 := [some (.ref r_0), some (.int x_1), some (.int x_2), some (.int x_3), some (.int x_4), some (.ref r5), some (.long y21), none]) dX11_block_87 (by decide) rfl ?_
              refine m_iload dX11_block_89 rfl ?_
              refine m_iconst dX11_block_91 ki_m1 ?_
              refine m_icmp_ne 110 dX11_block_92 (by decide) (fun c => ?_) (fun c => ?_)
              · replace hF := hF.1 c
                refine m_aload_n dX11_block_110 rfl ?_
                refine m_lload dX11_block_111 rfl ?_
                refine m_lload dX11_block_113 rfl ?_
                refine m_iload dX11_block_115 rfl ?_
                refine m_static (as := [.long y21, .int x_4]) (rest := [.long y21, .ref r_0]) cs_X11_191 dX11_block_117 rfl rfl (Nat.le_of_ble_eq_true rfl) (Nat.le_of_eq (Nat.zero_add _)) (Nat.le_of_eq (Nat.zero_add _)) (b1 := (0, 0)) (b2 := (0, 0)) (Ev.mono hF ?_)
                intro r22 h23 hF
                obtain ⟨x24, rfl, hF⟩ := hF
                refine m_static (as := [.long y21, .int x24]) (rest := [.ref r_0]) cs_X11_204 dX11_block_120 rfl rfl (Nat.le_of_ble_eq_true rfl) (Nat.le_of_eq (Nat.zero_add _)) (Nat.le_of_eq (Nat.zero_add _)) (b1 := (0, 0)) (b2 := (0, 0)) (Ev.mono hF ?_)
                intro r25 h26 hF
                obtain ⟨x27, rfl, hF⟩ := hF
                obtain ⟨fs31, e, hF⟩ := hF
                refine m_virtual (as := [.int x27]) (rest := []) cv_X11_69_10 e dX11_block_123 rfl rfl (Nat.le_of_ble_eq_true rfl) (Nat.le_of_eq (Nat.zero_add _)) (Nat.le_of_eq (Nat.zero_add _)) (b1 := (0, 0)) (b2 := (0, 0)) (Ev.mono hF ?_)
                intro r28 h29 hF
                obtain ⟨x30, rfl, hF⟩ := hF
                exact m_ireturn dX11_block_126 trivial hF
              · replace hF := hF.2 c
                refine m_aload_n dX11_block_95 rfl ?_
                refine m_lload dX11_block_96 rfl ?_
                refine m_aload dX11_block_98 rfl ?_
                obtain ⟨x32, e, hF⟩ := hF
                refine m_get fg_X11_143 dX11_block_100 e ?_
                refine m_static (as := [.long y21, .int x32]) (rest := [.ref r_0]) cs_X11_204 dX11_block_103 rfl rfl (Nat.le_of_ble_eq_true rfl) (Nat.le_of_eq (Nat.zero_add _)) (Nat.le_of_eq (Nat.zero_add _)) (b1 := (0, 0)) (b2 := (0, 0)) (Ev.mono hF ?_)
                intro r33 h34 hF
                obtain ⟨x35, rfl, hF⟩ := hF
                obtain ⟨fs39, e, hF⟩ := hF
                refine m_virtual (as := [.int x35]) (rest := []) cv_X11_69_10 e dX11_block_106 rfl rfl (Nat.le_of_ble_eq_true rfl) (Nat.le_of_eq (Nat.zero_add _)) (Nat.le_of_eq (Nat.zero_add _)) (b1 := (0, 0)) (b2 := (0, 0)) (Ev.mono hF ?_)
                intro r36 h37 hF
                obtain ⟨x38, rfl, hF⟩ := hF
                exact m_ireturn dX11_block_109 trivial hF
            · replace hF := hF.2 c
              refine m_aload dX11_block_67 rfl ?_
              refine m_iload dX11_block_69 rfl ?_
              obtain ⟨c68, fs69, e, hc, hF⟩ := hF
              refine m_virtual (as := [.int x_4]) (rest := []) (cw_X11_159 _ hc) e dX11_block_71 rfl rfl (Nat.le_of_ble_eq_true rfl) (Nat.le_of_eq (Nat.zero_add _)) (Nat.le_of_eq (Nat.zero_add _)) (b1 := (0, 0)) (b2 := (0, 0)) (Ev.mono hF ?_)
              intro r42 h43 hF
              obtain ⟨x44, rfl, hF⟩ := hF
              refine m_if_eq 80 dX11_block_74 (by decide) (fun c => ?_) (fun c => ?_)
              · replace hF := hF.1 c
                refine m_aload dX11_block_80 rfl ?_
                refine m_iload_n dX11_block_82 rfl ?_
                refine m_iload_n dX11_block_83 rfl ?_
                obtain ⟨c66, fs67, e, hc, hF⟩ := hF
                refine m_virtual (as := [.int x_2, .int x_3]) (rest := []) (cw_X11_201 _ hc) e dX11_block_84 rfl rfl (Nat.le_of_ble_eq_true rfl) (Nat.le_of_eq (Nat.zero_add _)) (Nat.le_of_eq (Nat.zero_add _)) (b1 := (0, 0)) (b2 := (0, 0)) (Ev.mono hF ?_)
                intro r45 h46 hF
                obtain ⟨y47, rfl, hF⟩ := hF
                refine m_lstore (ls2 := [some (.ref r_0), some (.int x_1), some (.int x_2), some (.int x_3), some (.int x_4), some (.ref r5), some (.long y47), none]) dX11_block_87 (by decide) rfl ?_
                refine m_iload dX11_block_89 rfl ?_
                refine m_iconst dX11_block_91 ki_m1 ?_
                refine m_icmp_ne 110 dX11_block_92 (by decide) (fun c => ?_) (fun c => ?_)
                · replace hF := hF.1 c
                  refine m_aload_n dX11_block_110 rfl ?_
                  refine m_lload dX11_block_111 rfl ?_
                  refine m_lload dX11_block_113 rfl ?_
                  refine m_iload dX11_block_115 rfl ?_
                  refine m_static (as := [.long y47, .int x_4]) (rest := [.long y47, .ref r_0]) cs_X11_191 dX11_block_117 rfl rfl (Nat.le_of_ble_eq_true rfl) (Nat.le_of_eq (Nat.zero_add _)) (Nat.le_of_eq (Nat.zero_add _)) (b1 := (0, 0)) (b2 := (0, 0)) (Ev.mono hF ?_)
                  intro r48 h49 hF
                  obtain ⟨x50, rfl, hF⟩ := hF
                  refine m_static (as := [.long y47, .int x50]) (rest := [.ref r_0]) cs_X11_204 dX11_block_120 rfl rfl (Nat.le_of_ble_eq_true rfl) (Nat.le_of_eq (Nat.zero_add _)) (Nat.le_of_eq (Nat.zero_add _)) (b1 := (0, 0)) (b2 := (0, 0)) (Ev.mono hF ?_)
                  intro r51 h52 hF
                  obtain ⟨x53, rfl, hF⟩ := hF
                  obtain ⟨fs57, e, hF⟩ := hF
                  refine m_virtual (as := [.int x53]) (rest := []) cv_X11_69_10 e dX11_block_123 rfl rfl (Nat.le_of_ble_eq_true rfl) (Nat.le_of_eq (Nat.zero_add _)) (Nat.le_of_eq (Nat.zero_add _)) (b1 := (0, 0)) (b2 := (0, 0)) (Ev.mono hF ?_)
                  intro r54 h55 hF
                  obtain ⟨x56, rfl, hF⟩ := hF
                  exact m_ireturn dX11_block_126 trivial hF
                · replace hF := hF.2 c
                  refine m_aload_n dX11_block_95 rfl ?_
                  refine m_lload dX11_block_96 rfl ?_
                  refine m_aload dX11_block_98 rfl ?_
                  obtain ⟨x58, e, hF⟩ := hF
                  refine m_get fg_X11_143 dX11_block_100 e ?_
                  refine m_static (as := [.long y47, .int x58]) (rest := [.ref r_0]) cs_X11_204 dX11_block_103 rfl rfl (Nat.le_of_ble_eq_true rfl) (Nat.le_of_eq (Nat.zero_add _)) (Nat.le_of_eq (Nat.zero_add _)) (b1 := (0, 0)) (b2 := (0, 0)) (Ev.mono hF ?_)
                  intro r59 h60 hF
                  obtain ⟨x61, rfl, hF⟩ := hF
                  obtain ⟨fs65, e, hF⟩ := hF
                  refine m_virtual (as := [.int x61]) (rest := []) cv_X11_69_10 e dX11_block_106 rfl rfl (Nat.le_of_ble_eq_true rfl) (Nat.le_of_eq (Nat.zero_add _)) (Nat.le_of_eq (Nat.zero_add _)) (b1 := (0, 0)) (b2 := (0, 0)) (Ev.mono hF ?_)
                  intro r62 h63 hF
                  obtain ⟨x64, rfl, hF⟩ := hF
                  exact m_ireturn dX11_block_109 trivial hF
              · replace hF := hF.2 c
                refine m_ldc dX11_block_77 kc_X11_64 ?_
                exact m_ireturn dX11_block_79 trivial hF
      · replace hF := hF.2 c
        refine m_aload_n dX11_block_37 rfl ?_
        refine m_iconst dX11_block_38 ki_3 ?_
        obtain ⟨fs77, e, hF⟩ := hF
        refine m_virtual (as := [.int 3]) (rest := []) cv_X11_65_10 e dX11_block_39 rfl rfl (Nat.le_of_ble_eq_true rfl) (Nat.le_of_eq (Nat.zero_add _)) (Nat.le_of_eq (Nat.zero_add _)) (b1 := (0, 0)) (b2 := (0, 0)) (Ev.mono hF ?_)
        intro r74 h75 hF
        obtain ⟨x76, rfl, hF⟩ := hF
        exact m_ireturn dX11_block_42 trivial hF
  · replace hF := hF.2 c
    refine m_ldc dX11_block_7 kc_X11_64 ?_
    exact m_ireturn dX11_block_9 trivial hF
theorem en_X11_block {d : Nat} {r_0 : Nat} {x_1 : Int32} {x_2 : Int32} {x_3 : Int32} {x_4 : Int32} {h : mH} {K : Option Value → mH → Prop} (hk : Wm (d + 1) (0, 0) JX11_block 0 [some (.ref r_0), some (.int x_1), some (.int x_2), some (.int x_3), some (.int x_4), none, none, none] [] h (fun r h' => h'.1 0 = h.1 0 ∧ K r h')) : Ev (d + 1) (0, 0) MX11_block [.ref r_0, .int x_1, .int x_2, .int x_3, .int x_4] h K :=
  m_met pn_X11 nl_X11 (fun _ => Nat.le_of_ble_eq_true rfl) hk
theorem bk_X11_same_0 {d : Nat} {b : Nat × Nat} (r_0 : Nat) (x_1 : Int32) (x_2 : Int32) {h : mH} {Q : Option Value → mH → Prop} (hF : Ev d (0, 0) MX11_noPlace [.int x_1] h (fun r1 h2 => ∃ x3 : Int32, r1 = some (.int x3) ∧ ((¬ x3 = 0 → Q (some (.int (-1000001))) h2) ∧ (x3 = 0 → Ev d (0, 0) MX11_noPlace [.int x_2] h2 (fun r4 h5 => ∃ x6 : Int32, r4 = some (.int x6) ∧ ((x6 = 0 → (∃ r7 : Nat, m_fld h5 r_0 [10] 1 = some (.ref r7) ∧ ((m_rl h5 r7 x_1 = some .null ∧ (∃ r9 : Nat, m_fld h5 r_0 [10] 1 = some (.ref r9) ∧ ((m_rl h5 r9 x_2 = some .null ∧ (∃ fs14 : List Value, (h5).1 r_0 = .inr (10, fs14) ∧ Ev d (0, 0) MX11_found [.ref r_0, .int 1] h5 (fun r11 h12 => ∃ x13 : Int32, r11 = some (.int x13) ∧ Q (some (.int x13)) h12))) ∨ (∃ r10 : Nat, m_rl h5 r9 x_2 = some (.ref r10) ∧ (∃ fs18 : List Value, (h5).1 r_0 = .inr (10, fs18) ∧ Ev d (0, 0) MX11_found [.ref r_0, .int 1] h5 (fun r15 h16 => ∃ x17 : Int32, r15 = some (.int x17) ∧ Q (some (.int x17)) h16)))))) ∨ (∃ r8 : Nat, m_rl h5 r7 x_1 = some (.ref r8) ∧ (∃ r19 : Nat, m_fld h5 r_0 [10] 1 = some (.ref r19) ∧ ((m_rl h5 r19 x_2 = some .null ∧ (∃ (c32 : Nat) (fs33 : List Value), (h5).1 r8 = .inr (c32, fs33) ∧ c32 ∈ [0, 1, 4, 8, 9] ∧ Ev d (0, 0) MX1_whole [.ref r8] h5 (fun r21 h22 => ∃ x23 : Int32, r21 = some (.int x23) ∧ ((¬ x23 = 0 → (∃ fs27 : List Value, (h22).1 r_0 = .inr (10, fs27) ∧ Ev d (0, 0) MX11_found [.ref r_0, .int 1] h22 (fun r24 h25 => ∃ x26 : Int32, r24 = some (.int x26) ∧ Q (some (.int x26)) h25))) ∧ (x23 = 0 → (∃ fs31 : List Value, (h22).1 r_0 = .inr (10, fs31) ∧ Ev d (0, 0) MX11_found [.ref r_0, .int 3] h22 (fun r28 h29 => ∃ x30 : Int32, r28 = some (.int x30) ∧ Q (some (.int x30)) h29))))))) ∨ (∃ r20 : Nat, m_rl h5 r19 x_2 = some (.ref r20) ∧ (∃ (c63 : Nat) (fs64 : List Value), (h5).1 r8 = .inr (c63, fs64) ∧ c63 ∈ [0, 1, 4, 8, 9] ∧ Ev d (0, 0) MX1_whole [.ref r8] h5 (fun r34 h35 => ∃ x36 : Int32, r34 = some (.int x36) ∧ ((¬ x36 = 0 → (∃ (c57 : Nat) (fs58 : List Value), (h35).1 r20 = .inr (c57, fs58) ∧ c57 ∈ [0, 1, 4, 8, 9] ∧ Ev d (0, 0) MX1_whole [.ref r20] h35 (fun r37 h38 => ∃ x39 : Int32, r37 = some (.int x39) ∧ ((¬ x39 = 0 → (∃ b43 : Nat × Nat, b43.1 ≤ b.1 ∧ b43.2 ≤ b.2 ∧ (∃ fs52 : List Value, (h38).1 r_0 = .inr (10, fs52) ∧ Ev d b43 MX11_alike [.ref r_0, .ref r8, .ref r20] h38 (fun r40 h41 => ∃ x42 : Int32, r40 = some (.int x42) ∧ ((x42 = 0 → (∃ fs47 : List Value, (h41).1 r_0 = .inr (10, fs47) ∧ Ev d (0, 0) MX11_fine [.ref r_0, .int 0] h41 (fun r44 h45 => ∃ x46 : Int32, r44 = some (.int x46) ∧ Q (some (.int x46)) h45))) ∧ (¬ (x42 = 0) → (∃ fs51 : List Value, (h41).1 r_0 = .inr (10, fs51) ∧ Ev d (0, 0) MX11_fine [.ref r_0, .int 1] h41 (fun r48 h49 => ∃ x50 : Int32, r48 = some (.int x50) ∧ Q (some (.int x50)) h49)))))))) ∧ (x39 = 0 → (∃ fs56 : List Value, (h38).1 r_0 = .inr (10, fs56) ∧ Ev d (0, 0) MX11_found [.ref r_0, .int 3] h38 (fun r53 h54 => ∃ x55 : Int32, r53 = some (.int x55) ∧ Q (some (.int x55)) h54))))))) ∧ (x36 = 0 → (∃ fs62 : List Value, (h35).1 r_0 = .inr (10, fs62) ∧ Ev d (0, 0) MX11_found [.ref r_0, .int 3] h35 (fun r59 h60 => ∃ x61 : Int32, r59 = some (.int x61) ∧ Q (some (.int x61)) h60))))))))))))) ∧ (¬ (x6 = 0) → Q (some (.int (-1000001))) h5))))))) : Wm (d + 1) b JX11_same 0 [some (.ref r_0), some (.int x_1), some (.int x_2), none, none] [] h Q := by
  refine m_iload_n dX11_same_0 rfl ?_
  refine m_static (as := [.int x_1]) (rest := []) cs_X11_98 dX11_same_1 rfl rfl (Nat.le_of_ble_eq_true rfl) (Nat.le_of_eq (Nat.zero_add _)) (Nat.le_of_eq (Nat.zero_add _)) (b1 := (0, 0)) (b2 := b) (Ev.mono hF ?_)
  intro r1 h2 hF
  obtain ⟨x3, rfl, hF⟩ := hF
  refine m_if_ne 14 dX11_same_4 (by decide) (fun c => ?_) (fun c => ?_)
  · replace hF := hF.1 c
    refine m_ldc dX11_same_14 kc_X11_64 ?_
    exact m_ireturn dX11_same_16 trivial hF
  · replace hF := hF.2 c
    refine m_iload_n dX11_same_7 rfl ?_
    refine m_static (as := [.int x_2]) (rest := []) cs_X11_98 dX11_same_8 rfl rfl (Nat.le_of_ble_eq_true rfl) (Nat.le_of_eq (Nat.zero_add _)) (Nat.le_of_eq (Nat.zero_add _)) (b1 := (0, 0)) (b2 := b) (Ev.mono hF ?_)
    intro r4 h5 hF
    obtain ⟨x6, rfl, hF⟩ := hF
    refine m_if_eq 17 dX11_same_11 (by decide) (fun c => ?_) (fun c => ?_)
    · replace hF := hF.1 c
      refine m_aload_n dX11_same_17 rfl ?_
      obtain ⟨r7, e, hF⟩ := hF
      refine m_get fg_X11_20 dX11_same_18 e ?_
      refine m_iload_n dX11_same_21 rfl ?_
      rcases hF with ⟨e, hF⟩ | ⟨r8, e, hF⟩
      · refine m_aald dX11_same_22 e ?_
        refine m_astore_nN (ls2 := [some (.ref r_0), some (.int x_1), some (.int x_2), some (.null), none]) dX11_same_23 (by decide) rfl ?_
        refine m_aload_n dX11_same_24 rfl ?_
        obtain ⟨r9, e, hF⟩ := hF
        refine m_get fg_X11_20 dX11_same_25 e ?_
        refine m_iload_n dX11_same_28 rfl ?_
        rcases hF with ⟨e, hF⟩ | ⟨r10, e, hF⟩
        · refine m_aald dX11_same_29 e ?_
          refine m_astoreN (ls2 := [some (.ref r_0), some (.int x_1), some (.int x_2), some (.null), some (.null)]) dX11_same_30 (by decide) rfl ?_
          refine m_aload_nN dX11_same_32 rfl ?_
          refine m_ifnonnullN dX11_same_33 ?_
          refine m_aload_n dX11_same_36 rfl ?_
          refine m_iconst dX11_same_37 ki_1 ?_
          obtain ⟨fs14, e, hF⟩ := hF
          refine m_virtual (as := [.int 1]) (rest := []) cv_X11_65_10 e dX11_same_38 rfl rfl (Nat.le_of_ble_eq_true rfl) (Nat.le_of_eq (Nat.zero_add _)) (Nat.le_of_eq (Nat.zero_add _)) (b1 := (0, 0)) (b2 := b) (Ev.mono hF ?_)
          intro r11 h12 hF
          obtain ⟨x13, rfl, hF⟩ := hF
          exact m_ireturn dX11_same_41 trivial hF
        · refine m_aald dX11_same_29 e ?_
          refine m_astore (ls2 := [some (.ref r_0), some (.int x_1), some (.int x_2), some (.null), some (.ref r10)]) dX11_same_30 (by decide) rfl ?_
          refine m_aload_nN dX11_same_32 rfl ?_
          refine m_ifnonnullN dX11_same_33 ?_
          refine m_aload_n dX11_same_36 rfl ?_
          refine m_iconst dX11_same_37 ki_1 ?_
          obtain ⟨fs18, e, hF⟩ := hF
          refine m_virtual (as := [.int 1]) (rest := []) cv_X11_65_10 e dX11_same_38 rfl rfl (Nat.le_of_ble_eq_true rfl) (Nat.le_of_eq (Nat.zero_add _)) (Nat.le_of_eq (Nat.zero_add _)) (b1 := (0, 0)) (b2 := b) (Ev.mono hF ?_)
          intro r15 h16 hF
          obtain ⟨x17, rfl, hF⟩ := hF
          exact m_ireturn dX11_same_41 trivial hF
      · refine m_aald dX11_same_22 e ?_
        refine m_astore_n (ls2 := [some (.ref r_0), some (.int x_1), some (.int x_2), some (.ref r8), none]) dX11_same_23 (by decide) rfl ?_
        refine m_aload_n dX11_same_24 rfl ?_
        obtain ⟨r19, e, hF⟩ := hF
        refine m_get fg_X11_20 dX11_same_25 e ?_
        refine m_iload_n dX11_same_28 rfl ?_
        rcases hF with ⟨e, hF⟩ | ⟨r20, e, hF⟩
        · refine m_aald dX11_same_29 e ?_
          refine m_astoreN (ls2 := [some (.ref r_0), some (.int x_1), some (.int x_2), some (.ref r8), some (.null)]) dX11_same_30 (by decide) rfl ?_
          refine m_aload_n dX11_same_32 rfl ?_
          refine m_ifnonnull 42 dX11_same_33 (by decide) ?_
          refine m_aload_n dX11_same_42 rfl ?_
          obtain ⟨c32, fs33, e, hc, hF⟩ := hF
          refine m_virtual (as := []) (rest := []) (cw_X11_136 _ hc) e dX11_same_43 rfl rfl (Nat.le_of_ble_eq_true rfl) (Nat.le_of_eq (Nat.zero_add _)) (Nat.le_of_eq (Nat.zero_add _)) (b1 := (0, 0)) (b2 := b) (Ev.mono hF ?_)
          intro r21 h22 hF
          obtain ⟨x23, rfl, hF⟩ := hF
          refine m_if_ne 55 dX11_same_46 (by decide) (fun c => ?_) (fun c => ?_)
          · replace hF := hF.1 c
            refine m_aloadN dX11_same_55 rfl ?_
            refine m_ifnonnullN dX11_same_57 ?_
            refine m_aload_n dX11_same_60 rfl ?_
            refine m_iconst dX11_same_61 ki_1 ?_
            obtain ⟨fs27, e, hF⟩ := hF
            refine m_virtual (as := [.int 1]) (rest := []) cv_X11_65_10 e dX11_same_62 rfl rfl (Nat.le_of_ble_eq_true rfl) (Nat.le_of_eq (Nat.zero_add _)) (Nat.le_of_eq (Nat.zero_add _)) (b1 := (0, 0)) (b2 := b) (Ev.mono hF ?_)
            intro r24 h25 hF
            obtain ⟨x26, rfl, hF⟩ := hF
            exact m_ireturn dX11_same_65 trivial hF
          · replace hF := hF.2 c
            refine m_aload_n dX11_same_49 rfl ?_
            refine m_iconst dX11_same_50 ki_3 ?_
            obtain ⟨fs31, e, hF⟩ := hF
            refine m_virtual (as := [.int 3]) (rest := []) cv_X11_65_10 e dX11_same_51 rfl rfl (Nat.le_of_ble_eq_true rfl) (Nat.le_of_eq (Nat.zero_add _)) (Nat.le_of_eq (Nat.zero_add _)) (b1 := (0, 0)) (b2 := b) (Ev.mono hF ?_)
            intro r28 h29 hF
            obtain ⟨x30, rfl, hF⟩ := hF
            exact m_ireturn dX11_same_54 trivial hF
        · refine m_aald dX11_same_29 e ?_
          refine m_astore (ls2 := [some (.ref r_0), some (.int x_1), some (.int x_2), some (.ref r8), some (.ref r20)]) dX11_same_30 (by decide) rfl ?_
          refine m_aload_n dX11_same_32 rfl ?_
          refine m_ifnonnull 42 dX11_same_33 (by decide) ?_
          refine m_aload_n dX11_same_42 rfl ?_
          obtain ⟨c63, fs64, e, hc, hF⟩ := hF
          refine m_virtual (as := []) (rest := []) (cw_X11_136 _ hc) e dX11_same_43 rfl rfl (Nat.le_of_ble_eq_true rfl) (Nat.le_of_eq (Nat.zero_add _)) (Nat.le_of_eq (Nat.zero_add _)) (b1 := (0, 0)) (b2 := b) (Ev.mono hF ?_)
          intro r34 h35 hF
          obtain ⟨x36, rfl, hF⟩ := hF
          refine m_if_ne 55 dX11_same_46 (by decide) (fun c => ?_) (fun c => ?_)
          · replace hF := hF.1 c
            refine m_aload dX11_same_55 rfl ?_
            refine m_ifnonnull 66 dX11_same_57 (by decide) ?_
            refine m_aload dX11_same_66 rfl ?_
            obtain ⟨c57, fs58, e, hc, hF⟩ := hF
            refine m_virtual (as := []) (rest := []) (cw_X11_136 _ hc) e dX11_same_68 rfl rfl (Nat.le_of_ble_eq_true rfl) (Nat.le_of_eq (Nat.zero_add _)) (Nat.le_of_eq (Nat.zero_add _)) (b1 := (0, 0)) (b2 := b) (Ev.mono hF ?_)
            intro r37 h38 hF
            obtain ⟨x39, rfl, hF⟩ := hF
            refine m_if_ne 80 dX11_same_71 (by decide) (fun c => ?_) (fun c => ?_)
            · replace hF := hF.1 c
              refine m_aload_n dX11_same_80 rfl ?_
              refine m_aload_n dX11_same_81 rfl ?_
              refine m_aload_n dX11_same_82 rfl ?_
              refine m_aload dX11_same_83 rfl ?_
              obtain ⟨b43, g1, g2, hF⟩ := hF
              obtain ⟨fs52, e, hF⟩ := hF
              refine m_virtual (as := [.ref r8, .ref r20]) (rest := [.ref r_0]) cv_X11_207_10 e dX11_same_85 rfl rfl (Nat.le_of_ble_eq_true rfl) (Nat.le_of_eq (Nat.add_sub_cancel' g1)) (Nat.le_of_eq (Nat.add_sub_cancel' g2)) (b1 := b43) (b2 := (b.1 - b43.1, b.2 - b43.2)) (Ev.mono hF ?_)
              intro r40 h41 hF
              obtain ⟨x42, rfl, hF⟩ := hF
              refine m_if_eq 95 dX11_same_88 (by decide) (fun c => ?_) (fun c => ?_)
              · replace hF := hF.1 c
                refine m_iconst dX11_same_95 ki_0 ?_
                obtain ⟨fs47, e, hF⟩ := hF
                refine m_virtual (as := [.int 0]) (rest := []) cv_X11_69_10 e dX11_same_96 rfl rfl (Nat.le_of_ble_eq_true rfl) (Nat.le_of_eq (Nat.zero_add _)) (Nat.le_of_eq (Nat.zero_add _)) (b1 := (0, 0)) (b2 := (b.1 - b43.1, b.2 - b43.2)) (Ev.mono hF ?_)
                intro r44 h45 hF
                obtain ⟨x46, rfl, hF⟩ := hF
                exact m_ireturn dX11_same_99 trivial hF
              · replace hF := hF.2 c
                refine m_iconst dX11_same_91 ki_1 ?_
                refine m_goto 96 dX11_same_92 (by decide) ?_
                obtain ⟨fs51, e, hF⟩ := hF
                refine m_virtual (as := [.int 1]) (rest := []) cv_X11_69_10 e dX11_same_96 rfl rfl (Nat.le_of_ble_eq_true rfl) (Nat.le_of_eq (Nat.zero_add _)) (Nat.le_of_eq (Nat.zero_add _)) (b1 := (0, 0)) (b2 := (b.1 - b43.1, b.2 - b43.2)) (Ev.mono hF ?_)
                intro r48 h49 hF
                obtain ⟨x50, rfl, hF⟩ := hF
                exact m_ireturn dX11_same_99 trivial hF
            · replace hF := hF.2 c
              refine m_aload_n dX11_same_74 rfl ?_
              refine m_iconst dX11_same_75 ki_3 ?_
              obtain ⟨fs56, e, hF⟩ := hF
              refine m_virtual (as := [.int 3]) (rest := []) cv_X11_65_10 e dX11_same_76 rfl rfl (Nat.le_of_ble_eq_true rfl) (Nat.le_of_eq (Nat.zero_add _)) (Nat.le_of_eq (Nat.zero_add _)) (b1 := (0, 0)) (b2 := b) (Ev.mono hF ?_)
              intro r53 h54 hF
              obtain ⟨x55, rfl, hF⟩ := hF
              exact m_ireturn dX11_same_79 trivial hF
          · replace hF := hF.2 c
            refine m_aload_n dX11_same_49 rfl ?_
            refine m_iconst dX11_same_50 ki_3 ?_
            obtain ⟨fs62, e, hF⟩ := hF
            refine m_virtual (as := [.int 3]) (rest := []) cv_X11_65_10 e dX11_same_51 rfl rfl (Nat.le_of_ble_eq_true rfl) (Nat.le_of_eq (Nat.zero_add _)) (Nat.le_of_eq (Nat.zero_add _)) (b1 := (0, 0)) (b2 := b) (Ev.mono hF ?_)
            intro r59 h60 hF
            obtain ⟨x61, rfl, hF⟩ := hF
            exact m_ireturn dX11_same_54 trivial hF
    · replace hF := hF.2 c
      refine m_ldc dX11_same_14 kc_X11_64 ?_
      exact m_ireturn dX11_same_16 trivial hF
theorem en_X11_same {d : Nat} {b : Nat × Nat} {r_0 : Nat} {x_1 : Int32} {x_2 : Int32} {h : mH} {K : Option Value → mH → Prop} (hk : Wm (d + 1) b JX11_same 0 [some (.ref r_0), some (.int x_1), some (.int x_2), none, none] [] h (fun r h' => h'.1 0 = h.1 0 ∧ K r h')) : Ev (d + 1) b MX11_same [.ref r_0, .int x_1, .int x_2] h K :=
  m_met pn_X11 nl_X11 (fun _ => Nat.le_of_ble_eq_true rfl) hk
theorem bk_X11_ring_0 {d : Nat} {b : Nat × Nat} (r_0 : Nat) (x_1 : Int32) {h : mH} {Q : Option Value → mH → Prop} (hF : Ev d (0, 0) MX11_noPlace [.int x_1] h (fun r1 h2 => ∃ x3 : Int32, r1 = some (.int x3) ∧ ((x3 = 0 → (∃ r4 : Nat, m_fld h2 r_0 [10] 1 = some (.ref r4) ∧ ((m_rl h2 r4 x_1 = some .null ∧ (∃ fs9 : List Value, (h2).1 r_0 = .inr (10, fs9) ∧ Ev d (0, 0) MX11_found [.ref r_0, .int 1] h2 (fun r6 h7 => ∃ x8 : Int32, r6 = some (.int x8) ∧ Q (some (.int x8)) h7))) ∨ (∃ r5 : Nat, m_rl h2 r4 x_1 = some (.ref r5) ∧ (∃ (c27 : Nat) (fs28 : List Value), (h2).1 r5 = .inr (c27, fs28) ∧ c27 ∈ [0, 1, 4, 8, 9] ∧ Ev d (0, 0) MX1_whole [.ref r5] h2 (fun r10 h11 => ∃ x12 : Int32, r10 = some (.int x12) ∧ ((¬ x12 = 0 → (∃ r13 : Nat, m_fld h11 r_0 [10] 4 = some (.ref r13) ∧ (∃ b17 : Nat × Nat, b17.1 ≤ b.1 ∧ b17.2 ≤ b.2 ∧ (∃ fs22 : List Value, (h11).1 r13 = .inr (5, fs22) ∧ Ev d b17 MX6_walk [.ref r13, .ref r5] h11 (fun r14 h15 => ∃ x16 : Int32, r14 = some (.int x16) ∧ ((¬ x16 = (-1) → (∃ fs21 : List Value, (h15).1 r_0 = .inr (10, fs21) ∧ Ev d (0, 0) MX11_fine [.ref r_0, .int x16] h15 (fun r18 h19 => ∃ x20 : Int32, r18 = some (.int x20) ∧ Q (some (.int x20)) h19))) ∧ (x16 = (-1) → Q (some (.int (-1000003))) h15))))))) ∧ (x12 = 0 → (∃ fs26 : List Value, (h11).1 r_0 = .inr (10, fs26) ∧ Ev d (0, 0) MX11_found [.ref r_0, .int 3] h11 (fun r23 h24 => ∃ x25 : Int32, r23 = some (.int x25) ∧ Q (some (.int x25)) h24)))))))))) ∧ (¬ (x3 = 0) → Q (some (.int (-1000001))) h2)))) : Wm (d + 1) b JX11_ring 0 [some (.ref r_0), some (.int x_1), none, none] [] h Q := by
  refine m_iload_n dX11_ring_0 rfl ?_
  refine m_static (as := [.int x_1]) (rest := []) cs_X11_98 dX11_ring_1 rfl rfl (Nat.le_of_ble_eq_true rfl) (Nat.le_of_eq (Nat.zero_add _)) (Nat.le_of_eq (Nat.zero_add _)) (b1 := (0, 0)) (b2 := b) (Ev.mono hF ?_)
  intro r1 h2 hF
  obtain ⟨x3, rfl, hF⟩ := hF
  refine m_if_eq 10 dX11_ring_4 (by decide) (fun c => ?_) (fun c => ?_)
  · replace hF := hF.1 c
    refine m_aload_n dX11_ring_10 rfl ?_
    obtain ⟨r4, e, hF⟩ := hF
    refine m_get fg_X11_20 dX11_ring_11 e ?_
    refine m_iload_n dX11_ring_14 rfl ?_
    rcases hF with ⟨e, hF⟩ | ⟨r5, e, hF⟩
    · refine m_aald dX11_ring_15 e ?_
      refine m_astore_nN (ls2 := [some (.ref r_0), some (.int x_1), some (.null), none]) dX11_ring_16 (by decide) rfl ?_
      refine m_aload_nN dX11_ring_17 rfl ?_
      refine m_ifnonnullN dX11_ring_18 ?_
      refine m_aload_n dX11_ring_21 rfl ?_
      refine m_iconst dX11_ring_22 ki_1 ?_
      obtain ⟨fs9, e, hF⟩ := hF
      refine m_virtual (as := [.int 1]) (rest := []) cv_X11_65_10 e dX11_ring_23 rfl rfl (Nat.le_of_ble_eq_true rfl) (Nat.le_of_eq (Nat.zero_add _)) (Nat.le_of_eq (Nat.zero_add _)) (b1 := (0, 0)) (b2 := b) (Ev.mono hF ?_)
      intro r6 h7 hF
      obtain ⟨x8, rfl, hF⟩ := hF
      exact m_ireturn dX11_ring_26 trivial hF
    · refine m_aald dX11_ring_15 e ?_
      refine m_astore_n (ls2 := [some (.ref r_0), some (.int x_1), some (.ref r5), none]) dX11_ring_16 (by decide) rfl ?_
      refine m_aload_n dX11_ring_17 rfl ?_
      refine m_ifnonnull 27 dX11_ring_18 (by decide) ?_
      refine m_aload_n dX11_ring_27 rfl ?_
      obtain ⟨c27, fs28, e, hc, hF⟩ := hF
      refine m_virtual (as := []) (rest := []) (cw_X11_136 _ hc) e dX11_ring_28 rfl rfl (Nat.le_of_ble_eq_true rfl) (Nat.le_of_eq (Nat.zero_add _)) (Nat.le_of_eq (Nat.zero_add _)) (b1 := (0, 0)) (b2 := b) (Ev.mono hF ?_)
      intro r10 h11 hF
      obtain ⟨x12, rfl, hF⟩ := hF
      refine m_if_ne 40 dX11_ring_31 (by decide) (fun c => ?_) (fun c => ?_)
      · replace hF := hF.1 c
        refine m_aload_n dX11_ring_40 rfl ?_
        obtain ⟨r13, e, hF⟩ := hF
        refine m_get fg_X11_42 dX11_ring_41 e ?_
        refine m_aload_n dX11_ring_44 rfl ?_
        obtain ⟨b17, g1, g2, hF⟩ := hF
        obtain ⟨fs22, e, hF⟩ := hF
        refine m_virtual (as := [.ref r5]) (rest := []) cv_X11_211_5 e dX11_ring_45 rfl rfl (Nat.le_of_ble_eq_true rfl) (Nat.le_of_eq (Nat.add_sub_cancel' g1)) (Nat.le_of_eq (Nat.add_sub_cancel' g2)) (b1 := b17) (b2 := (b.1 - b17.1, b.2 - b17.2)) (Ev.mono hF ?_)
        intro r14 h15 hF
        obtain ⟨x16, rfl, hF⟩ := hF
        refine m_istore_n (ls2 := [some (.ref r_0), some (.int x_1), some (.ref r5), some (.int x16)]) dX11_ring_48 (by decide) rfl ?_
        refine m_iload_n dX11_ring_49 rfl ?_
        refine m_iconst dX11_ring_50 ki_m1 ?_
        refine m_icmp_ne 59 dX11_ring_51 (by decide) (fun c => ?_) (fun c => ?_)
        · replace hF := hF.1 c
          refine m_aload_n dX11_ring_59 rfl ?_
          refine m_iload_n dX11_ring_60 rfl ?_
          obtain ⟨fs21, e, hF⟩ := hF
          refine m_virtual (as := [.int x16]) (rest := []) cv_X11_69_10 e dX11_ring_61 rfl rfl (Nat.le_of_ble_eq_true rfl) (Nat.le_of_eq (Nat.zero_add _)) (Nat.le_of_eq (Nat.zero_add _)) (b1 := (0, 0)) (b2 := (b.1 - b17.1, b.2 - b17.2)) (Ev.mono hF ?_)
          intro r18 h19 hF
          obtain ⟨x20, rfl, hF⟩ := hF
          exact m_ireturn dX11_ring_64 trivial hF
        · replace hF := hF.2 c
          refine m_ldc dX11_ring_54 kc_X11_176 ?_
          refine m_goto 64 dX11_ring_56 (by decide) ?_
          exact m_ireturn dX11_ring_64 trivial hF
      · replace hF := hF.2 c
        refine m_aload_n dX11_ring_34 rfl ?_
        refine m_iconst dX11_ring_35 ki_3 ?_
        obtain ⟨fs26, e, hF⟩ := hF
        refine m_virtual (as := [.int 3]) (rest := []) cv_X11_65_10 e dX11_ring_36 rfl rfl (Nat.le_of_ble_eq_true rfl) (Nat.le_of_eq (Nat.zero_add _)) (Nat.le_of_eq (Nat.zero_add _)) (b1 := (0, 0)) (b2 := b) (Ev.mono hF ?_)
        intro r23 h24 hF
        obtain ⟨x25, rfl, hF⟩ := hF
        exact m_ireturn dX11_ring_39 trivial hF
  · replace hF := hF.2 c
    refine m_ldc dX11_ring_7 kc_X11_64 ?_
    exact m_ireturn dX11_ring_9 trivial hF
theorem en_X11_ring {d : Nat} {b : Nat × Nat} {r_0 : Nat} {x_1 : Int32} {h : mH} {K : Option Value → mH → Prop} (hk : Wm (d + 1) b JX11_ring 0 [some (.ref r_0), some (.int x_1), none, none] [] h (fun r h' => h'.1 0 = h.1 0 ∧ K r h')) : Ev (d + 1) b MX11_ring [.ref r_0, .int x_1] h K :=
  m_met pn_X11 nl_X11 (fun _ => Nat.le_of_ble_eq_true rfl) hk
theorem bk_X11_lift_0 {d : Nat} (r_0 : Nat) (x_1 : Int32) (x_2 : Int32) (x_3 : Int32) (x_4 : Int32) (x_5 : Int32) {h : mH} {Q : Option Value → mH → Prop} (hF : Ev d (0, 0) MX11_noPlace [.int x_1] h (fun r1 h2 => ∃ x3 : Int32, r1 = some (.int x3) ∧ ((¬ x3 = 0 → Q (some (.int (-1000001))) h2) ∧ (x3 = 0 → Ev d (0, 0) MX11_noRow [.int x_2] h2 (fun r4 h5 => ∃ x6 : Int32, r4 = some (.int x6) ∧ ((¬ x6 = 0 → Q (some (.int (-1000001))) h5) ∧ (x6 = 0 → ((x_4 < 0 → Q (some (.int (-1000001))) h5) ∧ (¬ (x_4 < 0) → ((x_4 ≤ 96 → (∃ r7 : Nat, m_fld h5 r_0 [10] 1 = some (.ref r7) ∧ ((m_rl h5 r7 x_1 = some .null ∧ (∃ r9 : Nat, m_fld h5 r_0 [10] 0 = some (.ref r9) ∧ ((m_rl h5 r9 x_2 = some .null ∧ (∃ fs14 : List Value, (h5).1 r_0 = .inr (10, fs14) ∧ Ev d (0, 0) MX11_found [.ref r_0, .int 1] h5 (fun r11 h12 => ∃ x13 : Int32, r11 = some (.int x13) ∧ Q (some (.int x13)) h12))) ∨ (∃ r10 : Nat, m_rl h5 r9 x_2 = some (.ref r10) ∧ (∃ fs18 : List Value, (h5).1 r_0 = .inr (10, fs18) ∧ Ev d (0, 0) MX11_found [.ref r_0, .int 1] h5 (fun r15 h16 => ∃ x17 : Int32, r15 = some (.int x17) ∧ Q (some (.int x17)) h16)))))) ∨ (∃ r8 : Nat, m_rl h5 r7 x_1 = some (.ref r8) ∧ (∃ r19 : Nat, m_fld h5 r_0 [10] 0 = some (.ref r19) ∧ ((m_rl h5 r19 x_2 = some .null ∧ False) ∨ (∃ r20 : Nat, m_rl h5 r19 x_2 = some (.ref r20) ∧ (∃ fs44 : List Value, (h5).1 r20 = .inr (6, fs44) ∧ Ev d (0, 0) MX7_missing [.ref r20] h5 (fun r24 h25 => ∃ x26 : Int32, r24 = some (.int x26) ∧ ((x26 = 0 → (∃ fs39 : List Value, (h25).1 r20 = .inr (6, fs39) ∧ Ev d (0, 0) MX7_holds [.ref r20, .int x_3, .int x_4] h25 (fun r27 h28 => ∃ x29 : Int32, r27 = some (.int x29) ∧ ((¬ x29 = 0 → (∃ (c33 : Nat) (fs34 : List Value), (h28).1 r8 = .inr (c33, fs34) ∧ c33 ∈ [0, 1, 4, 8, 9] ∧ Ev d (0, 0) MX1_noSheet [.ref r8, .int x_5] h28 (fun r30 h31 => ∃ x32 : Int32, r30 = some (.int x32) ∧ ((x32 = 0 → Wm (d + 1) (0, 0) JX11_lift 101 [some (.ref r_0), none, none, some (.int x_3), some (.int x_4), none, some (.ref r8), some (.ref r20), some (.int x_5), some (.int 0), none] [] h31 Q) ∧ (¬ (x32 = 0) → Q (some (.int (-1000001))) h31))))) ∧ (x29 = 0 → (∃ fs38 : List Value, (h28).1 r_0 = .inr (10, fs38) ∧ Ev d (0, 0) MX11_found [.ref r_0, .int 2] h28 (fun r35 h36 => ∃ x37 : Int32, r35 = some (.int x37) ∧ Q (some (.int x37)) h36))))))) ∧ (¬ (x26 = 0) → (∃ fs43 : List Value, (h25).1 r_0 = .inr (10, fs43) ∧ Ev d (0, 0) MX11_found [.ref r_0, .int 1] h25 (fun r40 h41 => ∃ x42 : Int32, r40 = some (.int x42) ∧ Q (some (.int x42)) h41))))))))))))) ∧ (¬ (x_4 ≤ 96) → Q (some (.int (-1000001))) h5))))))))))) : Wm (d + 1) (0, 0) JX11_lift 0 [some (.ref r_0), some (.int x_1), some (.int x_2), some (.int x_3), some (.int x_4), some (.int x_5), none, none, none, none, none] [] h Q := by
  refine m_iload_n dX11_lift_0 rfl ?_
  refine m_static (as := [.int x_1]) (rest := []) cs_X11_98 dX11_lift_1 rfl rfl (Nat.le_of_ble_eq_true rfl) (Nat.le_of_eq (Nat.zero_add _)) (Nat.le_of_eq (Nat.zero_add _)) (b1 := (0, 0)) (b2 := (0, 0)) (Ev.mono hF ?_)
  intro r1 h2 hF
  obtain ⟨x3, rfl, hF⟩ := hF
  refine m_if_ne 26 dX11_lift_4 (by decide) (fun c => ?_) (fun c => ?_)
  · replace hF := hF.1 c
    refine m_ldc dX11_lift_26 kc_X11_64 ?_
    exact m_ireturn dX11_lift_28 trivial hF
  · replace hF := hF.2 c
    refine m_iload_n dX11_lift_7 rfl ?_
    refine m_static (as := [.int x_2]) (rest := []) cs_X11_60 dX11_lift_8 rfl rfl (Nat.le_of_ble_eq_true rfl) (Nat.le_of_eq (Nat.zero_add _)) (Nat.le_of_eq (Nat.zero_add _)) (b1 := (0, 0)) (b2 := (0, 0)) (Ev.mono hF ?_)
    intro r4 h5 hF
    obtain ⟨x6, rfl, hF⟩ := hF
    refine m_if_ne 26 dX11_lift_11 (by decide) (fun c => ?_) (fun c => ?_)
    · replace hF := hF.1 c
      refine m_ldc dX11_lift_26 kc_X11_64 ?_
      exact m_ireturn dX11_lift_28 trivial hF
    · replace hF := hF.2 c
      refine m_iload dX11_lift_14 rfl ?_
      refine m_if_lt 26 dX11_lift_16 (by decide) (fun c => ?_) (fun c => ?_)
      · replace hF := hF.1 c
        refine m_ldc dX11_lift_26 kc_X11_64 ?_
        exact m_ireturn dX11_lift_28 trivial hF
      · replace hF := hF.2 c
        refine m_iload dX11_lift_19 rfl ?_
        refine m_bipush dX11_lift_21 kb_96 ?_
        refine m_icmp_le 29 dX11_lift_23 (by decide) (fun c => ?_) (fun c => ?_)
        · replace hF := hF.1 c
          refine m_aload_n dX11_lift_29 rfl ?_
          obtain ⟨r7, e, hF⟩ := hF
          refine m_get fg_X11_20 dX11_lift_30 e ?_
          refine m_iload_n dX11_lift_33 rfl ?_
          rcases hF with ⟨e, hF⟩ | ⟨r8, e, hF⟩
          · refine m_aald dX11_lift_34 e ?_
            refine m_astoreN (ls2 := [some (.ref r_0), some (.int x_1), some (.int x_2), some (.int x_3), some (.int x_4), some (.int x_5), some (.null), none, none, none, none]) dX11_lift_35 (by decide) rfl ?_
            refine m_aload_n dX11_lift_37 rfl ?_
            obtain ⟨r9, e, hF⟩ := hF
            refine m_get fg_X11_11 dX11_lift_38 e ?_
            refine m_iload_n dX11_lift_41 rfl ?_
            rcases hF with ⟨e, hF⟩ | ⟨r10, e, hF⟩
            · refine m_aald dX11_lift_42 e ?_
              refine m_astoreN (ls2 := [some (.ref r_0), some (.int x_1), some (.int x_2), some (.int x_3), some (.int x_4), some (.int x_5), some (.null), some (.null), none, none, none]) dX11_lift_43 (by decide) rfl ?_
              refine m_aloadN dX11_lift_45 rfl ?_
              refine m_ifnullN 58 dX11_lift_47 (by decide) ?_
              refine m_aload_n dX11_lift_58 rfl ?_
              refine m_iconst dX11_lift_59 ki_1 ?_
              obtain ⟨fs14, e, hF⟩ := hF
              refine m_virtual (as := [.int 1]) (rest := []) cv_X11_65_10 e dX11_lift_60 rfl rfl (Nat.le_of_ble_eq_true rfl) (Nat.le_of_eq (Nat.zero_add _)) (Nat.le_of_eq (Nat.zero_add _)) (b1 := (0, 0)) (b2 := (0, 0)) (Ev.mono hF ?_)
              intro r11 h12 hF
              obtain ⟨x13, rfl, hF⟩ := hF
              exact m_ireturn dX11_lift_63 trivial hF
            · refine m_aald dX11_lift_42 e ?_
              refine m_astore (ls2 := [some (.ref r_0), some (.int x_1), some (.int x_2), some (.int x_3), some (.int x_4), some (.int x_5), some (.null), some (.ref r10), none, none, none]) dX11_lift_43 (by decide) rfl ?_
              refine m_aloadN dX11_lift_45 rfl ?_
              refine m_ifnullN 58 dX11_lift_47 (by decide) ?_
              refine m_aload_n dX11_lift_58 rfl ?_
              refine m_iconst dX11_lift_59 ki_1 ?_
              obtain ⟨fs18, e, hF⟩ := hF
              refine m_virtual (as := [.int 1]) (rest := []) cv_X11_65_10 e dX11_lift_60 rfl rfl (Nat.le_of_ble_eq_true rfl) (Nat.le_of_eq (Nat.zero_add _)) (Nat.le_of_eq (Nat.zero_add _)) (b1 := (0, 0)) (b2 := (0, 0)) (Ev.mono hF ?_)
              intro r15 h16 hF
              obtain ⟨x17, rfl, hF⟩ := hF
              exact m_ireturn dX11_lift_63 trivial hF
          · refine m_aald dX11_lift_34 e ?_
            refine m_astore (ls2 := [some (.ref r_0), some (.int x_1), some (.int x_2), some (.int x_3), some (.int x_4), some (.int x_5), some (.ref r8), none, none, none, none]) dX11_lift_35 (by decide) rfl ?_
            refine m_aload_n dX11_lift_37 rfl ?_
            obtain ⟨r19, e, hF⟩ := hF
            refine m_get fg_X11_11 dX11_lift_38 e ?_
            refine m_iload_n dX11_lift_41 rfl ?_
            rcases hF with ⟨e, hF⟩ | ⟨r20, e, hF⟩
            · refine m_aald dX11_lift_42 e ?_
              refine m_astoreN (ls2 := [some (.ref r_0), some (.int x_1), some (.int x_2), some (.int x_3), some (.int x_4), some (.int x_5), some (.ref r8), some (.null), none, none, none]) dX11_lift_43 (by decide) rfl ?_
              refine m_aload dX11_lift_45 rfl ?_
              refine m_ifnull dX11_lift_47 ?_
              refine m_aloadN dX11_lift_50 rfl ?_
              exact hF.elim
            · refine m_aald dX11_lift_42 e ?_
              refine m_astore (ls2 := [some (.ref r_0), some (.int x_1), some (.int x_2), some (.int x_3), some (.int x_4), some (.int x_5), some (.ref r8), some (.ref r20), none, none, none]) dX11_lift_43 (by decide) rfl ?_
              refine m_aload dX11_lift_45 rfl ?_
              refine m_ifnull dX11_lift_47 ?_
              refine m_aload dX11_lift_50 rfl ?_
              obtain ⟨fs44, e, hF⟩ := hF
              refine m_virtual (as := []) (rest := []) cv_X11_72_6 e dX11_lift_52 rfl rfl (Nat.le_of_ble_eq_true rfl) (Nat.le_of_eq (Nat.zero_add _)) (Nat.le_of_eq (Nat.zero_add _)) (b1 := (0, 0)) (b2 := (0, 0)) (Ev.mono hF ?_)
              intro r24 h25 hF
              obtain ⟨x26, rfl, hF⟩ := hF
              refine m_if_eq 64 dX11_lift_55 (by decide) (fun c => ?_) (fun c => ?_)
              · replace hF := hF.1 c
                refine m_aload dX11_lift_64 rfl ?_
                refine m_iload_n dX11_lift_66 rfl ?_
                refine m_iload dX11_lift_67 rfl ?_
                obtain ⟨fs39, e, hF⟩ := hF
                refine m_virtual (as := [.int x_3, .int x_4]) (rest := []) cv_X11_76_6 e dX11_lift_69 rfl rfl (Nat.le_of_ble_eq_true rfl) (Nat.le_of_eq (Nat.zero_add _)) (Nat.le_of_eq (Nat.zero_add _)) (b1 := (0, 0)) (b2 := (0, 0)) (Ev.mono hF ?_)
                intro r27 h28 hF
                obtain ⟨x29, rfl, hF⟩ := hF
                refine m_if_ne 81 dX11_lift_72 (by decide) (fun c => ?_) (fun c => ?_)
                · replace hF := hF.1 c
                  refine m_aload dX11_lift_81 rfl ?_
                  refine m_iload dX11_lift_83 rfl ?_
                  obtain ⟨c33, fs34, e, hc, hF⟩ := hF
                  refine m_virtual (as := [.int x_5]) (rest := []) (cw_X11_159 _ hc) e dX11_lift_85 rfl rfl (Nat.le_of_ble_eq_true rfl) (Nat.le_of_eq (Nat.zero_add _)) (Nat.le_of_eq (Nat.zero_add _)) (b1 := (0, 0)) (b2 := (0, 0)) (Ev.mono hF ?_)
                  intro r30 h31 hF
                  obtain ⟨x32, rfl, hF⟩ := hF
                  refine m_if_eq 94 dX11_lift_88 (by decide) (fun c => ?_) (fun c => ?_)
                  · replace hF := hF.1 c
                    refine m_iload dX11_lift_94 rfl ?_
                    refine m_istore (ls2 := [some (.ref r_0), some (.int x_1), some (.int x_2), some (.int x_3), some (.int x_4), some (.int x_5), some (.ref r8), some (.ref r20), some (.int x_5), none, none]) dX11_lift_96 (by decide) rfl ?_
                    refine m_iconst dX11_lift_98 ki_0 ?_
                    refine m_istore (ls2 := [some (.ref r_0), some (.int x_1), some (.int x_2), some (.int x_3), some (.int x_4), some (.int x_5), some (.ref r8), some (.ref r20), some (.int x_5), some (.int 0), none]) dX11_lift_99 (by decide) rfl ?_
                    refine m_wk [1, 2, 5] rfl ?_
                    exact hF
                  · replace hF := hF.2 c
                    refine m_ldc dX11_lift_91 kc_X11_64 ?_
                    exact m_ireturn dX11_lift_93 trivial hF
                · replace hF := hF.2 c
                  refine m_aload_n dX11_lift_75 rfl ?_
                  refine m_iconst dX11_lift_76 ki_2 ?_
                  obtain ⟨fs38, e, hF⟩ := hF
                  refine m_virtual (as := [.int 2]) (rest := []) cv_X11_65_10 e dX11_lift_77 rfl rfl (Nat.le_of_ble_eq_true rfl) (Nat.le_of_eq (Nat.zero_add _)) (Nat.le_of_eq (Nat.zero_add _)) (b1 := (0, 0)) (b2 := (0, 0)) (Ev.mono hF ?_)
                  intro r35 h36 hF
                  obtain ⟨x37, rfl, hF⟩ := hF
                  exact m_ireturn dX11_lift_80 trivial hF
              · replace hF := hF.2 c
                refine m_aload_n dX11_lift_58 rfl ?_
                refine m_iconst dX11_lift_59 ki_1 ?_
                obtain ⟨fs43, e, hF⟩ := hF
                refine m_virtual (as := [.int 1]) (rest := []) cv_X11_65_10 e dX11_lift_60 rfl rfl (Nat.le_of_ble_eq_true rfl) (Nat.le_of_eq (Nat.zero_add _)) (Nat.le_of_eq (Nat.zero_add _)) (b1 := (0, 0)) (b2 := (0, 0)) (Ev.mono hF ?_)
                intro r40 h41 hF
                obtain ⟨x42, rfl, hF⟩ := hF
                exact m_ireturn dX11_lift_63 trivial hF
        · replace hF := hF.2 c
          refine m_ldc dX11_lift_26 kc_X11_64 ?_
          exact m_ireturn dX11_lift_28 trivial hF
theorem bk_X11_lift_101 {d : Nat} (r_0 : Nat) (x_3 : Int32) (x_4 : Int32) (r_6 : Nat) (r_7 : Nat) (x_8 : Int32) (x_9 : Int32) {h : mH} {Q : Option Value → mH → Prop} (hF : ((x_4 ≤ x_9 → (∃ fs4 : List Value, (h).1 r_0 = .inr (10, fs4) ∧ Ev d (0, 0) MX11_fine [.ref r_0, .int x_8] h (fun r1 h2 => ∃ x3 : Int32, r1 = some (.int x3) ∧ Q (some (.int x3)) h2))) ∧ (¬ (x_4 ≤ x_9) → (∃ fs18 : List Value, (h).1 r_7 = .inr (6, fs18) ∧ Ev d (0, 0) MX7_item [.ref r_7, .int (x_3 + x_9)] h (fun r5 h6 => ∃ x7 : Int32, r5 = some (.int x7) ∧ (∃ (c16 : Nat) (fs17 : List Value), (h6).1 r_6 = .inr (c16, fs17) ∧ c16 ∈ [0, 1, 4, 8, 9] ∧ Ev d (0, 0) MX1_noStep [.ref r_6, .int x7] h6 (fun r8 h9 => ∃ x10 : Int32, r8 = some (.int x10) ∧ ((x10 = 0 → (∃ (c14 : Nat) (fs15 : List Value), (h9).1 r_6 = .inr (c14, fs15) ∧ c14 ∈ [0, 1, 4, 8, 9] ∧ Ev d (0, 0) MX1_stepped [.ref r_6, .int x7, .int x_8] h9 (fun r11 h12 => ∃ x13 : Int32, r11 = some (.int x13) ∧ Wm (d + 1) (0, 0) JX11_lift 101 [some (.ref r_0), none, none, some (.int x_3), some (.int x_4), none, some (.ref r_6), some (.ref r_7), some (.int x13), some (.int (x_9 + 1)), none] [] h12 Q))) ∧ (¬ (x10 = 0) → Q (some (.int (-1000001))) h9))))))))) : Wm (d + 1) (0, 0) JX11_lift 101 [some (.ref r_0), none, none, some (.int x_3), some (.int x_4), none, some (.ref r_6), some (.ref r_7), some (.int x_8), some (.int x_9), none] [] h Q := by
  refine m_iload dX11_lift_101 rfl ?_
  refine m_iload dX11_lift_103 rfl ?_
  refine m_icmp_ge 149 dX11_lift_105 (by decide) (fun c => ?_) (fun c => ?_)
  · replace hF := hF.1 c
    refine m_aload_n dX11_lift_149 rfl ?_
    refine m_iload dX11_lift_150 rfl ?_
    obtain ⟨fs4, e, hF⟩ := hF
    refine m_virtual (as := [.int x_8]) (rest := []) cv_X11_69_10 e dX11_lift_152 rfl rfl (Nat.le_of_ble_eq_true rfl) (Nat.le_of_eq (Nat.zero_add _)) (Nat.le_of_eq (Nat.zero_add _)) (b1 := (0, 0)) (b2 := (0, 0)) (Ev.mono hF ?_)
    intro r1 h2 hF
    obtain ⟨x3, rfl, hF⟩ := hF
    exact m_ireturn dX11_lift_155 trivial hF
  · replace hF := hF.2 c
    refine m_aload dX11_lift_108 rfl ?_
    refine m_iload_n dX11_lift_110 rfl ?_
    refine m_iload dX11_lift_111 rfl ?_
    refine m_iadd dX11_lift_113 ?_
    obtain ⟨fs18, e, hF⟩ := hF
    refine m_virtual (as := [.int (x_3 + x_9)]) (rest := []) cv_X11_215_6 e dX11_lift_114 rfl rfl (Nat.le_of_ble_eq_true rfl) (Nat.le_of_eq (Nat.zero_add _)) (Nat.le_of_eq (Nat.zero_add _)) (b1 := (0, 0)) (b2 := (0, 0)) (Ev.mono hF ?_)
    intro r5 h6 hF
    obtain ⟨x7, rfl, hF⟩ := hF
    refine m_istore (ls2 := [some (.ref r_0), none, none, some (.int x_3), some (.int x_4), none, some (.ref r_6), some (.ref r_7), some (.int x_8), some (.int x_9), some (.int x7)]) dX11_lift_117 (by decide) rfl ?_
    refine m_aload dX11_lift_119 rfl ?_
    refine m_iload dX11_lift_121 rfl ?_
    obtain ⟨c16, fs17, e, hc, hF⟩ := hF
    refine m_virtual (as := [.int x7]) (rest := []) (cw_X11_218 _ hc) e dX11_lift_123 rfl rfl (Nat.le_of_ble_eq_true rfl) (Nat.le_of_eq (Nat.zero_add _)) (Nat.le_of_eq (Nat.zero_add _)) (b1 := (0, 0)) (b2 := (0, 0)) (Ev.mono hF ?_)
    intro r8 h9 hF
    obtain ⟨x10, rfl, hF⟩ := hF
    refine m_if_eq 132 dX11_lift_126 (by decide) (fun c => ?_) (fun c => ?_)
    · replace hF := hF.1 c
      refine m_aload dX11_lift_132 rfl ?_
      refine m_iload dX11_lift_134 rfl ?_
      refine m_iload dX11_lift_136 rfl ?_
      obtain ⟨c14, fs15, e, hc, hF⟩ := hF
      refine m_virtual (as := [.int x7, .int x_8]) (rest := []) (cw_X11_221 _ hc) e dX11_lift_138 rfl rfl (Nat.le_of_ble_eq_true rfl) (Nat.le_of_eq (Nat.zero_add _)) (Nat.le_of_eq (Nat.zero_add _)) (b1 := (0, 0)) (b2 := (0, 0)) (Ev.mono hF ?_)
      intro r11 h12 hF
      obtain ⟨x13, rfl, hF⟩ := hF
      refine m_istore (ls2 := [some (.ref r_0), none, none, some (.int x_3), some (.int x_4), none, some (.ref r_6), some (.ref r_7), some (.int x13), some (.int x_9), some (.int x7)]) dX11_lift_141 (by decide) rfl ?_
      refine m_iinc (v := x_9 + 1) (ls2 := [some (.ref r_0), none, none, some (.int x_3), some (.int x_4), none, some (.ref r_6), some (.ref r_7), some (.int x13), some (.int (x_9 + 1)), some (.int x7)]) dX11_lift_143 (by decide) rfl (congrArg (_ + ·) ki_1) rfl ?_
      refine m_goto 101 dX11_lift_146 (by decide) ?_
      refine m_wk [10] rfl ?_
      exact hF
    · replace hF := hF.2 c
      refine m_ldc dX11_lift_129 kc_X11_64 ?_
      exact m_ireturn dX11_lift_131 trivial hF
theorem en_X11_lift {d : Nat} {r_0 : Nat} {x_1 : Int32} {x_2 : Int32} {x_3 : Int32} {x_4 : Int32} {x_5 : Int32} {h : mH} {K : Option Value → mH → Prop} (hk : Wm (d + 1) (0, 0) JX11_lift 0 [some (.ref r_0), some (.int x_1), some (.int x_2), some (.int x_3), some (.int x_4), some (.int x_5), none, none, none, none, none] [] h (fun r h' => h'.1 0 = h.1 0 ∧ K r h')) : Ev (d + 1) (0, 0) MX11_lift [.ref r_0, .int x_1, .int x_2, .int x_3, .int x_4, .int x_5] h K :=
  m_met pn_X11 nl_X11 (fun _ => Nat.le_of_ble_eq_true rfl) hk
theorem bk_X11_kind_0 {d : Nat} (r_0 : Nat) (x_1 : Int32) {h : mH} {Q : Option Value → mH → Prop} (hF : Ev d (0, 0) MX11_noPlace [.int x_1] h (fun r1 h2 => ∃ x3 : Int32, r1 = some (.int x3) ∧ ((x3 = 0 → (∃ r4 : Nat, m_fld h2 r_0 [10] 1 = some (.ref r4) ∧ ((m_rl h2 r4 x_1 = some .null ∧ (∃ fs9 : List Value, (h2).1 r_0 = .inr (10, fs9) ∧ Ev d (0, 0) MX11_found [.ref r_0, .int 1] h2 (fun r6 h7 => ∃ x8 : Int32, r6 = some (.int x8) ∧ Q (some (.int x8)) h7))) ∨ (∃ r5 : Nat, m_rl h2 r4 x_1 = some (.ref r5) ∧ (∃ (c17 : Nat) (fs18 : List Value), (h2).1 r5 = .inr (c17, fs18) ∧ c17 ∈ [0, 1, 4, 8, 9] ∧ Ev d (0, 0) (tg_X11_224 c17) [.ref r5] h2 (fun r10 h11 => ∃ x12 : Int32, r10 = some (.int x12) ∧ (∃ fs16 : List Value, (h11).1 r_0 = .inr (10, fs16) ∧ Ev d (0, 0) MX11_fine [.ref r_0, .int x12] h11 (fun r13 h14 => ∃ x15 : Int32, r13 = some (.int x15) ∧ Q (some (.int x15)) h14)))))))) ∧ (¬ (x3 = 0) → Q (some (.int (-1000001))) h2)))) : Wm (d + 1) (0, 0) JX11_kind 0 [some (.ref r_0), some (.int x_1), none] [] h Q := by
  refine m_iload_n dX11_kind_0 rfl ?_
  refine m_static (as := [.int x_1]) (rest := []) cs_X11_98 dX11_kind_1 rfl rfl (Nat.le_of_ble_eq_true rfl) (Nat.le_of_eq (Nat.zero_add _)) (Nat.le_of_eq (Nat.zero_add _)) (b1 := (0, 0)) (b2 := (0, 0)) (Ev.mono hF ?_)
  intro r1 h2 hF
  obtain ⟨x3, rfl, hF⟩ := hF
  refine m_if_eq 10 dX11_kind_4 (by decide) (fun c => ?_) (fun c => ?_)
  · replace hF := hF.1 c
    refine m_aload_n dX11_kind_10 rfl ?_
    obtain ⟨r4, e, hF⟩ := hF
    refine m_get fg_X11_20 dX11_kind_11 e ?_
    refine m_iload_n dX11_kind_14 rfl ?_
    rcases hF with ⟨e, hF⟩ | ⟨r5, e, hF⟩
    · refine m_aald dX11_kind_15 e ?_
      refine m_astore_nN (ls2 := [some (.ref r_0), some (.int x_1), some (.null)]) dX11_kind_16 (by decide) rfl ?_
      refine m_aload_nN dX11_kind_17 rfl ?_
      refine m_ifnonnullN dX11_kind_18 ?_
      refine m_aload_n dX11_kind_21 rfl ?_
      refine m_iconst dX11_kind_22 ki_1 ?_
      obtain ⟨fs9, e, hF⟩ := hF
      refine m_virtual (as := [.int 1]) (rest := []) cv_X11_65_10 e dX11_kind_23 rfl rfl (Nat.le_of_ble_eq_true rfl) (Nat.le_of_eq (Nat.zero_add _)) (Nat.le_of_eq (Nat.zero_add _)) (b1 := (0, 0)) (b2 := (0, 0)) (Ev.mono hF ?_)
      intro r6 h7 hF
      obtain ⟨x8, rfl, hF⟩ := hF
      refine m_goto 37 dX11_kind_26 (by decide) ?_
      exact m_ireturn dX11_kind_37 trivial hF
    · refine m_aald dX11_kind_15 e ?_
      refine m_astore_n (ls2 := [some (.ref r_0), some (.int x_1), some (.ref r5)]) dX11_kind_16 (by decide) rfl ?_
      refine m_aload_n dX11_kind_17 rfl ?_
      refine m_ifnonnull 29 dX11_kind_18 (by decide) ?_
      refine m_aload_n dX11_kind_29 rfl ?_
      refine m_aload_n dX11_kind_30 rfl ?_
      obtain ⟨c17, fs18, e, hc, hF⟩ := hF
      refine m_virtual (as := []) (rest := [.ref r_0]) (cw_X11_224 _ hc) e dX11_kind_31 rfl rfl (Nat.le_of_ble_eq_true rfl) (Nat.le_of_eq (Nat.zero_add _)) (Nat.le_of_eq (Nat.zero_add _)) (b1 := (0, 0)) (b2 := (0, 0)) (Ev.mono hF ?_)
      intro r10 h11 hF
      obtain ⟨x12, rfl, hF⟩ := hF
      obtain ⟨fs16, e, hF⟩ := hF
      refine m_virtual (as := [.int x12]) (rest := []) cv_X11_69_10 e dX11_kind_34 rfl rfl (Nat.le_of_ble_eq_true rfl) (Nat.le_of_eq (Nat.zero_add _)) (Nat.le_of_eq (Nat.zero_add _)) (b1 := (0, 0)) (b2 := (0, 0)) (Ev.mono hF ?_)
      intro r13 h14 hF
      obtain ⟨x15, rfl, hF⟩ := hF
      exact m_ireturn dX11_kind_37 trivial hF
  · replace hF := hF.2 c
    refine m_ldc dX11_kind_7 kc_X11_64 ?_
    exact m_ireturn dX11_kind_9 trivial hF
theorem en_X11_kind {d : Nat} {r_0 : Nat} {x_1 : Int32} {h : mH} {K : Option Value → mH → Prop} (hk : Wm (d + 1) (0, 0) JX11_kind 0 [some (.ref r_0), some (.int x_1), none] [] h (fun r h' => h'.1 0 = h.1 0 ∧ K r h')) : Ev (d + 1) (0, 0) MX11_kind [.ref r_0, .int x_1] h K :=
  m_met pn_X11 nl_X11 (fun _ => Nat.le_of_ble_eq_true rfl) hk
theorem bk_X11_is_0 {d : Nat} (r_0 : Nat) (x_1 : Int32) (x_2 : Int32) {h : mH} {Q : Option Value → mH → Prop} (hF : Ev d (0, 0) MX11_noPlace [.int x_1] h (fun r1 h2 => ∃ x3 : Int32, r1 = some (.int x3) ∧ ((¬ x3 = 0 → Q (some (.int (-1000001))) h2) ∧ (x3 = 0 → ((x_2 < 0 → Q (some (.int (-1000001))) h2) ∧ (¬ (x_2 < 0) → ((x_2 < 5 → (∃ r4 : Nat, m_fld h2 r_0 [10] 1 = some (.ref r4) ∧ ((m_rl h2 r4 x_1 = some .null ∧ Ev d (0, 0) MX11_ofKind [.null, .int x_2] h2 (fun r6 h7 => ∃ x8 : Int32, r6 = some (.int x8) ∧ ((x8 = 0 → Q (some (.int 0)) h7) ∧ (¬ (x8 = 0) → Q (some (.int 1)) h7)))) ∨ (∃ r5 : Nat, m_rl h2 r4 x_1 = some (.ref r5) ∧ Ev d (0, 0) MX11_ofKind [.ref r5, .int x_2] h2 (fun r9 h10 => ∃ x11 : Int32, r9 = some (.int x11) ∧ ((x11 = 0 → Q (some (.int 0)) h10) ∧ (¬ (x11 = 0) → Q (some (.int 1)) h10))))))) ∧ (¬ (x_2 < 5) → Q (some (.int (-1000001))) h2)))))))) : Wm (d + 1) (0, 0) JX11_is 0 [some (.ref r_0), some (.int x_1), some (.int x_2)] [] h Q := by
  refine m_iload_n dX11_is_0 rfl ?_
  refine m_static (as := [.int x_1]) (rest := []) cs_X11_98 dX11_is_1 rfl rfl (Nat.le_of_ble_eq_true rfl) (Nat.le_of_eq (Nat.zero_add _)) (Nat.le_of_eq (Nat.zero_add _)) (b1 := (0, 0)) (b2 := (0, 0)) (Ev.mono hF ?_)
  intro r1 h2 hF
  obtain ⟨x3, rfl, hF⟩ := hF
  refine m_if_ne 16 dX11_is_4 (by decide) (fun c => ?_) (fun c => ?_)
  · replace hF := hF.1 c
    refine m_ldc dX11_is_16 kc_X11_64 ?_
    exact m_ireturn dX11_is_18 trivial hF
  · replace hF := hF.2 c
    refine m_iload_n dX11_is_7 rfl ?_
    refine m_if_lt 16 dX11_is_8 (by decide) (fun c => ?_) (fun c => ?_)
    · replace hF := hF.1 c
      refine m_ldc dX11_is_16 kc_X11_64 ?_
      exact m_ireturn dX11_is_18 trivial hF
    · replace hF := hF.2 c
      refine m_iload_n dX11_is_11 rfl ?_
      refine m_iconst dX11_is_12 ki_5 ?_
      refine m_icmp_lt 19 dX11_is_13 (by decide) (fun c => ?_) (fun c => ?_)
      · replace hF := hF.1 c
        refine m_aload_n dX11_is_19 rfl ?_
        obtain ⟨r4, e, hF⟩ := hF
        refine m_get fg_X11_20 dX11_is_20 e ?_
        refine m_iload_n dX11_is_23 rfl ?_
        rcases hF with ⟨e, hF⟩ | ⟨r5, e, hF⟩
        · refine m_aald dX11_is_24 e ?_
          refine m_iload_n dX11_is_25 rfl ?_
          refine m_static (as := [.null, .int x_2]) (rest := []) cs_X11_228 dX11_is_26 rfl rfl (Nat.le_of_ble_eq_true rfl) (Nat.le_of_eq (Nat.zero_add _)) (Nat.le_of_eq (Nat.zero_add _)) (b1 := (0, 0)) (b2 := (0, 0)) (Ev.mono hF ?_)
          intro r6 h7 hF
          obtain ⟨x8, rfl, hF⟩ := hF
          refine m_if_eq 36 dX11_is_29 (by decide) (fun c => ?_) (fun c => ?_)
          · replace hF := hF.1 c
            refine m_iconst dX11_is_36 ki_0 ?_
            exact m_ireturn dX11_is_37 trivial hF
          · replace hF := hF.2 c
            refine m_iconst dX11_is_32 ki_1 ?_
            refine m_goto 37 dX11_is_33 (by decide) ?_
            exact m_ireturn dX11_is_37 trivial hF
        · refine m_aald dX11_is_24 e ?_
          refine m_iload_n dX11_is_25 rfl ?_
          refine m_static (as := [.ref r5, .int x_2]) (rest := []) cs_X11_228 dX11_is_26 rfl rfl (Nat.le_of_ble_eq_true rfl) (Nat.le_of_eq (Nat.zero_add _)) (Nat.le_of_eq (Nat.zero_add _)) (b1 := (0, 0)) (b2 := (0, 0)) (Ev.mono hF ?_)
          intro r9 h10 hF
          obtain ⟨x11, rfl, hF⟩ := hF
          refine m_if_eq 36 dX11_is_29 (by decide) (fun c => ?_) (fun c => ?_)
          · replace hF := hF.1 c
            refine m_iconst dX11_is_36 ki_0 ?_
            exact m_ireturn dX11_is_37 trivial hF
          · replace hF := hF.2 c
            refine m_iconst dX11_is_32 ki_1 ?_
            refine m_goto 37 dX11_is_33 (by decide) ?_
            exact m_ireturn dX11_is_37 trivial hF
      · replace hF := hF.2 c
        refine m_ldc dX11_is_16 kc_X11_64 ?_
        exact m_ireturn dX11_is_18 trivial hF
theorem en_X11_is {d : Nat} {r_0 : Nat} {x_1 : Int32} {x_2 : Int32} {h : mH} {K : Option Value → mH → Prop} (hk : Wm (d + 1) (0, 0) JX11_is 0 [some (.ref r_0), some (.int x_1), some (.int x_2)] [] h (fun r h' => h'.1 0 = h.1 0 ∧ K r h')) : Ev (d + 1) (0, 0) MX11_is [.ref r_0, .int x_1, .int x_2] h K :=
  m_met pn_X11 nl_X11 (fun _ => Nat.le_of_ble_eq_true rfl) hk
theorem bk_X11_as_0 {d : Nat} (r_0 : Nat) (x_1 : Int32) (x_2 : Int32) {h : mH} {Q : Option Value → mH → Prop} (hF : Ev d (0, 0) MX11_noPlace [.int x_1] h (fun r1 h2 => ∃ x3 : Int32, r1 = some (.int x3) ∧ ((¬ x3 = 0 → Q (some (.int (-1000001))) h2) ∧ (x3 = 0 → ((x_2 < 0 → Q (some (.int (-1000001))) h2) ∧ (¬ (x_2 < 0) → ((x_2 < 5 → (∃ r4 : Nat, m_fld h2 r_0 [10] 1 = some (.ref r4) ∧ ((m_rl h2 r4 x_1 = some .null ∧ (∃ fs9 : List Value, (h2).1 r_0 = .inr (10, fs9) ∧ Ev d (0, 0) MX11_found [.ref r_0, .int 1] h2 (fun r6 h7 => ∃ x8 : Int32, r6 = some (.int x8) ∧ Q (some (.int x8)) h7))) ∨ (∃ r5 : Nat, m_rl h2 r4 x_1 = some (.ref r5) ∧ Ev d (0, 0) MX11_ofKind [.ref r5, .int x_2] h2 (fun r10 h11 => ∃ x12 : Int32, r10 = some (.int x12) ∧ ((x12 = 0 → (∃ fs16 : List Value, (h11).1 r_0 = .inr (10, fs16) ∧ Ev d (0, 0) MX11_found [.ref r_0, .int 3] h11 (fun r13 h14 => ∃ x15 : Int32, r13 = some (.int x15) ∧ Q (some (.int x15)) h14))) ∧ (¬ (x12 = 0) → (∃ x17 : Int32, m_fld h11 r5 [0, 1, 4, 8, 9] 0 = some (.int x17) ∧ (∃ fs21 : List Value, (h11).1 r_0 = .inr (10, fs21) ∧ Ev d (0, 0) MX11_fine [.ref r_0, .int x17] h11 (fun r18 h19 => ∃ x20 : Int32, r18 = some (.int x20) ∧ Q (some (.int x20)) h19)))))))))) ∧ (¬ (x_2 < 5) → Q (some (.int (-1000001))) h2)))))))) : Wm (d + 1) (0, 0) JX11_as 0 [some (.ref r_0), some (.int x_1), some (.int x_2), none] [] h Q := by
  refine m_iload_n dX11_as_0 rfl ?_
  refine m_static (as := [.int x_1]) (rest := []) cs_X11_98 dX11_as_1 rfl rfl (Nat.le_of_ble_eq_true rfl) (Nat.le_of_eq (Nat.zero_add _)) (Nat.le_of_eq (Nat.zero_add _)) (b1 := (0, 0)) (b2 := (0, 0)) (Ev.mono hF ?_)
  intro r1 h2 hF
  obtain ⟨x3, rfl, hF⟩ := hF
  refine m_if_ne 16 dX11_as_4 (by decide) (fun c => ?_) (fun c => ?_)
  · replace hF := hF.1 c
    refine m_ldc dX11_as_16 kc_X11_64 ?_
    exact m_ireturn dX11_as_18 trivial hF
  · replace hF := hF.2 c
    refine m_iload_n dX11_as_7 rfl ?_
    refine m_if_lt 16 dX11_as_8 (by decide) (fun c => ?_) (fun c => ?_)
    · replace hF := hF.1 c
      refine m_ldc dX11_as_16 kc_X11_64 ?_
      exact m_ireturn dX11_as_18 trivial hF
    · replace hF := hF.2 c
      refine m_iload_n dX11_as_11 rfl ?_
      refine m_iconst dX11_as_12 ki_5 ?_
      refine m_icmp_lt 19 dX11_as_13 (by decide) (fun c => ?_) (fun c => ?_)
      · replace hF := hF.1 c
        refine m_aload_n dX11_as_19 rfl ?_
        obtain ⟨r4, e, hF⟩ := hF
        refine m_get fg_X11_20 dX11_as_20 e ?_
        refine m_iload_n dX11_as_23 rfl ?_
        rcases hF with ⟨e, hF⟩ | ⟨r5, e, hF⟩
        · refine m_aald dX11_as_24 e ?_
          refine m_astore_nN (ls2 := [some (.ref r_0), some (.int x_1), some (.int x_2), some (.null)]) dX11_as_25 (by decide) rfl ?_
          refine m_aload_nN dX11_as_26 rfl ?_
          refine m_ifnonnullN dX11_as_27 ?_
          refine m_aload_n dX11_as_30 rfl ?_
          refine m_iconst dX11_as_31 ki_1 ?_
          obtain ⟨fs9, e, hF⟩ := hF
          refine m_virtual (as := [.int 1]) (rest := []) cv_X11_65_10 e dX11_as_32 rfl rfl (Nat.le_of_ble_eq_true rfl) (Nat.le_of_eq (Nat.zero_add _)) (Nat.le_of_eq (Nat.zero_add _)) (b1 := (0, 0)) (b2 := (0, 0)) (Ev.mono hF ?_)
          intro r6 h7 hF
          obtain ⟨x8, rfl, hF⟩ := hF
          exact m_ireturn dX11_as_35 trivial hF
        · refine m_aald dX11_as_24 e ?_
          refine m_astore_n (ls2 := [some (.ref r_0), some (.int x_1), some (.int x_2), some (.ref r5)]) dX11_as_25 (by decide) rfl ?_
          refine m_aload_n dX11_as_26 rfl ?_
          refine m_ifnonnull 36 dX11_as_27 (by decide) ?_
          refine m_aload_n dX11_as_36 rfl ?_
          refine m_iload_n dX11_as_37 rfl ?_
          refine m_static (as := [.ref r5, .int x_2]) (rest := []) cs_X11_228 dX11_as_38 rfl rfl (Nat.le_of_ble_eq_true rfl) (Nat.le_of_eq (Nat.zero_add _)) (Nat.le_of_eq (Nat.zero_add _)) (b1 := (0, 0)) (b2 := (0, 0)) (Ev.mono hF ?_)
          intro r10 h11 hF
          obtain ⟨x12, rfl, hF⟩ := hF
          refine m_if_eq 55 dX11_as_41 (by decide) (fun c => ?_) (fun c => ?_)
          · replace hF := hF.1 c
            refine m_aload_n dX11_as_55 rfl ?_
            refine m_iconst dX11_as_56 ki_3 ?_
            obtain ⟨fs16, e, hF⟩ := hF
            refine m_virtual (as := [.int 3]) (rest := []) cv_X11_65_10 e dX11_as_57 rfl rfl (Nat.le_of_ble_eq_true rfl) (Nat.le_of_eq (Nat.zero_add _)) (Nat.le_of_eq (Nat.zero_add _)) (b1 := (0, 0)) (b2 := (0, 0)) (Ev.mono hF ?_)
            intro r13 h14 hF
            obtain ⟨x15, rfl, hF⟩ := hF
            exact m_ireturn dX11_as_60 trivial hF
          · replace hF := hF.2 c
            refine m_aload_n dX11_as_44 rfl ?_
            refine m_aload_n dX11_as_45 rfl ?_
            obtain ⟨x17, e, hF⟩ := hF
            refine m_get fg_X11_143 dX11_as_46 e ?_
            obtain ⟨fs21, e, hF⟩ := hF
            refine m_virtual (as := [.int x17]) (rest := []) cv_X11_69_10 e dX11_as_49 rfl rfl (Nat.le_of_ble_eq_true rfl) (Nat.le_of_eq (Nat.zero_add _)) (Nat.le_of_eq (Nat.zero_add _)) (b1 := (0, 0)) (b2 := (0, 0)) (Ev.mono hF ?_)
            intro r18 h19 hF
            obtain ⟨x20, rfl, hF⟩ := hF
            refine m_goto 60 dX11_as_52 (by decide) ?_
            exact m_ireturn dX11_as_60 trivial hF
      · replace hF := hF.2 c
        refine m_ldc dX11_as_16 kc_X11_64 ?_
        exact m_ireturn dX11_as_18 trivial hF
theorem en_X11_as {d : Nat} {r_0 : Nat} {x_1 : Int32} {x_2 : Int32} {h : mH} {K : Option Value → mH → Prop} (hk : Wm (d + 1) (0, 0) JX11_as 0 [some (.ref r_0), some (.int x_1), some (.int x_2), none] [] h (fun r h' => h'.1 0 = h.1 0 ∧ K r h')) : Ev (d + 1) (0, 0) MX11_as [.ref r_0, .int x_1, .int x_2] h K :=
  m_met pn_X11 nl_X11 (fun _ => Nat.le_of_ble_eq_true rfl) hk
theorem bk_X11_ask_0 {d : Nat} (r_0 : Nat) (x_1 : Int32) (x_2 : Int32) {h : mH} {Q : Option Value → mH → Prop} (hF : Ev d (0, 0) MX11_noPlace [.int x_1] h (fun r1 h2 => ∃ x3 : Int32, r1 = some (.int x3) ∧ ((¬ x3 = 0 → Q (some (.int (-1000001))) h2) ∧ (x3 = 0 → ((x_2 < 0 → Q (some (.int (-1000001))) h2) ∧ (¬ (x_2 < 0) → ((x_2 ≤ 1 → (∃ r4 : Nat, m_fld h2 r_0 [10] 2 = some (.ref r4) ∧ (∃ fs33 : List Value, (h2).1 r4 = .inr (6, fs33) ∧ Ev d (0, 0) MX7_begin [.ref r4, .int 2, .int 0] h2 (fun r5 h6 => r5 = none ∧ (∃ r7 : Nat, m_fld h6 r_0 [10] 1 = some (.ref r7) ∧ ((m_rl h6 r7 x_1 = some .null ∧ (∃ fs12 : List Value, (h6).1 r_0 = .inr (10, fs12) ∧ Ev d (0, 0) MX11_found [.ref r_0, .int 1] h6 (fun r9 h10 => ∃ x11 : Int32, r9 = some (.int x11) ∧ Q (some (.int x11)) h10))) ∨ (∃ r8 : Nat, m_rl h6 r7 x_1 = some (.ref r8) ∧ ((¬ x_2 = 0 → (∃ r13 : Nat, m_fld h6 r_0 [10] 2 = some (.ref r13) ∧ (∃ (c21 : Nat) (fs22 : List Value), (h6).1 r8 = .inr (c21, fs22) ∧ c21 ∈ [0, 1, 4, 8, 9] ∧ Ev d (0, 0) (tg_X11_236 c21) [.ref r8, .ref r13] h6 (fun r14 h15 => ∃ x16 : Int32, r14 = some (.int x16) ∧ (∃ fs20 : List Value, (h15).1 r_0 = .inr (10, fs20) ∧ Ev d (0, 0) MX11_fine [.ref r_0, .int x16] h15 (fun r17 h18 => ∃ x19 : Int32, r17 = some (.int x19) ∧ Q (some (.int x19)) h18)))))) ∧ (x_2 = 0 → (∃ r23 : Nat, m_fld h6 r_0 [10] 2 = some (.ref r23) ∧ (∃ (c31 : Nat) (fs32 : List Value), (h6).1 r8 = .inr (c31, fs32) ∧ c31 ∈ [0, 1, 4, 8, 9] ∧ Ev d (0, 0) (tg_X11_232 c31) [.ref r8, .ref r23] h6 (fun r24 h25 => ∃ x26 : Int32, r24 = some (.int x26) ∧ (∃ fs30 : List Value, (h25).1 r_0 = .inr (10, fs30) ∧ Ev d (0, 0) MX11_fine [.ref r_0, .int x26] h25 (fun r27 h28 => ∃ x29 : Int32, r27 = some (.int x29) ∧ Q (some (.int x29)) h28)))))))))))))) ∧ (¬ (x_2 ≤ 1) → Q (some (.int (-1000001))) h2)))))))) : Wm (d + 1) (0, 0) JX11_ask 0 [some (.ref r_0), some (.int x_1), some (.int x_2), none] [] h Q := by
  refine m_iload_n dX11_ask_0 rfl ?_
  refine m_static (as := [.int x_1]) (rest := []) cs_X11_98 dX11_ask_1 rfl rfl (Nat.le_of_ble_eq_true rfl) (Nat.le_of_eq (Nat.zero_add _)) (Nat.le_of_eq (Nat.zero_add _)) (b1 := (0, 0)) (b2 := (0, 0)) (Ev.mono hF ?_)
  intro r1 h2 hF
  obtain ⟨x3, rfl, hF⟩ := hF
  refine m_if_ne 16 dX11_ask_4 (by decide) (fun c => ?_) (fun c => ?_)
  · replace hF := hF.1 c
    refine m_ldc dX11_ask_16 kc_X11_64 ?_
    exact m_ireturn dX11_ask_18 trivial hF
  · replace hF := hF.2 c
    refine m_iload_n dX11_ask_7 rfl ?_
    refine m_if_lt 16 dX11_ask_8 (by decide) (fun c => ?_) (fun c => ?_)
    · replace hF := hF.1 c
      refine m_ldc dX11_ask_16 kc_X11_64 ?_
      exact m_ireturn dX11_ask_18 trivial hF
    · replace hF := hF.2 c
      refine m_iload_n dX11_ask_11 rfl ?_
      refine m_iconst dX11_ask_12 ki_1 ?_
      refine m_icmp_le 19 dX11_ask_13 (by decide) (fun c => ?_) (fun c => ?_)
      · replace hF := hF.1 c
        refine m_aload_n dX11_ask_19 rfl ?_
        obtain ⟨r4, e, hF⟩ := hF
        refine m_get fg_X11_24 dX11_ask_20 e ?_
        refine m_iconst dX11_ask_23 ki_2 ?_
        refine m_iconst dX11_ask_24 ki_0 ?_
        obtain ⟨fs33, e, hF⟩ := hF
        refine m_virtual (as := [.int 2, .int 0]) (rest := []) cv_X11_28_6 e dX11_ask_25 rfl rfl (Nat.le_of_ble_eq_true rfl) (Nat.le_of_eq (Nat.zero_add _)) (Nat.le_of_eq (Nat.zero_add _)) (b1 := (0, 0)) (b2 := (0, 0)) (Ev.mono hF ?_)
        intro r5 h6 hF
        obtain ⟨rfl, hF⟩ := hF
        refine m_aload_n dX11_ask_28 rfl ?_
        obtain ⟨r7, e, hF⟩ := hF
        refine m_get fg_X11_20 dX11_ask_29 e ?_
        refine m_iload_n dX11_ask_32 rfl ?_
        rcases hF with ⟨e, hF⟩ | ⟨r8, e, hF⟩
        · refine m_aald dX11_ask_33 e ?_
          refine m_astore_nN (ls2 := [some (.ref r_0), some (.int x_1), some (.int x_2), some (.null)]) dX11_ask_34 (by decide) rfl ?_
          refine m_aload_nN dX11_ask_35 rfl ?_
          refine m_ifnonnullN dX11_ask_36 ?_
          refine m_aload_n dX11_ask_39 rfl ?_
          refine m_iconst dX11_ask_40 ki_1 ?_
          obtain ⟨fs12, e, hF⟩ := hF
          refine m_virtual (as := [.int 1]) (rest := []) cv_X11_65_10 e dX11_ask_41 rfl rfl (Nat.le_of_ble_eq_true rfl) (Nat.le_of_eq (Nat.zero_add _)) (Nat.le_of_eq (Nat.zero_add _)) (b1 := (0, 0)) (b2 := (0, 0)) (Ev.mono hF ?_)
          intro r9 h10 hF
          obtain ⟨x11, rfl, hF⟩ := hF
          exact m_ireturn dX11_ask_44 trivial hF
        · refine m_aald dX11_ask_33 e ?_
          refine m_astore_n (ls2 := [some (.ref r_0), some (.int x_1), some (.int x_2), some (.ref r8)]) dX11_ask_34 (by decide) rfl ?_
          refine m_aload_n dX11_ask_35 rfl ?_
          refine m_ifnonnull 45 dX11_ask_36 (by decide) ?_
          refine m_aload_n dX11_ask_45 rfl ?_
          refine m_iload_n dX11_ask_46 rfl ?_
          refine m_if_ne 61 dX11_ask_47 (by decide) (fun c => ?_) (fun c => ?_)
          · replace hF := hF.1 c
            refine m_aload_n dX11_ask_61 rfl ?_
            refine m_aload_n dX11_ask_62 rfl ?_
            obtain ⟨r13, e, hF⟩ := hF
            refine m_get fg_X11_24 dX11_ask_63 e ?_
            obtain ⟨c21, fs22, e, hc, hF⟩ := hF
            refine m_virtual (as := [.ref r13]) (rest := [.ref r_0]) (cw_X11_236 _ hc) e dX11_ask_66 rfl rfl (Nat.le_of_ble_eq_true rfl) (Nat.le_of_eq (Nat.zero_add _)) (Nat.le_of_eq (Nat.zero_add _)) (b1 := (0, 0)) (b2 := (0, 0)) (Ev.mono hF ?_)
            intro r14 h15 hF
            obtain ⟨x16, rfl, hF⟩ := hF
            obtain ⟨fs20, e, hF⟩ := hF
            refine m_virtual (as := [.int x16]) (rest := []) cv_X11_69_10 e dX11_ask_69 rfl rfl (Nat.le_of_ble_eq_true rfl) (Nat.le_of_eq (Nat.zero_add _)) (Nat.le_of_eq (Nat.zero_add _)) (b1 := (0, 0)) (b2 := (0, 0)) (Ev.mono hF ?_)
            intro r17 h18 hF
            obtain ⟨x19, rfl, hF⟩ := hF
            exact m_ireturn dX11_ask_72 trivial hF
          · replace hF := hF.2 c
            refine m_aload_n dX11_ask_50 rfl ?_
            refine m_aload_n dX11_ask_51 rfl ?_
            obtain ⟨r23, e, hF⟩ := hF
            refine m_get fg_X11_24 dX11_ask_52 e ?_
            obtain ⟨c31, fs32, e, hc, hF⟩ := hF
            refine m_virtual (as := [.ref r23]) (rest := [.ref r_0]) (cw_X11_232 _ hc) e dX11_ask_55 rfl rfl (Nat.le_of_ble_eq_true rfl) (Nat.le_of_eq (Nat.zero_add _)) (Nat.le_of_eq (Nat.zero_add _)) (b1 := (0, 0)) (b2 := (0, 0)) (Ev.mono hF ?_)
            intro r24 h25 hF
            obtain ⟨x26, rfl, hF⟩ := hF
            refine m_goto 69 dX11_ask_58 (by decide) ?_
            obtain ⟨fs30, e, hF⟩ := hF
            refine m_virtual (as := [.int x26]) (rest := []) cv_X11_69_10 e dX11_ask_69 rfl rfl (Nat.le_of_ble_eq_true rfl) (Nat.le_of_eq (Nat.zero_add _)) (Nat.le_of_eq (Nat.zero_add _)) (b1 := (0, 0)) (b2 := (0, 0)) (Ev.mono hF ?_)
            intro r27 h28 hF
            obtain ⟨x29, rfl, hF⟩ := hF
            exact m_ireturn dX11_ask_72 trivial hF
      · replace hF := hF.2 c
        refine m_ldc dX11_ask_16 kc_X11_64 ?_
        exact m_ireturn dX11_ask_18 trivial hF
theorem en_X11_ask {d : Nat} {r_0 : Nat} {x_1 : Int32} {x_2 : Int32} {h : mH} {K : Option Value → mH → Prop} (hk : Wm (d + 1) (0, 0) JX11_ask 0 [some (.ref r_0), some (.int x_1), some (.int x_2), none] [] h (fun r h' => h'.1 0 = h.1 0 ∧ K r h')) : Ev (d + 1) (0, 0) MX11_ask [.ref r_0, .int x_1, .int x_2] h K :=
  m_met pn_X11 nl_X11 (fun _ => Nat.le_of_ble_eq_true rfl) hk
theorem bk_X11_trace_0 {d : Nat} (r_0 : Nat) (x_1 : Int32) {h : mH} {Q : Option Value → mH → Prop} (hF : (∃ r1 : Nat, m_fld h r_0 [10] 2 = some (.ref r1) ∧ (∃ fs10 : List Value, (h).1 r1 = .inr (6, fs10) ∧ Ev d (0, 0) MX7_holds [.ref r1, .int x_1, .int 1] h (fun r2 h3 => ∃ x4 : Int32, r2 = some (.int x4) ∧ ((x4 = 0 → Q (some (.int (-1000000))) h3) ∧ (¬ (x4 = 0) → (∃ r5 : Nat, m_fld h3 r_0 [10] 2 = some (.ref r5) ∧ (∃ fs9 : List Value, (h3).1 r5 = .inr (6, fs9) ∧ Ev d (0, 0) MX7_item [.ref r5, .int x_1] h3 (fun r6 h7 => ∃ x8 : Int32, r6 = some (.int x8) ∧ Q (some (.int x8)) h7))))))))) : Wm (d + 1) (0, 0) JX11_trace 0 [some (.ref r_0), some (.int x_1)] [] h Q := by
  refine m_aload_n dX11_trace_0 rfl ?_
  obtain ⟨r1, e, hF⟩ := hF
  refine m_get fg_X11_24 dX11_trace_1 e ?_
  refine m_iload_n dX11_trace_4 rfl ?_
  refine m_iconst dX11_trace_5 ki_1 ?_
  obtain ⟨fs10, e, hF⟩ := hF
  refine m_virtual (as := [.int x_1, .int 1]) (rest := []) cv_X11_76_6 e dX11_trace_6 rfl rfl (Nat.le_of_ble_eq_true rfl) (Nat.le_of_eq (Nat.zero_add _)) (Nat.le_of_eq (Nat.zero_add _)) (b1 := (0, 0)) (b2 := (0, 0)) (Ev.mono hF ?_)
  intro r2 h3 hF
  obtain ⟨x4, rfl, hF⟩ := hF
  refine m_if_eq 23 dX11_trace_9 (by decide) (fun c => ?_) (fun c => ?_)
  · replace hF := hF.1 c
    refine m_ldc dX11_trace_23 kc_X11_239 ?_
    exact m_ireturn dX11_trace_25 trivial hF
  · replace hF := hF.2 c
    refine m_aload_n dX11_trace_12 rfl ?_
    obtain ⟨r5, e, hF⟩ := hF
    refine m_get fg_X11_24 dX11_trace_13 e ?_
    refine m_iload_n dX11_trace_16 rfl ?_
    obtain ⟨fs9, e, hF⟩ := hF
    refine m_virtual (as := [.int x_1]) (rest := []) cv_X11_215_6 e dX11_trace_17 rfl rfl (Nat.le_of_ble_eq_true rfl) (Nat.le_of_eq (Nat.zero_add _)) (Nat.le_of_eq (Nat.zero_add _)) (b1 := (0, 0)) (b2 := (0, 0)) (Ev.mono hF ?_)
    intro r6 h7 hF
    obtain ⟨x8, rfl, hF⟩ := hF
    refine m_goto 25 dX11_trace_20 (by decide) ?_
    exact m_ireturn dX11_trace_25 trivial hF
theorem en_X11_trace {d : Nat} {r_0 : Nat} {x_1 : Int32} {h : mH} {K : Option Value → mH → Prop} (hk : Wm (d + 1) (0, 0) JX11_trace 0 [some (.ref r_0), some (.int x_1)] [] h (fun r h' => h'.1 0 = h.1 0 ∧ K r h')) : Ev (d + 1) (0, 0) MX11_trace [.ref r_0, .int x_1] h K :=
  m_met pn_X11 nl_X11 (fun _ => Nat.le_of_ble_eq_true rfl) hk
theorem bk_X11_joins_0 {d : Nat} (r_0 : Nat) (x_1 : Int32) (x_2 : Int32) (x_3 : Int32) {h : mH} {Q : Option Value → mH → Prop} (hF : ((x_1 < 2 → Q (some (.long (-1000001))) h) ∧ (¬ (x_1 < 2) → ((10 < x_1 → Q (some (.long (-1000001))) h) ∧ (¬ (10 < x_1) → ((x_2 < 0 → Q (some (.long (-1000001))) h) ∧ (¬ (x_2 < 0) → ((x_2 ≤ 9 → (∃ r1 : Nat, m_fld h r_0 [10] 6 = some (.ref r1) ∧ (∃ fs14 : List Value, (h).1 r1 = .inr (7, fs14) ∧ Ev d (0, 0) MX8_prepare [.ref r1, .int x_1] h (fun r2 h3 => r2 = none ∧ (∃ r4 : Nat, m_fld h3 r_0 [10] 6 = some (.ref r4) ∧ (∃ fs13 : List Value, (h3).1 r4 = .inr (7, fs13) ∧ Ev d (0, 0) MX8_lacks [.ref r4, .int x_3] h3 (fun r5 h6 => ∃ x7 : Int32, r5 = some (.int x7) ∧ ((x7 = 0 → (∃ r8 : Nat, m_fld h6 r_0 [10] 6 = some (.ref r8) ∧ (∃ fs12 : List Value, (h6).1 r8 = .inr (7, fs12) ∧ Ev d (0, 0) MX8_rowsOf [.ref r8, .int x_2, .int x_3] h6 (fun r9 h10 => ∃ y11 : Int64, r9 = some (.long y11) ∧ Q (some (.long y11)) h10)))) ∧ (¬ (x7 = 0) → Q (some (.long (-1000001))) h6))))))))) ∧ (¬ (x_2 ≤ 9) → Q (some (.long (-1000001))) h))))))))) : Wm (d + 1) (0, 0) JX11_joins 0 [some (.ref r_0), some (.int x_1), some (.int x_2), some (.int x_3)] [] h Q := by
  refine m_iload_n dX11_joins_0 rfl ?_
  refine m_iconst dX11_joins_1 ki_2 ?_
  refine m_icmp_lt 21 dX11_joins_2 (by decide) (fun c => ?_) (fun c => ?_)
  · replace hF := hF.1 c
    refine m_ldc2_w dX11_joins_21 kc_X11_240 ?_
    exact m_lreturn dX11_joins_24 trivial hF
  · replace hF := hF.2 c
    refine m_iload_n dX11_joins_5 rfl ?_
    refine m_bipush dX11_joins_6 kb_10 ?_
    refine m_icmp_gt 21 dX11_joins_8 (by decide) (fun c => ?_) (fun c => ?_)
    · replace hF := hF.1 c
      refine m_ldc2_w dX11_joins_21 kc_X11_240 ?_
      exact m_lreturn dX11_joins_24 trivial hF
    · replace hF := hF.2 c
      refine m_iload_n dX11_joins_11 rfl ?_
      refine m_if_lt 21 dX11_joins_12 (by decide) (fun c => ?_) (fun c => ?_)
      · replace hF := hF.1 c
        refine m_ldc2_w dX11_joins_21 kc_X11_240 ?_
        exact m_lreturn dX11_joins_24 trivial hF
      · replace hF := hF.2 c
        refine m_iload_n dX11_joins_15 rfl ?_
        refine m_bipush dX11_joins_16 kb_9 ?_
        refine m_icmp_le 25 dX11_joins_18 (by decide) (fun c => ?_) (fun c => ?_)
        · replace hF := hF.1 c
          refine m_aload_n dX11_joins_25 rfl ?_
          obtain ⟨r1, e, hF⟩ := hF
          refine m_get fg_X11_56 dX11_joins_26 e ?_
          refine m_iload_n dX11_joins_29 rfl ?_
          obtain ⟨fs14, e, hF⟩ := hF
          refine m_virtual (as := [.int x_1]) (rest := []) cv_X11_242_7 e dX11_joins_30 rfl rfl (Nat.le_of_ble_eq_true rfl) (Nat.le_of_eq (Nat.zero_add _)) (Nat.le_of_eq (Nat.zero_add _)) (b1 := (0, 0)) (b2 := (0, 0)) (Ev.mono hF ?_)
          intro r2 h3 hF
          obtain ⟨rfl, hF⟩ := hF
          refine m_aload_n dX11_joins_33 rfl ?_
          obtain ⟨r4, e, hF⟩ := hF
          refine m_get fg_X11_56 dX11_joins_34 e ?_
          refine m_iload_n dX11_joins_37 rfl ?_
          obtain ⟨fs13, e, hF⟩ := hF
          refine m_virtual (as := [.int x_3]) (rest := []) cv_X11_245_7 e dX11_joins_38 rfl rfl (Nat.le_of_ble_eq_true rfl) (Nat.le_of_eq (Nat.zero_add _)) (Nat.le_of_eq (Nat.zero_add _)) (b1 := (0, 0)) (b2 := (0, 0)) (Ev.mono hF ?_)
          intro r5 h6 hF
          obtain ⟨x7, rfl, hF⟩ := hF
          refine m_if_eq 50 dX11_joins_41 (by decide) (fun c => ?_) (fun c => ?_)
          · replace hF := hF.1 c
            refine m_aload_n dX11_joins_50 rfl ?_
            obtain ⟨r8, e, hF⟩ := hF
            refine m_get fg_X11_56 dX11_joins_51 e ?_
            refine m_iload_n dX11_joins_54 rfl ?_
            refine m_iload_n dX11_joins_55 rfl ?_
            obtain ⟨fs12, e, hF⟩ := hF
            refine m_virtual (as := [.int x_2, .int x_3]) (rest := []) cv_X11_248_7 e dX11_joins_56 rfl rfl (Nat.le_of_ble_eq_true rfl) (Nat.le_of_eq (Nat.zero_add _)) (Nat.le_of_eq (Nat.zero_add _)) (b1 := (0, 0)) (b2 := (0, 0)) (Ev.mono hF ?_)
            intro r9 h10 hF
            obtain ⟨y11, rfl, hF⟩ := hF
            exact m_lreturn dX11_joins_59 trivial hF
          · replace hF := hF.2 c
            refine m_ldc2_w dX11_joins_44 kc_X11_240 ?_
            refine m_goto 59 dX11_joins_47 (by decide) ?_
            exact m_lreturn dX11_joins_59 trivial hF
        · replace hF := hF.2 c
          refine m_ldc2_w dX11_joins_21 kc_X11_240 ?_
          exact m_lreturn dX11_joins_24 trivial hF
theorem en_X11_joins {d : Nat} {r_0 : Nat} {x_1 : Int32} {x_2 : Int32} {x_3 : Int32} {h : mH} {K : Option Value → mH → Prop} (hk : Wm (d + 1) (0, 0) JX11_joins 0 [some (.ref r_0), some (.int x_1), some (.int x_2), some (.int x_3)] [] h (fun r h' => h'.1 0 = h.1 0 ∧ K r h')) : Ev (d + 1) (0, 0) MX11_joins [.ref r_0, .int x_1, .int x_2, .int x_3] h K :=
  m_met pn_X11 nl_X11 (fun _ => Nat.le_of_ble_eq_true rfl) hk
theorem bk_X11_shapes_0 {d : Nat} (r_0 : Nat) (x_1 : Int32) (x_2 : Int32) (x_3 : Int32) {h : mH} {Q : Option Value → mH → Prop} (hF : ((x_1 < 1 → Q (some (.int (-1000001))) h) ∧ (¬ (x_1 < 1) → ((x_1 ≤ 10 → (∃ r1 : Nat, m_fld h r_0 [10] 6 = some (.ref r1) ∧ (∃ fs19 : List Value, (h).1 r1 = .inr (7, fs19) ∧ Ev d (0, 0) MX8_prepare [.ref r1, .int x_1] h (fun r2 h3 => r2 = none ∧ ((¬ x_2 = (-1000000) → (∃ r4 : Nat, m_fld h3 r_0 [10] 6 = some (.ref r4) ∧ (∃ fs16 : List Value, (h3).1 r4 = .inr (7, fs16) ∧ Ev d (0, 0) MX8_lacks [.ref r4, .int x_2] h3 (fun r5 h6 => ∃ x7 : Int32, r5 = some (.int x7) ∧ ((x7 = 0 → (∃ r8 : Nat, m_fld h6 r_0 [10] 6 = some (.ref r8) ∧ (∃ fs15 : List Value, (h6).1 r8 = .inr (7, fs15) ∧ Ev d (0, 0) MX8_lengthsAt [.ref r8, .int x_2] h6 (fun r9 h10 => ∃ y11 : Int64, r9 = some (.long y11) ∧ Ev d (0, 0) MX8_lengthAt [.long y11, .int x_3] h10 (fun r12 h13 => ∃ x14 : Int32, r12 = some (.int x14) ∧ Q (some (.int x14)) h13))))) ∧ (¬ (x7 = 0) → Q (some (.int (-1000001))) h6)))))) ∧ (x_2 = (-1000000) → (∃ r17 : Nat, m_fld h3 r_0 [10] 6 = some (.ref r17) ∧ (∃ x18 : Int32, m_fld h3 r17 [7] 3 = some (.int x18) ∧ Q (some (.int x18)) h3)))))))) ∧ (¬ (x_1 ≤ 10) → Q (some (.int (-1000001))) h))))) : Wm (d + 1) (0, 0) JX11_shapes 0 [some (.ref r_0), some (.int x_1), some (.int x_2), some (.int x_3)] [] h Q := by
  refine m_iload_n dX11_shapes_0 rfl ?_
  refine m_iconst dX11_shapes_1 ki_1 ?_
  refine m_icmp_lt 11 dX11_shapes_2 (by decide) (fun c => ?_) (fun c => ?_)
  · replace hF := hF.1 c
    refine m_ldc dX11_shapes_11 kc_X11_64 ?_
    exact m_ireturn dX11_shapes_13 trivial hF
  · replace hF := hF.2 c
    refine m_iload_n dX11_shapes_5 rfl ?_
    refine m_bipush dX11_shapes_6 kb_10 ?_
    refine m_icmp_le 14 dX11_shapes_8 (by decide) (fun c => ?_) (fun c => ?_)
    · replace hF := hF.1 c
      refine m_aload_n dX11_shapes_14 rfl ?_
      obtain ⟨r1, e, hF⟩ := hF
      refine m_get fg_X11_56 dX11_shapes_15 e ?_
      refine m_iload_n dX11_shapes_18 rfl ?_
      obtain ⟨fs19, e, hF⟩ := hF
      refine m_virtual (as := [.int x_1]) (rest := []) cv_X11_242_7 e dX11_shapes_19 rfl rfl (Nat.le_of_ble_eq_true rfl) (Nat.le_of_eq (Nat.zero_add _)) (Nat.le_of_eq (Nat.zero_add _)) (b1 := (0, 0)) (b2 := (0, 0)) (Ev.mono hF ?_)
      intro r2 h3 hF
      obtain ⟨rfl, hF⟩ := hF
      refine m_iload_n dX11_shapes_22 rfl ?_
      refine m_ldc dX11_shapes_23 kc_X11_239 ?_
      refine m_icmp_ne 36 dX11_shapes_25 (by decide) (fun c => ?_) (fun c => ?_)
      · replace hF := hF.1 c
        refine m_aload_n dX11_shapes_36 rfl ?_
        obtain ⟨r4, e, hF⟩ := hF
        refine m_get fg_X11_56 dX11_shapes_37 e ?_
        refine m_iload_n dX11_shapes_40 rfl ?_
        obtain ⟨fs16, e, hF⟩ := hF
        refine m_virtual (as := [.int x_2]) (rest := []) cv_X11_245_7 e dX11_shapes_41 rfl rfl (Nat.le_of_ble_eq_true rfl) (Nat.le_of_eq (Nat.zero_add _)) (Nat.le_of_eq (Nat.zero_add _)) (b1 := (0, 0)) (b2 := (0, 0)) (Ev.mono hF ?_)
        intro r5 h6 hF
        obtain ⟨x7, rfl, hF⟩ := hF
        refine m_if_eq 52 dX11_shapes_44 (by decide) (fun c => ?_) (fun c => ?_)
        · replace hF := hF.1 c
          refine m_aload_n dX11_shapes_52 rfl ?_
          obtain ⟨r8, e, hF⟩ := hF
          refine m_get fg_X11_56 dX11_shapes_53 e ?_
          refine m_iload_n dX11_shapes_56 rfl ?_
          obtain ⟨fs15, e, hF⟩ := hF
          refine m_virtual (as := [.int x_2]) (rest := []) cv_X11_254_7 e dX11_shapes_57 rfl rfl (Nat.le_of_ble_eq_true rfl) (Nat.le_of_eq (Nat.zero_add _)) (Nat.le_of_eq (Nat.zero_add _)) (b1 := (0, 0)) (b2 := (0, 0)) (Ev.mono hF ?_)
          intro r9 h10 hF
          obtain ⟨y11, rfl, hF⟩ := hF
          refine m_iload_n dX11_shapes_60 rfl ?_
          refine m_static (as := [.long y11, .int x_3]) (rest := []) cs_X11_198 dX11_shapes_61 rfl rfl (Nat.le_of_ble_eq_true rfl) (Nat.le_of_eq (Nat.zero_add _)) (Nat.le_of_eq (Nat.zero_add _)) (b1 := (0, 0)) (b2 := (0, 0)) (Ev.mono hF ?_)
          intro r12 h13 hF
          obtain ⟨x14, rfl, hF⟩ := hF
          exact m_ireturn dX11_shapes_64 trivial hF
        · replace hF := hF.2 c
          refine m_ldc dX11_shapes_47 kc_X11_64 ?_
          refine m_goto 64 dX11_shapes_49 (by decide) ?_
          exact m_ireturn dX11_shapes_64 trivial hF
      · replace hF := hF.2 c
        refine m_aload_n dX11_shapes_28 rfl ?_
        obtain ⟨r17, e, hF⟩ := hF
        refine m_get fg_X11_56 dX11_shapes_29 e ?_
        obtain ⟨x18, e, hF⟩ := hF
        refine m_get fg_X11_251 dX11_shapes_32 e ?_
        exact m_ireturn dX11_shapes_35 trivial hF
    · replace hF := hF.2 c
      refine m_ldc dX11_shapes_11 kc_X11_64 ?_
      exact m_ireturn dX11_shapes_13 trivial hF
theorem en_X11_shapes {d : Nat} {r_0 : Nat} {x_1 : Int32} {x_2 : Int32} {x_3 : Int32} {h : mH} {K : Option Value → mH → Prop} (hk : Wm (d + 1) (0, 0) JX11_shapes 0 [some (.ref r_0), some (.int x_1), some (.int x_2), some (.int x_3)] [] h (fun r h' => h'.1 0 = h.1 0 ∧ K r h')) : Ev (d + 1) (0, 0) MX11_shapes [.ref r_0, .int x_1, .int x_2, .int x_3] h K :=
  m_met pn_X11 nl_X11 (fun _ => Nat.le_of_ble_eq_true rfl) hk
theorem bk_X11_count_0 {d : Nat} (r_0 : Nat) (x_1 : Int32) {h : mH} {Q : Option Value → mH → Prop} (hF : ((x_1 < 0 → Q (some (.int (-1000001))) h) ∧ (¬ (x_1 < 0) → ((x_1 ≤ 6 → ((¬ x_1 = 0 → (∃ fs4 : List Value, (h).1 r_0 = .inr (10, fs4) ∧ Ev d (0, 0) MX11_coversThere [.ref r_0, .int x_1] h (fun r1 h2 => ∃ x3 : Int32, r1 = some (.int x3) ∧ Q (some (.int x3)) h2))) ∧ (x_1 = 0 → (∃ fs8 : List Value, (h).1 r_0 = .inr (10, fs8) ∧ Ev d (0, 0) MX11_rowsThere [.ref r_0] h (fun r5 h6 => ∃ x7 : Int32, r5 = some (.int x7) ∧ Q (some (.int x7)) h6))))) ∧ (¬ (x_1 ≤ 6) → Q (some (.int (-1000001))) h))))) : Wm (d + 1) (0, 0) JX11_count 0 [some (.ref r_0), some (.int x_1)] [] h Q := by
  refine m_iload_n dX11_count_0 rfl ?_
  refine m_if_lt 10 dX11_count_1 (by decide) (fun c => ?_) (fun c => ?_)
  · replace hF := hF.1 c
    refine m_ldc dX11_count_10 kc_X11_64 ?_
    exact m_ireturn dX11_count_12 trivial hF
  · replace hF := hF.2 c
    refine m_iload_n dX11_count_4 rfl ?_
    refine m_bipush dX11_count_5 kb_6 ?_
    refine m_icmp_le 13 dX11_count_7 (by decide) (fun c => ?_) (fun c => ?_)
    · replace hF := hF.1 c
      refine m_iload_n dX11_count_13 rfl ?_
      refine m_if_ne 24 dX11_count_14 (by decide) (fun c => ?_) (fun c => ?_)
      · replace hF := hF.1 c
        refine m_aload_n dX11_count_24 rfl ?_
        refine m_iload_n dX11_count_25 rfl ?_
        obtain ⟨fs4, e, hF⟩ := hF
        refine m_virtual (as := [.int x_1]) (rest := []) cv_X11_260_10 e dX11_count_26 rfl rfl (Nat.le_of_ble_eq_true rfl) (Nat.le_of_eq (Nat.zero_add _)) (Nat.le_of_eq (Nat.zero_add _)) (b1 := (0, 0)) (b2 := (0, 0)) (Ev.mono hF ?_)
        intro r1 h2 hF
        obtain ⟨x3, rfl, hF⟩ := hF
        exact m_ireturn dX11_count_29 trivial hF
      · replace hF := hF.2 c
        refine m_aload_n dX11_count_17 rfl ?_
        obtain ⟨fs8, e, hF⟩ := hF
        refine m_virtual (as := []) (rest := []) cv_X11_257_10 e dX11_count_18 rfl rfl (Nat.le_of_ble_eq_true rfl) (Nat.le_of_eq (Nat.zero_add _)) (Nat.le_of_eq (Nat.zero_add _)) (b1 := (0, 0)) (b2 := (0, 0)) (Ev.mono hF ?_)
        intro r5 h6 hF
        obtain ⟨x7, rfl, hF⟩ := hF
        refine m_goto 29 dX11_count_21 (by decide) ?_
        exact m_ireturn dX11_count_29 trivial hF
    · replace hF := hF.2 c
      refine m_ldc dX11_count_10 kc_X11_64 ?_
      exact m_ireturn dX11_count_12 trivial hF
theorem en_X11_count {d : Nat} {r_0 : Nat} {x_1 : Int32} {h : mH} {K : Option Value → mH → Prop} (hk : Wm (d + 1) (0, 0) JX11_count 0 [some (.ref r_0), some (.int x_1)] [] h (fun r h' => h'.1 0 = h.1 0 ∧ K r h')) : Ev (d + 1) (0, 0) MX11_count [.ref r_0, .int x_1] h K :=
  m_met pn_X11 nl_X11 (fun _ => Nat.le_of_ble_eq_true rfl) hk
theorem bk_X11_status_0 {d : Nat} (r_0 : Nat) {h : mH} {Q : Option Value → mH → Prop} (hF : (∃ x1 : Int32, m_fld h r_0 [10] 7 = some (.int x1) ∧ Q (some (.int x1)) h)) : Wm d (0, 0) JX11_status 0 [some (.ref r_0)] [] h Q := by
  refine m_aload_n dX11_status_0 rfl ?_
  obtain ⟨x1, e, hF⟩ := hF
  refine m_get fg_X11_263 dX11_status_1 e ?_
  exact m_ireturn dX11_status_4 trivial hF
theorem en_X11_status {d : Nat} {r_0 : Nat} {h : mH} {K : Option Value → mH → Prop} (hk : Wm d (0, 0) JX11_status 0 [some (.ref r_0)] [] h (fun r h' => h'.1 0 = h.1 0 ∧ K r h')) : Ev d (0, 0) MX11_status [.ref r_0] h K :=
  m_met pn_X11 nl_X11 (fun _ => Nat.le_of_ble_eq_true rfl) hk
theorem bk_X11_noRow_0 {d : Nat} (x_0 : Int32) {h : mH} {Q : Option Value → mH → Prop} (hF : ((x_0 < 0 → Q (some (.int 1)) h) ∧ (¬ (x_0 < 0) → ((x_0 < 8 → Q (some (.int 0)) h) ∧ (¬ (x_0 < 8) → Q (some (.int 1)) h))))) : Wm d (0, 0) JX11_noRow 0 [some (.int x_0)] [] h Q := by
  refine m_iload_n dX11_noRow_0 rfl ?_
  refine m_if_lt 10 dX11_noRow_1 (by decide) (fun c => ?_) (fun c => ?_)
  · replace hF := hF.1 c
    refine m_iconst dX11_noRow_10 ki_1 ?_
    refine m_goto 15 dX11_noRow_11 (by decide) ?_
    exact m_ireturn dX11_noRow_15 (Or.inr rfl) hF
  · replace hF := hF.2 c
    refine m_iload_n dX11_noRow_4 rfl ?_
    refine m_bipush dX11_noRow_5 kb_8 ?_
    refine m_icmp_lt 14 dX11_noRow_7 (by decide) (fun c => ?_) (fun c => ?_)
    · replace hF := hF.1 c
      refine m_iconst dX11_noRow_14 ki_0 ?_
      exact m_ireturn dX11_noRow_15 (Or.inl rfl) hF
    · replace hF := hF.2 c
      refine m_iconst dX11_noRow_10 ki_1 ?_
      refine m_goto 15 dX11_noRow_11 (by decide) ?_
      exact m_ireturn dX11_noRow_15 (Or.inr rfl) hF
theorem en_X11_noRow {d : Nat} {x_0 : Int32} {h : mH} {K : Option Value → mH → Prop} (hk : Wm d (0, 0) JX11_noRow 0 [some (.int x_0)] [] h (fun r h' => h'.1 0 = h.1 0 ∧ K r h')) : Ev d (0, 0) MX11_noRow [.int x_0] h K :=
  m_met pn_X11 nl_X11 (fun _ => Nat.le_of_ble_eq_true rfl) hk
theorem bk_X11_noPlace_0 {d : Nat} (x_0 : Int32) {h : mH} {Q : Option Value → mH → Prop} (hF : ((x_0 < 0 → Q (some (.int 1)) h) ∧ (¬ (x_0 < 0) → ((x_0 < 10 → Q (some (.int 0)) h) ∧ (¬ (x_0 < 10) → Q (some (.int 1)) h))))) : Wm d (0, 0) JX11_noPlace 0 [some (.int x_0)] [] h Q := by
  refine m_iload_n dX11_noPlace_0 rfl ?_
  refine m_if_lt 10 dX11_noPlace_1 (by decide) (fun c => ?_) (fun c => ?_)
  · replace hF := hF.1 c
    refine m_iconst dX11_noPlace_10 ki_1 ?_
    refine m_goto 15 dX11_noPlace_11 (by decide) ?_
    exact m_ireturn dX11_noPlace_15 (Or.inr rfl) hF
  · replace hF := hF.2 c
    refine m_iload_n dX11_noPlace_4 rfl ?_
    refine m_bipush dX11_noPlace_5 kb_10 ?_
    refine m_icmp_lt 14 dX11_noPlace_7 (by decide) (fun c => ?_) (fun c => ?_)
    · replace hF := hF.1 c
      refine m_iconst dX11_noPlace_14 ki_0 ?_
      exact m_ireturn dX11_noPlace_15 (Or.inl rfl) hF
    · replace hF := hF.2 c
      refine m_iconst dX11_noPlace_10 ki_1 ?_
      refine m_goto 15 dX11_noPlace_11 (by decide) ?_
      exact m_ireturn dX11_noPlace_15 (Or.inr rfl) hF
theorem en_X11_noPlace {d : Nat} {x_0 : Int32} {h : mH} {K : Option Value → mH → Prop} (hk : Wm d (0, 0) JX11_noPlace 0 [some (.int x_0)] [] h (fun r h' => h'.1 0 = h.1 0 ∧ K r h')) : Ev d (0, 0) MX11_noPlace [.int x_0] h K :=
  m_met pn_X11 nl_X11 (fun _ => Nat.le_of_ble_eq_true rfl) hk
theorem bk_X11_found_0 {d : Nat} (r_0 : Nat) (x_1 : Int32) {h : mH} {Q : Option Value → mH → Prop} (hF : (∃ h1 : mH, m_put h r_0 10 7 (.int x_1) = some h1 ∧ Q (some (.int ((-1000010) - x_1))) h1)) : Wm d (0, 0) JX11_found 0 [some (.ref r_0), some (.int x_1)] [] h Q := by
  refine m_aload_n dX11_found_0 rfl ?_
  refine m_iload_n dX11_found_1 rfl ?_
  obtain ⟨h1, e, hF⟩ := hF
  refine m_putf fp_X11_263_10 dX11_found_2 trivial e ?_
  refine m_ldc_w dX11_found_5 kc_X11_266 ?_
  refine m_iload_n dX11_found_8 rfl ?_
  refine m_isub dX11_found_9 ?_
  exact m_ireturn dX11_found_10 trivial hF
theorem en_X11_found {d : Nat} {r_0 : Nat} {x_1 : Int32} {h : mH} {K : Option Value → mH → Prop} (hk : Wm d (0, 0) JX11_found 0 [some (.ref r_0), some (.int x_1)] [] h (fun r h' => h'.1 0 = h.1 0 ∧ K r h')) : Ev d (0, 0) MX11_found [.ref r_0, .int x_1] h K :=
  m_met pn_X11 nl_X11 (fun _ => Nat.le_of_ble_eq_true rfl) hk
theorem bk_X11_fine_0 {d : Nat} (r_0 : Nat) (x_1 : Int32) {h : mH} {Q : Option Value → mH → Prop} (hF : (∃ h1 : mH, m_put h r_0 10 7 (.int 0) = some h1 ∧ Q (some (.int x_1)) h1)) : Wm d (0, 0) JX11_fine 0 [some (.ref r_0), some (.int x_1)] [] h Q := by
  refine m_aload_n dX11_fine_0 rfl ?_
  refine m_iconst dX11_fine_1 ki_0 ?_
  obtain ⟨h1, e, hF⟩ := hF
  refine m_putf fp_X11_263_10 dX11_fine_2 trivial e ?_
  refine m_iload_n dX11_fine_5 rfl ?_
  exact m_ireturn dX11_fine_6 trivial hF
theorem en_X11_fine {d : Nat} {r_0 : Nat} {x_1 : Int32} {h : mH} {K : Option Value → mH → Prop} (hk : Wm d (0, 0) JX11_fine 0 [some (.ref r_0), some (.int x_1)] [] h (fun r h' => h'.1 0 = h.1 0 ∧ K r h')) : Ev d (0, 0) MX11_fine [.ref r_0, .int x_1] h K :=
  m_met pn_X11 nl_X11 (fun _ => Nat.le_of_ble_eq_true rfl) hk
theorem bk_X11_shelve_0 {d : Nat} (r_0 : Nat) (x_1 : Int32) (r_2 : Nat) {h : mH} {Q : Option Value → mH → Prop} (hF : Ev d (0, 0) MX11_noPlace [.int x_1] h (fun r1 h2 => ∃ x3 : Int32, r1 = some (.int x3) ∧ ((x3 = 0 → (∃ r4 : Nat, m_fld h2 r_0 [10] 1 = some (.ref r4) ∧ (∃ h5 : mH, m_rs h2 r4 x_1 (.ref r_2) = some h5 ∧ (∃ (c13 : Nat) (fs14 : List Value), (h5).1 r_2 = .inr (c13, fs14) ∧ c13 ∈ [0, 1, 4, 8, 9] ∧ Ev d (0, 0) (tg_X11_224 c13) [.ref r_2] h5 (fun r6 h7 => ∃ x8 : Int32, r6 = some (.int x8) ∧ (∃ fs12 : List Value, (h7).1 r_0 = .inr (10, fs12) ∧ Ev d (0, 0) MX11_fine [.ref r_0, .int x8] h7 (fun r9 h10 => ∃ x11 : Int32, r9 = some (.int x11) ∧ Q (some (.int x11)) h10))))))) ∧ (¬ (x3 = 0) → Q (some (.int (-1000001))) h2)))) : Wm (d + 1) (0, 0) JX11_shelve 0 [some (.ref r_0), some (.int x_1), some (.ref r_2)] [] h Q := by
  refine m_iload_n dX11_shelve_0 rfl ?_
  refine m_static (as := [.int x_1]) (rest := []) cs_X11_98 dX11_shelve_1 rfl rfl (Nat.le_of_ble_eq_true rfl) (Nat.le_of_eq (Nat.zero_add _)) (Nat.le_of_eq (Nat.zero_add _)) (b1 := (0, 0)) (b2 := (0, 0)) (Ev.mono hF ?_)
  intro r1 h2 hF
  obtain ⟨x3, rfl, hF⟩ := hF
  refine m_if_eq 10 dX11_shelve_4 (by decide) (fun c => ?_) (fun c => ?_)
  · replace hF := hF.1 c
    refine m_aload_n dX11_shelve_10 rfl ?_
    obtain ⟨r4, e, hF⟩ := hF
    refine m_get fg_X11_20 dX11_shelve_11 e ?_
    refine m_iload_n dX11_shelve_14 rfl ?_
    refine m_aload_n dX11_shelve_15 rfl ?_
    obtain ⟨h5, e, hF⟩ := hF
    refine m_aast dX11_shelve_16 e ?_
    refine m_aload_n dX11_shelve_17 rfl ?_
    refine m_aload_n dX11_shelve_18 rfl ?_
    obtain ⟨c13, fs14, e, hc, hF⟩ := hF
    refine m_virtual (as := []) (rest := [.ref r_0]) (cw_X11_224 _ hc) e dX11_shelve_19 rfl rfl (Nat.le_of_ble_eq_true rfl) (Nat.le_of_eq (Nat.zero_add _)) (Nat.le_of_eq (Nat.zero_add _)) (b1 := (0, 0)) (b2 := (0, 0)) (Ev.mono hF ?_)
    intro r6 h7 hF
    obtain ⟨x8, rfl, hF⟩ := hF
    obtain ⟨fs12, e, hF⟩ := hF
    refine m_virtual (as := [.int x8]) (rest := []) cv_X11_69_10 e dX11_shelve_22 rfl rfl (Nat.le_of_ble_eq_true rfl) (Nat.le_of_eq (Nat.zero_add _)) (Nat.le_of_eq (Nat.zero_add _)) (b1 := (0, 0)) (b2 := (0, 0)) (Ev.mono hF ?_)
    intro r9 h10 hF
    obtain ⟨x11, rfl, hF⟩ := hF
    exact m_ireturn dX11_shelve_25 trivial hF
  · replace hF := hF.2 c
    refine m_ldc dX11_shelve_7 kc_X11_64 ?_
    exact m_ireturn dX11_shelve_9 trivial hF
theorem en_X11_shelve {d : Nat} {r_0 : Nat} {x_1 : Int32} {r_2 : Nat} {h : mH} {K : Option Value → mH → Prop} (hk : Wm (d + 1) (0, 0) JX11_shelve 0 [some (.ref r_0), some (.int x_1), some (.ref r_2)] [] h (fun r h' => h'.1 0 = h.1 0 ∧ K r h')) : Ev (d + 1) (0, 0) MX11_shelve [.ref r_0, .int x_1, .ref r_2] h K :=
  m_met pn_X11 nl_X11 (fun _ => Nat.le_of_ble_eq_true rfl) hk
theorem bk_X11_tellOf_0 {d : Nat} (r_0 : Nat) (r_1 : Nat) (x_2 : Int32) {h : mH} {Q : Option Value → mH → Prop} (hF : ((x_2 = 0 → (∃ x1 : Int32, m_fld h r_1 [0, 1, 4, 8, 9] 0 = some (.int x1) ∧ Q (some (.int x1)) h)) ∧ (x_2 = 1 → (∃ r2 : Nat, m_fld h r_1 [0, 1, 4, 8, 9] 1 = some (.ref r2) ∧ (∃ n3 : Nat, m_len h r2 = some n3 ∧ Q (some (.int (nI n3))) h))) ∧ (x_2 = 2 → (∃ x4 : Int32, m_fld h r_1 [0, 1, 4, 8, 9] 2 = some (.int x4) ∧ Q (some (.int x4)) h)) ∧ (x_2 = 3 → (∃ (c8 : Nat) (fs9 : List Value), (h).1 r_1 = .inr (c8, fs9) ∧ c8 ∈ [0, 1, 4, 8, 9] ∧ Ev d (0, 0) MX1_holes [.ref r_1] h (fun r5 h6 => ∃ x7 : Int32, r5 = some (.int x7) ∧ Q (some (.int x7)) h6))) ∧ (x_2 = 4 → (∃ r10 : Nat, m_fld h r_0 [10] 3 = some (.ref r10) ∧ (∃ r11 : Nat, m_fld h r_1 [0, 1, 4, 8, 9] 1 = some (.ref r11) ∧ (∃ x12 : Int32, m_fld h r_1 [0, 1, 4, 8, 9] 0 = some (.int x12) ∧ (∃ fs17 : List Value, (h).1 r10 = .inr (3, fs17) ∧ Ev d (0, 0) MX3_find [.ref r10, .ref r11, .int x12] h (fun r13 h14 => r13 = none ∧ (∃ r15 : Nat, m_fld h14 r_0 [10] 3 = some (.ref r15) ∧ (∃ x16 : Int32, m_fld h14 r15 [3] 1 = some (.int x16) ∧ Q (some (.int x16)) h14)))))))) ∧ (¬ x_2 = 0 → ¬ x_2 = 1 → ¬ x_2 = 2 → ¬ x_2 = 3 → ¬ x_2 = 4 → (∃ r18 : Nat, m_fld h r_0 [10] 5 = some (.ref r18) ∧ (∃ fs22 : List Value, (h).1 r18 = .inr (2, fs22) ∧ Ev d (0, 0) MX2_orders [.ref r18, .ref r_1] h (fun r19 h20 => ∃ x21 : Int32, r19 = some (.int x21) ∧ Q (some (.int x21)) h20)))))) : Wm (d + 1) (0, 0) JX11_tellOf 0 [some (.ref r_0), some (.ref r_1), some (.int x_2)] [] h Q := by
  refine m_iload_n dX11_tellOf_0 rfl ?_
  by_cases e0 : x_2 = 0
  · replace hF := hF.1 e0
    refine m_tableIn 36 dX11_tellOf_1 (by rw [e0]; decide) (by rw [e0]; decide) (off := 35) (by rw [e0]; rfl) (by decide) ?_
    refine m_aload_n dX11_tellOf_36 rfl ?_
    obtain ⟨x1, e, hF⟩ := hF
    refine m_get fg_X11_143 dX11_tellOf_37 e ?_
    exact m_ireturn dX11_tellOf_40 trivial hF
  replace hF := hF.2
  by_cases e1 : x_2 = 1
  · replace hF := hF.1 e1
    refine m_tableIn 41 dX11_tellOf_1 (by rw [e1]; decide) (by rw [e1]; decide) (off := 40) (by rw [e1]; rfl) (by decide) ?_
    refine m_aload_n dX11_tellOf_41 rfl ?_
    obtain ⟨r2, e, hF⟩ := hF
    refine m_get fg_X11_139 dX11_tellOf_42 e ?_
    obtain ⟨n3, e, hF⟩ := hF
    refine m_alen dX11_tellOf_45 e ?_
    exact m_ireturn dX11_tellOf_46 trivial hF
  replace hF := hF.2
  by_cases e2 : x_2 = 2
  · replace hF := hF.1 e2
    refine m_tableIn 47 dX11_tellOf_1 (by rw [e2]; decide) (by rw [e2]; decide) (off := 46) (by rw [e2]; rfl) (by decide) ?_
    refine m_aload_n dX11_tellOf_47 rfl ?_
    obtain ⟨x4, e, hF⟩ := hF
    refine m_get fg_X11_129 dX11_tellOf_48 e ?_
    exact m_ireturn dX11_tellOf_51 trivial hF
  replace hF := hF.2
  by_cases e3 : x_2 = 3
  · replace hF := hF.1 e3
    refine m_tableIn 52 dX11_tellOf_1 (by rw [e3]; decide) (by rw [e3]; decide) (off := 51) (by rw [e3]; rfl) (by decide) ?_
    refine m_aload_n dX11_tellOf_52 rfl ?_
    obtain ⟨c8, fs9, e, hc, hF⟩ := hF
    refine m_virtual (as := []) (rest := []) (cw_X11_267 _ hc) e dX11_tellOf_53 rfl rfl (Nat.le_of_ble_eq_true rfl) (Nat.le_of_eq (Nat.zero_add _)) (Nat.le_of_eq (Nat.zero_add _)) (b1 := (0, 0)) (b2 := (0, 0)) (Ev.mono hF ?_)
    intro r5 h6 hF
    obtain ⟨x7, rfl, hF⟩ := hF
    exact m_ireturn dX11_tellOf_56 trivial hF
  replace hF := hF.2
  by_cases e4 : x_2 = 4
  · replace hF := hF.1 e4
    refine m_tableIn 57 dX11_tellOf_1 (by rw [e4]; decide) (by rw [e4]; decide) (off := 56) (by rw [e4]; rfl) (by decide) ?_
    refine m_aload_n dX11_tellOf_57 rfl ?_
    obtain ⟨r10, e, hF⟩ := hF
    refine m_get fg_X11_35 dX11_tellOf_58 e ?_
    refine m_aload_n dX11_tellOf_61 rfl ?_
    obtain ⟨r11, e, hF⟩ := hF
    refine m_get fg_X11_139 dX11_tellOf_62 e ?_
    refine m_aload_n dX11_tellOf_65 rfl ?_
    obtain ⟨x12, e, hF⟩ := hF
    refine m_get fg_X11_143 dX11_tellOf_66 e ?_
    obtain ⟨fs17, e, hF⟩ := hF
    refine m_virtual (as := [.ref r11, .int x12]) (rest := []) cv_X11_146_3 e dX11_tellOf_69 rfl rfl (Nat.le_of_ble_eq_true rfl) (Nat.le_of_eq (Nat.zero_add _)) (Nat.le_of_eq (Nat.zero_add _)) (b1 := (0, 0)) (b2 := (0, 0)) (Ev.mono hF ?_)
    intro r13 h14 hF
    obtain ⟨rfl, hF⟩ := hF
    refine m_aload_n dX11_tellOf_72 rfl ?_
    obtain ⟨r15, e, hF⟩ := hF
    refine m_get fg_X11_35 dX11_tellOf_73 e ?_
    obtain ⟨x16, e, hF⟩ := hF
    refine m_get fg_X11_270 dX11_tellOf_76 e ?_
    exact m_ireturn dX11_tellOf_79 trivial hF
  replace hF := hF.2
  replace hF := hF e0 e1 e2 e3 e4
  refine m_tableOut 80 dX11_tellOf_1 (m_swout (x := x_2) 0 5 (by intro j hj; match j, hj with | 0, _ => exact e0 | 1, _ => exact e1 | 2, _ => exact e2 | 3, _ => exact e3 | 4, _ => exact e4)) (by decide) ?_
  refine m_aload_n dX11_tellOf_80 rfl ?_
  obtain ⟨r18, e, hF⟩ := hF
  refine m_get fg_X11_49 dX11_tellOf_81 e ?_
  refine m_aload_n dX11_tellOf_84 rfl ?_
  obtain ⟨fs22, e, hF⟩ := hF
  refine m_virtual (as := [.ref r_1]) (rest := []) cv_X11_273_2 e dX11_tellOf_85 rfl rfl (Nat.le_of_ble_eq_true rfl) (Nat.le_of_eq (Nat.zero_add _)) (Nat.le_of_eq (Nat.zero_add _)) (b1 := (0, 0)) (b2 := (0, 0)) (Ev.mono hF ?_)
  intro r19 h20 hF
  obtain ⟨x21, rfl, hF⟩ := hF
  exact m_ireturn dX11_tellOf_88 trivial hF
theorem en_X11_tellOf {d : Nat} {r_0 : Nat} {r_1 : Nat} {x_2 : Int32} {h : mH} {K : Option Value → mH → Prop} (hk : Wm (d + 1) (0, 0) JX11_tellOf 0 [some (.ref r_0), some (.ref r_1), some (.int x_2)] [] h (fun r h' => h'.1 0 = h.1 0 ∧ K r h')) : Ev (d + 1) (0, 0) MX11_tellOf [.ref r_0, .ref r_1, .int x_2] h K :=
  m_met pn_X11 nl_X11 (fun _ => Nat.le_of_ble_eq_true rfl) hk
theorem bk_X11_alike_0 {d : Nat} {b : Nat × Nat} (r_0 : Nat) (r_1 : Nat) (r_2 : Nat) {h : mH} {Q : Option Value → mH → Prop} (hF : (∃ r1 : Nat, m_fld h r_1 [0, 1, 4, 8, 9] 1 = some (.ref r1) ∧ (∃ n2 : Nat, m_len h r1 = some n2 ∧ (∃ x3 : Int32, m_fld h r_1 [0, 1, 4, 8, 9] 0 = some (.int x3) ∧ (∃ x4 : Int32, m_fld h r_2 [0, 1, 4, 8, 9] 0 = some (.int x4) ∧ ((¬ x3 = x4 → Q (some (.int 0)) h) ∧ (x3 = x4 → (∃ r5 : Nat, m_fld h r_2 [0, 1, 4, 8, 9] 1 = some (.ref r5) ∧ (∃ n6 : Nat, m_len h r5 = some n6 ∧ (((nI n2) = (nI n6) → (∃ r7 : Nat, m_fld h r_0 [10] 3 = some (.ref r7) ∧ (∃ r8 : Nat, m_fld h r_1 [0, 1, 4, 8, 9] 1 = some (.ref r8) ∧ (∃ x9 : Int32, m_fld h r_1 [0, 1, 4, 8, 9] 0 = some (.int x9) ∧ (∃ fs24 : List Value, (h).1 r7 = .inr (3, fs24) ∧ Ev d (0, 0) MX3_find [.ref r7, .ref r8, .int x9] h (fun r10 h11 => r10 = none ∧ (∃ r12 : Nat, m_fld h11 r_0 [10] 3 = some (.ref r12) ∧ (∃ r13 : Nat, m_fld h11 r12 [3] 0 = some (.ref r13) ∧ (∃ b17 : Nat × Nat, b17.1 ≤ b.1 ∧ b17.2 ≤ b.2 ∧ Ev d b17 MJ7_copyOf_c38d5 [.ref r13, .int (nI n2)] h11 (fun r14 h15 => ∃ q16 : Nat, r14 = some (.ref q16) ∧ (∃ r18 : Nat, m_fld h15 r_0 [10] 3 = some (.ref r18) ∧ (∃ r19 : Nat, m_fld h15 r_2 [0, 1, 4, 8, 9] 1 = some (.ref r19) ∧ (∃ x20 : Int32, m_fld h15 r_2 [0, 1, 4, 8, 9] 0 = some (.int x20) ∧ (∃ fs23 : List Value, (h15).1 r18 = .inr (3, fs23) ∧ Ev d (0, 0) MX3_find [.ref r18, .ref r19, .int x20] h15 (fun r21 h22 => r21 = none ∧ Wm (d + 1) (b.1 - b17.1, b.2 - b17.2) JX11_alike 74 [some (.ref r_0), none, none, some (.int (nI n2)), some (.ref q16), some (.int 0)] [] h22 Q))))))))))))))) ∧ (¬ ((nI n2) = (nI n6)) → Q (some (.int 0)) h))))))))))) : Wm (d + 1) b JX11_alike 0 [some (.ref r_0), some (.ref r_1), some (.ref r_2), none, none, none] [] h Q := by
  refine m_aload_n dX11_alike_0 rfl ?_
  obtain ⟨r1, e, hF⟩ := hF
  refine m_get fg_X11_139 dX11_alike_1 e ?_
  obtain ⟨n2, e, hF⟩ := hF
  refine m_alen dX11_alike_4 e ?_
  refine m_istore_n (ls2 := [some (.ref r_0), some (.ref r_1), some (.ref r_2), some (.int (nI n2)), none, none]) dX11_alike_5 (by decide) rfl ?_
  refine m_aload_n dX11_alike_6 rfl ?_
  obtain ⟨x3, e, hF⟩ := hF
  refine m_get fg_X11_143 dX11_alike_7 e ?_
  refine m_aload_n dX11_alike_10 rfl ?_
  obtain ⟨x4, e, hF⟩ := hF
  refine m_get fg_X11_143 dX11_alike_11 e ?_
  refine m_icmp_ne 26 dX11_alike_14 (by decide) (fun c => ?_) (fun c => ?_)
  · replace hF := hF.1 c
    refine m_iconst dX11_alike_26 ki_0 ?_
    exact m_ireturn dX11_alike_27 (Or.inl rfl) hF
  · replace hF := hF.2 c
    refine m_iload_n dX11_alike_17 rfl ?_
    refine m_aload_n dX11_alike_18 rfl ?_
    obtain ⟨r5, e, hF⟩ := hF
    refine m_get fg_X11_139 dX11_alike_19 e ?_
    obtain ⟨n6, e, hF⟩ := hF
    refine m_alen dX11_alike_22 e ?_
    refine m_icmp_eq 28 dX11_alike_23 (by decide) (fun c => ?_) (fun c => ?_)
    · replace hF := hF.1 c
      refine m_aload_n dX11_alike_28 rfl ?_
      obtain ⟨r7, e, hF⟩ := hF
      refine m_get fg_X11_35 dX11_alike_29 e ?_
      refine m_aload_n dX11_alike_32 rfl ?_
      obtain ⟨r8, e, hF⟩ := hF
      refine m_get fg_X11_139 dX11_alike_33 e ?_
      refine m_aload_n dX11_alike_36 rfl ?_
      obtain ⟨x9, e, hF⟩ := hF
      refine m_get fg_X11_143 dX11_alike_37 e ?_
      obtain ⟨fs24, e, hF⟩ := hF
      refine m_virtual (as := [.ref r8, .int x9]) (rest := []) cv_X11_146_3 e dX11_alike_40 rfl rfl (Nat.le_of_ble_eq_true rfl) (Nat.le_of_eq (Nat.zero_add _)) (Nat.le_of_eq (Nat.zero_add _)) (b1 := (0, 0)) (b2 := b) (Ev.mono hF ?_)
      intro r10 h11 hF
      obtain ⟨rfl, hF⟩ := hF
      refine m_aload_n dX11_alike_43 rfl ?_
      obtain ⟨r12, e, hF⟩ := hF
      refine m_get fg_X11_35 dX11_alike_44 e ?_
      obtain ⟨r13, e, hF⟩ := hF
      refine m_get fg_X11_150 dX11_alike_47 e ?_
      refine m_iload_n dX11_alike_50 rfl ?_
      obtain ⟨b17, g1, g2, hF⟩ := hF
      refine m_static (as := [.ref r13, .int (nI n2)]) (rest := []) cs_X11_153 dX11_alike_51 rfl rfl (Nat.le_of_ble_eq_true rfl) (Nat.le_of_eq (Nat.add_sub_cancel' g1)) (Nat.le_of_eq (Nat.add_sub_cancel' g2)) (b1 := b17) (b2 := (b.1 - b17.1, b.2 - b17.2)) (Ev.mono hF ?_)
      intro r14 h15 hF
      obtain ⟨q16, rfl, hF⟩ := hF
      refine m_astore (ls2 := [some (.ref r_0), some (.ref r_1), some (.ref r_2), some (.int (nI n2)), some (.ref q16), none]) dX11_alike_54 (by decide) rfl ?_
      refine m_aload_n dX11_alike_56 rfl ?_
      obtain ⟨r18, e, hF⟩ := hF
      refine m_get fg_X11_35 dX11_alike_57 e ?_
      refine m_aload_n dX11_alike_60 rfl ?_
      obtain ⟨r19, e, hF⟩ := hF
      refine m_get fg_X11_139 dX11_alike_61 e ?_
      refine m_aload_n dX11_alike_64 rfl ?_
      obtain ⟨x20, e, hF⟩ := hF
      refine m_get fg_X11_143 dX11_alike_65 e ?_
      obtain ⟨fs23, e, hF⟩ := hF
      refine m_virtual (as := [.ref r19, .int x20]) (rest := []) cv_X11_146_3 e dX11_alike_68 rfl rfl (Nat.le_of_ble_eq_true rfl) (Nat.le_of_eq (Nat.zero_add _)) (Nat.le_of_eq (Nat.zero_add _)) (b1 := (0, 0)) (b2 := (b.1 - b17.1, b.2 - b17.2)) (Ev.mono hF ?_)
      intro r21 h22 hF
      obtain ⟨rfl, hF⟩ := hF
      refine m_iconst dX11_alike_71 ki_0 ?_
      refine m_istore (ls2 := [some (.ref r_0), some (.ref r_1), some (.ref r_2), some (.int (nI n2)), some (.ref q16), some (.int 0)]) dX11_alike_72 (by decide) rfl ?_
      refine m_wk [1, 2] rfl ?_
      exact hF
    · replace hF := hF.2 c
      refine m_iconst dX11_alike_26 ki_0 ?_
      exact m_ireturn dX11_alike_27 (Or.inl rfl) hF
theorem bk_X11_alike_74 {d : Nat} {b : Nat × Nat} (r_0 : Nat) (x_3 : Int32) (r_4 : Nat) (x_5 : Int32) {h : mH} {Q : Option Value → mH → Prop} (hF : ((x_3 ≤ x_5 → Q (some (.int 1)) h) ∧ (¬ (x_3 ≤ x_5) → (∃ y1 : Int64, m_ll h r_4 x_5 = some y1 ∧ (∃ r2 : Nat, m_fld h r_0 [10] 3 = some (.ref r2) ∧ (∃ r3 : Nat, m_fld h r2 [3] 0 = some (.ref r3) ∧ (∃ y4 : Int64, m_ll h r3 x_5 = some y4 ∧ (((lg_cmp y1 y4) = 0 → Wm (d + 1) b JX11_alike 74 [some (.ref r_0), none, none, some (.int x_3), some (.ref r_4), some (.int (x_5 + 1))] [] h Q) ∧ (¬ ((lg_cmp y1 y4) = 0) → Q (some (.int 0)) h))))))))) : Wm (d + 1) b JX11_alike 74 [some (.ref r_0), none, none, some (.int x_3), some (.ref r_4), some (.int x_5)] [] h Q := by
  refine m_iload dX11_alike_74 rfl ?_
  refine m_iload_n dX11_alike_76 rfl ?_
  refine m_icmp_ge 107 dX11_alike_77 (by decide) (fun c => ?_) (fun c => ?_)
  · replace hF := hF.1 c
    refine m_iconst dX11_alike_107 ki_1 ?_
    exact m_ireturn dX11_alike_108 (Or.inr rfl) hF
  · replace hF := hF.2 c
    refine m_aload dX11_alike_80 rfl ?_
    refine m_iload dX11_alike_82 rfl ?_
    obtain ⟨y1, e, hF⟩ := hF
    refine m_lald dX11_alike_84 e ?_
    refine m_aload_n dX11_alike_85 rfl ?_
    obtain ⟨r2, e, hF⟩ := hF
    refine m_get fg_X11_35 dX11_alike_86 e ?_
    obtain ⟨r3, e, hF⟩ := hF
    refine m_get fg_X11_150 dX11_alike_89 e ?_
    refine m_iload dX11_alike_92 rfl ?_
    obtain ⟨y4, e, hF⟩ := hF
    refine m_lald dX11_alike_94 e ?_
    refine m_lcmp dX11_alike_95 ?_
    refine m_if_eq 101 dX11_alike_96 (by decide) (fun c => ?_) (fun c => ?_)
    · replace hF := hF.1 c
      refine m_iinc (v := x_5 + 1) (ls2 := [some (.ref r_0), none, none, some (.int x_3), some (.ref r_4), some (.int (x_5 + 1))]) dX11_alike_101 (by decide) rfl (congrArg (_ + ·) ki_1) rfl ?_
      refine m_goto 74 dX11_alike_104 (by decide) ?_
      exact hF
    · replace hF := hF.2 c
      refine m_iconst dX11_alike_99 ki_0 ?_
      exact m_ireturn dX11_alike_100 (Or.inl rfl) hF
theorem en_X11_alike {d : Nat} {b : Nat × Nat} {r_0 : Nat} {r_1 : Nat} {r_2 : Nat} {h : mH} {K : Option Value → mH → Prop} (hk : Wm (d + 1) b JX11_alike 0 [some (.ref r_0), some (.ref r_1), some (.ref r_2), none, none, none] [] h (fun r h' => h'.1 0 = h.1 0 ∧ K r h')) : Ev (d + 1) b MX11_alike [.ref r_0, .ref r_1, .ref r_2] h K :=
  m_met pn_X11 nl_X11 (fun _ => Nat.le_of_ble_eq_true rfl) hk
theorem bk_X11_ofKind_0 {d : Nat} (r_0 : Nat) (x_1 : Int32) {h : mH} {Q : Option Value → mH → Prop} (hF : ((x_1 = 1 → (∃ (c1 : Nat) (fs2 : List Value), (h).1 r_0 = .inr (c1, fs2) ∧ c1 ∈ [0, 1, 4, 8, 9] ∧ (((if m_isa c1 8 = true then (1 : Int32) else 0) = 0 ∨ (if m_isa c1 8 = true then (1 : Int32) else 0) = 1) ∧ Q (some (.int (if m_isa c1 8 = true then (1 : Int32) else 0))) h))) ∧ (x_1 = 2 → (∃ (c3 : Nat) (fs4 : List Value), (h).1 r_0 = .inr (c3, fs4) ∧ c3 ∈ [0, 1, 4, 8, 9] ∧ (((if m_isa c3 9 = true then (1 : Int32) else 0) = 0 ∨ (if m_isa c3 9 = true then (1 : Int32) else 0) = 1) ∧ Q (some (.int (if m_isa c3 9 = true then (1 : Int32) else 0))) h))) ∧ (x_1 = 3 → (∃ (c5 : Nat) (fs6 : List Value), (h).1 r_0 = .inr (c5, fs6) ∧ c5 ∈ [0, 1, 4, 8, 9] ∧ (((if m_isa c5 0 = true then (1 : Int32) else 0) = 0 ∨ (if m_isa c5 0 = true then (1 : Int32) else 0) = 1) ∧ Q (some (.int (if m_isa c5 0 = true then (1 : Int32) else 0))) h))) ∧ (x_1 = 4 → (∃ (c7 : Nat) (fs8 : List Value), (h).1 r_0 = .inr (c7, fs8) ∧ c7 ∈ [0, 1, 4, 8, 9] ∧ (((if m_isa c7 4 = true then (1 : Int32) else 0) = 0 ∨ (if m_isa c7 4 = true then (1 : Int32) else 0) = 1) ∧ Q (some (.int (if m_isa c7 4 = true then (1 : Int32) else 0))) h))) ∧ (¬ x_1 = 1 → ¬ x_1 = 2 → ¬ x_1 = 3 → ¬ x_1 = 4 → Q (some (.int 1)) h))) : Wm d (0, 0) JX11_ofKind 0 [some (.ref r_0), some (.int x_1)] [] h Q := by
  refine m_iload_n dX11_ofKind_0 rfl ?_
  by_cases e1 : x_1 = 1
  · replace hF := hF.1 e1
    refine m_tableIn 32 dX11_ofKind_1 (by rw [e1]; decide) (by rw [e1]; decide) (off := 31) (by rw [e1]; rfl) (by decide) ?_
    refine m_aload_n dX11_ofKind_32 rfl ?_
    obtain ⟨c1, fs2, e, hc, hF⟩ := hF
    refine m_inst (ct := 8) dX11_ofKind_33 (by decide) hc cl_X11_276 e ?_
    exact m_ireturn dX11_ofKind_36 hF.1 hF.2
  replace hF := hF.2
  by_cases e2 : x_1 = 2
  · replace hF := hF.1 e2
    refine m_tableIn 37 dX11_ofKind_1 (by rw [e2]; decide) (by rw [e2]; decide) (off := 36) (by rw [e2]; rfl) (by decide) ?_
    refine m_aload_n dX11_ofKind_37 rfl ?_
    obtain ⟨c3, fs4, e, hc, hF⟩ := hF
    refine m_inst (ct := 9) dX11_ofKind_38 (by decide) hc cl_X11_174 e ?_
    exact m_ireturn dX11_ofKind_41 hF.1 hF.2
  replace hF := hF.2
  by_cases e3 : x_1 = 3
  · replace hF := hF.1 e3
    refine m_tableIn 42 dX11_ofKind_1 (by rw [e3]; decide) (by rw [e3]; decide) (off := 41) (by rw [e3]; rfl) (by decide) ?_
    refine m_aload_n dX11_ofKind_42 rfl ?_
    obtain ⟨c5, fs6, e, hc, hF⟩ := hF
    refine m_inst (ct := 0) dX11_ofKind_43 (by decide) hc cl_X11_278 e ?_
    exact m_ireturn dX11_ofKind_46 hF.1 hF.2
  replace hF := hF.2
  by_cases e4 : x_1 = 4
  · replace hF := hF.1 e4
    refine m_tableIn 47 dX11_ofKind_1 (by rw [e4]; decide) (by rw [e4]; decide) (off := 46) (by rw [e4]; rfl) (by decide) ?_
    refine m_aload_n dX11_ofKind_47 rfl ?_
    obtain ⟨c7, fs8, e, hc, hF⟩ := hF
    refine m_inst (ct := 4) dX11_ofKind_48 (by decide) hc cl_X11_280 e ?_
    exact m_ireturn dX11_ofKind_51 hF.1 hF.2
  replace hF := hF.2
  replace hF := hF e1 e2 e3 e4
  refine m_tableOut 52 dX11_ofKind_1 (m_swout (x := x_1) 1 4 (by intro j hj; match j, hj with | 0, _ => exact e1 | 1, _ => exact e2 | 2, _ => exact e3 | 3, _ => exact e4)) (by decide) ?_
  refine m_aload_n dX11_ofKind_52 rfl ?_
  refine m_ifnull dX11_ofKind_53 ?_
  refine m_iconst dX11_ofKind_56 ki_1 ?_
  refine m_goto 61 dX11_ofKind_57 (by decide) ?_
  exact m_ireturn dX11_ofKind_61 (Or.inr rfl) hF
theorem en_X11_ofKind {d : Nat} {r_0 : Nat} {x_1 : Int32} {h : mH} {K : Option Value → mH → Prop} (hk : Wm d (0, 0) JX11_ofKind 0 [some (.ref r_0), some (.int x_1)] [] h (fun r h' => h'.1 0 = h.1 0 ∧ K r h')) : Ev d (0, 0) MX11_ofKind [.ref r_0, .int x_1] h K :=
  m_met pn_X11 nl_X11 (fun _ => Nat.le_of_ble_eq_true rfl) hk
theorem bk_X11_ofKind_0n {d : Nat} (x_1 : Int32) {h : mH} {Q : Option Value → mH → Prop} (hF : ((x_1 = 1 → Q (some (.int 0)) h) ∧ (x_1 = 2 → Q (some (.int 0)) h) ∧ (x_1 = 3 → Q (some (.int 0)) h) ∧ (x_1 = 4 → Q (some (.int 0)) h) ∧ (¬ x_1 = 1 → ¬ x_1 = 2 → ¬ x_1 = 3 → ¬ x_1 = 4 → Q (some (.int 0)) h))) : Wm d (0, 0) JX11_ofKind 0 [some (.null), some (.int x_1)] [] h Q := by
  refine m_iload_n dX11_ofKind_0 rfl ?_
  by_cases e1 : x_1 = 1
  · replace hF := hF.1 e1
    refine m_tableIn 32 dX11_ofKind_1 (by rw [e1]; decide) (by rw [e1]; decide) (off := 31) (by rw [e1]; rfl) (by decide) ?_
    refine m_aload_nN dX11_ofKind_32 rfl ?_
    refine m_instN dX11_ofKind_33 ?_
    exact m_ireturn dX11_ofKind_36 (Or.inl rfl) hF
  replace hF := hF.2
  by_cases e2 : x_1 = 2
  · replace hF := hF.1 e2
    refine m_tableIn 37 dX11_ofKind_1 (by rw [e2]; decide) (by rw [e2]; decide) (off := 36) (by rw [e2]; rfl) (by decide) ?_
    refine m_aload_nN dX11_ofKind_37 rfl ?_
    refine m_instN dX11_ofKind_38 ?_
    exact m_ireturn dX11_ofKind_41 (Or.inl rfl) hF
  replace hF := hF.2
  by_cases e3 : x_1 = 3
  · replace hF := hF.1 e3
    refine m_tableIn 42 dX11_ofKind_1 (by rw [e3]; decide) (by rw [e3]; decide) (off := 41) (by rw [e3]; rfl) (by decide) ?_
    refine m_aload_nN dX11_ofKind_42 rfl ?_
    refine m_instN dX11_ofKind_43 ?_
    exact m_ireturn dX11_ofKind_46 (Or.inl rfl) hF
  replace hF := hF.2
  by_cases e4 : x_1 = 4
  · replace hF := hF.1 e4
    refine m_tableIn 47 dX11_ofKind_1 (by rw [e4]; decide) (by rw [e4]; decide) (off := 46) (by rw [e4]; rfl) (by decide) ?_
    refine m_aload_nN dX11_ofKind_47 rfl ?_
    refine m_instN dX11_ofKind_48 ?_
    exact m_ireturn dX11_ofKind_51 (Or.inl rfl) hF
  replace hF := hF.2
  replace hF := hF e1 e2 e3 e4
  refine m_tableOut 52 dX11_ofKind_1 (m_swout (x := x_1) 1 4 (by intro j hj; match j, hj with | 0, _ => exact e1 | 1, _ => exact e2 | 2, _ => exact e3 | 3, _ => exact e4)) (by decide) ?_
  refine m_aload_nN dX11_ofKind_52 rfl ?_
  refine m_ifnullN 60 dX11_ofKind_53 (by decide) ?_
  refine m_iconst dX11_ofKind_60 ki_0 ?_
  exact m_ireturn dX11_ofKind_61 (Or.inl rfl) hF
theorem en_X11_ofKindn {d : Nat} {x_1 : Int32} {h : mH} {K : Option Value → mH → Prop} (hk : Wm d (0, 0) JX11_ofKind 0 [some (.null), some (.int x_1)] [] h (fun r h' => h'.1 0 = h.1 0 ∧ K r h')) : Ev d (0, 0) MX11_ofKind [.null, .int x_1] h K :=
  m_met pn_X11 nl_X11 (fun _ => Nat.le_of_ble_eq_true rfl) hk
theorem bk_X11_rowsThere_0 {d : Nat} (r_0 : Nat) {h : mH} {Q : Option Value → mH → Prop} (hF : Wm (d + 1) (0, 0) JX11_rowsThere 4 [some (.ref r_0), some (.int 0), some (.int 0)] [] h Q) : Wm (d + 1) (0, 0) JX11_rowsThere 0 [some (.ref r_0), none, none] [] h Q := by
  refine m_iconst dX11_rowsThere_0 ki_0 ?_
  refine m_istore_n (ls2 := [some (.ref r_0), some (.int 0), none]) dX11_rowsThere_1 (by decide) rfl ?_
  refine m_iconst dX11_rowsThere_2 ki_0 ?_
  refine m_istore_n (ls2 := [some (.ref r_0), some (.int 0), some (.int 0)]) dX11_rowsThere_3 (by decide) rfl ?_
  exact hF
theorem bk_X11_rowsThere_4 {d : Nat} (r_0 : Nat) (x_1 : Int32) (x_2 : Int32) {h : mH} {Q : Option Value → mH → Prop} (hF : ((8 ≤ x_2 → Q (some (.int x_1)) h) ∧ (¬ (8 ≤ x_2) → (∃ r1 : Nat, m_fld h r_0 [10] 0 = some (.ref r1) ∧ ((m_rl h r1 x_2 = some .null ∧ False) ∨ (∃ r2 : Nat, m_rl h r1 x_2 = some (.ref r2) ∧ (∃ fs9 : List Value, (h).1 r2 = .inr (6, fs9) ∧ Ev d (0, 0) MX7_missing [.ref r2] h (fun r6 h7 => ∃ x8 : Int32, r6 = some (.int x8) ∧ ((¬ x8 = 0 → Wm (d + 1) (0, 0) JX11_rowsThere 4 [some (.ref r_0), some (.int x_1), some (.int (x_2 + 1))] [] h7 Q) ∧ (x8 = 0 → Wm (d + 1) (0, 0) JX11_rowsThere 4 [some (.ref r_0), some (.int (x_1 + 1)), some (.int (x_2 + 1))] [] h7 Q)))))))))) : Wm (d + 1) (0, 0) JX11_rowsThere 4 [some (.ref r_0), some (.int x_1), some (.int x_2)] [] h Q := by
  refine m_iload_n dX11_rowsThere_4 rfl ?_
  refine m_bipush dX11_rowsThere_5 kb_8 ?_
  refine m_icmp_ge 31 dX11_rowsThere_7 (by decide) (fun c => ?_) (fun c => ?_)
  · replace hF := hF.1 c
    refine m_iload_n dX11_rowsThere_31 rfl ?_
    exact m_ireturn dX11_rowsThere_32 trivial hF
  · replace hF := hF.2 c
    refine m_aload_n dX11_rowsThere_10 rfl ?_
    obtain ⟨r1, e, hF⟩ := hF
    refine m_get fg_X11_11 dX11_rowsThere_11 e ?_
    refine m_iload_n dX11_rowsThere_14 rfl ?_
    rcases hF with ⟨e, hF⟩ | ⟨r2, e, hF⟩
    · refine m_aald dX11_rowsThere_15 e ?_
      exact hF.elim
    · refine m_aald dX11_rowsThere_15 e ?_
      obtain ⟨fs9, e, hF⟩ := hF
      refine m_virtual (as := []) (rest := []) cv_X11_72_6 e dX11_rowsThere_16 rfl rfl (Nat.le_of_ble_eq_true rfl) (Nat.le_of_eq (Nat.zero_add _)) (Nat.le_of_eq (Nat.zero_add _)) (b1 := (0, 0)) (b2 := (0, 0)) (Ev.mono hF ?_)
      intro r6 h7 hF
      obtain ⟨x8, rfl, hF⟩ := hF
      refine m_if_ne 25 dX11_rowsThere_19 (by decide) (fun c => ?_) (fun c => ?_)
      · replace hF := hF.1 c
        refine m_iinc (v := x_2 + 1) (ls2 := [some (.ref r_0), some (.int x_1), some (.int (x_2 + 1))]) dX11_rowsThere_25 (by decide) rfl (congrArg (_ + ·) ki_1) rfl ?_
        refine m_goto 4 dX11_rowsThere_28 (by decide) ?_
        exact hF
      · replace hF := hF.2 c
        refine m_iinc (v := x_1 + 1) (ls2 := [some (.ref r_0), some (.int (x_1 + 1)), some (.int x_2)]) dX11_rowsThere_22 (by decide) rfl (congrArg (_ + ·) ki_1) rfl ?_
        refine m_iinc (v := x_2 + 1) (ls2 := [some (.ref r_0), some (.int (x_1 + 1)), some (.int (x_2 + 1))]) dX11_rowsThere_25 (by decide) rfl (congrArg (_ + ·) ki_1) rfl ?_
        refine m_goto 4 dX11_rowsThere_28 (by decide) ?_
        exact hF
theorem en_X11_rowsThere {d : Nat} {r_0 : Nat} {h : mH} {K : Option Value → mH → Prop} (hk : Wm (d + 1) (0, 0) JX11_rowsThere 0 [some (.ref r_0), none, none] [] h (fun r h' => h'.1 0 = h.1 0 ∧ K r h')) : Ev (d + 1) (0, 0) MX11_rowsThere [.ref r_0] h K :=
  m_met pn_X11 nl_X11 (fun _ => Nat.le_of_ble_eq_true rfl) hk
theorem bk_X11_coversThere_0 {d : Nat} (r_0 : Nat) (x_1 : Int32) {h : mH} {Q : Option Value → mH → Prop} (hF : Wm (d + 1) (0, 0) JX11_coversThere 4 [some (.ref r_0), some (.int x_1), some (.int 0), some (.int 0), none] [] h Q) : Wm (d + 1) (0, 0) JX11_coversThere 0 [some (.ref r_0), some (.int x_1), none, none, none] [] h Q := by
  refine m_iconst dX11_coversThere_0 ki_0 ?_
  refine m_istore_n (ls2 := [some (.ref r_0), some (.int x_1), some (.int 0), none, none]) dX11_coversThere_1 (by decide) rfl ?_
  refine m_iconst dX11_coversThere_2 ki_0 ?_
  refine m_istore_n (ls2 := [some (.ref r_0), some (.int x_1), some (.int 0), some (.int 0), none]) dX11_coversThere_3 (by decide) rfl ?_
  exact hF
theorem bk_X11_coversThere_4 {d : Nat} (r_0 : Nat) (x_1 : Int32) (x_2 : Int32) (x_3 : Int32) {h : mH} {Q : Option Value → mH → Prop} (hF : ((10 ≤ x_3 → Q (some (.int x_2)) h) ∧ (¬ (10 ≤ x_3) → (∃ r1 : Nat, m_fld h r_0 [10] 1 = some (.ref r1) ∧ ((m_rl h r1 x_3 = some .null ∧ Wm (d + 1) (0, 0) JX11_coversThere 4 [some (.ref r_0), some (.int x_1), some (.int x_2), some (.int (x_3 + 1)), none] [] h Q) ∨ (∃ r2 : Nat, m_rl h r1 x_3 = some (.ref r2) ∧ ((¬ x_1 = 6 → Ev d (0, 0) MX11_ofKind [.ref r2, .int (x_1 - 1)] h (fun r3 h4 => ∃ x5 : Int32, r3 = some (.int x5) ∧ ((x5 = 0 → Wm (d + 1) (0, 0) JX11_coversThere 4 [some (.ref r_0), some (.int x_1), some (.int x_2), some (.int (x_3 + 1)), none] [] h4 Q) ∧ (¬ (x5 = 0) → Wm (d + 1) (0, 0) JX11_coversThere 4 [some (.ref r_0), some (.int x_1), some (.int (x_2 + 1)), some (.int (x_3 + 1)), none] [] h4 Q)))) ∧ (x_1 = 6 → (∃ (c9 : Nat) (fs10 : List Value), (h).1 r2 = .inr (c9, fs10) ∧ c9 ∈ [0, 1, 4, 8, 9] ∧ Ev d (0, 0) MX1_whole [.ref r2] h (fun r6 h7 => ∃ x8 : Int32, r6 = some (.int x8) ∧ ((x8 = 0 → Wm (d + 1) (0, 0) JX11_coversThere 4 [some (.ref r_0), some (.int x_1), some (.int x_2), some (.int (x_3 + 1)), none] [] h7 Q) ∧ (¬ (x8 = 0) → Wm (d + 1) (0, 0) JX11_coversThere 4 [some (.ref r_0), some (.int x_1), some (.int (x_2 + 1)), some (.int (x_3 + 1)), none] [] h7 Q)))))))))))) : Wm (d + 1) (0, 0) JX11_coversThere 4 [some (.ref r_0), some (.int x_1), some (.int x_2), some (.int x_3), none] [] h Q := by
  refine m_iload_n dX11_coversThere_4 rfl ?_
  refine m_bipush dX11_coversThere_5 kb_10 ?_
  refine m_icmp_ge 60 dX11_coversThere_7 (by decide) (fun c => ?_) (fun c => ?_)
  · replace hF := hF.1 c
    refine m_iload_n dX11_coversThere_60 rfl ?_
    exact m_ireturn dX11_coversThere_61 trivial hF
  · replace hF := hF.2 c
    refine m_aload_n dX11_coversThere_10 rfl ?_
    obtain ⟨r1, e, hF⟩ := hF
    refine m_get fg_X11_20 dX11_coversThere_11 e ?_
    refine m_iload_n dX11_coversThere_14 rfl ?_
    rcases hF with ⟨e, hF⟩ | ⟨r2, e, hF⟩
    · refine m_aald dX11_coversThere_15 e ?_
      refine m_astoreN (ls2 := [some (.ref r_0), some (.int x_1), some (.int x_2), some (.int x_3), some (.null)]) dX11_coversThere_16 (by decide) rfl ?_
      refine m_aloadN dX11_coversThere_18 rfl ?_
      refine m_ifnullN 54 dX11_coversThere_20 (by decide) ?_
      refine m_iinc (v := x_3 + 1) (ls2 := [some (.ref r_0), some (.int x_1), some (.int x_2), some (.int (x_3 + 1)), some (.null)]) dX11_coversThere_54 (by decide) rfl (congrArg (_ + ·) ki_1) rfl ?_
      refine m_goto 4 dX11_coversThere_57 (by decide) ?_
      refine m_wk [4] rfl ?_
      exact hF
    · refine m_aald dX11_coversThere_15 e ?_
      refine m_astore (ls2 := [some (.ref r_0), some (.int x_1), some (.int x_2), some (.int x_3), some (.ref r2)]) dX11_coversThere_16 (by decide) rfl ?_
      refine m_aload dX11_coversThere_18 rfl ?_
      refine m_ifnull dX11_coversThere_20 ?_
      refine m_iload_n dX11_coversThere_23 rfl ?_
      refine m_bipush dX11_coversThere_24 kb_6 ?_
      refine m_icmp_ne 40 dX11_coversThere_26 (by decide) (fun c => ?_) (fun c => ?_)
      · replace hF := hF.1 c
        refine m_aload dX11_coversThere_40 rfl ?_
        refine m_iload_n dX11_coversThere_42 rfl ?_
        refine m_iconst dX11_coversThere_43 ki_1 ?_
        refine m_isub dX11_coversThere_44 ?_
        refine m_static (as := [.ref r2, .int (x_1 - 1)]) (rest := []) cs_X11_228 dX11_coversThere_45 rfl rfl (Nat.le_of_ble_eq_true rfl) (Nat.le_of_eq (Nat.zero_add _)) (Nat.le_of_eq (Nat.zero_add _)) (b1 := (0, 0)) (b2 := (0, 0)) (Ev.mono hF ?_)
        intro r3 h4 hF
        obtain ⟨x5, rfl, hF⟩ := hF
        refine m_if_eq 54 dX11_coversThere_48 (by decide) (fun c => ?_) (fun c => ?_)
        · replace hF := hF.1 c
          refine m_iinc (v := x_3 + 1) (ls2 := [some (.ref r_0), some (.int x_1), some (.int x_2), some (.int (x_3 + 1)), some (.ref r2)]) dX11_coversThere_54 (by decide) rfl (congrArg (_ + ·) ki_1) rfl ?_
          refine m_goto 4 dX11_coversThere_57 (by decide) ?_
          refine m_wk [4] rfl ?_
          exact hF
        · replace hF := hF.2 c
          refine m_iinc (v := x_2 + 1) (ls2 := [some (.ref r_0), some (.int x_1), some (.int (x_2 + 1)), some (.int x_3), some (.ref r2)]) dX11_coversThere_51 (by decide) rfl (congrArg (_ + ·) ki_1) rfl ?_
          refine m_iinc (v := x_3 + 1) (ls2 := [some (.ref r_0), some (.int x_1), some (.int (x_2 + 1)), some (.int (x_3 + 1)), some (.ref r2)]) dX11_coversThere_54 (by decide) rfl (congrArg (_ + ·) ki_1) rfl ?_
          refine m_goto 4 dX11_coversThere_57 (by decide) ?_
          refine m_wk [4] rfl ?_
          exact hF
      · replace hF := hF.2 c
        refine m_aload dX11_coversThere_29 rfl ?_
        obtain ⟨c9, fs10, e, hc, hF⟩ := hF
        refine m_virtual (as := []) (rest := []) (cw_X11_136 _ hc) e dX11_coversThere_31 rfl rfl (Nat.le_of_ble_eq_true rfl) (Nat.le_of_eq (Nat.zero_add _)) (Nat.le_of_eq (Nat.zero_add _)) (b1 := (0, 0)) (b2 := (0, 0)) (Ev.mono hF ?_)
        intro r6 h7 hF
        obtain ⟨x8, rfl, hF⟩ := hF
        refine m_if_eq 54 dX11_coversThere_34 (by decide) (fun c => ?_) (fun c => ?_)
        · replace hF := hF.1 c
          refine m_iinc (v := x_3 + 1) (ls2 := [some (.ref r_0), some (.int x_1), some (.int x_2), some (.int (x_3 + 1)), some (.ref r2)]) dX11_coversThere_54 (by decide) rfl (congrArg (_ + ·) ki_1) rfl ?_
          refine m_goto 4 dX11_coversThere_57 (by decide) ?_
          refine m_wk [4] rfl ?_
          exact hF
        · replace hF := hF.2 c
          refine m_goto 51 dX11_coversThere_37 (by decide) ?_
          refine m_iinc (v := x_2 + 1) (ls2 := [some (.ref r_0), some (.int x_1), some (.int (x_2 + 1)), some (.int x_3), some (.ref r2)]) dX11_coversThere_51 (by decide) rfl (congrArg (_ + ·) ki_1) rfl ?_
          refine m_iinc (v := x_3 + 1) (ls2 := [some (.ref r_0), some (.int x_1), some (.int (x_2 + 1)), some (.int (x_3 + 1)), some (.ref r2)]) dX11_coversThere_54 (by decide) rfl (congrArg (_ + ·) ki_1) rfl ?_
          refine m_goto 4 dX11_coversThere_57 (by decide) ?_
          refine m_wk [4] rfl ?_
          exact hF
theorem en_X11_coversThere {d : Nat} {r_0 : Nat} {x_1 : Int32} {h : mH} {K : Option Value → mH → Prop} (hk : Wm (d + 1) (0, 0) JX11_coversThere 0 [some (.ref r_0), some (.int x_1), none, none, none] [] h (fun r h' => h'.1 0 = h.1 0 ∧ K r h')) : Ev (d + 1) (0, 0) MX11_coversThere [.ref r_0, .int x_1] h K :=
  m_met pn_X11 nl_X11 (fun _ => Nat.le_of_ble_eq_true rfl) hk

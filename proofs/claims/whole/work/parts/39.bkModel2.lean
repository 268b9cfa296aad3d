theorem bk_X12_turn_0 {d : Nat} (r_0 : Nat) (x_1 : Int32) (x_2 : Int32) (x_3 : Int32) {h : mH} {Q : Option Value → mH → Prop} (hF : (∃ h1 : mH, m_put h r_0 11 0 (.int 0) = some h1 ∧ Ev d (0, 0) MX12_isPlace [.int x_1] h1 (fun r2 h3 => ∃ x4 : Int32, r2 = some (.int x4) ∧ ((x4 = 0 → Q (some (.int (-1000001))) h3) ∧ (¬ (x4 = 0) → Ev d (0, 0) MX12_isPlace [.int x_2] h3 (fun r5 h6 => ∃ x7 : Int32, r5 = some (.int x7) ∧ ((x7 = 0 → Q (some (.int (-1000001))) h6) ∧ (¬ (x7 = 0) → Ev d (0, 0) MX12_in [.long x_3.toInt64, .long 0, .long 1] h6 (fun r8 h9 => ∃ x10 : Int32, r8 = some (.int x10) ∧ ((¬ x10 = 0 → (∃ fs30 : List Value, (h9).1 r_0 = .inr (11, fs30) ∧ Ev d (0, 0) MX12_look [.ref r_0, .int x_2, .int 0] h9 (fun r11 h12 => ∃ x13 : Int32, r11 = some (.int x13) ∧ ((0 ≤ x13 → ((¬ x_3 = 1 → (∃ fs16 : List Value, (h12).1 r_0 = .inr (11, fs16) ∧ Ev d (0, 0) MX12_become [.ref r_0, .int 10, .int x_2] h12 (fun r14 h15 => r14 = none ∧ Wm (d + 1) (0, 0) JX12_turn 94 [some (.ref r_0), some (.int x_1), some (.int x_2), none, none, some (.int 0), none] [] h15 Q))) ∧ (x_3 = 1 → (∃ r17 : Nat, m_fld h12 r_0 [11] 6 = some (.ref r17) ∧ (∃ x18 : Int32, m_il h12 r17 x_2 = some x18 ∧ ((x18 = 3 → (∃ fs25 : List Value, (h12).1 r_0 = .inr (11, fs25) ∧ Ev d (0, 0) MX12_braided [.ref r_0, .int 10, .int x_2, .int 0, .int 0] h12 (fun r19 h20 => r19 = none ∧ (∃ fs24 : List Value, (h20).1 r_0 = .inr (11, fs24) ∧ Ev d (0, 0) MX12_lay [.ref r_0, .int x_1] h20 (fun r21 h22 => ∃ x23 : Int32, r21 = some (.int x23) ∧ Q (some (.int x23)) h22))))) ∧ (¬ (x18 = 3) → (∃ fs29 : List Value, (h12).1 r_0 = .inr (11, fs29) ∧ Ev d (0, 0) MX12_found [.ref r_0, .int 3] h12 (fun r26 h27 => ∃ x28 : Int32, r26 = some (.int x28) ∧ Q (some (.int x28)) h27))))))))) ∧ (¬ (0 ≤ x13) → Q (some (.int x13)) h12))))) ∧ (x10 = 0 → Q (some (.int (-1000001))) h9))))))))))) : Wm (d + 1) (0, 0) JX12_turn 0 [some (.ref r_0), some (.int x_1), some (.int x_2), some (.int x_3), none, none, none] [] h Q := by
  refine m_aload_n dX12_turn_0 rfl ?_
  refine m_iconst dX12_turn_1 ki_0 ?_
  obtain ⟨h1, e, hF⟩ := hF
  refine m_putf fp_X12_78_11 dX12_turn_2 trivial e ?_
  refine m_iload_n dX12_turn_5 rfl ?_
  refine m_static (as := [.int x_1]) (rest := []) cs_X12_120 dX12_turn_6 rfl rfl (Nat.le_of_ble_eq_true rfl) (Nat.le_of_eq (Nat.zero_add _)) (Nat.le_of_eq (Nat.zero_add _)) (b1 := (0, 0)) (b2 := (0, 0)) (Ev.mono hF ?_)
  intro r2 h3 hF
  obtain ⟨x4, rfl, hF⟩ := hF
  refine m_if_eq 29 dX12_turn_9 (by decide) (fun c => ?_) (fun c => ?_)
  · replace hF := hF.1 c
    refine m_ldc dX12_turn_29 kc_X12_98 ?_
    exact m_ireturn dX12_turn_31 trivial hF
  · replace hF := hF.2 c
    refine m_iload_n dX12_turn_12 rfl ?_
    refine m_static (as := [.int x_2]) (rest := []) cs_X12_120 dX12_turn_13 rfl rfl (Nat.le_of_ble_eq_true rfl) (Nat.le_of_eq (Nat.zero_add _)) (Nat.le_of_eq (Nat.zero_add _)) (b1 := (0, 0)) (b2 := (0, 0)) (Ev.mono hF ?_)
    intro r5 h6 hF
    obtain ⟨x7, rfl, hF⟩ := hF
    refine m_if_eq 29 dX12_turn_16 (by decide) (fun c => ?_) (fun c => ?_)
    · replace hF := hF.1 c
      refine m_ldc dX12_turn_29 kc_X12_98 ?_
      exact m_ireturn dX12_turn_31 trivial hF
    · replace hF := hF.2 c
      refine m_iload_n dX12_turn_19 rfl ?_
      refine m_i2l dX12_turn_20 ?_
      refine m_lconst dX12_turn_21 kl_0 ?_
      refine m_lconst dX12_turn_22 kl_1 ?_
      refine m_static (as := [.long x_3.toInt64, .long 0, .long 1]) (rest := []) cs_X12_88 dX12_turn_23 rfl rfl (Nat.le_of_ble_eq_true rfl) (Nat.le_of_eq (Nat.zero_add _)) (Nat.le_of_eq (Nat.zero_add _)) (b1 := (0, 0)) (b2 := (0, 0)) (Ev.mono hF ?_)
      intro r8 h9 hF
      obtain ⟨x10, rfl, hF⟩ := hF
      refine m_if_ne 32 dX12_turn_26 (by decide) (fun c => ?_) (fun c => ?_)
      · replace hF := hF.1 c
        refine m_aload_n dX12_turn_32 rfl ?_
        refine m_iload_n dX12_turn_33 rfl ?_
        refine m_iconst dX12_turn_34 ki_0 ?_
        obtain ⟨fs30, e, hF⟩ := hF
        refine m_virtual (as := [.int x_2, .int 0]) (rest := []) cv_X12_137_11 e dX12_turn_35 rfl rfl (Nat.le_of_ble_eq_true rfl) (Nat.le_of_eq (Nat.zero_add _)) (Nat.le_of_eq (Nat.zero_add _)) (b1 := (0, 0)) (b2 := (0, 0)) (Ev.mono hF ?_)
        intro r11 h12 hF
        obtain ⟨x13, rfl, hF⟩ := hF
        refine m_istore (ls2 := [some (.ref r_0), some (.int x_1), some (.int x_2), some (.int x_3), some (.int x13), none, none]) dX12_turn_38 (by decide) rfl ?_
        refine m_iload dX12_turn_40 rfl ?_
        refine m_if_ge 48 dX12_turn_42 (by decide) (fun c => ?_) (fun c => ?_)
        · replace hF := hF.1 c
          refine m_iload_n dX12_turn_48 rfl ?_
          refine m_iconst dX12_turn_49 ki_1 ?_
          refine m_icmp_ne 84 dX12_turn_50 (by decide) (fun c => ?_) (fun c => ?_)
          · replace hF := hF.1 c
            refine m_aload_n dX12_turn_84 rfl ?_
            refine m_bipush dX12_turn_85 kb_10 ?_
            refine m_iload_n dX12_turn_87 rfl ?_
            obtain ⟨fs16, e, hF⟩ := hF
            refine m_virtual (as := [.int 10, .int x_2]) (rest := []) cv_X12_113_11 e dX12_turn_88 rfl rfl (Nat.le_of_ble_eq_true rfl) (Nat.le_of_eq (Nat.zero_add _)) (Nat.le_of_eq (Nat.zero_add _)) (b1 := (0, 0)) (b2 := (0, 0)) (Ev.mono hF ?_)
            intro r14 h15 hF
            obtain ⟨rfl, hF⟩ := hF
            refine m_iconst dX12_turn_91 ki_0 ?_
            refine m_istore (ls2 := [some (.ref r_0), some (.int x_1), some (.int x_2), some (.int x_3), some (.int x13), some (.int 0), none]) dX12_turn_92 (by decide) rfl ?_
            refine m_wk [3, 4] rfl ?_
            exact hF
          · replace hF := hF.2 c
            refine m_aload_n dX12_turn_53 rfl ?_
            obtain ⟨r17, e, hF⟩ := hF
            refine m_get fg_X12_22 dX12_turn_54 e ?_
            refine m_iload_n dX12_turn_57 rfl ?_
            obtain ⟨x18, e, hF⟩ := hF
            refine m_iald dX12_turn_58 e ?_
            refine m_iconst dX12_turn_59 ki_3 ?_
            refine m_icmp_eq 69 dX12_turn_60 (by decide) (fun c => ?_) (fun c => ?_)
            · replace hF := hF.1 c
              refine m_aload_n dX12_turn_69 rfl ?_
              refine m_bipush dX12_turn_70 kb_10 ?_
              refine m_iload_n dX12_turn_72 rfl ?_
              refine m_iconst dX12_turn_73 ki_0 ?_
              refine m_iconst dX12_turn_74 ki_0 ?_
              obtain ⟨fs25, e, hF⟩ := hF
              refine m_virtual (as := [.int 10, .int x_2, .int 0, .int 0]) (rest := []) cv_X12_164_11 e dX12_turn_75 rfl rfl (Nat.le_of_ble_eq_true rfl) (Nat.le_of_eq (Nat.zero_add _)) (Nat.le_of_eq (Nat.zero_add _)) (b1 := (0, 0)) (b2 := (0, 0)) (Ev.mono hF ?_)
              intro r19 h20 hF
              obtain ⟨rfl, hF⟩ := hF
              refine m_aload_n dX12_turn_78 rfl ?_
              refine m_iload_n dX12_turn_79 rfl ?_
              obtain ⟨fs24, e, hF⟩ := hF
              refine m_virtual (as := [.int x_1]) (rest := []) cv_X12_131_11 e dX12_turn_80 rfl rfl (Nat.le_of_ble_eq_true rfl) (Nat.le_of_eq (Nat.zero_add _)) (Nat.le_of_eq (Nat.zero_add _)) (b1 := (0, 0)) (b2 := (0, 0)) (Ev.mono hF ?_)
              intro r21 h22 hF
              obtain ⟨x23, rfl, hF⟩ := hF
              exact m_ireturn dX12_turn_83 trivial hF
            · replace hF := hF.2 c
              refine m_aload_n dX12_turn_63 rfl ?_
              refine m_iconst dX12_turn_64 ki_3 ?_
              obtain ⟨fs29, e, hF⟩ := hF
              refine m_virtual (as := [.int 3]) (rest := []) cv_X12_99_11 e dX12_turn_65 rfl rfl (Nat.le_of_ble_eq_true rfl) (Nat.le_of_eq (Nat.zero_add _)) (Nat.le_of_eq (Nat.zero_add _)) (b1 := (0, 0)) (b2 := (0, 0)) (Ev.mono hF ?_)
              intro r26 h27 hF
              obtain ⟨x28, rfl, hF⟩ := hF
              exact m_ireturn dX12_turn_68 trivial hF
        · replace hF := hF.2 c
          refine m_iload dX12_turn_45 rfl ?_
          exact m_ireturn dX12_turn_47 trivial hF
      · replace hF := hF.2 c
        refine m_ldc dX12_turn_29 kc_X12_98 ?_
        exact m_ireturn dX12_turn_31 trivial hF
theorem bk_X12_turn_94 {d : Nat} (r_0 : Nat) (x_1 : Int32) (x_2 : Int32) (x_5 : Int32) {h : mH} {Q : Option Value → mH → Prop} (hF : (∃ r1 : Nat, m_fld h r_0 [11] 6 = some (.ref r1) ∧ (∃ x2 : Int32, m_il h r1 x_2 = some x2 ∧ ((x2 ≤ x_5 → (∃ fs6 : List Value, (h).1 r_0 = .inr (11, fs6) ∧ Ev d (0, 0) MX12_lay [.ref r_0, .int x_1] h (fun r3 h4 => ∃ x5 : Int32, r3 = some (.int x5) ∧ Q (some (.int x5)) h4))) ∧ (¬ (x2 ≤ x_5) → Wm (d + 1) (0, 0) JX12_turn 108 [some (.ref r_0), some (.int x_1), some (.int x_2), none, none, some (.int x_5), some (.int 0)] [] h Q))))) : Wm (d + 1) (0, 0) JX12_turn 94 [some (.ref r_0), some (.int x_1), some (.int x_2), none, none, some (.int x_5), none] [] h Q := by
  refine m_iload dX12_turn_94 rfl ?_
  refine m_aload_n dX12_turn_96 rfl ?_
  obtain ⟨r1, e, hF⟩ := hF
  refine m_get fg_X12_22 dX12_turn_97 e ?_
  refine m_iload_n dX12_turn_100 rfl ?_
  obtain ⟨x2, e, hF⟩ := hF
  refine m_iald dX12_turn_101 e ?_
  refine m_icmp_ge 159 dX12_turn_102 (by decide) (fun c => ?_) (fun c => ?_)
  · replace hF := hF.1 c
    refine m_aload_n dX12_turn_159 rfl ?_
    refine m_iload_n dX12_turn_160 rfl ?_
    obtain ⟨fs6, e, hF⟩ := hF
    refine m_virtual (as := [.int x_1]) (rest := []) cv_X12_131_11 e dX12_turn_161 rfl rfl (Nat.le_of_ble_eq_true rfl) (Nat.le_of_eq (Nat.zero_add _)) (Nat.le_of_eq (Nat.zero_add _)) (b1 := (0, 0)) (b2 := (0, 0)) (Ev.mono hF ?_)
    intro r3 h4 hF
    obtain ⟨x5, rfl, hF⟩ := hF
    exact m_ireturn dX12_turn_164 trivial hF
  · replace hF := hF.2 c
    refine m_iconst dX12_turn_105 ki_0 ?_
    refine m_istore (ls2 := [some (.ref r_0), some (.int x_1), some (.int x_2), none, none, some (.int x_5), some (.int 0)]) dX12_turn_106 (by decide) rfl ?_
    exact hF
theorem bk_X12_turn_108 {d : Nat} (r_0 : Nat) (x_1 : Int32) (x_2 : Int32) (x_5 : Int32) (x_6 : Int32) {h : mH} {Q : Option Value → mH → Prop} (hF : (∃ r1 : Nat, m_fld h r_0 [11] 5 = some (.ref r1) ∧ (∃ x2 : Int32, m_il h r1 x_2 = some x2 ∧ ((x2 ≤ x_6 → Wm (d + 1) (0, 0) JX12_turn 94 [some (.ref r_0), some (.int x_1), some (.int x_2), none, none, some (.int (x_5 + 1)), none] [] h Q) ∧ (¬ (x2 ≤ x_6) → (∃ r3 : Nat, m_fld h r_0 [11] 6 = some (.ref r3) ∧ (∃ x4 : Int32, m_il h r3 x_2 = some x4 ∧ (∃ fs11 : List Value, (h).1 r_0 = .inr (11, fs11) ∧ Ev d (0, 0) MX12_at [.ref r_0, .int x_2, .int x_5, .int x_6] h (fun r5 h6 => ∃ x7 : Int32, r5 = some (.int x7) ∧ (∃ fs10 : List Value, (h6).1 r_0 = .inr (11, fs10) ∧ Ev d (0, 0) MX12_put [.ref r_0, .int 10, .int ((x4 - 1) - x_5), .int x7, .int x_6] h6 (fun r8 h9 => r8 = none ∧ Wm (d + 1) (0, 0) JX12_turn 108 [some (.ref r_0), some (.int x_1), some (.int x_2), none, none, some (.int x_5), some (.int (x_6 + 1))] [] h9 Q))))))))))) : Wm (d + 1) (0, 0) JX12_turn 108 [some (.ref r_0), some (.int x_1), some (.int x_2), none, none, some (.int x_5), some (.int x_6)] [] h Q := by
  refine m_iload dX12_turn_108 rfl ?_
  refine m_aload_n dX12_turn_110 rfl ?_
  obtain ⟨r1, e, hF⟩ := hF
  refine m_get fg_X12_19 dX12_turn_111 e ?_
  refine m_iload_n dX12_turn_114 rfl ?_
  obtain ⟨x2, e, hF⟩ := hF
  refine m_iald dX12_turn_115 e ?_
  refine m_icmp_ge 153 dX12_turn_116 (by decide) (fun c => ?_) (fun c => ?_)
  · replace hF := hF.1 c
    refine m_iinc (v := x_5 + 1) (ls2 := [some (.ref r_0), some (.int x_1), some (.int x_2), none, none, some (.int (x_5 + 1)), some (.int x_6)]) dX12_turn_153 (by decide) rfl (congrArg (_ + ·) ki_1) rfl ?_
    refine m_goto 94 dX12_turn_156 (by decide) ?_
    refine m_wk [6] rfl ?_
    exact hF
  · replace hF := hF.2 c
    refine m_aload_n dX12_turn_119 rfl ?_
    refine m_bipush dX12_turn_120 kb_10 ?_
    refine m_aload_n dX12_turn_122 rfl ?_
    obtain ⟨r3, e, hF⟩ := hF
    refine m_get fg_X12_22 dX12_turn_123 e ?_
    refine m_iload_n dX12_turn_126 rfl ?_
    obtain ⟨x4, e, hF⟩ := hF
    refine m_iald dX12_turn_127 e ?_
    refine m_iconst dX12_turn_128 ki_1 ?_
    refine m_isub dX12_turn_129 ?_
    refine m_iload dX12_turn_130 rfl ?_
    refine m_isub dX12_turn_132 ?_
    refine m_aload_n dX12_turn_133 rfl ?_
    refine m_iload_n dX12_turn_134 rfl ?_
    refine m_iload dX12_turn_135 rfl ?_
    refine m_iload dX12_turn_137 rfl ?_
    obtain ⟨fs11, e, hF⟩ := hF
    refine m_virtual (as := [.int x_2, .int x_5, .int x_6]) (rest := [.int ((x4 - 1) - x_5), .int 10, .ref r_0]) cv_X12_105_11 e dX12_turn_139 rfl rfl (Nat.le_of_ble_eq_true rfl) (Nat.le_of_eq (Nat.zero_add _)) (Nat.le_of_eq (Nat.zero_add _)) (b1 := (0, 0)) (b2 := (0, 0)) (Ev.mono hF ?_)
    intro r5 h6 hF
    obtain ⟨x7, rfl, hF⟩ := hF
    refine m_iload dX12_turn_142 rfl ?_
    obtain ⟨fs10, e, hF⟩ := hF
    refine m_virtual (as := [.int 10, .int ((x4 - 1) - x_5), .int x7, .int x_6]) (rest := []) cv_X12_127_11 e dX12_turn_144 rfl rfl (Nat.le_of_ble_eq_true rfl) (Nat.le_of_eq (Nat.zero_add _)) (Nat.le_of_eq (Nat.zero_add _)) (b1 := (0, 0)) (b2 := (0, 0)) (Ev.mono hF ?_)
    intro r8 h9 hF
    obtain ⟨rfl, hF⟩ := hF
    refine m_iinc (v := x_6 + 1) (ls2 := [some (.ref r_0), some (.int x_1), some (.int x_2), none, none, some (.int x_5), some (.int (x_6 + 1))]) dX12_turn_147 (by decide) rfl (congrArg (_ + ·) ki_1) rfl ?_
    refine m_goto 108 dX12_turn_150 (by decide) ?_
    exact hF
theorem en_X12_turn {d : Nat} {r_0 : Nat} {x_1 : Int32} {x_2 : Int32} {x_3 : Int32} {h : mH} {K : Option Value → mH → Prop} (hk : Wm (d + 1) (0, 0) JX12_turn 0 [some (.ref r_0), some (.int x_1), some (.int x_2), some (.int x_3), none, none, none] [] h (fun r h' => h'.1 0 = h.1 0 ∧ K r h')) : Ev (d + 1) (0, 0) MX12_turn [.ref r_0, .int x_1, .int x_2, .int x_3] h K :=
  m_met pn_X12 nl_X12 (fun _ => Nat.le_of_ble_eq_true rfl) hk
theorem bk_X12_over_0 {d : Nat} (r_0 : Nat) (x_1 : Int32) (x_2 : Int32) (x_3 : Int32) {h : mH} {Q : Option Value → mH → Prop} (hF : (∃ h1 : mH, m_put h r_0 11 0 (.int 0) = some h1 ∧ Ev d (0, 0) MX12_isPlace [.int x_1] h1 (fun r2 h3 => ∃ x4 : Int32, r2 = some (.int x4) ∧ ((x4 = 0 → Q (some (.int (-1000001))) h3) ∧ (¬ (x4 = 0) → Ev d (0, 0) MX12_isPlace [.int x_2] h3 (fun r5 h6 => ∃ x7 : Int32, r5 = some (.int x7) ∧ ((x7 = 0 → Q (some (.int (-1000001))) h6) ∧ (¬ (x7 = 0) → Ev d (0, 0) MX12_isPlace [.int x_3] h6 (fun r8 h9 => ∃ x10 : Int32, r8 = some (.int x10) ∧ ((¬ x10 = 0 → (∃ r11 : Nat, m_fld h9 r_0 [11] 5 = some (.ref r11) ∧ (∃ x12 : Int32, m_il h9 r11 x_2 = some x12 ∧ ((x12 = 0 → (∃ fs16 : List Value, (h9).1 r_0 = .inr (11, fs16) ∧ Ev d (0, 0) MX12_found [.ref r_0, .int 1] h9 (fun r13 h14 => ∃ x15 : Int32, r13 = some (.int x15) ∧ Q (some (.int x15)) h14))) ∧ (¬ (x12 = 0) → (∃ r17 : Nat, m_fld h9 r_0 [11] 5 = some (.ref r17) ∧ (∃ x18 : Int32, m_il h9 r17 x_3 = some x18 ∧ ((¬ x18 = 0 → (∃ r19 : Nat, m_fld h9 r_0 [11] 6 = some (.ref r19) ∧ (∃ x20 : Int32, m_il h9 r19 x_2 = some x20 ∧ (∃ r21 : Nat, m_fld h9 r_0 [11] 6 = some (.ref r21) ∧ (∃ x22 : Int32, m_il h9 r21 x_3 = some x22 ∧ ((x20 = x22 → (∃ r23 : Nat, m_fld h9 r_0 [11] 5 = some (.ref r23) ∧ (∃ x24 : Int32, m_il h9 r23 x_2 = some x24 ∧ (∃ r25 : Nat, m_fld h9 r_0 [11] 5 = some (.ref r25) ∧ (∃ x26 : Int32, m_il h9 r25 x_3 = some x26 ∧ (((x24 * x26) ≤ 12 → (∃ r27 : Nat, m_fld h9 r_0 [11] 5 = some (.ref r27) ∧ (∃ r28 : Nat, m_fld h9 r_0 [11] 5 = some (.ref r28) ∧ (∃ x29 : Int32, m_il h9 r28 x_2 = some x29 ∧ (∃ r30 : Nat, m_fld h9 r_0 [11] 5 = some (.ref r30) ∧ (∃ x31 : Int32, m_il h9 r30 x_3 = some x31 ∧ (∃ h32 : mH, m_is h9 r27 10 (x29 * x31) = some h32 ∧ (∃ r33 : Nat, m_fld h32 r_0 [11] 6 = some (.ref r33) ∧ (∃ r34 : Nat, m_fld h32 r_0 [11] 6 = some (.ref r34) ∧ (∃ x35 : Int32, m_il h32 r34 x_2 = some x35 ∧ (∃ h36 : mH, m_is h32 r33 10 x35 = some h36 ∧ Wm (d + 1) (0, 0) JX12_over 128 [some (.ref r_0), some (.int x_1), some (.int x_2), some (.int x_3), some (.int 0), none, none] [] h36 Q))))))))))) ∧ (¬ ((x24 * x26) ≤ 12) → Q (some (.int (-1000003))) h9))))))) ∧ (¬ (x20 = x22) → Q (some (.int (-1000001))) h9))))))) ∧ (x18 = 0 → (∃ fs40 : List Value, (h9).1 r_0 = .inr (11, fs40) ∧ Ev d (0, 0) MX12_found [.ref r_0, .int 1] h9 (fun r37 h38 => ∃ x39 : Int32, r37 = some (.int x39) ∧ Q (some (.int x39)) h38))))))))))) ∧ (x10 = 0 → Q (some (.int (-1000001))) h9))))))))))) : Wm (d + 1) (0, 0) JX12_over 0 [some (.ref r_0), some (.int x_1), some (.int x_2), some (.int x_3), none, none, none] [] h Q := by
  refine m_aload_n dX12_over_0 rfl ?_
  refine m_iconst dX12_over_1 ki_0 ?_
  obtain ⟨h1, e, hF⟩ := hF
  refine m_putf fp_X12_78_11 dX12_over_2 trivial e ?_
  refine m_iload_n dX12_over_5 rfl ?_
  refine m_static (as := [.int x_1]) (rest := []) cs_X12_120 dX12_over_6 rfl rfl (Nat.le_of_ble_eq_true rfl) (Nat.le_of_eq (Nat.zero_add _)) (Nat.le_of_eq (Nat.zero_add _)) (b1 := (0, 0)) (b2 := (0, 0)) (Ev.mono hF ?_)
  intro r2 h3 hF
  obtain ⟨x4, rfl, hF⟩ := hF
  refine m_if_eq 26 dX12_over_9 (by decide) (fun c => ?_) (fun c => ?_)
  · replace hF := hF.1 c
    refine m_ldc dX12_over_26 kc_X12_98 ?_
    exact m_ireturn dX12_over_28 trivial hF
  · replace hF := hF.2 c
    refine m_iload_n dX12_over_12 rfl ?_
    refine m_static (as := [.int x_2]) (rest := []) cs_X12_120 dX12_over_13 rfl rfl (Nat.le_of_ble_eq_true rfl) (Nat.le_of_eq (Nat.zero_add _)) (Nat.le_of_eq (Nat.zero_add _)) (b1 := (0, 0)) (b2 := (0, 0)) (Ev.mono hF ?_)
    intro r5 h6 hF
    obtain ⟨x7, rfl, hF⟩ := hF
    refine m_if_eq 26 dX12_over_16 (by decide) (fun c => ?_) (fun c => ?_)
    · replace hF := hF.1 c
      refine m_ldc dX12_over_26 kc_X12_98 ?_
      exact m_ireturn dX12_over_28 trivial hF
    · replace hF := hF.2 c
      refine m_iload_n dX12_over_19 rfl ?_
      refine m_static (as := [.int x_3]) (rest := []) cs_X12_120 dX12_over_20 rfl rfl (Nat.le_of_ble_eq_true rfl) (Nat.le_of_eq (Nat.zero_add _)) (Nat.le_of_eq (Nat.zero_add _)) (b1 := (0, 0)) (b2 := (0, 0)) (Ev.mono hF ?_)
      intro r8 h9 hF
      obtain ⟨x10, rfl, hF⟩ := hF
      refine m_if_ne 29 dX12_over_23 (by decide) (fun c => ?_) (fun c => ?_)
      · replace hF := hF.1 c
        refine m_aload_n dX12_over_29 rfl ?_
        obtain ⟨r11, e, hF⟩ := hF
        refine m_get fg_X12_19 dX12_over_30 e ?_
        refine m_iload_n dX12_over_33 rfl ?_
        obtain ⟨x12, e, hF⟩ := hF
        refine m_iald dX12_over_34 e ?_
        refine m_if_eq 47 dX12_over_35 (by decide) (fun c => ?_) (fun c => ?_)
        · replace hF := hF.1 c
          refine m_aload_n dX12_over_47 rfl ?_
          refine m_iconst dX12_over_48 ki_1 ?_
          obtain ⟨fs16, e, hF⟩ := hF
          refine m_virtual (as := [.int 1]) (rest := []) cv_X12_99_11 e dX12_over_49 rfl rfl (Nat.le_of_ble_eq_true rfl) (Nat.le_of_eq (Nat.zero_add _)) (Nat.le_of_eq (Nat.zero_add _)) (b1 := (0, 0)) (b2 := (0, 0)) (Ev.mono hF ?_)
          intro r13 h14 hF
          obtain ⟨x15, rfl, hF⟩ := hF
          exact m_ireturn dX12_over_52 trivial hF
        · replace hF := hF.2 c
          refine m_aload_n dX12_over_38 rfl ?_
          obtain ⟨r17, e, hF⟩ := hF
          refine m_get fg_X12_19 dX12_over_39 e ?_
          refine m_iload_n dX12_over_42 rfl ?_
          obtain ⟨x18, e, hF⟩ := hF
          refine m_iald dX12_over_43 e ?_
          refine m_if_ne 53 dX12_over_44 (by decide) (fun c => ?_) (fun c => ?_)
          · replace hF := hF.1 c
            refine m_aload_n dX12_over_53 rfl ?_
            obtain ⟨r19, e, hF⟩ := hF
            refine m_get fg_X12_22 dX12_over_54 e ?_
            refine m_iload_n dX12_over_57 rfl ?_
            obtain ⟨x20, e, hF⟩ := hF
            refine m_iald dX12_over_58 e ?_
            refine m_aload_n dX12_over_59 rfl ?_
            obtain ⟨r21, e, hF⟩ := hF
            refine m_get fg_X12_22 dX12_over_60 e ?_
            refine m_iload_n dX12_over_63 rfl ?_
            obtain ⟨x22, e, hF⟩ := hF
            refine m_iald dX12_over_64 e ?_
            refine m_icmp_eq 71 dX12_over_65 (by decide) (fun c => ?_) (fun c => ?_)
            · replace hF := hF.1 c
              refine m_aload_n dX12_over_71 rfl ?_
              obtain ⟨r23, e, hF⟩ := hF
              refine m_get fg_X12_19 dX12_over_72 e ?_
              refine m_iload_n dX12_over_75 rfl ?_
              obtain ⟨x24, e, hF⟩ := hF
              refine m_iald dX12_over_76 e ?_
              refine m_aload_n dX12_over_77 rfl ?_
              obtain ⟨r25, e, hF⟩ := hF
              refine m_get fg_X12_19 dX12_over_78 e ?_
              refine m_iload_n dX12_over_81 rfl ?_
              obtain ⟨x26, e, hF⟩ := hF
              refine m_iald dX12_over_82 e ?_
              refine m_imul dX12_over_83 ?_
              refine m_bipush dX12_over_84 kb_12 ?_
              refine m_icmp_le 92 dX12_over_86 (by decide) (fun c => ?_) (fun c => ?_)
              · replace hF := hF.1 c
                refine m_aload_n dX12_over_92 rfl ?_
                obtain ⟨r27, e, hF⟩ := hF
                refine m_get fg_X12_19 dX12_over_93 e ?_
                refine m_bipush dX12_over_96 kb_10 ?_
                refine m_aload_n dX12_over_98 rfl ?_
                obtain ⟨r28, e, hF⟩ := hF
                refine m_get fg_X12_19 dX12_over_99 e ?_
                refine m_iload_n dX12_over_102 rfl ?_
                obtain ⟨x29, e, hF⟩ := hF
                refine m_iald dX12_over_103 e ?_
                refine m_aload_n dX12_over_104 rfl ?_
                obtain ⟨r30, e, hF⟩ := hF
                refine m_get fg_X12_19 dX12_over_105 e ?_
                refine m_iload_n dX12_over_108 rfl ?_
                obtain ⟨x31, e, hF⟩ := hF
                refine m_iald dX12_over_109 e ?_
                refine m_imul dX12_over_110 ?_
                obtain ⟨h32, e, hF⟩ := hF
                refine m_iast dX12_over_111 e ?_
                refine m_aload_n dX12_over_112 rfl ?_
                obtain ⟨r33, e, hF⟩ := hF
                refine m_get fg_X12_22 dX12_over_113 e ?_
                refine m_bipush dX12_over_116 kb_10 ?_
                refine m_aload_n dX12_over_118 rfl ?_
                obtain ⟨r34, e, hF⟩ := hF
                refine m_get fg_X12_22 dX12_over_119 e ?_
                refine m_iload_n dX12_over_122 rfl ?_
                obtain ⟨x35, e, hF⟩ := hF
                refine m_iald dX12_over_123 e ?_
                obtain ⟨h36, e, hF⟩ := hF
                refine m_iast dX12_over_124 e ?_
                refine m_iconst dX12_over_125 ki_0 ?_
                refine m_istore (ls2 := [some (.ref r_0), some (.int x_1), some (.int x_2), some (.int x_3), some (.int 0), none, none]) dX12_over_126 (by decide) rfl ?_
                exact hF
              · replace hF := hF.2 c
                refine m_ldc dX12_over_89 kc_X12_167 ?_
                exact m_ireturn dX12_over_91 trivial hF
            · replace hF := hF.2 c
              refine m_ldc dX12_over_68 kc_X12_98 ?_
              exact m_ireturn dX12_over_70 trivial hF
          · replace hF := hF.2 c
            refine m_aload_n dX12_over_47 rfl ?_
            refine m_iconst dX12_over_48 ki_1 ?_
            obtain ⟨fs40, e, hF⟩ := hF
            refine m_virtual (as := [.int 1]) (rest := []) cv_X12_99_11 e dX12_over_49 rfl rfl (Nat.le_of_ble_eq_true rfl) (Nat.le_of_eq (Nat.zero_add _)) (Nat.le_of_eq (Nat.zero_add _)) (b1 := (0, 0)) (b2 := (0, 0)) (Ev.mono hF ?_)
            intro r37 h38 hF
            obtain ⟨x39, rfl, hF⟩ := hF
            exact m_ireturn dX12_over_52 trivial hF
      · replace hF := hF.2 c
        refine m_ldc dX12_over_26 kc_X12_98 ?_
        exact m_ireturn dX12_over_28 trivial hF
theorem bk_X12_over_128 {d : Nat} (r_0 : Nat) (x_1 : Int32) (x_2 : Int32) (x_3 : Int32) (x_4 : Int32) {h : mH} {Q : Option Value → mH → Prop} (hF : (∃ r1 : Nat, m_fld h r_0 [11] 6 = some (.ref r1) ∧ (∃ x2 : Int32, m_il h r1 x_2 = some x2 ∧ ((x2 ≤ x_4 → (∃ fs6 : List Value, (h).1 r_0 = .inr (11, fs6) ∧ Ev d (0, 0) MX12_lay [.ref r_0, .int x_1] h (fun r3 h4 => ∃ x5 : Int32, r3 = some (.int x5) ∧ Q (some (.int x5)) h4))) ∧ (¬ (x2 ≤ x_4) → Wm (d + 1) (0, 0) JX12_over 142 [some (.ref r_0), some (.int x_1), some (.int x_2), some (.int x_3), some (.int x_4), some (.int 0), none] [] h Q))))) : Wm (d + 1) (0, 0) JX12_over 128 [some (.ref r_0), some (.int x_1), some (.int x_2), some (.int x_3), some (.int x_4), none, none] [] h Q := by
  refine m_iload dX12_over_128 rfl ?_
  refine m_aload_n dX12_over_130 rfl ?_
  obtain ⟨r1, e, hF⟩ := hF
  refine m_get fg_X12_22 dX12_over_131 e ?_
  refine m_iload_n dX12_over_134 rfl ?_
  obtain ⟨x2, e, hF⟩ := hF
  refine m_iald dX12_over_135 e ?_
  refine m_icmp_ge 231 dX12_over_136 (by decide) (fun c => ?_) (fun c => ?_)
  · replace hF := hF.1 c
    refine m_aload_n dX12_over_231 rfl ?_
    refine m_iload_n dX12_over_232 rfl ?_
    obtain ⟨fs6, e, hF⟩ := hF
    refine m_virtual (as := [.int x_1]) (rest := []) cv_X12_131_11 e dX12_over_233 rfl rfl (Nat.le_of_ble_eq_true rfl) (Nat.le_of_eq (Nat.zero_add _)) (Nat.le_of_eq (Nat.zero_add _)) (b1 := (0, 0)) (b2 := (0, 0)) (Ev.mono hF ?_)
    intro r3 h4 hF
    obtain ⟨x5, rfl, hF⟩ := hF
    exact m_ireturn dX12_over_236 trivial hF
  · replace hF := hF.2 c
    refine m_iconst dX12_over_139 ki_0 ?_
    refine m_istore (ls2 := [some (.ref r_0), some (.int x_1), some (.int x_2), some (.int x_3), some (.int x_4), some (.int 0), none]) dX12_over_140 (by decide) rfl ?_
    exact hF
theorem bk_X12_over_142 {d : Nat} (r_0 : Nat) (x_1 : Int32) (x_2 : Int32) (x_3 : Int32) (x_4 : Int32) (x_5 : Int32) {h : mH} {Q : Option Value → mH → Prop} (hF : (∃ r1 : Nat, m_fld h r_0 [11] 5 = some (.ref r1) ∧ (∃ x2 : Int32, m_il h r1 x_2 = some x2 ∧ ((x2 ≤ x_5 → Wm (d + 1) (0, 0) JX12_over 128 [some (.ref r_0), some (.int x_1), some (.int x_2), some (.int x_3), some (.int (x_4 + 1)), none, none] [] h Q) ∧ (¬ (x2 ≤ x_5) → Wm (d + 1) (0, 0) JX12_over 156 [some (.ref r_0), some (.int x_1), some (.int x_2), some (.int x_3), some (.int x_4), some (.int x_5), some (.int 0)] [] h Q))))) : Wm (d + 1) (0, 0) JX12_over 142 [some (.ref r_0), some (.int x_1), some (.int x_2), some (.int x_3), some (.int x_4), some (.int x_5), none] [] h Q := by
  refine m_iload dX12_over_142 rfl ?_
  refine m_aload_n dX12_over_144 rfl ?_
  obtain ⟨r1, e, hF⟩ := hF
  refine m_get fg_X12_19 dX12_over_145 e ?_
  refine m_iload_n dX12_over_148 rfl ?_
  obtain ⟨x2, e, hF⟩ := hF
  refine m_iald dX12_over_149 e ?_
  refine m_icmp_ge 225 dX12_over_150 (by decide) (fun c => ?_) (fun c => ?_)
  · replace hF := hF.1 c
    refine m_iinc (v := x_4 + 1) (ls2 := [some (.ref r_0), some (.int x_1), some (.int x_2), some (.int x_3), some (.int (x_4 + 1)), some (.int x_5), none]) dX12_over_225 (by decide) rfl (congrArg (_ + ·) ki_1) rfl ?_
    refine m_goto 128 dX12_over_228 (by decide) ?_
    refine m_wk [5] rfl ?_
    exact hF
  · replace hF := hF.2 c
    refine m_iconst dX12_over_153 ki_0 ?_
    refine m_istore (ls2 := [some (.ref r_0), some (.int x_1), some (.int x_2), some (.int x_3), some (.int x_4), some (.int x_5), some (.int 0)]) dX12_over_154 (by decide) rfl ?_
    exact hF
theorem bk_X12_over_156 {d : Nat} (r_0 : Nat) (x_1 : Int32) (x_2 : Int32) (x_3 : Int32) (x_4 : Int32) (x_5 : Int32) (x_6 : Int32) {h : mH} {Q : Option Value → mH → Prop} (hF : (∃ r1 : Nat, m_fld h r_0 [11] 5 = some (.ref r1) ∧ (∃ x2 : Int32, m_il h r1 x_3 = some x2 ∧ ((x2 ≤ x_6 → Wm (d + 1) (0, 0) JX12_over 142 [some (.ref r_0), some (.int x_1), some (.int x_2), some (.int x_3), some (.int x_4), some (.int (x_5 + 1)), none] [] h Q) ∧ (¬ (x2 ≤ x_6) → (∃ r3 : Nat, m_fld h r_0 [11] 5 = some (.ref r3) ∧ (∃ x4 : Int32, m_il h r3 x_3 = some x4 ∧ (∃ fs17 : List Value, (h).1 r_0 = .inr (11, fs17) ∧ Ev d (0, 0) MX12_at [.ref r_0, .int x_2, .int x_4, .int x_5] h (fun r5 h6 => ∃ x7 : Int32, r5 = some (.int x7) ∧ (∃ r8 : Nat, m_fld h6 r_0 [11] 5 = some (.ref r8) ∧ (∃ x9 : Int32, m_il h6 r8 x_3 = some x9 ∧ (∃ fs16 : List Value, (h6).1 r_0 = .inr (11, fs16) ∧ Ev d (0, 0) MX12_at [.ref r_0, .int x_3, .int x_4, .int x_6] h6 (fun r10 h11 => ∃ x12 : Int32, r10 = some (.int x12) ∧ (∃ fs15 : List Value, (h11).1 r_0 = .inr (11, fs15) ∧ Ev d (0, 0) MX12_put [.ref r_0, .int 10, .int x_4, .int ((x_5 * x4) + x_6), .int ((x7 * x9) + x12)] h11 (fun r13 h14 => r13 = none ∧ Wm (d + 1) (0, 0) JX12_over 156 [some (.ref r_0), some (.int x_1), some (.int x_2), some (.int x_3), some (.int x_4), some (.int x_5), some (.int (x_6 + 1))] [] h14 Q))))))))))))))) : Wm (d + 1) (0, 0) JX12_over 156 [some (.ref r_0), some (.int x_1), some (.int x_2), some (.int x_3), some (.int x_4), some (.int x_5), some (.int x_6)] [] h Q := by
  refine m_iload dX12_over_156 rfl ?_
  refine m_aload_n dX12_over_158 rfl ?_
  obtain ⟨r1, e, hF⟩ := hF
  refine m_get fg_X12_19 dX12_over_159 e ?_
  refine m_iload_n dX12_over_162 rfl ?_
  obtain ⟨x2, e, hF⟩ := hF
  refine m_iald dX12_over_163 e ?_
  refine m_icmp_ge 219 dX12_over_164 (by decide) (fun c => ?_) (fun c => ?_)
  · replace hF := hF.1 c
    refine m_iinc (v := x_5 + 1) (ls2 := [some (.ref r_0), some (.int x_1), some (.int x_2), some (.int x_3), some (.int x_4), some (.int (x_5 + 1)), some (.int x_6)]) dX12_over_219 (by decide) rfl (congrArg (_ + ·) ki_1) rfl ?_
    refine m_goto 142 dX12_over_222 (by decide) ?_
    refine m_wk [6] rfl ?_
    exact hF
  · replace hF := hF.2 c
    refine m_aload_n dX12_over_167 rfl ?_
    refine m_bipush dX12_over_168 kb_10 ?_
    refine m_iload dX12_over_170 rfl ?_
    refine m_iload dX12_over_172 rfl ?_
    refine m_aload_n dX12_over_174 rfl ?_
    obtain ⟨r3, e, hF⟩ := hF
    refine m_get fg_X12_19 dX12_over_175 e ?_
    refine m_iload_n dX12_over_178 rfl ?_
    obtain ⟨x4, e, hF⟩ := hF
    refine m_iald dX12_over_179 e ?_
    refine m_imul dX12_over_180 ?_
    refine m_iload dX12_over_181 rfl ?_
    refine m_iadd dX12_over_183 ?_
    refine m_aload_n dX12_over_184 rfl ?_
    refine m_iload_n dX12_over_185 rfl ?_
    refine m_iload dX12_over_186 rfl ?_
    refine m_iload dX12_over_188 rfl ?_
    obtain ⟨fs17, e, hF⟩ := hF
    refine m_virtual (as := [.int x_2, .int x_4, .int x_5]) (rest := [.int ((x_5 * x4) + x_6), .int x_4, .int 10, .ref r_0]) cv_X12_105_11 e dX12_over_190 rfl rfl (Nat.le_of_ble_eq_true rfl) (Nat.le_of_eq (Nat.zero_add _)) (Nat.le_of_eq (Nat.zero_add _)) (b1 := (0, 0)) (b2 := (0, 0)) (Ev.mono hF ?_)
    intro r5 h6 hF
    obtain ⟨x7, rfl, hF⟩ := hF
    refine m_aload_n dX12_over_193 rfl ?_
    obtain ⟨r8, e, hF⟩ := hF
    refine m_get fg_X12_19 dX12_over_194 e ?_
    refine m_iload_n dX12_over_197 rfl ?_
    obtain ⟨x9, e, hF⟩ := hF
    refine m_iald dX12_over_198 e ?_
    refine m_imul dX12_over_199 ?_
    refine m_aload_n dX12_over_200 rfl ?_
    refine m_iload_n dX12_over_201 rfl ?_
    refine m_iload dX12_over_202 rfl ?_
    refine m_iload dX12_over_204 rfl ?_
    obtain ⟨fs16, e, hF⟩ := hF
    refine m_virtual (as := [.int x_3, .int x_4, .int x_6]) (rest := [.int (x7 * x9), .int ((x_5 * x4) + x_6), .int x_4, .int 10, .ref r_0]) cv_X12_105_11 e dX12_over_206 rfl rfl (Nat.le_of_ble_eq_true rfl) (Nat.le_of_eq (Nat.zero_add _)) (Nat.le_of_eq (Nat.zero_add _)) (b1 := (0, 0)) (b2 := (0, 0)) (Ev.mono hF ?_)
    intro r10 h11 hF
    obtain ⟨x12, rfl, hF⟩ := hF
    refine m_iadd dX12_over_209 ?_
    obtain ⟨fs15, e, hF⟩ := hF
    refine m_virtual (as := [.int 10, .int x_4, .int ((x_5 * x4) + x_6), .int ((x7 * x9) + x12)]) (rest := []) cv_X12_127_11 e dX12_over_210 rfl rfl (Nat.le_of_ble_eq_true rfl) (Nat.le_of_eq (Nat.zero_add _)) (Nat.le_of_eq (Nat.zero_add _)) (b1 := (0, 0)) (b2 := (0, 0)) (Ev.mono hF ?_)
    intro r13 h14 hF
    obtain ⟨rfl, hF⟩ := hF
    refine m_iinc (v := x_6 + 1) (ls2 := [some (.ref r_0), some (.int x_1), some (.int x_2), some (.int x_3), some (.int x_4), some (.int x_5), some (.int (x_6 + 1))]) dX12_over_213 (by decide) rfl (congrArg (_ + ·) ki_1) rfl ?_
    refine m_goto 156 dX12_over_216 (by decide) ?_
    exact hF
theorem en_X12_over {d : Nat} {r_0 : Nat} {x_1 : Int32} {x_2 : Int32} {x_3 : Int32} {h : mH} {K : Option Value → mH → Prop} (hk : Wm (d + 1) (0, 0) JX12_over 0 [some (.ref r_0), some (.int x_1), some (.int x_2), some (.int x_3), none, none, none] [] h (fun r h' => h'.1 0 = h.1 0 ∧ K r h')) : Ev (d + 1) (0, 0) MX12_over [.ref r_0, .int x_1, .int x_2, .int x_3] h K :=
  m_met pn_X12 nl_X12 (fun _ => Nat.le_of_ble_eq_true rfl) hk
theorem bk_X12_clear_0 {d : Nat} (r_0 : Nat) (x_1 : Int32) {h : mH} {Q : Option Value → mH → Prop} (hF : (∃ h1 : mH, m_put h r_0 11 0 (.int 0) = some h1 ∧ Ev d (0, 0) MX12_isPlace [.int x_1] h1 (fun r2 h3 => ∃ x4 : Int32, r2 = some (.int x4) ∧ ((¬ x4 = 0 → (∃ r5 : Nat, m_fld h3 r_0 [11] 5 = some (.ref r5) ∧ (∃ x6 : Int32, m_il h3 r5 x_1 = some x6 ∧ ((x6 ≤ 0 → (∃ r7 : Nat, m_fld h3 r_0 [11] 5 = some (.ref r7) ∧ (∃ h8 : mH, m_is h3 r7 x_1 0 = some h8 ∧ Q (some (.int 0)) h8))) ∧ (¬ (x6 ≤ 0) → (∃ r9 : Nat, m_fld h3 r_0 [11] 5 = some (.ref r9) ∧ (∃ h10 : mH, m_is h3 r9 x_1 0 = some h10 ∧ Q (some (.int 1)) h10))))))) ∧ (x4 = 0 → Q (some (.int (-1000001))) h3))))) : Wm (d + 1) (0, 0) JX12_clear 0 [some (.ref r_0), some (.int x_1), none] [] h Q := by
  refine m_aload_n dX12_clear_0 rfl ?_
  refine m_iconst dX12_clear_1 ki_0 ?_
  obtain ⟨h1, e, hF⟩ := hF
  refine m_putf fp_X12_78_11 dX12_clear_2 trivial e ?_
  refine m_iload_n dX12_clear_5 rfl ?_
  refine m_static (as := [.int x_1]) (rest := []) cs_X12_120 dX12_clear_6 rfl rfl (Nat.le_of_ble_eq_true rfl) (Nat.le_of_eq (Nat.zero_add _)) (Nat.le_of_eq (Nat.zero_add _)) (b1 := (0, 0)) (b2 := (0, 0)) (Ev.mono hF ?_)
  intro r2 h3 hF
  obtain ⟨x4, rfl, hF⟩ := hF
  refine m_if_ne 15 dX12_clear_9 (by decide) (fun c => ?_) (fun c => ?_)
  · replace hF := hF.1 c
    refine m_aload_n dX12_clear_15 rfl ?_
    obtain ⟨r5, e, hF⟩ := hF
    refine m_get fg_X12_19 dX12_clear_16 e ?_
    refine m_iload_n dX12_clear_19 rfl ?_
    obtain ⟨x6, e, hF⟩ := hF
    refine m_iald dX12_clear_20 e ?_
    refine m_if_le 28 dX12_clear_21 (by decide) (fun c => ?_) (fun c => ?_)
    · replace hF := hF.1 c
      refine m_iconst dX12_clear_28 ki_0 ?_
      refine m_istore_n (ls2 := [some (.ref r_0), some (.int x_1), some (.int 0)]) dX12_clear_29 (by decide) rfl ?_
      refine m_aload_n dX12_clear_30 rfl ?_
      obtain ⟨r7, e, hF⟩ := hF
      refine m_get fg_X12_19 dX12_clear_31 e ?_
      refine m_iload_n dX12_clear_34 rfl ?_
      refine m_iconst dX12_clear_35 ki_0 ?_
      obtain ⟨h8, e, hF⟩ := hF
      refine m_iast dX12_clear_36 e ?_
      refine m_iload_n dX12_clear_37 rfl ?_
      refine m_if_eq 45 dX12_clear_38 (by decide) (fun _ => ?_) (fun c => absurd c (by decide))
      refine m_iconst dX12_clear_45 ki_0 ?_
      exact m_ireturn dX12_clear_46 trivial hF
    · replace hF := hF.2 c
      refine m_iconst dX12_clear_24 ki_1 ?_
      refine m_goto 29 dX12_clear_25 (by decide) ?_
      refine m_istore_n (ls2 := [some (.ref r_0), some (.int x_1), some (.int 1)]) dX12_clear_29 (by decide) rfl ?_
      refine m_aload_n dX12_clear_30 rfl ?_
      obtain ⟨r9, e, hF⟩ := hF
      refine m_get fg_X12_19 dX12_clear_31 e ?_
      refine m_iload_n dX12_clear_34 rfl ?_
      refine m_iconst dX12_clear_35 ki_0 ?_
      obtain ⟨h10, e, hF⟩ := hF
      refine m_iast dX12_clear_36 e ?_
      refine m_iload_n dX12_clear_37 rfl ?_
      refine m_if_eq 45 dX12_clear_38 (by decide) (fun c => absurd c (by decide)) (fun _ => ?_)
      refine m_iconst dX12_clear_41 ki_1 ?_
      refine m_goto 46 dX12_clear_42 (by decide) ?_
      exact m_ireturn dX12_clear_46 trivial hF
  · replace hF := hF.2 c
    refine m_ldc dX12_clear_12 kc_X12_98 ?_
    exact m_ireturn dX12_clear_14 trivial hF
theorem en_X12_clear {d : Nat} {r_0 : Nat} {x_1 : Int32} {h : mH} {K : Option Value → mH → Prop} (hk : Wm (d + 1) (0, 0) JX12_clear 0 [some (.ref r_0), some (.int x_1), none] [] h (fun r h' => h'.1 0 = h.1 0 ∧ K r h')) : Ev (d + 1) (0, 0) MX12_clear [.ref r_0, .int x_1] h K :=
  m_met pn_X12 nl_X12 (fun _ => Nat.le_of_ble_eq_true rfl) hk
theorem bk_X12_sift_0 {d : Nat} (r_0 : Nat) (x_1 : Int32) {h : mH} {Q : Option Value → mH → Prop} (hF : Wm d (0, 0) JX12_sift 2 [some (.ref r_0), some (.int x_1), some (.int 0), none, none, none, none] [] h Q) : Wm d (0, 0) JX12_sift 0 [some (.ref r_0), some (.int x_1), none, none, none, none, none] [] h Q := by
  refine m_iconst dX12_sift_0 ki_0 ?_
  refine m_istore_n (ls2 := [some (.ref r_0), some (.int x_1), some (.int 0), none, none, none, none]) dX12_sift_1 (by decide) rfl ?_
  exact hF
theorem bk_X12_sift_2 {d : Nat} (r_0 : Nat) (x_1 : Int32) (x_2 : Int32) {h : mH} {Q : Option Value → mH → Prop} (hF : ((x_1 ≤ x_2 → Q (some (.int 0)) h) ∧ (¬ (x_1 ≤ x_2) → (∃ r1 : Nat, m_fld h r_0 [11] 16 = some (.ref r1) ∧ (∃ x2 : Int32, m_il h r1 x_2 = some x2 ∧ ((x2 = x_2 → Wm d (0, 0) JX12_sift 2 [some (.ref r_0), some (.int x_1), some (.int (x_2 + 1)), none, none, none, none] [] h Q) ∧ (¬ (x2 = x_2) → (∃ r3 : Nat, m_fld h r_0 [11] 14 = some (.ref r3) ∧ (∃ x4 : Int32, m_zl h r3 ((12 * x_2) + x2) = some x4 ∧ ((¬ x4 = 0 → Wm d (0, 0) JX12_sift 85 [some (.ref r_0), some (.int x_1), some (.int x_2), none, some (.int ((12 * x_2) + x2)), some (.int 0), none] [] h Q) ∧ (x4 = 0 → (∃ r5 : Nat, m_fld h r_0 [11] 14 = some (.ref r5) ∧ (∃ h6 : mH, m_zs h r5 ((12 * x_2) + x2) 1 = some h6 ∧ Wm d (0, 0) JX12_sift 48 [some (.ref r_0), some (.int x_1), none, none, some (.int ((12 * x_2) + x2)), some (.int 0), none] [] h6 Q))))))))))))) : Wm d (0, 0) JX12_sift 2 [some (.ref r_0), some (.int x_1), some (.int x_2), none, none, none, none] [] h Q := by
  refine m_iload_n dX12_sift_2 rfl ?_
  refine m_iload_n dX12_sift_3 rfl ?_
  refine m_icmp_ge 173 dX12_sift_4 (by decide) (fun c => ?_) (fun c => ?_)
  · replace hF := hF.1 c
    refine m_iconst dX12_sift_173 ki_0 ?_
    exact m_ireturn dX12_sift_174 (Or.inl rfl) hF
  · replace hF := hF.2 c
    refine m_aload_n dX12_sift_7 rfl ?_
    obtain ⟨r1, e, hF⟩ := hF
    refine m_get fg_X12_53 dX12_sift_8 e ?_
    refine m_iload_n dX12_sift_11 rfl ?_
    obtain ⟨x2, e, hF⟩ := hF
    refine m_iald dX12_sift_12 e ?_
    refine m_istore_n (ls2 := [some (.ref r_0), some (.int x_1), some (.int x_2), some (.int x2), none, none, none]) dX12_sift_13 (by decide) rfl ?_
    refine m_iload_n dX12_sift_14 rfl ?_
    refine m_iload_n dX12_sift_15 rfl ?_
    refine m_icmp_eq 167 dX12_sift_16 (by decide) (fun c => ?_) (fun c => ?_)
    · replace hF := hF.1 c
      refine m_iinc (v := x_2 + 1) (ls2 := [some (.ref r_0), some (.int x_1), some (.int (x_2 + 1)), some (.int x2), none, none, none]) dX12_sift_167 (by decide) rfl (congrArg (_ + ·) ki_1) rfl ?_
      refine m_goto 2 dX12_sift_170 (by decide) ?_
      refine m_wk [3] rfl ?_
      exact hF
    · replace hF := hF.2 c
      refine m_bipush dX12_sift_19 kb_12 ?_
      refine m_iload_n dX12_sift_21 rfl ?_
      refine m_imul dX12_sift_22 ?_
      refine m_iload_n dX12_sift_23 rfl ?_
      refine m_iadd dX12_sift_24 ?_
      refine m_istore (ls2 := [some (.ref r_0), some (.int x_1), some (.int x_2), some (.int x2), some (.int ((12 * x_2) + x2)), none, none]) dX12_sift_25 (by decide) rfl ?_
      refine m_aload_n dX12_sift_27 rfl ?_
      obtain ⟨r3, e, hF⟩ := hF
      refine m_get fg_X12_47 dX12_sift_28 e ?_
      refine m_iload dX12_sift_31 rfl ?_
      obtain ⟨x4, e, hF⟩ := hF
      refine m_zald dX12_sift_33 e ?_
      refine m_if_ne 82 dX12_sift_34 (by decide) (fun c => ?_) (fun c => ?_)
      · replace hF := hF.1 c
        refine m_iconst dX12_sift_82 ki_0 ?_
        refine m_istore (ls2 := [some (.ref r_0), some (.int x_1), some (.int x_2), some (.int x2), some (.int ((12 * x_2) + x2)), some (.int 0), none]) dX12_sift_83 (by decide) rfl ?_
        refine m_wk [3] rfl ?_
        exact hF
      · replace hF := hF.2 c
        refine m_aload_n dX12_sift_37 rfl ?_
        obtain ⟨r5, e, hF⟩ := hF
        refine m_get fg_X12_47 dX12_sift_38 e ?_
        refine m_iload dX12_sift_41 rfl ?_
        refine m_iconst dX12_sift_43 ki_1 ?_
        obtain ⟨h6, e, hF⟩ := hF
        refine m_zast dX12_sift_44 e ?_
        refine m_iconst dX12_sift_45 ki_0 ?_
        refine m_istore (ls2 := [some (.ref r_0), some (.int x_1), some (.int x_2), some (.int x2), some (.int ((12 * x_2) + x2)), some (.int 0), none]) dX12_sift_46 (by decide) rfl ?_
        refine m_wk [2, 3] rfl ?_
        exact hF
theorem bk_X12_sift_85 {d : Nat} (r_0 : Nat) (x_1 : Int32) (x_2 : Int32) (x_4 : Int32) (x_5 : Int32) {h : mH} {Q : Option Value → mH → Prop} (hF : ((x_1 ≤ x_5 → Wm d (0, 0) JX12_sift 141 [some (.ref r_0), some (.int x_1), some (.int x_2), none, none, some (.int 0), none] [] h Q) ∧ (¬ (x_1 ≤ x_5) → Wm d (0, 0) JX12_sift 94 [some (.ref r_0), some (.int x_1), some (.int x_2), none, some (.int x_4), some (.int x_5), some (.int 0)] [] h Q))) : Wm d (0, 0) JX12_sift 85 [some (.ref r_0), some (.int x_1), some (.int x_2), none, some (.int x_4), some (.int x_5), none] [] h Q := by
  refine m_iload dX12_sift_85 rfl ?_
  refine m_iload_n dX12_sift_87 rfl ?_
  refine m_icmp_ge 138 dX12_sift_88 (by decide) (fun c => ?_) (fun c => ?_)
  · replace hF := hF.1 c
    refine m_iconst dX12_sift_138 ki_0 ?_
    refine m_istore (ls2 := [some (.ref r_0), some (.int x_1), some (.int x_2), none, some (.int x_4), some (.int 0), none]) dX12_sift_139 (by decide) rfl ?_
    refine m_wk [4] rfl ?_
    exact hF
  · replace hF := hF.2 c
    refine m_iconst dX12_sift_91 ki_0 ?_
    refine m_istore (ls2 := [some (.ref r_0), some (.int x_1), some (.int x_2), none, some (.int x_4), some (.int x_5), some (.int 0)]) dX12_sift_92 (by decide) rfl ?_
    exact hF
theorem bk_X12_sift_48 {d : Nat} (r_0 : Nat) (x_1 : Int32) (x_4 : Int32) (x_5 : Int32) {h : mH} {Q : Option Value → mH → Prop} (hF : ((x_1 ≤ x_5 → Q (some (.int 1)) h) ∧ (¬ (x_1 ≤ x_5) → (∃ r1 : Nat, m_fld h r_0 [11] 15 = some (.ref r1) ∧ (∃ r2 : Nat, m_fld h r_0 [11] 16 = some (.ref r2) ∧ (∃ x3 : Int32, m_il h r2 x_5 = some x3 ∧ (∃ h4 : mH, m_is h r1 ((12 * x_4) + x_5) x3 = some h4 ∧ Wm d (0, 0) JX12_sift 48 [some (.ref r_0), some (.int x_1), none, none, some (.int x_4), some (.int (x_5 + 1)), none] [] h4 Q))))))) : Wm d (0, 0) JX12_sift 48 [some (.ref r_0), some (.int x_1), none, none, some (.int x_4), some (.int x_5), none] [] h Q := by
  refine m_iload dX12_sift_48 rfl ?_
  refine m_iload_n dX12_sift_50 rfl ?_
  refine m_icmp_ge 80 dX12_sift_51 (by decide) (fun c => ?_) (fun c => ?_)
  · replace hF := hF.1 c
    refine m_iconst dX12_sift_80 ki_1 ?_
    exact m_ireturn dX12_sift_81 (Or.inr rfl) hF
  · replace hF := hF.2 c
    refine m_aload_n dX12_sift_54 rfl ?_
    obtain ⟨r1, e, hF⟩ := hF
    refine m_get fg_X12_50 dX12_sift_55 e ?_
    refine m_bipush dX12_sift_58 kb_12 ?_
    refine m_iload dX12_sift_60 rfl ?_
    refine m_imul dX12_sift_62 ?_
    refine m_iload dX12_sift_63 rfl ?_
    refine m_iadd dX12_sift_65 ?_
    refine m_aload_n dX12_sift_66 rfl ?_
    obtain ⟨r2, e, hF⟩ := hF
    refine m_get fg_X12_53 dX12_sift_67 e ?_
    refine m_iload dX12_sift_70 rfl ?_
    obtain ⟨x3, e, hF⟩ := hF
    refine m_iald dX12_sift_72 e ?_
    obtain ⟨h4, e, hF⟩ := hF
    refine m_iast dX12_sift_73 e ?_
    refine m_iinc (v := x_5 + 1) (ls2 := [some (.ref r_0), some (.int x_1), none, none, some (.int x_4), some (.int (x_5 + 1)), none]) dX12_sift_74 (by decide) rfl (congrArg (_ + ·) ki_1) rfl ?_
    refine m_goto 48 dX12_sift_77 (by decide) ?_
    exact hF
theorem bk_X12_sift_141 {d : Nat} (r_0 : Nat) (x_1 : Int32) (x_2 : Int32) (x_5 : Int32) {h : mH} {Q : Option Value → mH → Prop} (hF : ((x_1 ≤ x_5 → Wm d (0, 0) JX12_sift 2 [some (.ref r_0), some (.int x_1), some (.int (x_2 + 1)), none, none, none, none] [] h Q) ∧ (¬ (x_1 ≤ x_5) → (∃ r1 : Nat, m_fld h r_0 [11] 16 = some (.ref r1) ∧ (∃ r2 : Nat, m_fld h r_0 [11] 17 = some (.ref r2) ∧ (∃ x3 : Int32, m_il h r2 x_5 = some x3 ∧ (∃ h4 : mH, m_is h r1 x_5 x3 = some h4 ∧ Wm d (0, 0) JX12_sift 141 [some (.ref r_0), some (.int x_1), some (.int x_2), none, none, some (.int (x_5 + 1)), none] [] h4 Q))))))) : Wm d (0, 0) JX12_sift 141 [some (.ref r_0), some (.int x_1), some (.int x_2), none, none, some (.int x_5), none] [] h Q := by
  refine m_iload dX12_sift_141 rfl ?_
  refine m_iload_n dX12_sift_143 rfl ?_
  refine m_icmp_ge 167 dX12_sift_144 (by decide) (fun c => ?_) (fun c => ?_)
  · replace hF := hF.1 c
    refine m_iinc (v := x_2 + 1) (ls2 := [some (.ref r_0), some (.int x_1), some (.int (x_2 + 1)), none, none, some (.int x_5), none]) dX12_sift_167 (by decide) rfl (congrArg (_ + ·) ki_1) rfl ?_
    refine m_goto 2 dX12_sift_170 (by decide) ?_
    refine m_wk [5] rfl ?_
    exact hF
  · replace hF := hF.2 c
    refine m_aload_n dX12_sift_147 rfl ?_
    obtain ⟨r1, e, hF⟩ := hF
    refine m_get fg_X12_53 dX12_sift_148 e ?_
    refine m_iload dX12_sift_151 rfl ?_
    refine m_aload_n dX12_sift_153 rfl ?_
    obtain ⟨r2, e, hF⟩ := hF
    refine m_get fg_X12_56 dX12_sift_154 e ?_
    refine m_iload dX12_sift_157 rfl ?_
    obtain ⟨x3, e, hF⟩ := hF
    refine m_iald dX12_sift_159 e ?_
    obtain ⟨h4, e, hF⟩ := hF
    refine m_iast dX12_sift_160 e ?_
    refine m_iinc (v := x_5 + 1) (ls2 := [some (.ref r_0), some (.int x_1), some (.int x_2), none, none, some (.int (x_5 + 1)), none]) dX12_sift_161 (by decide) rfl (congrArg (_ + ·) ki_1) rfl ?_
    refine m_goto 141 dX12_sift_164 (by decide) ?_
    exact hF
theorem bk_X12_sift_94 {d : Nat} (r_0 : Nat) (x_1 : Int32) (x_2 : Int32) (x_4 : Int32) (x_5 : Int32) (x_6 : Int32) {h : mH} {Q : Option Value → mH → Prop} (hF : (∃ r1 : Nat, m_fld h r_0 [11] 15 = some (.ref r1) ∧ (∃ x2 : Int32, m_il h r1 ((12 * x_4) + x_6) = some x2 ∧ (∃ r3 : Nat, m_fld h r_0 [11] 16 = some (.ref r3) ∧ (∃ x4 : Int32, m_il h r3 x_5 = some x4 ∧ ((x2 = x4 → (∃ r5 : Nat, m_fld h r_0 [11] 17 = some (.ref r5) ∧ (∃ h6 : mH, m_is h r5 x_5 x_6 = some h6 ∧ Wm d (0, 0) JX12_sift 85 [some (.ref r_0), some (.int x_1), some (.int x_2), none, some (.int x_4), some (.int (x_5 + 1)), none] [] h6 Q))) ∧ (¬ (x2 = x4) → Wm d (0, 0) JX12_sift 94 [some (.ref r_0), some (.int x_1), some (.int x_2), none, some (.int x_4), some (.int x_5), some (.int (x_6 + 1))] [] h Q))))))) : Wm d (0, 0) JX12_sift 94 [some (.ref r_0), some (.int x_1), some (.int x_2), none, some (.int x_4), some (.int x_5), some (.int x_6)] [] h Q := by
  refine m_aload_n dX12_sift_94 rfl ?_
  obtain ⟨r1, e, hF⟩ := hF
  refine m_get fg_X12_50 dX12_sift_95 e ?_
  refine m_bipush dX12_sift_98 kb_12 ?_
  refine m_iload dX12_sift_100 rfl ?_
  refine m_imul dX12_sift_102 ?_
  refine m_iload dX12_sift_103 rfl ?_
  refine m_iadd dX12_sift_105 ?_
  obtain ⟨x2, e, hF⟩ := hF
  refine m_iald dX12_sift_106 e ?_
  refine m_aload_n dX12_sift_107 rfl ?_
  obtain ⟨r3, e, hF⟩ := hF
  refine m_get fg_X12_53 dX12_sift_108 e ?_
  refine m_iload dX12_sift_111 rfl ?_
  obtain ⟨x4, e, hF⟩ := hF
  refine m_iald dX12_sift_113 e ?_
  refine m_icmp_eq 123 dX12_sift_114 (by decide) (fun c => ?_) (fun c => ?_)
  · replace hF := hF.1 c
    refine m_aload_n dX12_sift_123 rfl ?_
    obtain ⟨r5, e, hF⟩ := hF
    refine m_get fg_X12_56 dX12_sift_124 e ?_
    refine m_iload dX12_sift_127 rfl ?_
    refine m_iload dX12_sift_129 rfl ?_
    obtain ⟨h6, e, hF⟩ := hF
    refine m_iast dX12_sift_131 e ?_
    refine m_iinc (v := x_5 + 1) (ls2 := [some (.ref r_0), some (.int x_1), some (.int x_2), none, some (.int x_4), some (.int (x_5 + 1)), some (.int x_6)]) dX12_sift_132 (by decide) rfl (congrArg (_ + ·) ki_1) rfl ?_
    refine m_goto 85 dX12_sift_135 (by decide) ?_
    refine m_wk [6] rfl ?_
    exact hF
  · replace hF := hF.2 c
    refine m_iinc (v := x_6 + 1) (ls2 := [some (.ref r_0), some (.int x_1), some (.int x_2), none, some (.int x_4), some (.int x_5), some (.int (x_6 + 1))]) dX12_sift_117 (by decide) rfl (congrArg (_ + ·) ki_1) rfl ?_
    refine m_goto 94 dX12_sift_120 (by decide) ?_
    exact hF
theorem en_X12_sift {d : Nat} {r_0 : Nat} {x_1 : Int32} {h : mH} {K : Option Value → mH → Prop} (hk : Wm d (0, 0) JX12_sift 0 [some (.ref r_0), some (.int x_1), none, none, none, none, none] [] h (fun r h' => h'.1 0 = h.1 0 ∧ K r h')) : Ev d (0, 0) MX12_sift [.ref r_0, .int x_1] h K :=
  m_met pn_X12 nl_X12 (fun _ => Nat.le_of_ble_eq_true rfl) hk
theorem bk_X12_heap_0 {d : Nat} (r_0 : Nat) (x_1 : Int32) {h : mH} {Q : Option Value → mH → Prop} (hF : (∃ r1 : Nat, m_fld h r_0 [11] 5 = some (.ref r1) ∧ (∃ x2 : Int32, m_il h r1 x_1 = some x2 ∧ Wm (d + 1) (0, 0) JX12_heap 9 [some (.ref r_0), some (.int x_1), some (.int x2), some (.int 0), none, none, none, none] [] h Q))) : Wm (d + 1) (0, 0) JX12_heap 0 [some (.ref r_0), some (.int x_1), none, none, none, none, none, none] [] h Q := by
  refine m_aload_n dX12_heap_0 rfl ?_
  obtain ⟨r1, e, hF⟩ := hF
  refine m_get fg_X12_19 dX12_heap_1 e ?_
  refine m_iload_n dX12_heap_4 rfl ?_
  obtain ⟨x2, e, hF⟩ := hF
  refine m_iald dX12_heap_5 e ?_
  refine m_istore_n (ls2 := [some (.ref r_0), some (.int x_1), some (.int x2), none, none, none, none, none]) dX12_heap_6 (by decide) rfl ?_
  refine m_iconst dX12_heap_7 ki_0 ?_
  refine m_istore_n (ls2 := [some (.ref r_0), some (.int x_1), some (.int x2), some (.int 0), none, none, none, none]) dX12_heap_8 (by decide) rfl ?_
  exact hF
theorem bk_X12_heap_9 {d : Nat} (r_0 : Nat) (x_1 : Int32) (x_2 : Int32) (x_3 : Int32) {h : mH} {Q : Option Value → mH → Prop} (hF : ((144 ≤ x_3 → Wm (d + 1) (0, 0) JX12_heap 31 [some (.ref r_0), some (.int x_1), some (.int x_2), some (.int 0), none, none, none, none] [] h Q) ∧ (¬ (144 ≤ x_3) → (∃ r1 : Nat, m_fld h r_0 [11] 14 = some (.ref r1) ∧ (∃ h2 : mH, m_zs h r1 x_3 0 = some h2 ∧ Wm (d + 1) (0, 0) JX12_heap 9 [some (.ref r_0), some (.int x_1), some (.int x_2), some (.int (x_3 + 1)), none, none, none, none] [] h2 Q))))) : Wm (d + 1) (0, 0) JX12_heap 9 [some (.ref r_0), some (.int x_1), some (.int x_2), some (.int x_3), none, none, none, none] [] h Q := by
  refine m_iload_n dX12_heap_9 rfl ?_
  refine m_sipush dX12_heap_10 ks_144 ?_
  refine m_icmp_ge 29 dX12_heap_13 (by decide) (fun c => ?_) (fun c => ?_)
  · replace hF := hF.1 c
    refine m_iconst dX12_heap_29 ki_0 ?_
    refine m_istore_n (ls2 := [some (.ref r_0), some (.int x_1), some (.int x_2), some (.int 0), none, none, none, none]) dX12_heap_30 (by decide) rfl ?_
    exact hF
  · replace hF := hF.2 c
    refine m_aload_n dX12_heap_16 rfl ?_
    obtain ⟨r1, e, hF⟩ := hF
    refine m_get fg_X12_47 dX12_heap_17 e ?_
    refine m_iload_n dX12_heap_20 rfl ?_
    refine m_iconst dX12_heap_21 ki_0 ?_
    obtain ⟨h2, e, hF⟩ := hF
    refine m_zast dX12_heap_22 e ?_
    refine m_iinc (v := x_3 + 1) (ls2 := [some (.ref r_0), some (.int x_1), some (.int x_2), some (.int (x_3 + 1)), none, none, none, none]) dX12_heap_23 (by decide) rfl (congrArg (_ + ·) ki_1) rfl ?_
    refine m_goto 9 dX12_heap_26 (by decide) ?_
    exact hF
theorem bk_X12_heap_31 {d : Nat} (r_0 : Nat) (x_1 : Int32) (x_2 : Int32) (x_3 : Int32) {h : mH} {Q : Option Value → mH → Prop} (hF : (∃ r1 : Nat, m_fld h r_0 [11] 6 = some (.ref r1) ∧ (∃ x2 : Int32, m_il h r1 x_1 = some x2 ∧ ((x2 ≤ x_3 → Wm (d + 1) (0, 0) JX12_heap 86 [some (.ref r_0), none, some (.int x_2), some (.int 1), none, none, none, none] [] h Q) ∧ (¬ (x2 ≤ x_3) → Wm (d + 1) (0, 0) JX12_heap 44 [some (.ref r_0), some (.int x_1), some (.int x_2), some (.int x_3), some (.int 0), none, none, none] [] h Q))))) : Wm (d + 1) (0, 0) JX12_heap 31 [some (.ref r_0), some (.int x_1), some (.int x_2), some (.int x_3), none, none, none, none] [] h Q := by
  refine m_iload_n dX12_heap_31 rfl ?_
  refine m_aload_n dX12_heap_32 rfl ?_
  obtain ⟨r1, e, hF⟩ := hF
  refine m_get fg_X12_22 dX12_heap_33 e ?_
  refine m_iload_n dX12_heap_36 rfl ?_
  obtain ⟨x2, e, hF⟩ := hF
  refine m_iald dX12_heap_37 e ?_
  refine m_icmp_ge 84 dX12_heap_38 (by decide) (fun c => ?_) (fun c => ?_)
  · replace hF := hF.1 c
    refine m_iconst dX12_heap_84 ki_1 ?_
    refine m_istore_n (ls2 := [some (.ref r_0), some (.int x_1), some (.int x_2), some (.int 1), none, none, none, none]) dX12_heap_85 (by decide) rfl ?_
    refine m_wk [1] rfl ?_
    exact hF
  · replace hF := hF.2 c
    refine m_iconst dX12_heap_41 ki_0 ?_
    refine m_istore (ls2 := [some (.ref r_0), some (.int x_1), some (.int x_2), some (.int x_3), some (.int 0), none, none, none]) dX12_heap_42 (by decide) rfl ?_
    exact hF
theorem bk_X12_heap_86 {d : Nat} (r_0 : Nat) (x_2 : Int32) (x_3 : Int32) {h : mH} {Q : Option Value → mH → Prop} (hF : ((x_3 = 0 → Wm (d + 1) (0, 0) JX12_heap 219 [some (.ref r_0), none, some (.int x_2), none, some (.int 1), some (.int 0), none, none] [] h Q) ∧ (¬ (x_3 = 0) → Wm (d + 1) (0, 0) JX12_heap 95 [some (.ref r_0), none, some (.int x_2), some (.int 0), some (.int 0), none, none, none] [] h Q))) : Wm (d + 1) (0, 0) JX12_heap 86 [some (.ref r_0), none, some (.int x_2), some (.int x_3), none, none, none, none] [] h Q := by
  refine m_iload_n dX12_heap_86 rfl ?_
  refine m_if_eq 213 dX12_heap_87 (by decide) (fun c => ?_) (fun c => ?_)
  · replace hF := hF.1 c
    refine m_iconst dX12_heap_213 ki_1 ?_
    refine m_istore (ls2 := [some (.ref r_0), none, some (.int x_2), some (.int x_3), some (.int 1), none, none, none]) dX12_heap_214 (by decide) rfl ?_
    refine m_iconst dX12_heap_216 ki_0 ?_
    refine m_istore (ls2 := [some (.ref r_0), none, some (.int x_2), some (.int x_3), some (.int 1), some (.int 0), none, none]) dX12_heap_217 (by decide) rfl ?_
    refine m_wk [3] rfl ?_
    exact hF
  · replace hF := hF.2 c
    refine m_iconst dX12_heap_90 ki_0 ?_
    refine m_istore_n (ls2 := [some (.ref r_0), none, some (.int x_2), some (.int 0), none, none, none, none]) dX12_heap_91 (by decide) rfl ?_
    refine m_iconst dX12_heap_92 ki_0 ?_
    refine m_istore (ls2 := [some (.ref r_0), none, some (.int x_2), some (.int 0), some (.int 0), none, none, none]) dX12_heap_93 (by decide) rfl ?_
    exact hF
theorem bk_X12_heap_44 {d : Nat} (r_0 : Nat) (x_1 : Int32) (x_2 : Int32) (x_3 : Int32) (x_4 : Int32) {h : mH} {Q : Option Value → mH → Prop} (hF : ((x_2 ≤ x_4 → (∃ fs4 : List Value, (h).1 r_0 = .inr (11, fs4) ∧ Ev d (0, 0) MX12_sift [.ref r_0, .int x_2] h (fun r1 h2 => ∃ x3 : Int32, r1 = some (.int x3) ∧ Wm (d + 1) (0, 0) JX12_heap 31 [some (.ref r_0), some (.int x_1), some (.int x_2), some (.int (x_3 + 1)), none, none, none, none] [] h2 Q))) ∧ (¬ (x_2 ≤ x_4) → (∃ r5 : Nat, m_fld h r_0 [11] 16 = some (.ref r5) ∧ (∃ fs10 : List Value, (h).1 r_0 = .inr (11, fs10) ∧ Ev d (0, 0) MX12_at [.ref r_0, .int x_1, .int x_3, .int x_4] h (fun r6 h7 => ∃ x8 : Int32, r6 = some (.int x8) ∧ (∃ h9 : mH, m_is h7 r5 x_4 x8 = some h9 ∧ Wm (d + 1) (0, 0) JX12_heap 44 [some (.ref r_0), some (.int x_1), some (.int x_2), some (.int x_3), some (.int (x_4 + 1)), none, none, none] [] h9 Q))))))) : Wm (d + 1) (0, 0) JX12_heap 44 [some (.ref r_0), some (.int x_1), some (.int x_2), some (.int x_3), some (.int x_4), none, none, none] [] h Q := by
  refine m_iload dX12_heap_44 rfl ?_
  refine m_iload_n dX12_heap_46 rfl ?_
  refine m_icmp_ge 71 dX12_heap_47 (by decide) (fun c => ?_) (fun c => ?_)
  · replace hF := hF.1 c
    refine m_aload_n dX12_heap_71 rfl ?_
    refine m_iload_n dX12_heap_72 rfl ?_
    obtain ⟨fs4, e, hF⟩ := hF
    refine m_virtual (as := [.int x_2]) (rest := []) cv_X12_168_11 e dX12_heap_73 rfl rfl (Nat.le_of_ble_eq_true rfl) (Nat.le_of_eq (Nat.zero_add _)) (Nat.le_of_eq (Nat.zero_add _)) (b1 := (0, 0)) (b2 := (0, 0)) (Ev.mono hF ?_)
    intro r1 h2 hF
    obtain ⟨x3, rfl, hF⟩ := hF
    refine m_istore (ls2 := [some (.ref r_0), some (.int x_1), some (.int x_2), some (.int x_3), some (.int x3), none, none, none]) dX12_heap_76 (by decide) rfl ?_
    refine m_iinc (v := x_3 + 1) (ls2 := [some (.ref r_0), some (.int x_1), some (.int x_2), some (.int (x_3 + 1)), some (.int x3), none, none, none]) dX12_heap_78 (by decide) rfl (congrArg (_ + ·) ki_1) rfl ?_
    refine m_goto 31 dX12_heap_81 (by decide) ?_
    refine m_wk [4] rfl ?_
    exact hF
  · replace hF := hF.2 c
    refine m_aload_n dX12_heap_50 rfl ?_
    obtain ⟨r5, e, hF⟩ := hF
    refine m_get fg_X12_53 dX12_heap_51 e ?_
    refine m_iload dX12_heap_54 rfl ?_
    refine m_aload_n dX12_heap_56 rfl ?_
    refine m_iload_n dX12_heap_57 rfl ?_
    refine m_iload_n dX12_heap_58 rfl ?_
    refine m_iload dX12_heap_59 rfl ?_
    obtain ⟨fs10, e, hF⟩ := hF
    refine m_virtual (as := [.int x_1, .int x_3, .int x_4]) (rest := [.int x_4, .ref r5]) cv_X12_105_11 e dX12_heap_61 rfl rfl (Nat.le_of_ble_eq_true rfl) (Nat.le_of_eq (Nat.zero_add _)) (Nat.le_of_eq (Nat.zero_add _)) (b1 := (0, 0)) (b2 := (0, 0)) (Ev.mono hF ?_)
    intro r6 h7 hF
    obtain ⟨x8, rfl, hF⟩ := hF
    obtain ⟨h9, e, hF⟩ := hF
    refine m_iast dX12_heap_64 e ?_
    refine m_iinc (v := x_4 + 1) (ls2 := [some (.ref r_0), some (.int x_1), some (.int x_2), some (.int x_3), some (.int (x_4 + 1)), none, none, none]) dX12_heap_65 (by decide) rfl (congrArg (_ + ·) ki_1) rfl ?_
    refine m_goto 44 dX12_heap_68 (by decide) ?_
    exact hF
theorem bk_X12_heap_219 {d : Nat} (r_0 : Nat) (x_2 : Int32) (x_4 : Int32) (x_5 : Int32) {h : mH} {Q : Option Value → mH → Prop} (hF : ((x_2 ≤ x_5 → Q (some (.int x_4)) h) ∧ (¬ (x_2 ≤ x_5) → Wm (d + 1) (0, 0) JX12_heap 231 [some (.ref r_0), none, some (.int x_2), none, some (.int x_4), some (.int x_5), some (.int 1), some (.int 0)] [] h Q))) : Wm (d + 1) (0, 0) JX12_heap 219 [some (.ref r_0), none, some (.int x_2), none, some (.int x_4), some (.int x_5), none, none] [] h Q := by
  refine m_iload dX12_heap_219 rfl ?_
  refine m_iload_n dX12_heap_221 rfl ?_
  refine m_icmp_ge 282 dX12_heap_222 (by decide) (fun c => ?_) (fun c => ?_)
  · replace hF := hF.1 c
    refine m_iload dX12_heap_282 rfl ?_
    exact m_ireturn dX12_heap_284 trivial hF
  · replace hF := hF.2 c
    refine m_iconst dX12_heap_225 ki_1 ?_
    refine m_istore (ls2 := [some (.ref r_0), none, some (.int x_2), none, some (.int x_4), some (.int x_5), some (.int 1), none]) dX12_heap_226 (by decide) rfl ?_
    refine m_iconst dX12_heap_228 ki_0 ?_
    refine m_istore (ls2 := [some (.ref r_0), none, some (.int x_2), none, some (.int x_4), some (.int x_5), some (.int 1), some (.int 0)]) dX12_heap_229 (by decide) rfl ?_
    exact hF
theorem bk_X12_heap_95 {d : Nat} (r_0 : Nat) (x_2 : Int32) (x_3 : Int32) (x_4 : Int32) {h : mH} {Q : Option Value → mH → Prop} (hF : ((144 ≤ x_4 → Wm (d + 1) (0, 0) JX12_heap 86 [some (.ref r_0), none, some (.int x_2), some (.int x_3), none, none, none, none] [] h Q) ∧ (¬ (144 ≤ x_4) → Wm (d + 1) (0, 0) JX12_heap 106 [some (.ref r_0), none, some (.int x_2), some (.int x_3), some (.int x_4), some (.int 0), none, none] [] h Q))) : Wm (d + 1) (0, 0) JX12_heap 95 [some (.ref r_0), none, some (.int x_2), some (.int x_3), some (.int x_4), none, none, none] [] h Q := by
  refine m_iload dX12_heap_95 rfl ?_
  refine m_sipush dX12_heap_97 ks_144 ?_
  refine m_icmp_ge 210 dX12_heap_100 (by decide) (fun c => ?_) (fun c => ?_)
  · replace hF := hF.1 c
    refine m_goto 86 dX12_heap_210 (by decide) ?_
    refine m_wk [4] rfl ?_
    exact hF
  · replace hF := hF.2 c
    refine m_iconst dX12_heap_103 ki_0 ?_
    refine m_istore (ls2 := [some (.ref r_0), none, some (.int x_2), some (.int x_3), some (.int x_4), some (.int 0), none, none]) dX12_heap_104 (by decide) rfl ?_
    exact hF
theorem bk_X12_heap_231 {d : Nat} (r_0 : Nat) (x_2 : Int32) (x_4 : Int32) (x_5 : Int32) (x_6 : Int32) (x_7 : Int32) {h : mH} {Q : Option Value → mH → Prop} (hF : ((x_2 ≤ x_7 → Wm (d + 1) (0, 0) JX12_heap 219 [some (.ref r_0), none, some (.int x_2), none, some (.int (x_4 * x_6)), some (.int (x_5 + 1)), none, none] [] h Q) ∧ (¬ (x_2 ≤ x_7) → (∃ r1 : Nat, m_fld h r_0 [11] 14 = some (.ref r1) ∧ (∃ x2 : Int32, m_zl h r1 ((12 * x_5) + x_7) = some x2 ∧ ((x2 = 0 → Wm (d + 1) (0, 0) JX12_heap 231 [some (.ref r_0), none, some (.int x_2), none, some (.int x_4), some (.int x_5), some (.int (x_6 + 0)), some (.int (x_7 + 1))] [] h Q) ∧ (¬ (x2 = 0) → Wm (d + 1) (0, 0) JX12_heap 231 [some (.ref r_0), none, some (.int x_2), none, some (.int x_4), some (.int x_5), some (.int (x_6 + 1)), some (.int (x_7 + 1))] [] h Q))))))) : Wm (d + 1) (0, 0) JX12_heap 231 [some (.ref r_0), none, some (.int x_2), none, some (.int x_4), some (.int x_5), some (.int x_6), some (.int x_7)] [] h Q := by
  refine m_iload dX12_heap_231 rfl ?_
  refine m_iload_n dX12_heap_233 rfl ?_
  refine m_icmp_ge 269 dX12_heap_234 (by decide) (fun c => ?_) (fun c => ?_)
  · replace hF := hF.1 c
    refine m_iload dX12_heap_269 rfl ?_
    refine m_iload dX12_heap_271 rfl ?_
    refine m_imul dX12_heap_273 ?_
    refine m_istore (ls2 := [some (.ref r_0), none, some (.int x_2), none, some (.int (x_4 * x_6)), some (.int x_5), some (.int x_6), some (.int x_7)]) dX12_heap_274 (by decide) rfl ?_
    refine m_iinc (v := x_5 + 1) (ls2 := [some (.ref r_0), none, some (.int x_2), none, some (.int (x_4 * x_6)), some (.int (x_5 + 1)), some (.int x_6), some (.int x_7)]) dX12_heap_276 (by decide) rfl (congrArg (_ + ·) ki_1) rfl ?_
    refine m_goto 219 dX12_heap_279 (by decide) ?_
    refine m_wk [6, 7] rfl ?_
    exact hF
  · replace hF := hF.2 c
    refine m_iload dX12_heap_237 rfl ?_
    refine m_aload_n dX12_heap_239 rfl ?_
    obtain ⟨r1, e, hF⟩ := hF
    refine m_get fg_X12_47 dX12_heap_240 e ?_
    refine m_bipush dX12_heap_243 kb_12 ?_
    refine m_iload dX12_heap_245 rfl ?_
    refine m_imul dX12_heap_247 ?_
    refine m_iload dX12_heap_248 rfl ?_
    refine m_iadd dX12_heap_250 ?_
    obtain ⟨x2, e, hF⟩ := hF
    refine m_zald dX12_heap_251 e ?_
    refine m_if_eq 259 dX12_heap_252 (by decide) (fun c => ?_) (fun c => ?_)
    · replace hF := hF.1 c
      refine m_iconst dX12_heap_259 ki_0 ?_
      refine m_iadd dX12_heap_260 ?_
      refine m_istore (ls2 := [some (.ref r_0), none, some (.int x_2), none, some (.int x_4), some (.int x_5), some (.int (x_6 + 0)), some (.int x_7)]) dX12_heap_261 (by decide) rfl ?_
      refine m_iinc (v := x_7 + 1) (ls2 := [some (.ref r_0), none, some (.int x_2), none, some (.int x_4), some (.int x_5), some (.int (x_6 + 0)), some (.int (x_7 + 1))]) dX12_heap_263 (by decide) rfl (congrArg (_ + ·) ki_1) rfl ?_
      refine m_goto 231 dX12_heap_266 (by decide) ?_
      exact hF
    · replace hF := hF.2 c
      refine m_iconst dX12_heap_255 ki_1 ?_
      refine m_goto 260 dX12_heap_256 (by decide) ?_
      refine m_iadd dX12_heap_260 ?_
      refine m_istore (ls2 := [some (.ref r_0), none, some (.int x_2), none, some (.int x_4), some (.int x_5), some (.int (x_6 + 1)), some (.int x_7)]) dX12_heap_261 (by decide) rfl ?_
      refine m_iinc (v := x_7 + 1) (ls2 := [some (.ref r_0), none, some (.int x_2), none, some (.int x_4), some (.int x_5), some (.int (x_6 + 1)), some (.int (x_7 + 1))]) dX12_heap_263 (by decide) rfl (congrArg (_ + ·) ki_1) rfl ?_
      refine m_goto 231 dX12_heap_266 (by decide) ?_
      exact hF
theorem bk_X12_heap_106 {d : Nat} (r_0 : Nat) (x_2 : Int32) (x_3 : Int32) (x_4 : Int32) (x_5 : Int32) {h : mH} {Q : Option Value → mH → Prop} (hF : ((144 ≤ x_5 → Wm (d + 1) (0, 0) JX12_heap 95 [some (.ref r_0), none, some (.int x_2), some (.int x_3), some (.int (x_4 + 1)), none, none, none] [] h Q) ∧ (¬ (144 ≤ x_5) → (∃ r1 : Nat, m_fld h r_0 [11] 14 = some (.ref r1) ∧ (∃ x2 : Int32, m_zl h r1 x_4 = some x2 ∧ ((x2 = 0 → Wm (d + 1) (0, 0) JX12_heap 95 [some (.ref r_0), none, some (.int x_2), some (.int x_3), some (.int (x_4 + 1)), none, none, none] [] h Q) ∧ (¬ (x2 = 0) → (∃ r3 : Nat, m_fld h r_0 [11] 14 = some (.ref r3) ∧ (∃ x4 : Int32, m_zl h r3 x_5 = some x4 ∧ ((x4 = 0 → Wm (d + 1) (0, 0) JX12_heap 106 [some (.ref r_0), none, some (.int x_2), some (.int x_3), some (.int x_4), some (.int (x_5 + 1)), none, none] [] h Q) ∧ (¬ (x4 = 0) → Wm (d + 1) (0, 0) JX12_heap 137 [some (.ref r_0), none, some (.int x_2), some (.int x_3), some (.int x_4), some (.int x_5), some (.int 0), none] [] h Q))))))))))) : Wm (d + 1) (0, 0) JX12_heap 106 [some (.ref r_0), none, some (.int x_2), some (.int x_3), some (.int x_4), some (.int x_5), none, none] [] h Q := by
  refine m_iload dX12_heap_106 rfl ?_
  refine m_sipush dX12_heap_108 ks_144 ?_
  refine m_icmp_ge 204 dX12_heap_111 (by decide) (fun c => ?_) (fun c => ?_)
  · replace hF := hF.1 c
    refine m_iinc (v := x_4 + 1) (ls2 := [some (.ref r_0), none, some (.int x_2), some (.int x_3), some (.int (x_4 + 1)), some (.int x_5), none, none]) dX12_heap_204 (by decide) rfl (congrArg (_ + ·) ki_1) rfl ?_
    refine m_goto 95 dX12_heap_207 (by decide) ?_
    refine m_wk [5] rfl ?_
    exact hF
  · replace hF := hF.2 c
    refine m_aload_n dX12_heap_114 rfl ?_
    obtain ⟨r1, e, hF⟩ := hF
    refine m_get fg_X12_47 dX12_heap_115 e ?_
    refine m_iload dX12_heap_118 rfl ?_
    obtain ⟨x2, e, hF⟩ := hF
    refine m_zald dX12_heap_120 e ?_
    refine m_if_eq 204 dX12_heap_121 (by decide) (fun c => ?_) (fun c => ?_)
    · replace hF := hF.1 c
      refine m_iinc (v := x_4 + 1) (ls2 := [some (.ref r_0), none, some (.int x_2), some (.int x_3), some (.int (x_4 + 1)), some (.int x_5), none, none]) dX12_heap_204 (by decide) rfl (congrArg (_ + ·) ki_1) rfl ?_
      refine m_goto 95 dX12_heap_207 (by decide) ?_
      refine m_wk [5] rfl ?_
      exact hF
    · replace hF := hF.2 c
      refine m_aload_n dX12_heap_124 rfl ?_
      obtain ⟨r3, e, hF⟩ := hF
      refine m_get fg_X12_47 dX12_heap_125 e ?_
      refine m_iload dX12_heap_128 rfl ?_
      obtain ⟨x4, e, hF⟩ := hF
      refine m_zald dX12_heap_130 e ?_
      refine m_if_eq 198 dX12_heap_131 (by decide) (fun c => ?_) (fun c => ?_)
      · replace hF := hF.1 c
        refine m_iinc (v := x_5 + 1) (ls2 := [some (.ref r_0), none, some (.int x_2), some (.int x_3), some (.int x_4), some (.int (x_5 + 1)), none, none]) dX12_heap_198 (by decide) rfl (congrArg (_ + ·) ki_1) rfl ?_
        refine m_goto 106 dX12_heap_201 (by decide) ?_
        exact hF
      · replace hF := hF.2 c
        refine m_iconst dX12_heap_134 ki_0 ?_
        refine m_istore (ls2 := [some (.ref r_0), none, some (.int x_2), some (.int x_3), some (.int x_4), some (.int x_5), some (.int 0), none]) dX12_heap_135 (by decide) rfl ?_
        exact hF
theorem bk_X12_heap_137 {d : Nat} (r_0 : Nat) (x_2 : Int32) (x_3 : Int32) (x_4 : Int32) (x_5 : Int32) (x_6 : Int32) {h : mH} {Q : Option Value → mH → Prop} (hF : ((x_2 ≤ x_6 → (∃ fs4 : List Value, (h).1 r_0 = .inr (11, fs4) ∧ Ev d (0, 0) MX12_sift [.ref r_0, .int x_2] h (fun r1 h2 => ∃ x3 : Int32, r1 = some (.int x3) ∧ ((¬ x3 = 0 → Wm (d + 1) (0, 0) JX12_heap 106 [some (.ref r_0), none, some (.int x_2), some (.int 1), some (.int x_4), some (.int (x_5 + 1)), none, none] [] h2 Q) ∧ (x3 = 0 → ((x_3 = 0 → Wm (d + 1) (0, 0) JX12_heap 106 [some (.ref r_0), none, some (.int x_2), some (.int 0), some (.int x_4), some (.int (x_5 + 1)), none, none] [] h2 Q) ∧ (¬ (x_3 = 0) → Wm (d + 1) (0, 0) JX12_heap 106 [some (.ref r_0), none, some (.int x_2), some (.int 1), some (.int x_4), some (.int (x_5 + 1)), none, none] [] h2 Q))))))) ∧ (¬ (x_2 ≤ x_6) → (∃ r5 : Nat, m_fld h r_0 [11] 16 = some (.ref r5) ∧ (∃ r6 : Nat, m_fld h r_0 [11] 15 = some (.ref r6) ∧ (∃ r7 : Nat, m_fld h r_0 [11] 15 = some (.ref r7) ∧ (∃ x8 : Int32, m_il h r7 ((12 * x_4) + x_6) = some x8 ∧ (∃ x9 : Int32, m_il h r6 ((12 * x_5) + x8) = some x9 ∧ (∃ h10 : mH, m_is h r5 x_6 x9 = some h10 ∧ Wm (d + 1) (0, 0) JX12_heap 137 [some (.ref r_0), none, some (.int x_2), some (.int x_3), some (.int x_4), some (.int x_5), some (.int (x_6 + 1)), none] [] h10 Q))))))))) : Wm (d + 1) (0, 0) JX12_heap 137 [some (.ref r_0), none, some (.int x_2), some (.int x_3), some (.int x_4), some (.int x_5), some (.int x_6), none] [] h Q := by
  refine m_iload dX12_heap_137 rfl ?_
  refine m_iload_n dX12_heap_139 rfl ?_
  refine m_icmp_ge 180 dX12_heap_140 (by decide) (fun c => ?_) (fun c => ?_)
  · replace hF := hF.1 c
    refine m_aload_n dX12_heap_180 rfl ?_
    refine m_iload_n dX12_heap_181 rfl ?_
    obtain ⟨fs4, e, hF⟩ := hF
    refine m_virtual (as := [.int x_2]) (rest := []) cv_X12_168_11 e dX12_heap_182 rfl rfl (Nat.le_of_ble_eq_true rfl) (Nat.le_of_eq (Nat.zero_add _)) (Nat.le_of_eq (Nat.zero_add _)) (b1 := (0, 0)) (b2 := (0, 0)) (Ev.mono hF ?_)
    intro r1 h2 hF
    obtain ⟨x3, rfl, hF⟩ := hF
    refine m_if_ne 192 dX12_heap_185 (by decide) (fun c => ?_) (fun c => ?_)
    · replace hF := hF.1 c
      refine m_iconst dX12_heap_192 ki_1 ?_
      refine m_goto 197 dX12_heap_193 (by decide) ?_
      refine m_istore_n (ls2 := [some (.ref r_0), none, some (.int x_2), some (.int 1), some (.int x_4), some (.int x_5), some (.int x_6), none]) dX12_heap_197 (by decide) rfl ?_
      refine m_iinc (v := x_5 + 1) (ls2 := [some (.ref r_0), none, some (.int x_2), some (.int 1), some (.int x_4), some (.int (x_5 + 1)), some (.int x_6), none]) dX12_heap_198 (by decide) rfl (congrArg (_ + ·) ki_1) rfl ?_
      refine m_goto 106 dX12_heap_201 (by decide) ?_
      refine m_wk [6] rfl ?_
      exact hF
    · replace hF := hF.2 c
      refine m_iload_n dX12_heap_188 rfl ?_
      refine m_if_eq 196 dX12_heap_189 (by decide) (fun c => ?_) (fun c => ?_)
      · replace hF := hF.1 c
        refine m_iconst dX12_heap_196 ki_0 ?_
        refine m_istore_n (ls2 := [some (.ref r_0), none, some (.int x_2), some (.int 0), some (.int x_4), some (.int x_5), some (.int x_6), none]) dX12_heap_197 (by decide) rfl ?_
        refine m_iinc (v := x_5 + 1) (ls2 := [some (.ref r_0), none, some (.int x_2), some (.int 0), some (.int x_4), some (.int (x_5 + 1)), some (.int x_6), none]) dX12_heap_198 (by decide) rfl (congrArg (_ + ·) ki_1) rfl ?_
        refine m_goto 106 dX12_heap_201 (by decide) ?_
        refine m_wk [6] rfl ?_
        exact hF
      · replace hF := hF.2 c
        refine m_iconst dX12_heap_192 ki_1 ?_
        refine m_goto 197 dX12_heap_193 (by decide) ?_
        refine m_istore_n (ls2 := [some (.ref r_0), none, some (.int x_2), some (.int 1), some (.int x_4), some (.int x_5), some (.int x_6), none]) dX12_heap_197 (by decide) rfl ?_
        refine m_iinc (v := x_5 + 1) (ls2 := [some (.ref r_0), none, some (.int x_2), some (.int 1), some (.int x_4), some (.int (x_5 + 1)), some (.int x_6), none]) dX12_heap_198 (by decide) rfl (congrArg (_ + ·) ki_1) rfl ?_
        refine m_goto 106 dX12_heap_201 (by decide) ?_
        refine m_wk [6] rfl ?_
        exact hF
  · replace hF := hF.2 c
    refine m_aload_n dX12_heap_143 rfl ?_
    obtain ⟨r5, e, hF⟩ := hF
    refine m_get fg_X12_53 dX12_heap_144 e ?_
    refine m_iload dX12_heap_147 rfl ?_
    refine m_aload_n dX12_heap_149 rfl ?_
    obtain ⟨r6, e, hF⟩ := hF
    refine m_get fg_X12_50 dX12_heap_150 e ?_
    refine m_bipush dX12_heap_153 kb_12 ?_
    refine m_iload dX12_heap_155 rfl ?_
    refine m_imul dX12_heap_157 ?_
    refine m_aload_n dX12_heap_158 rfl ?_
    obtain ⟨r7, e, hF⟩ := hF
    refine m_get fg_X12_50 dX12_heap_159 e ?_
    refine m_bipush dX12_heap_162 kb_12 ?_
    refine m_iload dX12_heap_164 rfl ?_
    refine m_imul dX12_heap_166 ?_
    refine m_iload dX12_heap_167 rfl ?_
    refine m_iadd dX12_heap_169 ?_
    obtain ⟨x8, e, hF⟩ := hF
    refine m_iald dX12_heap_170 e ?_
    refine m_iadd dX12_heap_171 ?_
    obtain ⟨x9, e, hF⟩ := hF
    refine m_iald dX12_heap_172 e ?_
    obtain ⟨h10, e, hF⟩ := hF
    refine m_iast dX12_heap_173 e ?_
    refine m_iinc (v := x_6 + 1) (ls2 := [some (.ref r_0), none, some (.int x_2), some (.int x_3), some (.int x_4), some (.int x_5), some (.int (x_6 + 1)), none]) dX12_heap_174 (by decide) rfl (congrArg (_ + ·) ki_1) rfl ?_
    refine m_goto 137 dX12_heap_177 (by decide) ?_
    exact hF
theorem en_X12_heap {d : Nat} {r_0 : Nat} {x_1 : Int32} {h : mH} {K : Option Value → mH → Prop} (hk : Wm (d + 1) (0, 0) JX12_heap 0 [some (.ref r_0), some (.int x_1), none, none, none, none, none, none] [] h (fun r h' => h'.1 0 = h.1 0 ∧ K r h')) : Ev (d + 1) (0, 0) MX12_heap [.ref r_0, .int x_1] h K :=
  m_met pn_X12 nl_X12 (fun _ => Nat.le_of_ble_eq_true rfl) hk
theorem bk_X12_told_0 {d : Nat} (r_0 : Nat) (x_1 : Int32) (x_2 : Int32) {h : mH} {Q : Option Value → mH → Prop} (hF : (∃ h1 : mH, m_put h r_0 11 0 (.int 0) = some h1 ∧ Ev d (0, 0) MX12_isPlace [.int x_1] h1 (fun r2 h3 => ∃ x4 : Int32, r2 = some (.int x4) ∧ ((x4 = 0 → Q (some (.int (-1000001))) h3) ∧ (¬ (x4 = 0) → Ev d (0, 0) MX12_in [.long x_2.toInt64, .long 0, .long 5] h3 (fun r5 h6 => ∃ x7 : Int32, r5 = some (.int x7) ∧ ((¬ x7 = 0 → ((x_2 = 3 → Wm (d + 1) (0, 0) JX12_told 44 [some (.ref r_0), some (.int x_1), some (.int x_2), none, none, none, none] [.int 1, .int x_1, .ref r_0] h6 Q) ∧ (¬ (x_2 = 3) → ((¬ x_2 = 4 → Wm (d + 1) (0, 0) JX12_told 44 [some (.ref r_0), some (.int x_1), some (.int x_2), none, none, none, none] [.int 0, .int x_1, .ref r_0] h6 Q) ∧ (x_2 = 4 → Wm (d + 1) (0, 0) JX12_told 44 [some (.ref r_0), some (.int x_1), some (.int x_2), none, none, none, none] [.int 1, .int x_1, .ref r_0] h6 Q))))) ∧ (x7 = 0 → Q (some (.int (-1000001))) h6)))))))) : Wm (d + 1) (0, 0) JX12_told 0 [some (.ref r_0), some (.int x_1), some (.int x_2), none, none, none, none] [] h Q := by
  refine m_aload_n dX12_told_0 rfl ?_
  refine m_iconst dX12_told_1 ki_0 ?_
  obtain ⟨h1, e, hF⟩ := hF
  refine m_putf fp_X12_78_11 dX12_told_2 trivial e ?_
  refine m_iload_n dX12_told_5 rfl ?_
  refine m_static (as := [.int x_1]) (rest := []) cs_X12_120 dX12_told_6 rfl rfl (Nat.le_of_ble_eq_true rfl) (Nat.le_of_eq (Nat.zero_add _)) (Nat.le_of_eq (Nat.zero_add _)) (b1 := (0, 0)) (b2 := (0, 0)) (Ev.mono hF ?_)
  intro r2 h3 hF
  obtain ⟨x4, rfl, hF⟩ := hF
  refine m_if_eq 24 dX12_told_9 (by decide) (fun c => ?_) (fun c => ?_)
  · replace hF := hF.1 c
    refine m_ldc dX12_told_24 kc_X12_98 ?_
    exact m_ireturn dX12_told_26 trivial hF
  · replace hF := hF.2 c
    refine m_iload_n dX12_told_12 rfl ?_
    refine m_i2l dX12_told_13 ?_
    refine m_lconst dX12_told_14 kl_0 ?_
    refine m_ldc2_w dX12_told_15 kc_X12_171 ?_
    refine m_static (as := [.long x_2.toInt64, .long 0, .long 5]) (rest := []) cs_X12_88 dX12_told_18 rfl rfl (Nat.le_of_ble_eq_true rfl) (Nat.le_of_eq (Nat.zero_add _)) (Nat.le_of_eq (Nat.zero_add _)) (b1 := (0, 0)) (b2 := (0, 0)) (Ev.mono hF ?_)
    intro r5 h6 hF
    obtain ⟨x7, rfl, hF⟩ := hF
    refine m_if_ne 27 dX12_told_21 (by decide) (fun c => ?_) (fun c => ?_)
    · replace hF := hF.1 c
      refine m_aload_n dX12_told_27 rfl ?_
      refine m_iload_n dX12_told_28 rfl ?_
      refine m_iload_n dX12_told_29 rfl ?_
      refine m_iconst dX12_told_30 ki_3 ?_
      refine m_icmp_eq 39 dX12_told_31 (by decide) (fun c => ?_) (fun c => ?_)
      · replace hF := hF.1 c
        refine m_iconst dX12_told_39 ki_1 ?_
        refine m_goto 44 dX12_told_40 (by decide) ?_
        exact hF
      · replace hF := hF.2 c
        refine m_iload_n dX12_told_34 rfl ?_
        refine m_iconst dX12_told_35 ki_4 ?_
        refine m_icmp_ne 43 dX12_told_36 (by decide) (fun c => ?_) (fun c => ?_)
        · replace hF := hF.1 c
          refine m_iconst dX12_told_43 ki_0 ?_
          exact hF
        · replace hF := hF.2 c
          refine m_iconst dX12_told_39 ki_1 ?_
          refine m_goto 44 dX12_told_40 (by decide) ?_
          exact hF
    · replace hF := hF.2 c
      refine m_ldc dX12_told_24 kc_X12_98 ?_
      exact m_ireturn dX12_told_26 trivial hF
theorem bk_X12_told_44 {d : Nat} (r_0 : Nat) (x_1 : Int32) (x_2 : Int32) (sx_0 : Int32) (sx_1 : Int32) (sr_2 : Nat) {h : mH} {Q : Option Value → mH → Prop} (hF : (∃ fs20 : List Value, (h).1 sr_2 = .inr (11, fs20) ∧ Ev d (0, 0) MX12_look [.ref sr_2, .int sx_1, .int sx_0] h (fun r1 h2 => ∃ x3 : Int32, r1 = some (.int x3) ∧ ((0 ≤ x3 → (∃ r4 : Nat, m_fld h2 r_0 [11] 5 = some (.ref r4) ∧ (∃ x5 : Int32, m_il h2 r4 x_1 = some x5 ∧ ((¬ x_2 = 3 → ((¬ x_2 = 0 → ((¬ x_2 = 1 → ((¬ x_2 = 2 → ((¬ x_2 = 4 → (∃ fs9 : List Value, (h2).1 r_0 = .inr (11, fs9) ∧ Ev d (0, 0) MX12_heap [.ref r_0, .int x_1] h2 (fun r6 h7 => ∃ x8 : Int32, r6 = some (.int x8) ∧ Q (some (.int x8)) h7))) ∧ (x_2 = 4 → (∃ fs13 : List Value, (h2).1 r_0 = .inr (11, fs13) ∧ Ev d (0, 0) MX12_least [.ref r_0, .int 10, .int x_1] h2 (fun r10 h11 => ∃ x12 : Int32, r10 = some (.int x12) ∧ Q (some (.int x12)) h11))))) ∧ (x_2 = 2 → (∃ fs17 : List Value, (h2).1 r_0 = .inr (11, fs17) ∧ Ev d (0, 0) MX12_parts [.ref r_0, .int x_1] h2 (fun r14 h15 => ∃ x16 : Int32, r14 = some (.int x16) ∧ Q (some (.int x16)) h15))))) ∧ (x_2 = 1 → (∃ r18 : Nat, m_fld h2 r_0 [11] 6 = some (.ref r18) ∧ (∃ x19 : Int32, m_il h2 r18 x_1 = some x19 ∧ Q (some (.int x19)) h2))))) ∧ (x_2 = 0 → Q (some (.int x5)) h2))) ∧ (x_2 = 3 → Wm (d + 1) (0, 0) JX12_told 78 [some (.ref r_0), some (.int x_1), none, none, some (.int x5), some (.int (2 - (2 * x5))), some (.int 0)] [] h2 Q))))) ∧ (¬ (0 ≤ x3) → Q (some (.int x3)) h2))))) : Wm (d + 1) (0, 0) JX12_told 44 [some (.ref r_0), some (.int x_1), some (.int x_2), none, none, none, none] [.int sx_0, .int sx_1, .ref sr_2] h Q := by
  obtain ⟨fs20, e, hF⟩ := hF
  refine m_virtual (as := [.int sx_1, .int sx_0]) (rest := []) cv_X12_137_11 e dX12_told_44 rfl rfl (Nat.le_of_ble_eq_true rfl) (Nat.le_of_eq (Nat.zero_add _)) (Nat.le_of_eq (Nat.zero_add _)) (b1 := (0, 0)) (b2 := (0, 0)) (Ev.mono hF ?_)
  intro r1 h2 hF
  obtain ⟨x3, rfl, hF⟩ := hF
  refine m_istore_n (ls2 := [some (.ref r_0), some (.int x_1), some (.int x_2), some (.int x3), none, none, none]) dX12_told_47 (by decide) rfl ?_
  refine m_iload_n dX12_told_48 rfl ?_
  refine m_if_ge 54 dX12_told_49 (by decide) (fun c => ?_) (fun c => ?_)
  · replace hF := hF.1 c
    refine m_aload_n dX12_told_54 rfl ?_
    obtain ⟨r4, e, hF⟩ := hF
    refine m_get fg_X12_19 dX12_told_55 e ?_
    refine m_iload_n dX12_told_58 rfl ?_
    obtain ⟨x5, e, hF⟩ := hF
    refine m_iald dX12_told_59 e ?_
    refine m_istore (ls2 := [some (.ref r_0), some (.int x_1), some (.int x_2), some (.int x3), some (.int x5), none, none]) dX12_told_60 (by decide) rfl ?_
    refine m_iload_n dX12_told_62 rfl ?_
    refine m_iconst dX12_told_63 ki_3 ?_
    refine m_icmp_ne 115 dX12_told_64 (by decide) (fun c => ?_) (fun c => ?_)
    · replace hF := hF.1 c
      refine m_iload_n dX12_told_115 rfl ?_
      refine m_if_ne 124 dX12_told_116 (by decide) (fun c => ?_) (fun c => ?_)
      · replace hF := hF.1 c
        refine m_iload_n dX12_told_124 rfl ?_
        refine m_iconst dX12_told_125 ki_1 ?_
        refine m_icmp_ne 138 dX12_told_126 (by decide) (fun c => ?_) (fun c => ?_)
        · replace hF := hF.1 c
          refine m_iload_n dX12_told_138 rfl ?_
          refine m_iconst dX12_told_139 ki_2 ?_
          refine m_icmp_ne 151 dX12_told_140 (by decide) (fun c => ?_) (fun c => ?_)
          · replace hF := hF.1 c
            refine m_iload_n dX12_told_151 rfl ?_
            refine m_iconst dX12_told_152 ki_4 ?_
            refine m_icmp_ne 166 dX12_told_153 (by decide) (fun c => ?_) (fun c => ?_)
            · replace hF := hF.1 c
              refine m_aload_n dX12_told_166 rfl ?_
              refine m_iload_n dX12_told_167 rfl ?_
              obtain ⟨fs9, e, hF⟩ := hF
              refine m_virtual (as := [.int x_1]) (rest := []) cv_X12_173_11 e dX12_told_168 rfl rfl (Nat.le_of_ble_eq_true rfl) (Nat.le_of_eq (Nat.zero_add _)) (Nat.le_of_eq (Nat.zero_add _)) (b1 := (0, 0)) (b2 := (0, 0)) (Ev.mono hF ?_)
              intro r6 h7 hF
              obtain ⟨x8, rfl, hF⟩ := hF
              exact m_ireturn dX12_told_171 trivial hF
            · replace hF := hF.2 c
              refine m_aload_n dX12_told_156 rfl ?_
              refine m_bipush dX12_told_157 kb_10 ?_
              refine m_iload_n dX12_told_159 rfl ?_
              obtain ⟨fs13, e, hF⟩ := hF
              refine m_virtual (as := [.int 10, .int x_1]) (rest := []) cv_X12_148_11 e dX12_told_160 rfl rfl (Nat.le_of_ble_eq_true rfl) (Nat.le_of_eq (Nat.zero_add _)) (Nat.le_of_eq (Nat.zero_add _)) (b1 := (0, 0)) (b2 := (0, 0)) (Ev.mono hF ?_)
              intro r10 h11 hF
              obtain ⟨x12, rfl, hF⟩ := hF
              refine m_goto 171 dX12_told_163 (by decide) ?_
              exact m_ireturn dX12_told_171 trivial hF
          · replace hF := hF.2 c
            refine m_aload_n dX12_told_143 rfl ?_
            refine m_iload_n dX12_told_144 rfl ?_
            obtain ⟨fs17, e, hF⟩ := hF
            refine m_virtual (as := [.int x_1]) (rest := []) cv_X12_134_11 e dX12_told_145 rfl rfl (Nat.le_of_ble_eq_true rfl) (Nat.le_of_eq (Nat.zero_add _)) (Nat.le_of_eq (Nat.zero_add _)) (b1 := (0, 0)) (b2 := (0, 0)) (Ev.mono hF ?_)
            intro r14 h15 hF
            obtain ⟨x16, rfl, hF⟩ := hF
            refine m_goto 171 dX12_told_148 (by decide) ?_
            exact m_ireturn dX12_told_171 trivial hF
        · replace hF := hF.2 c
          refine m_aload_n dX12_told_129 rfl ?_
          obtain ⟨r18, e, hF⟩ := hF
          refine m_get fg_X12_22 dX12_told_130 e ?_
          refine m_iload_n dX12_told_133 rfl ?_
          obtain ⟨x19, e, hF⟩ := hF
          refine m_iald dX12_told_134 e ?_
          refine m_goto 171 dX12_told_135 (by decide) ?_
          exact m_ireturn dX12_told_171 trivial hF
      · replace hF := hF.2 c
        refine m_iload dX12_told_119 rfl ?_
        refine m_goto 171 dX12_told_121 (by decide) ?_
        exact m_ireturn dX12_told_171 trivial hF
    · replace hF := hF.2 c
      refine m_iconst dX12_told_67 ki_2 ?_
      refine m_iconst dX12_told_68 ki_2 ?_
      refine m_iload dX12_told_69 rfl ?_
      refine m_imul dX12_told_71 ?_
      refine m_isub dX12_told_72 ?_
      refine m_istore (ls2 := [some (.ref r_0), some (.int x_1), some (.int x_2), some (.int x3), some (.int x5), some (.int (2 - (2 * x5))), none]) dX12_told_73 (by decide) rfl ?_
      refine m_iconst dX12_told_75 ki_0 ?_
      refine m_istore (ls2 := [some (.ref r_0), some (.int x_1), some (.int x_2), some (.int x3), some (.int x5), some (.int (2 - (2 * x5))), some (.int 0)]) dX12_told_76 (by decide) rfl ?_
      refine m_wk [2, 3] rfl ?_
      exact hF
  · replace hF := hF.2 c
    refine m_iload_n dX12_told_52 rfl ?_
    exact m_ireturn dX12_told_53 trivial hF
theorem bk_X12_told_78 {d : Nat} (r_0 : Nat) (x_1 : Int32) (x_4 : Int32) (x_5 : Int32) (x_6 : Int32) {h : mH} {Q : Option Value → mH → Prop} (hF : (∃ r1 : Nat, m_fld h r_0 [11] 6 = some (.ref r1) ∧ (∃ x2 : Int32, m_il h r1 x_1 = some x2 ∧ ((x2 ≤ x_6 → Q (some (.int (x_5 / 2))) h) ∧ (¬ (x2 ≤ x_6) → (∃ fs6 : List Value, (h).1 r_0 = .inr (11, fs6) ∧ Ev d (0, 0) MX12_rounds [.ref r_0, .int x_1, .int x_6] h (fun r3 h4 => ∃ x5 : Int32, r3 = some (.int x5) ∧ Wm (d + 1) (0, 0) JX12_told 78 [some (.ref r_0), some (.int x_1), none, none, some (.int x_4), some (.int (x_5 + (x_4 - x5))), some (.int (x_6 + 1))] [] h4 Q))))))) : Wm (d + 1) (0, 0) JX12_told 78 [some (.ref r_0), some (.int x_1), none, none, some (.int x_4), some (.int x_5), some (.int x_6)] [] h Q := by
  refine m_iload dX12_told_78 rfl ?_
  refine m_aload_n dX12_told_80 rfl ?_
  obtain ⟨r1, e, hF⟩ := hF
  refine m_get fg_X12_22 dX12_told_81 e ?_
  refine m_iload_n dX12_told_84 rfl ?_
  obtain ⟨x2, e, hF⟩ := hF
  refine m_iald dX12_told_85 e ?_
  refine m_icmp_ge 110 dX12_told_86 (by decide) (fun c => ?_) (fun c => ?_)
  · replace hF := hF.1 c
    refine m_iload dX12_told_110 rfl ?_
    refine m_iconst dX12_told_112 ki_2 ?_
    refine m_idiv dX12_told_113 (by decide) ?_
    exact m_ireturn dX12_told_114 trivial hF
  · replace hF := hF.2 c
    refine m_iload dX12_told_89 rfl ?_
    refine m_iload dX12_told_91 rfl ?_
    refine m_aload_n dX12_told_93 rfl ?_
    refine m_iload_n dX12_told_94 rfl ?_
    refine m_iload dX12_told_95 rfl ?_
    obtain ⟨fs6, e, hF⟩ := hF
    refine m_virtual (as := [.int x_1, .int x_6]) (rest := [.int x_4, .int x_5]) cv_X12_109_11 e dX12_told_97 rfl rfl (Nat.le_of_ble_eq_true rfl) (Nat.le_of_eq (Nat.zero_add _)) (Nat.le_of_eq (Nat.zero_add _)) (b1 := (0, 0)) (b2 := (0, 0)) (Ev.mono hF ?_)
    intro r3 h4 hF
    obtain ⟨x5, rfl, hF⟩ := hF
    refine m_isub dX12_told_100 ?_
    refine m_iadd dX12_told_101 ?_
    refine m_istore (ls2 := [some (.ref r_0), some (.int x_1), none, none, some (.int x_4), some (.int (x_5 + (x_4 - x5))), some (.int x_6)]) dX12_told_102 (by decide) rfl ?_
    refine m_iinc (v := x_6 + 1) (ls2 := [some (.ref r_0), some (.int x_1), none, none, some (.int x_4), some (.int (x_5 + (x_4 - x5))), some (.int (x_6 + 1))]) dX12_told_104 (by decide) rfl (congrArg (_ + ·) ki_1) rfl ?_
    refine m_goto 78 dX12_told_107 (by decide) ?_
    exact hF
theorem en_X12_told {d : Nat} {r_0 : Nat} {x_1 : Int32} {x_2 : Int32} {h : mH} {K : Option Value → mH → Prop} (hk : Wm (d + 1) (0, 0) JX12_told 0 [some (.ref r_0), some (.int x_1), some (.int x_2), none, none, none, none] [] h (fun r h' => h'.1 0 = h.1 0 ∧ K r h')) : Ev (d + 1) (0, 0) MX12_told [.ref r_0, .int x_1, .int x_2] h K :=
  m_met pn_X12 nl_X12 (fun _ => Nat.le_of_ble_eq_true rfl) hk
theorem bk_X12_leads_0 {d : Nat} (r_0 : Nat) (x_1 : Int32) (x_2 : Int32) (x_3 : Int32) {h : mH} {Q : Option Value → mH → Prop} (hF : (∃ h1 : mH, m_put h r_0 11 0 (.int 0) = some h1 ∧ Ev d (0, 0) MX12_isPlace [.int x_1] h1 (fun r2 h3 => ∃ x4 : Int32, r2 = some (.int x4) ∧ ((¬ x4 = 0 → (∃ x5 : Int32, m_fld h3 r_0 [11] 1 = some (.int x5) ∧ (∃ fs24 : List Value, (h3).1 r_0 = .inr (11, fs24) ∧ Ev d (0, 0) MX12_look [.ref r_0, .int x_1, .int 0] h3 (fun r6 h7 => ∃ x8 : Int32, r6 = some (.int x8) ∧ ((0 ≤ x8 → (∃ r9 : Nat, m_fld h7 r_0 [11] 6 = some (.ref r9) ∧ (∃ x10 : Int32, m_il h7 r9 x_1 = some x10 ∧ Ev d (0, 0) MX12_in [.long x_2.toInt64, .long 0, .long ((x10 - 1).toInt64)] h7 (fun r11 h12 => ∃ x13 : Int32, r11 = some (.int x13) ∧ ((x13 = 0 → (∃ h14 : mH, m_put h12 r_0 11 1 (.int x5) = some h14 ∧ Q (some (.int (-1000001))) h14)) ∧ (¬ (x13 = 0) → (∃ fs23 : List Value, (h12).1 r_0 = .inr (11, fs23) ∧ Ev d (0, 0) MX12_isSheet [.ref r_0, .int x_1, .int x_3] h12 (fun r15 h16 => ∃ x17 : Int32, r15 = some (.int x17) ∧ ((¬ x17 = 0 → (∃ fs21 : List Value, (h16).1 r_0 = .inr (11, fs21) ∧ Ev d (0, 0) MX12_at [.ref r_0, .int x_1, .int x_2, .int x_3] h16 (fun r18 h19 => ∃ x20 : Int32, r18 = some (.int x20) ∧ Q (some (.int x20)) h19))) ∧ (x17 = 0 → (∃ h22 : mH, m_put h16 r_0 11 1 (.int x5) = some h22 ∧ Q (some (.int (-1000001))) h22))))))))))) ∧ (¬ (0 ≤ x8) → Q (some (.int x8)) h7)))))) ∧ (x4 = 0 → Q (some (.int (-1000001))) h3))))) : Wm (d + 1) (0, 0) JX12_leads 0 [some (.ref r_0), some (.int x_1), some (.int x_2), some (.int x_3), none, none] [] h Q := by
  refine m_aload_n dX12_leads_0 rfl ?_
  refine m_iconst dX12_leads_1 ki_0 ?_
  obtain ⟨h1, e, hF⟩ := hF
  refine m_putf fp_X12_78_11 dX12_leads_2 trivial e ?_
  refine m_iload_n dX12_leads_5 rfl ?_
  refine m_static (as := [.int x_1]) (rest := []) cs_X12_120 dX12_leads_6 rfl rfl (Nat.le_of_ble_eq_true rfl) (Nat.le_of_eq (Nat.zero_add _)) (Nat.le_of_eq (Nat.zero_add _)) (b1 := (0, 0)) (b2 := (0, 0)) (Ev.mono hF ?_)
  intro r2 h3 hF
  obtain ⟨x4, rfl, hF⟩ := hF
  refine m_if_ne 15 dX12_leads_9 (by decide) (fun c => ?_) (fun c => ?_)
  · replace hF := hF.1 c
    refine m_aload_n dX12_leads_15 rfl ?_
    obtain ⟨x5, e, hF⟩ := hF
    refine m_get fg_X12_82 dX12_leads_16 e ?_
    refine m_istore (ls2 := [some (.ref r_0), some (.int x_1), some (.int x_2), some (.int x_3), some (.int x5), none]) dX12_leads_19 (by decide) rfl ?_
    refine m_aload_n dX12_leads_21 rfl ?_
    refine m_iload_n dX12_leads_22 rfl ?_
    refine m_iconst dX12_leads_23 ki_0 ?_
    obtain ⟨fs24, e, hF⟩ := hF
    refine m_virtual (as := [.int x_1, .int 0]) (rest := []) cv_X12_137_11 e dX12_leads_24 rfl rfl (Nat.le_of_ble_eq_true rfl) (Nat.le_of_eq (Nat.zero_add _)) (Nat.le_of_eq (Nat.zero_add _)) (b1 := (0, 0)) (b2 := (0, 0)) (Ev.mono hF ?_)
    intro r6 h7 hF
    obtain ⟨x8, rfl, hF⟩ := hF
    refine m_istore (ls2 := [some (.ref r_0), some (.int x_1), some (.int x_2), some (.int x_3), some (.int x5), some (.int x8)]) dX12_leads_27 (by decide) rfl ?_
    refine m_iload dX12_leads_29 rfl ?_
    refine m_if_ge 37 dX12_leads_31 (by decide) (fun c => ?_) (fun c => ?_)
    · replace hF := hF.1 c
      refine m_iload_n dX12_leads_37 rfl ?_
      refine m_i2l dX12_leads_38 ?_
      refine m_lconst dX12_leads_39 kl_0 ?_
      refine m_aload_n dX12_leads_40 rfl ?_
      obtain ⟨r9, e, hF⟩ := hF
      refine m_get fg_X12_22 dX12_leads_41 e ?_
      refine m_iload_n dX12_leads_44 rfl ?_
      obtain ⟨x10, e, hF⟩ := hF
      refine m_iald dX12_leads_45 e ?_
      refine m_iconst dX12_leads_46 ki_1 ?_
      refine m_isub dX12_leads_47 ?_
      refine m_i2l dX12_leads_48 ?_
      refine m_static (as := [.long x_2.toInt64, .long 0, .long ((x10 - 1).toInt64)]) (rest := []) cs_X12_88 dX12_leads_49 rfl rfl (Nat.le_of_ble_eq_true rfl) (Nat.le_of_eq (Nat.zero_add _)) (Nat.le_of_eq (Nat.zero_add _)) (b1 := (0, 0)) (b2 := (0, 0)) (Ev.mono hF ?_)
      intro r11 h12 hF
      obtain ⟨x13, rfl, hF⟩ := hF
      refine m_if_eq 64 dX12_leads_52 (by decide) (fun c => ?_) (fun c => ?_)
      · replace hF := hF.1 c
        refine m_aload_n dX12_leads_64 rfl ?_
        refine m_iload dX12_leads_65 rfl ?_
        obtain ⟨h14, e, hF⟩ := hF
        refine m_putf fp_X12_82_11 dX12_leads_67 trivial e ?_
        refine m_ldc dX12_leads_70 kc_X12_98 ?_
        exact m_ireturn dX12_leads_72 trivial hF
      · replace hF := hF.2 c
        refine m_aload_n dX12_leads_55 rfl ?_
        refine m_iload_n dX12_leads_56 rfl ?_
        refine m_iload_n dX12_leads_57 rfl ?_
        obtain ⟨fs23, e, hF⟩ := hF
        refine m_virtual (as := [.int x_1, .int x_3]) (rest := []) cv_X12_154_11 e dX12_leads_58 rfl rfl (Nat.le_of_ble_eq_true rfl) (Nat.le_of_eq (Nat.zero_add _)) (Nat.le_of_eq (Nat.zero_add _)) (b1 := (0, 0)) (b2 := (0, 0)) (Ev.mono hF ?_)
        intro r15 h16 hF
        obtain ⟨x17, rfl, hF⟩ := hF
        refine m_if_ne 73 dX12_leads_61 (by decide) (fun c => ?_) (fun c => ?_)
        · replace hF := hF.1 c
          refine m_aload_n dX12_leads_73 rfl ?_
          refine m_iload_n dX12_leads_74 rfl ?_
          refine m_iload_n dX12_leads_75 rfl ?_
          refine m_iload_n dX12_leads_76 rfl ?_
          obtain ⟨fs21, e, hF⟩ := hF
          refine m_virtual (as := [.int x_1, .int x_2, .int x_3]) (rest := []) cv_X12_105_11 e dX12_leads_77 rfl rfl (Nat.le_of_ble_eq_true rfl) (Nat.le_of_eq (Nat.zero_add _)) (Nat.le_of_eq (Nat.zero_add _)) (b1 := (0, 0)) (b2 := (0, 0)) (Ev.mono hF ?_)
          intro r18 h19 hF
          obtain ⟨x20, rfl, hF⟩ := hF
          exact m_ireturn dX12_leads_80 trivial hF
        · replace hF := hF.2 c
          refine m_aload_n dX12_leads_64 rfl ?_
          refine m_iload dX12_leads_65 rfl ?_
          obtain ⟨h22, e, hF⟩ := hF
          refine m_putf fp_X12_82_11 dX12_leads_67 trivial e ?_
          refine m_ldc dX12_leads_70 kc_X12_98 ?_
          exact m_ireturn dX12_leads_72 trivial hF
    · replace hF := hF.2 c
      refine m_iload dX12_leads_34 rfl ?_
      exact m_ireturn dX12_leads_36 trivial hF
  · replace hF := hF.2 c
    refine m_ldc dX12_leads_12 kc_X12_98 ?_
    exact m_ireturn dX12_leads_14 trivial hF
theorem en_X12_leads {d : Nat} {r_0 : Nat} {x_1 : Int32} {x_2 : Int32} {x_3 : Int32} {h : mH} {K : Option Value → mH → Prop} (hk : Wm (d + 1) (0, 0) JX12_leads 0 [some (.ref r_0), some (.int x_1), some (.int x_2), some (.int x_3), none, none] [] h (fun r h' => h'.1 0 = h.1 0 ∧ K r h')) : Ev (d + 1) (0, 0) MX12_leads [.ref r_0, .int x_1, .int x_2, .int x_3] h K :=
  m_met pn_X12 nl_X12 (fun _ => Nat.le_of_ble_eq_true rfl) hk
theorem bk_X12_shape_0 {d : Nat} (r_0 : Nat) (x_1 : Int32) (x_2 : Int32) (x_3 : Int32) {h : mH} {Q : Option Value → mH → Prop} (hF : (∃ h1 : mH, m_put h r_0 11 0 (.int 0) = some h1 ∧ Ev d (0, 0) MX12_isPlace [.int x_1] h1 (fun r2 h3 => ∃ x4 : Int32, r2 = some (.int x4) ∧ ((¬ x4 = 0 → (∃ x5 : Int32, m_fld h3 r_0 [11] 1 = some (.int x5) ∧ (∃ fs24 : List Value, (h3).1 r_0 = .inr (11, fs24) ∧ Ev d (0, 0) MX12_look [.ref r_0, .int x_1, .int 0] h3 (fun r6 h7 => ∃ x8 : Int32, r6 = some (.int x8) ∧ ((0 ≤ x8 → (∃ r9 : Nat, m_fld h7 r_0 [11] 6 = some (.ref r9) ∧ (∃ x10 : Int32, m_il h7 r9 x_1 = some x10 ∧ Ev d (0, 0) MX12_in [.long x_2.toInt64, .long 0, .long ((x10 - 1).toInt64)] h7 (fun r11 h12 => ∃ x13 : Int32, r11 = some (.int x13) ∧ ((¬ x13 = 0 → (∃ fs22 : List Value, (h12).1 r_0 = .inr (11, fs22) ∧ Ev d (0, 0) MX12_rounds [.ref r_0, .int x_1, .int x_2] h12 (fun r14 h15 => ∃ x16 : Int32, r14 = some (.int x16) ∧ Ev d (0, 0) MX12_in [.long x_3.toInt64, .long 0, .long ((x16 - 1).toInt64)] h15 (fun r17 h18 => ∃ x19 : Int32, r17 = some (.int x19) ∧ ((x19 = 0 → Q (some (.int (-1000000))) h18) ∧ (¬ (x19 = 0) → (∃ r20 : Nat, m_fld h18 r_0 [11] 9 = some (.ref r20) ∧ (∃ x21 : Int32, m_il h18 r20 x_3 = some x21 ∧ Q (some (.int x21)) h18)))))))) ∧ (x13 = 0 → (∃ h23 : mH, m_put h12 r_0 11 1 (.int x5) = some h23 ∧ Q (some (.int (-1000001))) h23))))))) ∧ (¬ (0 ≤ x8) → Q (some (.int x8)) h7)))))) ∧ (x4 = 0 → Q (some (.int (-1000001))) h3))))) : Wm (d + 1) (0, 0) JX12_shape 0 [some (.ref r_0), some (.int x_1), some (.int x_2), some (.int x_3), none, none, none] [] h Q := by
  refine m_aload_n dX12_shape_0 rfl ?_
  refine m_iconst dX12_shape_1 ki_0 ?_
  obtain ⟨h1, e, hF⟩ := hF
  refine m_putf fp_X12_78_11 dX12_shape_2 trivial e ?_
  refine m_iload_n dX12_shape_5 rfl ?_
  refine m_static (as := [.int x_1]) (rest := []) cs_X12_120 dX12_shape_6 rfl rfl (Nat.le_of_ble_eq_true rfl) (Nat.le_of_eq (Nat.zero_add _)) (Nat.le_of_eq (Nat.zero_add _)) (b1 := (0, 0)) (b2 := (0, 0)) (Ev.mono hF ?_)
  intro r2 h3 hF
  obtain ⟨x4, rfl, hF⟩ := hF
  refine m_if_ne 15 dX12_shape_9 (by decide) (fun c => ?_) (fun c => ?_)
  · replace hF := hF.1 c
    refine m_aload_n dX12_shape_15 rfl ?_
    obtain ⟨x5, e, hF⟩ := hF
    refine m_get fg_X12_82 dX12_shape_16 e ?_
    refine m_istore (ls2 := [some (.ref r_0), some (.int x_1), some (.int x_2), some (.int x_3), some (.int x5), none, none]) dX12_shape_19 (by decide) rfl ?_
    refine m_aload_n dX12_shape_21 rfl ?_
    refine m_iload_n dX12_shape_22 rfl ?_
    refine m_iconst dX12_shape_23 ki_0 ?_
    obtain ⟨fs24, e, hF⟩ := hF
    refine m_virtual (as := [.int x_1, .int 0]) (rest := []) cv_X12_137_11 e dX12_shape_24 rfl rfl (Nat.le_of_ble_eq_true rfl) (Nat.le_of_eq (Nat.zero_add _)) (Nat.le_of_eq (Nat.zero_add _)) (b1 := (0, 0)) (b2 := (0, 0)) (Ev.mono hF ?_)
    intro r6 h7 hF
    obtain ⟨x8, rfl, hF⟩ := hF
    refine m_istore (ls2 := [some (.ref r_0), some (.int x_1), some (.int x_2), some (.int x_3), some (.int x5), some (.int x8), none]) dX12_shape_27 (by decide) rfl ?_
    refine m_iload dX12_shape_29 rfl ?_
    refine m_if_ge 37 dX12_shape_31 (by decide) (fun c => ?_) (fun c => ?_)
    · replace hF := hF.1 c
      refine m_iload_n dX12_shape_37 rfl ?_
      refine m_i2l dX12_shape_38 ?_
      refine m_lconst dX12_shape_39 kl_0 ?_
      refine m_aload_n dX12_shape_40 rfl ?_
      obtain ⟨r9, e, hF⟩ := hF
      refine m_get fg_X12_22 dX12_shape_41 e ?_
      refine m_iload_n dX12_shape_44 rfl ?_
      obtain ⟨x10, e, hF⟩ := hF
      refine m_iald dX12_shape_45 e ?_
      refine m_iconst dX12_shape_46 ki_1 ?_
      refine m_isub dX12_shape_47 ?_
      refine m_i2l dX12_shape_48 ?_
      refine m_static (as := [.long x_2.toInt64, .long 0, .long ((x10 - 1).toInt64)]) (rest := []) cs_X12_88 dX12_shape_49 rfl rfl (Nat.le_of_ble_eq_true rfl) (Nat.le_of_eq (Nat.zero_add _)) (Nat.le_of_eq (Nat.zero_add _)) (b1 := (0, 0)) (b2 := (0, 0)) (Ev.mono hF ?_)
      intro r11 h12 hF
      obtain ⟨x13, rfl, hF⟩ := hF
      refine m_if_ne 64 dX12_shape_52 (by decide) (fun c => ?_) (fun c => ?_)
      · replace hF := hF.1 c
        refine m_aload_n dX12_shape_64 rfl ?_
        refine m_iload_n dX12_shape_65 rfl ?_
        refine m_iload_n dX12_shape_66 rfl ?_
        obtain ⟨fs22, e, hF⟩ := hF
        refine m_virtual (as := [.int x_1, .int x_2]) (rest := []) cv_X12_109_11 e dX12_shape_67 rfl rfl (Nat.le_of_ble_eq_true rfl) (Nat.le_of_eq (Nat.zero_add _)) (Nat.le_of_eq (Nat.zero_add _)) (b1 := (0, 0)) (b2 := (0, 0)) (Ev.mono hF ?_)
        intro r14 h15 hF
        obtain ⟨x16, rfl, hF⟩ := hF
        refine m_istore (ls2 := [some (.ref r_0), some (.int x_1), some (.int x_2), some (.int x_3), some (.int x5), some (.int x8), some (.int x16)]) dX12_shape_70 (by decide) rfl ?_
        refine m_iload_n dX12_shape_72 rfl ?_
        refine m_i2l dX12_shape_73 ?_
        refine m_lconst dX12_shape_74 kl_0 ?_
        refine m_iload dX12_shape_75 rfl ?_
        refine m_iconst dX12_shape_77 ki_1 ?_
        refine m_isub dX12_shape_78 ?_
        refine m_i2l dX12_shape_79 ?_
        refine m_static (as := [.long x_3.toInt64, .long 0, .long ((x16 - 1).toInt64)]) (rest := []) cs_X12_88 dX12_shape_80 rfl rfl (Nat.le_of_ble_eq_true rfl) (Nat.le_of_eq (Nat.zero_add _)) (Nat.le_of_eq (Nat.zero_add _)) (b1 := (0, 0)) (b2 := (0, 0)) (Ev.mono hF ?_)
        intro r17 h18 hF
        obtain ⟨x19, rfl, hF⟩ := hF
        refine m_if_eq 95 dX12_shape_83 (by decide) (fun c => ?_) (fun c => ?_)
        · replace hF := hF.1 c
          refine m_ldc dX12_shape_95 kc_X12_176 ?_
          exact m_ireturn dX12_shape_97 trivial hF
        · replace hF := hF.2 c
          refine m_aload_n dX12_shape_86 rfl ?_
          obtain ⟨r20, e, hF⟩ := hF
          refine m_get fg_X12_32 dX12_shape_87 e ?_
          refine m_iload_n dX12_shape_90 rfl ?_
          obtain ⟨x21, e, hF⟩ := hF
          refine m_iald dX12_shape_91 e ?_
          refine m_goto 97 dX12_shape_92 (by decide) ?_
          exact m_ireturn dX12_shape_97 trivial hF
      · replace hF := hF.2 c
        refine m_aload_n dX12_shape_55 rfl ?_
        refine m_iload dX12_shape_56 rfl ?_
        obtain ⟨h23, e, hF⟩ := hF
        refine m_putf fp_X12_82_11 dX12_shape_58 trivial e ?_
        refine m_ldc dX12_shape_61 kc_X12_98 ?_
        exact m_ireturn dX12_shape_63 trivial hF
    · replace hF := hF.2 c
      refine m_iload dX12_shape_34 rfl ?_
      exact m_ireturn dX12_shape_36 trivial hF
  · replace hF := hF.2 c
    refine m_ldc dX12_shape_12 kc_X12_98 ?_
    exact m_ireturn dX12_shape_14 trivial hF
theorem en_X12_shape {d : Nat} {r_0 : Nat} {x_1 : Int32} {x_2 : Int32} {x_3 : Int32} {h : mH} {K : Option Value → mH → Prop} (hk : Wm (d + 1) (0, 0) JX12_shape 0 [some (.ref r_0), some (.int x_1), some (.int x_2), some (.int x_3), none, none, none] [] h (fun r h' => h'.1 0 = h.1 0 ∧ K r h')) : Ev (d + 1) (0, 0) MX12_shape [.ref r_0, .int x_1, .int x_2, .int x_3] h K :=
  m_met pn_X12 nl_X12 (fun _ => Nat.le_of_ble_eq_true rfl) hk
theorem bk_X12_block_0 {d : Nat} (r_0 : Nat) (x_1 : Int32) (x_2 : Int32) (x_3 : Int32) (x_4 : Int32) {h : mH} {Q : Option Value → mH → Prop} (hF : (∃ h1 : mH, m_put h r_0 11 0 (.int 0) = some h1 ∧ Ev d (0, 0) MX12_isPlace [.int x_1] h1 (fun r2 h3 => ∃ x4 : Int32, r2 = some (.int x4) ∧ ((¬ x4 = 0 → (∃ x5 : Int32, m_fld h3 r_0 [11] 1 = some (.int x5) ∧ (∃ fs36 : List Value, (h3).1 r_0 = .inr (11, fs36) ∧ Ev d (0, 0) MX12_look [.ref r_0, .int x_1, .int 1] h3 (fun r6 h7 => ∃ x8 : Int32, r6 = some (.int x8) ∧ ((0 ≤ x8 → (∃ fs35 : List Value, (h7).1 r_0 = .inr (11, fs35) ∧ Ev d (0, 0) MX12_isSheet [.ref r_0, .int x_1, .int x_2] h7 (fun r9 h10 => ∃ x11 : Int32, r9 = some (.int x11) ∧ ((x11 = 0 → (∃ h12 : mH, m_put h10 r_0 11 1 (.int x5) = some h12 ∧ Q (some (.int (-1000001))) h12)) ∧ (¬ (x11 = 0) → (∃ fs34 : List Value, (h10).1 r_0 = .inr (11, fs34) ∧ Ev d (0, 0) MX12_isSheet [.ref r_0, .int x_1, .int x_3] h10 (fun r13 h14 => ∃ x15 : Int32, r13 = some (.int x15) ∧ ((x15 = 0 → (∃ h16 : mH, m_put h14 r_0 11 1 (.int x5) = some h16 ∧ Q (some (.int (-1000001))) h16)) ∧ (¬ (x15 = 0) → ((x_4 = (-1) → (∃ fs22 : List Value, (h14).1 r_0 = .inr (11, fs22) ∧ Ev d (0, 0) MX12_blocks [.ref r_0, .int x_1, .int x_2, .int x_3] h14 (fun r17 h18 => ∃ x19 : Int32, r17 = some (.int x19) ∧ ((¬ x_4 = (-1) → (∃ r20 : Nat, m_fld h18 r_0 [11] 13 = some (.ref r20) ∧ (∃ x21 : Int32, m_il h18 r20 x_4 = some x21 ∧ Q (some (.int x21)) h18))) ∧ (x_4 = (-1) → Q (some (.int x19)) h18))))) ∧ (¬ (x_4 = (-1)) → (∃ fs33 : List Value, (h14).1 r_0 = .inr (11, fs33) ∧ Ev d (0, 0) MX12_isSheet [.ref r_0, .int x_1, .int x_4] h14 (fun r23 h24 => ∃ x25 : Int32, r23 = some (.int x25) ∧ ((¬ x25 = 0 → (∃ fs31 : List Value, (h24).1 r_0 = .inr (11, fs31) ∧ Ev d (0, 0) MX12_blocks [.ref r_0, .int x_1, .int x_2, .int x_3] h24 (fun r26 h27 => ∃ x28 : Int32, r26 = some (.int x28) ∧ ((¬ x_4 = (-1) → (∃ r29 : Nat, m_fld h27 r_0 [11] 13 = some (.ref r29) ∧ (∃ x30 : Int32, m_il h27 r29 x_4 = some x30 ∧ Q (some (.int x30)) h27))) ∧ (x_4 = (-1) → Q (some (.int x28)) h27))))) ∧ (x25 = 0 → (∃ h32 : mH, m_put h24 r_0 11 1 (.int x5) = some h32 ∧ Q (some (.int (-1000001))) h32)))))))))))))))) ∧ (¬ (0 ≤ x8) → Q (some (.int x8)) h7)))))) ∧ (x4 = 0 → Q (some (.int (-1000001))) h3))))) : Wm (d + 1) (0, 0) JX12_block 0 [some (.ref r_0), some (.int x_1), some (.int x_2), some (.int x_3), some (.int x_4), none, none, none] [] h Q := by
  refine m_aload_n dX12_block_0 rfl ?_
  refine m_iconst dX12_block_1 ki_0 ?_
  obtain ⟨h1, e, hF⟩ := hF
  refine m_putf fp_X12_78_11 dX12_block_2 trivial e ?_
  refine m_iload_n dX12_block_5 rfl ?_
  refine m_static (as := [.int x_1]) (rest := []) cs_X12_120 dX12_block_6 rfl rfl (Nat.le_of_ble_eq_true rfl) (Nat.le_of_eq (Nat.zero_add _)) (Nat.le_of_eq (Nat.zero_add _)) (b1 := (0, 0)) (b2 := (0, 0)) (Ev.mono hF ?_)
  intro r2 h3 hF
  obtain ⟨x4, rfl, hF⟩ := hF
  refine m_if_ne 15 dX12_block_9 (by decide) (fun c => ?_) (fun c => ?_)
  · replace hF := hF.1 c
    refine m_aload_n dX12_block_15 rfl ?_
    obtain ⟨x5, e, hF⟩ := hF
    refine m_get fg_X12_82 dX12_block_16 e ?_
    refine m_istore (ls2 := [some (.ref r_0), some (.int x_1), some (.int x_2), some (.int x_3), some (.int x_4), some (.int x5), none, none]) dX12_block_19 (by decide) rfl ?_
    refine m_aload_n dX12_block_21 rfl ?_
    refine m_iload_n dX12_block_22 rfl ?_
    refine m_iconst dX12_block_23 ki_1 ?_
    obtain ⟨fs36, e, hF⟩ := hF
    refine m_virtual (as := [.int x_1, .int 1]) (rest := []) cv_X12_137_11 e dX12_block_24 rfl rfl (Nat.le_of_ble_eq_true rfl) (Nat.le_of_eq (Nat.zero_add _)) (Nat.le_of_eq (Nat.zero_add _)) (b1 := (0, 0)) (b2 := (0, 0)) (Ev.mono hF ?_)
    intro r6 h7 hF
    obtain ⟨x8, rfl, hF⟩ := hF
    refine m_istore (ls2 := [some (.ref r_0), some (.int x_1), some (.int x_2), some (.int x_3), some (.int x_4), some (.int x5), some (.int x8), none]) dX12_block_27 (by decide) rfl ?_
    refine m_iload dX12_block_29 rfl ?_
    refine m_if_ge 37 dX12_block_31 (by decide) (fun c => ?_) (fun c => ?_)
    · replace hF := hF.1 c
      refine m_aload_n dX12_block_37 rfl ?_
      refine m_iload_n dX12_block_38 rfl ?_
      refine m_iload_n dX12_block_39 rfl ?_
      obtain ⟨fs35, e, hF⟩ := hF
      refine m_virtual (as := [.int x_1, .int x_2]) (rest := []) cv_X12_154_11 e dX12_block_40 rfl rfl (Nat.le_of_ble_eq_true rfl) (Nat.le_of_eq (Nat.zero_add _)) (Nat.le_of_eq (Nat.zero_add _)) (b1 := (0, 0)) (b2 := (0, 0)) (Ev.mono hF ?_)
      intro r9 h10 hF
      obtain ⟨x11, rfl, hF⟩ := hF
      refine m_if_eq 71 dX12_block_43 (by decide) (fun c => ?_) (fun c => ?_)
      · replace hF := hF.1 c
        refine m_aload_n dX12_block_71 rfl ?_
        refine m_iload dX12_block_72 rfl ?_
        obtain ⟨h12, e, hF⟩ := hF
        refine m_putf fp_X12_82_11 dX12_block_74 trivial e ?_
        refine m_ldc dX12_block_77 kc_X12_98 ?_
        exact m_ireturn dX12_block_79 trivial hF
      · replace hF := hF.2 c
        refine m_aload_n dX12_block_46 rfl ?_
        refine m_iload_n dX12_block_47 rfl ?_
        refine m_iload_n dX12_block_48 rfl ?_
        obtain ⟨fs34, e, hF⟩ := hF
        refine m_virtual (as := [.int x_1, .int x_3]) (rest := []) cv_X12_154_11 e dX12_block_49 rfl rfl (Nat.le_of_ble_eq_true rfl) (Nat.le_of_eq (Nat.zero_add _)) (Nat.le_of_eq (Nat.zero_add _)) (b1 := (0, 0)) (b2 := (0, 0)) (Ev.mono hF ?_)
        intro r13 h14 hF
        obtain ⟨x15, rfl, hF⟩ := hF
        refine m_if_eq 71 dX12_block_52 (by decide) (fun c => ?_) (fun c => ?_)
        · replace hF := hF.1 c
          refine m_aload_n dX12_block_71 rfl ?_
          refine m_iload dX12_block_72 rfl ?_
          obtain ⟨h16, e, hF⟩ := hF
          refine m_putf fp_X12_82_11 dX12_block_74 trivial e ?_
          refine m_ldc dX12_block_77 kc_X12_98 ?_
          exact m_ireturn dX12_block_79 trivial hF
        · replace hF := hF.2 c
          refine m_iload dX12_block_55 rfl ?_
          refine m_iconst dX12_block_57 ki_m1 ?_
          refine m_icmp_eq 80 dX12_block_58 (by decide) (fun c => ?_) (fun c => ?_)
          · replace hF := hF.1 c
            refine m_aload_n dX12_block_80 rfl ?_
            refine m_iload_n dX12_block_81 rfl ?_
            refine m_iload_n dX12_block_82 rfl ?_
            refine m_iload_n dX12_block_83 rfl ?_
            obtain ⟨fs22, e, hF⟩ := hF
            refine m_virtual (as := [.int x_1, .int x_2, .int x_3]) (rest := []) cv_X12_158_11 e dX12_block_84 rfl rfl (Nat.le_of_ble_eq_true rfl) (Nat.le_of_eq (Nat.zero_add _)) (Nat.le_of_eq (Nat.zero_add _)) (b1 := (0, 0)) (b2 := (0, 0)) (Ev.mono hF ?_)
            intro r17 h18 hF
            obtain ⟨x19, rfl, hF⟩ := hF
            refine m_istore (ls2 := [some (.ref r_0), some (.int x_1), some (.int x_2), some (.int x_3), some (.int x_4), some (.int x5), some (.int x8), some (.int x19)]) dX12_block_87 (by decide) rfl ?_
            refine m_iload dX12_block_89 rfl ?_
            refine m_iconst dX12_block_91 ki_m1 ?_
            refine m_icmp_ne 100 dX12_block_92 (by decide) (fun c => ?_) (fun c => ?_)
            · replace hF := hF.1 c
              refine m_aload_n dX12_block_100 rfl ?_
              obtain ⟨r20, e, hF⟩ := hF
              refine m_get fg_X12_44 dX12_block_101 e ?_
              refine m_iload dX12_block_104 rfl ?_
              obtain ⟨x21, e, hF⟩ := hF
              refine m_iald dX12_block_106 e ?_
              exact m_ireturn dX12_block_107 trivial hF
            · replace hF := hF.2 c
              refine m_iload dX12_block_95 rfl ?_
              refine m_goto 107 dX12_block_97 (by decide) ?_
              exact m_ireturn dX12_block_107 trivial hF
          · replace hF := hF.2 c
            refine m_aload_n dX12_block_61 rfl ?_
            refine m_iload_n dX12_block_62 rfl ?_
            refine m_iload dX12_block_63 rfl ?_
            obtain ⟨fs33, e, hF⟩ := hF
            refine m_virtual (as := [.int x_1, .int x_4]) (rest := []) cv_X12_154_11 e dX12_block_65 rfl rfl (Nat.le_of_ble_eq_true rfl) (Nat.le_of_eq (Nat.zero_add _)) (Nat.le_of_eq (Nat.zero_add _)) (b1 := (0, 0)) (b2 := (0, 0)) (Ev.mono hF ?_)
            intro r23 h24 hF
            obtain ⟨x25, rfl, hF⟩ := hF
            refine m_if_ne 80 dX12_block_68 (by decide) (fun c => ?_) (fun c => ?_)
            · replace hF := hF.1 c
              refine m_aload_n dX12_block_80 rfl ?_
              refine m_iload_n dX12_block_81 rfl ?_
              refine m_iload_n dX12_block_82 rfl ?_
              refine m_iload_n dX12_block_83 rfl ?_
              obtain ⟨fs31, e, hF⟩ := hF
              refine m_virtual (as := [.int x_1, .int x_2, .int x_3]) (rest := []) cv_X12_158_11 e dX12_block_84 rfl rfl (Nat.le_of_ble_eq_true rfl) (Nat.le_of_eq (Nat.zero_add _)) (Nat.le_of_eq (Nat.zero_add _)) (b1 := (0, 0)) (b2 := (0, 0)) (Ev.mono hF ?_)
              intro r26 h27 hF
              obtain ⟨x28, rfl, hF⟩ := hF
              refine m_istore (ls2 := [some (.ref r_0), some (.int x_1), some (.int x_2), some (.int x_3), some (.int x_4), some (.int x5), some (.int x8), some (.int x28)]) dX12_block_87 (by decide) rfl ?_
              refine m_iload dX12_block_89 rfl ?_
              refine m_iconst dX12_block_91 ki_m1 ?_
              refine m_icmp_ne 100 dX12_block_92 (by decide) (fun c => ?_) (fun c => ?_)
              · replace hF := hF.1 c
                refine m_aload_n dX12_block_100 rfl ?_
                obtain ⟨r29, e, hF⟩ := hF
                refine m_get fg_X12_44 dX12_block_101 e ?_
                refine m_iload dX12_block_104 rfl ?_
                obtain ⟨x30, e, hF⟩ := hF
                refine m_iald dX12_block_106 e ?_
                exact m_ireturn dX12_block_107 trivial hF
              · replace hF := hF.2 c
                refine m_iload dX12_block_95 rfl ?_
                refine m_goto 107 dX12_block_97 (by decide) ?_
                exact m_ireturn dX12_block_107 trivial hF
            · replace hF := hF.2 c
              refine m_aload_n dX12_block_71 rfl ?_
              refine m_iload dX12_block_72 rfl ?_
              obtain ⟨h32, e, hF⟩ := hF
              refine m_putf fp_X12_82_11 dX12_block_74 trivial e ?_
              refine m_ldc dX12_block_77 kc_X12_98 ?_
              exact m_ireturn dX12_block_79 trivial hF
    · replace hF := hF.2 c
      refine m_iload dX12_block_34 rfl ?_
      exact m_ireturn dX12_block_36 trivial hF
  · replace hF := hF.2 c
    refine m_ldc dX12_block_12 kc_X12_98 ?_
    exact m_ireturn dX12_block_14 trivial hF
theorem en_X12_block {d : Nat} {r_0 : Nat} {x_1 : Int32} {x_2 : Int32} {x_3 : Int32} {x_4 : Int32} {h : mH} {K : Option Value → mH → Prop} (hk : Wm (d + 1) (0, 0) JX12_block 0 [some (.ref r_0), some (.int x_1), some (.int x_2), some (.int x_3), some (.int x_4), none, none, none] [] h (fun r h' => h'.1 0 = h.1 0 ∧ K r h')) : Ev (d + 1) (0, 0) MX12_block [.ref r_0, .int x_1, .int x_2, .int x_3, .int x_4] h K :=
  m_met pn_X12 nl_X12 (fun _ => Nat.le_of_ble_eq_true rfl) hk
theorem bk_X12_same_0 {d : Nat} (r_0 : Nat) (x_1 : Int32) (x_2 : Int32) {h : mH} {Q : Option Value → mH → Prop} (hF : (∃ h1 : mH, m_put h r_0 11 0 (.int 0) = some h1 ∧ Ev d (0, 0) MX12_isPlace [.int x_1] h1 (fun r2 h3 => ∃ x4 : Int32, r2 = some (.int x4) ∧ ((x4 = 0 → Q (some (.int (-1000001))) h3) ∧ (¬ (x4 = 0) → Ev d (0, 0) MX12_isPlace [.int x_2] h3 (fun r5 h6 => ∃ x7 : Int32, r5 = some (.int x7) ∧ ((¬ x7 = 0 → (∃ fs15 : List Value, (h6).1 r_0 = .inr (11, fs15) ∧ Ev d (0, 0) MX12_look [.ref r_0, .int x_1, .int 1] h6 (fun r8 h9 => ∃ x10 : Int32, r8 = some (.int x10) ∧ ((¬ x10 = 0 → Wm (d + 1) (0, 0) JX12_same 40 [some (.ref r_0), some (.int x_1), some (.int x_2), some (.int x10), none] [] h9 Q) ∧ (x10 = 0 → (∃ fs14 : List Value, (h9).1 r_0 = .inr (11, fs14) ∧ Ev d (0, 0) MX12_look [.ref r_0, .int x_2, .int 1] h9 (fun r11 h12 => ∃ x13 : Int32, r11 = some (.int x13) ∧ Wm (d + 1) (0, 0) JX12_same 40 [some (.ref r_0), some (.int x_1), some (.int x_2), some (.int x13), none] [] h12 Q))))))) ∧ (x7 = 0 → Q (some (.int (-1000001))) h6)))))))) : Wm (d + 1) (0, 0) JX12_same 0 [some (.ref r_0), some (.int x_1), some (.int x_2), none, none] [] h Q := by
  refine m_aload_n dX12_same_0 rfl ?_
  refine m_iconst dX12_same_1 ki_0 ?_
  obtain ⟨h1, e, hF⟩ := hF
  refine m_putf fp_X12_78_11 dX12_same_2 trivial e ?_
  refine m_iload_n dX12_same_5 rfl ?_
  refine m_static (as := [.int x_1]) (rest := []) cs_X12_120 dX12_same_6 rfl rfl (Nat.le_of_ble_eq_true rfl) (Nat.le_of_eq (Nat.zero_add _)) (Nat.le_of_eq (Nat.zero_add _)) (b1 := (0, 0)) (b2 := (0, 0)) (Ev.mono hF ?_)
  intro r2 h3 hF
  obtain ⟨x4, rfl, hF⟩ := hF
  refine m_if_eq 19 dX12_same_9 (by decide) (fun c => ?_) (fun c => ?_)
  · replace hF := hF.1 c
    refine m_ldc dX12_same_19 kc_X12_98 ?_
    exact m_ireturn dX12_same_21 trivial hF
  · replace hF := hF.2 c
    refine m_iload_n dX12_same_12 rfl ?_
    refine m_static (as := [.int x_2]) (rest := []) cs_X12_120 dX12_same_13 rfl rfl (Nat.le_of_ble_eq_true rfl) (Nat.le_of_eq (Nat.zero_add _)) (Nat.le_of_eq (Nat.zero_add _)) (b1 := (0, 0)) (b2 := (0, 0)) (Ev.mono hF ?_)
    intro r5 h6 hF
    obtain ⟨x7, rfl, hF⟩ := hF
    refine m_if_ne 22 dX12_same_16 (by decide) (fun c => ?_) (fun c => ?_)
    · replace hF := hF.1 c
      refine m_aload_n dX12_same_22 rfl ?_
      refine m_iload_n dX12_same_23 rfl ?_
      refine m_iconst dX12_same_24 ki_1 ?_
      obtain ⟨fs15, e, hF⟩ := hF
      refine m_virtual (as := [.int x_1, .int 1]) (rest := []) cv_X12_137_11 e dX12_same_25 rfl rfl (Nat.le_of_ble_eq_true rfl) (Nat.le_of_eq (Nat.zero_add _)) (Nat.le_of_eq (Nat.zero_add _)) (b1 := (0, 0)) (b2 := (0, 0)) (Ev.mono hF ?_)
      intro r8 h9 hF
      obtain ⟨x10, rfl, hF⟩ := hF
      refine m_istore_n (ls2 := [some (.ref r_0), some (.int x_1), some (.int x_2), some (.int x10), none]) dX12_same_28 (by decide) rfl ?_
      refine m_iload_n dX12_same_29 rfl ?_
      refine m_if_ne 40 dX12_same_30 (by decide) (fun c => ?_) (fun c => ?_)
      · replace hF := hF.1 c
        exact hF
      · replace hF := hF.2 c
        refine m_aload_n dX12_same_33 rfl ?_
        refine m_iload_n dX12_same_34 rfl ?_
        refine m_iconst dX12_same_35 ki_1 ?_
        obtain ⟨fs14, e, hF⟩ := hF
        refine m_virtual (as := [.int x_2, .int 1]) (rest := []) cv_X12_137_11 e dX12_same_36 rfl rfl (Nat.le_of_ble_eq_true rfl) (Nat.le_of_eq (Nat.zero_add _)) (Nat.le_of_eq (Nat.zero_add _)) (b1 := (0, 0)) (b2 := (0, 0)) (Ev.mono hF ?_)
        intro r11 h12 hF
        obtain ⟨x13, rfl, hF⟩ := hF
        refine m_istore_n (ls2 := [some (.ref r_0), some (.int x_1), some (.int x_2), some (.int x13), none]) dX12_same_39 (by decide) rfl ?_
        exact hF
    · replace hF := hF.2 c
      refine m_ldc dX12_same_19 kc_X12_98 ?_
      exact m_ireturn dX12_same_21 trivial hF
theorem bk_X12_same_40 {d : Nat} (r_0 : Nat) (x_1 : Int32) (x_2 : Int32) (x_3 : Int32) {h : mH} {Q : Option Value → mH → Prop} (hF : ((0 ≤ x_3 → (∃ r1 : Nat, m_fld h r_0 [11] 5 = some (.ref r1) ∧ (∃ x2 : Int32, m_il h r1 x_1 = some x2 ∧ (∃ r3 : Nat, m_fld h r_0 [11] 5 = some (.ref r3) ∧ (∃ x4 : Int32, m_il h r3 x_2 = some x4 ∧ ((¬ x2 = x4 → Q (some (.int 0)) h) ∧ (x2 = x4 → (∃ r5 : Nat, m_fld h r_0 [11] 6 = some (.ref r5) ∧ (∃ x6 : Int32, m_il h r5 x_1 = some x6 ∧ (∃ r7 : Nat, m_fld h r_0 [11] 6 = some (.ref r7) ∧ (∃ x8 : Int32, m_il h r7 x_2 = some x8 ∧ ((x6 = x8 → (∃ fs20 : List Value, (h).1 r_0 = .inr (11, fs20) ∧ Ev d (0, 0) MX12_least [.ref r_0, .int 10, .int x_1] h (fun r9 h10 => ∃ x11 : Int32, r9 = some (.int x11) ∧ (∃ fs19 : List Value, (h10).1 r_0 = .inr (11, fs19) ∧ Ev d (0, 0) MX12_least [.ref r_0, .int 12, .int x_2] h10 (fun r12 h13 => ∃ x14 : Int32, r12 = some (.int x14) ∧ (∃ fs18 : List Value, (h13).1 r_0 = .inr (11, fs18) ∧ Ev d (0, 0) MX12_compare [.ref r_0, .int 10, .int 12] h13 (fun r15 h16 => ∃ x17 : Int32, r15 = some (.int x17) ∧ ((¬ x17 = 0 → Q (some (.int 0)) h16) ∧ (x17 = 0 → Q (some (.int 1)) h16))))))))) ∧ (¬ (x6 = x8) → Q (some (.int 0)) h))))))))))))) ∧ (¬ (0 ≤ x_3) → Q (some (.int x_3)) h))) : Wm (d + 1) (0, 0) JX12_same 40 [some (.ref r_0), some (.int x_1), some (.int x_2), some (.int x_3), none] [] h Q := by
  refine m_iload_n dX12_same_40 rfl ?_
  refine m_if_ge 46 dX12_same_41 (by decide) (fun c => ?_) (fun c => ?_)
  · replace hF := hF.1 c
    refine m_aload_n dX12_same_46 rfl ?_
    obtain ⟨r1, e, hF⟩ := hF
    refine m_get fg_X12_19 dX12_same_47 e ?_
    refine m_iload_n dX12_same_50 rfl ?_
    obtain ⟨x2, e, hF⟩ := hF
    refine m_iald dX12_same_51 e ?_
    refine m_aload_n dX12_same_52 rfl ?_
    obtain ⟨r3, e, hF⟩ := hF
    refine m_get fg_X12_19 dX12_same_53 e ?_
    refine m_iload_n dX12_same_56 rfl ?_
    obtain ⟨x4, e, hF⟩ := hF
    refine m_iald dX12_same_57 e ?_
    refine m_icmp_ne 76 dX12_same_58 (by decide) (fun c => ?_) (fun c => ?_)
    · replace hF := hF.1 c
      refine m_iconst dX12_same_76 ki_0 ?_
      exact m_ireturn dX12_same_77 trivial hF
    · replace hF := hF.2 c
      refine m_aload_n dX12_same_61 rfl ?_
      obtain ⟨r5, e, hF⟩ := hF
      refine m_get fg_X12_22 dX12_same_62 e ?_
      refine m_iload_n dX12_same_65 rfl ?_
      obtain ⟨x6, e, hF⟩ := hF
      refine m_iald dX12_same_66 e ?_
      refine m_aload_n dX12_same_67 rfl ?_
      obtain ⟨r7, e, hF⟩ := hF
      refine m_get fg_X12_22 dX12_same_68 e ?_
      refine m_iload_n dX12_same_71 rfl ?_
      obtain ⟨x8, e, hF⟩ := hF
      refine m_iald dX12_same_72 e ?_
      refine m_icmp_eq 78 dX12_same_73 (by decide) (fun c => ?_) (fun c => ?_)
      · replace hF := hF.1 c
        refine m_aload_n dX12_same_78 rfl ?_
        refine m_bipush dX12_same_79 kb_10 ?_
        refine m_iload_n dX12_same_81 rfl ?_
        obtain ⟨fs20, e, hF⟩ := hF
        refine m_virtual (as := [.int 10, .int x_1]) (rest := []) cv_X12_148_11 e dX12_same_82 rfl rfl (Nat.le_of_ble_eq_true rfl) (Nat.le_of_eq (Nat.zero_add _)) (Nat.le_of_eq (Nat.zero_add _)) (b1 := (0, 0)) (b2 := (0, 0)) (Ev.mono hF ?_)
        intro r9 h10 hF
        obtain ⟨x11, rfl, hF⟩ := hF
        refine m_aload_n dX12_same_85 rfl ?_
        refine m_bipush dX12_same_86 kb_12 ?_
        refine m_iload_n dX12_same_88 rfl ?_
        obtain ⟨fs19, e, hF⟩ := hF
        refine m_virtual (as := [.int 12, .int x_2]) (rest := [.int x11]) cv_X12_148_11 e dX12_same_89 rfl rfl (Nat.le_of_ble_eq_true rfl) (Nat.le_of_eq (Nat.zero_add _)) (Nat.le_of_eq (Nat.zero_add _)) (b1 := (0, 0)) (b2 := (0, 0)) (Ev.mono hF ?_)
        intro r12 h13 hF
        obtain ⟨x14, rfl, hF⟩ := hF
        refine m_iadd dX12_same_92 ?_
        refine m_istore (ls2 := [some (.ref r_0), some (.int x_1), some (.int x_2), some (.int x_3), some (.int (x11 + x14))]) dX12_same_93 (by decide) rfl ?_
        refine m_aload_n dX12_same_95 rfl ?_
        refine m_bipush dX12_same_96 kb_10 ?_
        refine m_bipush dX12_same_98 kb_12 ?_
        obtain ⟨fs18, e, hF⟩ := hF
        refine m_virtual (as := [.int 10, .int 12]) (rest := []) cv_X12_145_11 e dX12_same_100 rfl rfl (Nat.le_of_ble_eq_true rfl) (Nat.le_of_eq (Nat.zero_add _)) (Nat.le_of_eq (Nat.zero_add _)) (b1 := (0, 0)) (b2 := (0, 0)) (Ev.mono hF ?_)
        intro r15 h16 hF
        obtain ⟨x17, rfl, hF⟩ := hF
        refine m_if_ne 110 dX12_same_103 (by decide) (fun c => ?_) (fun c => ?_)
        · replace hF := hF.1 c
          refine m_iconst dX12_same_110 ki_0 ?_
          exact m_ireturn dX12_same_111 trivial hF
        · replace hF := hF.2 c
          refine m_iconst dX12_same_106 ki_1 ?_
          refine m_goto 111 dX12_same_107 (by decide) ?_
          exact m_ireturn dX12_same_111 trivial hF
      · replace hF := hF.2 c
        refine m_iconst dX12_same_76 ki_0 ?_
        exact m_ireturn dX12_same_77 trivial hF
  · replace hF := hF.2 c
    refine m_iload_n dX12_same_44 rfl ?_
    exact m_ireturn dX12_same_45 trivial hF
theorem en_X12_same {d : Nat} {r_0 : Nat} {x_1 : Int32} {x_2 : Int32} {h : mH} {K : Option Value → mH → Prop} (hk : Wm (d + 1) (0, 0) JX12_same 0 [some (.ref r_0), some (.int x_1), some (.int x_2), none, none] [] h (fun r h' => h'.1 0 = h.1 0 ∧ K r h')) : Ev (d + 1) (0, 0) MX12_same [.ref r_0, .int x_1, .int x_2] h K :=
  m_met pn_X12 nl_X12 (fun _ => Nat.le_of_ble_eq_true rfl) hk
theorem bk_X12_isName_0 {d : Nat} (r_0 : Nat) (x_1 : Int32) {h : mH} {Q : Option Value → mH → Prop} (hF : Wm d (0, 0) JX12_isName 2 [some (.ref r_0), some (.int x_1), some (.int 0)] [] h Q) : Wm d (0, 0) JX12_isName 0 [some (.ref r_0), some (.int x_1), none] [] h Q := by
  refine m_iconst dX12_isName_0 ki_0 ?_
  refine m_istore_n (ls2 := [some (.ref r_0), some (.int x_1), some (.int 0)]) dX12_isName_1 (by decide) rfl ?_
  exact hF
theorem bk_X12_isName_2 {d : Nat} (r_0 : Nat) (x_1 : Int32) (x_2 : Int32) {h : mH} {Q : Option Value → mH → Prop} (hF : ((96 ≤ x_2 → Q (some (.int 1)) h) ∧ (¬ (96 ≤ x_2) → (∃ r1 : Nat, m_fld h r_0 [11] 18 = some (.ref r1) ∧ (∃ x2 : Int32, m_il h r1 ((96 * x_1) + x_2) = some x2 ∧ (∃ r3 : Nat, m_fld h r_0 [11] 7 = some (.ref r3) ∧ (∃ x4 : Int32, m_il h r3 (960 + x_2) = some x4 ∧ ((x2 = x4 → Wm d (0, 0) JX12_isName 2 [some (.ref r_0), some (.int x_1), some (.int (x_2 + 1))] [] h Q) ∧ (¬ (x2 = x4) → Q (some (.int 0)) h))))))))) : Wm d (0, 0) JX12_isName 2 [some (.ref r_0), some (.int x_1), some (.int x_2)] [] h Q := by
  refine m_iload_n dX12_isName_2 rfl ?_
  refine m_bipush dX12_isName_3 kb_96 ?_
  refine m_icmp_ge 40 dX12_isName_5 (by decide) (fun c => ?_) (fun c => ?_)
  · replace hF := hF.1 c
    refine m_iconst dX12_isName_40 ki_1 ?_
    exact m_ireturn dX12_isName_41 (Or.inr rfl) hF
  · replace hF := hF.2 c
    refine m_aload_n dX12_isName_8 rfl ?_
    obtain ⟨r1, e, hF⟩ := hF
    refine m_get fg_X12_59 dX12_isName_9 e ?_
    refine m_bipush dX12_isName_12 kb_96 ?_
    refine m_iload_n dX12_isName_14 rfl ?_
    refine m_imul dX12_isName_15 ?_
    refine m_iload_n dX12_isName_16 rfl ?_
    refine m_iadd dX12_isName_17 ?_
    obtain ⟨x2, e, hF⟩ := hF
    refine m_iald dX12_isName_18 e ?_
    refine m_aload_n dX12_isName_19 rfl ?_
    obtain ⟨r3, e, hF⟩ := hF
    refine m_get fg_X12_25 dX12_isName_20 e ?_
    refine m_sipush dX12_isName_23 ks_960 ?_
    refine m_iload_n dX12_isName_26 rfl ?_
    refine m_iadd dX12_isName_27 ?_
    obtain ⟨x4, e, hF⟩ := hF
    refine m_iald dX12_isName_28 e ?_
    refine m_icmp_eq 34 dX12_isName_29 (by decide) (fun c => ?_) (fun c => ?_)
    · replace hF := hF.1 c
      refine m_iinc (v := x_2 + 1) (ls2 := [some (.ref r_0), some (.int x_1), some (.int (x_2 + 1))]) dX12_isName_34 (by decide) rfl (congrArg (_ + ·) ki_1) rfl ?_
      refine m_goto 2 dX12_isName_37 (by decide) ?_
      exact hF
    · replace hF := hF.2 c
      refine m_iconst dX12_isName_32 ki_0 ?_
      exact m_ireturn dX12_isName_33 (Or.inl rfl) hF
theorem en_X12_isName {d : Nat} {r_0 : Nat} {x_1 : Int32} {h : mH} {K : Option Value → mH → Prop} (hk : Wm d (0, 0) JX12_isName 0 [some (.ref r_0), some (.int x_1), none] [] h (fun r h' => h'.1 0 = h.1 0 ∧ K r h')) : Ev d (0, 0) MX12_isName [.ref r_0, .int x_1] h K :=
  m_met pn_X12 nl_X12 (fun _ => Nat.le_of_ble_eq_true rfl) hk
theorem bk_X12_ring_0 {d : Nat} (r_0 : Nat) (x_1 : Int32) {h : mH} {Q : Option Value → mH → Prop} (hF : (∃ h1 : mH, m_put h r_0 11 0 (.int 0) = some h1 ∧ Ev d (0, 0) MX12_isPlace [.int x_1] h1 (fun r2 h3 => ∃ x4 : Int32, r2 = some (.int x4) ∧ ((¬ x4 = 0 → (∃ x5 : Int32, m_fld h3 r_0 [11] 1 = some (.int x5) ∧ (∃ fs9 : List Value, (h3).1 r_0 = .inr (11, fs9) ∧ Ev d (0, 0) MX12_look [.ref r_0, .int x_1, .int 1] h3 (fun r6 h7 => ∃ x8 : Int32, r6 = some (.int x8) ∧ ((0 ≤ x8 → Wm (d + 1) (0, 0) JX12_ring 36 [some (.ref r_0), some (.int x_1), some (.int x5), none, some (.int 0), none, none, none, none, none] [] h7 Q) ∧ (¬ (0 ≤ x8) → Q (some (.int x8)) h7)))))) ∧ (x4 = 0 → Q (some (.int (-1000001))) h3))))) : Wm (d + 1) (0, 0) JX12_ring 0 [some (.ref r_0), some (.int x_1), none, none, none, none, none, none, none, none] [] h Q := by
  refine m_aload_n dX12_ring_0 rfl ?_
  refine m_iconst dX12_ring_1 ki_0 ?_
  obtain ⟨h1, e, hF⟩ := hF
  refine m_putf fp_X12_78_11 dX12_ring_2 trivial e ?_
  refine m_iload_n dX12_ring_5 rfl ?_
  refine m_static (as := [.int x_1]) (rest := []) cs_X12_120 dX12_ring_6 rfl rfl (Nat.le_of_ble_eq_true rfl) (Nat.le_of_eq (Nat.zero_add _)) (Nat.le_of_eq (Nat.zero_add _)) (b1 := (0, 0)) (b2 := (0, 0)) (Ev.mono hF ?_)
  intro r2 h3 hF
  obtain ⟨x4, rfl, hF⟩ := hF
  refine m_if_ne 15 dX12_ring_9 (by decide) (fun c => ?_) (fun c => ?_)
  · replace hF := hF.1 c
    refine m_aload_n dX12_ring_15 rfl ?_
    obtain ⟨x5, e, hF⟩ := hF
    refine m_get fg_X12_82 dX12_ring_16 e ?_
    refine m_istore_n (ls2 := [some (.ref r_0), some (.int x_1), some (.int x5), none, none, none, none, none, none, none]) dX12_ring_19 (by decide) rfl ?_
    refine m_aload_n dX12_ring_20 rfl ?_
    refine m_iload_n dX12_ring_21 rfl ?_
    refine m_iconst dX12_ring_22 ki_1 ?_
    obtain ⟨fs9, e, hF⟩ := hF
    refine m_virtual (as := [.int x_1, .int 1]) (rest := []) cv_X12_137_11 e dX12_ring_23 rfl rfl (Nat.le_of_ble_eq_true rfl) (Nat.le_of_eq (Nat.zero_add _)) (Nat.le_of_eq (Nat.zero_add _)) (b1 := (0, 0)) (b2 := (0, 0)) (Ev.mono hF ?_)
    intro r6 h7 hF
    obtain ⟨x8, rfl, hF⟩ := hF
    refine m_istore_n (ls2 := [some (.ref r_0), some (.int x_1), some (.int x5), some (.int x8), none, none, none, none, none, none]) dX12_ring_26 (by decide) rfl ?_
    refine m_iload_n dX12_ring_27 rfl ?_
    refine m_if_ge 33 dX12_ring_28 (by decide) (fun c => ?_) (fun c => ?_)
    · replace hF := hF.1 c
      refine m_iconst dX12_ring_33 ki_0 ?_
      refine m_istore (ls2 := [some (.ref r_0), some (.int x_1), some (.int x5), some (.int x8), some (.int 0), none, none, none, none, none]) dX12_ring_34 (by decide) rfl ?_
      refine m_wk [3] rfl ?_
      exact hF
    · replace hF := hF.2 c
      refine m_iload_n dX12_ring_31 rfl ?_
      exact m_ireturn dX12_ring_32 trivial hF
  · replace hF := hF.2 c
    refine m_ldc dX12_ring_12 kc_X12_98 ?_
    exact m_ireturn dX12_ring_14 trivial hF
theorem bk_X12_ring_36 {d : Nat} (r_0 : Nat) (x_1 : Int32) (x_2 : Int32) (x_4 : Int32) {h : mH} {Q : Option Value → mH → Prop} (hF : ((96 ≤ x_4 → (∃ fs4 : List Value, (h).1 r_0 = .inr (11, fs4) ∧ Ev d (0, 0) MX12_least [.ref r_0, .int 10, .int x_1] h (fun r1 h2 => ∃ x3 : Int32, r1 = some (.int x3) ∧ Wm (d + 1) (0, 0) JX12_ring 85 [some (.ref r_0), some (.int x_1), some (.int x_2), none, none, some (.int 0), none, none, none, none] [] h2 Q))) ∧ (¬ (96 ≤ x_4) → (∃ r5 : Nat, m_fld h r_0 [11] 7 = some (.ref r5) ∧ (∃ h6 : mH, m_is h r5 (960 + x_4) 0 = some h6 ∧ (∃ r7 : Nat, m_fld h6 r_0 [11] 7 = some (.ref r7) ∧ (∃ h8 : mH, m_is h6 r7 (1056 + x_4) 0 = some h8 ∧ Wm (d + 1) (0, 0) JX12_ring 36 [some (.ref r_0), some (.int x_1), some (.int x_2), none, some (.int (x_4 + 1)), none, none, none, none, none] [] h8 Q))))))) : Wm (d + 1) (0, 0) JX12_ring 36 [some (.ref r_0), some (.int x_1), some (.int x_2), none, some (.int x_4), none, none, none, none, none] [] h Q := by
  refine m_iload dX12_ring_36 rfl ?_
  refine m_bipush dX12_ring_38 kb_96 ?_
  refine m_icmp_ge 73 dX12_ring_40 (by decide) (fun c => ?_) (fun c => ?_)
  · replace hF := hF.1 c
    refine m_aload_n dX12_ring_73 rfl ?_
    refine m_bipush dX12_ring_74 kb_10 ?_
    refine m_iload_n dX12_ring_76 rfl ?_
    obtain ⟨fs4, e, hF⟩ := hF
    refine m_virtual (as := [.int 10, .int x_1]) (rest := []) cv_X12_148_11 e dX12_ring_77 rfl rfl (Nat.le_of_ble_eq_true rfl) (Nat.le_of_eq (Nat.zero_add _)) (Nat.le_of_eq (Nat.zero_add _)) (b1 := (0, 0)) (b2 := (0, 0)) (Ev.mono hF ?_)
    intro r1 h2 hF
    obtain ⟨x3, rfl, hF⟩ := hF
    refine m_istore (ls2 := [some (.ref r_0), some (.int x_1), some (.int x_2), none, some (.int x3), none, none, none, none, none]) dX12_ring_80 (by decide) rfl ?_
    refine m_iconst dX12_ring_82 ki_0 ?_
    refine m_istore (ls2 := [some (.ref r_0), some (.int x_1), some (.int x_2), none, some (.int x3), some (.int 0), none, none, none, none]) dX12_ring_83 (by decide) rfl ?_
    refine m_wk [4] rfl ?_
    exact hF
  · replace hF := hF.2 c
    refine m_aload_n dX12_ring_43 rfl ?_
    obtain ⟨r5, e, hF⟩ := hF
    refine m_get fg_X12_25 dX12_ring_44 e ?_
    refine m_sipush dX12_ring_47 ks_960 ?_
    refine m_iload dX12_ring_50 rfl ?_
    refine m_iadd dX12_ring_52 ?_
    refine m_iconst dX12_ring_53 ki_0 ?_
    obtain ⟨h6, e, hF⟩ := hF
    refine m_iast dX12_ring_54 e ?_
    refine m_aload_n dX12_ring_55 rfl ?_
    obtain ⟨r7, e, hF⟩ := hF
    refine m_get fg_X12_25 dX12_ring_56 e ?_
    refine m_sipush dX12_ring_59 ks_1056 ?_
    refine m_iload dX12_ring_62 rfl ?_
    refine m_iadd dX12_ring_64 ?_
    refine m_iconst dX12_ring_65 ki_0 ?_
    obtain ⟨h8, e, hF⟩ := hF
    refine m_iast dX12_ring_66 e ?_
    refine m_iinc (v := x_4 + 1) (ls2 := [some (.ref r_0), some (.int x_1), some (.int x_2), none, some (.int (x_4 + 1)), none, none, none, none, none]) dX12_ring_67 (by decide) rfl (congrArg (_ + ·) ki_1) rfl ?_
    refine m_goto 36 dX12_ring_70 (by decide) ?_
    exact hF
theorem bk_X12_ring_85 {d : Nat} (r_0 : Nat) (x_1 : Int32) (x_2 : Int32) (x_5 : Int32) {h : mH} {Q : Option Value → mH → Prop} (hF : ((96 ≤ x_5 → Wm (d + 1) (0, 0) JX12_ring 122 [some (.ref r_0), some (.int x_1), some (.int x_2), none, none, some (.int 1), some (.int 0), none, none, none] [] h Q) ∧ (¬ (96 ≤ x_5) → (∃ r1 : Nat, m_fld h r_0 [11] 18 = some (.ref r1) ∧ (∃ r2 : Nat, m_fld h r_0 [11] 7 = some (.ref r2) ∧ (∃ x3 : Int32, m_il h r2 (960 + x_5) = some x3 ∧ (∃ h4 : mH, m_is h r1 x_5 x3 = some h4 ∧ Wm (d + 1) (0, 0) JX12_ring 85 [some (.ref r_0), some (.int x_1), some (.int x_2), none, none, some (.int (x_5 + 1)), none, none, none, none] [] h4 Q))))))) : Wm (d + 1) (0, 0) JX12_ring 85 [some (.ref r_0), some (.int x_1), some (.int x_2), none, none, some (.int x_5), none, none, none, none] [] h Q := by
  refine m_iload dX12_ring_85 rfl ?_
  refine m_bipush dX12_ring_87 kb_96 ?_
  refine m_icmp_ge 116 dX12_ring_89 (by decide) (fun c => ?_) (fun c => ?_)
  · replace hF := hF.1 c
    refine m_iconst dX12_ring_116 ki_1 ?_
    refine m_istore (ls2 := [some (.ref r_0), some (.int x_1), some (.int x_2), none, none, some (.int 1), none, none, none, none]) dX12_ring_117 (by decide) rfl ?_
    refine m_iconst dX12_ring_119 ki_0 ?_
    refine m_istore (ls2 := [some (.ref r_0), some (.int x_1), some (.int x_2), none, none, some (.int 1), some (.int 0), none, none, none]) dX12_ring_120 (by decide) rfl ?_
    exact hF
  · replace hF := hF.2 c
    refine m_aload_n dX12_ring_92 rfl ?_
    obtain ⟨r1, e, hF⟩ := hF
    refine m_get fg_X12_59 dX12_ring_93 e ?_
    refine m_iload dX12_ring_96 rfl ?_
    refine m_aload_n dX12_ring_98 rfl ?_
    obtain ⟨r2, e, hF⟩ := hF
    refine m_get fg_X12_25 dX12_ring_99 e ?_
    refine m_sipush dX12_ring_102 ks_960 ?_
    refine m_iload dX12_ring_105 rfl ?_
    refine m_iadd dX12_ring_107 ?_
    obtain ⟨x3, e, hF⟩ := hF
    refine m_iald dX12_ring_108 e ?_
    obtain ⟨h4, e, hF⟩ := hF
    refine m_iast dX12_ring_109 e ?_
    refine m_iinc (v := x_5 + 1) (ls2 := [some (.ref r_0), some (.int x_1), some (.int x_2), none, none, some (.int (x_5 + 1)), none, none, none, none]) dX12_ring_110 (by decide) rfl (congrArg (_ + ·) ki_1) rfl ?_
    refine m_goto 85 dX12_ring_113 (by decide) ?_
    exact hF
theorem bk_X12_ring_122 {d : Nat} (r_0 : Nat) (x_1 : Int32) (x_2 : Int32) (x_5 : Int32) (x_6 : Int32) {h : mH} {Q : Option Value → mH → Prop} (hF : ((x_5 ≤ x_6 → Q (some (.int x_5)) h) ∧ (¬ (x_5 ≤ x_6) → Wm (d + 1) (0, 0) JX12_ring 132 [some (.ref r_0), some (.int x_1), some (.int x_2), none, none, some (.int x_5), some (.int x_6), some (.int 0), none, none] [] h Q))) : Wm (d + 1) (0, 0) JX12_ring 122 [some (.ref r_0), some (.int x_1), some (.int x_2), none, none, some (.int x_5), some (.int x_6), none, none, none] [] h Q := by
  refine m_iload dX12_ring_122 rfl ?_
  refine m_iload dX12_ring_124 rfl ?_
  refine m_icmp_ge 374 dX12_ring_126 (by decide) (fun c => ?_) (fun c => ?_)
  · replace hF := hF.1 c
    refine m_iload dX12_ring_374 rfl ?_
    exact m_ireturn dX12_ring_376 trivial hF
  · replace hF := hF.2 c
    refine m_iconst dX12_ring_129 ki_0 ?_
    refine m_istore (ls2 := [some (.ref r_0), some (.int x_1), some (.int x_2), none, none, some (.int x_5), some (.int x_6), some (.int 0), none, none]) dX12_ring_130 (by decide) rfl ?_
    exact hF
theorem bk_X12_ring_132 {d : Nat} (r_0 : Nat) (x_1 : Int32) (x_2 : Int32) (x_5 : Int32) (x_6 : Int32) (x_7 : Int32) {h : mH} {Q : Option Value → mH → Prop} (hF : (∃ r1 : Nat, m_fld h r_0 [11] 6 = some (.ref r1) ∧ (∃ x2 : Int32, m_il h r1 x_1 = some x2 ∧ ((x2 ≤ (x_7 + 1) → Wm (d + 1) (0, 0) JX12_ring 122 [some (.ref r_0), some (.int x_1), some (.int x_2), none, none, some (.int x_5), some (.int (x_6 + 1)), none, none, none] [] h Q) ∧ (¬ (x2 ≤ (x_7 + 1)) → (∃ r3 : Nat, m_fld h r_0 [11] 5 = some (.ref r3) ∧ (∃ r4 : Nat, m_fld h r_0 [11] 5 = some (.ref r4) ∧ (∃ x5 : Int32, m_il h r4 x_1 = some x5 ∧ (∃ h6 : mH, m_is h r3 12 x5 = some h6 ∧ (∃ r7 : Nat, m_fld h6 r_0 [11] 6 = some (.ref r7) ∧ (∃ r8 : Nat, m_fld h6 r_0 [11] 6 = some (.ref r8) ∧ (∃ x9 : Int32, m_il h6 r8 x_1 = some x9 ∧ (∃ h10 : mH, m_is h6 r7 12 x9 = some h10 ∧ (∃ r11 : Nat, m_fld h10 r_0 [11] 5 = some (.ref r11) ∧ (∃ r12 : Nat, m_fld h10 r_0 [11] 5 = some (.ref r12) ∧ (∃ x13 : Int32, m_il h10 r12 x_1 = some x13 ∧ (∃ h14 : mH, m_is h10 r11 10 x13 = some h14 ∧ (∃ r15 : Nat, m_fld h14 r_0 [11] 6 = some (.ref r15) ∧ (∃ r16 : Nat, m_fld h14 r_0 [11] 6 = some (.ref r16) ∧ (∃ x17 : Int32, m_il h14 r16 x_1 = some x17 ∧ (∃ h18 : mH, m_is h14 r15 10 x17 = some h18 ∧ Wm (d + 1) (0, 0) JX12_ring 200 [some (.ref r_0), some (.int x_1), some (.int x_2), none, none, some (.int x_5), some (.int x_6), some (.int x_7), some (.int 0), none] [] h18 Q))))))))))))))))))))) : Wm (d + 1) (0, 0) JX12_ring 132 [some (.ref r_0), some (.int x_1), some (.int x_2), none, none, some (.int x_5), some (.int x_6), some (.int x_7), none, none] [] h Q := by
  refine m_iload dX12_ring_132 rfl ?_
  refine m_iconst dX12_ring_134 ki_1 ?_
  refine m_iadd dX12_ring_135 ?_
  refine m_aload_n dX12_ring_136 rfl ?_
  obtain ⟨r1, e, hF⟩ := hF
  refine m_get fg_X12_22 dX12_ring_137 e ?_
  refine m_iload_n dX12_ring_140 rfl ?_
  obtain ⟨x2, e, hF⟩ := hF
  refine m_iald dX12_ring_141 e ?_
  refine m_icmp_ge 368 dX12_ring_142 (by decide) (fun c => ?_) (fun c => ?_)
  · replace hF := hF.1 c
    refine m_iinc (v := x_6 + 1) (ls2 := [some (.ref r_0), some (.int x_1), some (.int x_2), none, none, some (.int x_5), some (.int (x_6 + 1)), some (.int x_7), none, none]) dX12_ring_368 (by decide) rfl (congrArg (_ + ·) ki_1) rfl ?_
    refine m_goto 122 dX12_ring_371 (by decide) ?_
    refine m_wk [7] rfl ?_
    exact hF
  · replace hF := hF.2 c
    refine m_aload_n dX12_ring_145 rfl ?_
    obtain ⟨r3, e, hF⟩ := hF
    refine m_get fg_X12_19 dX12_ring_146 e ?_
    refine m_bipush dX12_ring_149 kb_12 ?_
    refine m_aload_n dX12_ring_151 rfl ?_
    obtain ⟨r4, e, hF⟩ := hF
    refine m_get fg_X12_19 dX12_ring_152 e ?_
    refine m_iload_n dX12_ring_155 rfl ?_
    obtain ⟨x5, e, hF⟩ := hF
    refine m_iald dX12_ring_156 e ?_
    obtain ⟨h6, e, hF⟩ := hF
    refine m_iast dX12_ring_157 e ?_
    refine m_aload_n dX12_ring_158 rfl ?_
    obtain ⟨r7, e, hF⟩ := hF
    refine m_get fg_X12_22 dX12_ring_159 e ?_
    refine m_bipush dX12_ring_162 kb_12 ?_
    refine m_aload_n dX12_ring_164 rfl ?_
    obtain ⟨r8, e, hF⟩ := hF
    refine m_get fg_X12_22 dX12_ring_165 e ?_
    refine m_iload_n dX12_ring_168 rfl ?_
    obtain ⟨x9, e, hF⟩ := hF
    refine m_iald dX12_ring_169 e ?_
    obtain ⟨h10, e, hF⟩ := hF
    refine m_iast dX12_ring_170 e ?_
    refine m_aload_n dX12_ring_171 rfl ?_
    obtain ⟨r11, e, hF⟩ := hF
    refine m_get fg_X12_19 dX12_ring_172 e ?_
    refine m_bipush dX12_ring_175 kb_10 ?_
    refine m_aload_n dX12_ring_177 rfl ?_
    obtain ⟨r12, e, hF⟩ := hF
    refine m_get fg_X12_19 dX12_ring_178 e ?_
    refine m_iload_n dX12_ring_181 rfl ?_
    obtain ⟨x13, e, hF⟩ := hF
    refine m_iald dX12_ring_182 e ?_
    obtain ⟨h14, e, hF⟩ := hF
    refine m_iast dX12_ring_183 e ?_
    refine m_aload_n dX12_ring_184 rfl ?_
    obtain ⟨r15, e, hF⟩ := hF
    refine m_get fg_X12_22 dX12_ring_185 e ?_
    refine m_bipush dX12_ring_188 kb_10 ?_
    refine m_aload_n dX12_ring_190 rfl ?_
    obtain ⟨r16, e, hF⟩ := hF
    refine m_get fg_X12_22 dX12_ring_191 e ?_
    refine m_iload_n dX12_ring_194 rfl ?_
    obtain ⟨x17, e, hF⟩ := hF
    refine m_iald dX12_ring_195 e ?_
    obtain ⟨h18, e, hF⟩ := hF
    refine m_iast dX12_ring_196 e ?_
    refine m_iconst dX12_ring_197 ki_0 ?_
    refine m_istore (ls2 := [some (.ref r_0), some (.int x_1), some (.int x_2), none, none, some (.int x_5), some (.int x_6), some (.int x_7), some (.int 0), none]) dX12_ring_198 (by decide) rfl ?_
    exact hF
theorem bk_X12_ring_200 {d : Nat} (r_0 : Nat) (x_1 : Int32) (x_2 : Int32) (x_5 : Int32) (x_6 : Int32) (x_7 : Int32) (x_8 : Int32) {h : mH} {Q : Option Value → mH → Prop} (hF : ((96 ≤ x_8 → (∃ fs10 : List Value, (h).1 r_0 = .inr (11, fs10) ∧ Ev d (0, 0) MX12_braided [.ref r_0, .int 10, .int 12, .int x_7, .int 0] h (fun r1 h2 => r1 = none ∧ (∃ fs9 : List Value, (h2).1 r_0 = .inr (11, fs9) ∧ Ev d (0, 0) MX12_become [.ref r_0, .int 12, .int 10] h2 (fun r3 h4 => r3 = none ∧ (∃ fs8 : List Value, (h4).1 r_0 = .inr (11, fs8) ∧ Ev d (0, 0) MX12_least [.ref r_0, .int 10, .int 12] h4 (fun r5 h6 => ∃ x7 : Int32, r5 = some (.int x7) ∧ Wm (d + 1) (0, 0) JX12_ring 272 [some (.ref r_0), some (.int x_1), some (.int x_2), none, none, some (.int x_5), some (.int x_6), some (.int x_7), some (.int 0), some (.int 0)] [] h6 Q))))))) ∧ (¬ (96 ≤ x_8) → (∃ r11 : Nat, m_fld h r_0 [11] 7 = some (.ref r11) ∧ (∃ r12 : Nat, m_fld h r_0 [11] 18 = some (.ref r12) ∧ (∃ x13 : Int32, m_il h r12 ((96 * x_6) + x_8) = some x13 ∧ (∃ h14 : mH, m_is h r11 (1152 + x_8) x13 = some h14 ∧ Wm (d + 1) (0, 0) JX12_ring 200 [some (.ref r_0), some (.int x_1), some (.int x_2), none, none, some (.int x_5), some (.int x_6), some (.int x_7), some (.int (x_8 + 1)), none] [] h14 Q))))))) : Wm (d + 1) (0, 0) JX12_ring 200 [some (.ref r_0), some (.int x_1), some (.int x_2), none, none, some (.int x_5), some (.int x_6), some (.int x_7), some (.int x_8), none] [] h Q := by
  refine m_iload dX12_ring_200 rfl ?_
  refine m_bipush dX12_ring_202 kb_96 ?_
  refine m_icmp_ge 237 dX12_ring_204 (by decide) (fun c => ?_) (fun c => ?_)
  · replace hF := hF.1 c
    refine m_aload_n dX12_ring_237 rfl ?_
    refine m_bipush dX12_ring_238 kb_10 ?_
    refine m_bipush dX12_ring_240 kb_12 ?_
    refine m_iload dX12_ring_242 rfl ?_
    refine m_iconst dX12_ring_244 ki_0 ?_
    obtain ⟨fs10, e, hF⟩ := hF
    refine m_virtual (as := [.int 10, .int 12, .int x_7, .int 0]) (rest := []) cv_X12_164_11 e dX12_ring_245 rfl rfl (Nat.le_of_ble_eq_true rfl) (Nat.le_of_eq (Nat.zero_add _)) (Nat.le_of_eq (Nat.zero_add _)) (b1 := (0, 0)) (b2 := (0, 0)) (Ev.mono hF ?_)
    intro r1 h2 hF
    obtain ⟨rfl, hF⟩ := hF
    refine m_aload_n dX12_ring_248 rfl ?_
    refine m_bipush dX12_ring_249 kb_12 ?_
    refine m_bipush dX12_ring_251 kb_10 ?_
    obtain ⟨fs9, e, hF⟩ := hF
    refine m_virtual (as := [.int 12, .int 10]) (rest := []) cv_X12_113_11 e dX12_ring_253 rfl rfl (Nat.le_of_ble_eq_true rfl) (Nat.le_of_eq (Nat.zero_add _)) (Nat.le_of_eq (Nat.zero_add _)) (b1 := (0, 0)) (b2 := (0, 0)) (Ev.mono hF ?_)
    intro r3 h4 hF
    obtain ⟨rfl, hF⟩ := hF
    refine m_aload_n dX12_ring_256 rfl ?_
    refine m_bipush dX12_ring_257 kb_10 ?_
    refine m_bipush dX12_ring_259 kb_12 ?_
    obtain ⟨fs8, e, hF⟩ := hF
    refine m_virtual (as := [.int 10, .int 12]) (rest := []) cv_X12_148_11 e dX12_ring_261 rfl rfl (Nat.le_of_ble_eq_true rfl) (Nat.le_of_eq (Nat.zero_add _)) (Nat.le_of_eq (Nat.zero_add _)) (b1 := (0, 0)) (b2 := (0, 0)) (Ev.mono hF ?_)
    intro r5 h6 hF
    obtain ⟨x7, rfl, hF⟩ := hF
    refine m_istore (ls2 := [some (.ref r_0), some (.int x_1), some (.int x_2), none, some (.int x7), some (.int x_5), some (.int x_6), some (.int x_7), some (.int x_8), none]) dX12_ring_264 (by decide) rfl ?_
    refine m_iconst dX12_ring_266 ki_0 ?_
    refine m_istore (ls2 := [some (.ref r_0), some (.int x_1), some (.int x_2), none, some (.int x7), some (.int x_5), some (.int x_6), some (.int x_7), some (.int 0), none]) dX12_ring_267 (by decide) rfl ?_
    refine m_iconst dX12_ring_269 ki_0 ?_
    refine m_istore (ls2 := [some (.ref r_0), some (.int x_1), some (.int x_2), none, some (.int x7), some (.int x_5), some (.int x_6), some (.int x_7), some (.int 0), some (.int 0)]) dX12_ring_270 (by decide) rfl ?_
    refine m_wk [4] rfl ?_
    exact hF
  · replace hF := hF.2 c
    refine m_aload_n dX12_ring_207 rfl ?_
    obtain ⟨r11, e, hF⟩ := hF
    refine m_get fg_X12_25 dX12_ring_208 e ?_
    refine m_sipush dX12_ring_211 ks_1152 ?_
    refine m_iload dX12_ring_214 rfl ?_
    refine m_iadd dX12_ring_216 ?_
    refine m_aload_n dX12_ring_217 rfl ?_
    obtain ⟨r12, e, hF⟩ := hF
    refine m_get fg_X12_59 dX12_ring_218 e ?_
    refine m_bipush dX12_ring_221 kb_96 ?_
    refine m_iload dX12_ring_223 rfl ?_
    refine m_imul dX12_ring_225 ?_
    refine m_iload dX12_ring_226 rfl ?_
    refine m_iadd dX12_ring_228 ?_
    obtain ⟨x13, e, hF⟩ := hF
    refine m_iald dX12_ring_229 e ?_
    obtain ⟨h14, e, hF⟩ := hF
    refine m_iast dX12_ring_230 e ?_
    refine m_iinc (v := x_8 + 1) (ls2 := [some (.ref r_0), some (.int x_1), some (.int x_2), none, none, some (.int x_5), some (.int x_6), some (.int x_7), some (.int (x_8 + 1)), none]) dX12_ring_231 (by decide) rfl (congrArg (_ + ·) ki_1) rfl ?_
    refine m_goto 200 dX12_ring_234 (by decide) ?_
    exact hF
theorem bk_X12_ring_272 {d : Nat} (r_0 : Nat) (x_1 : Int32) (x_2 : Int32) (x_5 : Int32) (x_6 : Int32) (x_7 : Int32) (x_8 : Int32) (x_9 : Int32) {h : mH} {Q : Option Value → mH → Prop} (hF : ((x_5 ≤ x_9 → ((¬ x_8 = 0 → Wm (d + 1) (0, 0) JX12_ring 132 [some (.ref r_0), some (.int x_1), some (.int x_2), none, none, some (.int x_5), some (.int x_6), some (.int (x_7 + 1)), none, none] [] h Q) ∧ (x_8 = 0 → ((¬ x_5 = 300 → Wm (d + 1) (0, 0) JX12_ring 322 [some (.ref r_0), some (.int x_1), some (.int x_2), none, none, some (.int x_5), some (.int x_6), some (.int x_7), none, some (.int 0)] [] h Q) ∧ (x_5 = 300 → (∃ h1 : mH, m_put h r_0 11 1 (.int x_2) = some h1 ∧ Q (some (.int (-1000003))) h1)))))) ∧ (¬ (x_5 ≤ x_9) → ((¬ x_8 = 0 → ((¬ x_8 = 0 → Wm (d + 1) (0, 0) JX12_ring 132 [some (.ref r_0), some (.int x_1), some (.int x_2), none, none, some (.int x_5), some (.int x_6), some (.int (x_7 + 1)), none, none] [] h Q) ∧ (x_8 = 0 → ((¬ x_5 = 300 → Wm (d + 1) (0, 0) JX12_ring 322 [some (.ref r_0), some (.int x_1), some (.int x_2), none, none, some (.int x_5), some (.int x_6), some (.int x_7), none, some (.int 0)] [] h Q) ∧ (x_5 = 300 → (∃ h2 : mH, m_put h r_0 11 1 (.int x_2) = some h2 ∧ Q (some (.int (-1000003))) h2)))))) ∧ (x_8 = 0 → (∃ fs6 : List Value, (h).1 r_0 = .inr (11, fs6) ∧ Ev d (0, 0) MX12_isName [.ref r_0, .int x_9] h (fun r3 h4 => ∃ x5 : Int32, r3 = some (.int x5) ∧ Wm (d + 1) (0, 0) JX12_ring 272 [some (.ref r_0), some (.int x_1), some (.int x_2), none, none, some (.int x_5), some (.int x_6), some (.int x_7), some (.int x5), some (.int (x_9 + 1))] [] h4 Q))))))) : Wm (d + 1) (0, 0) JX12_ring 272 [some (.ref r_0), some (.int x_1), some (.int x_2), none, none, some (.int x_5), some (.int x_6), some (.int x_7), some (.int x_8), some (.int x_9)] [] h Q := by
  refine m_iload dX12_ring_272 rfl ?_
  refine m_iload dX12_ring_274 rfl ?_
  refine m_icmp_ge 298 dX12_ring_276 (by decide) (fun c => ?_) (fun c => ?_)
  · replace hF := hF.1 c
    refine m_iload dX12_ring_298 rfl ?_
    refine m_if_ne 362 dX12_ring_300 (by decide) (fun c => ?_) (fun c => ?_)
    · replace hF := hF.1 c
      refine m_iinc (v := x_7 + 1) (ls2 := [some (.ref r_0), some (.int x_1), some (.int x_2), none, none, some (.int x_5), some (.int x_6), some (.int (x_7 + 1)), some (.int x_8), some (.int x_9)]) dX12_ring_362 (by decide) rfl (congrArg (_ + ·) ki_1) rfl ?_
      refine m_goto 132 dX12_ring_365 (by decide) ?_
      refine m_wk [8, 9] rfl ?_
      exact hF
    · replace hF := hF.2 c
      refine m_iload dX12_ring_303 rfl ?_
      refine m_sipush dX12_ring_305 ks_300 ?_
      refine m_icmp_ne 319 dX12_ring_308 (by decide) (fun c => ?_) (fun c => ?_)
      · replace hF := hF.1 c
        refine m_iconst dX12_ring_319 ki_0 ?_
        refine m_istore (ls2 := [some (.ref r_0), some (.int x_1), some (.int x_2), none, none, some (.int x_5), some (.int x_6), some (.int x_7), some (.int x_8), some (.int 0)]) dX12_ring_320 (by decide) rfl ?_
        refine m_wk [8] rfl ?_
        exact hF
      · replace hF := hF.2 c
        refine m_aload_n dX12_ring_311 rfl ?_
        refine m_iload_n dX12_ring_312 rfl ?_
        obtain ⟨h1, e, hF⟩ := hF
        refine m_putf fp_X12_82_11 dX12_ring_313 trivial e ?_
        refine m_ldc dX12_ring_316 kc_X12_167 ?_
        exact m_ireturn dX12_ring_318 trivial hF
  · replace hF := hF.2 c
    refine m_iload dX12_ring_279 rfl ?_
    refine m_if_ne 298 dX12_ring_281 (by decide) (fun c => ?_) (fun c => ?_)
    · replace hF := hF.1 c
      refine m_iload dX12_ring_298 rfl ?_
      refine m_if_ne 362 dX12_ring_300 (by decide) (fun c => ?_) (fun c => ?_)
      · replace hF := hF.1 c
        refine m_iinc (v := x_7 + 1) (ls2 := [some (.ref r_0), some (.int x_1), some (.int x_2), none, none, some (.int x_5), some (.int x_6), some (.int (x_7 + 1)), some (.int x_8), some (.int x_9)]) dX12_ring_362 (by decide) rfl (congrArg (_ + ·) ki_1) rfl ?_
        refine m_goto 132 dX12_ring_365 (by decide) ?_
        refine m_wk [8, 9] rfl ?_
        exact hF
      · replace hF := hF.2 c
        refine m_iload dX12_ring_303 rfl ?_
        refine m_sipush dX12_ring_305 ks_300 ?_
        refine m_icmp_ne 319 dX12_ring_308 (by decide) (fun c => ?_) (fun c => ?_)
        · replace hF := hF.1 c
          refine m_iconst dX12_ring_319 ki_0 ?_
          refine m_istore (ls2 := [some (.ref r_0), some (.int x_1), some (.int x_2), none, none, some (.int x_5), some (.int x_6), some (.int x_7), some (.int x_8), some (.int 0)]) dX12_ring_320 (by decide) rfl ?_
          refine m_wk [8] rfl ?_
          exact hF
        · replace hF := hF.2 c
          refine m_aload_n dX12_ring_311 rfl ?_
          refine m_iload_n dX12_ring_312 rfl ?_
          obtain ⟨h2, e, hF⟩ := hF
          refine m_putf fp_X12_82_11 dX12_ring_313 trivial e ?_
          refine m_ldc dX12_ring_316 kc_X12_167 ?_
          exact m_ireturn dX12_ring_318 trivial hF
    · replace hF := hF.2 c
      refine m_aload_n dX12_ring_284 rfl ?_
      refine m_iload dX12_ring_285 rfl ?_
      obtain ⟨fs6, e, hF⟩ := hF
      refine m_virtual (as := [.int x_9]) (rest := []) cv_X12_177_11 e dX12_ring_287 rfl rfl (Nat.le_of_ble_eq_true rfl) (Nat.le_of_eq (Nat.zero_add _)) (Nat.le_of_eq (Nat.zero_add _)) (b1 := (0, 0)) (b2 := (0, 0)) (Ev.mono hF ?_)
      intro r3 h4 hF
      obtain ⟨x5, rfl, hF⟩ := hF
      refine m_istore (ls2 := [some (.ref r_0), some (.int x_1), some (.int x_2), none, none, some (.int x_5), some (.int x_6), some (.int x_7), some (.int x5), some (.int x_9)]) dX12_ring_290 (by decide) rfl ?_
      refine m_iinc (v := x_9 + 1) (ls2 := [some (.ref r_0), some (.int x_1), some (.int x_2), none, none, some (.int x_5), some (.int x_6), some (.int x_7), some (.int x5), some (.int (x_9 + 1))]) dX12_ring_292 (by decide) rfl (congrArg (_ + ·) ki_1) rfl ?_
      refine m_goto 272 dX12_ring_295 (by decide) ?_
      exact hF
theorem bk_X12_ring_322 {d : Nat} (r_0 : Nat) (x_1 : Int32) (x_2 : Int32) (x_5 : Int32) (x_6 : Int32) (x_7 : Int32) (x_9 : Int32) {h : mH} {Q : Option Value → mH → Prop} (hF : ((96 ≤ x_9 → Wm (d + 1) (0, 0) JX12_ring 132 [some (.ref r_0), some (.int x_1), some (.int x_2), none, none, some (.int (x_5 + 1)), some (.int x_6), some (.int (x_7 + 1)), none, none] [] h Q) ∧ (¬ (96 ≤ x_9) → (∃ r1 : Nat, m_fld h r_0 [11] 18 = some (.ref r1) ∧ (∃ r2 : Nat, m_fld h r_0 [11] 7 = some (.ref r2) ∧ (∃ x3 : Int32, m_il h r2 (960 + x_9) = some x3 ∧ (∃ h4 : mH, m_is h r1 ((96 * x_5) + x_9) x3 = some h4 ∧ Wm (d + 1) (0, 0) JX12_ring 322 [some (.ref r_0), some (.int x_1), some (.int x_2), none, none, some (.int x_5), some (.int x_6), some (.int x_7), none, some (.int (x_9 + 1))] [] h4 Q))))))) : Wm (d + 1) (0, 0) JX12_ring 322 [some (.ref r_0), some (.int x_1), some (.int x_2), none, none, some (.int x_5), some (.int x_6), some (.int x_7), none, some (.int x_9)] [] h Q := by
  refine m_iload dX12_ring_322 rfl ?_
  refine m_bipush dX12_ring_324 kb_96 ?_
  refine m_icmp_ge 359 dX12_ring_326 (by decide) (fun c => ?_) (fun c => ?_)
  · replace hF := hF.1 c
    refine m_iinc (v := x_5 + 1) (ls2 := [some (.ref r_0), some (.int x_1), some (.int x_2), none, none, some (.int (x_5 + 1)), some (.int x_6), some (.int x_7), none, some (.int x_9)]) dX12_ring_359 (by decide) rfl (congrArg (_ + ·) ki_1) rfl ?_
    refine m_iinc (v := x_7 + 1) (ls2 := [some (.ref r_0), some (.int x_1), some (.int x_2), none, none, some (.int (x_5 + 1)), some (.int x_6), some (.int (x_7 + 1)), none, some (.int x_9)]) dX12_ring_362 (by decide) rfl (congrArg (_ + ·) ki_1) rfl ?_
    refine m_goto 132 dX12_ring_365 (by decide) ?_
    refine m_wk [9] rfl ?_
    exact hF
  · replace hF := hF.2 c
    refine m_aload_n dX12_ring_329 rfl ?_
    obtain ⟨r1, e, hF⟩ := hF
    refine m_get fg_X12_59 dX12_ring_330 e ?_
    refine m_bipush dX12_ring_333 kb_96 ?_
    refine m_iload dX12_ring_335 rfl ?_
    refine m_imul dX12_ring_337 ?_
    refine m_iload dX12_ring_338 rfl ?_
    refine m_iadd dX12_ring_340 ?_
    refine m_aload_n dX12_ring_341 rfl ?_
    obtain ⟨r2, e, hF⟩ := hF
    refine m_get fg_X12_25 dX12_ring_342 e ?_
    refine m_sipush dX12_ring_345 ks_960 ?_
    refine m_iload dX12_ring_348 rfl ?_
    refine m_iadd dX12_ring_350 ?_
    obtain ⟨x3, e, hF⟩ := hF
    refine m_iald dX12_ring_351 e ?_
    obtain ⟨h4, e, hF⟩ := hF
    refine m_iast dX12_ring_352 e ?_
    refine m_iinc (v := x_9 + 1) (ls2 := [some (.ref r_0), some (.int x_1), some (.int x_2), none, none, some (.int x_5), some (.int x_6), some (.int x_7), none, some (.int (x_9 + 1))]) dX12_ring_353 (by decide) rfl (congrArg (_ + ·) ki_1) rfl ?_
    refine m_goto 322 dX12_ring_356 (by decide) ?_
    exact hF
theorem en_X12_ring {d : Nat} {r_0 : Nat} {x_1 : Int32} {h : mH} {K : Option Value → mH → Prop} (hk : Wm (d + 1) (0, 0) JX12_ring 0 [some (.ref r_0), some (.int x_1), none, none, none, none, none, none, none, none] [] h (fun r h' => h'.1 0 = h.1 0 ∧ K r h')) : Ev (d + 1) (0, 0) MX12_ring [.ref r_0, .int x_1] h K :=
  m_met pn_X12 nl_X12 (fun _ => Nat.le_of_ble_eq_true rfl) hk
theorem bk_X12_lift_0 {d : Nat} (r_0 : Nat) (x_1 : Int32) (x_2 : Int32) (x_3 : Int32) (x_4 : Int32) (x_5 : Int32) {h : mH} {Q : Option Value → mH → Prop} (hF : (∃ h1 : mH, m_put h r_0 11 0 (.int 0) = some h1 ∧ Ev d (0, 0) MX12_isPlace [.int x_1] h1 (fun r2 h3 => ∃ x4 : Int32, r2 = some (.int x4) ∧ ((x4 = 0 → Q (some (.int (-1000001))) h3) ∧ (¬ (x4 = 0) → Ev d (0, 0) MX12_isRow [.int x_2] h3 (fun r5 h6 => ∃ x7 : Int32, r5 = some (.int x7) ∧ ((x7 = 0 → Q (some (.int (-1000001))) h6) ∧ (¬ (x7 = 0) → Ev d (0, 0) MX12_in [.long x_4.toInt64, .long 0, .long 96] h6 (fun r8 h9 => ∃ x10 : Int32, r8 = some (.int x10) ∧ ((¬ x10 = 0 → (∃ x11 : Int32, m_fld h9 r_0 [11] 1 = some (.int x11) ∧ (∃ fs35 : List Value, (h9).1 r_0 = .inr (11, fs35) ∧ Ev d (0, 0) MX12_look [.ref r_0, .int x_1, .int 0] h9 (fun r12 h13 => ∃ x14 : Int32, r12 = some (.int x14) ∧ ((0 ≤ x14 → (∃ r15 : Nat, m_fld h13 r_0 [11] 2 = some (.ref r15) ∧ (∃ x16 : Int32, m_il h13 r15 x_2 = some x16 ∧ ((0 ≤ x16 → ((x_3 < 0 → (∃ fs20 : List Value, (h13).1 r_0 = .inr (11, fs20) ∧ Ev d (0, 0) MX12_found [.ref r_0, .int 2] h13 (fun r17 h18 => ∃ x19 : Int32, r17 = some (.int x19) ∧ Q (some (.int x19)) h18))) ∧ (¬ (x_3 < 0) → (∃ r21 : Nat, m_fld h13 r_0 [11] 3 = some (.ref r21) ∧ (∃ x22 : Int32, m_il h13 r21 x_2 = some x22 ∧ (((lg_cmp (x_3.toInt64 + x_4.toInt64) x22.toInt64) ≤ 0 → (∃ fs26 : List Value, (h13).1 r_0 = .inr (11, fs26) ∧ Ev d (0, 0) MX12_isSheet [.ref r_0, .int x_1, .int x_5] h13 (fun r23 h24 => ∃ x25 : Int32, r23 = some (.int x25) ∧ Wm (d + 1) (0, 0) JX12_lift 111 [some (.ref r_0), some (.int x_1), some (.int x_2), some (.int x_3), some (.int x_4), some (.int x_5), some (.int x11), none, some (.int x25), some (.int 0), none, none] [] h24 Q))) ∧ (¬ ((lg_cmp (x_3.toInt64 + x_4.toInt64) x22.toInt64) ≤ 0) → (∃ fs30 : List Value, (h13).1 r_0 = .inr (11, fs30) ∧ Ev d (0, 0) MX12_found [.ref r_0, .int 2] h13 (fun r27 h28 => ∃ x29 : Int32, r27 = some (.int x29) ∧ Q (some (.int x29)) h28))))))))) ∧ (¬ (0 ≤ x16) → (∃ fs34 : List Value, (h13).1 r_0 = .inr (11, fs34) ∧ Ev d (0, 0) MX12_found [.ref r_0, .int 1] h13 (fun r31 h32 => ∃ x33 : Int32, r31 = some (.int x33) ∧ Q (some (.int x33)) h32))))))) ∧ (¬ (0 ≤ x14) → Q (some (.int x14)) h13)))))) ∧ (x10 = 0 → Q (some (.int (-1000001))) h9))))))))))) : Wm (d + 1) (0, 0) JX12_lift 0 [some (.ref r_0), some (.int x_1), some (.int x_2), some (.int x_3), some (.int x_4), some (.int x_5), none, none, none, none, none, none] [] h Q := by
  refine m_aload_n dX12_lift_0 rfl ?_
  refine m_iconst dX12_lift_1 ki_0 ?_
  obtain ⟨h1, e, hF⟩ := hF
  refine m_putf fp_X12_78_11 dX12_lift_2 trivial e ?_
  refine m_iload_n dX12_lift_5 rfl ?_
  refine m_static (as := [.int x_1]) (rest := []) cs_X12_120 dX12_lift_6 rfl rfl (Nat.le_of_ble_eq_true rfl) (Nat.le_of_eq (Nat.zero_add _)) (Nat.le_of_eq (Nat.zero_add _)) (b1 := (0, 0)) (b2 := (0, 0)) (Ev.mono hF ?_)
  intro r2 h3 hF
  obtain ⟨x4, rfl, hF⟩ := hF
  refine m_if_eq 32 dX12_lift_9 (by decide) (fun c => ?_) (fun c => ?_)
  · replace hF := hF.1 c
    refine m_ldc dX12_lift_32 kc_X12_98 ?_
    exact m_ireturn dX12_lift_34 trivial hF
  · replace hF := hF.2 c
    refine m_iload_n dX12_lift_12 rfl ?_
    refine m_static (as := [.int x_2]) (rest := []) cs_X12_92 dX12_lift_13 rfl rfl (Nat.le_of_ble_eq_true rfl) (Nat.le_of_eq (Nat.zero_add _)) (Nat.le_of_eq (Nat.zero_add _)) (b1 := (0, 0)) (b2 := (0, 0)) (Ev.mono hF ?_)
    intro r5 h6 hF
    obtain ⟨x7, rfl, hF⟩ := hF
    refine m_if_eq 32 dX12_lift_16 (by decide) (fun c => ?_) (fun c => ?_)
    · replace hF := hF.1 c
      refine m_ldc dX12_lift_32 kc_X12_98 ?_
      exact m_ireturn dX12_lift_34 trivial hF
    · replace hF := hF.2 c
      refine m_iload dX12_lift_19 rfl ?_
      refine m_i2l dX12_lift_21 ?_
      refine m_lconst dX12_lift_22 kl_0 ?_
      refine m_ldc2_w dX12_lift_23 kc_X12_180 ?_
      refine m_static (as := [.long x_4.toInt64, .long 0, .long 96]) (rest := []) cs_X12_88 dX12_lift_26 rfl rfl (Nat.le_of_ble_eq_true rfl) (Nat.le_of_eq (Nat.zero_add _)) (Nat.le_of_eq (Nat.zero_add _)) (b1 := (0, 0)) (b2 := (0, 0)) (Ev.mono hF ?_)
      intro r8 h9 hF
      obtain ⟨x10, rfl, hF⟩ := hF
      refine m_if_ne 35 dX12_lift_29 (by decide) (fun c => ?_) (fun c => ?_)
      · replace hF := hF.1 c
        refine m_aload_n dX12_lift_35 rfl ?_
        obtain ⟨x11, e, hF⟩ := hF
        refine m_get fg_X12_82 dX12_lift_36 e ?_
        refine m_istore (ls2 := [some (.ref r_0), some (.int x_1), some (.int x_2), some (.int x_3), some (.int x_4), some (.int x_5), some (.int x11), none, none, none, none, none]) dX12_lift_39 (by decide) rfl ?_
        refine m_aload_n dX12_lift_41 rfl ?_
        refine m_iload_n dX12_lift_42 rfl ?_
        refine m_iconst dX12_lift_43 ki_0 ?_
        obtain ⟨fs35, e, hF⟩ := hF
        refine m_virtual (as := [.int x_1, .int 0]) (rest := []) cv_X12_137_11 e dX12_lift_44 rfl rfl (Nat.le_of_ble_eq_true rfl) (Nat.le_of_eq (Nat.zero_add _)) (Nat.le_of_eq (Nat.zero_add _)) (b1 := (0, 0)) (b2 := (0, 0)) (Ev.mono hF ?_)
        intro r12 h13 hF
        obtain ⟨x14, rfl, hF⟩ := hF
        refine m_istore (ls2 := [some (.ref r_0), some (.int x_1), some (.int x_2), some (.int x_3), some (.int x_4), some (.int x_5), some (.int x11), some (.int x14), none, none, none, none]) dX12_lift_47 (by decide) rfl ?_
        refine m_iload dX12_lift_49 rfl ?_
        refine m_if_ge 57 dX12_lift_51 (by decide) (fun c => ?_) (fun c => ?_)
        · replace hF := hF.1 c
          refine m_aload_n dX12_lift_57 rfl ?_
          obtain ⟨r15, e, hF⟩ := hF
          refine m_get fg_X12_7 dX12_lift_58 e ?_
          refine m_iload_n dX12_lift_61 rfl ?_
          obtain ⟨x16, e, hF⟩ := hF
          refine m_iald dX12_lift_62 e ?_
          refine m_if_ge 72 dX12_lift_63 (by decide) (fun c => ?_) (fun c => ?_)
          · replace hF := hF.1 c
            refine m_iload_n dX12_lift_72 rfl ?_
            refine m_if_lt 93 dX12_lift_73 (by decide) (fun c => ?_) (fun c => ?_)
            · replace hF := hF.1 c
              refine m_aload_n dX12_lift_93 rfl ?_
              refine m_iconst dX12_lift_94 ki_2 ?_
              obtain ⟨fs20, e, hF⟩ := hF
              refine m_virtual (as := [.int 2]) (rest := []) cv_X12_99_11 e dX12_lift_95 rfl rfl (Nat.le_of_ble_eq_true rfl) (Nat.le_of_eq (Nat.zero_add _)) (Nat.le_of_eq (Nat.zero_add _)) (b1 := (0, 0)) (b2 := (0, 0)) (Ev.mono hF ?_)
              intro r17 h18 hF
              obtain ⟨x19, rfl, hF⟩ := hF
              exact m_ireturn dX12_lift_98 trivial hF
            · replace hF := hF.2 c
              refine m_iload_n dX12_lift_76 rfl ?_
              refine m_i2l dX12_lift_77 ?_
              refine m_iload dX12_lift_78 rfl ?_
              refine m_i2l dX12_lift_80 ?_
              refine m_ladd dX12_lift_81 ?_
              refine m_aload_n dX12_lift_82 rfl ?_
              obtain ⟨r21, e, hF⟩ := hF
              refine m_get fg_X12_13 dX12_lift_83 e ?_
              refine m_iload_n dX12_lift_86 rfl ?_
              obtain ⟨x22, e, hF⟩ := hF
              refine m_iald dX12_lift_87 e ?_
              refine m_i2l dX12_lift_88 ?_
              refine m_lcmp dX12_lift_89 ?_
              refine m_if_le 99 dX12_lift_90 (by decide) (fun c => ?_) (fun c => ?_)
              · replace hF := hF.1 c
                refine m_aload_n dX12_lift_99 rfl ?_
                refine m_iload_n dX12_lift_100 rfl ?_
                refine m_iload dX12_lift_101 rfl ?_
                obtain ⟨fs26, e, hF⟩ := hF
                refine m_virtual (as := [.int x_1, .int x_5]) (rest := []) cv_X12_154_11 e dX12_lift_103 rfl rfl (Nat.le_of_ble_eq_true rfl) (Nat.le_of_eq (Nat.zero_add _)) (Nat.le_of_eq (Nat.zero_add _)) (b1 := (0, 0)) (b2 := (0, 0)) (Ev.mono hF ?_)
                intro r23 h24 hF
                obtain ⟨x25, rfl, hF⟩ := hF
                refine m_istore (ls2 := [some (.ref r_0), some (.int x_1), some (.int x_2), some (.int x_3), some (.int x_4), some (.int x_5), some (.int x11), some (.int x14), some (.int x25), none, none, none]) dX12_lift_106 (by decide) rfl ?_
                refine m_iconst dX12_lift_108 ki_0 ?_
                refine m_istore (ls2 := [some (.ref r_0), some (.int x_1), some (.int x_2), some (.int x_3), some (.int x_4), some (.int x_5), some (.int x11), some (.int x14), some (.int x25), some (.int 0), none, none]) dX12_lift_109 (by decide) rfl ?_
                refine m_wk [7] rfl ?_
                exact hF
              · replace hF := hF.2 c
                refine m_aload_n dX12_lift_93 rfl ?_
                refine m_iconst dX12_lift_94 ki_2 ?_
                obtain ⟨fs30, e, hF⟩ := hF
                refine m_virtual (as := [.int 2]) (rest := []) cv_X12_99_11 e dX12_lift_95 rfl rfl (Nat.le_of_ble_eq_true rfl) (Nat.le_of_eq (Nat.zero_add _)) (Nat.le_of_eq (Nat.zero_add _)) (b1 := (0, 0)) (b2 := (0, 0)) (Ev.mono hF ?_)
                intro r27 h28 hF
                obtain ⟨x29, rfl, hF⟩ := hF
                exact m_ireturn dX12_lift_98 trivial hF
          · replace hF := hF.2 c
            refine m_aload_n dX12_lift_66 rfl ?_
            refine m_iconst dX12_lift_67 ki_1 ?_
            obtain ⟨fs34, e, hF⟩ := hF
            refine m_virtual (as := [.int 1]) (rest := []) cv_X12_99_11 e dX12_lift_68 rfl rfl (Nat.le_of_ble_eq_true rfl) (Nat.le_of_eq (Nat.zero_add _)) (Nat.le_of_eq (Nat.zero_add _)) (b1 := (0, 0)) (b2 := (0, 0)) (Ev.mono hF ?_)
            intro r31 h32 hF
            obtain ⟨x33, rfl, hF⟩ := hF
            exact m_ireturn dX12_lift_71 trivial hF
        · replace hF := hF.2 c
          refine m_iload dX12_lift_54 rfl ?_
          exact m_ireturn dX12_lift_56 trivial hF
      · replace hF := hF.2 c
        refine m_ldc dX12_lift_32 kc_X12_98 ?_
        exact m_ireturn dX12_lift_34 trivial hF
theorem bk_X12_lift_111 {d : Nat} (r_0 : Nat) (x_1 : Int32) (x_2 : Int32) (x_3 : Int32) (x_4 : Int32) (x_5 : Int32) (x_6 : Int32) (x_8 : Int32) (x_9 : Int32) {h : mH} {Q : Option Value → mH → Prop} (hF : ((x_4 ≤ x_9 → ((¬ x_8 = 0 → Wm (d + 1) (0, 0) JX12_lift 202 [some (.ref r_0), some (.int x_1), some (.int x_2), some (.int x_3), some (.int x_4), none, none, none, none, some (.int x_5), some (.int 0), none] [] h Q) ∧ (x_8 = 0 → (∃ h1 : mH, m_put h r_0 11 1 (.int x_6) = some h1 ∧ Q (some (.int (-1000001))) h1)))) ∧ (¬ (x_4 ≤ x_9) → (∃ r2 : Nat, m_fld h r_0 [11] 4 = some (.ref r2) ∧ (∃ x3 : Int32, m_il h r2 (((96 * x_2) + x_3) + x_9) = some x3 ∧ ((x_8 = 0 → Wm (d + 1) (0, 0) JX12_lift 111 [some (.ref r_0), some (.int x_1), some (.int x_2), some (.int x_3), some (.int x_4), some (.int x_5), some (.int x_6), none, some (.int 0), some (.int (x_9 + 1)), none, none] [] h Q) ∧ (¬ (x_8 = 0) → ((x3 = 0 → Wm (d + 1) (0, 0) JX12_lift 111 [some (.ref r_0), some (.int x_1), some (.int x_2), some (.int x_3), some (.int x_4), some (.int x_5), some (.int x_6), none, some (.int 0), some (.int (x_9 + 1)), none, none] [] h Q) ∧ (¬ (x3 = 0) → (∃ r4 : Nat, m_fld h r_0 [11] 6 = some (.ref r4) ∧ (∃ x5 : Int32, m_il h r4 x_1 = some x5 ∧ (∃ r6 : Nat, m_fld h r_0 [11] 6 = some (.ref r6) ∧ (∃ x7 : Int32, m_il h r6 x_1 = some x7 ∧ Ev d (0, 0) MX12_in [.long x3.toInt64, .long ((-x5).toInt64), .long x7.toInt64] h (fun r8 h9 => ∃ x10 : Int32, r8 = some (.int x10) ∧ ((x10 = 0 → Wm (d + 1) (0, 0) JX12_lift 111 [some (.ref r_0), some (.int x_1), some (.int x_2), some (.int x_3), some (.int x_4), some (.int x_5), some (.int x_6), none, some (.int 0), some (.int (x_9 + 1)), none, none] [] h9 Q) ∧ (¬ (x10 = 0) → Wm (d + 1) (0, 0) JX12_lift 111 [some (.ref r_0), some (.int x_1), some (.int x_2), some (.int x_3), some (.int x_4), some (.int x_5), some (.int x_6), none, some (.int 1), some (.int (x_9 + 1)), none, none] [] h9 Q)))))))))))))))) : Wm (d + 1) (0, 0) JX12_lift 111 [some (.ref r_0), some (.int x_1), some (.int x_2), some (.int x_3), some (.int x_4), some (.int x_5), some (.int x_6), none, some (.int x_8), some (.int x_9), none, none] [] h Q := by
  refine m_iload dX12_lift_111 rfl ?_
  refine m_iload dX12_lift_113 rfl ?_
  refine m_icmp_ge 181 dX12_lift_115 (by decide) (fun c => ?_) (fun c => ?_)
  · replace hF := hF.1 c
    refine m_iload dX12_lift_181 rfl ?_
    refine m_if_ne 195 dX12_lift_183 (by decide) (fun c => ?_) (fun c => ?_)
    · replace hF := hF.1 c
      refine m_iload dX12_lift_195 rfl ?_
      refine m_istore (ls2 := [some (.ref r_0), some (.int x_1), some (.int x_2), some (.int x_3), some (.int x_4), some (.int x_5), some (.int x_6), none, some (.int x_8), some (.int x_5), none, none]) dX12_lift_197 (by decide) rfl ?_
      refine m_iconst dX12_lift_199 ki_0 ?_
      refine m_istore (ls2 := [some (.ref r_0), some (.int x_1), some (.int x_2), some (.int x_3), some (.int x_4), some (.int x_5), some (.int x_6), none, some (.int x_8), some (.int x_5), some (.int 0), none]) dX12_lift_200 (by decide) rfl ?_
      refine m_wk [5, 6, 8] rfl ?_
      exact hF
    · replace hF := hF.2 c
      refine m_aload_n dX12_lift_186 rfl ?_
      refine m_iload dX12_lift_187 rfl ?_
      obtain ⟨h1, e, hF⟩ := hF
      refine m_putf fp_X12_82_11 dX12_lift_189 trivial e ?_
      refine m_ldc dX12_lift_192 kc_X12_98 ?_
      exact m_ireturn dX12_lift_194 trivial hF
  · replace hF := hF.2 c
    refine m_aload_n dX12_lift_118 rfl ?_
    obtain ⟨r2, e, hF⟩ := hF
    refine m_get fg_X12_16 dX12_lift_119 e ?_
    refine m_bipush dX12_lift_122 kb_96 ?_
    refine m_iload_n dX12_lift_124 rfl ?_
    refine m_imul dX12_lift_125 ?_
    refine m_iload_n dX12_lift_126 rfl ?_
    refine m_iadd dX12_lift_127 ?_
    refine m_iload dX12_lift_128 rfl ?_
    refine m_iadd dX12_lift_130 ?_
    obtain ⟨x3, e, hF⟩ := hF
    refine m_iald dX12_lift_131 e ?_
    refine m_istore (ls2 := [some (.ref r_0), some (.int x_1), some (.int x_2), some (.int x_3), some (.int x_4), some (.int x_5), some (.int x_6), none, some (.int x_8), some (.int x_9), some (.int x3), none]) dX12_lift_132 (by decide) rfl ?_
    refine m_iload dX12_lift_134 rfl ?_
    refine m_if_eq 172 dX12_lift_136 (by decide) (fun c => ?_) (fun c => ?_)
    · replace hF := hF.1 c
      refine m_iconst dX12_lift_172 ki_0 ?_
      refine m_istore (ls2 := [some (.ref r_0), some (.int x_1), some (.int x_2), some (.int x_3), some (.int x_4), some (.int x_5), some (.int x_6), none, some (.int 0), some (.int x_9), some (.int x3), none]) dX12_lift_173 (by decide) rfl ?_
      refine m_iinc (v := x_9 + 1) (ls2 := [some (.ref r_0), some (.int x_1), some (.int x_2), some (.int x_3), some (.int x_4), some (.int x_5), some (.int x_6), none, some (.int 0), some (.int (x_9 + 1)), some (.int x3), none]) dX12_lift_175 (by decide) rfl (congrArg (_ + ·) ki_1) rfl ?_
      refine m_goto 111 dX12_lift_178 (by decide) ?_
      refine m_wk [10] rfl ?_
      exact hF
    · replace hF := hF.2 c
      refine m_iload dX12_lift_139 rfl ?_
      refine m_if_eq 172 dX12_lift_141 (by decide) (fun c => ?_) (fun c => ?_)
      · replace hF := hF.1 c
        refine m_iconst dX12_lift_172 ki_0 ?_
        refine m_istore (ls2 := [some (.ref r_0), some (.int x_1), some (.int x_2), some (.int x_3), some (.int x_4), some (.int x_5), some (.int x_6), none, some (.int 0), some (.int x_9), some (.int x3), none]) dX12_lift_173 (by decide) rfl ?_
        refine m_iinc (v := x_9 + 1) (ls2 := [some (.ref r_0), some (.int x_1), some (.int x_2), some (.int x_3), some (.int x_4), some (.int x_5), some (.int x_6), none, some (.int 0), some (.int (x_9 + 1)), some (.int x3), none]) dX12_lift_175 (by decide) rfl (congrArg (_ + ·) ki_1) rfl ?_
        refine m_goto 111 dX12_lift_178 (by decide) ?_
        refine m_wk [10] rfl ?_
        exact hF
      · replace hF := hF.2 c
        refine m_iload dX12_lift_144 rfl ?_
        refine m_i2l dX12_lift_146 ?_
        refine m_aload_n dX12_lift_147 rfl ?_
        obtain ⟨r4, e, hF⟩ := hF
        refine m_get fg_X12_22 dX12_lift_148 e ?_
        refine m_iload_n dX12_lift_151 rfl ?_
        obtain ⟨x5, e, hF⟩ := hF
        refine m_iald dX12_lift_152 e ?_
        refine m_ineg dX12_lift_153 ?_
        refine m_i2l dX12_lift_154 ?_
        refine m_aload_n dX12_lift_155 rfl ?_
        obtain ⟨r6, e, hF⟩ := hF
        refine m_get fg_X12_22 dX12_lift_156 e ?_
        refine m_iload_n dX12_lift_159 rfl ?_
        obtain ⟨x7, e, hF⟩ := hF
        refine m_iald dX12_lift_160 e ?_
        refine m_i2l dX12_lift_161 ?_
        refine m_static (as := [.long x3.toInt64, .long ((-x5).toInt64), .long x7.toInt64]) (rest := []) cs_X12_88 dX12_lift_162 rfl rfl (Nat.le_of_ble_eq_true rfl) (Nat.le_of_eq (Nat.zero_add _)) (Nat.le_of_eq (Nat.zero_add _)) (b1 := (0, 0)) (b2 := (0, 0)) (Ev.mono hF ?_)
        intro r8 h9 hF
        obtain ⟨x10, rfl, hF⟩ := hF
        refine m_if_eq 172 dX12_lift_165 (by decide) (fun c => ?_) (fun c => ?_)
        · replace hF := hF.1 c
          refine m_iconst dX12_lift_172 ki_0 ?_
          refine m_istore (ls2 := [some (.ref r_0), some (.int x_1), some (.int x_2), some (.int x_3), some (.int x_4), some (.int x_5), some (.int x_6), none, some (.int 0), some (.int x_9), some (.int x3), none]) dX12_lift_173 (by decide) rfl ?_
          refine m_iinc (v := x_9 + 1) (ls2 := [some (.ref r_0), some (.int x_1), some (.int x_2), some (.int x_3), some (.int x_4), some (.int x_5), some (.int x_6), none, some (.int 0), some (.int (x_9 + 1)), some (.int x3), none]) dX12_lift_175 (by decide) rfl (congrArg (_ + ·) ki_1) rfl ?_
          refine m_goto 111 dX12_lift_178 (by decide) ?_
          refine m_wk [10] rfl ?_
          exact hF
        · replace hF := hF.2 c
          refine m_iconst dX12_lift_168 ki_1 ?_
          refine m_goto 173 dX12_lift_169 (by decide) ?_
          refine m_istore (ls2 := [some (.ref r_0), some (.int x_1), some (.int x_2), some (.int x_3), some (.int x_4), some (.int x_5), some (.int x_6), none, some (.int 1), some (.int x_9), some (.int x3), none]) dX12_lift_173 (by decide) rfl ?_
          refine m_iinc (v := x_9 + 1) (ls2 := [some (.ref r_0), some (.int x_1), some (.int x_2), some (.int x_3), some (.int x_4), some (.int x_5), some (.int x_6), none, some (.int 1), some (.int (x_9 + 1)), some (.int x3), none]) dX12_lift_175 (by decide) rfl (congrArg (_ + ·) ki_1) rfl ?_
          refine m_goto 111 dX12_lift_178 (by decide) ?_
          refine m_wk [10] rfl ?_
          exact hF
theorem bk_X12_lift_202 {d : Nat} (r_0 : Nat) (x_1 : Int32) (x_2 : Int32) (x_3 : Int32) (x_4 : Int32) (x_9 : Int32) (x_10 : Int32) {h : mH} {Q : Option Value → mH → Prop} (hF : ((x_4 ≤ x_10 → Q (some (.int x_9)) h) ∧ (¬ (x_4 ≤ x_10) → (∃ r1 : Nat, m_fld h r_0 [11] 4 = some (.ref r1) ∧ (∃ x2 : Int32, m_il h r1 (((96 * x_2) + x_3) + x_10) = some x2 ∧ ((x2 ≤ 0 → (∃ fs6 : List Value, (h).1 r_0 = .inr (11, fs6) ∧ Ev d (0, 0) MX12_backAt [.ref r_0, .int x_1, .int ((-x2) - 1), .int x_9] h (fun r3 h4 => ∃ x5 : Int32, r3 = some (.int x5) ∧ Wm (d + 1) (0, 0) JX12_lift 202 [some (.ref r_0), some (.int x_1), some (.int x_2), some (.int x_3), some (.int x_4), none, none, none, none, some (.int x5), some (.int (x_10 + 1)), none] [] h4 Q))) ∧ (¬ (x2 ≤ 0) → (∃ fs10 : List Value, (h).1 r_0 = .inr (11, fs10) ∧ Ev d (0, 0) MX12_at [.ref r_0, .int x_1, .int (x2 - 1), .int x_9] h (fun r7 h8 => ∃ x9 : Int32, r7 = some (.int x9) ∧ Wm (d + 1) (0, 0) JX12_lift 202 [some (.ref r_0), some (.int x_1), some (.int x_2), some (.int x_3), some (.int x_4), none, none, none, none, some (.int x9), some (.int (x_10 + 1)), none] [] h8 Q))))))))) : Wm (d + 1) (0, 0) JX12_lift 202 [some (.ref r_0), some (.int x_1), some (.int x_2), some (.int x_3), some (.int x_4), none, none, none, none, some (.int x_9), some (.int x_10), none] [] h Q := by
  refine m_iload dX12_lift_202 rfl ?_
  refine m_iload dX12_lift_204 rfl ?_
  refine m_icmp_ge 264 dX12_lift_206 (by decide) (fun c => ?_) (fun c => ?_)
  · replace hF := hF.1 c
    refine m_iload dX12_lift_264 rfl ?_
    exact m_ireturn dX12_lift_266 trivial hF
  · replace hF := hF.2 c
    refine m_aload_n dX12_lift_209 rfl ?_
    obtain ⟨r1, e, hF⟩ := hF
    refine m_get fg_X12_16 dX12_lift_210 e ?_
    refine m_bipush dX12_lift_213 kb_96 ?_
    refine m_iload_n dX12_lift_215 rfl ?_
    refine m_imul dX12_lift_216 ?_
    refine m_iload_n dX12_lift_217 rfl ?_
    refine m_iadd dX12_lift_218 ?_
    refine m_iload dX12_lift_219 rfl ?_
    refine m_iadd dX12_lift_221 ?_
    obtain ⟨x2, e, hF⟩ := hF
    refine m_iald dX12_lift_222 e ?_
    refine m_istore (ls2 := [some (.ref r_0), some (.int x_1), some (.int x_2), some (.int x_3), some (.int x_4), none, none, none, none, some (.int x_9), some (.int x_10), some (.int x2)]) dX12_lift_223 (by decide) rfl ?_
    refine m_iload dX12_lift_225 rfl ?_
    refine m_if_le 244 dX12_lift_227 (by decide) (fun c => ?_) (fun c => ?_)
    · replace hF := hF.1 c
      refine m_aload_n dX12_lift_244 rfl ?_
      refine m_iload_n dX12_lift_245 rfl ?_
      refine m_iload dX12_lift_246 rfl ?_
      refine m_ineg dX12_lift_248 ?_
      refine m_iconst dX12_lift_249 ki_1 ?_
      refine m_isub dX12_lift_250 ?_
      refine m_iload dX12_lift_251 rfl ?_
      obtain ⟨fs6, e, hF⟩ := hF
      refine m_virtual (as := [.int x_1, .int ((-x2) - 1), .int x_9]) (rest := []) cv_X12_161_11 e dX12_lift_253 rfl rfl (Nat.le_of_ble_eq_true rfl) (Nat.le_of_eq (Nat.zero_add _)) (Nat.le_of_eq (Nat.zero_add _)) (b1 := (0, 0)) (b2 := (0, 0)) (Ev.mono hF ?_)
      intro r3 h4 hF
      obtain ⟨x5, rfl, hF⟩ := hF
      refine m_istore (ls2 := [some (.ref r_0), some (.int x_1), some (.int x_2), some (.int x_3), some (.int x_4), none, none, none, none, some (.int x5), some (.int x_10), some (.int x2)]) dX12_lift_256 (by decide) rfl ?_
      refine m_iinc (v := x_10 + 1) (ls2 := [some (.ref r_0), some (.int x_1), some (.int x_2), some (.int x_3), some (.int x_4), none, none, none, none, some (.int x5), some (.int (x_10 + 1)), some (.int x2)]) dX12_lift_258 (by decide) rfl (congrArg (_ + ·) ki_1) rfl ?_
      refine m_goto 202 dX12_lift_261 (by decide) ?_
      refine m_wk [11] rfl ?_
      exact hF
    · replace hF := hF.2 c
      refine m_aload_n dX12_lift_230 rfl ?_
      refine m_iload_n dX12_lift_231 rfl ?_
      refine m_iload dX12_lift_232 rfl ?_
      refine m_iconst dX12_lift_234 ki_1 ?_
      refine m_isub dX12_lift_235 ?_
      refine m_iload dX12_lift_236 rfl ?_
      obtain ⟨fs10, e, hF⟩ := hF
      refine m_virtual (as := [.int x_1, .int (x2 - 1), .int x_9]) (rest := []) cv_X12_105_11 e dX12_lift_238 rfl rfl (Nat.le_of_ble_eq_true rfl) (Nat.le_of_eq (Nat.zero_add _)) (Nat.le_of_eq (Nat.zero_add _)) (b1 := (0, 0)) (b2 := (0, 0)) (Ev.mono hF ?_)
      intro r7 h8 hF
      obtain ⟨x9, rfl, hF⟩ := hF
      refine m_goto 256 dX12_lift_241 (by decide) ?_
      refine m_istore (ls2 := [some (.ref r_0), some (.int x_1), some (.int x_2), some (.int x_3), some (.int x_4), none, none, none, none, some (.int x9), some (.int x_10), some (.int x2)]) dX12_lift_256 (by decide) rfl ?_
      refine m_iinc (v := x_10 + 1) (ls2 := [some (.ref r_0), some (.int x_1), some (.int x_2), some (.int x_3), some (.int x_4), none, none, none, none, some (.int x9), some (.int (x_10 + 1)), some (.int x2)]) dX12_lift_258 (by decide) rfl (congrArg (_ + ·) ki_1) rfl ?_
      refine m_goto 202 dX12_lift_261 (by decide) ?_
      refine m_wk [11] rfl ?_
      exact hF
theorem en_X12_lift {d : Nat} {r_0 : Nat} {x_1 : Int32} {x_2 : Int32} {x_3 : Int32} {x_4 : Int32} {x_5 : Int32} {h : mH} {K : Option Value → mH → Prop} (hk : Wm (d + 1) (0, 0) JX12_lift 0 [some (.ref r_0), some (.int x_1), some (.int x_2), some (.int x_3), some (.int x_4), some (.int x_5), none, none, none, none, none, none] [] h (fun r h' => h'.1 0 = h.1 0 ∧ K r h')) : Ev (d + 1) (0, 0) MX12_lift [.ref r_0, .int x_1, .int x_2, .int x_3, .int x_4, .int x_5] h K :=
  m_met pn_X12 nl_X12 (fun _ => Nat.le_of_ble_eq_true rfl) hk
theorem bk_X12_kind_0 {d : Nat} (r_0 : Nat) (x_1 : Int32) {h : mH} {Q : Option Value → mH → Prop} (hF : (∃ h1 : mH, m_put h r_0 11 0 (.int 0) = some h1 ∧ Ev d (0, 0) MX12_isPlace [.int x_1] h1 (fun r2 h3 => ∃ x4 : Int32, r2 = some (.int x4) ∧ ((¬ x4 = 0 → (∃ fs12 : List Value, (h3).1 r_0 = .inr (11, fs12) ∧ Ev d (0, 0) MX12_look [.ref r_0, .int x_1, .int 0] h3 (fun r5 h6 => ∃ x7 : Int32, r5 = some (.int x7) ∧ ((0 ≤ x7 → (∃ fs11 : List Value, (h6).1 r_0 = .inr (11, fs11) ∧ Ev d (0, 0) MX12_kindOf [.ref r_0, .int x_1] h6 (fun r8 h9 => ∃ x10 : Int32, r8 = some (.int x10) ∧ Q (some (.int x10)) h9))) ∧ (¬ (0 ≤ x7) → Q (some (.int x7)) h6))))) ∧ (x4 = 0 → Q (some (.int (-1000001))) h3))))) : Wm (d + 1) (0, 0) JX12_kind 0 [some (.ref r_0), some (.int x_1), none] [] h Q := by
  refine m_aload_n dX12_kind_0 rfl ?_
  refine m_iconst dX12_kind_1 ki_0 ?_
  obtain ⟨h1, e, hF⟩ := hF
  refine m_putf fp_X12_78_11 dX12_kind_2 trivial e ?_
  refine m_iload_n dX12_kind_5 rfl ?_
  refine m_static (as := [.int x_1]) (rest := []) cs_X12_120 dX12_kind_6 rfl rfl (Nat.le_of_ble_eq_true rfl) (Nat.le_of_eq (Nat.zero_add _)) (Nat.le_of_eq (Nat.zero_add _)) (b1 := (0, 0)) (b2 := (0, 0)) (Ev.mono hF ?_)
  intro r2 h3 hF
  obtain ⟨x4, rfl, hF⟩ := hF
  refine m_if_ne 15 dX12_kind_9 (by decide) (fun c => ?_) (fun c => ?_)
  · replace hF := hF.1 c
    refine m_aload_n dX12_kind_15 rfl ?_
    refine m_iload_n dX12_kind_16 rfl ?_
    refine m_iconst dX12_kind_17 ki_0 ?_
    obtain ⟨fs12, e, hF⟩ := hF
    refine m_virtual (as := [.int x_1, .int 0]) (rest := []) cv_X12_137_11 e dX12_kind_18 rfl rfl (Nat.le_of_ble_eq_true rfl) (Nat.le_of_eq (Nat.zero_add _)) (Nat.le_of_eq (Nat.zero_add _)) (b1 := (0, 0)) (b2 := (0, 0)) (Ev.mono hF ?_)
    intro r5 h6 hF
    obtain ⟨x7, rfl, hF⟩ := hF
    refine m_istore_n (ls2 := [some (.ref r_0), some (.int x_1), some (.int x7)]) dX12_kind_21 (by decide) rfl ?_
    refine m_iload_n dX12_kind_22 rfl ?_
    refine m_if_ge 30 dX12_kind_23 (by decide) (fun c => ?_) (fun c => ?_)
    · replace hF := hF.1 c
      refine m_aload_n dX12_kind_30 rfl ?_
      refine m_iload_n dX12_kind_31 rfl ?_
      obtain ⟨fs11, e, hF⟩ := hF
      refine m_virtual (as := [.int x_1]) (rest := []) cv_X12_117_11 e dX12_kind_32 rfl rfl (Nat.le_of_ble_eq_true rfl) (Nat.le_of_eq (Nat.zero_add _)) (Nat.le_of_eq (Nat.zero_add _)) (b1 := (0, 0)) (b2 := (0, 0)) (Ev.mono hF ?_)
      intro r8 h9 hF
      obtain ⟨x10, rfl, hF⟩ := hF
      exact m_ireturn dX12_kind_35 trivial hF
    · replace hF := hF.2 c
      refine m_iload_n dX12_kind_26 rfl ?_
      refine m_goto 35 dX12_kind_27 (by decide) ?_
      exact m_ireturn dX12_kind_35 trivial hF
  · replace hF := hF.2 c
    refine m_ldc dX12_kind_12 kc_X12_98 ?_
    exact m_ireturn dX12_kind_14 trivial hF
theorem en_X12_kind {d : Nat} {r_0 : Nat} {x_1 : Int32} {h : mH} {K : Option Value → mH → Prop} (hk : Wm (d + 1) (0, 0) JX12_kind 0 [some (.ref r_0), some (.int x_1), none] [] h (fun r h' => h'.1 0 = h.1 0 ∧ K r h')) : Ev (d + 1) (0, 0) MX12_kind [.ref r_0, .int x_1] h K :=
  m_met pn_X12 nl_X12 (fun _ => Nat.le_of_ble_eq_true rfl) hk
theorem bk_X12_isOf_0 {d : Nat} (x_0 : Int32) (x_1 : Int32) {h : mH} {Q : Option Value → mH → Prop} (hF : ((x_1 = 0 → Q (some (.int 1)) h) ∧ (¬ (x_1 = 0) → ((x_0 = x_1 → Q (some (.int 1)) h) ∧ (¬ (x_0 = x_1) → ((¬ x_1 = 3 → ((¬ x_1 = 2 → Q (some (.int 0)) h) ∧ (x_1 = 2 → ((x_0 = 3 → Q (some (.int 1)) h) ∧ (¬ (x_0 = 3) → ((¬ x_0 = 4 → Q (some (.int 0)) h) ∧ (x_0 = 4 → Q (some (.int 1)) h))))))) ∧ (x_1 = 3 → ((x_0 = 4 → Q (some (.int 1)) h) ∧ (¬ (x_0 = 4) → ((¬ x_1 = 2 → Q (some (.int 0)) h) ∧ (x_1 = 2 → ((x_0 = 3 → Q (some (.int 1)) h) ∧ (¬ (x_0 = 3) → ((¬ x_0 = 4 → Q (some (.int 0)) h) ∧ (x_0 = 4 → Q (some (.int 1)) h))))))))))))))) : Wm d (0, 0) JX12_isOf 0 [some (.int x_0), some (.int x_1)] [] h Q := by
  refine m_iload_n dX12_isOf_0 rfl ?_
  refine m_if_eq 34 dX12_isOf_1 (by decide) (fun c => ?_) (fun c => ?_)
  · replace hF := hF.1 c
    refine m_iconst dX12_isOf_34 ki_1 ?_
    refine m_goto 39 dX12_isOf_35 (by decide) ?_
    exact m_ireturn dX12_isOf_39 (Or.inr rfl) hF
  · replace hF := hF.2 c
    refine m_iload_n dX12_isOf_4 rfl ?_
    refine m_iload_n dX12_isOf_5 rfl ?_
    refine m_icmp_eq 34 dX12_isOf_6 (by decide) (fun c => ?_) (fun c => ?_)
    · replace hF := hF.1 c
      refine m_iconst dX12_isOf_34 ki_1 ?_
      refine m_goto 39 dX12_isOf_35 (by decide) ?_
      exact m_ireturn dX12_isOf_39 (Or.inr rfl) hF
    · replace hF := hF.2 c
      refine m_iload_n dX12_isOf_9 rfl ?_
      refine m_iconst dX12_isOf_10 ki_3 ?_
      refine m_icmp_ne 19 dX12_isOf_11 (by decide) (fun c => ?_) (fun c => ?_)
      · replace hF := hF.1 c
        refine m_iload_n dX12_isOf_19 rfl ?_
        refine m_iconst dX12_isOf_20 ki_2 ?_
        refine m_icmp_ne 38 dX12_isOf_21 (by decide) (fun c => ?_) (fun c => ?_)
        · replace hF := hF.1 c
          refine m_iconst dX12_isOf_38 ki_0 ?_
          exact m_ireturn dX12_isOf_39 (Or.inl rfl) hF
        · replace hF := hF.2 c
          refine m_iload_n dX12_isOf_24 rfl ?_
          refine m_iconst dX12_isOf_25 ki_3 ?_
          refine m_icmp_eq 34 dX12_isOf_26 (by decide) (fun c => ?_) (fun c => ?_)
          · replace hF := hF.1 c
            refine m_iconst dX12_isOf_34 ki_1 ?_
            refine m_goto 39 dX12_isOf_35 (by decide) ?_
            exact m_ireturn dX12_isOf_39 (Or.inr rfl) hF
          · replace hF := hF.2 c
            refine m_iload_n dX12_isOf_29 rfl ?_
            refine m_iconst dX12_isOf_30 ki_4 ?_
            refine m_icmp_ne 38 dX12_isOf_31 (by decide) (fun c => ?_) (fun c => ?_)
            · replace hF := hF.1 c
              refine m_iconst dX12_isOf_38 ki_0 ?_
              exact m_ireturn dX12_isOf_39 (Or.inl rfl) hF
            · replace hF := hF.2 c
              refine m_iconst dX12_isOf_34 ki_1 ?_
              refine m_goto 39 dX12_isOf_35 (by decide) ?_
              exact m_ireturn dX12_isOf_39 (Or.inr rfl) hF
      · replace hF := hF.2 c
        refine m_iload_n dX12_isOf_14 rfl ?_
        refine m_iconst dX12_isOf_15 ki_4 ?_
        refine m_icmp_eq 34 dX12_isOf_16 (by decide) (fun c => ?_) (fun c => ?_)
        · replace hF := hF.1 c
          refine m_iconst dX12_isOf_34 ki_1 ?_
          refine m_goto 39 dX12_isOf_35 (by decide) ?_
          exact m_ireturn dX12_isOf_39 (Or.inr rfl) hF
        · replace hF := hF.2 c
          refine m_iload_n dX12_isOf_19 rfl ?_
          refine m_iconst dX12_isOf_20 ki_2 ?_
          refine m_icmp_ne 38 dX12_isOf_21 (by decide) (fun c => ?_) (fun c => ?_)
          · replace hF := hF.1 c
            refine m_iconst dX12_isOf_38 ki_0 ?_
            exact m_ireturn dX12_isOf_39 (Or.inl rfl) hF
          · replace hF := hF.2 c
            refine m_iload_n dX12_isOf_24 rfl ?_
            refine m_iconst dX12_isOf_25 ki_3 ?_
            refine m_icmp_eq 34 dX12_isOf_26 (by decide) (fun c => ?_) (fun c => ?_)
            · replace hF := hF.1 c
              refine m_iconst dX12_isOf_34 ki_1 ?_
              refine m_goto 39 dX12_isOf_35 (by decide) ?_
              exact m_ireturn dX12_isOf_39 (Or.inr rfl) hF
            · replace hF := hF.2 c
              refine m_iload_n dX12_isOf_29 rfl ?_
              refine m_iconst dX12_isOf_30 ki_4 ?_
              refine m_icmp_ne 38 dX12_isOf_31 (by decide) (fun c => ?_) (fun c => ?_)
              · replace hF := hF.1 c
                refine m_iconst dX12_isOf_38 ki_0 ?_
                exact m_ireturn dX12_isOf_39 (Or.inl rfl) hF
              · replace hF := hF.2 c
                refine m_iconst dX12_isOf_34 ki_1 ?_
                refine m_goto 39 dX12_isOf_35 (by decide) ?_
                exact m_ireturn dX12_isOf_39 (Or.inr rfl) hF
theorem en_X12_isOf {d : Nat} {x_0 : Int32} {x_1 : Int32} {h : mH} {K : Option Value → mH → Prop} (hk : Wm d (0, 0) JX12_isOf 0 [some (.int x_0), some (.int x_1)] [] h (fun r h' => h'.1 0 = h.1 0 ∧ K r h')) : Ev d (0, 0) MX12_isOf [.int x_0, .int x_1] h K :=
  m_met pn_X12 nl_X12 (fun _ => Nat.le_of_ble_eq_true rfl) hk
theorem bk_X12_is_0 {d : Nat} (r_0 : Nat) (x_1 : Int32) (x_2 : Int32) {h : mH} {Q : Option Value → mH → Prop} (hF : (∃ h1 : mH, m_put h r_0 11 0 (.int 0) = some h1 ∧ Ev d (0, 0) MX12_isPlace [.int x_1] h1 (fun r2 h3 => ∃ x4 : Int32, r2 = some (.int x4) ∧ ((x4 = 0 → Q (some (.int (-1000001))) h3) ∧ (¬ (x4 = 0) → Ev d (0, 0) MX12_in [.long x_2.toInt64, .long 0, .long 4] h3 (fun r5 h6 => ∃ x7 : Int32, r5 = some (.int x7) ∧ ((¬ x7 = 0 → (∃ r8 : Nat, m_fld h6 r_0 [11] 5 = some (.ref r8) ∧ (∃ x9 : Int32, m_il h6 r8 x_1 = some x9 ∧ ((x9 ≤ 0 → Q (some (.int 0)) h6) ∧ (¬ (x9 ≤ 0) → (∃ fs16 : List Value, (h6).1 r_0 = .inr (11, fs16) ∧ Ev d (0, 0) MX12_kindOf [.ref r_0, .int x_1] h6 (fun r10 h11 => ∃ x12 : Int32, r10 = some (.int x12) ∧ Ev d (0, 0) MX12_isOf [.int x12, .int x_2] h11 (fun r13 h14 => ∃ x15 : Int32, r13 = some (.int x15) ∧ ((x15 = 0 → Q (some (.int 0)) h14) ∧ (¬ (x15 = 0) → Q (some (.int 1)) h14)))))))))) ∧ (x7 = 0 → Q (some (.int (-1000001))) h6)))))))) : Wm (d + 1) (0, 0) JX12_is 0 [some (.ref r_0), some (.int x_1), some (.int x_2)] [] h Q := by
  refine m_aload_n dX12_is_0 rfl ?_
  refine m_iconst dX12_is_1 ki_0 ?_
  obtain ⟨h1, e, hF⟩ := hF
  refine m_putf fp_X12_78_11 dX12_is_2 trivial e ?_
  refine m_iload_n dX12_is_5 rfl ?_
  refine m_static (as := [.int x_1]) (rest := []) cs_X12_120 dX12_is_6 rfl rfl (Nat.le_of_ble_eq_true rfl) (Nat.le_of_eq (Nat.zero_add _)) (Nat.le_of_eq (Nat.zero_add _)) (b1 := (0, 0)) (b2 := (0, 0)) (Ev.mono hF ?_)
  intro r2 h3 hF
  obtain ⟨x4, rfl, hF⟩ := hF
  refine m_if_eq 24 dX12_is_9 (by decide) (fun c => ?_) (fun c => ?_)
  · replace hF := hF.1 c
    refine m_ldc dX12_is_24 kc_X12_98 ?_
    refine m_goto 55 dX12_is_26 (by decide) ?_
    exact m_ireturn dX12_is_55 trivial hF
  · replace hF := hF.2 c
    refine m_iload_n dX12_is_12 rfl ?_
    refine m_i2l dX12_is_13 ?_
    refine m_lconst dX12_is_14 kl_0 ?_
    refine m_ldc2_w dX12_is_15 kc_X12_182 ?_
    refine m_static (as := [.long x_2.toInt64, .long 0, .long 4]) (rest := []) cs_X12_88 dX12_is_18 rfl rfl (Nat.le_of_ble_eq_true rfl) (Nat.le_of_eq (Nat.zero_add _)) (Nat.le_of_eq (Nat.zero_add _)) (b1 := (0, 0)) (b2 := (0, 0)) (Ev.mono hF ?_)
    intro r5 h6 hF
    obtain ⟨x7, rfl, hF⟩ := hF
    refine m_if_ne 29 dX12_is_21 (by decide) (fun c => ?_) (fun c => ?_)
    · replace hF := hF.1 c
      refine m_aload_n dX12_is_29 rfl ?_
      obtain ⟨r8, e, hF⟩ := hF
      refine m_get fg_X12_19 dX12_is_30 e ?_
      refine m_iload_n dX12_is_33 rfl ?_
      obtain ⟨x9, e, hF⟩ := hF
      refine m_iald dX12_is_34 e ?_
      refine m_if_le 54 dX12_is_35 (by decide) (fun c => ?_) (fun c => ?_)
      · replace hF := hF.1 c
        refine m_iconst dX12_is_54 ki_0 ?_
        exact m_ireturn dX12_is_55 trivial hF
      · replace hF := hF.2 c
        refine m_aload_n dX12_is_38 rfl ?_
        refine m_iload_n dX12_is_39 rfl ?_
        obtain ⟨fs16, e, hF⟩ := hF
        refine m_virtual (as := [.int x_1]) (rest := []) cv_X12_117_11 e dX12_is_40 rfl rfl (Nat.le_of_ble_eq_true rfl) (Nat.le_of_eq (Nat.zero_add _)) (Nat.le_of_eq (Nat.zero_add _)) (b1 := (0, 0)) (b2 := (0, 0)) (Ev.mono hF ?_)
        intro r10 h11 hF
        obtain ⟨x12, rfl, hF⟩ := hF
        refine m_iload_n dX12_is_43 rfl ?_
        refine m_static (as := [.int x12, .int x_2]) (rest := []) cs_X12_184 dX12_is_44 rfl rfl (Nat.le_of_ble_eq_true rfl) (Nat.le_of_eq (Nat.zero_add _)) (Nat.le_of_eq (Nat.zero_add _)) (b1 := (0, 0)) (b2 := (0, 0)) (Ev.mono hF ?_)
        intro r13 h14 hF
        obtain ⟨x15, rfl, hF⟩ := hF
        refine m_if_eq 54 dX12_is_47 (by decide) (fun c => ?_) (fun c => ?_)
        · replace hF := hF.1 c
          refine m_iconst dX12_is_54 ki_0 ?_
          exact m_ireturn dX12_is_55 trivial hF
        · replace hF := hF.2 c
          refine m_iconst dX12_is_50 ki_1 ?_
          refine m_goto 55 dX12_is_51 (by decide) ?_
          exact m_ireturn dX12_is_55 trivial hF
    · replace hF := hF.2 c
      refine m_ldc dX12_is_24 kc_X12_98 ?_
      refine m_goto 55 dX12_is_26 (by decide) ?_
      exact m_ireturn dX12_is_55 trivial hF
theorem en_X12_is {d : Nat} {r_0 : Nat} {x_1 : Int32} {x_2 : Int32} {h : mH} {K : Option Value → mH → Prop} (hk : Wm (d + 1) (0, 0) JX12_is 0 [some (.ref r_0), some (.int x_1), some (.int x_2)] [] h (fun r h' => h'.1 0 = h.1 0 ∧ K r h')) : Ev (d + 1) (0, 0) MX12_is [.ref r_0, .int x_1, .int x_2] h K :=
  m_met pn_X12 nl_X12 (fun _ => Nat.le_of_ble_eq_true rfl) hk
theorem bk_X12_as_0 {d : Nat} (r_0 : Nat) (x_1 : Int32) (x_2 : Int32) {h : mH} {Q : Option Value → mH → Prop} (hF : (∃ h1 : mH, m_put h r_0 11 0 (.int 0) = some h1 ∧ Ev d (0, 0) MX12_isPlace [.int x_1] h1 (fun r2 h3 => ∃ x4 : Int32, r2 = some (.int x4) ∧ ((x4 = 0 → Q (some (.int (-1000001))) h3) ∧ (¬ (x4 = 0) → Ev d (0, 0) MX12_in [.long x_2.toInt64, .long 0, .long 4] h3 (fun r5 h6 => ∃ x7 : Int32, r5 = some (.int x7) ∧ ((¬ x7 = 0 → (∃ fs24 : List Value, (h6).1 r_0 = .inr (11, fs24) ∧ Ev d (0, 0) MX12_look [.ref r_0, .int x_1, .int 0] h6 (fun r8 h9 => ∃ x10 : Int32, r8 = some (.int x10) ∧ ((0 ≤ x10 → (∃ fs23 : List Value, (h9).1 r_0 = .inr (11, fs23) ∧ Ev d (0, 0) MX12_kindOf [.ref r_0, .int x_1] h9 (fun r11 h12 => ∃ x13 : Int32, r11 = some (.int x13) ∧ Ev d (0, 0) MX12_isOf [.int x13, .int x_2] h12 (fun r14 h15 => ∃ x16 : Int32, r14 = some (.int x16) ∧ ((x16 = 0 → (∃ fs20 : List Value, (h15).1 r_0 = .inr (11, fs20) ∧ Ev d (0, 0) MX12_found [.ref r_0, .int 3] h15 (fun r17 h18 => ∃ x19 : Int32, r17 = some (.int x19) ∧ Q (some (.int x19)) h18))) ∧ (¬ (x16 = 0) → (∃ r21 : Nat, m_fld h15 r_0 [11] 5 = some (.ref r21) ∧ (∃ x22 : Int32, m_il h15 r21 x_1 = some x22 ∧ Q (some (.int x22)) h15)))))))) ∧ (¬ (0 ≤ x10) → Q (some (.int x10)) h9))))) ∧ (x7 = 0 → Q (some (.int (-1000001))) h6)))))))) : Wm (d + 1) (0, 0) JX12_as 0 [some (.ref r_0), some (.int x_1), some (.int x_2), none] [] h Q := by
  refine m_aload_n dX12_as_0 rfl ?_
  refine m_iconst dX12_as_1 ki_0 ?_
  obtain ⟨h1, e, hF⟩ := hF
  refine m_putf fp_X12_78_11 dX12_as_2 trivial e ?_
  refine m_iload_n dX12_as_5 rfl ?_
  refine m_static (as := [.int x_1]) (rest := []) cs_X12_120 dX12_as_6 rfl rfl (Nat.le_of_ble_eq_true rfl) (Nat.le_of_eq (Nat.zero_add _)) (Nat.le_of_eq (Nat.zero_add _)) (b1 := (0, 0)) (b2 := (0, 0)) (Ev.mono hF ?_)
  intro r2 h3 hF
  obtain ⟨x4, rfl, hF⟩ := hF
  refine m_if_eq 24 dX12_as_9 (by decide) (fun c => ?_) (fun c => ?_)
  · replace hF := hF.1 c
    refine m_ldc dX12_as_24 kc_X12_98 ?_
    exact m_ireturn dX12_as_26 trivial hF
  · replace hF := hF.2 c
    refine m_iload_n dX12_as_12 rfl ?_
    refine m_i2l dX12_as_13 ?_
    refine m_lconst dX12_as_14 kl_0 ?_
    refine m_ldc2_w dX12_as_15 kc_X12_182 ?_
    refine m_static (as := [.long x_2.toInt64, .long 0, .long 4]) (rest := []) cs_X12_88 dX12_as_18 rfl rfl (Nat.le_of_ble_eq_true rfl) (Nat.le_of_eq (Nat.zero_add _)) (Nat.le_of_eq (Nat.zero_add _)) (b1 := (0, 0)) (b2 := (0, 0)) (Ev.mono hF ?_)
    intro r5 h6 hF
    obtain ⟨x7, rfl, hF⟩ := hF
    refine m_if_ne 27 dX12_as_21 (by decide) (fun c => ?_) (fun c => ?_)
    · replace hF := hF.1 c
      refine m_aload_n dX12_as_27 rfl ?_
      refine m_iload_n dX12_as_28 rfl ?_
      refine m_iconst dX12_as_29 ki_0 ?_
      obtain ⟨fs24, e, hF⟩ := hF
      refine m_virtual (as := [.int x_1, .int 0]) (rest := []) cv_X12_137_11 e dX12_as_30 rfl rfl (Nat.le_of_ble_eq_true rfl) (Nat.le_of_eq (Nat.zero_add _)) (Nat.le_of_eq (Nat.zero_add _)) (b1 := (0, 0)) (b2 := (0, 0)) (Ev.mono hF ?_)
      intro r8 h9 hF
      obtain ⟨x10, rfl, hF⟩ := hF
      refine m_istore_n (ls2 := [some (.ref r_0), some (.int x_1), some (.int x_2), some (.int x10)]) dX12_as_33 (by decide) rfl ?_
      refine m_iload_n dX12_as_34 rfl ?_
      refine m_if_ge 42 dX12_as_35 (by decide) (fun c => ?_) (fun c => ?_)
      · replace hF := hF.1 c
        refine m_aload_n dX12_as_42 rfl ?_
        refine m_iload_n dX12_as_43 rfl ?_
        obtain ⟨fs23, e, hF⟩ := hF
        refine m_virtual (as := [.int x_1]) (rest := []) cv_X12_117_11 e dX12_as_44 rfl rfl (Nat.le_of_ble_eq_true rfl) (Nat.le_of_eq (Nat.zero_add _)) (Nat.le_of_eq (Nat.zero_add _)) (b1 := (0, 0)) (b2 := (0, 0)) (Ev.mono hF ?_)
        intro r11 h12 hF
        obtain ⟨x13, rfl, hF⟩ := hF
        refine m_iload_n dX12_as_47 rfl ?_
        refine m_static (as := [.int x13, .int x_2]) (rest := []) cs_X12_184 dX12_as_48 rfl rfl (Nat.le_of_ble_eq_true rfl) (Nat.le_of_eq (Nat.zero_add _)) (Nat.le_of_eq (Nat.zero_add _)) (b1 := (0, 0)) (b2 := (0, 0)) (Ev.mono hF ?_)
        intro r14 h15 hF
        obtain ⟨x16, rfl, hF⟩ := hF
        refine m_if_eq 63 dX12_as_51 (by decide) (fun c => ?_) (fun c => ?_)
        · replace hF := hF.1 c
          refine m_aload_n dX12_as_63 rfl ?_
          refine m_iconst dX12_as_64 ki_3 ?_
          obtain ⟨fs20, e, hF⟩ := hF
          refine m_virtual (as := [.int 3]) (rest := []) cv_X12_99_11 e dX12_as_65 rfl rfl (Nat.le_of_ble_eq_true rfl) (Nat.le_of_eq (Nat.zero_add _)) (Nat.le_of_eq (Nat.zero_add _)) (b1 := (0, 0)) (b2 := (0, 0)) (Ev.mono hF ?_)
          intro r17 h18 hF
          obtain ⟨x19, rfl, hF⟩ := hF
          exact m_ireturn dX12_as_68 trivial hF
        · replace hF := hF.2 c
          refine m_aload_n dX12_as_54 rfl ?_
          obtain ⟨r21, e, hF⟩ := hF
          refine m_get fg_X12_19 dX12_as_55 e ?_
          refine m_iload_n dX12_as_58 rfl ?_
          obtain ⟨x22, e, hF⟩ := hF
          refine m_iald dX12_as_59 e ?_
          refine m_goto 68 dX12_as_60 (by decide) ?_
          exact m_ireturn dX12_as_68 trivial hF
      · replace hF := hF.2 c
        refine m_iload_n dX12_as_38 rfl ?_
        refine m_goto 68 dX12_as_39 (by decide) ?_
        exact m_ireturn dX12_as_68 trivial hF
    · replace hF := hF.2 c
      refine m_ldc dX12_as_24 kc_X12_98 ?_
      exact m_ireturn dX12_as_26 trivial hF
theorem en_X12_as {d : Nat} {r_0 : Nat} {x_1 : Int32} {x_2 : Int32} {h : mH} {K : Option Value → mH → Prop} (hk : Wm (d + 1) (0, 0) JX12_as 0 [some (.ref r_0), some (.int x_1), some (.int x_2), none] [] h (fun r h' => h'.1 0 = h.1 0 ∧ K r h')) : Ev (d + 1) (0, 0) MX12_as [.ref r_0, .int x_1, .int x_2] h K :=
  m_met pn_X12 nl_X12 (fun _ => Nat.le_of_ble_eq_true rfl) hk
theorem bk_X12_began_0 {d : Nat} (r_0 : Nat) (x_1 : Int32) {h : mH} {Q : Option Value → mH → Prop} (hF : (∃ x1 : Int32, m_fld h r_0 [11] 20 = some (.int x1) ∧ ((16 ≤ x1 → Q none h) ∧ (¬ (16 ≤ x1) → (∃ r2 : Nat, m_fld h r_0 [11] 19 = some (.ref r2) ∧ (∃ x3 : Int32, m_fld h r_0 [11] 20 = some (.int x3) ∧ (∃ h4 : mH, m_is h r2 x3 x_1 = some h4 ∧ (∃ x5 : Int32, m_fld h4 r_0 [11] 20 = some (.int x5) ∧ (∃ h6 : mH, m_put h4 r_0 11 20 (.int (x5 + 1)) = some h6 ∧ Q none h6))))))))) : Wm d (0, 0) JX12_began 0 [some (.ref r_0), some (.int x_1)] [] h Q := by
  refine m_aload_n dX12_began_0 rfl ?_
  obtain ⟨x1, e, hF⟩ := hF
  refine m_get fg_X12_187 dX12_began_1 e ?_
  refine m_bipush dX12_began_4 kb_16 ?_
  refine m_icmp_ge 29 dX12_began_6 (by decide) (fun c => ?_) (fun c => ?_)
  · replace hF := hF.1 c
    exact m_return dX12_began_29 trivial hF
  · replace hF := hF.2 c
    refine m_aload_n dX12_began_9 rfl ?_
    obtain ⟨r2, e, hF⟩ := hF
    refine m_get fg_X12_62 dX12_began_10 e ?_
    refine m_aload_n dX12_began_13 rfl ?_
    obtain ⟨x3, e, hF⟩ := hF
    refine m_get fg_X12_187 dX12_began_14 e ?_
    refine m_iload_n dX12_began_17 rfl ?_
    obtain ⟨h4, e, hF⟩ := hF
    refine m_iast dX12_began_18 e ?_
    refine m_aload_n dX12_began_19 rfl ?_
    refine m_dup dX12_began_20 rfl ?_
    obtain ⟨x5, e, hF⟩ := hF
    refine m_get fg_X12_187 dX12_began_21 e ?_
    refine m_iconst dX12_began_24 ki_1 ?_
    refine m_iadd dX12_began_25 ?_
    obtain ⟨h6, e, hF⟩ := hF
    refine m_putf fp_X12_187_11 dX12_began_26 trivial e ?_
    exact m_return dX12_began_29 trivial hF
theorem en_X12_began {d : Nat} {r_0 : Nat} {x_1 : Int32} {h : mH} {K : Option Value → mH → Prop} (hk : Wm d (0, 0) JX12_began 0 [some (.ref r_0), some (.int x_1)] [] h (fun r h' => h'.1 0 = h.1 0 ∧ K r h')) : Ev d (0, 0) MX12_began [.ref r_0, .int x_1] h K :=
  m_met pn_X12 nl_X12 (fun _ => Nat.le_of_ble_eq_true rfl) hk
theorem bk_X12_marked_0 {d : Nat} (r_0 : Nat) (x_1 : Int32) {h : mH} {Q : Option Value → mH → Prop} (hF : (∃ fs19 : List Value, (h).1 r_0 = .inr (11, fs19) ∧ Ev d (0, 0) MX12_kindOf [.ref r_0, .int x_1] h (fun r1 h2 => ∃ x3 : Int32, r1 = some (.int x3) ∧ ((¬ x3 = 4 → Ev d (0, 0) MX12_isOf [.int x3, .int 2] h2 (fun r4 h5 => ∃ x6 : Int32, r4 = some (.int x6) ∧ ((x6 = 0 → Wm (d + 1) (0, 0) JX12_marked 31 [some (.ref r_0), some (.int x_1), some (.int x3)] [] h5 Q) ∧ (¬ (x6 = 0) → (∃ fs9 : List Value, (h5).1 r_0 = .inr (11, fs9) ∧ Ev d (0, 0) MX12_began [.ref r_0, .int 21] h5 (fun r7 h8 => r7 = none ∧ Wm (d + 1) (0, 0) JX12_marked 31 [some (.ref r_0), some (.int x_1), some (.int x3)] [] h8 Q)))))) ∧ (x3 = 4 → (∃ fs18 : List Value, (h2).1 r_0 = .inr (11, fs18) ∧ Ev d (0, 0) MX12_began [.ref r_0, .int 22] h2 (fun r10 h11 => r10 = none ∧ Ev d (0, 0) MX12_isOf [.int x3, .int 2] h11 (fun r12 h13 => ∃ x14 : Int32, r12 = some (.int x14) ∧ ((x14 = 0 → Wm (d + 1) (0, 0) JX12_marked 31 [some (.ref r_0), some (.int x_1), some (.int x3)] [] h13 Q) ∧ (¬ (x14 = 0) → (∃ fs17 : List Value, (h13).1 r_0 = .inr (11, fs17) ∧ Ev d (0, 0) MX12_began [.ref r_0, .int 21] h13 (fun r15 h16 => r15 = none ∧ Wm (d + 1) (0, 0) JX12_marked 31 [some (.ref r_0), some (.int x_1), some (.int x3)] [] h16 Q)))))))))))) : Wm (d + 1) (0, 0) JX12_marked 0 [some (.ref r_0), some (.int x_1), none] [] h Q := by
  refine m_aload_n dX12_marked_0 rfl ?_
  refine m_iload_n dX12_marked_1 rfl ?_
  obtain ⟨fs19, e, hF⟩ := hF
  refine m_virtual (as := [.int x_1]) (rest := []) cv_X12_117_11 e dX12_marked_2 rfl rfl (Nat.le_of_ble_eq_true rfl) (Nat.le_of_eq (Nat.zero_add _)) (Nat.le_of_eq (Nat.zero_add _)) (b1 := (0, 0)) (b2 := (0, 0)) (Ev.mono hF ?_)
  intro r1 h2 hF
  obtain ⟨x3, rfl, hF⟩ := hF
  refine m_istore_n (ls2 := [some (.ref r_0), some (.int x_1), some (.int x3)]) dX12_marked_5 (by decide) rfl ?_
  refine m_iload_n dX12_marked_6 rfl ?_
  refine m_iconst dX12_marked_7 ki_4 ?_
  refine m_icmp_ne 17 dX12_marked_8 (by decide) (fun c => ?_) (fun c => ?_)
  · replace hF := hF.1 c
    refine m_iload_n dX12_marked_17 rfl ?_
    refine m_iconst dX12_marked_18 ki_2 ?_
    refine m_static (as := [.int x3, .int 2]) (rest := []) cs_X12_184 dX12_marked_19 rfl rfl (Nat.le_of_ble_eq_true rfl) (Nat.le_of_eq (Nat.zero_add _)) (Nat.le_of_eq (Nat.zero_add _)) (b1 := (0, 0)) (b2 := (0, 0)) (Ev.mono hF ?_)
    intro r4 h5 hF
    obtain ⟨x6, rfl, hF⟩ := hF
    refine m_if_eq 31 dX12_marked_22 (by decide) (fun c => ?_) (fun c => ?_)
    · replace hF := hF.1 c
      exact hF
    · replace hF := hF.2 c
      refine m_aload_n dX12_marked_25 rfl ?_
      refine m_bipush dX12_marked_26 kb_21 ?_
      obtain ⟨fs9, e, hF⟩ := hF
      refine m_virtual (as := [.int 21]) (rest := []) cv_X12_190_11 e dX12_marked_28 rfl rfl (Nat.le_of_ble_eq_true rfl) (Nat.le_of_eq (Nat.zero_add _)) (Nat.le_of_eq (Nat.zero_add _)) (b1 := (0, 0)) (b2 := (0, 0)) (Ev.mono hF ?_)
      intro r7 h8 hF
      obtain ⟨rfl, hF⟩ := hF
      exact hF
  · replace hF := hF.2 c
    refine m_aload_n dX12_marked_11 rfl ?_
    refine m_bipush dX12_marked_12 kb_22 ?_
    obtain ⟨fs18, e, hF⟩ := hF
    refine m_virtual (as := [.int 22]) (rest := []) cv_X12_190_11 e dX12_marked_14 rfl rfl (Nat.le_of_ble_eq_true rfl) (Nat.le_of_eq (Nat.zero_add _)) (Nat.le_of_eq (Nat.zero_add _)) (b1 := (0, 0)) (b2 := (0, 0)) (Ev.mono hF ?_)
    intro r10 h11 hF
    obtain ⟨rfl, hF⟩ := hF
    refine m_iload_n dX12_marked_17 rfl ?_
    refine m_iconst dX12_marked_18 ki_2 ?_
    refine m_static (as := [.int x3, .int 2]) (rest := []) cs_X12_184 dX12_marked_19 rfl rfl (Nat.le_of_ble_eq_true rfl) (Nat.le_of_eq (Nat.zero_add _)) (Nat.le_of_eq (Nat.zero_add _)) (b1 := (0, 0)) (b2 := (0, 0)) (Ev.mono hF ?_)
    intro r12 h13 hF
    obtain ⟨x14, rfl, hF⟩ := hF
    refine m_if_eq 31 dX12_marked_22 (by decide) (fun c => ?_) (fun c => ?_)
    · replace hF := hF.1 c
      exact hF
    · replace hF := hF.2 c
      refine m_aload_n dX12_marked_25 rfl ?_
      refine m_bipush dX12_marked_26 kb_21 ?_
      obtain ⟨fs17, e, hF⟩ := hF
      refine m_virtual (as := [.int 21]) (rest := []) cv_X12_190_11 e dX12_marked_28 rfl rfl (Nat.le_of_ble_eq_true rfl) (Nat.le_of_eq (Nat.zero_add _)) (Nat.le_of_eq (Nat.zero_add _)) (b1 := (0, 0)) (b2 := (0, 0)) (Ev.mono hF ?_)
      intro r15 h16 hF
      obtain ⟨rfl, hF⟩ := hF
      exact hF
theorem bk_X12_marked_31 {d : Nat} (r_0 : Nat) (x_1 : Int32) (x_2 : Int32) {h : mH} {Q : Option Value → mH → Prop} (hF : (∃ fs18 : List Value, (h).1 r_0 = .inr (11, fs18) ∧ Ev d (0, 0) MX12_began [.ref r_0, .int 20] h (fun r1 h2 => r1 = none ∧ (∃ fs17 : List Value, (h2).1 r_0 = .inr (11, fs17) ∧ Ev d (0, 0) MX12_parts [.ref r_0, .int x_1] h2 (fun r3 h4 => ∃ x5 : Int32, r3 = some (.int x5) ∧ Ev d (0, 0) MX12_isOf [.int x_2, .int 2] h4 (fun r6 h7 => ∃ x8 : Int32, r6 = some (.int x8) ∧ ((x8 = 0 → ((¬ x_2 = 4 → Q (some (.int ((x5 + 0) + 0))) h7) ∧ (x_2 = 4 → (∃ fs12 : List Value, (h7).1 r_0 = .inr (11, fs12) ∧ Ev d (0, 0) MX12_rounds [.ref r_0, .int x_1, .int 2] h7 (fun r9 h10 => ∃ x11 : Int32, r9 = some (.int x11) ∧ Q (some (.int ((x5 + 0) + x11))) h10))))) ∧ (¬ (x8 = 0) → ((¬ x_2 = 4 → Q (some (.int ((x5 + 100) + 0))) h7) ∧ (x_2 = 4 → (∃ fs16 : List Value, (h7).1 r_0 = .inr (11, fs16) ∧ Ev d (0, 0) MX12_rounds [.ref r_0, .int x_1, .int 2] h7 (fun r13 h14 => ∃ x15 : Int32, r13 = some (.int x15) ∧ Q (some (.int ((x5 + 100) + x15))) h14)))))))))))) : Wm (d + 1) (0, 0) JX12_marked 31 [some (.ref r_0), some (.int x_1), some (.int x_2)] [] h Q := by
  refine m_aload_n dX12_marked_31 rfl ?_
  refine m_bipush dX12_marked_32 kb_20 ?_
  obtain ⟨fs18, e, hF⟩ := hF
  refine m_virtual (as := [.int 20]) (rest := []) cv_X12_190_11 e dX12_marked_34 rfl rfl (Nat.le_of_ble_eq_true rfl) (Nat.le_of_eq (Nat.zero_add _)) (Nat.le_of_eq (Nat.zero_add _)) (b1 := (0, 0)) (b2 := (0, 0)) (Ev.mono hF ?_)
  intro r1 h2 hF
  obtain ⟨rfl, hF⟩ := hF
  refine m_aload_n dX12_marked_37 rfl ?_
  refine m_iload_n dX12_marked_38 rfl ?_
  obtain ⟨fs17, e, hF⟩ := hF
  refine m_virtual (as := [.int x_1]) (rest := []) cv_X12_134_11 e dX12_marked_39 rfl rfl (Nat.le_of_ble_eq_true rfl) (Nat.le_of_eq (Nat.zero_add _)) (Nat.le_of_eq (Nat.zero_add _)) (b1 := (0, 0)) (b2 := (0, 0)) (Ev.mono hF ?_)
  intro r3 h4 hF
  obtain ⟨x5, rfl, hF⟩ := hF
  refine m_iload_n dX12_marked_42 rfl ?_
  refine m_iconst dX12_marked_43 ki_2 ?_
  refine m_static (as := [.int x_2, .int 2]) (rest := [.int x5]) cs_X12_184 dX12_marked_44 rfl rfl (Nat.le_of_ble_eq_true rfl) (Nat.le_of_eq (Nat.zero_add _)) (Nat.le_of_eq (Nat.zero_add _)) (b1 := (0, 0)) (b2 := (0, 0)) (Ev.mono hF ?_)
  intro r6 h7 hF
  obtain ⟨x8, rfl, hF⟩ := hF
  refine m_if_eq 55 dX12_marked_47 (by decide) (fun c => ?_) (fun c => ?_)
  · replace hF := hF.1 c
    refine m_iconst dX12_marked_55 ki_0 ?_
    refine m_iadd dX12_marked_56 ?_
    refine m_iload_n dX12_marked_57 rfl ?_
    refine m_iconst dX12_marked_58 ki_4 ?_
    refine m_icmp_ne 71 dX12_marked_59 (by decide) (fun c => ?_) (fun c => ?_)
    · replace hF := hF.1 c
      refine m_iconst dX12_marked_71 ki_0 ?_
      refine m_iadd dX12_marked_72 ?_
      exact m_ireturn dX12_marked_73 trivial hF
    · replace hF := hF.2 c
      refine m_aload_n dX12_marked_62 rfl ?_
      refine m_iload_n dX12_marked_63 rfl ?_
      refine m_iconst dX12_marked_64 ki_2 ?_
      obtain ⟨fs12, e, hF⟩ := hF
      refine m_virtual (as := [.int x_1, .int 2]) (rest := [.int (x5 + 0)]) cv_X12_109_11 e dX12_marked_65 rfl rfl (Nat.le_of_ble_eq_true rfl) (Nat.le_of_eq (Nat.zero_add _)) (Nat.le_of_eq (Nat.zero_add _)) (b1 := (0, 0)) (b2 := (0, 0)) (Ev.mono hF ?_)
      intro r9 h10 hF
      obtain ⟨x11, rfl, hF⟩ := hF
      refine m_goto 72 dX12_marked_68 (by decide) ?_
      refine m_iadd dX12_marked_72 ?_
      exact m_ireturn dX12_marked_73 trivial hF
  · replace hF := hF.2 c
    refine m_bipush dX12_marked_50 kb_100 ?_
    refine m_goto 56 dX12_marked_52 (by decide) ?_
    refine m_iadd dX12_marked_56 ?_
    refine m_iload_n dX12_marked_57 rfl ?_
    refine m_iconst dX12_marked_58 ki_4 ?_
    refine m_icmp_ne 71 dX12_marked_59 (by decide) (fun c => ?_) (fun c => ?_)
    · replace hF := hF.1 c
      refine m_iconst dX12_marked_71 ki_0 ?_
      refine m_iadd dX12_marked_72 ?_
      exact m_ireturn dX12_marked_73 trivial hF
    · replace hF := hF.2 c
      refine m_aload_n dX12_marked_62 rfl ?_
      refine m_iload_n dX12_marked_63 rfl ?_
      refine m_iconst dX12_marked_64 ki_2 ?_
      obtain ⟨fs16, e, hF⟩ := hF
      refine m_virtual (as := [.int x_1, .int 2]) (rest := [.int (x5 + 100)]) cv_X12_109_11 e dX12_marked_65 rfl rfl (Nat.le_of_ble_eq_true rfl) (Nat.le_of_eq (Nat.zero_add _)) (Nat.le_of_eq (Nat.zero_add _)) (b1 := (0, 0)) (b2 := (0, 0)) (Ev.mono hF ?_)
      intro r13 h14 hF
      obtain ⟨x15, rfl, hF⟩ := hF
      refine m_goto 72 dX12_marked_68 (by decide) ?_
      refine m_iadd dX12_marked_72 ?_
      exact m_ireturn dX12_marked_73 trivial hF
theorem en_X12_marked {d : Nat} {r_0 : Nat} {x_1 : Int32} {h : mH} {K : Option Value → mH → Prop} (hk : Wm (d + 1) (0, 0) JX12_marked 0 [some (.ref r_0), some (.int x_1), none] [] h (fun r h' => h'.1 0 = h.1 0 ∧ K r h')) : Ev (d + 1) (0, 0) MX12_marked [.ref r_0, .int x_1] h K :=
  m_met pn_X12 nl_X12 (fun _ => Nat.le_of_ble_eq_true rfl) hk
theorem bk_X12_sized_0 {d : Nat} (r_0 : Nat) (x_1 : Int32) {h : mH} {Q : Option Value → mH → Prop} (hF : (∃ fs53 : List Value, (h).1 r_0 = .inr (11, fs53) ∧ Ev d (0, 0) MX12_kindOf [.ref r_0, .int x_1] h (fun r1 h2 => ∃ x3 : Int32, r1 = some (.int x3) ∧ ((¬ x3 = 1 → ((¬ x3 = 4 → Ev d (0, 0) MX12_isOf [.int x3, .int 3] h2 (fun r4 h5 => ∃ x6 : Int32, r4 = some (.int x6) ∧ ((x6 = 0 → Ev d (0, 0) MX12_isOf [.int x3, .int 2] h5 (fun r7 h8 => ∃ x9 : Int32, r7 = some (.int x9) ∧ ((x9 = 0 → Wm (d + 1) (0, 0) JX12_sized 76 [some (.ref r_0), some (.int x_1), some (.int x3), none] [] h8 Q) ∧ (¬ (x9 = 0) → (∃ fs12 : List Value, (h8).1 r_0 = .inr (11, fs12) ∧ Ev d (0, 0) MX12_began [.ref r_0, .int 12] h8 (fun r10 h11 => r10 = none ∧ Wm (d + 1) (0, 0) JX12_sized 76 [some (.ref r_0), some (.int x_1), some (.int x3), none] [] h11 Q)))))) ∧ (¬ (x6 = 0) → (∃ fs21 : List Value, (h5).1 r_0 = .inr (11, fs21) ∧ Ev d (0, 0) MX12_began [.ref r_0, .int 13] h5 (fun r13 h14 => r13 = none ∧ Ev d (0, 0) MX12_isOf [.int x3, .int 2] h14 (fun r15 h16 => ∃ x17 : Int32, r15 = some (.int x17) ∧ ((x17 = 0 → Wm (d + 1) (0, 0) JX12_sized 76 [some (.ref r_0), some (.int x_1), some (.int x3), none] [] h16 Q) ∧ (¬ (x17 = 0) → (∃ fs20 : List Value, (h16).1 r_0 = .inr (11, fs20) ∧ Ev d (0, 0) MX12_began [.ref r_0, .int 12] h16 (fun r18 h19 => r18 = none ∧ Wm (d + 1) (0, 0) JX12_sized 76 [some (.ref r_0), some (.int x_1), some (.int x3), none] [] h19 Q))))))))))) ∧ (x3 = 4 → (∃ fs42 : List Value, (h2).1 r_0 = .inr (11, fs42) ∧ Ev d (0, 0) MX12_began [.ref r_0, .int 14] h2 (fun r22 h23 => r22 = none ∧ Ev d (0, 0) MX12_isOf [.int x3, .int 3] h23 (fun r24 h25 => ∃ x26 : Int32, r24 = some (.int x26) ∧ ((x26 = 0 → Ev d (0, 0) MX12_isOf [.int x3, .int 2] h25 (fun r27 h28 => ∃ x29 : Int32, r27 = some (.int x29) ∧ ((x29 = 0 → Wm (d + 1) (0, 0) JX12_sized 76 [some (.ref r_0), some (.int x_1), some (.int x3), none] [] h28 Q) ∧ (¬ (x29 = 0) → (∃ fs32 : List Value, (h28).1 r_0 = .inr (11, fs32) ∧ Ev d (0, 0) MX12_began [.ref r_0, .int 12] h28 (fun r30 h31 => r30 = none ∧ Wm (d + 1) (0, 0) JX12_sized 76 [some (.ref r_0), some (.int x_1), some (.int x3), none] [] h31 Q)))))) ∧ (¬ (x26 = 0) → (∃ fs41 : List Value, (h25).1 r_0 = .inr (11, fs41) ∧ Ev d (0, 0) MX12_began [.ref r_0, .int 13] h25 (fun r33 h34 => r33 = none ∧ Ev d (0, 0) MX12_isOf [.int x3, .int 2] h34 (fun r35 h36 => ∃ x37 : Int32, r35 = some (.int x37) ∧ ((x37 = 0 → Wm (d + 1) (0, 0) JX12_sized 76 [some (.ref r_0), some (.int x_1), some (.int x3), none] [] h36 Q) ∧ (¬ (x37 = 0) → (∃ fs40 : List Value, (h36).1 r_0 = .inr (11, fs40) ∧ Ev d (0, 0) MX12_began [.ref r_0, .int 12] h36 (fun r38 h39 => r38 = none ∧ Wm (d + 1) (0, 0) JX12_sized 76 [some (.ref r_0), some (.int x_1), some (.int x3), none] [] h39 Q))))))))))))))) ∧ (x3 = 1 → (∃ fs52 : List Value, (h2).1 r_0 = .inr (11, fs52) ∧ Ev d (0, 0) MX12_began [.ref r_0, .int 11] h2 (fun r43 h44 => r43 = none ∧ (∃ fs51 : List Value, (h44).1 r_0 = .inr (11, fs51) ∧ Ev d (0, 0) MX12_began [.ref r_0, .int 10] h44 (fun r45 h46 => r45 = none ∧ (∃ r47 : Nat, m_fld h46 r_0 [11] 5 = some (.ref r47) ∧ (∃ x48 : Int32, m_il h46 r47 x_1 = some x48 ∧ (∃ r49 : Nat, m_fld h46 r_0 [11] 6 = some (.ref r49) ∧ (∃ x50 : Int32, m_il h46 r49 x_1 = some x50 ∧ Q (some (.int (x48 + x50))) h46))))))))))))) : Wm (d + 1) (0, 0) JX12_sized 0 [some (.ref r_0), some (.int x_1), none, none] [] h Q := by
  refine m_aload_n dX12_sized_0 rfl ?_
  refine m_iload_n dX12_sized_1 rfl ?_
  obtain ⟨fs53, e, hF⟩ := hF
  refine m_virtual (as := [.int x_1]) (rest := []) cv_X12_117_11 e dX12_sized_2 rfl rfl (Nat.le_of_ble_eq_true rfl) (Nat.le_of_eq (Nat.zero_add _)) (Nat.le_of_eq (Nat.zero_add _)) (b1 := (0, 0)) (b2 := (0, 0)) (Ev.mono hF ?_)
  intro r1 h2 hF
  obtain ⟨x3, rfl, hF⟩ := hF
  refine m_istore_n (ls2 := [some (.ref r_0), some (.int x_1), some (.int x3), none]) dX12_sized_5 (by decide) rfl ?_
  refine m_iload_n dX12_sized_6 rfl ?_
  refine m_iconst dX12_sized_7 ki_1 ?_
  refine m_icmp_ne 37 dX12_sized_8 (by decide) (fun c => ?_) (fun c => ?_)
  · replace hF := hF.1 c
    refine m_iload_n dX12_sized_37 rfl ?_
    refine m_iconst dX12_sized_38 ki_4 ?_
    refine m_icmp_ne 48 dX12_sized_39 (by decide) (fun c => ?_) (fun c => ?_)
    · replace hF := hF.1 c
      refine m_iload_n dX12_sized_48 rfl ?_
      refine m_iconst dX12_sized_49 ki_3 ?_
      refine m_static (as := [.int x3, .int 3]) (rest := []) cs_X12_184 dX12_sized_50 rfl rfl (Nat.le_of_ble_eq_true rfl) (Nat.le_of_eq (Nat.zero_add _)) (Nat.le_of_eq (Nat.zero_add _)) (b1 := (0, 0)) (b2 := (0, 0)) (Ev.mono hF ?_)
      intro r4 h5 hF
      obtain ⟨x6, rfl, hF⟩ := hF
      refine m_if_eq 62 dX12_sized_53 (by decide) (fun c => ?_) (fun c => ?_)
      · replace hF := hF.1 c
        refine m_iload_n dX12_sized_62 rfl ?_
        refine m_iconst dX12_sized_63 ki_2 ?_
        refine m_static (as := [.int x3, .int 2]) (rest := []) cs_X12_184 dX12_sized_64 rfl rfl (Nat.le_of_ble_eq_true rfl) (Nat.le_of_eq (Nat.zero_add _)) (Nat.le_of_eq (Nat.zero_add _)) (b1 := (0, 0)) (b2 := (0, 0)) (Ev.mono hF ?_)
        intro r7 h8 hF
        obtain ⟨x9, rfl, hF⟩ := hF
        refine m_if_eq 76 dX12_sized_67 (by decide) (fun c => ?_) (fun c => ?_)
        · replace hF := hF.1 c
          exact hF
        · replace hF := hF.2 c
          refine m_aload_n dX12_sized_70 rfl ?_
          refine m_bipush dX12_sized_71 kb_12 ?_
          obtain ⟨fs12, e, hF⟩ := hF
          refine m_virtual (as := [.int 12]) (rest := []) cv_X12_190_11 e dX12_sized_73 rfl rfl (Nat.le_of_ble_eq_true rfl) (Nat.le_of_eq (Nat.zero_add _)) (Nat.le_of_eq (Nat.zero_add _)) (b1 := (0, 0)) (b2 := (0, 0)) (Ev.mono hF ?_)
          intro r10 h11 hF
          obtain ⟨rfl, hF⟩ := hF
          exact hF
      · replace hF := hF.2 c
        refine m_aload_n dX12_sized_56 rfl ?_
        refine m_bipush dX12_sized_57 kb_13 ?_
        obtain ⟨fs21, e, hF⟩ := hF
        refine m_virtual (as := [.int 13]) (rest := []) cv_X12_190_11 e dX12_sized_59 rfl rfl (Nat.le_of_ble_eq_true rfl) (Nat.le_of_eq (Nat.zero_add _)) (Nat.le_of_eq (Nat.zero_add _)) (b1 := (0, 0)) (b2 := (0, 0)) (Ev.mono hF ?_)
        intro r13 h14 hF
        obtain ⟨rfl, hF⟩ := hF
        refine m_iload_n dX12_sized_62 rfl ?_
        refine m_iconst dX12_sized_63 ki_2 ?_
        refine m_static (as := [.int x3, .int 2]) (rest := []) cs_X12_184 dX12_sized_64 rfl rfl (Nat.le_of_ble_eq_true rfl) (Nat.le_of_eq (Nat.zero_add _)) (Nat.le_of_eq (Nat.zero_add _)) (b1 := (0, 0)) (b2 := (0, 0)) (Ev.mono hF ?_)
        intro r15 h16 hF
        obtain ⟨x17, rfl, hF⟩ := hF
        refine m_if_eq 76 dX12_sized_67 (by decide) (fun c => ?_) (fun c => ?_)
        · replace hF := hF.1 c
          exact hF
        · replace hF := hF.2 c
          refine m_aload_n dX12_sized_70 rfl ?_
          refine m_bipush dX12_sized_71 kb_12 ?_
          obtain ⟨fs20, e, hF⟩ := hF
          refine m_virtual (as := [.int 12]) (rest := []) cv_X12_190_11 e dX12_sized_73 rfl rfl (Nat.le_of_ble_eq_true rfl) (Nat.le_of_eq (Nat.zero_add _)) (Nat.le_of_eq (Nat.zero_add _)) (b1 := (0, 0)) (b2 := (0, 0)) (Ev.mono hF ?_)
          intro r18 h19 hF
          obtain ⟨rfl, hF⟩ := hF
          exact hF
    · replace hF := hF.2 c
      refine m_aload_n dX12_sized_42 rfl ?_
      refine m_bipush dX12_sized_43 kb_14 ?_
      obtain ⟨fs42, e, hF⟩ := hF
      refine m_virtual (as := [.int 14]) (rest := []) cv_X12_190_11 e dX12_sized_45 rfl rfl (Nat.le_of_ble_eq_true rfl) (Nat.le_of_eq (Nat.zero_add _)) (Nat.le_of_eq (Nat.zero_add _)) (b1 := (0, 0)) (b2 := (0, 0)) (Ev.mono hF ?_)
      intro r22 h23 hF
      obtain ⟨rfl, hF⟩ := hF
      refine m_iload_n dX12_sized_48 rfl ?_
      refine m_iconst dX12_sized_49 ki_3 ?_
      refine m_static (as := [.int x3, .int 3]) (rest := []) cs_X12_184 dX12_sized_50 rfl rfl (Nat.le_of_ble_eq_true rfl) (Nat.le_of_eq (Nat.zero_add _)) (Nat.le_of_eq (Nat.zero_add _)) (b1 := (0, 0)) (b2 := (0, 0)) (Ev.mono hF ?_)
      intro r24 h25 hF
      obtain ⟨x26, rfl, hF⟩ := hF
      refine m_if_eq 62 dX12_sized_53 (by decide) (fun c => ?_) (fun c => ?_)
      · replace hF := hF.1 c
        refine m_iload_n dX12_sized_62 rfl ?_
        refine m_iconst dX12_sized_63 ki_2 ?_
        refine m_static (as := [.int x3, .int 2]) (rest := []) cs_X12_184 dX12_sized_64 rfl rfl (Nat.le_of_ble_eq_true rfl) (Nat.le_of_eq (Nat.zero_add _)) (Nat.le_of_eq (Nat.zero_add _)) (b1 := (0, 0)) (b2 := (0, 0)) (Ev.mono hF ?_)
        intro r27 h28 hF
        obtain ⟨x29, rfl, hF⟩ := hF
        refine m_if_eq 76 dX12_sized_67 (by decide) (fun c => ?_) (fun c => ?_)
        · replace hF := hF.1 c
          exact hF
        · replace hF := hF.2 c
          refine m_aload_n dX12_sized_70 rfl ?_
          refine m_bipush dX12_sized_71 kb_12 ?_
          obtain ⟨fs32, e, hF⟩ := hF
          refine m_virtual (as := [.int 12]) (rest := []) cv_X12_190_11 e dX12_sized_73 rfl rfl (Nat.le_of_ble_eq_true rfl) (Nat.le_of_eq (Nat.zero_add _)) (Nat.le_of_eq (Nat.zero_add _)) (b1 := (0, 0)) (b2 := (0, 0)) (Ev.mono hF ?_)
          intro r30 h31 hF
          obtain ⟨rfl, hF⟩ := hF
          exact hF
      · replace hF := hF.2 c
        refine m_aload_n dX12_sized_56 rfl ?_
        refine m_bipush dX12_sized_57 kb_13 ?_
        obtain ⟨fs41, e, hF⟩ := hF
        refine m_virtual (as := [.int 13]) (rest := []) cv_X12_190_11 e dX12_sized_59 rfl rfl (Nat.le_of_ble_eq_true rfl) (Nat.le_of_eq (Nat.zero_add _)) (Nat.le_of_eq (Nat.zero_add _)) (b1 := (0, 0)) (b2 := (0, 0)) (Ev.mono hF ?_)
        intro r33 h34 hF
        obtain ⟨rfl, hF⟩ := hF
        refine m_iload_n dX12_sized_62 rfl ?_
        refine m_iconst dX12_sized_63 ki_2 ?_
        refine m_static (as := [.int x3, .int 2]) (rest := []) cs_X12_184 dX12_sized_64 rfl rfl (Nat.le_of_ble_eq_true rfl) (Nat.le_of_eq (Nat.zero_add _)) (Nat.le_of_eq (Nat.zero_add _)) (b1 := (0, 0)) (b2 := (0, 0)) (Ev.mono hF ?_)
        intro r35 h36 hF
        obtain ⟨x37, rfl, hF⟩ := hF
        refine m_if_eq 76 dX12_sized_67 (by decide) (fun c => ?_) (fun c => ?_)
        · replace hF := hF.1 c
          exact hF
        · replace hF := hF.2 c
          refine m_aload_n dX12_sized_70 rfl ?_
          refine m_bipush dX12_sized_71 kb_12 ?_
          obtain ⟨fs40, e, hF⟩ := hF
          refine m_virtual (as := [.int 12]) (rest := []) cv_X12_190_11 e dX12_sized_73 rfl rfl (Nat.le_of_ble_eq_true rfl) (Nat.le_of_eq (Nat.zero_add _)) (Nat.le_of_eq (Nat.zero_add _)) (b1 := (0, 0)) (b2 := (0, 0)) (Ev.mono hF ?_)
          intro r38 h39 hF
          obtain ⟨rfl, hF⟩ := hF
          exact hF
  · replace hF := hF.2 c
    refine m_aload_n dX12_sized_11 rfl ?_
    refine m_bipush dX12_sized_12 kb_11 ?_
    obtain ⟨fs52, e, hF⟩ := hF
    refine m_virtual (as := [.int 11]) (rest := []) cv_X12_190_11 e dX12_sized_14 rfl rfl (Nat.le_of_ble_eq_true rfl) (Nat.le_of_eq (Nat.zero_add _)) (Nat.le_of_eq (Nat.zero_add _)) (b1 := (0, 0)) (b2 := (0, 0)) (Ev.mono hF ?_)
    intro r43 h44 hF
    obtain ⟨rfl, hF⟩ := hF
    refine m_aload_n dX12_sized_17 rfl ?_
    refine m_bipush dX12_sized_18 kb_10 ?_
    obtain ⟨fs51, e, hF⟩ := hF
    refine m_virtual (as := [.int 10]) (rest := []) cv_X12_190_11 e dX12_sized_20 rfl rfl (Nat.le_of_ble_eq_true rfl) (Nat.le_of_eq (Nat.zero_add _)) (Nat.le_of_eq (Nat.zero_add _)) (b1 := (0, 0)) (b2 := (0, 0)) (Ev.mono hF ?_)
    intro r45 h46 hF
    obtain ⟨rfl, hF⟩ := hF
    refine m_aload_n dX12_sized_23 rfl ?_
    obtain ⟨r47, e, hF⟩ := hF
    refine m_get fg_X12_19 dX12_sized_24 e ?_
    refine m_iload_n dX12_sized_27 rfl ?_
    obtain ⟨x48, e, hF⟩ := hF
    refine m_iald dX12_sized_28 e ?_
    refine m_aload_n dX12_sized_29 rfl ?_
    obtain ⟨r49, e, hF⟩ := hF
    refine m_get fg_X12_22 dX12_sized_30 e ?_
    refine m_iload_n dX12_sized_33 rfl ?_
    obtain ⟨x50, e, hF⟩ := hF
    refine m_iald dX12_sized_34 e ?_
    refine m_iadd dX12_sized_35 ?_
    exact m_ireturn dX12_sized_36 trivial hF
theorem bk_X12_sized_76 {d : Nat} (r_0 : Nat) (x_1 : Int32) (x_2 : Int32) {h : mH} {Q : Option Value → mH → Prop} (hF : (∃ fs34 : List Value, (h).1 r_0 = .inr (11, fs34) ∧ Ev d (0, 0) MX12_began [.ref r_0, .int 10] h (fun r1 h2 => r1 = none ∧ (∃ r3 : Nat, m_fld h2 r_0 [11] 5 = some (.ref r3) ∧ (∃ x4 : Int32, m_il h2 r3 x_1 = some x4 ∧ Ev d (0, 0) MX12_isOf [.int x_2, .int 2] h2 (fun r5 h6 => ∃ x7 : Int32, r5 = some (.int x7) ∧ ((x7 = 0 → Ev d (0, 0) MX12_isOf [.int x_2, .int 3] h6 (fun r8 h9 => ∃ x10 : Int32, r8 = some (.int x10) ∧ ((x10 = 0 → ((¬ x_2 = 4 → Q (some (.int (x4 + 0))) h9) ∧ (x_2 = 4 → (∃ fs14 : List Value, (h9).1 r_0 = .inr (11, fs14) ∧ Ev d (0, 0) MX12_marked [.ref r_0, .int x_1] h9 (fun r11 h12 => ∃ x13 : Int32, r11 = some (.int x13) ∧ Q (some (.int ((x4 + 0) + x13))) h12))))) ∧ (¬ (x10 = 0) → ((¬ x_2 = 4 → Q (some (.int (2 * (x4 + 0)))) h9) ∧ (x_2 = 4 → (∃ fs18 : List Value, (h9).1 r_0 = .inr (11, fs18) ∧ Ev d (0, 0) MX12_marked [.ref r_0, .int x_1] h9 (fun r15 h16 => ∃ x17 : Int32, r15 = some (.int x17) ∧ Q (some (.int ((2 * (x4 + 0)) + x17))) h16)))))))) ∧ (¬ (x7 = 0) → (∃ fs33 : List Value, (h6).1 r_0 = .inr (11, fs33) ∧ Ev d (0, 0) MX12_rounds [.ref r_0, .int x_1, .int 0] h6 (fun r19 h20 => ∃ x21 : Int32, r19 = some (.int x21) ∧ Ev d (0, 0) MX12_isOf [.int x_2, .int 3] h20 (fun r22 h23 => ∃ x24 : Int32, r22 = some (.int x24) ∧ ((x24 = 0 → ((¬ x_2 = 4 → Q (some (.int (x4 + x21))) h23) ∧ (x_2 = 4 → (∃ fs28 : List Value, (h23).1 r_0 = .inr (11, fs28) ∧ Ev d (0, 0) MX12_marked [.ref r_0, .int x_1] h23 (fun r25 h26 => ∃ x27 : Int32, r25 = some (.int x27) ∧ Q (some (.int ((x4 + x21) + x27))) h26))))) ∧ (¬ (x24 = 0) → ((¬ x_2 = 4 → Q (some (.int (2 * (x4 + x21)))) h23) ∧ (x_2 = 4 → (∃ fs32 : List Value, (h23).1 r_0 = .inr (11, fs32) ∧ Ev d (0, 0) MX12_marked [.ref r_0, .int x_1] h23 (fun r29 h30 => ∃ x31 : Int32, r29 = some (.int x31) ∧ Q (some (.int ((2 * (x4 + x21)) + x31))) h30))))))))))))))))) : Wm (d + 1) (0, 0) JX12_sized 76 [some (.ref r_0), some (.int x_1), some (.int x_2), none] [] h Q := by
  refine m_aload_n dX12_sized_76 rfl ?_
  refine m_bipush dX12_sized_77 kb_10 ?_
  obtain ⟨fs34, e, hF⟩ := hF
  refine m_virtual (as := [.int 10]) (rest := []) cv_X12_190_11 e dX12_sized_79 rfl rfl (Nat.le_of_ble_eq_true rfl) (Nat.le_of_eq (Nat.zero_add _)) (Nat.le_of_eq (Nat.zero_add _)) (b1 := (0, 0)) (b2 := (0, 0)) (Ev.mono hF ?_)
  intro r1 h2 hF
  obtain ⟨rfl, hF⟩ := hF
  refine m_aload_n dX12_sized_82 rfl ?_
  obtain ⟨r3, e, hF⟩ := hF
  refine m_get fg_X12_19 dX12_sized_83 e ?_
  refine m_iload_n dX12_sized_86 rfl ?_
  obtain ⟨x4, e, hF⟩ := hF
  refine m_iald dX12_sized_87 e ?_
  refine m_iload_n dX12_sized_88 rfl ?_
  refine m_iconst dX12_sized_89 ki_2 ?_
  refine m_static (as := [.int x_2, .int 2]) (rest := [.int x4]) cs_X12_184 dX12_sized_90 rfl rfl (Nat.le_of_ble_eq_true rfl) (Nat.le_of_eq (Nat.zero_add _)) (Nat.le_of_eq (Nat.zero_add _)) (b1 := (0, 0)) (b2 := (0, 0)) (Ev.mono hF ?_)
  intro r5 h6 hF
  obtain ⟨x7, rfl, hF⟩ := hF
  refine m_if_eq 105 dX12_sized_93 (by decide) (fun c => ?_) (fun c => ?_)
  · replace hF := hF.1 c
    refine m_iconst dX12_sized_105 ki_0 ?_
    refine m_iadd dX12_sized_106 ?_
    refine m_istore_n (ls2 := [some (.ref r_0), some (.int x_1), some (.int x_2), some (.int (x4 + 0))]) dX12_sized_107 (by decide) rfl ?_
    refine m_iload_n dX12_sized_108 rfl ?_
    refine m_iconst dX12_sized_109 ki_3 ?_
    refine m_static (as := [.int x_2, .int 3]) (rest := []) cs_X12_184 dX12_sized_110 rfl rfl (Nat.le_of_ble_eq_true rfl) (Nat.le_of_eq (Nat.zero_add _)) (Nat.le_of_eq (Nat.zero_add _)) (b1 := (0, 0)) (b2 := (0, 0)) (Ev.mono hF ?_)
    intro r8 h9 hF
    obtain ⟨x10, rfl, hF⟩ := hF
    refine m_if_eq 122 dX12_sized_113 (by decide) (fun c => ?_) (fun c => ?_)
    · replace hF := hF.1 c
      refine m_iload_n dX12_sized_122 rfl ?_
      refine m_istore_n (ls2 := [some (.ref r_0), some (.int x_1), some (.int x_2), some (.int (x4 + 0))]) dX12_sized_123 (by decide) rfl ?_
      refine m_iload_n dX12_sized_124 rfl ?_
      refine m_iconst dX12_sized_125 ki_4 ?_
      refine m_icmp_ne 139 dX12_sized_126 (by decide) (fun c => ?_) (fun c => ?_)
      · replace hF := hF.1 c
        refine m_iload_n dX12_sized_139 rfl ?_
        exact m_ireturn dX12_sized_140 trivial hF
      · replace hF := hF.2 c
        refine m_iload_n dX12_sized_129 rfl ?_
        refine m_aload_n dX12_sized_130 rfl ?_
        refine m_iload_n dX12_sized_131 rfl ?_
        obtain ⟨fs14, e, hF⟩ := hF
        refine m_virtual (as := [.int x_1]) (rest := [.int (x4 + 0)]) cv_X12_194_11 e dX12_sized_132 rfl rfl (Nat.le_of_ble_eq_true rfl) (Nat.le_of_eq (Nat.zero_add _)) (Nat.le_of_eq (Nat.zero_add _)) (b1 := (0, 0)) (b2 := (0, 0)) (Ev.mono hF ?_)
        intro r11 h12 hF
        obtain ⟨x13, rfl, hF⟩ := hF
        refine m_iadd dX12_sized_135 ?_
        refine m_goto 140 dX12_sized_136 (by decide) ?_
        exact m_ireturn dX12_sized_140 trivial hF
    · replace hF := hF.2 c
      refine m_iconst dX12_sized_116 ki_2 ?_
      refine m_iload_n dX12_sized_117 rfl ?_
      refine m_imul dX12_sized_118 ?_
      refine m_goto 123 dX12_sized_119 (by decide) ?_
      refine m_istore_n (ls2 := [some (.ref r_0), some (.int x_1), some (.int x_2), some (.int (2 * (x4 + 0)))]) dX12_sized_123 (by decide) rfl ?_
      refine m_iload_n dX12_sized_124 rfl ?_
      refine m_iconst dX12_sized_125 ki_4 ?_
      refine m_icmp_ne 139 dX12_sized_126 (by decide) (fun c => ?_) (fun c => ?_)
      · replace hF := hF.1 c
        refine m_iload_n dX12_sized_139 rfl ?_
        exact m_ireturn dX12_sized_140 trivial hF
      · replace hF := hF.2 c
        refine m_iload_n dX12_sized_129 rfl ?_
        refine m_aload_n dX12_sized_130 rfl ?_
        refine m_iload_n dX12_sized_131 rfl ?_
        obtain ⟨fs18, e, hF⟩ := hF
        refine m_virtual (as := [.int x_1]) (rest := [.int (2 * (x4 + 0))]) cv_X12_194_11 e dX12_sized_132 rfl rfl (Nat.le_of_ble_eq_true rfl) (Nat.le_of_eq (Nat.zero_add _)) (Nat.le_of_eq (Nat.zero_add _)) (b1 := (0, 0)) (b2 := (0, 0)) (Ev.mono hF ?_)
        intro r15 h16 hF
        obtain ⟨x17, rfl, hF⟩ := hF
        refine m_iadd dX12_sized_135 ?_
        refine m_goto 140 dX12_sized_136 (by decide) ?_
        exact m_ireturn dX12_sized_140 trivial hF
  · replace hF := hF.2 c
    refine m_aload_n dX12_sized_96 rfl ?_
    refine m_iload_n dX12_sized_97 rfl ?_
    refine m_iconst dX12_sized_98 ki_0 ?_
    obtain ⟨fs33, e, hF⟩ := hF
    refine m_virtual (as := [.int x_1, .int 0]) (rest := [.int x4]) cv_X12_109_11 e dX12_sized_99 rfl rfl (Nat.le_of_ble_eq_true rfl) (Nat.le_of_eq (Nat.zero_add _)) (Nat.le_of_eq (Nat.zero_add _)) (b1 := (0, 0)) (b2 := (0, 0)) (Ev.mono hF ?_)
    intro r19 h20 hF
    obtain ⟨x21, rfl, hF⟩ := hF
    refine m_goto 106 dX12_sized_102 (by decide) ?_
    refine m_iadd dX12_sized_106 ?_
    refine m_istore_n (ls2 := [some (.ref r_0), some (.int x_1), some (.int x_2), some (.int (x4 + x21))]) dX12_sized_107 (by decide) rfl ?_
    refine m_iload_n dX12_sized_108 rfl ?_
    refine m_iconst dX12_sized_109 ki_3 ?_
    refine m_static (as := [.int x_2, .int 3]) (rest := []) cs_X12_184 dX12_sized_110 rfl rfl (Nat.le_of_ble_eq_true rfl) (Nat.le_of_eq (Nat.zero_add _)) (Nat.le_of_eq (Nat.zero_add _)) (b1 := (0, 0)) (b2 := (0, 0)) (Ev.mono hF ?_)
    intro r22 h23 hF
    obtain ⟨x24, rfl, hF⟩ := hF
    refine m_if_eq 122 dX12_sized_113 (by decide) (fun c => ?_) (fun c => ?_)
    · replace hF := hF.1 c
      refine m_iload_n dX12_sized_122 rfl ?_
      refine m_istore_n (ls2 := [some (.ref r_0), some (.int x_1), some (.int x_2), some (.int (x4 + x21))]) dX12_sized_123 (by decide) rfl ?_
      refine m_iload_n dX12_sized_124 rfl ?_
      refine m_iconst dX12_sized_125 ki_4 ?_
      refine m_icmp_ne 139 dX12_sized_126 (by decide) (fun c => ?_) (fun c => ?_)
      · replace hF := hF.1 c
        refine m_iload_n dX12_sized_139 rfl ?_
        exact m_ireturn dX12_sized_140 trivial hF
      · replace hF := hF.2 c
        refine m_iload_n dX12_sized_129 rfl ?_
        refine m_aload_n dX12_sized_130 rfl ?_
        refine m_iload_n dX12_sized_131 rfl ?_
        obtain ⟨fs28, e, hF⟩ := hF
        refine m_virtual (as := [.int x_1]) (rest := [.int (x4 + x21)]) cv_X12_194_11 e dX12_sized_132 rfl rfl (Nat.le_of_ble_eq_true rfl) (Nat.le_of_eq (Nat.zero_add _)) (Nat.le_of_eq (Nat.zero_add _)) (b1 := (0, 0)) (b2 := (0, 0)) (Ev.mono hF ?_)
        intro r25 h26 hF
        obtain ⟨x27, rfl, hF⟩ := hF
        refine m_iadd dX12_sized_135 ?_
        refine m_goto 140 dX12_sized_136 (by decide) ?_
        exact m_ireturn dX12_sized_140 trivial hF
    · replace hF := hF.2 c
      refine m_iconst dX12_sized_116 ki_2 ?_
      refine m_iload_n dX12_sized_117 rfl ?_
      refine m_imul dX12_sized_118 ?_
      refine m_goto 123 dX12_sized_119 (by decide) ?_
      refine m_istore_n (ls2 := [some (.ref r_0), some (.int x_1), some (.int x_2), some (.int (2 * (x4 + x21)))]) dX12_sized_123 (by decide) rfl ?_
      refine m_iload_n dX12_sized_124 rfl ?_
      refine m_iconst dX12_sized_125 ki_4 ?_
      refine m_icmp_ne 139 dX12_sized_126 (by decide) (fun c => ?_) (fun c => ?_)
      · replace hF := hF.1 c
        refine m_iload_n dX12_sized_139 rfl ?_
        exact m_ireturn dX12_sized_140 trivial hF
      · replace hF := hF.2 c
        refine m_iload_n dX12_sized_129 rfl ?_
        refine m_aload_n dX12_sized_130 rfl ?_
        refine m_iload_n dX12_sized_131 rfl ?_
        obtain ⟨fs32, e, hF⟩ := hF
        refine m_virtual (as := [.int x_1]) (rest := [.int (2 * (x4 + x21))]) cv_X12_194_11 e dX12_sized_132 rfl rfl (Nat.le_of_ble_eq_true rfl) (Nat.le_of_eq (Nat.zero_add _)) (Nat.le_of_eq (Nat.zero_add _)) (b1 := (0, 0)) (b2 := (0, 0)) (Ev.mono hF ?_)
        intro r29 h30 hF
        obtain ⟨x31, rfl, hF⟩ := hF
        refine m_iadd dX12_sized_135 ?_
        refine m_goto 140 dX12_sized_136 (by decide) ?_
        exact m_ireturn dX12_sized_140 trivial hF
theorem en_X12_sized {d : Nat} {r_0 : Nat} {x_1 : Int32} {h : mH} {K : Option Value → mH → Prop} (hk : Wm (d + 1) (0, 0) JX12_sized 0 [some (.ref r_0), some (.int x_1), none, none] [] h (fun r h' => h'.1 0 = h.1 0 ∧ K r h')) : Ev (d + 1) (0, 0) MX12_sized [.ref r_0, .int x_1] h K :=
  m_met pn_X12 nl_X12 (fun _ => Nat.le_of_ble_eq_true rfl) hk
theorem bk_X12_ask_0 {d : Nat} (r_0 : Nat) (x_1 : Int32) (x_2 : Int32) {h : mH} {Q : Option Value → mH → Prop} (hF : (∃ h1 : mH, m_put h r_0 11 0 (.int 0) = some h1 ∧ Ev d (0, 0) MX12_isPlace [.int x_1] h1 (fun r2 h3 => ∃ x4 : Int32, r2 = some (.int x4) ∧ ((x4 = 0 → Q (some (.int (-1000001))) h3) ∧ (¬ (x4 = 0) → Ev d (0, 0) MX12_in [.long x_2.toInt64, .long 0, .long 1] h3 (fun r5 h6 => ∃ x7 : Int32, r5 = some (.int x7) ∧ ((¬ x7 = 0 → (∃ h8 : mH, m_put h6 r_0 11 20 (.int 0) = some h8 ∧ (∃ fs20 : List Value, (h8).1 r_0 = .inr (11, fs20) ∧ Ev d (0, 0) MX12_look [.ref r_0, .int x_1, .int 0] h8 (fun r9 h10 => ∃ x11 : Int32, r9 = some (.int x11) ∧ ((0 ≤ x11 → ((¬ x_2 = 0 → (∃ fs15 : List Value, (h10).1 r_0 = .inr (11, fs15) ∧ Ev d (0, 0) MX12_marked [.ref r_0, .int x_1] h10 (fun r12 h13 => ∃ x14 : Int32, r12 = some (.int x14) ∧ Q (some (.int x14)) h13))) ∧ (x_2 = 0 → (∃ fs19 : List Value, (h10).1 r_0 = .inr (11, fs19) ∧ Ev d (0, 0) MX12_sized [.ref r_0, .int x_1] h10 (fun r16 h17 => ∃ x18 : Int32, r16 = some (.int x18) ∧ Q (some (.int x18)) h17))))) ∧ (¬ (0 ≤ x11) → Q (some (.int x11)) h10)))))) ∧ (x7 = 0 → Q (some (.int (-1000001))) h6)))))))) : Wm (d + 1) (0, 0) JX12_ask 0 [some (.ref r_0), some (.int x_1), some (.int x_2), none] [] h Q := by
  refine m_aload_n dX12_ask_0 rfl ?_
  refine m_iconst dX12_ask_1 ki_0 ?_
  obtain ⟨h1, e, hF⟩ := hF
  refine m_putf fp_X12_78_11 dX12_ask_2 trivial e ?_
  refine m_iload_n dX12_ask_5 rfl ?_
  refine m_static (as := [.int x_1]) (rest := []) cs_X12_120 dX12_ask_6 rfl rfl (Nat.le_of_ble_eq_true rfl) (Nat.le_of_eq (Nat.zero_add _)) (Nat.le_of_eq (Nat.zero_add _)) (b1 := (0, 0)) (b2 := (0, 0)) (Ev.mono hF ?_)
  intro r2 h3 hF
  obtain ⟨x4, rfl, hF⟩ := hF
  refine m_if_eq 22 dX12_ask_9 (by decide) (fun c => ?_) (fun c => ?_)
  · replace hF := hF.1 c
    refine m_ldc dX12_ask_22 kc_X12_98 ?_
    exact m_ireturn dX12_ask_24 trivial hF
  · replace hF := hF.2 c
    refine m_iload_n dX12_ask_12 rfl ?_
    refine m_i2l dX12_ask_13 ?_
    refine m_lconst dX12_ask_14 kl_0 ?_
    refine m_lconst dX12_ask_15 kl_1 ?_
    refine m_static (as := [.long x_2.toInt64, .long 0, .long 1]) (rest := []) cs_X12_88 dX12_ask_16 rfl rfl (Nat.le_of_ble_eq_true rfl) (Nat.le_of_eq (Nat.zero_add _)) (Nat.le_of_eq (Nat.zero_add _)) (b1 := (0, 0)) (b2 := (0, 0)) (Ev.mono hF ?_)
    intro r5 h6 hF
    obtain ⟨x7, rfl, hF⟩ := hF
    refine m_if_ne 25 dX12_ask_19 (by decide) (fun c => ?_) (fun c => ?_)
    · replace hF := hF.1 c
      refine m_aload_n dX12_ask_25 rfl ?_
      refine m_iconst dX12_ask_26 ki_0 ?_
      obtain ⟨h8, e, hF⟩ := hF
      refine m_putf fp_X12_187_11 dX12_ask_27 trivial e ?_
      refine m_aload_n dX12_ask_30 rfl ?_
      refine m_iload_n dX12_ask_31 rfl ?_
      refine m_iconst dX12_ask_32 ki_0 ?_
      obtain ⟨fs20, e, hF⟩ := hF
      refine m_virtual (as := [.int x_1, .int 0]) (rest := []) cv_X12_137_11 e dX12_ask_33 rfl rfl (Nat.le_of_ble_eq_true rfl) (Nat.le_of_eq (Nat.zero_add _)) (Nat.le_of_eq (Nat.zero_add _)) (b1 := (0, 0)) (b2 := (0, 0)) (Ev.mono hF ?_)
      intro r9 h10 hF
      obtain ⟨x11, rfl, hF⟩ := hF
      refine m_istore_n (ls2 := [some (.ref r_0), some (.int x_1), some (.int x_2), some (.int x11)]) dX12_ask_36 (by decide) rfl ?_
      refine m_iload_n dX12_ask_37 rfl ?_
      refine m_if_ge 45 dX12_ask_38 (by decide) (fun c => ?_) (fun c => ?_)
      · replace hF := hF.1 c
        refine m_iload_n dX12_ask_45 rfl ?_
        refine m_if_ne 57 dX12_ask_46 (by decide) (fun c => ?_) (fun c => ?_)
        · replace hF := hF.1 c
          refine m_aload_n dX12_ask_57 rfl ?_
          refine m_iload_n dX12_ask_58 rfl ?_
          obtain ⟨fs15, e, hF⟩ := hF
          refine m_virtual (as := [.int x_1]) (rest := []) cv_X12_194_11 e dX12_ask_59 rfl rfl (Nat.le_of_ble_eq_true rfl) (Nat.le_of_eq (Nat.zero_add _)) (Nat.le_of_eq (Nat.zero_add _)) (b1 := (0, 0)) (b2 := (0, 0)) (Ev.mono hF ?_)
          intro r12 h13 hF
          obtain ⟨x14, rfl, hF⟩ := hF
          exact m_ireturn dX12_ask_62 trivial hF
        · replace hF := hF.2 c
          refine m_aload_n dX12_ask_49 rfl ?_
          refine m_iload_n dX12_ask_50 rfl ?_
          obtain ⟨fs19, e, hF⟩ := hF
          refine m_virtual (as := [.int x_1]) (rest := []) cv_X12_197_11 e dX12_ask_51 rfl rfl (Nat.le_of_ble_eq_true rfl) (Nat.le_of_eq (Nat.zero_add _)) (Nat.le_of_eq (Nat.zero_add _)) (b1 := (0, 0)) (b2 := (0, 0)) (Ev.mono hF ?_)
          intro r16 h17 hF
          obtain ⟨x18, rfl, hF⟩ := hF
          refine m_goto 62 dX12_ask_54 (by decide) ?_
          exact m_ireturn dX12_ask_62 trivial hF
      · replace hF := hF.2 c
        refine m_iload_n dX12_ask_41 rfl ?_
        refine m_goto 62 dX12_ask_42 (by decide) ?_
        exact m_ireturn dX12_ask_62 trivial hF
    · replace hF := hF.2 c
      refine m_ldc dX12_ask_22 kc_X12_98 ?_
      exact m_ireturn dX12_ask_24 trivial hF
theorem en_X12_ask {d : Nat} {r_0 : Nat} {x_1 : Int32} {x_2 : Int32} {h : mH} {K : Option Value → mH → Prop} (hk : Wm (d + 1) (0, 0) JX12_ask 0 [some (.ref r_0), some (.int x_1), some (.int x_2), none] [] h (fun r h' => h'.1 0 = h.1 0 ∧ K r h')) : Ev (d + 1) (0, 0) MX12_ask [.ref r_0, .int x_1, .int x_2] h K :=
  m_met pn_X12 nl_X12 (fun _ => Nat.le_of_ble_eq_true rfl) hk
theorem bk_X12_trace_0 {d : Nat} (r_0 : Nat) (x_1 : Int32) {h : mH} {Q : Option Value → mH → Prop} (hF : (∃ h1 : mH, m_put h r_0 11 0 (.int 0) = some h1 ∧ (∃ x2 : Int32, m_fld h1 r_0 [11] 20 = some (.int x2) ∧ Ev d (0, 0) MX12_in [.long x_1.toInt64, .long 0, .long ((x2 - 1).toInt64)] h1 (fun r3 h4 => ∃ x5 : Int32, r3 = some (.int x5) ∧ ((x5 = 0 → Q (some (.int (-1000000))) h4) ∧ (¬ (x5 = 0) → (∃ r6 : Nat, m_fld h4 r_0 [11] 19 = some (.ref r6) ∧ (∃ x7 : Int32, m_il h4 r6 x_1 = some x7 ∧ Q (some (.int x7)) h4)))))))) : Wm (d + 1) (0, 0) JX12_trace 0 [some (.ref r_0), some (.int x_1)] [] h Q := by
  refine m_aload_n dX12_trace_0 rfl ?_
  refine m_iconst dX12_trace_1 ki_0 ?_
  obtain ⟨h1, e, hF⟩ := hF
  refine m_putf fp_X12_78_11 dX12_trace_2 trivial e ?_
  refine m_iload_n dX12_trace_5 rfl ?_
  refine m_i2l dX12_trace_6 ?_
  refine m_lconst dX12_trace_7 kl_0 ?_
  refine m_aload_n dX12_trace_8 rfl ?_
  obtain ⟨x2, e, hF⟩ := hF
  refine m_get fg_X12_187 dX12_trace_9 e ?_
  refine m_iconst dX12_trace_12 ki_1 ?_
  refine m_isub dX12_trace_13 ?_
  refine m_i2l dX12_trace_14 ?_
  refine m_static (as := [.long x_1.toInt64, .long 0, .long ((x2 - 1).toInt64)]) (rest := []) cs_X12_88 dX12_trace_15 rfl rfl (Nat.le_of_ble_eq_true rfl) (Nat.le_of_eq (Nat.zero_add _)) (Nat.le_of_eq (Nat.zero_add _)) (b1 := (0, 0)) (b2 := (0, 0)) (Ev.mono hF ?_)
  intro r3 h4 hF
  obtain ⟨x5, rfl, hF⟩ := hF
  refine m_if_eq 30 dX12_trace_18 (by decide) (fun c => ?_) (fun c => ?_)
  · replace hF := hF.1 c
    refine m_ldc dX12_trace_30 kc_X12_176 ?_
    exact m_ireturn dX12_trace_32 trivial hF
  · replace hF := hF.2 c
    refine m_aload_n dX12_trace_21 rfl ?_
    obtain ⟨r6, e, hF⟩ := hF
    refine m_get fg_X12_62 dX12_trace_22 e ?_
    refine m_iload_n dX12_trace_25 rfl ?_
    obtain ⟨x7, e, hF⟩ := hF
    refine m_iald dX12_trace_26 e ?_
    refine m_goto 32 dX12_trace_27 (by decide) ?_
    exact m_ireturn dX12_trace_32 trivial hF
theorem en_X12_trace {d : Nat} {r_0 : Nat} {x_1 : Int32} {h : mH} {K : Option Value → mH → Prop} (hk : Wm (d + 1) (0, 0) JX12_trace 0 [some (.ref r_0), some (.int x_1)] [] h (fun r h' => h'.1 0 = h.1 0 ∧ K r h')) : Ev (d + 1) (0, 0) MX12_trace [.ref r_0, .int x_1] h K :=
  m_met pn_X12 nl_X12 (fun _ => Nat.le_of_ble_eq_true rfl) hk
theorem bk_X12_findShapes_0 {d : Nat} (r_0 : Nat) (x_1 : Int32) {h : mH} {Q : Option Value → mH → Prop} (hF : Wm d (0, 0) JX12_findShapes 2 [some (.ref r_0), some (.int x_1), some (.int 0), none, none, none, none, none] [] h Q) : Wm d (0, 0) JX12_findShapes 0 [some (.ref r_0), some (.int x_1), none, none, none, none, none, none] [] h Q := by
  refine m_iconst dX12_findShapes_0 ki_0 ?_
  refine m_istore_n (ls2 := [some (.ref r_0), some (.int x_1), some (.int 0), none, none, none, none, none]) dX12_findShapes_1 (by decide) rfl ?_
  exact hF
theorem bk_X12_findShapes_2 {d : Nat} (r_0 : Nat) (x_1 : Int32) (x_2 : Int32) {h : mH} {Q : Option Value → mH → Prop} (hF : ((10 ≤ x_2 → (∃ h1 : mH, m_put h r_0 11 21 (.int 1) = some h1 ∧ Wm d (0, 0) JX12_findShapes 36 [some (.ref r_0), none, some (.int 1), none, none, none, none, none] [] h1 Q)) ∧ (¬ (10 ≤ x_2) → (∃ r2 : Nat, m_fld h r_0 [11] 22 = some (.ref r2) ∧ ((¬ x_2 = 0 → (∃ h3 : mH, m_is h r2 x_2 0 = some h3 ∧ Wm d (0, 0) JX12_findShapes 2 [some (.ref r_0), some (.int x_1), some (.int (x_2 + 1)), none, none, none, none, none] [] h3 Q)) ∧ (x_2 = 0 → (∃ h4 : mH, m_is h r2 x_2 x_1 = some h4 ∧ Wm d (0, 0) JX12_findShapes 2 [some (.ref r_0), some (.int x_1), some (.int (x_2 + 1)), none, none, none, none, none] [] h4 Q))))))) : Wm d (0, 0) JX12_findShapes 2 [some (.ref r_0), some (.int x_1), some (.int x_2), none, none, none, none, none] [] h Q := by
  refine m_iload_n dX12_findShapes_2 rfl ?_
  refine m_bipush dX12_findShapes_3 kb_10 ?_
  refine m_icmp_ge 29 dX12_findShapes_5 (by decide) (fun c => ?_) (fun c => ?_)
  · replace hF := hF.1 c
    refine m_aload_n dX12_findShapes_29 rfl ?_
    refine m_iconst dX12_findShapes_30 ki_1 ?_
    obtain ⟨h1, e, hF⟩ := hF
    refine m_putf fp_X12_200_11 dX12_findShapes_31 trivial e ?_
    refine m_iconst dX12_findShapes_34 ki_1 ?_
    refine m_istore_n (ls2 := [some (.ref r_0), some (.int x_1), some (.int 1), none, none, none, none, none]) dX12_findShapes_35 (by decide) rfl ?_
    refine m_wk [1] rfl ?_
    exact hF
  · replace hF := hF.2 c
    refine m_aload_n dX12_findShapes_8 rfl ?_
    obtain ⟨r2, e, hF⟩ := hF
    refine m_get fg_X12_65 dX12_findShapes_9 e ?_
    refine m_iload_n dX12_findShapes_12 rfl ?_
    refine m_iload_n dX12_findShapes_13 rfl ?_
    refine m_if_ne 21 dX12_findShapes_14 (by decide) (fun c => ?_) (fun c => ?_)
    · replace hF := hF.1 c
      refine m_iconst dX12_findShapes_21 ki_0 ?_
      obtain ⟨h3, e, hF⟩ := hF
      refine m_iast dX12_findShapes_22 e ?_
      refine m_iinc (v := x_2 + 1) (ls2 := [some (.ref r_0), some (.int x_1), some (.int (x_2 + 1)), none, none, none, none, none]) dX12_findShapes_23 (by decide) rfl (congrArg (_ + ·) ki_1) rfl ?_
      refine m_goto 2 dX12_findShapes_26 (by decide) ?_
      exact hF
    · replace hF := hF.2 c
      refine m_iload_n dX12_findShapes_17 rfl ?_
      refine m_goto 22 dX12_findShapes_18 (by decide) ?_
      obtain ⟨h4, e, hF⟩ := hF
      refine m_iast dX12_findShapes_22 e ?_
      refine m_iinc (v := x_2 + 1) (ls2 := [some (.ref r_0), some (.int x_1), some (.int (x_2 + 1)), none, none, none, none, none]) dX12_findShapes_23 (by decide) rfl (congrArg (_ + ·) ki_1) rfl ?_
      refine m_goto 2 dX12_findShapes_26 (by decide) ?_
      exact hF
theorem bk_X12_findShapes_36 {d : Nat} (r_0 : Nat) (x_2 : Int32) {h : mH} {Q : Option Value → mH → Prop} (hF : ((x_2 = 0 → Q none h) ∧ (¬ (x_2 = 0) → (∃ x1 : Int32, m_fld h r_0 [11] 21 = some (.int x1) ∧ Wm d (0, 0) JX12_findShapes 57 [some (.ref r_0), none, none, some (.int (10 * (x1 - 1))), some (.int 9), some (.int 1), none, none] [] h Q)))) : Wm d (0, 0) JX12_findShapes 36 [some (.ref r_0), none, some (.int x_2), none, none, none, none, none] [] h Q := by
  refine m_iload_n dX12_findShapes_36 rfl ?_
  refine m_if_eq 250 dX12_findShapes_37 (by decide) (fun c => ?_) (fun c => ?_)
  · replace hF := hF.1 c
    exact m_return dX12_findShapes_250 trivial hF
  · replace hF := hF.2 c
    refine m_bipush dX12_findShapes_40 kb_10 ?_
    refine m_aload_n dX12_findShapes_42 rfl ?_
    obtain ⟨x1, e, hF⟩ := hF
    refine m_get fg_X12_200 dX12_findShapes_43 e ?_
    refine m_iconst dX12_findShapes_46 ki_1 ?_
    refine m_isub dX12_findShapes_47 ?_
    refine m_imul dX12_findShapes_48 ?_
    refine m_istore_n (ls2 := [some (.ref r_0), none, some (.int x_2), some (.int (10 * (x1 - 1))), none, none, none, none]) dX12_findShapes_49 (by decide) rfl ?_
    refine m_bipush dX12_findShapes_50 kb_9 ?_
    refine m_istore (ls2 := [some (.ref r_0), none, some (.int x_2), some (.int (10 * (x1 - 1))), some (.int 9), none, none, none]) dX12_findShapes_52 (by decide) rfl ?_
    refine m_iconst dX12_findShapes_54 ki_1 ?_
    refine m_istore (ls2 := [some (.ref r_0), none, some (.int x_2), some (.int (10 * (x1 - 1))), some (.int 9), some (.int 1), none, none]) dX12_findShapes_55 (by decide) rfl ?_
    refine m_wk [2] rfl ?_
    exact hF
theorem bk_X12_findShapes_57 {d : Nat} (r_0 : Nat) (x_3 : Int32) (x_4 : Int32) (x_5 : Int32) {h : mH} {Q : Option Value → mH → Prop} (hF : ((x_4 < 0 → ((x_4 < 0 → Wm d (0, 0) JX12_findShapes 36 [some (.ref r_0), none, some (.int 0), none, none, none, none, none] [] h Q) ∧ (¬ (x_4 < 0) → (∃ r1 : Nat, m_fld h r_0 [11] 22 = some (.ref r1) ∧ (∃ x2 : Int32, m_il h r1 (x_3 + x_4) = some x2 ∧ Wm d (0, 0) JX12_findShapes 126 [some (.ref r_0), none, some (.int 1), some (.int x_3), some (.int x_4), some (.int x_5), some (.int (x2 - 1)), some (.int 0)] [] h Q))))) ∧ (¬ (x_4 < 0) → (∃ r3 : Nat, m_fld h r_0 [11] 22 = some (.ref r3) ∧ (∃ x4 : Int32, m_il h r3 (x_3 + x_4) = some x4 ∧ ((2 ≤ x4 → ((x_4 < 0 → Wm d (0, 0) JX12_findShapes 36 [some (.ref r_0), none, some (.int 0), none, none, none, none, none] [] h Q) ∧ (¬ (x_4 < 0) → (∃ r5 : Nat, m_fld h r_0 [11] 22 = some (.ref r5) ∧ (∃ x6 : Int32, m_il h r5 (x_3 + x_4) = some x6 ∧ Wm d (0, 0) JX12_findShapes 126 [some (.ref r_0), none, some (.int 1), some (.int x_3), some (.int x_4), some (.int x_5), some (.int (x6 - 1)), some (.int 0)] [] h Q))))) ∧ (¬ (2 ≤ x4) → (∃ r7 : Nat, m_fld h r_0 [11] 22 = some (.ref r7) ∧ (∃ x8 : Int32, m_il h r7 (x_3 + x_4) = some x8 ∧ Wm d (0, 0) JX12_findShapes 57 [some (.ref r_0), none, none, some (.int x_3), some (.int (x_4 + (-1))), some (.int (x_5 + x8)), none, none] [] h Q))))))))) : Wm d (0, 0) JX12_findShapes 57 [some (.ref r_0), none, none, some (.int x_3), some (.int x_4), some (.int x_5), none, none] [] h Q := by
  refine m_iload dX12_findShapes_57 rfl ?_
  refine m_if_lt 95 dX12_findShapes_59 (by decide) (fun c => ?_) (fun c => ?_)
  · replace hF := hF.1 c
    refine m_iload dX12_findShapes_95 rfl ?_
    refine m_if_lt 104 dX12_findShapes_97 (by decide) (fun c => ?_) (fun c => ?_)
    · replace hF := hF.1 c
      refine m_iconst dX12_findShapes_104 ki_0 ?_
      refine m_istore_n (ls2 := [some (.ref r_0), none, some (.int 0), some (.int x_3), some (.int x_4), some (.int x_5), none, none]) dX12_findShapes_105 (by decide) rfl ?_
      refine m_iload_n dX12_findShapes_106 rfl ?_
      refine m_if_eq 247 dX12_findShapes_107 (by decide) (fun _ => ?_) (fun c => absurd c (by decide))
      refine m_goto 36 dX12_findShapes_247 (by decide) ?_
      refine m_wk [3, 4, 5] rfl ?_
      exact hF
    · replace hF := hF.2 c
      refine m_iconst dX12_findShapes_100 ki_1 ?_
      refine m_goto 105 dX12_findShapes_101 (by decide) ?_
      refine m_istore_n (ls2 := [some (.ref r_0), none, some (.int 1), some (.int x_3), some (.int x_4), some (.int x_5), none, none]) dX12_findShapes_105 (by decide) rfl ?_
      refine m_iload_n dX12_findShapes_106 rfl ?_
      refine m_if_eq 247 dX12_findShapes_107 (by decide) (fun c => absurd c (by decide)) (fun _ => ?_)
      refine m_aload_n dX12_findShapes_110 rfl ?_
      obtain ⟨r1, e, hF⟩ := hF
      refine m_get fg_X12_65 dX12_findShapes_111 e ?_
      refine m_iload_n dX12_findShapes_114 rfl ?_
      refine m_iload dX12_findShapes_115 rfl ?_
      refine m_iadd dX12_findShapes_117 ?_
      obtain ⟨x2, e, hF⟩ := hF
      refine m_iald dX12_findShapes_118 e ?_
      refine m_iconst dX12_findShapes_119 ki_1 ?_
      refine m_isub dX12_findShapes_120 ?_
      refine m_istore (ls2 := [some (.ref r_0), none, some (.int 1), some (.int x_3), some (.int x_4), some (.int x_5), some (.int (x2 - 1)), none]) dX12_findShapes_121 (by decide) rfl ?_
      refine m_iconst dX12_findShapes_123 ki_0 ?_
      refine m_istore (ls2 := [some (.ref r_0), none, some (.int 1), some (.int x_3), some (.int x_4), some (.int x_5), some (.int (x2 - 1)), some (.int 0)]) dX12_findShapes_124 (by decide) rfl ?_
      exact hF
  · replace hF := hF.2 c
    refine m_aload_n dX12_findShapes_62 rfl ?_
    obtain ⟨r3, e, hF⟩ := hF
    refine m_get fg_X12_65 dX12_findShapes_63 e ?_
    refine m_iload_n dX12_findShapes_66 rfl ?_
    refine m_iload dX12_findShapes_67 rfl ?_
    refine m_iadd dX12_findShapes_69 ?_
    obtain ⟨x4, e, hF⟩ := hF
    refine m_iald dX12_findShapes_70 e ?_
    refine m_iconst dX12_findShapes_71 ki_2 ?_
    refine m_icmp_ge 95 dX12_findShapes_72 (by decide) (fun c => ?_) (fun c => ?_)
    · replace hF := hF.1 c
      refine m_iload dX12_findShapes_95 rfl ?_
      refine m_if_lt 104 dX12_findShapes_97 (by decide) (fun c => ?_) (fun c => ?_)
      · replace hF := hF.1 c
        refine m_iconst dX12_findShapes_104 ki_0 ?_
        refine m_istore_n (ls2 := [some (.ref r_0), none, some (.int 0), some (.int x_3), some (.int x_4), some (.int x_5), none, none]) dX12_findShapes_105 (by decide) rfl ?_
        refine m_iload_n dX12_findShapes_106 rfl ?_
        refine m_if_eq 247 dX12_findShapes_107 (by decide) (fun _ => ?_) (fun c => absurd c (by decide))
        refine m_goto 36 dX12_findShapes_247 (by decide) ?_
        refine m_wk [3, 4, 5] rfl ?_
        exact hF
      · replace hF := hF.2 c
        refine m_iconst dX12_findShapes_100 ki_1 ?_
        refine m_goto 105 dX12_findShapes_101 (by decide) ?_
        refine m_istore_n (ls2 := [some (.ref r_0), none, some (.int 1), some (.int x_3), some (.int x_4), some (.int x_5), none, none]) dX12_findShapes_105 (by decide) rfl ?_
        refine m_iload_n dX12_findShapes_106 rfl ?_
        refine m_if_eq 247 dX12_findShapes_107 (by decide) (fun c => absurd c (by decide)) (fun _ => ?_)
        refine m_aload_n dX12_findShapes_110 rfl ?_
        obtain ⟨r5, e, hF⟩ := hF
        refine m_get fg_X12_65 dX12_findShapes_111 e ?_
        refine m_iload_n dX12_findShapes_114 rfl ?_
        refine m_iload dX12_findShapes_115 rfl ?_
        refine m_iadd dX12_findShapes_117 ?_
        obtain ⟨x6, e, hF⟩ := hF
        refine m_iald dX12_findShapes_118 e ?_
        refine m_iconst dX12_findShapes_119 ki_1 ?_
        refine m_isub dX12_findShapes_120 ?_
        refine m_istore (ls2 := [some (.ref r_0), none, some (.int 1), some (.int x_3), some (.int x_4), some (.int x_5), some (.int (x6 - 1)), none]) dX12_findShapes_121 (by decide) rfl ?_
        refine m_iconst dX12_findShapes_123 ki_0 ?_
        refine m_istore (ls2 := [some (.ref r_0), none, some (.int 1), some (.int x_3), some (.int x_4), some (.int x_5), some (.int (x6 - 1)), some (.int 0)]) dX12_findShapes_124 (by decide) rfl ?_
        exact hF
    · replace hF := hF.2 c
      refine m_iload dX12_findShapes_75 rfl ?_
      refine m_aload_n dX12_findShapes_77 rfl ?_
      obtain ⟨r7, e, hF⟩ := hF
      refine m_get fg_X12_65 dX12_findShapes_78 e ?_
      refine m_iload_n dX12_findShapes_81 rfl ?_
      refine m_iload dX12_findShapes_82 rfl ?_
      refine m_iadd dX12_findShapes_84 ?_
      obtain ⟨x8, e, hF⟩ := hF
      refine m_iald dX12_findShapes_85 e ?_
      refine m_iadd dX12_findShapes_86 ?_
      refine m_istore (ls2 := [some (.ref r_0), none, none, some (.int x_3), some (.int x_4), some (.int (x_5 + x8)), none, none]) dX12_findShapes_87 (by decide) rfl ?_
      refine m_iinc (v := x_4 + (-1)) (ls2 := [some (.ref r_0), none, none, some (.int x_3), some (.int (x_4 + (-1))), some (.int (x_5 + x8)), none, none]) dX12_findShapes_89 (by decide) rfl (congrArg (_ + ·) ki_m1) rfl ?_
      refine m_goto 57 dX12_findShapes_92 (by decide) ?_
      exact hF
theorem bk_X12_findShapes_126 {d : Nat} (r_0 : Nat) (x_2 : Int32) (x_3 : Int32) (x_4 : Int32) (x_5 : Int32) (x_6 : Int32) (x_7 : Int32) {h : mH} {Q : Option Value → mH → Prop} (hF : ((10 ≤ x_7 → (∃ x1 : Int32, m_fld h r_0 [11] 21 = some (.int x1) ∧ (∃ h2 : mH, m_put h r_0 11 21 (.int (x1 + 1)) = some h2 ∧ Wm d (0, 0) JX12_findShapes 36 [some (.ref r_0), none, some (.int x_2), none, none, none, none, none] [] h2 Q))) ∧ (¬ (10 ≤ x_7) → ((x_4 ≤ x_7 → ((¬ x_7 = x_4 → (∃ r3 : Nat, m_fld h r_0 [11] 22 = some (.ref r3) ∧ ((x_6 ≤ x_5 → (∃ h4 : mH, m_is h r3 ((x_3 + 10) + x_7) x_6 = some h4 ∧ (∃ r5 : Nat, m_fld h4 r_0 [11] 22 = some (.ref r5) ∧ (∃ x6 : Int32, m_il h4 r5 ((x_3 + 10) + x_7) = some x6 ∧ Wm d (0, 0) JX12_findShapes 126 [some (.ref r_0), none, some (.int x_2), some (.int x_3), some (.int x_4), some (.int (x_5 - x6)), some (.int x_6), some (.int (x_7 + 1))] [] h4 Q)))) ∧ (¬ (x_6 ≤ x_5) → (∃ h7 : mH, m_is h r3 ((x_3 + 10) + x_7) x_5 = some h7 ∧ (∃ r8 : Nat, m_fld h7 r_0 [11] 22 = some (.ref r8) ∧ (∃ x9 : Int32, m_il h7 r8 ((x_3 + 10) + x_7) = some x9 ∧ Wm d (0, 0) JX12_findShapes 126 [some (.ref r_0), none, some (.int x_2), some (.int x_3), some (.int x_4), some (.int (x_5 - x9)), some (.int x_6), some (.int (x_7 + 1))] [] h7 Q))))))) ∧ (x_7 = x_4 → (∃ r10 : Nat, m_fld h r_0 [11] 22 = some (.ref r10) ∧ (∃ h11 : mH, m_is h r10 ((x_3 + 10) + x_7) x_6 = some h11 ∧ Wm d (0, 0) JX12_findShapes 126 [some (.ref r_0), none, some (.int x_2), some (.int x_3), some (.int x_4), some (.int x_5), some (.int x_6), some (.int (x_7 + 1))] [] h11 Q))))) ∧ (¬ (x_4 ≤ x_7) → (∃ r12 : Nat, m_fld h r_0 [11] 22 = some (.ref r12) ∧ (∃ r13 : Nat, m_fld h r_0 [11] 22 = some (.ref r13) ∧ (∃ x14 : Int32, m_il h r13 (x_3 + x_7) = some x14 ∧ (∃ h15 : mH, m_is h r12 ((x_3 + 10) + x_7) x14 = some h15 ∧ Wm d (0, 0) JX12_findShapes 126 [some (.ref r_0), none, some (.int x_2), some (.int x_3), some (.int x_4), some (.int x_5), some (.int x_6), some (.int (x_7 + 1))] [] h15 Q))))))))) : Wm d (0, 0) JX12_findShapes 126 [some (.ref r_0), none, some (.int x_2), some (.int x_3), some (.int x_4), some (.int x_5), some (.int x_6), some (.int x_7)] [] h Q := by
  refine m_iload dX12_findShapes_126 rfl ?_
  refine m_bipush dX12_findShapes_128 kb_10 ?_
  refine m_icmp_ge 237 dX12_findShapes_130 (by decide) (fun c => ?_) (fun c => ?_)
  · replace hF := hF.1 c
    refine m_aload_n dX12_findShapes_237 rfl ?_
    refine m_dup dX12_findShapes_238 rfl ?_
    obtain ⟨x1, e, hF⟩ := hF
    refine m_get fg_X12_200 dX12_findShapes_239 e ?_
    refine m_iconst dX12_findShapes_242 ki_1 ?_
    refine m_iadd dX12_findShapes_243 ?_
    obtain ⟨h2, e, hF⟩ := hF
    refine m_putf fp_X12_200_11 dX12_findShapes_244 trivial e ?_
    refine m_goto 36 dX12_findShapes_247 (by decide) ?_
    refine m_wk [3, 4, 5, 6, 7] rfl ?_
    exact hF
  · replace hF := hF.2 c
    refine m_iload dX12_findShapes_133 rfl ?_
    refine m_iload dX12_findShapes_135 rfl ?_
    refine m_icmp_ge 164 dX12_findShapes_137 (by decide) (fun c => ?_) (fun c => ?_)
    · replace hF := hF.1 c
      refine m_iload dX12_findShapes_164 rfl ?_
      refine m_iload dX12_findShapes_166 rfl ?_
      refine m_icmp_ne 188 dX12_findShapes_168 (by decide) (fun c => ?_) (fun c => ?_)
      · replace hF := hF.1 c
        refine m_aload_n dX12_findShapes_188 rfl ?_
        obtain ⟨r3, e, hF⟩ := hF
        refine m_get fg_X12_65 dX12_findShapes_189 e ?_
        refine m_iload_n dX12_findShapes_192 rfl ?_
        refine m_bipush dX12_findShapes_193 kb_10 ?_
        refine m_iadd dX12_findShapes_195 ?_
        refine m_iload dX12_findShapes_196 rfl ?_
        refine m_iadd dX12_findShapes_198 ?_
        refine m_iload dX12_findShapes_199 rfl ?_
        refine m_iload dX12_findShapes_201 rfl ?_
        refine m_icmp_ge 211 dX12_findShapes_203 (by decide) (fun c => ?_) (fun c => ?_)
        · replace hF := hF.1 c
          refine m_iload dX12_findShapes_211 rfl ?_
          obtain ⟨h4, e, hF⟩ := hF
          refine m_iast dX12_findShapes_213 e ?_
          refine m_iload dX12_findShapes_214 rfl ?_
          refine m_aload_n dX12_findShapes_216 rfl ?_
          obtain ⟨r5, e, hF⟩ := hF
          refine m_get fg_X12_65 dX12_findShapes_217 e ?_
          refine m_iload_n dX12_findShapes_220 rfl ?_
          refine m_bipush dX12_findShapes_221 kb_10 ?_
          refine m_iadd dX12_findShapes_223 ?_
          refine m_iload dX12_findShapes_224 rfl ?_
          refine m_iadd dX12_findShapes_226 ?_
          obtain ⟨x6, e, hF⟩ := hF
          refine m_iald dX12_findShapes_227 e ?_
          refine m_isub dX12_findShapes_228 ?_
          refine m_istore (ls2 := [some (.ref r_0), none, some (.int x_2), some (.int x_3), some (.int x_4), some (.int (x_5 - x6)), some (.int x_6), some (.int x_7)]) dX12_findShapes_229 (by decide) rfl ?_
          refine m_iinc (v := x_7 + 1) (ls2 := [some (.ref r_0), none, some (.int x_2), some (.int x_3), some (.int x_4), some (.int (x_5 - x6)), some (.int x_6), some (.int (x_7 + 1))]) dX12_findShapes_231 (by decide) rfl (congrArg (_ + ·) ki_1) rfl ?_
          refine m_goto 126 dX12_findShapes_234 (by decide) ?_
          exact hF
        · replace hF := hF.2 c
          refine m_iload dX12_findShapes_206 rfl ?_
          refine m_goto 213 dX12_findShapes_208 (by decide) ?_
          obtain ⟨h7, e, hF⟩ := hF
          refine m_iast dX12_findShapes_213 e ?_
          refine m_iload dX12_findShapes_214 rfl ?_
          refine m_aload_n dX12_findShapes_216 rfl ?_
          obtain ⟨r8, e, hF⟩ := hF
          refine m_get fg_X12_65 dX12_findShapes_217 e ?_
          refine m_iload_n dX12_findShapes_220 rfl ?_
          refine m_bipush dX12_findShapes_221 kb_10 ?_
          refine m_iadd dX12_findShapes_223 ?_
          refine m_iload dX12_findShapes_224 rfl ?_
          refine m_iadd dX12_findShapes_226 ?_
          obtain ⟨x9, e, hF⟩ := hF
          refine m_iald dX12_findShapes_227 e ?_
          refine m_isub dX12_findShapes_228 ?_
          refine m_istore (ls2 := [some (.ref r_0), none, some (.int x_2), some (.int x_3), some (.int x_4), some (.int (x_5 - x9)), some (.int x_6), some (.int x_7)]) dX12_findShapes_229 (by decide) rfl ?_
          refine m_iinc (v := x_7 + 1) (ls2 := [some (.ref r_0), none, some (.int x_2), some (.int x_3), some (.int x_4), some (.int (x_5 - x9)), some (.int x_6), some (.int (x_7 + 1))]) dX12_findShapes_231 (by decide) rfl (congrArg (_ + ·) ki_1) rfl ?_
          refine m_goto 126 dX12_findShapes_234 (by decide) ?_
          exact hF
      · replace hF := hF.2 c
        refine m_aload_n dX12_findShapes_171 rfl ?_
        obtain ⟨r10, e, hF⟩ := hF
        refine m_get fg_X12_65 dX12_findShapes_172 e ?_
        refine m_iload_n dX12_findShapes_175 rfl ?_
        refine m_bipush dX12_findShapes_176 kb_10 ?_
        refine m_iadd dX12_findShapes_178 ?_
        refine m_iload dX12_findShapes_179 rfl ?_
        refine m_iadd dX12_findShapes_181 ?_
        refine m_iload dX12_findShapes_182 rfl ?_
        obtain ⟨h11, e, hF⟩ := hF
        refine m_iast dX12_findShapes_184 e ?_
        refine m_goto 231 dX12_findShapes_185 (by decide) ?_
        refine m_iinc (v := x_7 + 1) (ls2 := [some (.ref r_0), none, some (.int x_2), some (.int x_3), some (.int x_4), some (.int x_5), some (.int x_6), some (.int (x_7 + 1))]) dX12_findShapes_231 (by decide) rfl (congrArg (_ + ·) ki_1) rfl ?_
        refine m_goto 126 dX12_findShapes_234 (by decide) ?_
        exact hF
    · replace hF := hF.2 c
      refine m_aload_n dX12_findShapes_140 rfl ?_
      obtain ⟨r12, e, hF⟩ := hF
      refine m_get fg_X12_65 dX12_findShapes_141 e ?_
      refine m_iload_n dX12_findShapes_144 rfl ?_
      refine m_bipush dX12_findShapes_145 kb_10 ?_
      refine m_iadd dX12_findShapes_147 ?_
      refine m_iload dX12_findShapes_148 rfl ?_
      refine m_iadd dX12_findShapes_150 ?_
      refine m_aload_n dX12_findShapes_151 rfl ?_
      obtain ⟨r13, e, hF⟩ := hF
      refine m_get fg_X12_65 dX12_findShapes_152 e ?_
      refine m_iload_n dX12_findShapes_155 rfl ?_
      refine m_iload dX12_findShapes_156 rfl ?_
      refine m_iadd dX12_findShapes_158 ?_
      obtain ⟨x14, e, hF⟩ := hF
      refine m_iald dX12_findShapes_159 e ?_
      obtain ⟨h15, e, hF⟩ := hF
      refine m_iast dX12_findShapes_160 e ?_
      refine m_goto 231 dX12_findShapes_161 (by decide) ?_
      refine m_iinc (v := x_7 + 1) (ls2 := [some (.ref r_0), none, some (.int x_2), some (.int x_3), some (.int x_4), some (.int x_5), some (.int x_6), some (.int (x_7 + 1))]) dX12_findShapes_231 (by decide) rfl (congrArg (_ + ·) ki_1) rfl ?_
      refine m_goto 126 dX12_findShapes_234 (by decide) ?_
      exact hF
theorem en_X12_findShapes {d : Nat} {r_0 : Nat} {x_1 : Int32} {h : mH} {K : Option Value → mH → Prop} (hk : Wm d (0, 0) JX12_findShapes 0 [some (.ref r_0), some (.int x_1), none, none, none, none, none, none] [] h (fun r h' => h'.1 0 = h.1 0 ∧ K r h')) : Ev d (0, 0) MX12_findShapes [.ref r_0, .int x_1] h K :=
  m_met pn_X12 nl_X12 (fun _ => Nat.le_of_ble_eq_true rfl) hk
theorem bk_X12_changed_0 {d : Nat} (r_0 : Nat) (x_1 : Int32) (x_2 : Int32) (x_3 : Int32) (x_4 : Int32) (x_5 : Int32) {h : mH} {Q : Option Value → mH → Prop} (hF : ((¬ x_3 = 0 → Wm d (0, 0) JX12_changed 20 [some (.ref r_0), some (.int x_1), some (.int x_2), some (.int x_3), some (.int x_4), some (.int x_5), some (.int 0), some (.int 0), some (.int 0), some (.int 0), none, none, none] [] h Q) ∧ (x_3 = 0 → Wm d (0, 0) JX12_changed 20 [some (.ref r_0), some (.int x_1), some (.int x_2), some (.int x_3), some (.int x_4), some (.int x_5), some (.int 0), some (.int 0), some (.int 1), some (.int 0), none, none, none] [] h Q))) : Wm d (0, 0) JX12_changed 0 [some (.ref r_0), some (.int x_1), some (.int x_2), some (.int x_3), some (.int x_4), some (.int x_5), none, none, none, none, none, none, none] [] h Q := by
  refine m_iconst dX12_changed_0 ki_0 ?_
  refine m_istore (ls2 := [some (.ref r_0), some (.int x_1), some (.int x_2), some (.int x_3), some (.int x_4), some (.int x_5), some (.int 0), none, none, none, none, none, none]) dX12_changed_1 (by decide) rfl ?_
  refine m_iconst dX12_changed_3 ki_0 ?_
  refine m_istore (ls2 := [some (.ref r_0), some (.int x_1), some (.int x_2), some (.int x_3), some (.int x_4), some (.int x_5), some (.int 0), some (.int 0), none, none, none, none, none]) dX12_changed_4 (by decide) rfl ?_
  refine m_iload_n dX12_changed_6 rfl ?_
  refine m_if_ne 14 dX12_changed_7 (by decide) (fun c => ?_) (fun c => ?_)
  · replace hF := hF.1 c
    refine m_iconst dX12_changed_14 ki_0 ?_
    refine m_istore (ls2 := [some (.ref r_0), some (.int x_1), some (.int x_2), some (.int x_3), some (.int x_4), some (.int x_5), some (.int 0), some (.int 0), some (.int 0), none, none, none, none]) dX12_changed_15 (by decide) rfl ?_
    refine m_iconst dX12_changed_17 ki_0 ?_
    refine m_istore (ls2 := [some (.ref r_0), some (.int x_1), some (.int x_2), some (.int x_3), some (.int x_4), some (.int x_5), some (.int 0), some (.int 0), some (.int 0), some (.int 0), none, none, none]) dX12_changed_18 (by decide) rfl ?_
    exact hF
  · replace hF := hF.2 c
    refine m_iconst dX12_changed_10 ki_1 ?_
    refine m_goto 15 dX12_changed_11 (by decide) ?_
    refine m_istore (ls2 := [some (.ref r_0), some (.int x_1), some (.int x_2), some (.int x_3), some (.int x_4), some (.int x_5), some (.int 0), some (.int 0), some (.int 1), none, none, none, none]) dX12_changed_15 (by decide) rfl ?_
    refine m_iconst dX12_changed_17 ki_0 ?_
    refine m_istore (ls2 := [some (.ref r_0), some (.int x_1), some (.int x_2), some (.int x_3), some (.int x_4), some (.int x_5), some (.int 0), some (.int 0), some (.int 1), some (.int 0), none, none, none]) dX12_changed_18 (by decide) rfl ?_
    exact hF
theorem bk_X12_changed_20 {d : Nat} (r_0 : Nat) (x_1 : Int32) (x_2 : Int32) (x_3 : Int32) (x_4 : Int32) (x_5 : Int32) (x_6 : Int32) (x_7 : Int32) (x_8 : Int32) (x_9 : Int32) {h : mH} {Q : Option Value → mH → Prop} (hF : ((10 ≤ x_9 → (∃ r1 : Nat, m_fld h r_0 [11] 23 = some (.ref r1) ∧ (∃ h2 : mH, m_is h r1 x_6 x_4 = some h2 ∧ ((x_5 ≤ 0 → Wm d (0, 0) JX12_changed 130 [some (.ref r_0), none, none, none, none, none, some (.int (x_6 + 1)), none, none, some (.int 0), none, none, none] [] h2 Q) ∧ (¬ (x_5 ≤ 0) → (∃ r3 : Nat, m_fld h2 r_0 [11] 23 = some (.ref r3) ∧ (∃ h4 : mH, m_is h2 r3 (x_6 + 1) x_5 = some h4 ∧ Wm d (0, 0) JX12_changed 130 [some (.ref r_0), none, none, none, none, none, some (.int ((x_6 + 1) + 1)), none, none, some (.int 0), none, none, none] [] h4 Q))))))) ∧ (¬ (10 ≤ x_9) → (∃ r5 : Nat, m_fld h r_0 [11] 22 = some (.ref r5) ∧ (∃ x6 : Int32, m_il h r5 ((10 * x_1) + x_9) = some x6 ∧ ((x6 ≤ 0 → Wm d (0, 0) JX12_changed 20 [some (.ref r_0), some (.int x_1), some (.int x_2), some (.int x_3), some (.int x_4), some (.int x_5), some (.int x_6), some (.int x_7), some (.int x_8), some (.int (x_9 + 1)), none, none, none] [] h Q) ∧ (¬ (x6 ≤ 0) → ((¬ x6 = x_2 → ((¬ x6 = x_3 → (∃ r7 : Nat, m_fld h r_0 [11] 23 = some (.ref r7) ∧ (∃ h8 : mH, m_is h r7 x_6 x6 = some h8 ∧ Wm d (0, 0) JX12_changed 20 [some (.ref r_0), some (.int x_1), some (.int x_2), some (.int x_3), some (.int x_4), some (.int x_5), some (.int (x_6 + 1)), some (.int x_7), some (.int x_8), some (.int (x_9 + 1)), none, none, none] [] h8 Q))) ∧ (x6 = x_3 → ((¬ x_8 = 0 → (∃ r9 : Nat, m_fld h r_0 [11] 23 = some (.ref r9) ∧ (∃ h10 : mH, m_is h r9 x_6 x6 = some h10 ∧ Wm d (0, 0) JX12_changed 20 [some (.ref r_0), some (.int x_1), some (.int x_2), some (.int x_3), some (.int x_4), some (.int x_5), some (.int (x_6 + 1)), some (.int x_7), some (.int x_8), some (.int (x_9 + 1)), none, none, none] [] h10 Q))) ∧ (x_8 = 0 → Wm d (0, 0) JX12_changed 20 [some (.ref r_0), some (.int x_1), some (.int x_2), some (.int x_3), some (.int x_4), some (.int x_5), some (.int x_6), some (.int x_7), some (.int 1), some (.int (x_9 + 1)), none, none, none] [] h Q))))) ∧ (x6 = x_2 → ((¬ x_7 = 0 → ((¬ x6 = x_3 → (∃ r11 : Nat, m_fld h r_0 [11] 23 = some (.ref r11) ∧ (∃ h12 : mH, m_is h r11 x_6 x6 = some h12 ∧ Wm d (0, 0) JX12_changed 20 [some (.ref r_0), some (.int x_1), some (.int x_2), some (.int x_3), some (.int x_4), some (.int x_5), some (.int (x_6 + 1)), some (.int x_7), some (.int x_8), some (.int (x_9 + 1)), none, none, none] [] h12 Q))) ∧ (x6 = x_3 → ((¬ x_8 = 0 → (∃ r13 : Nat, m_fld h r_0 [11] 23 = some (.ref r13) ∧ (∃ h14 : mH, m_is h r13 x_6 x6 = some h14 ∧ Wm d (0, 0) JX12_changed 20 [some (.ref r_0), some (.int x_1), some (.int x_2), some (.int x_3), some (.int x_4), some (.int x_5), some (.int (x_6 + 1)), some (.int x_7), some (.int x_8), some (.int (x_9 + 1)), none, none, none] [] h14 Q))) ∧ (x_8 = 0 → Wm d (0, 0) JX12_changed 20 [some (.ref r_0), some (.int x_1), some (.int x_2), some (.int x_3), some (.int x_4), some (.int x_5), some (.int x_6), some (.int x_7), some (.int 1), some (.int (x_9 + 1)), none, none, none] [] h Q))))) ∧ (x_7 = 0 → Wm d (0, 0) JX12_changed 20 [some (.ref r_0), some (.int x_1), some (.int x_2), some (.int x_3), some (.int x_4), some (.int x_5), some (.int x_6), some (.int 1), some (.int x_8), some (.int (x_9 + 1)), none, none, none] [] h Q))))))))))) : Wm d (0, 0) JX12_changed 20 [some (.ref r_0), some (.int x_1), some (.int x_2), some (.int x_3), some (.int x_4), some (.int x_5), some (.int x_6), some (.int x_7), some (.int x_8), some (.int x_9), none, none, none] [] h Q := by
  refine m_iload dX12_changed_20 rfl ?_
  refine m_bipush dX12_changed_22 kb_10 ?_
  refine m_icmp_ge 98 dX12_changed_24 (by decide) (fun c => ?_) (fun c => ?_)
  · replace hF := hF.1 c
    refine m_aload_n dX12_changed_98 rfl ?_
    obtain ⟨r1, e, hF⟩ := hF
    refine m_get fg_X12_68 dX12_changed_99 e ?_
    refine m_iload dX12_changed_102 rfl ?_
    refine m_iload dX12_changed_104 rfl ?_
    obtain ⟨h2, e, hF⟩ := hF
    refine m_iast dX12_changed_106 e ?_
    refine m_iinc (v := x_6 + 1) (ls2 := [some (.ref r_0), some (.int x_1), some (.int x_2), some (.int x_3), some (.int x_4), some (.int x_5), some (.int (x_6 + 1)), some (.int x_7), some (.int x_8), some (.int x_9), none, none, none]) dX12_changed_107 (by decide) rfl (congrArg (_ + ·) ki_1) rfl ?_
    refine m_iload dX12_changed_110 rfl ?_
    refine m_if_le 127 dX12_changed_112 (by decide) (fun c => ?_) (fun c => ?_)
    · replace hF := hF.1 c
      refine m_iconst dX12_changed_127 ki_0 ?_
      refine m_istore (ls2 := [some (.ref r_0), some (.int x_1), some (.int x_2), some (.int x_3), some (.int x_4), some (.int x_5), some (.int (x_6 + 1)), some (.int x_7), some (.int x_8), some (.int 0), none, none, none]) dX12_changed_128 (by decide) rfl ?_
      refine m_wk [1, 2, 3, 4, 5, 7, 8] rfl ?_
      exact hF
    · replace hF := hF.2 c
      refine m_aload_n dX12_changed_115 rfl ?_
      obtain ⟨r3, e, hF⟩ := hF
      refine m_get fg_X12_68 dX12_changed_116 e ?_
      refine m_iload dX12_changed_119 rfl ?_
      refine m_iload dX12_changed_121 rfl ?_
      obtain ⟨h4, e, hF⟩ := hF
      refine m_iast dX12_changed_123 e ?_
      refine m_iinc (v := (x_6 + 1) + 1) (ls2 := [some (.ref r_0), some (.int x_1), some (.int x_2), some (.int x_3), some (.int x_4), some (.int x_5), some (.int ((x_6 + 1) + 1)), some (.int x_7), some (.int x_8), some (.int x_9), none, none, none]) dX12_changed_124 (by decide) rfl (congrArg (_ + ·) ki_1) rfl ?_
      refine m_iconst dX12_changed_127 ki_0 ?_
      refine m_istore (ls2 := [some (.ref r_0), some (.int x_1), some (.int x_2), some (.int x_3), some (.int x_4), some (.int x_5), some (.int ((x_6 + 1) + 1)), some (.int x_7), some (.int x_8), some (.int 0), none, none, none]) dX12_changed_128 (by decide) rfl ?_
      refine m_wk [1, 2, 3, 4, 5, 7, 8] rfl ?_
      exact hF
  · replace hF := hF.2 c
    refine m_aload_n dX12_changed_27 rfl ?_
    obtain ⟨r5, e, hF⟩ := hF
    refine m_get fg_X12_65 dX12_changed_28 e ?_
    refine m_bipush dX12_changed_31 kb_10 ?_
    refine m_iload_n dX12_changed_33 rfl ?_
    refine m_imul dX12_changed_34 ?_
    refine m_iload dX12_changed_35 rfl ?_
    refine m_iadd dX12_changed_37 ?_
    obtain ⟨x6, e, hF⟩ := hF
    refine m_iald dX12_changed_38 e ?_
    refine m_istore (ls2 := [some (.ref r_0), some (.int x_1), some (.int x_2), some (.int x_3), some (.int x_4), some (.int x_5), some (.int x_6), some (.int x_7), some (.int x_8), some (.int x_9), some (.int x6), none, none]) dX12_changed_39 (by decide) rfl ?_
    refine m_iload dX12_changed_41 rfl ?_
    refine m_if_le 92 dX12_changed_43 (by decide) (fun c => ?_) (fun c => ?_)
    · replace hF := hF.1 c
      refine m_iinc (v := x_9 + 1) (ls2 := [some (.ref r_0), some (.int x_1), some (.int x_2), some (.int x_3), some (.int x_4), some (.int x_5), some (.int x_6), some (.int x_7), some (.int x_8), some (.int (x_9 + 1)), some (.int x6), none, none]) dX12_changed_92 (by decide) rfl (congrArg (_ + ·) ki_1) rfl ?_
      refine m_goto 20 dX12_changed_95 (by decide) ?_
      refine m_wk [10] rfl ?_
      exact hF
    · replace hF := hF.2 c
      refine m_iload dX12_changed_46 rfl ?_
      refine m_iload_n dX12_changed_48 rfl ?_
      refine m_icmp_ne 63 dX12_changed_49 (by decide) (fun c => ?_) (fun c => ?_)
      · replace hF := hF.1 c
        refine m_iload dX12_changed_63 rfl ?_
        refine m_iload_n dX12_changed_65 rfl ?_
        refine m_icmp_ne 80 dX12_changed_66 (by decide) (fun c => ?_) (fun c => ?_)
        · replace hF := hF.1 c
          refine m_aload_n dX12_changed_80 rfl ?_
          obtain ⟨r7, e, hF⟩ := hF
          refine m_get fg_X12_68 dX12_changed_81 e ?_
          refine m_iload dX12_changed_84 rfl ?_
          refine m_iload dX12_changed_86 rfl ?_
          obtain ⟨h8, e, hF⟩ := hF
          refine m_iast dX12_changed_88 e ?_
          refine m_iinc (v := x_6 + 1) (ls2 := [some (.ref r_0), some (.int x_1), some (.int x_2), some (.int x_3), some (.int x_4), some (.int x_5), some (.int (x_6 + 1)), some (.int x_7), some (.int x_8), some (.int x_9), some (.int x6), none, none]) dX12_changed_89 (by decide) rfl (congrArg (_ + ·) ki_1) rfl ?_
          refine m_iinc (v := x_9 + 1) (ls2 := [some (.ref r_0), some (.int x_1), some (.int x_2), some (.int x_3), some (.int x_4), some (.int x_5), some (.int (x_6 + 1)), some (.int x_7), some (.int x_8), some (.int (x_9 + 1)), some (.int x6), none, none]) dX12_changed_92 (by decide) rfl (congrArg (_ + ·) ki_1) rfl ?_
          refine m_goto 20 dX12_changed_95 (by decide) ?_
          refine m_wk [10] rfl ?_
          exact hF
        · replace hF := hF.2 c
          refine m_iload dX12_changed_69 rfl ?_
          refine m_if_ne 80 dX12_changed_71 (by decide) (fun c => ?_) (fun c => ?_)
          · replace hF := hF.1 c
            refine m_aload_n dX12_changed_80 rfl ?_
            obtain ⟨r9, e, hF⟩ := hF
            refine m_get fg_X12_68 dX12_changed_81 e ?_
            refine m_iload dX12_changed_84 rfl ?_
            refine m_iload dX12_changed_86 rfl ?_
            obtain ⟨h10, e, hF⟩ := hF
            refine m_iast dX12_changed_88 e ?_
            refine m_iinc (v := x_6 + 1) (ls2 := [some (.ref r_0), some (.int x_1), some (.int x_2), some (.int x_3), some (.int x_4), some (.int x_5), some (.int (x_6 + 1)), some (.int x_7), some (.int x_8), some (.int x_9), some (.int x6), none, none]) dX12_changed_89 (by decide) rfl (congrArg (_ + ·) ki_1) rfl ?_
            refine m_iinc (v := x_9 + 1) (ls2 := [some (.ref r_0), some (.int x_1), some (.int x_2), some (.int x_3), some (.int x_4), some (.int x_5), some (.int (x_6 + 1)), some (.int x_7), some (.int x_8), some (.int (x_9 + 1)), some (.int x6), none, none]) dX12_changed_92 (by decide) rfl (congrArg (_ + ·) ki_1) rfl ?_
            refine m_goto 20 dX12_changed_95 (by decide) ?_
            refine m_wk [10] rfl ?_
            exact hF
          · replace hF := hF.2 c
            refine m_iconst dX12_changed_74 ki_1 ?_
            refine m_istore (ls2 := [some (.ref r_0), some (.int x_1), some (.int x_2), some (.int x_3), some (.int x_4), some (.int x_5), some (.int x_6), some (.int x_7), some (.int 1), some (.int x_9), some (.int x6), none, none]) dX12_changed_75 (by decide) rfl ?_
            refine m_goto 92 dX12_changed_77 (by decide) ?_
            refine m_iinc (v := x_9 + 1) (ls2 := [some (.ref r_0), some (.int x_1), some (.int x_2), some (.int x_3), some (.int x_4), some (.int x_5), some (.int x_6), some (.int x_7), some (.int 1), some (.int (x_9 + 1)), some (.int x6), none, none]) dX12_changed_92 (by decide) rfl (congrArg (_ + ·) ki_1) rfl ?_
            refine m_goto 20 dX12_changed_95 (by decide) ?_
            refine m_wk [10] rfl ?_
            exact hF
      · replace hF := hF.2 c
        refine m_iload dX12_changed_52 rfl ?_
        refine m_if_ne 63 dX12_changed_54 (by decide) (fun c => ?_) (fun c => ?_)
        · replace hF := hF.1 c
          refine m_iload dX12_changed_63 rfl ?_
          refine m_iload_n dX12_changed_65 rfl ?_
          refine m_icmp_ne 80 dX12_changed_66 (by decide) (fun c => ?_) (fun c => ?_)
          · replace hF := hF.1 c
            refine m_aload_n dX12_changed_80 rfl ?_
            obtain ⟨r11, e, hF⟩ := hF
            refine m_get fg_X12_68 dX12_changed_81 e ?_
            refine m_iload dX12_changed_84 rfl ?_
            refine m_iload dX12_changed_86 rfl ?_
            obtain ⟨h12, e, hF⟩ := hF
            refine m_iast dX12_changed_88 e ?_
            refine m_iinc (v := x_6 + 1) (ls2 := [some (.ref r_0), some (.int x_1), some (.int x_2), some (.int x_3), some (.int x_4), some (.int x_5), some (.int (x_6 + 1)), some (.int x_7), some (.int x_8), some (.int x_9), some (.int x6), none, none]) dX12_changed_89 (by decide) rfl (congrArg (_ + ·) ki_1) rfl ?_
            refine m_iinc (v := x_9 + 1) (ls2 := [some (.ref r_0), some (.int x_1), some (.int x_2), some (.int x_3), some (.int x_4), some (.int x_5), some (.int (x_6 + 1)), some (.int x_7), some (.int x_8), some (.int (x_9 + 1)), some (.int x6), none, none]) dX12_changed_92 (by decide) rfl (congrArg (_ + ·) ki_1) rfl ?_
            refine m_goto 20 dX12_changed_95 (by decide) ?_
            refine m_wk [10] rfl ?_
            exact hF
          · replace hF := hF.2 c
            refine m_iload dX12_changed_69 rfl ?_
            refine m_if_ne 80 dX12_changed_71 (by decide) (fun c => ?_) (fun c => ?_)
            · replace hF := hF.1 c
              refine m_aload_n dX12_changed_80 rfl ?_
              obtain ⟨r13, e, hF⟩ := hF
              refine m_get fg_X12_68 dX12_changed_81 e ?_
              refine m_iload dX12_changed_84 rfl ?_
              refine m_iload dX12_changed_86 rfl ?_
              obtain ⟨h14, e, hF⟩ := hF
              refine m_iast dX12_changed_88 e ?_
              refine m_iinc (v := x_6 + 1) (ls2 := [some (.ref r_0), some (.int x_1), some (.int x_2), some (.int x_3), some (.int x_4), some (.int x_5), some (.int (x_6 + 1)), some (.int x_7), some (.int x_8), some (.int x_9), some (.int x6), none, none]) dX12_changed_89 (by decide) rfl (congrArg (_ + ·) ki_1) rfl ?_
              refine m_iinc (v := x_9 + 1) (ls2 := [some (.ref r_0), some (.int x_1), some (.int x_2), some (.int x_3), some (.int x_4), some (.int x_5), some (.int (x_6 + 1)), some (.int x_7), some (.int x_8), some (.int (x_9 + 1)), some (.int x6), none, none]) dX12_changed_92 (by decide) rfl (congrArg (_ + ·) ki_1) rfl ?_
              refine m_goto 20 dX12_changed_95 (by decide) ?_
              refine m_wk [10] rfl ?_
              exact hF
            · replace hF := hF.2 c
              refine m_iconst dX12_changed_74 ki_1 ?_
              refine m_istore (ls2 := [some (.ref r_0), some (.int x_1), some (.int x_2), some (.int x_3), some (.int x_4), some (.int x_5), some (.int x_6), some (.int x_7), some (.int 1), some (.int x_9), some (.int x6), none, none]) dX12_changed_75 (by decide) rfl ?_
              refine m_goto 92 dX12_changed_77 (by decide) ?_
              refine m_iinc (v := x_9 + 1) (ls2 := [some (.ref r_0), some (.int x_1), some (.int x_2), some (.int x_3), some (.int x_4), some (.int x_5), some (.int x_6), some (.int x_7), some (.int 1), some (.int (x_9 + 1)), some (.int x6), none, none]) dX12_changed_92 (by decide) rfl (congrArg (_ + ·) ki_1) rfl ?_
              refine m_goto 20 dX12_changed_95 (by decide) ?_
              refine m_wk [10] rfl ?_
              exact hF
        · replace hF := hF.2 c
          refine m_iconst dX12_changed_57 ki_1 ?_
          refine m_istore (ls2 := [some (.ref r_0), some (.int x_1), some (.int x_2), some (.int x_3), some (.int x_4), some (.int x_5), some (.int x_6), some (.int 1), some (.int x_8), some (.int x_9), some (.int x6), none, none]) dX12_changed_58 (by decide) rfl ?_
          refine m_goto 92 dX12_changed_60 (by decide) ?_
          refine m_iinc (v := x_9 + 1) (ls2 := [some (.ref r_0), some (.int x_1), some (.int x_2), some (.int x_3), some (.int x_4), some (.int x_5), some (.int x_6), some (.int 1), some (.int x_8), some (.int (x_9 + 1)), some (.int x6), none, none]) dX12_changed_92 (by decide) rfl (congrArg (_ + ·) ki_1) rfl ?_
          refine m_goto 20 dX12_changed_95 (by decide) ?_
          refine m_wk [10] rfl ?_
          exact hF
theorem bk_X12_changed_130 {d : Nat} (r_0 : Nat) (x_6 : Int32) (x_9 : Int32) {h : mH} {Q : Option Value → mH → Prop} (hF : ((x_6 ≤ x_9 → Wm d (0, 0) JX12_changed 221 [some (.ref r_0), none, none, none, none, none, some (.int x_6), none, none, some (.int (-1000000)), some (.int 0), none, none] [] h Q) ∧ (¬ (x_6 ≤ x_9) → Wm d (0, 0) JX12_changed 140 [some (.ref r_0), none, none, none, none, none, some (.int x_6), none, none, some (.int x_9), some (.int 1), none, none] [] h Q))) : Wm d (0, 0) JX12_changed 130 [some (.ref r_0), none, none, none, none, none, some (.int x_6), none, none, some (.int x_9), none, none, none] [] h Q := by
  refine m_iload dX12_changed_130 rfl ?_
  refine m_iload dX12_changed_132 rfl ?_
  refine m_icmp_ge 214 dX12_changed_134 (by decide) (fun c => ?_) (fun c => ?_)
  · replace hF := hF.1 c
    refine m_ldc dX12_changed_214 kc_X12_176 ?_
    refine m_istore (ls2 := [some (.ref r_0), none, none, none, none, none, some (.int x_6), none, none, some (.int (-1000000)), none, none, none]) dX12_changed_216 (by decide) rfl ?_
    refine m_iconst dX12_changed_218 ki_0 ?_
    refine m_istore (ls2 := [some (.ref r_0), none, none, none, none, none, some (.int x_6), none, none, some (.int (-1000000)), some (.int 0), none, none]) dX12_changed_219 (by decide) rfl ?_
    exact hF
  · replace hF := hF.2 c
    refine m_iconst dX12_changed_137 ki_1 ?_
    refine m_istore (ls2 := [some (.ref r_0), none, none, none, none, none, some (.int x_6), none, none, some (.int x_9), some (.int 1), none, none]) dX12_changed_138 (by decide) rfl ?_
    exact hF
theorem bk_X12_changed_221 {d : Nat} (r_0 : Nat) (x_6 : Int32) (x_9 : Int32) (x_10 : Int32) {h : mH} {Q : Option Value → mH → Prop} (hF : (∃ x1 : Int32, m_fld h r_0 [11] 21 = some (.int x1) ∧ ((x1 ≤ x_10 → Q (some (.int x_9)) h) ∧ (¬ (x1 ≤ x_10) → Wm d (0, 0) JX12_changed 236 [some (.ref r_0), none, none, none, none, none, some (.int x_6), none, none, some (.int x_9), some (.int x_10), some (.int 1), some (.int 0)] [] h Q)))) : Wm d (0, 0) JX12_changed 221 [some (.ref r_0), none, none, none, none, none, some (.int x_6), none, none, some (.int x_9), some (.int x_10), none, none] [] h Q := by
  refine m_iload dX12_changed_221 rfl ?_
  refine m_aload_n dX12_changed_223 rfl ?_
  obtain ⟨x1, e, hF⟩ := hF
  refine m_get fg_X12_200 dX12_changed_224 e ?_
  refine m_icmp_ge 315 dX12_changed_227 (by decide) (fun c => ?_) (fun c => ?_)
  · replace hF := hF.1 c
    refine m_iload dX12_changed_315 rfl ?_
    exact m_ireturn dX12_changed_317 trivial hF
  · replace hF := hF.2 c
    refine m_iconst dX12_changed_230 ki_1 ?_
    refine m_istore (ls2 := [some (.ref r_0), none, none, none, none, none, some (.int x_6), none, none, some (.int x_9), some (.int x_10), some (.int 1), none]) dX12_changed_231 (by decide) rfl ?_
    refine m_iconst dX12_changed_233 ki_0 ?_
    refine m_istore (ls2 := [some (.ref r_0), none, none, none, none, none, some (.int x_6), none, none, some (.int x_9), some (.int x_10), some (.int 1), some (.int 0)]) dX12_changed_234 (by decide) rfl ?_
    exact hF
theorem bk_X12_changed_140 {d : Nat} (r_0 : Nat) (x_6 : Int32) (x_9 : Int32) (x_10 : Int32) {h : mH} {Q : Option Value → mH → Prop} (hF : ((x_6 ≤ x_10 → Wm d (0, 0) JX12_changed 130 [some (.ref r_0), none, none, none, none, none, some (.int x_6), none, none, some (.int (x_9 + 1)), none, none, none] [] h Q) ∧ (¬ (x_6 ≤ x_10) → (∃ r1 : Nat, m_fld h r_0 [11] 23 = some (.ref r1) ∧ (∃ x2 : Int32, m_il h r1 (x_10 - 1) = some x2 ∧ (∃ r3 : Nat, m_fld h r_0 [11] 23 = some (.ref r3) ∧ (∃ x4 : Int32, m_il h r3 x_10 = some x4 ∧ ((x4 ≤ x2 → Wm d (0, 0) JX12_changed 140 [some (.ref r_0), none, none, none, none, none, some (.int x_6), none, none, some (.int x_9), some (.int (x_10 + 1)), none, none] [] h Q) ∧ (¬ (x4 ≤ x2) → (∃ r5 : Nat, m_fld h r_0 [11] 23 = some (.ref r5) ∧ (∃ x6 : Int32, m_il h r5 x_10 = some x6 ∧ (∃ r7 : Nat, m_fld h r_0 [11] 23 = some (.ref r7) ∧ (∃ r8 : Nat, m_fld h r_0 [11] 23 = some (.ref r8) ∧ (∃ x9 : Int32, m_il h r8 (x_10 - 1) = some x9 ∧ (∃ h10 : mH, m_is h r7 x_10 x9 = some h10 ∧ (∃ r11 : Nat, m_fld h10 r_0 [11] 23 = some (.ref r11) ∧ (∃ h12 : mH, m_is h10 r11 (x_10 - 1) x6 = some h12 ∧ Wm d (0, 0) JX12_changed 140 [some (.ref r_0), none, none, none, none, none, some (.int x_6), none, none, some (.int x_9), some (.int (x_10 + 1)), none, none] [] h12 Q))))))))))))))))) : Wm d (0, 0) JX12_changed 140 [some (.ref r_0), none, none, none, none, none, some (.int x_6), none, none, some (.int x_9), some (.int x_10), none, none] [] h Q := by
  refine m_iload dX12_changed_140 rfl ?_
  refine m_iload dX12_changed_142 rfl ?_
  refine m_icmp_ge 208 dX12_changed_144 (by decide) (fun c => ?_) (fun c => ?_)
  · replace hF := hF.1 c
    refine m_iinc (v := x_9 + 1) (ls2 := [some (.ref r_0), none, none, none, none, none, some (.int x_6), none, none, some (.int (x_9 + 1)), some (.int x_10), none, none]) dX12_changed_208 (by decide) rfl (congrArg (_ + ·) ki_1) rfl ?_
    refine m_goto 130 dX12_changed_211 (by decide) ?_
    refine m_wk [10] rfl ?_
    exact hF
  · replace hF := hF.2 c
    refine m_aload_n dX12_changed_147 rfl ?_
    obtain ⟨r1, e, hF⟩ := hF
    refine m_get fg_X12_68 dX12_changed_148 e ?_
    refine m_iload dX12_changed_151 rfl ?_
    refine m_iconst dX12_changed_153 ki_1 ?_
    refine m_isub dX12_changed_154 ?_
    obtain ⟨x2, e, hF⟩ := hF
    refine m_iald dX12_changed_155 e ?_
    refine m_aload_n dX12_changed_156 rfl ?_
    obtain ⟨r3, e, hF⟩ := hF
    refine m_get fg_X12_68 dX12_changed_157 e ?_
    refine m_iload dX12_changed_160 rfl ?_
    obtain ⟨x4, e, hF⟩ := hF
    refine m_iald dX12_changed_162 e ?_
    refine m_icmp_ge 202 dX12_changed_163 (by decide) (fun c => ?_) (fun c => ?_)
    · replace hF := hF.1 c
      refine m_iinc (v := x_10 + 1) (ls2 := [some (.ref r_0), none, none, none, none, none, some (.int x_6), none, none, some (.int x_9), some (.int (x_10 + 1)), none, none]) dX12_changed_202 (by decide) rfl (congrArg (_ + ·) ki_1) rfl ?_
      refine m_goto 140 dX12_changed_205 (by decide) ?_
      exact hF
    · replace hF := hF.2 c
      refine m_aload_n dX12_changed_166 rfl ?_
      obtain ⟨r5, e, hF⟩ := hF
      refine m_get fg_X12_68 dX12_changed_167 e ?_
      refine m_iload dX12_changed_170 rfl ?_
      obtain ⟨x6, e, hF⟩ := hF
      refine m_iald dX12_changed_172 e ?_
      refine m_istore (ls2 := [some (.ref r_0), none, none, none, none, none, some (.int x_6), none, none, some (.int x_9), some (.int x_10), some (.int x6), none]) dX12_changed_173 (by decide) rfl ?_
      refine m_aload_n dX12_changed_175 rfl ?_
      obtain ⟨r7, e, hF⟩ := hF
      refine m_get fg_X12_68 dX12_changed_176 e ?_
      refine m_iload dX12_changed_179 rfl ?_
      refine m_aload_n dX12_changed_181 rfl ?_
      obtain ⟨r8, e, hF⟩ := hF
      refine m_get fg_X12_68 dX12_changed_182 e ?_
      refine m_iload dX12_changed_185 rfl ?_
      refine m_iconst dX12_changed_187 ki_1 ?_
      refine m_isub dX12_changed_188 ?_
      obtain ⟨x9, e, hF⟩ := hF
      refine m_iald dX12_changed_189 e ?_
      obtain ⟨h10, e, hF⟩ := hF
      refine m_iast dX12_changed_190 e ?_
      refine m_aload_n dX12_changed_191 rfl ?_
      obtain ⟨r11, e, hF⟩ := hF
      refine m_get fg_X12_68 dX12_changed_192 e ?_
      refine m_iload dX12_changed_195 rfl ?_
      refine m_iconst dX12_changed_197 ki_1 ?_
      refine m_isub dX12_changed_198 ?_
      refine m_iload dX12_changed_199 rfl ?_
      obtain ⟨h12, e, hF⟩ := hF
      refine m_iast dX12_changed_201 e ?_
      refine m_iinc (v := x_10 + 1) (ls2 := [some (.ref r_0), none, none, none, none, none, some (.int x_6), none, none, some (.int x_9), some (.int (x_10 + 1)), some (.int x6), none]) dX12_changed_202 (by decide) rfl (congrArg (_ + ·) ki_1) rfl ?_
      refine m_goto 140 dX12_changed_205 (by decide) ?_
      refine m_wk [11] rfl ?_
      exact hF
theorem bk_X12_changed_236 {d : Nat} (r_0 : Nat) (x_6 : Int32) (x_9 : Int32) (x_10 : Int32) (x_11 : Int32) (x_12 : Int32) {h : mH} {Q : Option Value → mH → Prop} (hF : ((10 ≤ x_12 → ((x_11 = 0 → Wm d (0, 0) JX12_changed 221 [some (.ref r_0), none, none, none, none, none, some (.int x_6), none, none, some (.int x_9), some (.int (x_10 + 1)), none, none] [] h Q) ∧ (¬ (x_11 = 0) → Wm d (0, 0) JX12_changed 221 [some (.ref r_0), none, none, none, none, none, some (.int x_6), none, none, some (.int x_10), some (.int (x_10 + 1)), none, none] [] h Q))) ∧ (¬ (10 ≤ x_12) → ((x_11 = 0 → Wm d (0, 0) JX12_changed 236 [some (.ref r_0), none, none, none, none, none, some (.int x_6), none, none, some (.int x_9), some (.int x_10), some (.int 0), some (.int (x_12 + 1))] [] h Q) ∧ (¬ (x_11 = 0) → (∃ r1 : Nat, m_fld h r_0 [11] 22 = some (.ref r1) ∧ (∃ x2 : Int32, m_il h r1 ((10 * x_10) + x_12) = some x2 ∧ ((x_6 ≤ x_12 → ((¬ x2 = 0 → Wm d (0, 0) JX12_changed 236 [some (.ref r_0), none, none, none, none, none, some (.int x_6), none, none, some (.int x_9), some (.int x_10), some (.int 0), some (.int (x_12 + 1))] [] h Q) ∧ (x2 = 0 → Wm d (0, 0) JX12_changed 236 [some (.ref r_0), none, none, none, none, none, some (.int x_6), none, none, some (.int x_9), some (.int x_10), some (.int 1), some (.int (x_12 + 1))] [] h Q))) ∧ (¬ (x_6 ≤ x_12) → (∃ r3 : Nat, m_fld h r_0 [11] 23 = some (.ref r3) ∧ (∃ x4 : Int32, m_il h r3 x_12 = some x4 ∧ ((¬ x2 = x4 → Wm d (0, 0) JX12_changed 236 [some (.ref r_0), none, none, none, none, none, some (.int x_6), none, none, some (.int x_9), some (.int x_10), some (.int 0), some (.int (x_12 + 1))] [] h Q) ∧ (x2 = x4 → Wm d (0, 0) JX12_changed 236 [some (.ref r_0), none, none, none, none, none, some (.int x_6), none, none, some (.int x_9), some (.int x_10), some (.int 1), some (.int (x_12 + 1))] [] h Q))))))))))))) : Wm d (0, 0) JX12_changed 236 [some (.ref r_0), none, none, none, none, none, some (.int x_6), none, none, some (.int x_9), some (.int x_10), some (.int x_11), some (.int x_12)] [] h Q := by
  refine m_iload dX12_changed_236 rfl ?_
  refine m_bipush dX12_changed_238 kb_10 ?_
  refine m_icmp_ge 295 dX12_changed_240 (by decide) (fun c => ?_) (fun c => ?_)
  · replace hF := hF.1 c
    refine m_iload dX12_changed_295 rfl ?_
    refine m_if_eq 305 dX12_changed_297 (by decide) (fun c => ?_) (fun c => ?_)
    · replace hF := hF.1 c
      refine m_iload dX12_changed_305 rfl ?_
      refine m_istore (ls2 := [some (.ref r_0), none, none, none, none, none, some (.int x_6), none, none, some (.int x_9), some (.int x_10), some (.int x_11), some (.int x_12)]) dX12_changed_307 (by decide) rfl ?_
      refine m_iinc (v := x_10 + 1) (ls2 := [some (.ref r_0), none, none, none, none, none, some (.int x_6), none, none, some (.int x_9), some (.int (x_10 + 1)), some (.int x_11), some (.int x_12)]) dX12_changed_309 (by decide) rfl (congrArg (_ + ·) ki_1) rfl ?_
      refine m_goto 221 dX12_changed_312 (by decide) ?_
      refine m_wk [11, 12] rfl ?_
      exact hF
    · replace hF := hF.2 c
      refine m_iload dX12_changed_300 rfl ?_
      refine m_goto 307 dX12_changed_302 (by decide) ?_
      refine m_istore (ls2 := [some (.ref r_0), none, none, none, none, none, some (.int x_6), none, none, some (.int x_10), some (.int x_10), some (.int x_11), some (.int x_12)]) dX12_changed_307 (by decide) rfl ?_
      refine m_iinc (v := x_10 + 1) (ls2 := [some (.ref r_0), none, none, none, none, none, some (.int x_6), none, none, some (.int x_10), some (.int (x_10 + 1)), some (.int x_11), some (.int x_12)]) dX12_changed_309 (by decide) rfl (congrArg (_ + ·) ki_1) rfl ?_
      refine m_goto 221 dX12_changed_312 (by decide) ?_
      refine m_wk [11, 12] rfl ?_
      exact hF
  · replace hF := hF.2 c
    refine m_iload dX12_changed_243 rfl ?_
    refine m_if_eq 286 dX12_changed_245 (by decide) (fun c => ?_) (fun c => ?_)
    · replace hF := hF.1 c
      refine m_iconst dX12_changed_286 ki_0 ?_
      refine m_istore (ls2 := [some (.ref r_0), none, none, none, none, none, some (.int x_6), none, none, some (.int x_9), some (.int x_10), some (.int 0), some (.int x_12)]) dX12_changed_287 (by decide) rfl ?_
      refine m_iinc (v := x_12 + 1) (ls2 := [some (.ref r_0), none, none, none, none, none, some (.int x_6), none, none, some (.int x_9), some (.int x_10), some (.int 0), some (.int (x_12 + 1))]) dX12_changed_289 (by decide) rfl (congrArg (_ + ·) ki_1) rfl ?_
      refine m_goto 236 dX12_changed_292 (by decide) ?_
      exact hF
    · replace hF := hF.2 c
      refine m_aload_n dX12_changed_248 rfl ?_
      obtain ⟨r1, e, hF⟩ := hF
      refine m_get fg_X12_65 dX12_changed_249 e ?_
      refine m_bipush dX12_changed_252 kb_10 ?_
      refine m_iload dX12_changed_254 rfl ?_
      refine m_imul dX12_changed_256 ?_
      refine m_iload dX12_changed_257 rfl ?_
      refine m_iadd dX12_changed_259 ?_
      obtain ⟨x2, e, hF⟩ := hF
      refine m_iald dX12_changed_260 e ?_
      refine m_iload dX12_changed_261 rfl ?_
      refine m_iload dX12_changed_263 rfl ?_
      refine m_icmp_ge 278 dX12_changed_265 (by decide) (fun c => ?_) (fun c => ?_)
      · replace hF := hF.1 c
        refine m_iconst dX12_changed_278 ki_0 ?_
        refine m_icmp_ne 286 dX12_changed_279 (by decide) (fun c => ?_) (fun c => ?_)
        · replace hF := hF.1 c
          refine m_iconst dX12_changed_286 ki_0 ?_
          refine m_istore (ls2 := [some (.ref r_0), none, none, none, none, none, some (.int x_6), none, none, some (.int x_9), some (.int x_10), some (.int 0), some (.int x_12)]) dX12_changed_287 (by decide) rfl ?_
          refine m_iinc (v := x_12 + 1) (ls2 := [some (.ref r_0), none, none, none, none, none, some (.int x_6), none, none, some (.int x_9), some (.int x_10), some (.int 0), some (.int (x_12 + 1))]) dX12_changed_289 (by decide) rfl (congrArg (_ + ·) ki_1) rfl ?_
          refine m_goto 236 dX12_changed_292 (by decide) ?_
          exact hF
        · replace hF := hF.2 c
          refine m_iconst dX12_changed_282 ki_1 ?_
          refine m_goto 287 dX12_changed_283 (by decide) ?_
          refine m_istore (ls2 := [some (.ref r_0), none, none, none, none, none, some (.int x_6), none, none, some (.int x_9), some (.int x_10), some (.int 1), some (.int x_12)]) dX12_changed_287 (by decide) rfl ?_
          refine m_iinc (v := x_12 + 1) (ls2 := [some (.ref r_0), none, none, none, none, none, some (.int x_6), none, none, some (.int x_9), some (.int x_10), some (.int 1), some (.int (x_12 + 1))]) dX12_changed_289 (by decide) rfl (congrArg (_ + ·) ki_1) rfl ?_
          refine m_goto 236 dX12_changed_292 (by decide) ?_
          exact hF
      · replace hF := hF.2 c
        refine m_aload_n dX12_changed_268 rfl ?_
        obtain ⟨r3, e, hF⟩ := hF
        refine m_get fg_X12_68 dX12_changed_269 e ?_
        refine m_iload dX12_changed_272 rfl ?_
        obtain ⟨x4, e, hF⟩ := hF
        refine m_iald dX12_changed_274 e ?_
        refine m_goto 279 dX12_changed_275 (by decide) ?_
        refine m_icmp_ne 286 dX12_changed_279 (by decide) (fun c => ?_) (fun c => ?_)
        · replace hF := hF.1 c
          refine m_iconst dX12_changed_286 ki_0 ?_
          refine m_istore (ls2 := [some (.ref r_0), none, none, none, none, none, some (.int x_6), none, none, some (.int x_9), some (.int x_10), some (.int 0), some (.int x_12)]) dX12_changed_287 (by decide) rfl ?_
          refine m_iinc (v := x_12 + 1) (ls2 := [some (.ref r_0), none, none, none, none, none, some (.int x_6), none, none, some (.int x_9), some (.int x_10), some (.int 0), some (.int (x_12 + 1))]) dX12_changed_289 (by decide) rfl (congrArg (_ + ·) ki_1) rfl ?_
          refine m_goto 236 dX12_changed_292 (by decide) ?_
          exact hF
        · replace hF := hF.2 c
          refine m_iconst dX12_changed_282 ki_1 ?_
          refine m_goto 287 dX12_changed_283 (by decide) ?_
          refine m_istore (ls2 := [some (.ref r_0), none, none, none, none, none, some (.int x_6), none, none, some (.int x_9), some (.int x_10), some (.int 1), some (.int x_12)]) dX12_changed_287 (by decide) rfl ?_
          refine m_iinc (v := x_12 + 1) (ls2 := [some (.ref r_0), none, none, none, none, none, some (.int x_6), none, none, some (.int x_9), some (.int x_10), some (.int 1), some (.int (x_12 + 1))]) dX12_changed_289 (by decide) rfl (congrArg (_ + ·) ki_1) rfl ?_
          refine m_goto 236 dX12_changed_292 (by decide) ?_
          exact hF
theorem en_X12_changed {d : Nat} {r_0 : Nat} {x_1 : Int32} {x_2 : Int32} {x_3 : Int32} {x_4 : Int32} {x_5 : Int32} {h : mH} {K : Option Value → mH → Prop} (hk : Wm d (0, 0) JX12_changed 0 [some (.ref r_0), some (.int x_1), some (.int x_2), some (.int x_3), some (.int x_4), some (.int x_5), none, none, none, none, none, none, none] [] h (fun r h' => h'.1 0 = h.1 0 ∧ K r h')) : Ev d (0, 0) MX12_changed [.ref r_0, .int x_1, .int x_2, .int x_3, .int x_4, .int x_5] h K :=
  m_met pn_X12 nl_X12 (fun _ => Nat.le_of_ble_eq_true rfl) hk
theorem bk_X12_joins_0 {d : Nat} (r_0 : Nat) (x_1 : Int32) (x_2 : Int32) (x_3 : Int32) {h : mH} {Q : Option Value → mH → Prop} (hF : (∃ h1 : mH, m_put h r_0 11 0 (.int 0) = some h1 ∧ Ev d (0, 0) MX12_in [.long x_1.toInt64, .long 2, .long 10] h1 (fun r2 h3 => ∃ x4 : Int32, r2 = some (.int x4) ∧ ((x4 = 0 → Q (some (.long (-1000001))) h3) ∧ (¬ (x4 = 0) → Ev d (0, 0) MX12_in [.long x_2.toInt64, .long 0, .long 9] h3 (fun r5 h6 => ∃ x7 : Int32, r5 = some (.int x7) ∧ ((¬ x7 = 0 → (∃ fs14 : List Value, (h6).1 r_0 = .inr (11, fs14) ∧ Ev d (0, 0) MX12_findShapes [.ref r_0, .int x_1] h6 (fun r8 h9 => r8 = none ∧ (∃ x10 : Int32, m_fld h9 r_0 [11] 21 = some (.int x10) ∧ Ev d (0, 0) MX12_in [.long x_3.toInt64, .long 0, .long ((x10 - 1).toInt64)] h9 (fun r11 h12 => ∃ x13 : Int32, r11 = some (.int x13) ∧ ((¬ x13 = 0 → Wm (d + 1) (0, 0) JX12_joins 63 [some (.ref r_0), none, some (.int x_2), some (.int x_3), some (.int 0), none, none, none, none, none, none, none] [] h12 Q) ∧ (x13 = 0 → Q (some (.long (-1000001))) h12))))))) ∧ (x7 = 0 → Q (some (.long (-1000001))) h6)))))))) : Wm (d + 1) (0, 0) JX12_joins 0 [some (.ref r_0), some (.int x_1), some (.int x_2), some (.int x_3), none, none, none, none, none, none, none, none] [] h Q := by
  refine m_aload_n dX12_joins_0 rfl ?_
  refine m_iconst dX12_joins_1 ki_0 ?_
  obtain ⟨h1, e, hF⟩ := hF
  refine m_putf fp_X12_78_11 dX12_joins_2 trivial e ?_
  refine m_iload_n dX12_joins_5 rfl ?_
  refine m_i2l dX12_joins_6 ?_
  refine m_ldc2_w dX12_joins_7 kc_X12_96 ?_
  refine m_ldc2_w dX12_joins_10 kc_X12_203 ?_
  refine m_static (as := [.long x_1.toInt64, .long 2, .long 10]) (rest := []) cs_X12_88 dX12_joins_13 rfl rfl (Nat.le_of_ble_eq_true rfl) (Nat.le_of_eq (Nat.zero_add _)) (Nat.le_of_eq (Nat.zero_add _)) (b1 := (0, 0)) (b2 := (0, 0)) (Ev.mono hF ?_)
  intro r2 h3 hF
  obtain ⟨x4, rfl, hF⟩ := hF
  refine m_if_eq 31 dX12_joins_16 (by decide) (fun c => ?_) (fun c => ?_)
  · replace hF := hF.1 c
    refine m_ldc2_w dX12_joins_31 kc_X12_205 ?_
    exact m_lreturn dX12_joins_34 trivial hF
  · replace hF := hF.2 c
    refine m_iload_n dX12_joins_19 rfl ?_
    refine m_i2l dX12_joins_20 ?_
    refine m_lconst dX12_joins_21 kl_0 ?_
    refine m_ldc2_w dX12_joins_22 kc_X12_103 ?_
    refine m_static (as := [.long x_2.toInt64, .long 0, .long 9]) (rest := []) cs_X12_88 dX12_joins_25 rfl rfl (Nat.le_of_ble_eq_true rfl) (Nat.le_of_eq (Nat.zero_add _)) (Nat.le_of_eq (Nat.zero_add _)) (b1 := (0, 0)) (b2 := (0, 0)) (Ev.mono hF ?_)
    intro r5 h6 hF
    obtain ⟨x7, rfl, hF⟩ := hF
    refine m_if_ne 35 dX12_joins_28 (by decide) (fun c => ?_) (fun c => ?_)
    · replace hF := hF.1 c
      refine m_aload_n dX12_joins_35 rfl ?_
      refine m_iload_n dX12_joins_36 rfl ?_
      obtain ⟨fs14, e, hF⟩ := hF
      refine m_virtual (as := [.int x_1]) (rest := []) cv_X12_207_11 e dX12_joins_37 rfl rfl (Nat.le_of_ble_eq_true rfl) (Nat.le_of_eq (Nat.zero_add _)) (Nat.le_of_eq (Nat.zero_add _)) (b1 := (0, 0)) (b2 := (0, 0)) (Ev.mono hF ?_)
      intro r8 h9 hF
      obtain ⟨rfl, hF⟩ := hF
      refine m_iload_n dX12_joins_40 rfl ?_
      refine m_i2l dX12_joins_41 ?_
      refine m_lconst dX12_joins_42 kl_0 ?_
      refine m_aload_n dX12_joins_43 rfl ?_
      obtain ⟨x10, e, hF⟩ := hF
      refine m_get fg_X12_200 dX12_joins_44 e ?_
      refine m_iconst dX12_joins_47 ki_1 ?_
      refine m_isub dX12_joins_48 ?_
      refine m_i2l dX12_joins_49 ?_
      refine m_static (as := [.long x_3.toInt64, .long 0, .long ((x10 - 1).toInt64)]) (rest := []) cs_X12_88 dX12_joins_50 rfl rfl (Nat.le_of_ble_eq_true rfl) (Nat.le_of_eq (Nat.zero_add _)) (Nat.le_of_eq (Nat.zero_add _)) (b1 := (0, 0)) (b2 := (0, 0)) (Ev.mono hF ?_)
      intro r11 h12 hF
      obtain ⟨x13, rfl, hF⟩ := hF
      refine m_if_ne 60 dX12_joins_53 (by decide) (fun c => ?_) (fun c => ?_)
      · replace hF := hF.1 c
        refine m_iconst dX12_joins_60 ki_0 ?_
        refine m_istore (ls2 := [some (.ref r_0), some (.int x_1), some (.int x_2), some (.int x_3), some (.int 0), none, none, none, none, none, none, none]) dX12_joins_61 (by decide) rfl ?_
        refine m_wk [1] rfl ?_
        exact hF
      · replace hF := hF.2 c
        refine m_ldc2_w dX12_joins_56 kc_X12_205 ?_
        exact m_lreturn dX12_joins_59 trivial hF
    · replace hF := hF.2 c
      refine m_ldc2_w dX12_joins_31 kc_X12_205 ?_
      exact m_lreturn dX12_joins_34 trivial hF
theorem bk_X12_joins_63 {d : Nat} (r_0 : Nat) (x_2 : Int32) (x_3 : Int32) (x_4 : Int32) {h : mH} {Q : Option Value → mH → Prop} (hF : (∃ x1 : Int32, m_fld h r_0 [11] 21 = some (.int x1) ∧ ((x1 ≤ x_4 → Wm (d + 1) (0, 0) JX12_joins 104 [some (.ref r_0), none, some (.int x_2), some (.int x_3), some (.int 0), none, none, none, none, none, none, none] [] h Q) ∧ (¬ (x1 ≤ x_4) → (∃ r2 : Nat, m_fld h r_0 [11] 24 = some (.ref r2) ∧ (∃ x3 : Int32, m_fld h r_0 [11] 21 = some (.int x3) ∧ ((¬ x_4 = (x3 - 1) → (∃ h4 : mH, m_ls h r2 x_4 0 = some h4 ∧ Wm (d + 1) (0, 0) JX12_joins 63 [some (.ref r_0), none, some (.int x_2), some (.int x_3), some (.int (x_4 + 1)), none, none, none, none, none, none, none] [] h4 Q)) ∧ (x_4 = (x3 - 1) → (∃ h5 : mH, m_ls h r2 x_4 1 = some h5 ∧ Wm (d + 1) (0, 0) JX12_joins 63 [some (.ref r_0), none, some (.int x_2), some (.int x_3), some (.int (x_4 + 1)), none, none, none, none, none, none, none] [] h5 Q))))))))) : Wm (d + 1) (0, 0) JX12_joins 63 [some (.ref r_0), none, some (.int x_2), some (.int x_3), some (.int x_4), none, none, none, none, none, none, none] [] h Q := by
  refine m_iload dX12_joins_63 rfl ?_
  refine m_aload_n dX12_joins_65 rfl ?_
  obtain ⟨x1, e, hF⟩ := hF
  refine m_get fg_X12_200 dX12_joins_66 e ?_
  refine m_icmp_ge 101 dX12_joins_69 (by decide) (fun c => ?_) (fun c => ?_)
  · replace hF := hF.1 c
    refine m_iconst dX12_joins_101 ki_0 ?_
    refine m_istore (ls2 := [some (.ref r_0), none, some (.int x_2), some (.int x_3), some (.int 0), none, none, none, none, none, none, none]) dX12_joins_102 (by decide) rfl ?_
    exact hF
  · replace hF := hF.2 c
    refine m_aload_n dX12_joins_72 rfl ?_
    obtain ⟨r2, e, hF⟩ := hF
    refine m_get fg_X12_71 dX12_joins_73 e ?_
    refine m_iload dX12_joins_76 rfl ?_
    refine m_iload dX12_joins_78 rfl ?_
    refine m_aload_n dX12_joins_80 rfl ?_
    obtain ⟨x3, e, hF⟩ := hF
    refine m_get fg_X12_200 dX12_joins_81 e ?_
    refine m_iconst dX12_joins_84 ki_1 ?_
    refine m_isub dX12_joins_85 ?_
    refine m_icmp_ne 93 dX12_joins_86 (by decide) (fun c => ?_) (fun c => ?_)
    · replace hF := hF.1 c
      refine m_lconst dX12_joins_93 kl_0 ?_
      obtain ⟨h4, e, hF⟩ := hF
      refine m_last dX12_joins_94 e ?_
      refine m_iinc (v := x_4 + 1) (ls2 := [some (.ref r_0), none, some (.int x_2), some (.int x_3), some (.int (x_4 + 1)), none, none, none, none, none, none, none]) dX12_joins_95 (by decide) rfl (congrArg (_ + ·) ki_1) rfl ?_
      refine m_goto 63 dX12_joins_98 (by decide) ?_
      exact hF
    · replace hF := hF.2 c
      refine m_lconst dX12_joins_89 kl_1 ?_
      refine m_goto 94 dX12_joins_90 (by decide) ?_
      obtain ⟨h5, e, hF⟩ := hF
      refine m_last dX12_joins_94 e ?_
      refine m_iinc (v := x_4 + 1) (ls2 := [some (.ref r_0), none, some (.int x_2), some (.int x_3), some (.int (x_4 + 1)), none, none, none, none, none, none, none]) dX12_joins_95 (by decide) rfl (congrArg (_ + ·) ki_1) rfl ?_
      refine m_goto 63 dX12_joins_98 (by decide) ?_
      exact hF
theorem bk_X12_joins_104 {d : Nat} (r_0 : Nat) (x_2 : Int32) (x_3 : Int32) (x_4 : Int32) {h : mH} {Q : Option Value → mH → Prop} (hF : ((x_2 ≤ x_4 → (∃ r1 : Nat, m_fld h r_0 [11] 24 = some (.ref r1) ∧ (∃ y2 : Int64, m_ll h r1 x_3 = some y2 ∧ Q (some (.long y2)) h))) ∧ (¬ (x_2 ≤ x_4) → Wm (d + 1) (0, 0) JX12_joins 113 [some (.ref r_0), none, some (.int x_2), some (.int x_3), some (.int x_4), some (.int 0), none, none, none, none, none, none] [] h Q))) : Wm (d + 1) (0, 0) JX12_joins 104 [some (.ref r_0), none, some (.int x_2), some (.int x_3), some (.int x_4), none, none, none, none, none, none, none] [] h Q := by
  refine m_iload dX12_joins_104 rfl ?_
  refine m_iload_n dX12_joins_106 rfl ?_
  refine m_icmp_ge 353 dX12_joins_107 (by decide) (fun c => ?_) (fun c => ?_)
  · replace hF := hF.1 c
    refine m_aload_n dX12_joins_353 rfl ?_
    obtain ⟨r1, e, hF⟩ := hF
    refine m_get fg_X12_71 dX12_joins_354 e ?_
    refine m_iload_n dX12_joins_357 rfl ?_
    obtain ⟨y2, e, hF⟩ := hF
    refine m_lald dX12_joins_358 e ?_
    exact m_lreturn dX12_joins_359 trivial hF
  · replace hF := hF.2 c
    refine m_iconst dX12_joins_110 ki_0 ?_
    refine m_istore (ls2 := [some (.ref r_0), none, some (.int x_2), some (.int x_3), some (.int x_4), some (.int 0), none, none, none, none, none, none]) dX12_joins_111 (by decide) rfl ?_
    exact hF
theorem bk_X12_joins_113 {d : Nat} (r_0 : Nat) (x_2 : Int32) (x_3 : Int32) (x_4 : Int32) (x_5 : Int32) {h : mH} {Q : Option Value → mH → Prop} (hF : (∃ x1 : Int32, m_fld h r_0 [11] 21 = some (.int x1) ∧ ((x1 ≤ x_5 → Wm (d + 1) (0, 0) JX12_joins 318 [some (.ref r_0), none, some (.int x_2), some (.int x_3), some (.int x_4), some (.int 0), none, none, none, none, none, none] [] h Q) ∧ (¬ (x1 ≤ x_5) → Wm (d + 1) (0, 0) JX12_joins 128 [some (.ref r_0), none, some (.int x_2), some (.int x_3), some (.int x_4), some (.int x_5), some (.long 0), none, some (.int 0), none, none, none] [] h Q)))) : Wm (d + 1) (0, 0) JX12_joins 113 [some (.ref r_0), none, some (.int x_2), some (.int x_3), some (.int x_4), some (.int x_5), none, none, none, none, none, none] [] h Q := by
  refine m_iload dX12_joins_113 rfl ?_
  refine m_aload_n dX12_joins_115 rfl ?_
  obtain ⟨x1, e, hF⟩ := hF
  refine m_get fg_X12_200 dX12_joins_116 e ?_
  refine m_icmp_ge 315 dX12_joins_119 (by decide) (fun c => ?_) (fun c => ?_)
  · replace hF := hF.1 c
    refine m_iconst dX12_joins_315 ki_0 ?_
    refine m_istore (ls2 := [some (.ref r_0), none, some (.int x_2), some (.int x_3), some (.int x_4), some (.int 0), none, none, none, none, none, none]) dX12_joins_316 (by decide) rfl ?_
    exact hF
  · replace hF := hF.2 c
    refine m_lconst dX12_joins_122 kl_0 ?_
    refine m_lstore (ls2 := [some (.ref r_0), none, some (.int x_2), some (.int x_3), some (.int x_4), some (.int x_5), some (.long 0), none, none, none, none, none]) dX12_joins_123 (by decide) rfl ?_
    refine m_iconst dX12_joins_125 ki_0 ?_
    refine m_istore (ls2 := [some (.ref r_0), none, some (.int x_2), some (.int x_3), some (.int x_4), some (.int x_5), some (.long 0), none, some (.int 0), none, none, none]) dX12_joins_126 (by decide) rfl ?_
    exact hF
theorem bk_X12_joins_318 {d : Nat} (r_0 : Nat) (x_2 : Int32) (x_3 : Int32) (x_4 : Int32) (x_5 : Int32) {h : mH} {Q : Option Value → mH → Prop} (hF : (∃ x1 : Int32, m_fld h r_0 [11] 21 = some (.int x1) ∧ ((x1 ≤ x_5 → Wm (d + 1) (0, 0) JX12_joins 104 [some (.ref r_0), none, some (.int x_2), some (.int x_3), some (.int (x_4 + 1)), none, none, none, none, none, none, none] [] h Q) ∧ (¬ (x1 ≤ x_5) → (∃ r2 : Nat, m_fld h r_0 [11] 24 = some (.ref r2) ∧ (∃ r3 : Nat, m_fld h r_0 [11] 25 = some (.ref r3) ∧ (∃ y4 : Int64, m_ll h r3 x_5 = some y4 ∧ (∃ h5 : mH, m_ls h r2 x_5 y4 = some h5 ∧ Wm (d + 1) (0, 0) JX12_joins 318 [some (.ref r_0), none, some (.int x_2), some (.int x_3), some (.int x_4), some (.int (x_5 + 1)), none, none, none, none, none, none] [] h5 Q)))))))) : Wm (d + 1) (0, 0) JX12_joins 318 [some (.ref r_0), none, some (.int x_2), some (.int x_3), some (.int x_4), some (.int x_5), none, none, none, none, none, none] [] h Q := by
  refine m_iload dX12_joins_318 rfl ?_
  refine m_aload_n dX12_joins_320 rfl ?_
  obtain ⟨x1, e, hF⟩ := hF
  refine m_get fg_X12_200 dX12_joins_321 e ?_
  refine m_icmp_ge 347 dX12_joins_324 (by decide) (fun c => ?_) (fun c => ?_)
  · replace hF := hF.1 c
    refine m_iinc (v := x_4 + 1) (ls2 := [some (.ref r_0), none, some (.int x_2), some (.int x_3), some (.int (x_4 + 1)), some (.int x_5), none, none, none, none, none, none]) dX12_joins_347 (by decide) rfl (congrArg (_ + ·) ki_1) rfl ?_
    refine m_goto 104 dX12_joins_350 (by decide) ?_
    refine m_wk [5] rfl ?_
    exact hF
  · replace hF := hF.2 c
    refine m_aload_n dX12_joins_327 rfl ?_
    obtain ⟨r2, e, hF⟩ := hF
    refine m_get fg_X12_71 dX12_joins_328 e ?_
    refine m_iload dX12_joins_331 rfl ?_
    refine m_aload_n dX12_joins_333 rfl ?_
    obtain ⟨r3, e, hF⟩ := hF
    refine m_get fg_X12_75 dX12_joins_334 e ?_
    refine m_iload dX12_joins_337 rfl ?_
    obtain ⟨y4, e, hF⟩ := hF
    refine m_lald dX12_joins_339 e ?_
    obtain ⟨h5, e, hF⟩ := hF
    refine m_last dX12_joins_340 e ?_
    refine m_iinc (v := x_5 + 1) (ls2 := [some (.ref r_0), none, some (.int x_2), some (.int x_3), some (.int x_4), some (.int (x_5 + 1)), none, none, none, none, none, none]) dX12_joins_341 (by decide) rfl (congrArg (_ + ·) ki_1) rfl ?_
    refine m_goto 318 dX12_joins_344 (by decide) ?_
    exact hF
theorem bk_X12_joins_128 {d : Nat} (r_0 : Nat) (x_2 : Int32) (x_3 : Int32) (x_4 : Int32) (x_5 : Int32) (y_6 : Int64) (x_8 : Int32) {h : mH} {Q : Option Value → mH → Prop} (hF : ((10 ≤ x_8 → (∃ r1 : Nat, m_fld h r_0 [11] 25 = some (.ref r1) ∧ (∃ h2 : mH, m_ls h r1 x_5 y_6 = some h2 ∧ Wm (d + 1) (0, 0) JX12_joins 113 [some (.ref r_0), none, some (.int x_2), some (.int x_3), some (.int x_4), some (.int (x_5 + 1)), none, none, none, none, none, none] [] h2 Q))) ∧ (¬ (10 ≤ x_8) → (∃ r3 : Nat, m_fld h r_0 [11] 22 = some (.ref r3) ∧ (∃ x4 : Int32, m_il h r3 ((10 * x_5) + x_8) = some x4 ∧ Wm (d + 1) (0, 0) JX12_joins 153 [some (.ref r_0), none, some (.int x_2), some (.int x_3), some (.int x_4), some (.int x_5), some (.long y_6), none, some (.int x_8), some (.int x4), some (.int 1), none] [] h Q))))) : Wm (d + 1) (0, 0) JX12_joins 128 [some (.ref r_0), none, some (.int x_2), some (.int x_3), some (.int x_4), some (.int x_5), some (.long y_6), none, some (.int x_8), none, none, none] [] h Q := by
  refine m_iload dX12_joins_128 rfl ?_
  refine m_bipush dX12_joins_130 kb_10 ?_
  refine m_icmp_ge 300 dX12_joins_132 (by decide) (fun c => ?_) (fun c => ?_)
  · replace hF := hF.1 c
    refine m_aload_n dX12_joins_300 rfl ?_
    obtain ⟨r1, e, hF⟩ := hF
    refine m_get fg_X12_75 dX12_joins_301 e ?_
    refine m_iload dX12_joins_304 rfl ?_
    refine m_lload dX12_joins_306 rfl ?_
    obtain ⟨h2, e, hF⟩ := hF
    refine m_last dX12_joins_308 e ?_
    refine m_iinc (v := x_5 + 1) (ls2 := [some (.ref r_0), none, some (.int x_2), some (.int x_3), some (.int x_4), some (.int (x_5 + 1)), some (.long y_6), none, some (.int x_8), none, none, none]) dX12_joins_309 (by decide) rfl (congrArg (_ + ·) ki_1) rfl ?_
    refine m_goto 113 dX12_joins_312 (by decide) ?_
    refine m_wk [6, 8] rfl ?_
    exact hF
  · replace hF := hF.2 c
    refine m_aload_n dX12_joins_135 rfl ?_
    obtain ⟨r3, e, hF⟩ := hF
    refine m_get fg_X12_65 dX12_joins_136 e ?_
    refine m_bipush dX12_joins_139 kb_10 ?_
    refine m_iload dX12_joins_141 rfl ?_
    refine m_imul dX12_joins_143 ?_
    refine m_iload dX12_joins_144 rfl ?_
    refine m_iadd dX12_joins_146 ?_
    obtain ⟨x4, e, hF⟩ := hF
    refine m_iald dX12_joins_147 e ?_
    refine m_istore (ls2 := [some (.ref r_0), none, some (.int x_2), some (.int x_3), some (.int x_4), some (.int x_5), some (.long y_6), none, some (.int x_8), some (.int x4), none, none]) dX12_joins_148 (by decide) rfl ?_
    refine m_iconst dX12_joins_150 ki_1 ?_
    refine m_istore (ls2 := [some (.ref r_0), none, some (.int x_2), some (.int x_3), some (.int x_4), some (.int x_5), some (.long y_6), none, some (.int x_8), some (.int x4), some (.int 1), none]) dX12_joins_151 (by decide) rfl ?_
    exact hF
theorem bk_X12_joins_153 {d : Nat} (r_0 : Nat) (x_2 : Int32) (x_3 : Int32) (x_4 : Int32) (x_5 : Int32) (y_6 : Int64) (x_8 : Int32) (x_9 : Int32) (x_10 : Int32) {h : mH} {Q : Option Value → mH → Prop} (hF : ((x_9 < (2 * x_10) → Wm (d + 1) (0, 0) JX12_joins 218 [some (.ref r_0), none, some (.int x_2), some (.int x_3), some (.int x_4), some (.int x_5), some (.long y_6), none, some (.int x_8), some (.int x_9), some (.int (x_8 + 1)), none] [] h Q) ∧ (¬ (x_9 < (2 * x_10)) → ((¬ (2 * x_10) = x_9 → (∃ r1 : Nat, m_fld h r_0 [11] 24 = some (.ref r1) ∧ (∃ fs6 : List Value, (h).1 r_0 = .inr (11, fs6) ∧ Ev d (0, 0) MX12_changed [.ref r_0, .int x_5, .int x_9, .int 0, .int (x_9 - x_10), .int x_10] h (fun r2 h3 => ∃ x4 : Int32, r2 = some (.int x4) ∧ (∃ y5 : Int64, m_ll h3 r1 x4 = some y5 ∧ Wm (d + 1) (0, 0) JX12_joins 153 [some (.ref r_0), none, some (.int x_2), some (.int x_3), some (.int x_4), some (.int x_5), some (.long (y_6 + (x_9.toInt64 * y5))), none, some (.int x_8), some (.int x_9), some (.int (x_10 + 1)), none] [] h3 Q))))) ∧ ((2 * x_10) = x_9 → (∃ r7 : Nat, m_fld h r_0 [11] 24 = some (.ref r7) ∧ (∃ fs12 : List Value, (h).1 r_0 = .inr (11, fs12) ∧ Ev d (0, 0) MX12_changed [.ref r_0, .int x_5, .int x_9, .int 0, .int (x_9 - x_10), .int x_10] h (fun r8 h9 => ∃ x10 : Int32, r8 = some (.int x10) ∧ (∃ y11 : Int64, m_ll h9 r7 x10 = some y11 ∧ Wm (d + 1) (0, 0) JX12_joins 153 [some (.ref r_0), none, some (.int x_2), some (.int x_3), some (.int x_4), some (.int x_5), some (.long (y_6 + (x_10.toInt64 * y11))), none, some (.int x_8), some (.int x_9), some (.int (x_10 + 1)), none] [] h9 Q))))))))) : Wm (d + 1) (0, 0) JX12_joins 153 [some (.ref r_0), none, some (.int x_2), some (.int x_3), some (.int x_4), some (.int x_5), some (.long y_6), none, some (.int x_8), some (.int x_9), some (.int x_10), none] [] h Q := by
  refine m_iconst dX12_joins_153 ki_2 ?_
  refine m_iload dX12_joins_154 rfl ?_
  refine m_imul dX12_joins_156 ?_
  refine m_iload dX12_joins_157 rfl ?_
  refine m_icmp_gt 212 dX12_joins_159 (by decide) (fun c => ?_) (fun c => ?_)
  · replace hF := hF.1 c
    refine m_iload dX12_joins_212 rfl ?_
    refine m_iconst dX12_joins_214 ki_1 ?_
    refine m_iadd dX12_joins_215 ?_
    refine m_istore (ls2 := [some (.ref r_0), none, some (.int x_2), some (.int x_3), some (.int x_4), some (.int x_5), some (.long y_6), none, some (.int x_8), some (.int x_9), some (.int (x_8 + 1)), none]) dX12_joins_216 (by decide) rfl ?_
    exact hF
  · replace hF := hF.2 c
    refine m_lload dX12_joins_162 rfl ?_
    refine m_iconst dX12_joins_164 ki_2 ?_
    refine m_iload dX12_joins_165 rfl ?_
    refine m_imul dX12_joins_167 ?_
    refine m_iload dX12_joins_168 rfl ?_
    refine m_icmp_ne 178 dX12_joins_170 (by decide) (fun c => ?_) (fun c => ?_)
    · replace hF := hF.1 c
      refine m_iload dX12_joins_178 rfl ?_
      refine m_i2l dX12_joins_180 ?_
      refine m_aload_n dX12_joins_181 rfl ?_
      obtain ⟨r1, e, hF⟩ := hF
      refine m_get fg_X12_71 dX12_joins_182 e ?_
      refine m_aload_n dX12_joins_185 rfl ?_
      refine m_iload dX12_joins_186 rfl ?_
      refine m_iload dX12_joins_188 rfl ?_
      refine m_iconst dX12_joins_190 ki_0 ?_
      refine m_iload dX12_joins_191 rfl ?_
      refine m_iload dX12_joins_193 rfl ?_
      refine m_isub dX12_joins_195 ?_
      refine m_iload dX12_joins_196 rfl ?_
      obtain ⟨fs6, e, hF⟩ := hF
      refine m_virtual (as := [.int x_5, .int x_9, .int 0, .int (x_9 - x_10), .int x_10]) (rest := [.ref r1, .long x_9.toInt64, .long y_6]) cv_X12_210_11 e dX12_joins_198 rfl rfl (Nat.le_of_ble_eq_true rfl) (Nat.le_of_eq (Nat.zero_add _)) (Nat.le_of_eq (Nat.zero_add _)) (b1 := (0, 0)) (b2 := (0, 0)) (Ev.mono hF ?_)
      intro r2 h3 hF
      obtain ⟨x4, rfl, hF⟩ := hF
      obtain ⟨y5, e, hF⟩ := hF
      refine m_lald dX12_joins_201 e ?_
      refine m_lmul dX12_joins_202 ?_
      refine m_ladd dX12_joins_203 ?_
      refine m_lstore (ls2 := [some (.ref r_0), none, some (.int x_2), some (.int x_3), some (.int x_4), some (.int x_5), some (.long (y_6 + (x_9.toInt64 * y5))), none, some (.int x_8), some (.int x_9), some (.int x_10), none]) dX12_joins_204 (by decide) rfl ?_
      refine m_iinc (v := x_10 + 1) (ls2 := [some (.ref r_0), none, some (.int x_2), some (.int x_3), some (.int x_4), some (.int x_5), some (.long (y_6 + (x_9.toInt64 * y5))), none, some (.int x_8), some (.int x_9), some (.int (x_10 + 1)), none]) dX12_joins_206 (by decide) rfl (congrArg (_ + ·) ki_1) rfl ?_
      refine m_goto 153 dX12_joins_209 (by decide) ?_
      exact hF
    · replace hF := hF.2 c
      refine m_iload dX12_joins_173 rfl ?_
      refine m_goto 180 dX12_joins_175 (by decide) ?_
      refine m_i2l dX12_joins_180 ?_
      refine m_aload_n dX12_joins_181 rfl ?_
      obtain ⟨r7, e, hF⟩ := hF
      refine m_get fg_X12_71 dX12_joins_182 e ?_
      refine m_aload_n dX12_joins_185 rfl ?_
      refine m_iload dX12_joins_186 rfl ?_
      refine m_iload dX12_joins_188 rfl ?_
      refine m_iconst dX12_joins_190 ki_0 ?_
      refine m_iload dX12_joins_191 rfl ?_
      refine m_iload dX12_joins_193 rfl ?_
      refine m_isub dX12_joins_195 ?_
      refine m_iload dX12_joins_196 rfl ?_
      obtain ⟨fs12, e, hF⟩ := hF
      refine m_virtual (as := [.int x_5, .int x_9, .int 0, .int (x_9 - x_10), .int x_10]) (rest := [.ref r7, .long x_10.toInt64, .long y_6]) cv_X12_210_11 e dX12_joins_198 rfl rfl (Nat.le_of_ble_eq_true rfl) (Nat.le_of_eq (Nat.zero_add _)) (Nat.le_of_eq (Nat.zero_add _)) (b1 := (0, 0)) (b2 := (0, 0)) (Ev.mono hF ?_)
      intro r8 h9 hF
      obtain ⟨x10, rfl, hF⟩ := hF
      obtain ⟨y11, e, hF⟩ := hF
      refine m_lald dX12_joins_201 e ?_
      refine m_lmul dX12_joins_202 ?_
      refine m_ladd dX12_joins_203 ?_
      refine m_lstore (ls2 := [some (.ref r_0), none, some (.int x_2), some (.int x_3), some (.int x_4), some (.int x_5), some (.long (y_6 + (x_10.toInt64 * y11))), none, some (.int x_8), some (.int x_9), some (.int x_10), none]) dX12_joins_204 (by decide) rfl ?_
      refine m_iinc (v := x_10 + 1) (ls2 := [some (.ref r_0), none, some (.int x_2), some (.int x_3), some (.int x_4), some (.int x_5), some (.long (y_6 + (x_10.toInt64 * y11))), none, some (.int x_8), some (.int x_9), some (.int (x_10 + 1)), none]) dX12_joins_206 (by decide) rfl (congrArg (_ + ·) ki_1) rfl ?_
      refine m_goto 153 dX12_joins_209 (by decide) ?_
      exact hF
theorem bk_X12_joins_218 {d : Nat} (r_0 : Nat) (x_2 : Int32) (x_3 : Int32) (x_4 : Int32) (x_5 : Int32) (y_6 : Int64) (x_8 : Int32) (x_9 : Int32) (x_10 : Int32) {h : mH} {Q : Option Value → mH → Prop} (hF : ((10 ≤ x_10 → Wm (d + 1) (0, 0) JX12_joins 128 [some (.ref r_0), none, some (.int x_2), some (.int x_3), some (.int x_4), some (.int x_5), some (.long y_6), none, some (.int (x_8 + 1)), none, none, none] [] h Q) ∧ (¬ (10 ≤ x_10) → (∃ r1 : Nat, m_fld h r_0 [11] 22 = some (.ref r1) ∧ (∃ x2 : Int32, m_il h r1 ((10 * x_5) + x_10) = some x2 ∧ ((x_9 ≤ 0 → Wm (d + 1) (0, 0) JX12_joins 218 [some (.ref r_0), none, some (.int x_2), some (.int x_3), some (.int x_4), some (.int x_5), some (.long (y_6 + 0)), none, some (.int x_8), some (.int x_9), some (.int (x_10 + 1)), none] [] h Q) ∧ (¬ (x_9 ≤ 0) → ((x2 ≤ 0 → Wm (d + 1) (0, 0) JX12_joins 218 [some (.ref r_0), none, some (.int x_2), some (.int x_3), some (.int x_4), some (.int x_5), some (.long (y_6 + 0)), none, some (.int x_8), some (.int x_9), some (.int (x_10 + 1)), none] [] h Q) ∧ (¬ (x2 ≤ 0) → (∃ r3 : Nat, m_fld h r_0 [11] 24 = some (.ref r3) ∧ (∃ fs8 : List Value, (h).1 r_0 = .inr (11, fs8) ∧ Ev d (0, 0) MX12_changed [.ref r_0, .int x_5, .int x_9, .int x2, .int (x_9 + x2), .int 0] h (fun r4 h5 => ∃ x6 : Int32, r4 = some (.int x6) ∧ (∃ y7 : Int64, m_ll h5 r3 x6 = some y7 ∧ Wm (d + 1) (0, 0) JX12_joins 218 [some (.ref r_0), none, some (.int x_2), some (.int x_3), some (.int x_4), some (.int x_5), some (.long (y_6 + ((x_9.toInt64 * x2.toInt64) * y7))), none, some (.int x_8), some (.int x_9), some (.int (x_10 + 1)), none] [] h5 Q))))))))))))) : Wm (d + 1) (0, 0) JX12_joins 218 [some (.ref r_0), none, some (.int x_2), some (.int x_3), some (.int x_4), some (.int x_5), some (.long y_6), none, some (.int x_8), some (.int x_9), some (.int x_10), none] [] h Q := by
  refine m_iload dX12_joins_218 rfl ?_
  refine m_bipush dX12_joins_220 kb_10 ?_
  refine m_icmp_ge 294 dX12_joins_222 (by decide) (fun c => ?_) (fun c => ?_)
  · replace hF := hF.1 c
    refine m_iinc (v := x_8 + 1) (ls2 := [some (.ref r_0), none, some (.int x_2), some (.int x_3), some (.int x_4), some (.int x_5), some (.long y_6), none, some (.int (x_8 + 1)), some (.int x_9), some (.int x_10), none]) dX12_joins_294 (by decide) rfl (congrArg (_ + ·) ki_1) rfl ?_
    refine m_goto 128 dX12_joins_297 (by decide) ?_
    refine m_wk [9, 10] rfl ?_
    exact hF
  · replace hF := hF.2 c
    refine m_aload_n dX12_joins_225 rfl ?_
    obtain ⟨r1, e, hF⟩ := hF
    refine m_get fg_X12_65 dX12_joins_226 e ?_
    refine m_bipush dX12_joins_229 kb_10 ?_
    refine m_iload dX12_joins_231 rfl ?_
    refine m_imul dX12_joins_233 ?_
    refine m_iload dX12_joins_234 rfl ?_
    refine m_iadd dX12_joins_236 ?_
    obtain ⟨x2, e, hF⟩ := hF
    refine m_iald dX12_joins_237 e ?_
    refine m_istore (ls2 := [some (.ref r_0), none, some (.int x_2), some (.int x_3), some (.int x_4), some (.int x_5), some (.long y_6), none, some (.int x_8), some (.int x_9), some (.int x_10), some (.int x2)]) dX12_joins_238 (by decide) rfl ?_
    refine m_lload dX12_joins_240 rfl ?_
    refine m_iload dX12_joins_242 rfl ?_
    refine m_if_le 284 dX12_joins_244 (by decide) (fun c => ?_) (fun c => ?_)
    · replace hF := hF.1 c
      refine m_lconst dX12_joins_284 kl_0 ?_
      refine m_ladd dX12_joins_285 ?_
      refine m_lstore (ls2 := [some (.ref r_0), none, some (.int x_2), some (.int x_3), some (.int x_4), some (.int x_5), some (.long (y_6 + 0)), none, some (.int x_8), some (.int x_9), some (.int x_10), some (.int x2)]) dX12_joins_286 (by decide) rfl ?_
      refine m_iinc (v := x_10 + 1) (ls2 := [some (.ref r_0), none, some (.int x_2), some (.int x_3), some (.int x_4), some (.int x_5), some (.long (y_6 + 0)), none, some (.int x_8), some (.int x_9), some (.int (x_10 + 1)), some (.int x2)]) dX12_joins_288 (by decide) rfl (congrArg (_ + ·) ki_1) rfl ?_
      refine m_goto 218 dX12_joins_291 (by decide) ?_
      refine m_wk [11] rfl ?_
      exact hF
    · replace hF := hF.2 c
      refine m_iload dX12_joins_247 rfl ?_
      refine m_if_le 284 dX12_joins_249 (by decide) (fun c => ?_) (fun c => ?_)
      · replace hF := hF.1 c
        refine m_lconst dX12_joins_284 kl_0 ?_
        refine m_ladd dX12_joins_285 ?_
        refine m_lstore (ls2 := [some (.ref r_0), none, some (.int x_2), some (.int x_3), some (.int x_4), some (.int x_5), some (.long (y_6 + 0)), none, some (.int x_8), some (.int x_9), some (.int x_10), some (.int x2)]) dX12_joins_286 (by decide) rfl ?_
        refine m_iinc (v := x_10 + 1) (ls2 := [some (.ref r_0), none, some (.int x_2), some (.int x_3), some (.int x_4), some (.int x_5), some (.long (y_6 + 0)), none, some (.int x_8), some (.int x_9), some (.int (x_10 + 1)), some (.int x2)]) dX12_joins_288 (by decide) rfl (congrArg (_ + ·) ki_1) rfl ?_
        refine m_goto 218 dX12_joins_291 (by decide) ?_
        refine m_wk [11] rfl ?_
        exact hF
      · replace hF := hF.2 c
        refine m_iload dX12_joins_252 rfl ?_
        refine m_i2l dX12_joins_254 ?_
        refine m_iload dX12_joins_255 rfl ?_
        refine m_i2l dX12_joins_257 ?_
        refine m_lmul dX12_joins_258 ?_
        refine m_aload_n dX12_joins_259 rfl ?_
        obtain ⟨r3, e, hF⟩ := hF
        refine m_get fg_X12_71 dX12_joins_260 e ?_
        refine m_aload_n dX12_joins_263 rfl ?_
        refine m_iload dX12_joins_264 rfl ?_
        refine m_iload dX12_joins_266 rfl ?_
        refine m_iload dX12_joins_268 rfl ?_
        refine m_iload dX12_joins_270 rfl ?_
        refine m_iload dX12_joins_272 rfl ?_
        refine m_iadd dX12_joins_274 ?_
        refine m_iconst dX12_joins_275 ki_0 ?_
        obtain ⟨fs8, e, hF⟩ := hF
        refine m_virtual (as := [.int x_5, .int x_9, .int x2, .int (x_9 + x2), .int 0]) (rest := [.ref r3, .long (x_9.toInt64 * x2.toInt64), .long y_6]) cv_X12_210_11 e dX12_joins_276 rfl rfl (Nat.le_of_ble_eq_true rfl) (Nat.le_of_eq (Nat.zero_add _)) (Nat.le_of_eq (Nat.zero_add _)) (b1 := (0, 0)) (b2 := (0, 0)) (Ev.mono hF ?_)
        intro r4 h5 hF
        obtain ⟨x6, rfl, hF⟩ := hF
        obtain ⟨y7, e, hF⟩ := hF
        refine m_lald dX12_joins_279 e ?_
        refine m_lmul dX12_joins_280 ?_
        refine m_goto 285 dX12_joins_281 (by decide) ?_
        refine m_ladd dX12_joins_285 ?_
        refine m_lstore (ls2 := [some (.ref r_0), none, some (.int x_2), some (.int x_3), some (.int x_4), some (.int x_5), some (.long (y_6 + ((x_9.toInt64 * x2.toInt64) * y7))), none, some (.int x_8), some (.int x_9), some (.int x_10), some (.int x2)]) dX12_joins_286 (by decide) rfl ?_
        refine m_iinc (v := x_10 + 1) (ls2 := [some (.ref r_0), none, some (.int x_2), some (.int x_3), some (.int x_4), some (.int x_5), some (.long (y_6 + ((x_9.toInt64 * x2.toInt64) * y7))), none, some (.int x_8), some (.int x_9), some (.int (x_10 + 1)), some (.int x2)]) dX12_joins_288 (by decide) rfl (congrArg (_ + ·) ki_1) rfl ?_
        refine m_goto 218 dX12_joins_291 (by decide) ?_
        refine m_wk [11] rfl ?_
        exact hF
theorem en_X12_joins {d : Nat} {r_0 : Nat} {x_1 : Int32} {x_2 : Int32} {x_3 : Int32} {h : mH} {K : Option Value → mH → Prop} (hk : Wm (d + 1) (0, 0) JX12_joins 0 [some (.ref r_0), some (.int x_1), some (.int x_2), some (.int x_3), none, none, none, none, none, none, none, none] [] h (fun r h' => h'.1 0 = h.1 0 ∧ K r h')) : Ev (d + 1) (0, 0) MX12_joins [.ref r_0, .int x_1, .int x_2, .int x_3] h K :=
  m_met pn_X12 nl_X12 (fun _ => Nat.le_of_ble_eq_true rfl) hk
theorem bk_X12_shapes_0 {d : Nat} (r_0 : Nat) (x_1 : Int32) (x_2 : Int32) (x_3 : Int32) {h : mH} {Q : Option Value → mH → Prop} (hF : (∃ h1 : mH, m_put h r_0 11 0 (.int 0) = some h1 ∧ Ev d (0, 0) MX12_in [.long x_1.toInt64, .long 1, .long 10] h1 (fun r2 h3 => ∃ x4 : Int32, r2 = some (.int x4) ∧ ((¬ x4 = 0 → (∃ fs19 : List Value, (h3).1 r_0 = .inr (11, fs19) ∧ Ev d (0, 0) MX12_findShapes [.ref r_0, .int x_1] h3 (fun r5 h6 => r5 = none ∧ ((¬ x_2 = (-1000000) → (∃ x7 : Int32, m_fld h6 r_0 [11] 21 = some (.int x7) ∧ Ev d (0, 0) MX12_in [.long x_2.toInt64, .long 0, .long ((x7 - 1).toInt64)] h6 (fun r8 h9 => ∃ x10 : Int32, r8 = some (.int x10) ∧ ((¬ x10 = 0 → Ev d (0, 0) MX12_in [.long x_3.toInt64, .long 0, .long 9] h9 (fun r11 h12 => ∃ x13 : Int32, r11 = some (.int x13) ∧ ((x13 = 0 → Q (some (.int (-1000000))) h12) ∧ (¬ (x13 = 0) → (∃ r14 : Nat, m_fld h12 r_0 [11] 22 = some (.ref r14) ∧ (∃ x15 : Int32, m_il h12 r14 ((10 * x_2) + x_3) = some x15 ∧ ((x15 ≤ 0 → Q (some (.int (-1000000))) h12) ∧ (¬ (x15 ≤ 0) → (∃ r16 : Nat, m_fld h12 r_0 [11] 22 = some (.ref r16) ∧ (∃ x17 : Int32, m_il h12 r16 ((10 * x_2) + x_3) = some x17 ∧ Q (some (.int x17)) h12)))))))))) ∧ (x10 = 0 → Q (some (.int (-1000001))) h9))))) ∧ (x_2 = (-1000000) → (∃ x18 : Int32, m_fld h6 r_0 [11] 21 = some (.int x18) ∧ Q (some (.int x18)) h6)))))) ∧ (x4 = 0 → Q (some (.int (-1000001))) h3))))) : Wm (d + 1) (0, 0) JX12_shapes 0 [some (.ref r_0), some (.int x_1), some (.int x_2), some (.int x_3)] [] h Q := by
  refine m_aload_n dX12_shapes_0 rfl ?_
  refine m_iconst dX12_shapes_1 ki_0 ?_
  obtain ⟨h1, e, hF⟩ := hF
  refine m_putf fp_X12_78_11 dX12_shapes_2 trivial e ?_
  refine m_iload_n dX12_shapes_5 rfl ?_
  refine m_i2l dX12_shapes_6 ?_
  refine m_lconst dX12_shapes_7 kl_1 ?_
  refine m_ldc2_w dX12_shapes_8 kc_X12_203 ?_
  refine m_static (as := [.long x_1.toInt64, .long 1, .long 10]) (rest := []) cs_X12_88 dX12_shapes_11 rfl rfl (Nat.le_of_ble_eq_true rfl) (Nat.le_of_eq (Nat.zero_add _)) (Nat.le_of_eq (Nat.zero_add _)) (b1 := (0, 0)) (b2 := (0, 0)) (Ev.mono hF ?_)
  intro r2 h3 hF
  obtain ⟨x4, rfl, hF⟩ := hF
  refine m_if_ne 20 dX12_shapes_14 (by decide) (fun c => ?_) (fun c => ?_)
  · replace hF := hF.1 c
    refine m_aload_n dX12_shapes_20 rfl ?_
    refine m_iload_n dX12_shapes_21 rfl ?_
    obtain ⟨fs19, e, hF⟩ := hF
    refine m_virtual (as := [.int x_1]) (rest := []) cv_X12_207_11 e dX12_shapes_22 rfl rfl (Nat.le_of_ble_eq_true rfl) (Nat.le_of_eq (Nat.zero_add _)) (Nat.le_of_eq (Nat.zero_add _)) (b1 := (0, 0)) (b2 := (0, 0)) (Ev.mono hF ?_)
    intro r5 h6 hF
    obtain ⟨rfl, hF⟩ := hF
    refine m_iload_n dX12_shapes_25 rfl ?_
    refine m_ldc dX12_shapes_26 kc_X12_176 ?_
    refine m_icmp_ne 36 dX12_shapes_28 (by decide) (fun c => ?_) (fun c => ?_)
    · replace hF := hF.1 c
      refine m_iload_n dX12_shapes_36 rfl ?_
      refine m_i2l dX12_shapes_37 ?_
      refine m_lconst dX12_shapes_38 kl_0 ?_
      refine m_aload_n dX12_shapes_39 rfl ?_
      obtain ⟨x7, e, hF⟩ := hF
      refine m_get fg_X12_200 dX12_shapes_40 e ?_
      refine m_iconst dX12_shapes_43 ki_1 ?_
      refine m_isub dX12_shapes_44 ?_
      refine m_i2l dX12_shapes_45 ?_
      refine m_static (as := [.long x_2.toInt64, .long 0, .long ((x7 - 1).toInt64)]) (rest := []) cs_X12_88 dX12_shapes_46 rfl rfl (Nat.le_of_ble_eq_true rfl) (Nat.le_of_eq (Nat.zero_add _)) (Nat.le_of_eq (Nat.zero_add _)) (b1 := (0, 0)) (b2 := (0, 0)) (Ev.mono hF ?_)
      intro r8 h9 hF
      obtain ⟨x10, rfl, hF⟩ := hF
      refine m_if_ne 55 dX12_shapes_49 (by decide) (fun c => ?_) (fun c => ?_)
      · replace hF := hF.1 c
        refine m_iload_n dX12_shapes_55 rfl ?_
        refine m_i2l dX12_shapes_56 ?_
        refine m_lconst dX12_shapes_57 kl_0 ?_
        refine m_ldc2_w dX12_shapes_58 kc_X12_103 ?_
        refine m_static (as := [.long x_3.toInt64, .long 0, .long 9]) (rest := []) cs_X12_88 dX12_shapes_61 rfl rfl (Nat.le_of_ble_eq_true rfl) (Nat.le_of_eq (Nat.zero_add _)) (Nat.le_of_eq (Nat.zero_add _)) (b1 := (0, 0)) (b2 := (0, 0)) (Ev.mono hF ?_)
        intro r11 h12 hF
        obtain ⟨x13, rfl, hF⟩ := hF
        refine m_if_eq 95 dX12_shapes_64 (by decide) (fun c => ?_) (fun c => ?_)
        · replace hF := hF.1 c
          refine m_ldc dX12_shapes_95 kc_X12_176 ?_
          exact m_ireturn dX12_shapes_97 trivial hF
        · replace hF := hF.2 c
          refine m_aload_n dX12_shapes_67 rfl ?_
          obtain ⟨r14, e, hF⟩ := hF
          refine m_get fg_X12_65 dX12_shapes_68 e ?_
          refine m_bipush dX12_shapes_71 kb_10 ?_
          refine m_iload_n dX12_shapes_73 rfl ?_
          refine m_imul dX12_shapes_74 ?_
          refine m_iload_n dX12_shapes_75 rfl ?_
          refine m_iadd dX12_shapes_76 ?_
          obtain ⟨x15, e, hF⟩ := hF
          refine m_iald dX12_shapes_77 e ?_
          refine m_if_le 95 dX12_shapes_78 (by decide) (fun c => ?_) (fun c => ?_)
          · replace hF := hF.1 c
            refine m_ldc dX12_shapes_95 kc_X12_176 ?_
            exact m_ireturn dX12_shapes_97 trivial hF
          · replace hF := hF.2 c
            refine m_aload_n dX12_shapes_81 rfl ?_
            obtain ⟨r16, e, hF⟩ := hF
            refine m_get fg_X12_65 dX12_shapes_82 e ?_
            refine m_bipush dX12_shapes_85 kb_10 ?_
            refine m_iload_n dX12_shapes_87 rfl ?_
            refine m_imul dX12_shapes_88 ?_
            refine m_iload_n dX12_shapes_89 rfl ?_
            refine m_iadd dX12_shapes_90 ?_
            obtain ⟨x17, e, hF⟩ := hF
            refine m_iald dX12_shapes_91 e ?_
            refine m_goto 97 dX12_shapes_92 (by decide) ?_
            exact m_ireturn dX12_shapes_97 trivial hF
      · replace hF := hF.2 c
        refine m_ldc dX12_shapes_52 kc_X12_98 ?_
        exact m_ireturn dX12_shapes_54 trivial hF
    · replace hF := hF.2 c
      refine m_aload_n dX12_shapes_31 rfl ?_
      obtain ⟨x18, e, hF⟩ := hF
      refine m_get fg_X12_200 dX12_shapes_32 e ?_
      exact m_ireturn dX12_shapes_35 trivial hF
  · replace hF := hF.2 c
    refine m_ldc dX12_shapes_17 kc_X12_98 ?_
    exact m_ireturn dX12_shapes_19 trivial hF
theorem en_X12_shapes {d : Nat} {r_0 : Nat} {x_1 : Int32} {x_2 : Int32} {x_3 : Int32} {h : mH} {K : Option Value → mH → Prop} (hk : Wm (d + 1) (0, 0) JX12_shapes 0 [some (.ref r_0), some (.int x_1), some (.int x_2), some (.int x_3)] [] h (fun r h' => h'.1 0 = h.1 0 ∧ K r h')) : Ev (d + 1) (0, 0) MX12_shapes [.ref r_0, .int x_1, .int x_2, .int x_3] h K :=
  m_met pn_X12 nl_X12 (fun _ => Nat.le_of_ble_eq_true rfl) hk
theorem bk_X12_count_0 {d : Nat} (r_0 : Nat) (x_1 : Int32) {h : mH} {Q : Option Value → mH → Prop} (hF : (∃ h1 : mH, m_put h r_0 11 0 (.int 0) = some h1 ∧ ((x_1 = 0 → Wm (d + 1) (0, 0) JX12_count 54 [some (.ref r_0), none, some (.int 0), some (.int 0)] [] h1 Q) ∧ (x_1 = 1 → Wm (d + 1) (0, 0) JX12_count 87 [some (.ref r_0), some (.int x_1), some (.int 0), some (.int 0)] [] h1 Q) ∧ (x_1 = 2 → Wm (d + 1) (0, 0) JX12_count 87 [some (.ref r_0), some (.int x_1), some (.int 0), some (.int 0)] [] h1 Q) ∧ (x_1 = 3 → Wm (d + 1) (0, 0) JX12_count 87 [some (.ref r_0), some (.int x_1), some (.int 0), some (.int 0)] [] h1 Q) ∧ (x_1 = 4 → Wm (d + 1) (0, 0) JX12_count 87 [some (.ref r_0), some (.int x_1), some (.int 0), some (.int 0)] [] h1 Q) ∧ (x_1 = 5 → Wm (d + 1) (0, 0) JX12_count 87 [some (.ref r_0), some (.int x_1), some (.int 0), some (.int 0)] [] h1 Q) ∧ (x_1 = 6 → Wm (d + 1) (0, 0) JX12_count 134 [some (.ref r_0), none, some (.int 0), some (.int 0)] [] h1 Q) ∧ (¬ x_1 = 0 → ¬ x_1 = 1 → ¬ x_1 = 2 → ¬ x_1 = 3 → ¬ x_1 = 4 → ¬ x_1 = 5 → ¬ x_1 = 6 → Q (some (.int (-1000001))) h1)))) : Wm (d + 1) (0, 0) JX12_count 0 [some (.ref r_0), some (.int x_1), none, none] [] h Q := by
  refine m_aload_n dX12_count_0 rfl ?_
  refine m_iconst dX12_count_1 ki_0 ?_
  obtain ⟨h1, e, hF⟩ := hF
  refine m_putf fp_X12_78_11 dX12_count_2 trivial e ?_
  refine m_iconst dX12_count_5 ki_0 ?_
  refine m_istore_n (ls2 := [some (.ref r_0), some (.int x_1), some (.int 0), none]) dX12_count_6 (by decide) rfl ?_
  refine m_iload_n dX12_count_7 rfl ?_
  by_cases e0 : x_1 = 0
  · replace hF := hF.1 e0
    refine m_tableIn 52 dX12_count_8 (by rw [e0]; decide) (by rw [e0]; decide) (off := 44) (by rw [e0]; rfl) (by decide) ?_
    refine m_iconst dX12_count_52 ki_0 ?_
    refine m_istore_n (ls2 := [some (.ref r_0), some (.int x_1), some (.int 0), some (.int 0)]) dX12_count_53 (by decide) rfl ?_
    refine m_wk [1] rfl ?_
    exact hF
  replace hF := hF.2
  by_cases e1 : x_1 = 1
  · replace hF := hF.1 e1
    refine m_tableIn 85 dX12_count_8 (by rw [e1]; decide) (by rw [e1]; decide) (off := 77) (by rw [e1]; rfl) (by decide) ?_
    refine m_iconst dX12_count_85 ki_0 ?_
    refine m_istore_n (ls2 := [some (.ref r_0), some (.int x_1), some (.int 0), some (.int 0)]) dX12_count_86 (by decide) rfl ?_
    exact hF
  replace hF := hF.2
  by_cases e2 : x_1 = 2
  · replace hF := hF.1 e2
    refine m_tableIn 85 dX12_count_8 (by rw [e2]; decide) (by rw [e2]; decide) (off := 77) (by rw [e2]; rfl) (by decide) ?_
    refine m_iconst dX12_count_85 ki_0 ?_
    refine m_istore_n (ls2 := [some (.ref r_0), some (.int x_1), some (.int 0), some (.int 0)]) dX12_count_86 (by decide) rfl ?_
    exact hF
  replace hF := hF.2
  by_cases e3 : x_1 = 3
  · replace hF := hF.1 e3
    refine m_tableIn 85 dX12_count_8 (by rw [e3]; decide) (by rw [e3]; decide) (off := 77) (by rw [e3]; rfl) (by decide) ?_
    refine m_iconst dX12_count_85 ki_0 ?_
    refine m_istore_n (ls2 := [some (.ref r_0), some (.int x_1), some (.int 0), some (.int 0)]) dX12_count_86 (by decide) rfl ?_
    exact hF
  replace hF := hF.2
  by_cases e4 : x_1 = 4
  · replace hF := hF.1 e4
    refine m_tableIn 85 dX12_count_8 (by rw [e4]; decide) (by rw [e4]; decide) (off := 77) (by rw [e4]; rfl) (by decide) ?_
    refine m_iconst dX12_count_85 ki_0 ?_
    refine m_istore_n (ls2 := [some (.ref r_0), some (.int x_1), some (.int 0), some (.int 0)]) dX12_count_86 (by decide) rfl ?_
    exact hF
  replace hF := hF.2
  by_cases e5 : x_1 = 5
  · replace hF := hF.1 e5
    refine m_tableIn 85 dX12_count_8 (by rw [e5]; decide) (by rw [e5]; decide) (off := 77) (by rw [e5]; rfl) (by decide) ?_
    refine m_iconst dX12_count_85 ki_0 ?_
    refine m_istore_n (ls2 := [some (.ref r_0), some (.int x_1), some (.int 0), some (.int 0)]) dX12_count_86 (by decide) rfl ?_
    exact hF
  replace hF := hF.2
  by_cases e6 : x_1 = 6
  · replace hF := hF.1 e6
    refine m_tableIn 132 dX12_count_8 (by rw [e6]; decide) (by rw [e6]; decide) (off := 124) (by rw [e6]; rfl) (by decide) ?_
    refine m_iconst dX12_count_132 ki_0 ?_
    refine m_istore_n (ls2 := [some (.ref r_0), some (.int x_1), some (.int 0), some (.int 0)]) dX12_count_133 (by decide) rfl ?_
    refine m_wk [1] rfl ?_
    exact hF
  replace hF := hF.2
  replace hF := hF e0 e1 e2 e3 e4 e5 e6
  refine m_tableOut 174 dX12_count_8 (m_swout (x := x_1) 0 7 (by intro j hj; match j, hj with | 0, _ => exact e0 | 1, _ => exact e1 | 2, _ => exact e2 | 3, _ => exact e3 | 4, _ => exact e4 | 5, _ => exact e5 | 6, _ => exact e6)) (by decide) ?_
  refine m_ldc dX12_count_174 kc_X12_98 ?_
  exact m_ireturn dX12_count_176 trivial hF
theorem bk_X12_count_54 {d : Nat} (r_0 : Nat) (x_2 : Int32) (x_3 : Int32) {h : mH} {Q : Option Value → mH → Prop} (hF : ((8 ≤ x_3 → Q (some (.int x_2)) h) ∧ (¬ (8 ≤ x_3) → (∃ r1 : Nat, m_fld h r_0 [11] 2 = some (.ref r1) ∧ (∃ x2 : Int32, m_il h r1 x_3 = some x2 ∧ ((x2 < 0 → Wm (d + 1) (0, 0) JX12_count 54 [some (.ref r_0), none, some (.int (x_2 + 0)), some (.int (x_3 + 1))] [] h Q) ∧ (¬ (x2 < 0) → Wm (d + 1) (0, 0) JX12_count 54 [some (.ref r_0), none, some (.int (x_2 + 1)), some (.int (x_3 + 1))] [] h Q))))))) : Wm (d + 1) (0, 0) JX12_count 54 [some (.ref r_0), none, some (.int x_2), some (.int x_3)] [] h Q := by
  refine m_iload_n dX12_count_54 rfl ?_
  refine m_bipush dX12_count_55 kb_8 ?_
  refine m_icmp_ge 83 dX12_count_57 (by decide) (fun c => ?_) (fun c => ?_)
  · replace hF := hF.1 c
    refine m_iload_n dX12_count_83 rfl ?_
    exact m_ireturn dX12_count_84 trivial hF
  · replace hF := hF.2 c
    refine m_iload_n dX12_count_60 rfl ?_
    refine m_aload_n dX12_count_61 rfl ?_
    obtain ⟨r1, e, hF⟩ := hF
    refine m_get fg_X12_7 dX12_count_62 e ?_
    refine m_iload_n dX12_count_65 rfl ?_
    obtain ⟨x2, e, hF⟩ := hF
    refine m_iald dX12_count_66 e ?_
    refine m_if_lt 74 dX12_count_67 (by decide) (fun c => ?_) (fun c => ?_)
    · replace hF := hF.1 c
      refine m_iconst dX12_count_74 ki_0 ?_
      refine m_iadd dX12_count_75 ?_
      refine m_istore_n (ls2 := [some (.ref r_0), none, some (.int (x_2 + 0)), some (.int x_3)]) dX12_count_76 (by decide) rfl ?_
      refine m_iinc (v := x_3 + 1) (ls2 := [some (.ref r_0), none, some (.int (x_2 + 0)), some (.int (x_3 + 1))]) dX12_count_77 (by decide) rfl (congrArg (_ + ·) ki_1) rfl ?_
      refine m_goto 54 dX12_count_80 (by decide) ?_
      exact hF
    · replace hF := hF.2 c
      refine m_iconst dX12_count_70 ki_1 ?_
      refine m_goto 75 dX12_count_71 (by decide) ?_
      refine m_iadd dX12_count_75 ?_
      refine m_istore_n (ls2 := [some (.ref r_0), none, some (.int (x_2 + 1)), some (.int x_3)]) dX12_count_76 (by decide) rfl ?_
      refine m_iinc (v := x_3 + 1) (ls2 := [some (.ref r_0), none, some (.int (x_2 + 1)), some (.int (x_3 + 1))]) dX12_count_77 (by decide) rfl (congrArg (_ + ·) ki_1) rfl ?_
      refine m_goto 54 dX12_count_80 (by decide) ?_
      exact hF
theorem bk_X12_count_87 {d : Nat} (r_0 : Nat) (x_1 : Int32) (x_2 : Int32) (x_3 : Int32) {h : mH} {Q : Option Value → mH → Prop} (hF : ((10 ≤ x_3 → Q (some (.int x_2)) h) ∧ (¬ (10 ≤ x_3) → (∃ r1 : Nat, m_fld h r_0 [11] 5 = some (.ref r1) ∧ (∃ x2 : Int32, m_il h r1 x_3 = some x2 ∧ ((x2 ≤ 0 → Wm (d + 1) (0, 0) JX12_count 87 [some (.ref r_0), some (.int x_1), some (.int (x_2 + 0)), some (.int (x_3 + 1))] [] h Q) ∧ (¬ (x2 ≤ 0) → (∃ fs9 : List Value, (h).1 r_0 = .inr (11, fs9) ∧ Ev d (0, 0) MX12_kindOf [.ref r_0, .int x_3] h (fun r3 h4 => ∃ x5 : Int32, r3 = some (.int x5) ∧ Ev d (0, 0) MX12_isOf [.int x5, .int (x_1 - 1)] h4 (fun r6 h7 => ∃ x8 : Int32, r6 = some (.int x8) ∧ ((x8 = 0 → Wm (d + 1) (0, 0) JX12_count 87 [some (.ref r_0), some (.int x_1), some (.int (x_2 + 0)), some (.int (x_3 + 1))] [] h7 Q) ∧ (¬ (x8 = 0) → Wm (d + 1) (0, 0) JX12_count 87 [some (.ref r_0), some (.int x_1), some (.int (x_2 + 1)), some (.int (x_3 + 1))] [] h7 Q)))))))))))) : Wm (d + 1) (0, 0) JX12_count 87 [some (.ref r_0), some (.int x_1), some (.int x_2), some (.int x_3)] [] h Q := by
  refine m_iload_n dX12_count_87 rfl ?_
  refine m_bipush dX12_count_88 kb_10 ?_
  refine m_icmp_ge 130 dX12_count_90 (by decide) (fun c => ?_) (fun c => ?_)
  · replace hF := hF.1 c
    refine m_iload_n dX12_count_130 rfl ?_
    exact m_ireturn dX12_count_131 trivial hF
  · replace hF := hF.2 c
    refine m_iload_n dX12_count_93 rfl ?_
    refine m_aload_n dX12_count_94 rfl ?_
    obtain ⟨r1, e, hF⟩ := hF
    refine m_get fg_X12_19 dX12_count_95 e ?_
    refine m_iload_n dX12_count_98 rfl ?_
    obtain ⟨x2, e, hF⟩ := hF
    refine m_iald dX12_count_99 e ?_
    refine m_if_le 121 dX12_count_100 (by decide) (fun c => ?_) (fun c => ?_)
    · replace hF := hF.1 c
      refine m_iconst dX12_count_121 ki_0 ?_
      refine m_iadd dX12_count_122 ?_
      refine m_istore_n (ls2 := [some (.ref r_0), some (.int x_1), some (.int (x_2 + 0)), some (.int x_3)]) dX12_count_123 (by decide) rfl ?_
      refine m_iinc (v := x_3 + 1) (ls2 := [some (.ref r_0), some (.int x_1), some (.int (x_2 + 0)), some (.int (x_3 + 1))]) dX12_count_124 (by decide) rfl (congrArg (_ + ·) ki_1) rfl ?_
      refine m_goto 87 dX12_count_127 (by decide) ?_
      exact hF
    · replace hF := hF.2 c
      refine m_aload_n dX12_count_103 rfl ?_
      refine m_iload_n dX12_count_104 rfl ?_
      obtain ⟨fs9, e, hF⟩ := hF
      refine m_virtual (as := [.int x_3]) (rest := [.int x_2]) cv_X12_117_11 e dX12_count_105 rfl rfl (Nat.le_of_ble_eq_true rfl) (Nat.le_of_eq (Nat.zero_add _)) (Nat.le_of_eq (Nat.zero_add _)) (b1 := (0, 0)) (b2 := (0, 0)) (Ev.mono hF ?_)
      intro r3 h4 hF
      obtain ⟨x5, rfl, hF⟩ := hF
      refine m_iload_n dX12_count_108 rfl ?_
      refine m_iconst dX12_count_109 ki_1 ?_
      refine m_isub dX12_count_110 ?_
      refine m_static (as := [.int x5, .int (x_1 - 1)]) (rest := [.int x_2]) cs_X12_184 dX12_count_111 rfl rfl (Nat.le_of_ble_eq_true rfl) (Nat.le_of_eq (Nat.zero_add _)) (Nat.le_of_eq (Nat.zero_add _)) (b1 := (0, 0)) (b2 := (0, 0)) (Ev.mono hF ?_)
      intro r6 h7 hF
      obtain ⟨x8, rfl, hF⟩ := hF
      refine m_if_eq 121 dX12_count_114 (by decide) (fun c => ?_) (fun c => ?_)
      · replace hF := hF.1 c
        refine m_iconst dX12_count_121 ki_0 ?_
        refine m_iadd dX12_count_122 ?_
        refine m_istore_n (ls2 := [some (.ref r_0), some (.int x_1), some (.int (x_2 + 0)), some (.int x_3)]) dX12_count_123 (by decide) rfl ?_
        refine m_iinc (v := x_3 + 1) (ls2 := [some (.ref r_0), some (.int x_1), some (.int (x_2 + 0)), some (.int (x_3 + 1))]) dX12_count_124 (by decide) rfl (congrArg (_ + ·) ki_1) rfl ?_
        refine m_goto 87 dX12_count_127 (by decide) ?_
        exact hF
      · replace hF := hF.2 c
        refine m_iconst dX12_count_117 ki_1 ?_
        refine m_goto 122 dX12_count_118 (by decide) ?_
        refine m_iadd dX12_count_122 ?_
        refine m_istore_n (ls2 := [some (.ref r_0), some (.int x_1), some (.int (x_2 + 1)), some (.int x_3)]) dX12_count_123 (by decide) rfl ?_
        refine m_iinc (v := x_3 + 1) (ls2 := [some (.ref r_0), some (.int x_1), some (.int (x_2 + 1)), some (.int (x_3 + 1))]) dX12_count_124 (by decide) rfl (congrArg (_ + ·) ki_1) rfl ?_
        refine m_goto 87 dX12_count_127 (by decide) ?_
        exact hF
theorem bk_X12_count_134 {d : Nat} (r_0 : Nat) (x_2 : Int32) (x_3 : Int32) {h : mH} {Q : Option Value → mH → Prop} (hF : ((10 ≤ x_3 → Q (some (.int x_2)) h) ∧ (¬ (10 ≤ x_3) → (∃ r1 : Nat, m_fld h r_0 [11] 5 = some (.ref r1) ∧ (∃ x2 : Int32, m_il h r1 x_3 = some x2 ∧ ((x2 ≤ 0 → Wm (d + 1) (0, 0) JX12_count 134 [some (.ref r_0), none, some (.int (x_2 + 0)), some (.int (x_3 + 1))] [] h Q) ∧ (¬ (x2 ≤ 0) → (∃ fs6 : List Value, (h).1 r_0 = .inr (11, fs6) ∧ Ev d (0, 0) MX12_parts [.ref r_0, .int x_3] h (fun r3 h4 => ∃ x5 : Int32, r3 = some (.int x5) ∧ ((¬ x5 = 1 → Wm (d + 1) (0, 0) JX12_count 134 [some (.ref r_0), none, some (.int (x_2 + 0)), some (.int (x_3 + 1))] [] h4 Q) ∧ (x5 = 1 → Wm (d + 1) (0, 0) JX12_count 134 [some (.ref r_0), none, some (.int (x_2 + 1)), some (.int (x_3 + 1))] [] h4 Q))))))))))) : Wm (d + 1) (0, 0) JX12_count 134 [some (.ref r_0), none, some (.int x_2), some (.int x_3)] [] h Q := by
  refine m_iload_n dX12_count_134 rfl ?_
  refine m_bipush dX12_count_135 kb_10 ?_
  refine m_icmp_ge 172 dX12_count_137 (by decide) (fun c => ?_) (fun c => ?_)
  · replace hF := hF.1 c
    refine m_iload_n dX12_count_172 rfl ?_
    exact m_ireturn dX12_count_173 trivial hF
  · replace hF := hF.2 c
    refine m_iload_n dX12_count_140 rfl ?_
    refine m_aload_n dX12_count_141 rfl ?_
    obtain ⟨r1, e, hF⟩ := hF
    refine m_get fg_X12_19 dX12_count_142 e ?_
    refine m_iload_n dX12_count_145 rfl ?_
    obtain ⟨x2, e, hF⟩ := hF
    refine m_iald dX12_count_146 e ?_
    refine m_if_le 163 dX12_count_147 (by decide) (fun c => ?_) (fun c => ?_)
    · replace hF := hF.1 c
      refine m_iconst dX12_count_163 ki_0 ?_
      refine m_iadd dX12_count_164 ?_
      refine m_istore_n (ls2 := [some (.ref r_0), none, some (.int (x_2 + 0)), some (.int x_3)]) dX12_count_165 (by decide) rfl ?_
      refine m_iinc (v := x_3 + 1) (ls2 := [some (.ref r_0), none, some (.int (x_2 + 0)), some (.int (x_3 + 1))]) dX12_count_166 (by decide) rfl (congrArg (_ + ·) ki_1) rfl ?_
      refine m_goto 134 dX12_count_169 (by decide) ?_
      exact hF
    · replace hF := hF.2 c
      refine m_aload_n dX12_count_150 rfl ?_
      refine m_iload_n dX12_count_151 rfl ?_
      obtain ⟨fs6, e, hF⟩ := hF
      refine m_virtual (as := [.int x_3]) (rest := [.int x_2]) cv_X12_134_11 e dX12_count_152 rfl rfl (Nat.le_of_ble_eq_true rfl) (Nat.le_of_eq (Nat.zero_add _)) (Nat.le_of_eq (Nat.zero_add _)) (b1 := (0, 0)) (b2 := (0, 0)) (Ev.mono hF ?_)
      intro r3 h4 hF
      obtain ⟨x5, rfl, hF⟩ := hF
      refine m_iconst dX12_count_155 ki_1 ?_
      refine m_icmp_ne 163 dX12_count_156 (by decide) (fun c => ?_) (fun c => ?_)
      · replace hF := hF.1 c
        refine m_iconst dX12_count_163 ki_0 ?_
        refine m_iadd dX12_count_164 ?_
        refine m_istore_n (ls2 := [some (.ref r_0), none, some (.int (x_2 + 0)), some (.int x_3)]) dX12_count_165 (by decide) rfl ?_
        refine m_iinc (v := x_3 + 1) (ls2 := [some (.ref r_0), none, some (.int (x_2 + 0)), some (.int (x_3 + 1))]) dX12_count_166 (by decide) rfl (congrArg (_ + ·) ki_1) rfl ?_
        refine m_goto 134 dX12_count_169 (by decide) ?_
        exact hF
      · replace hF := hF.2 c
        refine m_iconst dX12_count_159 ki_1 ?_
        refine m_goto 164 dX12_count_160 (by decide) ?_
        refine m_iadd dX12_count_164 ?_
        refine m_istore_n (ls2 := [some (.ref r_0), none, some (.int (x_2 + 1)), some (.int x_3)]) dX12_count_165 (by decide) rfl ?_
        refine m_iinc (v := x_3 + 1) (ls2 := [some (.ref r_0), none, some (.int (x_2 + 1)), some (.int (x_3 + 1))]) dX12_count_166 (by decide) rfl (congrArg (_ + ·) ki_1) rfl ?_
        refine m_goto 134 dX12_count_169 (by decide) ?_
        exact hF
theorem en_X12_count {d : Nat} {r_0 : Nat} {x_1 : Int32} {h : mH} {K : Option Value → mH → Prop} (hk : Wm (d + 1) (0, 0) JX12_count 0 [some (.ref r_0), some (.int x_1), none, none] [] h (fun r h' => h'.1 0 = h.1 0 ∧ K r h')) : Ev (d + 1) (0, 0) MX12_count [.ref r_0, .int x_1] h K :=
  m_met pn_X12 nl_X12 (fun _ => Nat.le_of_ble_eq_true rfl) hk
theorem bk_X12_status_0 {d : Nat} (r_0 : Nat) {h : mH} {Q : Option Value → mH → Prop} (hF : (∃ h1 : mH, m_put h r_0 11 0 (.int 0) = some h1 ∧ (∃ x2 : Int32, m_fld h1 r_0 [11] 1 = some (.int x2) ∧ Q (some (.int x2)) h1))) : Wm d (0, 0) JX12_status 0 [some (.ref r_0)] [] h Q := by
  refine m_aload_n dX12_status_0 rfl ?_
  refine m_iconst dX12_status_1 ki_0 ?_
  obtain ⟨h1, e, hF⟩ := hF
  refine m_putf fp_X12_78_11 dX12_status_2 trivial e ?_
  refine m_aload_n dX12_status_5 rfl ?_
  obtain ⟨x2, e, hF⟩ := hF
  refine m_get fg_X12_82 dX12_status_6 e ?_
  exact m_ireturn dX12_status_9 trivial hF
theorem en_X12_status {d : Nat} {r_0 : Nat} {h : mH} {K : Option Value → mH → Prop} (hk : Wm d (0, 0) JX12_status 0 [some (.ref r_0)] [] h (fun r h' => h'.1 0 = h.1 0 ∧ K r h')) : Ev d (0, 0) MX12_status [.ref r_0] h K :=
  m_met pn_X12 nl_X12 (fun _ => Nat.le_of_ble_eq_true rfl) hk

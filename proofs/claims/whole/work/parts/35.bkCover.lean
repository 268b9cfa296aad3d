theorem bk_X0_init_0 {d : Nat} (r_0 : Nat) (x_1 : Int32) (r_2 : Nat) (x_3 : Int32) {h : mH} {Q : Option Value → mH → Prop} (hF : Ev d (0, 0) MX10_init [.ref r_0, .int x_1, .ref r_2, .int x_3] h (fun r1 h2 => r1 = none ∧ Q none h2)) : Wm (d + 1) (0, 0) JX0_init 0 [some (.ref r_0), some (.int x_1), some (.ref r_2), some (.int x_3)] [] h Q := by
  refine m_aload_n dX0_init_0 rfl ?_
  refine m_iload_n dX0_init_1 rfl ?_
  refine m_aload_n dX0_init_2 rfl ?_
  refine m_iload_n dX0_init_3 rfl ?_
  refine m_special (as := [.int x_1, .ref r_2, .int x_3]) (rest := []) ci_X0_1 dX0_init_4 rfl rfl (Nat.le_of_ble_eq_true rfl) (Nat.le_of_eq (Nat.zero_add _)) (Nat.le_of_eq (Nat.zero_add _)) (b1 := (0, 0)) (b2 := (0, 0)) (Ev.mono hF ?_)
  intro r1 h2 hF
  obtain ⟨rfl, hF⟩ := hF
  exact m_return dX0_init_7 trivial hF
theorem en_X0_init {d : Nat} {r_0 : Nat} {x_1 : Int32} {r_2 : Nat} {x_3 : Int32} {h : mH} {K : Option Value → mH → Prop} (hk : Wm (d + 1) (0, 0) JX0_init 0 [some (.ref r_0), some (.int x_1), some (.ref r_2), some (.int x_3)] [] h (fun r h' => h'.1 0 = h.1 0 ∧ K r h')) : Ev (d + 1) (0, 0) MX0_init [.ref r_0, .int x_1, .ref r_2, .int x_3] h K :=
  m_met pn_X0 nl_X0 (fun _ => Nat.le_of_ble_eq_true rfl) hk
theorem bk_X0_kindNumber_0 {d : Nat} (r_0 : Nat) {h : mH} {Q : Option Value → mH → Prop} (hF : Q (some (.int 3)) h) : Wm d (0, 0) JX0_kindNumber 0 [some (.ref r_0)] [] h Q := by
  refine m_iconst dX0_kindNumber_0 ki_3 ?_
  exact m_ireturn dX0_kindNumber_1 trivial hF
theorem en_X0_kindNumber {d : Nat} {r_0 : Nat} {h : mH} {K : Option Value → mH → Prop} (hk : Wm d (0, 0) JX0_kindNumber 0 [some (.ref r_0)] [] h (fun r h' => h'.1 0 = h.1 0 ∧ K r h')) : Ev d (0, 0) MX0_kindNumber [.ref r_0] h K :=
  m_met pn_X0 nl_X0 (fun _ => Nat.le_of_ble_eq_true rfl) hk
theorem bk_X0_sizeAsked_0 {d : Nat} (r_0 : Nat) (r_1 : Nat) {h : mH} {Q : Option Value → mH → Prop} (hF : (∃ fs8 : List Value, (h).1 r_1 = .inr (6, fs8) ∧ Ev d (0, 0) MX7_add [.ref r_1, .int 13] h (fun r1 h2 => r1 = none ∧ (∃ (c6 : Nat) (fs7 : List Value), (h2).1 r_0 = .inr (c6, fs7) ∧ c6 < 12 ∧ Ev d (0, 0) MX10_sizeAsked [.ref r_0, .ref r_1] h2 (fun r3 h4 => ∃ x5 : Int32, r3 = some (.int x5) ∧ Q (some (.int (2 * x5))) h4))))) : Wm (d + 1) (0, 0) JX0_sizeAsked 0 [some (.ref r_0), some (.ref r_1)] [] h Q := by
  refine m_aload_n dX0_sizeAsked_0 rfl ?_
  refine m_bipush dX0_sizeAsked_1 kb_13 ?_
  obtain ⟨fs8, e, hF⟩ := hF
  refine m_virtual (as := [.int 13]) (rest := []) cv_X0_7_6 e dX0_sizeAsked_3 rfl rfl (Nat.le_of_ble_eq_true rfl) (Nat.le_of_eq (Nat.zero_add _)) (Nat.le_of_eq (Nat.zero_add _)) (b1 := (0, 0)) (b2 := (0, 0)) (Ev.mono hF ?_)
  intro r1 h2 hF
  obtain ⟨rfl, hF⟩ := hF
  refine m_iconst dX0_sizeAsked_6 ki_2 ?_
  refine m_aload_n dX0_sizeAsked_7 rfl ?_
  refine m_aload_n dX0_sizeAsked_8 rfl ?_
  obtain ⟨c6, fs7, e, hc, hF⟩ := hF
  refine m_super (as := [.ref r_1]) (rest := [.int 2]) cu_X0_13 e (Nat.lt_of_lt_of_le hc (by decide)) dX0_sizeAsked_9 rfl rfl (Nat.le_of_ble_eq_true rfl) (Nat.le_of_eq (Nat.zero_add _)) (Nat.le_of_eq (Nat.zero_add _)) (b1 := (0, 0)) (b2 := (0, 0)) (Ev.mono hF ?_)
  intro r3 h4 hF
  obtain ⟨x5, rfl, hF⟩ := hF
  refine m_imul dX0_sizeAsked_12 ?_
  exact m_ireturn dX0_sizeAsked_13 trivial hF
theorem en_X0_sizeAsked {d : Nat} {r_0 : Nat} {r_1 : Nat} {h : mH} {K : Option Value → mH → Prop} (hk : Wm (d + 1) (0, 0) JX0_sizeAsked 0 [some (.ref r_0), some (.ref r_1)] [] h (fun r h' => h'.1 0 = h.1 0 ∧ K r h')) : Ev (d + 1) (0, 0) MX0_sizeAsked [.ref r_0, .ref r_1] h K :=
  m_met pn_X0 nl_X0 (fun _ => Nat.le_of_ble_eq_true rfl) hk
theorem bk_X1_init_0 {d : Nat} (r_0 : Nat) (x_1 : Int32) (r_2 : Nat) (x_3 : Int32) {h : mH} {Q : Option Value → mH → Prop} (hF : (∃ (c2 : Nat) (h1 : mH), c2 ∈ [0, 1, 4, 8, 9] ∧ m_put h r_0 c2 0 (.int x_1) = some h1 ∧ (∃ (c4 : Nat) (h3 : mH), c4 ∈ [0, 1, 4, 8, 9] ∧ m_put h1 r_0 c4 1 (.ref r_2) = some h3 ∧ (∃ (c6 : Nat) (h5 : mH), c6 ∈ [0, 1, 4, 8, 9] ∧ m_put h3 r_0 c6 2 (.int x_3) = some h5 ∧ Q none h5)))) : Wm (d + 1) (0, 0) JX1_init 0 [some (.ref r_0), some (.int x_1), some (.ref r_2), some (.int x_3)] [] h Q := by
  refine m_aload_n dX1_init_0 rfl ?_
  refine m_objinit ol_X1_1 oi_1 oi_2 dX1_init_1 (Nat.le_of_ble_eq_true rfl) ?_
  refine m_aload_n dX1_init_4 rfl ?_
  refine m_iload_n dX1_init_5 rfl ?_
  obtain ⟨c2, h1, hc, e, hF⟩ := hF
  refine m_putfF (ci := c2) (fq0_X1_7 c2 hc).1 rfl dX1_init_6 ((fq0_X1_7 c2 hc).2 _) e ?_
  refine m_aload_n dX1_init_9 rfl ?_
  refine m_aload_n dX1_init_10 rfl ?_
  obtain ⟨c4, h3, hc, e, hF⟩ := hF
  refine m_putfF (ci := c4) (fq0_X1_13 c4 hc).1 rfl dX1_init_11 ((fq0_X1_13 c4 hc).2 _) e ?_
  refine m_aload_n dX1_init_14 rfl ?_
  refine m_iload_n dX1_init_15 rfl ?_
  obtain ⟨c6, h5, hc, e, hF⟩ := hF
  refine m_putfF (ci := c6) (fq0_X1_17 c6 hc).1 rfl dX1_init_16 ((fq0_X1_17 c6 hc).2 _) e ?_
  exact m_return dX1_init_19 trivial hF
theorem en_X1_init {d : Nat} {r_0 : Nat} {x_1 : Int32} {r_2 : Nat} {x_3 : Int32} {h : mH} {K : Option Value → mH → Prop} (hk : Wm (d + 1) (0, 0) JX1_init 0 [some (.ref r_0), some (.int x_1), some (.ref r_2), some (.int x_3)] [] h (fun r h' => h'.1 0 = h.1 0 ∧ K r h')) : Ev (d + 1) (0, 0) MX1_init [.ref r_0, .int x_1, .ref r_2, .int x_3] h K :=
  m_met pn_X1 nl_X1 (fun _ => Nat.le_of_ble_eq_true rfl) hk
theorem bk_X1_of_0 {d : Nat} {b : Nat × Nat} (x_0 : Int32) (r_1 : Nat) {h : mH} {Q : Option Value → mH → Prop} (hF : Ev d (0, 0) MX5_ledTogether [.ref r_1, .int x_0] h (fun r1 h2 => ∃ y3 : Int64, r1 = some (.long y3) ∧ Ev d (0, 0) MX5_groups [.long y3, .int x_0] h2 (fun r4 h5 => ∃ x6 : Int32, r4 = some (.int x6) ∧ (∃ n7 : Nat, m_len h5 r_1 = some n7 ∧ (((nI n7) = 3 → Ev d (0, 0) MX8_one [.int 2] h5 (fun r8 h9 => ∃ y10 : Int64, r8 = some (.long y10) ∧ ((¬ (x_0 - x_0 / 2 * 2) = 0 → (1 ≤ b.1 ∧ 3 ≤ b.2 ∧ ∀ h11 : mH, h11 = (m_up h9.1 h9.2 (.inr (9, [.int 0, .null, .int 0])), h9.2 + 1) → Ev d (0, 0) MX10_init [.ref h9.2, .int x_0, .ref r_1, .int x6] h11 (fun r12 h13 => r12 = none ∧ Q (some (.ref h9.2)) h13))) ∧ ((x_0 - x_0 / 2 * 2) = 0 → (∃ y14 : Int64, m_ll h9 r_1 2 = some y14 ∧ Ev d (0, 0) MX8_lengthsOf [.long y14, .int x_0] h9 (fun r15 h16 => ∃ y17 : Int64, r15 = some (.long y17) ∧ (((lg_cmp y17 (((x_0 / 2).toInt64) * y10)) = 0 → (∃ y18 : Int64, m_ll h16 r_1 1 = some y18 ∧ Ev d (0, 0) MX8_lengthsOf [.long y18, .int x_0] h16 (fun r19 h20 => ∃ y21 : Int64, r19 = some (.long y21) ∧ Ev d (0, 0) MX8_one [.int x_0] h20 (fun r22 h23 => ∃ y24 : Int64, r22 = some (.long y24) ∧ (((lg_cmp y21 y24) = 0 → (1 ≤ b.1 ∧ 3 ≤ b.2 ∧ ∀ h25 : mH, h25 = (m_up h23.1 h23.2 (.inr (4, [.int 0, .null, .int 0])), h23.2 + 1) → Ev d (0, 0) MX4_init [.ref h23.2, .int x_0, .ref r_1, .int x6] h25 (fun r26 h27 => r26 = none ∧ Q (some (.ref h23.2)) h27))) ∧ (¬ ((lg_cmp y21 y24) = 0) → (1 ≤ b.1 ∧ 3 ≤ b.2 ∧ ∀ h28 : mH, h28 = (m_up h23.1 h23.2 (.inr (0, [.int 0, .null, .int 0])), h23.2 + 1) → Ev d (0, 0) MX0_init [.ref h23.2, .int x_0, .ref r_1, .int x6] h28 (fun r29 h30 => r29 = none ∧ Q (some (.ref h23.2)) h30)))))))) ∧ (¬ ((lg_cmp y17 (((x_0 / 2).toInt64) * y10)) = 0) → (1 ≤ b.1 ∧ 3 ≤ b.2 ∧ ∀ h31 : mH, h31 = (m_up h16.1 h16.2 (.inr (9, [.int 0, .null, .int 0])), h16.2 + 1) → Ev d (0, 0) MX10_init [.ref h16.2, .int x_0, .ref r_1, .int x6] h31 (fun r32 h33 => r32 = none ∧ Q (some (.ref h16.2)) h33)))))))))) ∧ (¬ ((nI n7) = 3) → Ev d (0, 0) MX1_exchangesAhead [.int x_0, .ref r_1] h5 (fun r34 h35 => ∃ x36 : Int32, r34 = some (.int x36) ∧ ((x36 = 0 → (1 ≤ b.1 ∧ 3 ≤ b.2 ∧ ∀ h37 : mH, h37 = (m_up h35.1 h35.2 (.inr (1, [.int 0, .null, .int 0])), h35.2 + 1) → Ev d (0, 0) MX1_init [.ref h35.2, .int x_0, .ref r_1, .int x6] h37 (fun r38 h39 => r38 = none ∧ Q (some (.ref h35.2)) h39))) ∧ (¬ (x36 = 0) → (1 ≤ b.1 ∧ 3 ≤ b.2 ∧ ∀ h40 : mH, h40 = (m_up h35.1 h35.2 (.inr (8, [.int 0, .null, .int 0])), h35.2 + 1) → Ev d (0, 0) MX9_init [.ref h35.2, .int x_0, .ref r_1, .int x6] h40 (fun r41 h42 => r41 = none ∧ Q (some (.ref h35.2)) h42))))))))))) : Wm (d + 1) b JX1_of 0 [some (.int x_0), some (.ref r_1), none, none, none] [] h Q := by
  refine m_aload_n dX1_of_0 rfl ?_
  refine m_iload_n dX1_of_1 rfl ?_
  refine m_static (as := [.ref r_1, .int x_0]) (rest := []) cs_X1_20 dX1_of_2 rfl rfl (Nat.le_of_ble_eq_true rfl) (Nat.le_of_eq (Nat.zero_add _)) (Nat.le_of_eq (Nat.zero_add _)) (b1 := (0, 0)) (b2 := b) (Ev.mono hF ?_)
  intro r1 h2 hF
  obtain ⟨y3, rfl, hF⟩ := hF
  refine m_iload_n dX1_of_5 rfl ?_
  refine m_static (as := [.long y3, .int x_0]) (rest := []) cs_X1_26 dX1_of_6 rfl rfl (Nat.le_of_ble_eq_true rfl) (Nat.le_of_eq (Nat.zero_add _)) (Nat.le_of_eq (Nat.zero_add _)) (b1 := (0, 0)) (b2 := b) (Ev.mono hF ?_)
  intro r4 h5 hF
  obtain ⟨x6, rfl, hF⟩ := hF
  refine m_istore_n (ls2 := [some (.int x_0), some (.ref r_1), some (.int x6), none, none]) dX1_of_9 (by decide) rfl ?_
  refine m_aload_n dX1_of_10 rfl ?_
  obtain ⟨n7, e, hF⟩ := hF
  refine m_alen dX1_of_11 e ?_
  refine m_iconst dX1_of_12 ki_3 ?_
  refine m_icmp_eq 48 dX1_of_13 (by decide) (fun c => ?_) (fun c => ?_)
  · replace hF := hF.1 c
    refine m_iload_n dX1_of_48 rfl ?_
    refine m_iconst dX1_of_49 ki_2 ?_
    refine m_idiv dX1_of_50 (by decide) ?_
    refine m_i2l dX1_of_51 ?_
    refine m_iconst dX1_of_52 ki_2 ?_
    refine m_static (as := [.int 2]) (rest := [.long ((x_0 / 2).toInt64)]) cs_X1_40 dX1_of_53 rfl rfl (Nat.le_of_ble_eq_true rfl) (Nat.le_of_eq (Nat.zero_add _)) (Nat.le_of_eq (Nat.zero_add _)) (b1 := (0, 0)) (b2 := b) (Ev.mono hF ?_)
    intro r8 h9 hF
    obtain ⟨y10, rfl, hF⟩ := hF
    refine m_lmul dX1_of_56 ?_
    refine m_lstore_n (ls2 := [some (.int x_0), some (.ref r_1), some (.int x6), some (.long (((x_0 / 2).toInt64) * y10)), none]) dX1_of_57 (by decide) rfl ?_
    refine m_iload_n dX1_of_58 rfl ?_
    refine m_iconst dX1_of_59 ki_2 ?_
    refine m_irem dX1_of_60 (by decide) ?_
    refine m_if_ne 76 dX1_of_61 (by decide) (fun c => ?_) (fun c => ?_)
    · replace hF := hF.1 c
      obtain ⟨e4, e5, hF⟩ := hF
      refine m_newobj (b2 := (b.1 - 1, b.2 - 3)) nw_X1_50 dX1_of_76 (Nat.le_of_eq (Nat.sub_add_cancel e4)) (Nat.le_of_eq (Nat.sub_add_cancel e5)) ?_
      replace hF := hF _ rfl
      generalize (m_up h9.1 h9.2 (.inr (9, [.int 0, .null, .int 0])), h9.2 + 1) = h11 at hF ⊢
      refine m_dup dX1_of_79 rfl ?_
      refine m_iload_n dX1_of_80 rfl ?_
      refine m_aload_n dX1_of_81 rfl ?_
      refine m_iload_n dX1_of_82 rfl ?_
      refine m_special (as := [.int x_0, .ref r_1, .int x6]) (rest := [.ref h9.2]) ci_X1_52 dX1_of_83 rfl rfl (Nat.le_of_ble_eq_true rfl) (Nat.le_of_eq (Nat.zero_add _)) (Nat.le_of_eq (Nat.zero_add _)) (b1 := (0, 0)) (b2 := (b.1 - 1, b.2 - 3)) (Ev.mono hF ?_)
      intro r12 h13 hF
      obtain ⟨rfl, hF⟩ := hF
      exact m_areturn dX1_of_86 trivial hF
    · replace hF := hF.2 c
      refine m_aload_n dX1_of_64 rfl ?_
      refine m_iconst dX1_of_65 ki_2 ?_
      obtain ⟨y14, e, hF⟩ := hF
      refine m_lald dX1_of_66 e ?_
      refine m_iload_n dX1_of_67 rfl ?_
      refine m_static (as := [.long y14, .int x_0]) (rest := []) cs_X1_46 dX1_of_68 rfl rfl (Nat.le_of_ble_eq_true rfl) (Nat.le_of_eq (Nat.zero_add _)) (Nat.le_of_eq (Nat.zero_add _)) (b1 := (0, 0)) (b2 := b) (Ev.mono hF ?_)
      intro r15 h16 hF
      obtain ⟨y17, rfl, hF⟩ := hF
      refine m_lload_n dX1_of_71 rfl ?_
      refine m_lcmp dX1_of_72 ?_
      refine m_if_eq 87 dX1_of_73 (by decide) (fun c => ?_) (fun c => ?_)
      · replace hF := hF.1 c
        refine m_aload_n dX1_of_87 rfl ?_
        refine m_iconst dX1_of_88 ki_1 ?_
        obtain ⟨y18, e, hF⟩ := hF
        refine m_lald dX1_of_89 e ?_
        refine m_iload_n dX1_of_90 rfl ?_
        refine m_static (as := [.long y18, .int x_0]) (rest := []) cs_X1_46 dX1_of_91 rfl rfl (Nat.le_of_ble_eq_true rfl) (Nat.le_of_eq (Nat.zero_add _)) (Nat.le_of_eq (Nat.zero_add _)) (b1 := (0, 0)) (b2 := b) (Ev.mono hF ?_)
        intro r19 h20 hF
        obtain ⟨y21, rfl, hF⟩ := hF
        refine m_iload_n dX1_of_94 rfl ?_
        refine m_static (as := [.int x_0]) (rest := [.long y21]) cs_X1_40 dX1_of_95 rfl rfl (Nat.le_of_ble_eq_true rfl) (Nat.le_of_eq (Nat.zero_add _)) (Nat.le_of_eq (Nat.zero_add _)) (b1 := (0, 0)) (b2 := b) (Ev.mono hF ?_)
        intro r22 h23 hF
        obtain ⟨y24, rfl, hF⟩ := hF
        refine m_lcmp dX1_of_98 ?_
        refine m_if_eq 113 dX1_of_99 (by decide) (fun c => ?_) (fun c => ?_)
        · replace hF := hF.1 c
          obtain ⟨e4, e5, hF⟩ := hF
          refine m_newobj (b2 := (b.1 - 1, b.2 - 3)) nw_X1_56 dX1_of_113 (Nat.le_of_eq (Nat.sub_add_cancel e4)) (Nat.le_of_eq (Nat.sub_add_cancel e5)) ?_
          replace hF := hF _ rfl
          generalize (m_up h23.1 h23.2 (.inr (4, [.int 0, .null, .int 0])), h23.2 + 1) = h25 at hF ⊢
          refine m_dup dX1_of_116 rfl ?_
          refine m_iload_n dX1_of_117 rfl ?_
          refine m_aload_n dX1_of_118 rfl ?_
          refine m_iload_n dX1_of_119 rfl ?_
          refine m_special (as := [.int x_0, .ref r_1, .int x6]) (rest := [.ref h23.2]) ci_X1_58 dX1_of_120 rfl rfl (Nat.le_of_ble_eq_true rfl) (Nat.le_of_eq (Nat.zero_add _)) (Nat.le_of_eq (Nat.zero_add _)) (b1 := (0, 0)) (b2 := (b.1 - 1, b.2 - 3)) (Ev.mono hF ?_)
          intro r26 h27 hF
          obtain ⟨rfl, hF⟩ := hF
          exact m_areturn dX1_of_123 trivial hF
        · replace hF := hF.2 c
          obtain ⟨e4, e5, hF⟩ := hF
          refine m_newobj (b2 := (b.1 - 1, b.2 - 3)) nw_X1_53 dX1_of_102 (Nat.le_of_eq (Nat.sub_add_cancel e4)) (Nat.le_of_eq (Nat.sub_add_cancel e5)) ?_
          replace hF := hF _ rfl
          generalize (m_up h23.1 h23.2 (.inr (0, [.int 0, .null, .int 0])), h23.2 + 1) = h28 at hF ⊢
          refine m_dup dX1_of_105 rfl ?_
          refine m_iload_n dX1_of_106 rfl ?_
          refine m_aload_n dX1_of_107 rfl ?_
          refine m_iload_n dX1_of_108 rfl ?_
          refine m_special (as := [.int x_0, .ref r_1, .int x6]) (rest := [.ref h23.2]) ci_X1_55 dX1_of_109 rfl rfl (Nat.le_of_ble_eq_true rfl) (Nat.le_of_eq (Nat.zero_add _)) (Nat.le_of_eq (Nat.zero_add _)) (b1 := (0, 0)) (b2 := (b.1 - 1, b.2 - 3)) (Ev.mono hF ?_)
          intro r29 h30 hF
          obtain ⟨rfl, hF⟩ := hF
          exact m_areturn dX1_of_112 trivial hF
      · replace hF := hF.2 c
        obtain ⟨e4, e5, hF⟩ := hF
        refine m_newobj (b2 := (b.1 - 1, b.2 - 3)) nw_X1_50 dX1_of_76 (Nat.le_of_eq (Nat.sub_add_cancel e4)) (Nat.le_of_eq (Nat.sub_add_cancel e5)) ?_
        replace hF := hF _ rfl
        generalize (m_up h16.1 h16.2 (.inr (9, [.int 0, .null, .int 0])), h16.2 + 1) = h31 at hF ⊢
        refine m_dup dX1_of_79 rfl ?_
        refine m_iload_n dX1_of_80 rfl ?_
        refine m_aload_n dX1_of_81 rfl ?_
        refine m_iload_n dX1_of_82 rfl ?_
        refine m_special (as := [.int x_0, .ref r_1, .int x6]) (rest := [.ref h16.2]) ci_X1_52 dX1_of_83 rfl rfl (Nat.le_of_ble_eq_true rfl) (Nat.le_of_eq (Nat.zero_add _)) (Nat.le_of_eq (Nat.zero_add _)) (b1 := (0, 0)) (b2 := (b.1 - 1, b.2 - 3)) (Ev.mono hF ?_)
        intro r32 h33 hF
        obtain ⟨rfl, hF⟩ := hF
        exact m_areturn dX1_of_86 trivial hF
  · replace hF := hF.2 c
    refine m_iload_n dX1_of_16 rfl ?_
    refine m_aload_n dX1_of_17 rfl ?_
    refine m_static (as := [.int x_0, .ref r_1]) (rest := []) cs_X1_30 dX1_of_18 rfl rfl (Nat.le_of_ble_eq_true rfl) (Nat.le_of_eq (Nat.zero_add _)) (Nat.le_of_eq (Nat.zero_add _)) (b1 := (0, 0)) (b2 := b) (Ev.mono hF ?_)
    intro r34 h35 hF
    obtain ⟨x36, rfl, hF⟩ := hF
    refine m_if_eq 37 dX1_of_21 (by decide) (fun c => ?_) (fun c => ?_)
    · replace hF := hF.1 c
      obtain ⟨e4, e5, hF⟩ := hF
      refine m_newobj (b2 := (b.1 - 1, b.2 - 3)) nw_X1_8 dX1_of_37 (Nat.le_of_eq (Nat.sub_add_cancel e4)) (Nat.le_of_eq (Nat.sub_add_cancel e5)) ?_
      replace hF := hF _ rfl
      generalize (m_up h35.1 h35.2 (.inr (1, [.int 0, .null, .int 0])), h35.2 + 1) = h37 at hF ⊢
      refine m_dup dX1_of_40 rfl ?_
      refine m_iload_n dX1_of_41 rfl ?_
      refine m_aload_n dX1_of_42 rfl ?_
      refine m_iload_n dX1_of_43 rfl ?_
      refine m_special (as := [.int x_0, .ref r_1, .int x6]) (rest := [.ref h35.2]) ci_X1_39 dX1_of_44 rfl rfl (Nat.le_of_ble_eq_true rfl) (Nat.le_of_eq (Nat.zero_add _)) (Nat.le_of_eq (Nat.zero_add _)) (b1 := (0, 0)) (b2 := (b.1 - 1, b.2 - 3)) (Ev.mono hF ?_)
      intro r38 h39 hF
      obtain ⟨rfl, hF⟩ := hF
      exact m_areturn dX1_of_47 trivial hF
    · replace hF := hF.2 c
      obtain ⟨e4, e5, hF⟩ := hF
      refine m_newobj (b2 := (b.1 - 1, b.2 - 3)) nw_X1_34 dX1_of_24 (Nat.le_of_eq (Nat.sub_add_cancel e4)) (Nat.le_of_eq (Nat.sub_add_cancel e5)) ?_
      replace hF := hF _ rfl
      generalize (m_up h35.1 h35.2 (.inr (8, [.int 0, .null, .int 0])), h35.2 + 1) = h40 at hF ⊢
      refine m_dup dX1_of_27 rfl ?_
      refine m_iload_n dX1_of_28 rfl ?_
      refine m_aload_n dX1_of_29 rfl ?_
      refine m_iload_n dX1_of_30 rfl ?_
      refine m_special (as := [.int x_0, .ref r_1, .int x6]) (rest := [.ref h35.2]) ci_X1_36 dX1_of_31 rfl rfl (Nat.le_of_ble_eq_true rfl) (Nat.le_of_eq (Nat.zero_add _)) (Nat.le_of_eq (Nat.zero_add _)) (b1 := (0, 0)) (b2 := (b.1 - 1, b.2 - 3)) (Ev.mono hF ?_)
      intro r41 h42 hF
      obtain ⟨rfl, hF⟩ := hF
      refine m_goto 47 dX1_of_34 (by decide) ?_
      exact m_areturn dX1_of_47 trivial hF
theorem en_X1_of {d : Nat} {b : Nat × Nat} {x_0 : Int32} {r_1 : Nat} {h : mH} {K : Option Value → mH → Prop} (hk : Wm (d + 1) b JX1_of 0 [some (.int x_0), some (.ref r_1), none, none, none] [] h (fun r h' => h'.1 0 = h.1 0 ∧ K r h')) : Ev (d + 1) b MX1_of [.int x_0, .ref r_1] h K :=
  m_met pn_X1 nl_X1 (fun _ => Nat.le_of_ble_eq_true rfl) hk
theorem bk_X1_exchangesAhead_0 {d : Nat} (x_0 : Int32) (r_1 : Nat) {h : mH} {Q : Option Value → mH → Prop} (hF : ((x_0 < 2 → Q (some (.int 0)) h) ∧ (¬ (x_0 < 2) → (∃ n1 : Nat, m_len h r_1 = some n1 ∧ ((2 ≤ (nI n1) → Ev d (0, 0) MX8_one [.int 2] h (fun r2 h3 => ∃ y4 : Int64, r2 = some (.long y4) ∧ Ev d (0, 0) MX8_one [.int 1] h3 (fun r5 h6 => ∃ y7 : Int64, r5 = some (.long y7) ∧ Wm (d + 1) (0, 0) JX1_exchangesAhead 31 [some (.int x_0), some (.ref r_1), some (.long (y4 + (((x_0 - 2).toInt64) * y7))), none, some (.int 0)] [] h6 Q))) ∧ (¬ (2 ≤ (nI n1)) → Q (some (.int 0)) h)))))) : Wm (d + 1) (0, 0) JX1_exchangesAhead 0 [some (.int x_0), some (.ref r_1), none, none, none] [] h Q := by
  refine m_iload_n dX1_exchangesAhead_0 rfl ?_
  refine m_iconst dX1_exchangesAhead_1 ki_2 ?_
  refine m_icmp_lt 11 dX1_exchangesAhead_2 (by decide) (fun c => ?_) (fun c => ?_)
  · replace hF := hF.1 c
    refine m_iconst dX1_exchangesAhead_11 ki_0 ?_
    exact m_ireturn dX1_exchangesAhead_12 (Or.inl rfl) hF
  · replace hF := hF.2 c
    refine m_aload_n dX1_exchangesAhead_5 rfl ?_
    obtain ⟨n1, e, hF⟩ := hF
    refine m_alen dX1_exchangesAhead_6 e ?_
    refine m_iconst dX1_exchangesAhead_7 ki_2 ?_
    refine m_icmp_ge 13 dX1_exchangesAhead_8 (by decide) (fun c => ?_) (fun c => ?_)
    · replace hF := hF.1 c
      refine m_iconst dX1_exchangesAhead_13 ki_2 ?_
      refine m_static (as := [.int 2]) (rest := []) cs_X1_40 dX1_exchangesAhead_14 rfl rfl (Nat.le_of_ble_eq_true rfl) (Nat.le_of_eq (Nat.zero_add _)) (Nat.le_of_eq (Nat.zero_add _)) (b1 := (0, 0)) (b2 := (0, 0)) (Ev.mono hF ?_)
      intro r2 h3 hF
      obtain ⟨y4, rfl, hF⟩ := hF
      refine m_iload_n dX1_exchangesAhead_17 rfl ?_
      refine m_iconst dX1_exchangesAhead_18 ki_2 ?_
      refine m_isub dX1_exchangesAhead_19 ?_
      refine m_i2l dX1_exchangesAhead_20 ?_
      refine m_iconst dX1_exchangesAhead_21 ki_1 ?_
      refine m_static (as := [.int 1]) (rest := [.long ((x_0 - 2).toInt64), .long y4]) cs_X1_40 dX1_exchangesAhead_22 rfl rfl (Nat.le_of_ble_eq_true rfl) (Nat.le_of_eq (Nat.zero_add _)) (Nat.le_of_eq (Nat.zero_add _)) (b1 := (0, 0)) (b2 := (0, 0)) (Ev.mono hF ?_)
      intro r5 h6 hF
      obtain ⟨y7, rfl, hF⟩ := hF
      refine m_lmul dX1_exchangesAhead_25 ?_
      refine m_ladd dX1_exchangesAhead_26 ?_
      refine m_lstore_n (ls2 := [some (.int x_0), some (.ref r_1), some (.long (y4 + (((x_0 - 2).toInt64) * y7))), none, none]) dX1_exchangesAhead_27 (by decide) rfl ?_
      refine m_iconst dX1_exchangesAhead_28 ki_0 ?_
      refine m_istore (ls2 := [some (.int x_0), some (.ref r_1), some (.long (y4 + (((x_0 - 2).toInt64) * y7))), none, some (.int 0)]) dX1_exchangesAhead_29 (by decide) rfl ?_
      exact hF
    · replace hF := hF.2 c
      refine m_iconst dX1_exchangesAhead_11 ki_0 ?_
      exact m_ireturn dX1_exchangesAhead_12 (Or.inl rfl) hF
theorem bk_X1_exchangesAhead_31 {d : Nat} (x_0 : Int32) (r_1 : Nat) (y_2 : Int64) (x_4 : Int32) {h : mH} {Q : Option Value → mH → Prop} (hF : (∃ n1 : Nat, m_len h r_1 = some n1 ∧ ((((nI n1) - 1) ≤ x_4 → Q (some (.int 1)) h) ∧ (¬ (((nI n1) - 1) ≤ x_4) → (∃ y2 : Int64, m_ll h r_1 x_4 = some y2 ∧ Ev d (0, 0) MX8_lengthsOf [.long y2, .int x_0] h (fun r3 h4 => ∃ y5 : Int64, r3 = some (.long y5) ∧ (((lg_cmp y5 y_2) = 0 → Wm (d + 1) (0, 0) JX1_exchangesAhead 31 [some (.int x_0), some (.ref r_1), some (.long y_2), none, some (.int (x_4 + 1))] [] h4 Q) ∧ (¬ ((lg_cmp y5 y_2) = 0) → Q (some (.int 0)) h4)))))))) : Wm (d + 1) (0, 0) JX1_exchangesAhead 31 [some (.int x_0), some (.ref r_1), some (.long y_2), none, some (.int x_4)] [] h Q := by
  refine m_iload dX1_exchangesAhead_31 rfl ?_
  refine m_aload_n dX1_exchangesAhead_33 rfl ?_
  obtain ⟨n1, e, hF⟩ := hF
  refine m_alen dX1_exchangesAhead_34 e ?_
  refine m_iconst dX1_exchangesAhead_35 ki_1 ?_
  refine m_isub dX1_exchangesAhead_36 ?_
  refine m_icmp_ge 61 dX1_exchangesAhead_37 (by decide) (fun c => ?_) (fun c => ?_)
  · replace hF := hF.1 c
    refine m_iconst dX1_exchangesAhead_61 ki_1 ?_
    exact m_ireturn dX1_exchangesAhead_62 (Or.inr rfl) hF
  · replace hF := hF.2 c
    refine m_aload_n dX1_exchangesAhead_40 rfl ?_
    refine m_iload dX1_exchangesAhead_41 rfl ?_
    obtain ⟨y2, e, hF⟩ := hF
    refine m_lald dX1_exchangesAhead_43 e ?_
    refine m_iload_n dX1_exchangesAhead_44 rfl ?_
    refine m_static (as := [.long y2, .int x_0]) (rest := []) cs_X1_46 dX1_exchangesAhead_45 rfl rfl (Nat.le_of_ble_eq_true rfl) (Nat.le_of_eq (Nat.zero_add _)) (Nat.le_of_eq (Nat.zero_add _)) (b1 := (0, 0)) (b2 := (0, 0)) (Ev.mono hF ?_)
    intro r3 h4 hF
    obtain ⟨y5, rfl, hF⟩ := hF
    refine m_lload_n dX1_exchangesAhead_48 rfl ?_
    refine m_lcmp dX1_exchangesAhead_49 ?_
    refine m_if_eq 55 dX1_exchangesAhead_50 (by decide) (fun c => ?_) (fun c => ?_)
    · replace hF := hF.1 c
      refine m_iinc (v := x_4 + 1) (ls2 := [some (.int x_0), some (.ref r_1), some (.long y_2), none, some (.int (x_4 + 1))]) dX1_exchangesAhead_55 (by decide) rfl (congrArg (_ + ·) ki_1) rfl ?_
      refine m_goto 31 dX1_exchangesAhead_58 (by decide) ?_
      exact hF
    · replace hF := hF.2 c
      refine m_iconst dX1_exchangesAhead_53 ki_0 ?_
      exact m_ireturn dX1_exchangesAhead_54 (Or.inl rfl) hF
theorem en_X1_exchangesAhead {d : Nat} {x_0 : Int32} {r_1 : Nat} {h : mH} {K : Option Value → mH → Prop} (hk : Wm (d + 1) (0, 0) JX1_exchangesAhead 0 [some (.int x_0), some (.ref r_1), none, none, none] [] h (fun r h' => h'.1 0 = h.1 0 ∧ K r h')) : Ev (d + 1) (0, 0) MX1_exchangesAhead [.int x_0, .ref r_1] h K :=
  m_met pn_X1 nl_X1 (fun _ => Nat.le_of_ble_eq_true rfl) hk
theorem bk_X1_kindNumber_0 {d : Nat} (r_0 : Nat) {h : mH} {Q : Option Value → mH → Prop} (hF : Q (some (.int 0)) h) : Wm d (0, 0) JX1_kindNumber 0 [some (.ref r_0)] [] h Q := by
  refine m_iconst dX1_kindNumber_0 ki_0 ?_
  exact m_ireturn dX1_kindNumber_1 trivial hF
theorem en_X1_kindNumber {d : Nat} {r_0 : Nat} {h : mH} {K : Option Value → mH → Prop} (hk : Wm d (0, 0) JX1_kindNumber 0 [some (.ref r_0)] [] h (fun r h' => h'.1 0 = h.1 0 ∧ K r h')) : Ev d (0, 0) MX1_kindNumber [.ref r_0] h K :=
  m_met pn_X1 nl_X1 (fun _ => Nat.le_of_ble_eq_true rfl) hk
theorem bk_X1_sizeAsked_0 {d : Nat} (r_0 : Nat) (r_1 : Nat) {h : mH} {Q : Option Value → mH → Prop} (hF : (∃ fs4 : List Value, (h).1 r_1 = .inr (6, fs4) ∧ Ev d (0, 0) MX7_add [.ref r_1, .int 10] h (fun r1 h2 => r1 = none ∧ (∃ x3 : Int32, m_fld h2 r_0 [0, 1, 4, 8, 9] 0 = some (.int x3) ∧ Q (some (.int x3)) h2)))) : Wm (d + 1) (0, 0) JX1_sizeAsked 0 [some (.ref r_0), some (.ref r_1)] [] h Q := by
  refine m_aload_n dX1_sizeAsked_0 rfl ?_
  refine m_bipush dX1_sizeAsked_1 kb_10 ?_
  obtain ⟨fs4, e, hF⟩ := hF
  refine m_virtual (as := [.int 10]) (rest := []) cv_X1_59_6 e dX1_sizeAsked_3 rfl rfl (Nat.le_of_ble_eq_true rfl) (Nat.le_of_eq (Nat.zero_add _)) (Nat.le_of_eq (Nat.zero_add _)) (b1 := (0, 0)) (b2 := (0, 0)) (Ev.mono hF ?_)
  intro r1 h2 hF
  obtain ⟨rfl, hF⟩ := hF
  refine m_aload_n dX1_sizeAsked_6 rfl ?_
  obtain ⟨x3, e, hF⟩ := hF
  refine m_get fg_X1_7 dX1_sizeAsked_7 e ?_
  exact m_ireturn dX1_sizeAsked_10 trivial hF
theorem en_X1_sizeAsked {d : Nat} {r_0 : Nat} {r_1 : Nat} {h : mH} {K : Option Value → mH → Prop} (hk : Wm (d + 1) (0, 0) JX1_sizeAsked 0 [some (.ref r_0), some (.ref r_1)] [] h (fun r h' => h'.1 0 = h.1 0 ∧ K r h')) : Ev (d + 1) (0, 0) MX1_sizeAsked [.ref r_0, .ref r_1] h K :=
  m_met pn_X1 nl_X1 (fun _ => Nat.le_of_ble_eq_true rfl) hk
theorem bk_X1_markAsked_0 {d : Nat} (r_0 : Nat) (r_1 : Nat) {h : mH} {Q : Option Value → mH → Prop} (hF : (∃ fs4 : List Value, (h).1 r_1 = .inr (6, fs4) ∧ Ev d (0, 0) MX7_add [.ref r_1, .int 20] h (fun r1 h2 => r1 = none ∧ (∃ x3 : Int32, m_fld h2 r_0 [0, 1, 4, 8, 9] 2 = some (.int x3) ∧ Q (some (.int x3)) h2)))) : Wm (d + 1) (0, 0) JX1_markAsked 0 [some (.ref r_0), some (.ref r_1)] [] h Q := by
  refine m_aload_n dX1_markAsked_0 rfl ?_
  refine m_bipush dX1_markAsked_1 kb_20 ?_
  obtain ⟨fs4, e, hF⟩ := hF
  refine m_virtual (as := [.int 20]) (rest := []) cv_X1_59_6 e dX1_markAsked_3 rfl rfl (Nat.le_of_ble_eq_true rfl) (Nat.le_of_eq (Nat.zero_add _)) (Nat.le_of_eq (Nat.zero_add _)) (b1 := (0, 0)) (b2 := (0, 0)) (Ev.mono hF ?_)
  intro r1 h2 hF
  obtain ⟨rfl, hF⟩ := hF
  refine m_aload_n dX1_markAsked_6 rfl ?_
  obtain ⟨x3, e, hF⟩ := hF
  refine m_get fg_X1_17 dX1_markAsked_7 e ?_
  exact m_ireturn dX1_markAsked_10 trivial hF
theorem en_X1_markAsked {d : Nat} {r_0 : Nat} {r_1 : Nat} {h : mH} {K : Option Value → mH → Prop} (hk : Wm (d + 1) (0, 0) JX1_markAsked 0 [some (.ref r_0), some (.ref r_1)] [] h (fun r h' => h'.1 0 = h.1 0 ∧ K r h')) : Ev (d + 1) (0, 0) MX1_markAsked [.ref r_0, .ref r_1] h K :=
  m_met pn_X1 nl_X1 (fun _ => Nat.le_of_ble_eq_true rfl) hk
theorem bk_X1_noSheet_0 {d : Nat} (r_0 : Nat) (x_1 : Int32) {h : mH} {Q : Option Value → mH → Prop} (hF : ((x_1 < 0 → Q (some (.int 1)) h) ∧ (¬ (x_1 < 0) → (∃ x1 : Int32, m_fld h r_0 [0, 1, 4, 8, 9] 0 = some (.int x1) ∧ ((x_1 < x1 → Q (some (.int 0)) h) ∧ (¬ (x_1 < x1) → Q (some (.int 1)) h)))))) : Wm d (0, 0) JX1_noSheet 0 [some (.ref r_0), some (.int x_1)] [] h Q := by
  refine m_iload_n dX1_noSheet_0 rfl ?_
  refine m_if_lt 12 dX1_noSheet_1 (by decide) (fun c => ?_) (fun c => ?_)
  · replace hF := hF.1 c
    refine m_iconst dX1_noSheet_12 ki_1 ?_
    refine m_goto 17 dX1_noSheet_13 (by decide) ?_
    exact m_ireturn dX1_noSheet_17 (Or.inr rfl) hF
  · replace hF := hF.2 c
    refine m_iload_n dX1_noSheet_4 rfl ?_
    refine m_aload_n dX1_noSheet_5 rfl ?_
    obtain ⟨x1, e, hF⟩ := hF
    refine m_get fg_X1_7 dX1_noSheet_6 e ?_
    refine m_icmp_lt 16 dX1_noSheet_9 (by decide) (fun c => ?_) (fun c => ?_)
    · replace hF := hF.1 c
      refine m_iconst dX1_noSheet_16 ki_0 ?_
      exact m_ireturn dX1_noSheet_17 (Or.inl rfl) hF
    · replace hF := hF.2 c
      refine m_iconst dX1_noSheet_12 ki_1 ?_
      refine m_goto 17 dX1_noSheet_13 (by decide) ?_
      exact m_ireturn dX1_noSheet_17 (Or.inr rfl) hF
theorem en_X1_noSheet {d : Nat} {r_0 : Nat} {x_1 : Int32} {h : mH} {K : Option Value → mH → Prop} (hk : Wm d (0, 0) JX1_noSheet 0 [some (.ref r_0), some (.int x_1)] [] h (fun r h' => h'.1 0 = h.1 0 ∧ K r h')) : Ev d (0, 0) MX1_noSheet [.ref r_0, .int x_1] h K :=
  m_met pn_X1 nl_X1 (fun _ => Nat.le_of_ble_eq_true rfl) hk
theorem bk_X1_noTurn_0 {d : Nat} (r_0 : Nat) (x_1 : Int32) {h : mH} {Q : Option Value → mH → Prop} (hF : ((x_1 < 0 → Q (some (.int 1)) h) ∧ (¬ (x_1 < 0) → (∃ r1 : Nat, m_fld h r_0 [0, 1, 4, 8, 9] 1 = some (.ref r1) ∧ (∃ n2 : Nat, m_len h r1 = some n2 ∧ ((x_1 < (nI n2) → Q (some (.int 0)) h) ∧ (¬ (x_1 < (nI n2)) → Q (some (.int 1)) h))))))) : Wm d (0, 0) JX1_noTurn 0 [some (.ref r_0), some (.int x_1)] [] h Q := by
  refine m_iload_n dX1_noTurn_0 rfl ?_
  refine m_if_lt 13 dX1_noTurn_1 (by decide) (fun c => ?_) (fun c => ?_)
  · replace hF := hF.1 c
    refine m_iconst dX1_noTurn_13 ki_1 ?_
    refine m_goto 18 dX1_noTurn_14 (by decide) ?_
    exact m_ireturn dX1_noTurn_18 (Or.inr rfl) hF
  · replace hF := hF.2 c
    refine m_iload_n dX1_noTurn_4 rfl ?_
    refine m_aload_n dX1_noTurn_5 rfl ?_
    obtain ⟨r1, e, hF⟩ := hF
    refine m_get fg_X1_13 dX1_noTurn_6 e ?_
    obtain ⟨n2, e, hF⟩ := hF
    refine m_alen dX1_noTurn_9 e ?_
    refine m_icmp_lt 17 dX1_noTurn_10 (by decide) (fun c => ?_) (fun c => ?_)
    · replace hF := hF.1 c
      refine m_iconst dX1_noTurn_17 ki_0 ?_
      exact m_ireturn dX1_noTurn_18 (Or.inl rfl) hF
    · replace hF := hF.2 c
      refine m_iconst dX1_noTurn_13 ki_1 ?_
      refine m_goto 18 dX1_noTurn_14 (by decide) ?_
      exact m_ireturn dX1_noTurn_18 (Or.inr rfl) hF
theorem en_X1_noTurn {d : Nat} {r_0 : Nat} {x_1 : Int32} {h : mH} {K : Option Value → mH → Prop} (hk : Wm d (0, 0) JX1_noTurn 0 [some (.ref r_0), some (.int x_1)] [] h (fun r h' => h'.1 0 = h.1 0 ∧ K r h')) : Ev d (0, 0) MX1_noTurn [.ref r_0, .int x_1] h K :=
  m_met pn_X1 nl_X1 (fun _ => Nat.le_of_ble_eq_true rfl) hk
theorem bk_X1_turnAt_0 {d : Nat} (r_0 : Nat) (x_1 : Int32) {h : mH} {Q : Option Value → mH → Prop} (hF : (∃ (c10 : Nat) (fs11 : List Value), (h).1 r_0 = .inr (c10, fs11) ∧ c10 ∈ [0, 1, 4, 8, 9] ∧ Ev d (0, 0) MX1_noTurn [.ref r_0, .int x_1] h (fun r1 h2 => ∃ x3 : Int32, r1 = some (.int x3) ∧ ((x3 = 0 → (∃ r4 : Nat, m_fld h2 r_0 [0, 1, 4, 8, 9] 1 = some (.ref r4) ∧ (∃ y5 : Int64, m_ll h2 r4 x_1 = some y5 ∧ Q (some (.long y5)) h2))) ∧ (¬ (x3 = 0) → (∃ x6 : Int32, m_fld h2 r_0 [0, 1, 4, 8, 9] 0 = some (.int x6) ∧ Ev d (0, 0) MX5_still [.int x6] h2 (fun r7 h8 => ∃ y9 : Int64, r7 = some (.long y9) ∧ Q (some (.long y9)) h8))))))) : Wm (d + 1) (0, 0) JX1_turnAt 0 [some (.ref r_0), some (.int x_1)] [] h Q := by
  refine m_aload_n dX1_turnAt_0 rfl ?_
  refine m_iload_n dX1_turnAt_1 rfl ?_
  obtain ⟨c10, fs11, e, hc, hF⟩ := hF
  refine m_virtual (as := [.int x_1]) (rest := []) (cw_X1_65 _ hc) e dX1_turnAt_2 rfl rfl (Nat.le_of_ble_eq_true rfl) (Nat.le_of_eq (Nat.zero_add _)) (Nat.le_of_eq (Nat.zero_add _)) (b1 := (0, 0)) (b2 := (0, 0)) (Ev.mono hF ?_)
  intro r1 h2 hF
  obtain ⟨x3, rfl, hF⟩ := hF
  refine m_if_eq 18 dX1_turnAt_5 (by decide) (fun c => ?_) (fun c => ?_)
  · replace hF := hF.1 c
    refine m_aload_n dX1_turnAt_18 rfl ?_
    obtain ⟨r4, e, hF⟩ := hF
    refine m_get fg_X1_13 dX1_turnAt_19 e ?_
    refine m_iload_n dX1_turnAt_22 rfl ?_
    obtain ⟨y5, e, hF⟩ := hF
    refine m_lald dX1_turnAt_23 e ?_
    exact m_lreturn dX1_turnAt_24 trivial hF
  · replace hF := hF.2 c
    refine m_aload_n dX1_turnAt_8 rfl ?_
    obtain ⟨x6, e, hF⟩ := hF
    refine m_get fg_X1_7 dX1_turnAt_9 e ?_
    refine m_static (as := [.int x6]) (rest := []) cs_X1_69 dX1_turnAt_12 rfl rfl (Nat.le_of_ble_eq_true rfl) (Nat.le_of_eq (Nat.zero_add _)) (Nat.le_of_eq (Nat.zero_add _)) (b1 := (0, 0)) (b2 := (0, 0)) (Ev.mono hF ?_)
    intro r7 h8 hF
    obtain ⟨y9, rfl, hF⟩ := hF
    refine m_goto 24 dX1_turnAt_15 (by decide) ?_
    exact m_lreturn dX1_turnAt_24 trivial hF
theorem en_X1_turnAt {d : Nat} {r_0 : Nat} {x_1 : Int32} {h : mH} {K : Option Value → mH → Prop} (hk : Wm (d + 1) (0, 0) JX1_turnAt 0 [some (.ref r_0), some (.int x_1)] [] h (fun r h' => h'.1 0 = h.1 0 ∧ K r h')) : Ev (d + 1) (0, 0) MX1_turnAt [.ref r_0, .int x_1] h K :=
  m_met pn_X1 nl_X1 (fun _ => Nat.le_of_ble_eq_true rfl) hk
theorem bk_X1_noStep_0 {d : Nat} (r_0 : Nat) (x_1 : Int32) {h : mH} {Q : Option Value → mH → Prop} (hF : ((x_1 = 0 → Q (some (.int 1)) h) ∧ (¬ (x_1 = 0) → (∃ r1 : Nat, m_fld h r_0 [0, 1, 4, 8, 9] 1 = some (.ref r1) ∧ (∃ n2 : Nat, m_len h r1 = some n2 ∧ (((nI n2) < x_1 → Q (some (.int 1)) h) ∧ (¬ ((nI n2) < x_1) → (∃ r3 : Nat, m_fld h r_0 [0, 1, 4, 8, 9] 1 = some (.ref r3) ∧ (∃ n4 : Nat, m_len h r3 = some n4 ∧ (((-(nI n4)) ≤ x_1 → Q (some (.int 0)) h) ∧ (¬ ((-(nI n4)) ≤ x_1) → Q (some (.int 1)) h))))))))))) : Wm d (0, 0) JX1_noStep 0 [some (.ref r_0), some (.int x_1)] [] h Q := by
  refine m_iload_n dX1_noStep_0 rfl ?_
  refine m_if_eq 23 dX1_noStep_1 (by decide) (fun c => ?_) (fun c => ?_)
  · replace hF := hF.1 c
    refine m_iconst dX1_noStep_23 ki_1 ?_
    refine m_goto 28 dX1_noStep_24 (by decide) ?_
    exact m_ireturn dX1_noStep_28 (Or.inr rfl) hF
  · replace hF := hF.2 c
    refine m_iload_n dX1_noStep_4 rfl ?_
    refine m_aload_n dX1_noStep_5 rfl ?_
    obtain ⟨r1, e, hF⟩ := hF
    refine m_get fg_X1_13 dX1_noStep_6 e ?_
    obtain ⟨n2, e, hF⟩ := hF
    refine m_alen dX1_noStep_9 e ?_
    refine m_icmp_gt 23 dX1_noStep_10 (by decide) (fun c => ?_) (fun c => ?_)
    · replace hF := hF.1 c
      refine m_iconst dX1_noStep_23 ki_1 ?_
      refine m_goto 28 dX1_noStep_24 (by decide) ?_
      exact m_ireturn dX1_noStep_28 (Or.inr rfl) hF
    · replace hF := hF.2 c
      refine m_iload_n dX1_noStep_13 rfl ?_
      refine m_aload_n dX1_noStep_14 rfl ?_
      obtain ⟨r3, e, hF⟩ := hF
      refine m_get fg_X1_13 dX1_noStep_15 e ?_
      obtain ⟨n4, e, hF⟩ := hF
      refine m_alen dX1_noStep_18 e ?_
      refine m_ineg dX1_noStep_19 ?_
      refine m_icmp_ge 27 dX1_noStep_20 (by decide) (fun c => ?_) (fun c => ?_)
      · replace hF := hF.1 c
        refine m_iconst dX1_noStep_27 ki_0 ?_
        exact m_ireturn dX1_noStep_28 (Or.inl rfl) hF
      · replace hF := hF.2 c
        refine m_iconst dX1_noStep_23 ki_1 ?_
        refine m_goto 28 dX1_noStep_24 (by decide) ?_
        exact m_ireturn dX1_noStep_28 (Or.inr rfl) hF
theorem en_X1_noStep {d : Nat} {r_0 : Nat} {x_1 : Int32} {h : mH} {K : Option Value → mH → Prop} (hk : Wm d (0, 0) JX1_noStep 0 [some (.ref r_0), some (.int x_1)] [] h (fun r h' => h'.1 0 = h.1 0 ∧ K r h')) : Ev d (0, 0) MX1_noStep [.ref r_0, .int x_1] h K :=
  m_met pn_X1 nl_X1 (fun _ => Nat.le_of_ble_eq_true rfl) hk
theorem bk_X1_stepped_0 {d : Nat} (r_0 : Nat) (x_1 : Int32) (x_2 : Int32) {h : mH} {Q : Option Value → mH → Prop} (hF : ((x_1 ≤ 0 → (∃ (c11 : Nat) (fs12 : List Value), (h).1 r_0 = .inr (c11, fs12) ∧ c11 ∈ [0, 1, 4, 8, 9] ∧ Ev d (0, 0) MX1_turnAt [.ref r_0, .int ((-x_1) - 1)] h (fun r1 h2 => ∃ y3 : Int64, r1 = some (.long y3) ∧ (∃ x4 : Int32, m_fld h2 r_0 [0, 1, 4, 8, 9] 0 = some (.int x4) ∧ Ev d (0, 0) MX5_inverse [.long y3, .int x4] h2 (fun r5 h6 => ∃ y7 : Int64, r5 = some (.long y7) ∧ Ev d (0, 0) MX5_at [.long y7, .int x_2] h6 (fun r8 h9 => ∃ x10 : Int32, r8 = some (.int x10) ∧ Q (some (.int x10)) h9)))))) ∧ (¬ (x_1 ≤ 0) → (∃ (c19 : Nat) (fs20 : List Value), (h).1 r_0 = .inr (c19, fs20) ∧ c19 ∈ [0, 1, 4, 8, 9] ∧ Ev d (0, 0) MX1_turnAt [.ref r_0, .int (x_1 - 1)] h (fun r13 h14 => ∃ y15 : Int64, r13 = some (.long y15) ∧ Ev d (0, 0) MX5_at [.long y15, .int x_2] h14 (fun r16 h17 => ∃ x18 : Int32, r16 = some (.int x18) ∧ Q (some (.int x18)) h17)))))) : Wm (d + 1) (0, 0) JX1_stepped 0 [some (.ref r_0), some (.int x_1), some (.int x_2)] [] h Q := by
  refine m_iload_n dX1_stepped_0 rfl ?_
  refine m_if_le 16 dX1_stepped_1 (by decide) (fun c => ?_) (fun c => ?_)
  · replace hF := hF.1 c
    refine m_aload_n dX1_stepped_16 rfl ?_
    refine m_iload_n dX1_stepped_17 rfl ?_
    refine m_ineg dX1_stepped_18 ?_
    refine m_iconst dX1_stepped_19 ki_1 ?_
    refine m_isub dX1_stepped_20 ?_
    obtain ⟨c11, fs12, e, hc, hF⟩ := hF
    refine m_virtual (as := [.int ((-x_1) - 1)]) (rest := []) (cw_X1_72 _ hc) e dX1_stepped_21 rfl rfl (Nat.le_of_ble_eq_true rfl) (Nat.le_of_eq (Nat.zero_add _)) (Nat.le_of_eq (Nat.zero_add _)) (b1 := (0, 0)) (b2 := (0, 0)) (Ev.mono hF ?_)
    intro r1 h2 hF
    obtain ⟨y3, rfl, hF⟩ := hF
    refine m_aload_n dX1_stepped_24 rfl ?_
    obtain ⟨x4, e, hF⟩ := hF
    refine m_get fg_X1_7 dX1_stepped_25 e ?_
    refine m_static (as := [.long y3, .int x4]) (rest := []) cs_X1_78 dX1_stepped_28 rfl rfl (Nat.le_of_ble_eq_true rfl) (Nat.le_of_eq (Nat.zero_add _)) (Nat.le_of_eq (Nat.zero_add _)) (b1 := (0, 0)) (b2 := (0, 0)) (Ev.mono hF ?_)
    intro r5 h6 hF
    obtain ⟨y7, rfl, hF⟩ := hF
    refine m_iload_n dX1_stepped_31 rfl ?_
    refine m_static (as := [.long y7, .int x_2]) (rest := []) cs_X1_75 dX1_stepped_32 rfl rfl (Nat.le_of_ble_eq_true rfl) (Nat.le_of_eq (Nat.zero_add _)) (Nat.le_of_eq (Nat.zero_add _)) (b1 := (0, 0)) (b2 := (0, 0)) (Ev.mono hF ?_)
    intro r8 h9 hF
    obtain ⟨x10, rfl, hF⟩ := hF
    exact m_ireturn dX1_stepped_35 trivial hF
  · replace hF := hF.2 c
    refine m_aload_n dX1_stepped_4 rfl ?_
    refine m_iload_n dX1_stepped_5 rfl ?_
    refine m_iconst dX1_stepped_6 ki_1 ?_
    refine m_isub dX1_stepped_7 ?_
    obtain ⟨c19, fs20, e, hc, hF⟩ := hF
    refine m_virtual (as := [.int (x_1 - 1)]) (rest := []) (cw_X1_72 _ hc) e dX1_stepped_8 rfl rfl (Nat.le_of_ble_eq_true rfl) (Nat.le_of_eq (Nat.zero_add _)) (Nat.le_of_eq (Nat.zero_add _)) (b1 := (0, 0)) (b2 := (0, 0)) (Ev.mono hF ?_)
    intro r13 h14 hF
    obtain ⟨y15, rfl, hF⟩ := hF
    refine m_iload_n dX1_stepped_11 rfl ?_
    refine m_static (as := [.long y15, .int x_2]) (rest := []) cs_X1_75 dX1_stepped_12 rfl rfl (Nat.le_of_ble_eq_true rfl) (Nat.le_of_eq (Nat.zero_add _)) (Nat.le_of_eq (Nat.zero_add _)) (b1 := (0, 0)) (b2 := (0, 0)) (Ev.mono hF ?_)
    intro r16 h17 hF
    obtain ⟨x18, rfl, hF⟩ := hF
    exact m_ireturn dX1_stepped_15 trivial hF
theorem en_X1_stepped {d : Nat} {r_0 : Nat} {x_1 : Int32} {x_2 : Int32} {h : mH} {K : Option Value → mH → Prop} (hk : Wm (d + 1) (0, 0) JX1_stepped 0 [some (.ref r_0), some (.int x_1), some (.int x_2)] [] h (fun r h' => h'.1 0 = h.1 0 ∧ K r h')) : Ev (d + 1) (0, 0) MX1_stepped [.ref r_0, .int x_1, .int x_2] h K :=
  m_met pn_X1 nl_X1 (fun _ => Nat.le_of_ble_eq_true rfl) hk
theorem bk_X1_rounds_0 {d : Nat} (r_0 : Nat) (x_1 : Int32) {h : mH} {Q : Option Value → mH → Prop} (hF : (∃ (c11 : Nat) (fs12 : List Value), (h).1 r_0 = .inr (c11, fs12) ∧ c11 ∈ [0, 1, 4, 8, 9] ∧ Ev d (0, 0) MX1_turnAt [.ref r_0, .int x_1] h (fun r1 h2 => ∃ y3 : Int64, r1 = some (.long y3) ∧ (∃ x4 : Int32, m_fld h2 r_0 [0, 1, 4, 8, 9] 0 = some (.int x4) ∧ Ev d (0, 0) MX8_lengthsOf [.long y3, .int x4] h2 (fun r5 h6 => ∃ y7 : Int64, r5 = some (.long y7) ∧ Ev d (0, 0) MX8_total [.long y7] h6 (fun r8 h9 => ∃ x10 : Int32, r8 = some (.int x10) ∧ Q (some (.int x10)) h9)))))) : Wm (d + 1) (0, 0) JX1_rounds 0 [some (.ref r_0), some (.int x_1)] [] h Q := by
  refine m_aload_n dX1_rounds_0 rfl ?_
  refine m_iload_n dX1_rounds_1 rfl ?_
  obtain ⟨c11, fs12, e, hc, hF⟩ := hF
  refine m_virtual (as := [.int x_1]) (rest := []) (cw_X1_72 _ hc) e dX1_rounds_2 rfl rfl (Nat.le_of_ble_eq_true rfl) (Nat.le_of_eq (Nat.zero_add _)) (Nat.le_of_eq (Nat.zero_add _)) (b1 := (0, 0)) (b2 := (0, 0)) (Ev.mono hF ?_)
  intro r1 h2 hF
  obtain ⟨y3, rfl, hF⟩ := hF
  refine m_aload_n dX1_rounds_5 rfl ?_
  obtain ⟨x4, e, hF⟩ := hF
  refine m_get fg_X1_7 dX1_rounds_6 e ?_
  refine m_static (as := [.long y3, .int x4]) (rest := []) cs_X1_46 dX1_rounds_9 rfl rfl (Nat.le_of_ble_eq_true rfl) (Nat.le_of_eq (Nat.zero_add _)) (Nat.le_of_eq (Nat.zero_add _)) (b1 := (0, 0)) (b2 := (0, 0)) (Ev.mono hF ?_)
  intro r5 h6 hF
  obtain ⟨y7, rfl, hF⟩ := hF
  refine m_static (as := [.long y7]) (rest := []) cs_X1_81 dX1_rounds_12 rfl rfl (Nat.le_of_ble_eq_true rfl) (Nat.le_of_eq (Nat.zero_add _)) (Nat.le_of_eq (Nat.zero_add _)) (b1 := (0, 0)) (b2 := (0, 0)) (Ev.mono hF ?_)
  intro r8 h9 hF
  obtain ⟨x10, rfl, hF⟩ := hF
  exact m_ireturn dX1_rounds_15 trivial hF
theorem en_X1_rounds {d : Nat} {r_0 : Nat} {x_1 : Int32} {h : mH} {K : Option Value → mH → Prop} (hk : Wm (d + 1) (0, 0) JX1_rounds 0 [some (.ref r_0), some (.int x_1)] [] h (fun r h' => h'.1 0 = h.1 0 ∧ K r h')) : Ev (d + 1) (0, 0) MX1_rounds [.ref r_0, .int x_1] h K :=
  m_met pn_X1 nl_X1 (fun _ => Nat.le_of_ble_eq_true rfl) hk
theorem bk_X1_whole_0 {d : Nat} (r_0 : Nat) {h : mH} {Q : Option Value → mH → Prop} (hF : (∃ x1 : Int32, m_fld h r_0 [0, 1, 4, 8, 9] 2 = some (.int x1) ∧ ((¬ x1 = 1 → Q (some (.int 0)) h) ∧ (x1 = 1 → Q (some (.int 1)) h)))) : Wm d (0, 0) JX1_whole 0 [some (.ref r_0)] [] h Q := by
  refine m_aload_n dX1_whole_0 rfl ?_
  obtain ⟨x1, e, hF⟩ := hF
  refine m_get fg_X1_17 dX1_whole_1 e ?_
  refine m_iconst dX1_whole_4 ki_1 ?_
  refine m_icmp_ne 12 dX1_whole_5 (by decide) (fun c => ?_) (fun c => ?_)
  · replace hF := hF.1 c
    refine m_iconst dX1_whole_12 ki_0 ?_
    exact m_ireturn dX1_whole_13 (Or.inl rfl) hF
  · replace hF := hF.2 c
    refine m_iconst dX1_whole_8 ki_1 ?_
    refine m_goto 13 dX1_whole_9 (by decide) ?_
    exact m_ireturn dX1_whole_13 (Or.inr rfl) hF
theorem en_X1_whole {d : Nat} {r_0 : Nat} {h : mH} {K : Option Value → mH → Prop} (hk : Wm d (0, 0) JX1_whole 0 [some (.ref r_0)] [] h (fun r h' => h'.1 0 = h.1 0 ∧ K r h')) : Ev d (0, 0) MX1_whole [.ref r_0] h K :=
  m_met pn_X1 nl_X1 (fun _ => Nat.le_of_ble_eq_true rfl) hk
theorem bk_X1_holes_0 {d : Nat} (r_0 : Nat) {h : mH} {Q : Option Value → mH → Prop} (hF : (∃ x1 : Int32, m_fld h r_0 [0, 1, 4, 8, 9] 0 = some (.int x1) ∧ Wm (d + 1) (0, 0) JX1_holes 11 [some (.ref r_0), some (.int (2 - (2 * x1))), some (.int 0)] [] h Q)) : Wm (d + 1) (0, 0) JX1_holes 0 [some (.ref r_0), none, none] [] h Q := by
  refine m_iconst dX1_holes_0 ki_2 ?_
  refine m_iconst dX1_holes_1 ki_2 ?_
  refine m_aload_n dX1_holes_2 rfl ?_
  obtain ⟨x1, e, hF⟩ := hF
  refine m_get fg_X1_7 dX1_holes_3 e ?_
  refine m_imul dX1_holes_6 ?_
  refine m_isub dX1_holes_7 ?_
  refine m_istore_n (ls2 := [some (.ref r_0), some (.int (2 - (2 * x1))), none]) dX1_holes_8 (by decide) rfl ?_
  refine m_iconst dX1_holes_9 ki_0 ?_
  refine m_istore_n (ls2 := [some (.ref r_0), some (.int (2 - (2 * x1))), some (.int 0)]) dX1_holes_10 (by decide) rfl ?_
  exact hF
theorem bk_X1_holes_11 {d : Nat} (r_0 : Nat) (x_1 : Int32) (x_2 : Int32) {h : mH} {Q : Option Value → mH → Prop} (hF : (∃ r1 : Nat, m_fld h r_0 [0, 1, 4, 8, 9] 1 = some (.ref r1) ∧ (∃ n2 : Nat, m_len h r1 = some n2 ∧ (((nI n2) ≤ x_2 → Q (some (.int (x_1 / 2))) h) ∧ (¬ ((nI n2) ≤ x_2) → (∃ x3 : Int32, m_fld h r_0 [0, 1, 4, 8, 9] 0 = some (.int x3) ∧ (∃ (c7 : Nat) (fs8 : List Value), (h).1 r_0 = .inr (c7, fs8) ∧ c7 ∈ [0, 1, 4, 8, 9] ∧ Ev d (0, 0) MX1_rounds [.ref r_0, .int x_2] h (fun r4 h5 => ∃ x6 : Int32, r4 = some (.int x6) ∧ Wm (d + 1) (0, 0) JX1_holes 11 [some (.ref r_0), some (.int (x_1 + (x3 - x6))), some (.int (x_2 + 1))] [] h5 Q)))))))) : Wm (d + 1) (0, 0) JX1_holes 11 [some (.ref r_0), some (.int x_1), some (.int x_2)] [] h Q := by
  refine m_iload_n dX1_holes_11 rfl ?_
  refine m_aload_n dX1_holes_12 rfl ?_
  obtain ⟨r1, e, hF⟩ := hF
  refine m_get fg_X1_13 dX1_holes_13 e ?_
  obtain ⟨n2, e, hF⟩ := hF
  refine m_alen dX1_holes_16 e ?_
  refine m_icmp_ge 39 dX1_holes_17 (by decide) (fun c => ?_) (fun c => ?_)
  · replace hF := hF.1 c
    refine m_iload_n dX1_holes_39 rfl ?_
    refine m_iconst dX1_holes_40 ki_2 ?_
    refine m_idiv dX1_holes_41 (by decide) ?_
    exact m_ireturn dX1_holes_42 trivial hF
  · replace hF := hF.2 c
    refine m_iload_n dX1_holes_20 rfl ?_
    refine m_aload_n dX1_holes_21 rfl ?_
    obtain ⟨x3, e, hF⟩ := hF
    refine m_get fg_X1_7 dX1_holes_22 e ?_
    refine m_aload_n dX1_holes_25 rfl ?_
    refine m_iload_n dX1_holes_26 rfl ?_
    obtain ⟨c7, fs8, e, hc, hF⟩ := hF
    refine m_virtual (as := [.int x_2]) (rest := [.int x3, .int x_1]) (cw_X1_85 _ hc) e dX1_holes_27 rfl rfl (Nat.le_of_ble_eq_true rfl) (Nat.le_of_eq (Nat.zero_add _)) (Nat.le_of_eq (Nat.zero_add _)) (b1 := (0, 0)) (b2 := (0, 0)) (Ev.mono hF ?_)
    intro r4 h5 hF
    obtain ⟨x6, rfl, hF⟩ := hF
    refine m_isub dX1_holes_30 ?_
    refine m_iadd dX1_holes_31 ?_
    refine m_istore_n (ls2 := [some (.ref r_0), some (.int (x_1 + (x3 - x6))), some (.int x_2)]) dX1_holes_32 (by decide) rfl ?_
    refine m_iinc (v := x_2 + 1) (ls2 := [some (.ref r_0), some (.int (x_1 + (x3 - x6))), some (.int (x_2 + 1))]) dX1_holes_33 (by decide) rfl (congrArg (_ + ·) ki_1) rfl ?_
    refine m_goto 11 dX1_holes_36 (by decide) ?_
    exact hF
theorem en_X1_holes {d : Nat} {r_0 : Nat} {h : mH} {K : Option Value → mH → Prop} (hk : Wm (d + 1) (0, 0) JX1_holes 0 [some (.ref r_0), none, none] [] h (fun r h' => h'.1 0 = h.1 0 ∧ K r h')) : Ev (d + 1) (0, 0) MX1_holes [.ref r_0] h K :=
  m_met pn_X1 nl_X1 (fun _ => Nat.le_of_ble_eq_true rfl) hk
theorem bk_X1_blockLabels_0 {d : Nat} (r_0 : Nat) (x_1 : Int32) (x_2 : Int32) {h : mH} {Q : Option Value → mH → Prop} (hF : (∃ x1 : Int32, m_fld h r_0 [0, 1, 4, 8, 9] 0 = some (.int x1) ∧ Ev d (0, 0) MX5_still [.int x1] h (fun r2 h3 => ∃ y4 : Int64, r2 = some (.long y4) ∧ (∃ x5 : Int32, m_fld h3 r_0 [0, 1, 4, 8, 9] 0 = some (.int x5) ∧ Ev d (0, 0) MX5_merged [.long y4, .int x_1, .int x_2, .int x5] h3 (fun r6 h7 => ∃ y8 : Int64, r6 = some (.long y8) ∧ Wm (d + 1) (0, 0) JX1_blockLabels 20 [some (.ref r_0), none, none, some (.long y8), none, some (.int 0), none, none, none] [] h7 Q))))) : Wm (d + 1) (0, 0) JX1_blockLabels 0 [some (.ref r_0), some (.int x_1), some (.int x_2), none, none, none, none, none, none] [] h Q := by
  refine m_aload_n dX1_blockLabels_0 rfl ?_
  obtain ⟨x1, e, hF⟩ := hF
  refine m_get fg_X1_7 dX1_blockLabels_1 e ?_
  refine m_static (as := [.int x1]) (rest := []) cs_X1_69 dX1_blockLabels_4 rfl rfl (Nat.le_of_ble_eq_true rfl) (Nat.le_of_eq (Nat.zero_add _)) (Nat.le_of_eq (Nat.zero_add _)) (b1 := (0, 0)) (b2 := (0, 0)) (Ev.mono hF ?_)
  intro r2 h3 hF
  obtain ⟨y4, rfl, hF⟩ := hF
  refine m_iload_n dX1_blockLabels_7 rfl ?_
  refine m_iload_n dX1_blockLabels_8 rfl ?_
  refine m_aload_n dX1_blockLabels_9 rfl ?_
  obtain ⟨x5, e, hF⟩ := hF
  refine m_get fg_X1_7 dX1_blockLabels_10 e ?_
  refine m_static (as := [.long y4, .int x_1, .int x_2, .int x5]) (rest := []) cs_X1_89 dX1_blockLabels_13 rfl rfl (Nat.le_of_ble_eq_true rfl) (Nat.le_of_eq (Nat.zero_add _)) (Nat.le_of_eq (Nat.zero_add _)) (b1 := (0, 0)) (b2 := (0, 0)) (Ev.mono hF ?_)
  intro r6 h7 hF
  obtain ⟨y8, rfl, hF⟩ := hF
  refine m_lstore_n (ls2 := [some (.ref r_0), some (.int x_1), some (.int x_2), some (.long y8), none, none, none, none, none]) dX1_blockLabels_16 (by decide) rfl ?_
  refine m_iconst dX1_blockLabels_17 ki_0 ?_
  refine m_istore (ls2 := [some (.ref r_0), some (.int x_1), some (.int x_2), some (.long y8), none, some (.int 0), none, none, none]) dX1_blockLabels_18 (by decide) rfl ?_
  refine m_wk [1, 2] rfl ?_
  exact hF
theorem bk_X1_blockLabels_20 {d : Nat} (r_0 : Nat) (y_3 : Int64) (x_5 : Int32) {h : mH} {Q : Option Value → mH → Prop} (hF : (∃ x1 : Int32, m_fld h r_0 [0, 1, 4, 8, 9] 0 = some (.int x1) ∧ ((x1 ≤ x_5 → Q (some (.long y_3)) h) ∧ (¬ (x1 ≤ x_5) → Wm (d + 1) (0, 0) JX1_blockLabels 35 [some (.ref r_0), none, none, some (.long y_3), none, some (.int x_5), some (.long y_3), none, some (.int 0)] [] h Q)))) : Wm (d + 1) (0, 0) JX1_blockLabels 20 [some (.ref r_0), none, none, some (.long y_3), none, some (.int x_5), none, none, none] [] h Q := by
  refine m_iload dX1_blockLabels_20 rfl ?_
  refine m_aload_n dX1_blockLabels_22 rfl ?_
  obtain ⟨x1, e, hF⟩ := hF
  refine m_get fg_X1_7 dX1_blockLabels_23 e ?_
  refine m_icmp_ge 98 dX1_blockLabels_26 (by decide) (fun c => ?_) (fun c => ?_)
  · replace hF := hF.1 c
    refine m_lload_n dX1_blockLabels_98 rfl ?_
    exact m_lreturn dX1_blockLabels_99 trivial hF
  · replace hF := hF.2 c
    refine m_lload_n dX1_blockLabels_29 rfl ?_
    refine m_lstore (ls2 := [some (.ref r_0), none, none, some (.long y_3), none, some (.int x_5), some (.long y_3), none, none]) dX1_blockLabels_30 (by decide) rfl ?_
    refine m_iconst dX1_blockLabels_32 ki_0 ?_
    refine m_istore (ls2 := [some (.ref r_0), none, none, some (.long y_3), none, some (.int x_5), some (.long y_3), none, some (.int 0)]) dX1_blockLabels_33 (by decide) rfl ?_
    exact hF
theorem bk_X1_blockLabels_35 {d : Nat} (r_0 : Nat) (y_3 : Int64) (x_5 : Int32) (y_6 : Int64) (x_8 : Int32) {h : mH} {Q : Option Value → mH → Prop} (hF : (∃ r1 : Nat, m_fld h r_0 [0, 1, 4, 8, 9] 1 = some (.ref r1) ∧ (∃ n2 : Nat, m_len h r1 = some n2 ∧ (((nI n2) ≤ x_8 → ((¬ (lg_cmp y_3 y_6) = 0 → Wm (d + 1) (0, 0) JX1_blockLabels 20 [some (.ref r_0), none, none, some (.long y_3), none, some (.int (x_5 + 1)), none, none, none] [] h Q) ∧ ((lg_cmp y_3 y_6) = 0 → Q (some (.long y_3)) h))) ∧ (¬ ((nI n2) ≤ x_8) → (∃ r3 : Nat, m_fld h r_0 [0, 1, 4, 8, 9] 1 = some (.ref r3) ∧ (∃ y4 : Int64, m_ll h r3 x_8 = some y4 ∧ (∃ r5 : Nat, m_fld h r_0 [0, 1, 4, 8, 9] 1 = some (.ref r5) ∧ (∃ y6 : Int64, m_ll h r5 x_8 = some y6 ∧ (∃ x7 : Int32, m_fld h r_0 [0, 1, 4, 8, 9] 0 = some (.int x7) ∧ Ev d (0, 0) MX5_behind [.long y_3, .long y6, .int x7] h (fun r8 h9 => ∃ y10 : Int64, r8 = some (.long y10) ∧ (∃ x11 : Int32, m_fld h9 r_0 [0, 1, 4, 8, 9] 0 = some (.int x11) ∧ Ev d (0, 0) MX5_mergedAlong [.long y_3, .long y4, .long y10, .int x11] h9 (fun r12 h13 => ∃ y14 : Int64, r12 = some (.long y14) ∧ Wm (d + 1) (0, 0) JX1_blockLabels 35 [some (.ref r_0), none, none, some (.long y14), none, some (.int x_5), some (.long y_6), none, some (.int (x_8 + 1))] [] h13 Q))))))))))))) : Wm (d + 1) (0, 0) JX1_blockLabels 35 [some (.ref r_0), none, none, some (.long y_3), none, some (.int x_5), some (.long y_6), none, some (.int x_8)] [] h Q := by
  refine m_iload dX1_blockLabels_35 rfl ?_
  refine m_aload_n dX1_blockLabels_37 rfl ?_
  obtain ⟨r1, e, hF⟩ := hF
  refine m_get fg_X1_13 dX1_blockLabels_38 e ?_
  obtain ⟨n2, e, hF⟩ := hF
  refine m_alen dX1_blockLabels_41 e ?_
  refine m_icmp_ge 82 dX1_blockLabels_42 (by decide) (fun c => ?_) (fun c => ?_)
  · replace hF := hF.1 c
    refine m_lload_n dX1_blockLabels_82 rfl ?_
    refine m_lload dX1_blockLabels_83 rfl ?_
    refine m_lcmp dX1_blockLabels_85 ?_
    refine m_if_ne 92 dX1_blockLabels_86 (by decide) (fun c => ?_) (fun c => ?_)
    · replace hF := hF.1 c
      refine m_iinc (v := x_5 + 1) (ls2 := [some (.ref r_0), none, none, some (.long y_3), none, some (.int (x_5 + 1)), some (.long y_6), none, some (.int x_8)]) dX1_blockLabels_92 (by decide) rfl (congrArg (_ + ·) ki_1) rfl ?_
      refine m_goto 20 dX1_blockLabels_95 (by decide) ?_
      refine m_wk [6, 8] rfl ?_
      exact hF
    · replace hF := hF.2 c
      refine m_goto 98 dX1_blockLabels_89 (by decide) ?_
      refine m_lload_n dX1_blockLabels_98 rfl ?_
      exact m_lreturn dX1_blockLabels_99 trivial hF
  · replace hF := hF.2 c
    refine m_lload_n dX1_blockLabels_45 rfl ?_
    refine m_aload_n dX1_blockLabels_46 rfl ?_
    obtain ⟨r3, e, hF⟩ := hF
    refine m_get fg_X1_13 dX1_blockLabels_47 e ?_
    refine m_iload dX1_blockLabels_50 rfl ?_
    obtain ⟨y4, e, hF⟩ := hF
    refine m_lald dX1_blockLabels_52 e ?_
    refine m_lload_n dX1_blockLabels_53 rfl ?_
    refine m_aload_n dX1_blockLabels_54 rfl ?_
    obtain ⟨r5, e, hF⟩ := hF
    refine m_get fg_X1_13 dX1_blockLabels_55 e ?_
    refine m_iload dX1_blockLabels_58 rfl ?_
    obtain ⟨y6, e, hF⟩ := hF
    refine m_lald dX1_blockLabels_60 e ?_
    refine m_aload_n dX1_blockLabels_61 rfl ?_
    obtain ⟨x7, e, hF⟩ := hF
    refine m_get fg_X1_7 dX1_blockLabels_62 e ?_
    refine m_static (as := [.long y_3, .long y6, .int x7]) (rest := [.long y4, .long y_3]) cs_X1_93 dX1_blockLabels_65 rfl rfl (Nat.le_of_ble_eq_true rfl) (Nat.le_of_eq (Nat.zero_add _)) (Nat.le_of_eq (Nat.zero_add _)) (b1 := (0, 0)) (b2 := (0, 0)) (Ev.mono hF ?_)
    intro r8 h9 hF
    obtain ⟨y10, rfl, hF⟩ := hF
    refine m_aload_n dX1_blockLabels_68 rfl ?_
    obtain ⟨x11, e, hF⟩ := hF
    refine m_get fg_X1_7 dX1_blockLabels_69 e ?_
    refine m_static (as := [.long y_3, .long y4, .long y10, .int x11]) (rest := []) cs_X1_97 dX1_blockLabels_72 rfl rfl (Nat.le_of_ble_eq_true rfl) (Nat.le_of_eq (Nat.zero_add _)) (Nat.le_of_eq (Nat.zero_add _)) (b1 := (0, 0)) (b2 := (0, 0)) (Ev.mono hF ?_)
    intro r12 h13 hF
    obtain ⟨y14, rfl, hF⟩ := hF
    refine m_lstore_n (ls2 := [some (.ref r_0), none, none, some (.long y14), none, some (.int x_5), some (.long y_6), none, some (.int x_8)]) dX1_blockLabels_75 (by decide) rfl ?_
    refine m_iinc (v := x_8 + 1) (ls2 := [some (.ref r_0), none, none, some (.long y14), none, some (.int x_5), some (.long y_6), none, some (.int (x_8 + 1))]) dX1_blockLabels_76 (by decide) rfl (congrArg (_ + ·) ki_1) rfl ?_
    refine m_goto 35 dX1_blockLabels_79 (by decide) ?_
    exact hF
theorem en_X1_blockLabels {d : Nat} {r_0 : Nat} {x_1 : Int32} {x_2 : Int32} {h : mH} {K : Option Value → mH → Prop} (hk : Wm (d + 1) (0, 0) JX1_blockLabels 0 [some (.ref r_0), some (.int x_1), some (.int x_2), none, none, none, none, none, none] [] h (fun r h' => h'.1 0 = h.1 0 ∧ K r h')) : Ev (d + 1) (0, 0) MX1_blockLabels [.ref r_0, .int x_1, .int x_2] h K :=
  m_met pn_X1 nl_X1 (fun _ => Nat.le_of_ble_eq_true rfl) hk
theorem bk_X1_partAlone_0 {d : Nat} {b : Nat × Nat} (r_0 : Nat) (x_1 : Int32) {h : mH} {Q : Option Value → mH → Prop} (hF : (∃ r1 : Nat, m_fld h r_0 [0, 1, 4, 8, 9] 1 = some (.ref r1) ∧ (∃ x2 : Int32, m_fld h r_0 [0, 1, 4, 8, 9] 0 = some (.int x2) ∧ Ev d (0, 0) MX5_ledTogether [.ref r1, .int x2] h (fun r3 h4 => ∃ y5 : Int64, r3 = some (.long y5) ∧ Wm (d + 1) b JX1_partAlone 18 [some (.ref r_0), some (.int x_1), some (.long y5), none, some (.int 0), some (.int 0)] [] h4 Q)))) : Wm (d + 1) b JX1_partAlone 0 [some (.ref r_0), some (.int x_1), none, none, none, none] [] h Q := by
  refine m_aload_n dX1_partAlone_0 rfl ?_
  obtain ⟨r1, e, hF⟩ := hF
  refine m_get fg_X1_13 dX1_partAlone_1 e ?_
  refine m_aload_n dX1_partAlone_4 rfl ?_
  obtain ⟨x2, e, hF⟩ := hF
  refine m_get fg_X1_7 dX1_partAlone_5 e ?_
  refine m_static (as := [.ref r1, .int x2]) (rest := []) cs_X1_20 dX1_partAlone_8 rfl rfl (Nat.le_of_ble_eq_true rfl) (Nat.le_of_eq (Nat.zero_add _)) (Nat.le_of_eq (Nat.zero_add _)) (b1 := (0, 0)) (b2 := b) (Ev.mono hF ?_)
  intro r3 h4 hF
  obtain ⟨y5, rfl, hF⟩ := hF
  refine m_lstore_n (ls2 := [some (.ref r_0), some (.int x_1), some (.long y5), none, none, none]) dX1_partAlone_11 (by decide) rfl ?_
  refine m_iconst dX1_partAlone_12 ki_0 ?_
  refine m_istore (ls2 := [some (.ref r_0), some (.int x_1), some (.long y5), none, some (.int 0), none]) dX1_partAlone_13 (by decide) rfl ?_
  refine m_iconst dX1_partAlone_15 ki_0 ?_
  refine m_istore (ls2 := [some (.ref r_0), some (.int x_1), some (.long y5), none, some (.int 0), some (.int 0)]) dX1_partAlone_16 (by decide) rfl ?_
  exact hF
theorem bk_X1_partAlone_18 {d : Nat} {b : Nat × Nat} (r_0 : Nat) (x_1 : Int32) (y_2 : Int64) (x_4 : Int32) (x_5 : Int32) {h : mH} {Q : Option Value → mH → Prop} (hF : (∃ x1 : Int32, m_fld h r_0 [0, 1, 4, 8, 9] 0 = some (.int x1) ∧ ((x1 ≤ x_5 → Ev d (0, 0) MJ6_bitCount_0f7a4 [.int x_4] h (fun r2 h3 => ∃ x4 : Int32, r2 = some (.int x4) ∧ (∃ x5 : Int32, m_fld h3 r_0 [0, 1, 4, 8, 9] 0 = some (.int x5) ∧ Ev d (0, 0) MX5_still [.int x5] h3 (fun r6 h7 => ∃ y8 : Int64, r6 = some (.long y8) ∧ (∃ b12 : Nat × Nat, b12.1 ≤ b.1 ∧ b12.2 ≤ b.2 ∧ (∃ (c17 : Nat) (fs18 : List Value), (h7).1 r_0 = .inr (c17, fs18) ∧ c17 ∈ [0, 1, 4, 8, 9] ∧ Ev d b12 MX1_narrowed [.ref r_0, .int x_4, .long y8] h7 (fun r9 h10 => ∃ q11 : Nat, r9 = some (.ref q11) ∧ (∃ b16 : Nat × Nat, b16.1 ≤ b.1 - b12.1 ∧ b16.2 ≤ b.2 - b12.2 ∧ Ev d b16 MX1_of [.int x4, .ref q11] h10 (fun r13 h14 => ∃ q15 : Nat, r13 = some (.ref q15) ∧ Q (some (.ref q15)) h14))))))))) ∧ (¬ (x1 ≤ x_5) → Ev d (0, 0) MX5_at [.long y_2, .int x_5] h (fun r19 h20 => ∃ x21 : Int32, r19 = some (.int x21) ∧ Ev d (0, 0) MX5_groups [.long y_2, .int x21] h20 (fun r22 h23 => ∃ x24 : Int32, r22 = some (.int x24) ∧ ((¬ x24 = x_1 → Wm (d + 1) b JX1_partAlone 18 [some (.ref r_0), some (.int x_1), some (.long y_2), none, some (.int x_4), some (.int (x_5 + 1))] [] h23 Q) ∧ (x24 = x_1 → Wm (d + 1) b JX1_partAlone 18 [some (.ref r_0), some (.int x_1), some (.long y_2), none, some (.int (x_4 ||| (1 <<< (x_5 &&& 31)))), some (.int (x_5 + 1))] [] h23 Q)))))))) : Wm (d + 1) b JX1_partAlone 18 [some (.ref r_0), some (.int x_1), some (.long y_2), none, some (.int x_4), some (.int x_5)] [] h Q := by
  refine m_iload dX1_partAlone_18 rfl ?_
  refine m_aload_n dX1_partAlone_20 rfl ?_
  obtain ⟨x1, e, hF⟩ := hF
  refine m_get fg_X1_7 dX1_partAlone_21 e ?_
  refine m_icmp_ge 56 dX1_partAlone_24 (by decide) (fun c => ?_) (fun c => ?_)
  · replace hF := hF.1 c
    refine m_iload dX1_partAlone_56 rfl ?_
    refine m_static (as := [.int x_4]) (rest := []) cs_X1_101 dX1_partAlone_58 rfl rfl (Nat.le_of_ble_eq_true rfl) (Nat.le_of_eq (Nat.zero_add _)) (Nat.le_of_eq (Nat.zero_add _)) (b1 := (0, 0)) (b2 := b) (Ev.mono hF ?_)
    intro r2 h3 hF
    obtain ⟨x4, rfl, hF⟩ := hF
    refine m_aload_n dX1_partAlone_61 rfl ?_
    refine m_iload dX1_partAlone_62 rfl ?_
    refine m_aload_n dX1_partAlone_64 rfl ?_
    obtain ⟨x5, e, hF⟩ := hF
    refine m_get fg_X1_7 dX1_partAlone_65 e ?_
    refine m_static (as := [.int x5]) (rest := [.int x_4, .ref r_0, .int x4]) cs_X1_69 dX1_partAlone_68 rfl rfl (Nat.le_of_ble_eq_true rfl) (Nat.le_of_eq (Nat.zero_add _)) (Nat.le_of_eq (Nat.zero_add _)) (b1 := (0, 0)) (b2 := b) (Ev.mono hF ?_)
    intro r6 h7 hF
    obtain ⟨y8, rfl, hF⟩ := hF
    obtain ⟨b12, g1, g2, hF⟩ := hF
    obtain ⟨c17, fs18, e, hc, hF⟩ := hF
    refine m_virtual (as := [.int x_4, .long y8]) (rest := [.int x4]) (cw_X1_106 _ hc) e dX1_partAlone_71 rfl rfl (Nat.le_of_ble_eq_true rfl) (Nat.le_of_eq (Nat.add_sub_cancel' g1)) (Nat.le_of_eq (Nat.add_sub_cancel' g2)) (b1 := b12) (b2 := (b.1 - b12.1, b.2 - b12.2)) (Ev.mono hF ?_)
    intro r9 h10 hF
    obtain ⟨q11, rfl, hF⟩ := hF
    obtain ⟨b16, g1, g2, hF⟩ := hF
    refine m_static (as := [.int x4, .ref q11]) (rest := []) cs_X1_110 dX1_partAlone_74 rfl rfl (Nat.le_of_ble_eq_true rfl) (Nat.le_of_eq (Nat.add_sub_cancel' g1)) (Nat.le_of_eq (Nat.add_sub_cancel' g2)) (b1 := b16) (b2 := (b.1 - b12.1 - b16.1, b.2 - b12.2 - b16.2)) (Ev.mono hF ?_)
    intro r13 h14 hF
    obtain ⟨q15, rfl, hF⟩ := hF
    exact m_areturn dX1_partAlone_77 trivial hF
  · replace hF := hF.2 c
    refine m_lload_n dX1_partAlone_27 rfl ?_
    refine m_lload_n dX1_partAlone_28 rfl ?_
    refine m_iload dX1_partAlone_29 rfl ?_
    refine m_static (as := [.long y_2, .int x_5]) (rest := [.long y_2]) cs_X1_75 dX1_partAlone_31 rfl rfl (Nat.le_of_ble_eq_true rfl) (Nat.le_of_eq (Nat.zero_add _)) (Nat.le_of_eq (Nat.zero_add _)) (b1 := (0, 0)) (b2 := b) (Ev.mono hF ?_)
    intro r19 h20 hF
    obtain ⟨x21, rfl, hF⟩ := hF
    refine m_static (as := [.long y_2, .int x21]) (rest := []) cs_X1_26 dX1_partAlone_34 rfl rfl (Nat.le_of_ble_eq_true rfl) (Nat.le_of_eq (Nat.zero_add _)) (Nat.le_of_eq (Nat.zero_add _)) (b1 := (0, 0)) (b2 := b) (Ev.mono hF ?_)
    intro r22 h23 hF
    obtain ⟨x24, rfl, hF⟩ := hF
    refine m_iload_n dX1_partAlone_37 rfl ?_
    refine m_icmp_ne 50 dX1_partAlone_38 (by decide) (fun c => ?_) (fun c => ?_)
    · replace hF := hF.1 c
      refine m_iinc (v := x_5 + 1) (ls2 := [some (.ref r_0), some (.int x_1), some (.long y_2), none, some (.int x_4), some (.int (x_5 + 1))]) dX1_partAlone_50 (by decide) rfl (congrArg (_ + ·) ki_1) rfl ?_
      refine m_goto 18 dX1_partAlone_53 (by decide) ?_
      exact hF
    · replace hF := hF.2 c
      refine m_iload dX1_partAlone_41 rfl ?_
      refine m_iconst dX1_partAlone_43 ki_1 ?_
      refine m_iload dX1_partAlone_44 rfl ?_
      refine m_ishl dX1_partAlone_46 ?_
      refine m_ior dX1_partAlone_47 ?_
      refine m_istore (ls2 := [some (.ref r_0), some (.int x_1), some (.long y_2), none, some (.int (x_4 ||| (1 <<< (x_5 &&& 31)))), some (.int x_5)]) dX1_partAlone_48 (by decide) rfl ?_
      refine m_iinc (v := x_5 + 1) (ls2 := [some (.ref r_0), some (.int x_1), some (.long y_2), none, some (.int (x_4 ||| (1 <<< (x_5 &&& 31)))), some (.int (x_5 + 1))]) dX1_partAlone_50 (by decide) rfl (congrArg (_ + ·) ki_1) rfl ?_
      refine m_goto 18 dX1_partAlone_53 (by decide) ?_
      exact hF
theorem en_X1_partAlone {d : Nat} {b : Nat × Nat} {r_0 : Nat} {x_1 : Int32} {h : mH} {K : Option Value → mH → Prop} (hk : Wm (d + 1) b JX1_partAlone 0 [some (.ref r_0), some (.int x_1), none, none, none, none] [] h (fun r h' => h'.1 0 = h.1 0 ∧ K r h')) : Ev (d + 1) b MX1_partAlone [.ref r_0, .int x_1] h K :=
  m_met pn_X1 nl_X1 (fun _ => Nat.le_of_ble_eq_true rfl) hk
theorem bk_X1_ofBlocks_0 {d : Nat} {b : Nat × Nat} (r_0 : Nat) (x_1 : Int32) (x_2 : Int32) {h : mH} {Q : Option Value → mH → Prop} (hF : (∃ (c21 : Nat) (fs22 : List Value), (h).1 r_0 = .inr (c21, fs22) ∧ c21 ∈ [0, 1, 4, 8, 9] ∧ Ev d (0, 0) MX1_blockLabels [.ref r_0, .int x_1, .int x_2] h (fun r1 h2 => ∃ y3 : Int64, r1 = some (.long y3) ∧ (∃ x4 : Int32, m_fld h2 r_0 [0, 1, 4, 8, 9] 0 = some (.int x4) ∧ Ev d (0, 0) MX5_leaders [.long y3, .int x4] h2 (fun r5 h6 => ∃ x7 : Int32, r5 = some (.int x7) ∧ Ev d (0, 0) MJ6_bitCount_0f7a4 [.int x7] h6 (fun r8 h9 => ∃ x10 : Int32, r8 = some (.int x10) ∧ (∃ b14 : Nat × Nat, b14.1 ≤ b.1 ∧ b14.2 ≤ b.2 ∧ (∃ (c19 : Nat) (fs20 : List Value), (h9).1 r_0 = .inr (c19, fs20) ∧ c19 ∈ [0, 1, 4, 8, 9] ∧ Ev d b14 MX1_narrowed [.ref r_0, .int x7, .long y3] h9 (fun r11 h12 => ∃ q13 : Nat, r11 = some (.ref q13) ∧ (∃ b18 : Nat × Nat, b18.1 ≤ b.1 - b14.1 ∧ b18.2 ≤ b.2 - b14.2 ∧ Ev d b18 MX1_of [.int x10, .ref q13] h12 (fun r15 h16 => ∃ q17 : Nat, r15 = some (.ref q17) ∧ Q (some (.ref q17)) h16))))))))))) : Wm (d + 1) b JX1_ofBlocks 0 [some (.ref r_0), some (.int x_1), some (.int x_2), none, none, none] [] h Q := by
  refine m_aload_n dX1_ofBlocks_0 rfl ?_
  refine m_iload_n dX1_ofBlocks_1 rfl ?_
  refine m_iload_n dX1_ofBlocks_2 rfl ?_
  obtain ⟨c21, fs22, e, hc, hF⟩ := hF
  refine m_virtual (as := [.int x_1, .int x_2]) (rest := []) (cw_X1_114 _ hc) e dX1_ofBlocks_3 rfl rfl (Nat.le_of_ble_eq_true rfl) (Nat.le_of_eq (Nat.zero_add _)) (Nat.le_of_eq (Nat.zero_add _)) (b1 := (0, 0)) (b2 := b) (Ev.mono hF ?_)
  intro r1 h2 hF
  obtain ⟨y3, rfl, hF⟩ := hF
  refine m_lstore_n (ls2 := [some (.ref r_0), some (.int x_1), some (.int x_2), some (.long y3), none, none]) dX1_ofBlocks_6 (by decide) rfl ?_
  refine m_lload_n dX1_ofBlocks_7 rfl ?_
  refine m_aload_n dX1_ofBlocks_8 rfl ?_
  obtain ⟨x4, e, hF⟩ := hF
  refine m_get fg_X1_7 dX1_ofBlocks_9 e ?_
  refine m_static (as := [.long y3, .int x4]) (rest := []) cs_X1_118 dX1_ofBlocks_12 rfl rfl (Nat.le_of_ble_eq_true rfl) (Nat.le_of_eq (Nat.zero_add _)) (Nat.le_of_eq (Nat.zero_add _)) (b1 := (0, 0)) (b2 := b) (Ev.mono hF ?_)
  intro r5 h6 hF
  obtain ⟨x7, rfl, hF⟩ := hF
  refine m_istore (ls2 := [some (.ref r_0), some (.int x_1), some (.int x_2), some (.long y3), none, some (.int x7)]) dX1_ofBlocks_15 (by decide) rfl ?_
  refine m_iload dX1_ofBlocks_17 rfl ?_
  refine m_static (as := [.int x7]) (rest := []) cs_X1_101 dX1_ofBlocks_19 rfl rfl (Nat.le_of_ble_eq_true rfl) (Nat.le_of_eq (Nat.zero_add _)) (Nat.le_of_eq (Nat.zero_add _)) (b1 := (0, 0)) (b2 := b) (Ev.mono hF ?_)
  intro r8 h9 hF
  obtain ⟨x10, rfl, hF⟩ := hF
  refine m_aload_n dX1_ofBlocks_22 rfl ?_
  refine m_iload dX1_ofBlocks_23 rfl ?_
  refine m_lload_n dX1_ofBlocks_25 rfl ?_
  obtain ⟨b14, g1, g2, hF⟩ := hF
  obtain ⟨c19, fs20, e, hc, hF⟩ := hF
  refine m_virtual (as := [.int x7, .long y3]) (rest := [.int x10]) (cw_X1_106 _ hc) e dX1_ofBlocks_26 rfl rfl (Nat.le_of_ble_eq_true rfl) (Nat.le_of_eq (Nat.add_sub_cancel' g1)) (Nat.le_of_eq (Nat.add_sub_cancel' g2)) (b1 := b14) (b2 := (b.1 - b14.1, b.2 - b14.2)) (Ev.mono hF ?_)
  intro r11 h12 hF
  obtain ⟨q13, rfl, hF⟩ := hF
  obtain ⟨b18, g1, g2, hF⟩ := hF
  refine m_static (as := [.int x10, .ref q13]) (rest := []) cs_X1_110 dX1_ofBlocks_29 rfl rfl (Nat.le_of_ble_eq_true rfl) (Nat.le_of_eq (Nat.add_sub_cancel' g1)) (Nat.le_of_eq (Nat.add_sub_cancel' g2)) (b1 := b18) (b2 := (b.1 - b14.1 - b18.1, b.2 - b14.2 - b18.2)) (Ev.mono hF ?_)
  intro r15 h16 hF
  obtain ⟨q17, rfl, hF⟩ := hF
  exact m_areturn dX1_ofBlocks_32 trivial hF
theorem en_X1_ofBlocks {d : Nat} {b : Nat × Nat} {r_0 : Nat} {x_1 : Int32} {x_2 : Int32} {h : mH} {K : Option Value → mH → Prop} (hk : Wm (d + 1) b JX1_ofBlocks 0 [some (.ref r_0), some (.int x_1), some (.int x_2), none, none, none] [] h (fun r h' => h'.1 0 = h.1 0 ∧ K r h')) : Ev (d + 1) b MX1_ofBlocks [.ref r_0, .int x_1, .int x_2] h K :=
  m_met pn_X1 nl_X1 (fun _ => Nat.le_of_ble_eq_true rfl) hk
theorem bk_X1_narrowed_0 {d : Nat} {b : Nat × Nat} (r_0 : Nat) (x_1 : Int32) (y_2 : Int64) {h : mH} {Q : Option Value → mH → Prop} (hF : (∃ r1 : Nat, m_fld h r_0 [0, 1, 4, 8, 9] 1 = some (.ref r1) ∧ (∃ n2 : Nat, m_len h r1 = some n2 ∧ (∃ n3 : Nat, ¬ (nI n2) < 0 ∧ (nI n2).toNatClampNeg = n3 ∧ n3 ≤ 100000 ∧ 1 ≤ b.1 ∧ n3 ≤ b.2 ∧ ∀ h4 : mH, h4 = (m_up h.1 h.2 (.inl (1, n3, .inr (.inl fun _ => 0))), h.2 + 1) → Wm (d + 1) (b.1 - 1, b.2 - n3) JX1_narrowed 12 [some (.ref r_0), some (.int x_1), some (.long y_2), none, some (.ref h.2), some (.int 0), none, none, none] [] h4 Q)))) : Wm (d + 1) b JX1_narrowed 0 [some (.ref r_0), some (.int x_1), some (.long y_2), none, none, none, none, none, none] [] h Q := by
  refine m_aload_n dX1_narrowed_0 rfl ?_
  obtain ⟨r1, e, hF⟩ := hF
  refine m_get fg_X1_13 dX1_narrowed_1 e ?_
  obtain ⟨n2, e, hF⟩ := hF
  refine m_alen dX1_narrowed_4 e ?_
  obtain ⟨n3, e1, e2, e3, e4, e5, hF⟩ := hF
  refine m_newarr (t := 1) (b2 := (b.1 - 1, b.2 - n3)) dX1_narrowed_5 e1 e2 e3 (Or.inr (Or.inl ⟨rfl, rfl, rfl⟩)) ac_long (Nat.le_of_eq (Nat.sub_add_cancel e4)) (Nat.le_of_eq (Nat.sub_add_cancel e5)) ?_
  replace hF := hF _ rfl
  generalize (m_up h.1 h.2 (.inl (1, n3, .inr (.inl fun _ => 0))), h.2 + 1) = h4 at hF ⊢
  refine m_astore (ls2 := [some (.ref r_0), some (.int x_1), some (.long y_2), none, some (.ref h.2), none, none, none, none]) dX1_narrowed_7 (by decide) rfl ?_
  refine m_iconst dX1_narrowed_9 ki_0 ?_
  refine m_istore (ls2 := [some (.ref r_0), some (.int x_1), some (.long y_2), none, some (.ref h.2), some (.int 0), none, none, none]) dX1_narrowed_10 (by decide) rfl ?_
  exact hF
theorem bk_X1_narrowed_12 {d : Nat} {b : Nat × Nat} (r_0 : Nat) (x_1 : Int32) (y_2 : Int64) (r_4 : Nat) (x_5 : Int32) {h : mH} {Q : Option Value → mH → Prop} (hF : (∃ r1 : Nat, m_fld h r_0 [0, 1, 4, 8, 9] 1 = some (.ref r1) ∧ (∃ n2 : Nat, m_len h r1 = some n2 ∧ (((nI n2) ≤ x_5 → Q (some (.ref r_4)) h) ∧ (¬ ((nI n2) ≤ x_5) → Wm (d + 1) b JX1_narrowed 28 [some (.ref r_0), some (.int x_1), some (.long y_2), none, some (.ref r_4), some (.int x_5), some (.int 0), some (.int 0), none] [] h Q))))) : Wm (d + 1) b JX1_narrowed 12 [some (.ref r_0), some (.int x_1), some (.long y_2), none, some (.ref r_4), some (.int x_5), none, none, none] [] h Q := by
  refine m_iload dX1_narrowed_12 rfl ?_
  refine m_aload_n dX1_narrowed_14 rfl ?_
  obtain ⟨r1, e, hF⟩ := hF
  refine m_get fg_X1_13 dX1_narrowed_15 e ?_
  obtain ⟨n2, e, hF⟩ := hF
  refine m_alen dX1_narrowed_18 e ?_
  refine m_icmp_ge 105 dX1_narrowed_19 (by decide) (fun c => ?_) (fun c => ?_)
  · replace hF := hF.1 c
    refine m_aload dX1_narrowed_105 rfl ?_
    exact m_areturn dX1_narrowed_107 trivial hF
  · replace hF := hF.2 c
    refine m_iconst dX1_narrowed_22 ki_0 ?_
    refine m_istore (ls2 := [some (.ref r_0), some (.int x_1), some (.long y_2), none, some (.ref r_4), some (.int x_5), some (.int 0), none, none]) dX1_narrowed_23 (by decide) rfl ?_
    refine m_iconst dX1_narrowed_25 ki_0 ?_
    refine m_istore (ls2 := [some (.ref r_0), some (.int x_1), some (.long y_2), none, some (.ref r_4), some (.int x_5), some (.int 0), some (.int 0), none]) dX1_narrowed_26 (by decide) rfl ?_
    exact hF
theorem bk_X1_narrowed_28 {d : Nat} {b : Nat × Nat} (r_0 : Nat) (x_1 : Int32) (y_2 : Int64) (r_4 : Nat) (x_5 : Int32) (x_6 : Int32) (x_7 : Int32) {h : mH} {Q : Option Value → mH → Prop} (hF : (∃ x1 : Int32, m_fld h r_0 [0, 1, 4, 8, 9] 0 = some (.int x1) ∧ ((x1 ≤ x_7 → Wm (d + 1) b JX1_narrowed 12 [some (.ref r_0), some (.int x_1), some (.long y_2), none, some (.ref r_4), some (.int (x_5 + 1)), none, none, none] [] h Q) ∧ (¬ (x1 ≤ x_7) → ((((x_1 >>> (x_7 &&& 31)) &&& 1) = 0 → Wm (d + 1) b JX1_narrowed 28 [some (.ref r_0), some (.int x_1), some (.long y_2), none, some (.ref r_4), some (.int x_5), some (.int x_6), some (.int (x_7 + 1)), none] [] h Q) ∧ (¬ (((x_1 >>> (x_7 &&& 31)) &&& 1) = 0) → (∃ r2 : Nat, m_fld h r_0 [0, 1, 4, 8, 9] 1 = some (.ref r2) ∧ (∃ y3 : Int64, m_ll h r2 x_5 = some y3 ∧ Ev d (0, 0) MX5_at [.long y3, .int x_7] h (fun r4 h5 => ∃ x6 : Int32, r4 = some (.int x6) ∧ Ev d (0, 0) MX5_at [.long y_2, .int x6] h5 (fun r7 h8 => ∃ x9 : Int32, r7 = some (.int x9) ∧ (∃ y10 : Int64, m_ll h8 r_4 x_5 = some y10 ∧ Ev d (0, 0) MJ6_bitCount_0f7a4 [.int (x_1 &&& ((1 <<< (x9 &&& 31)) - 1))] h8 (fun r11 h12 => ∃ x13 : Int32, r11 = some (.int x13) ∧ Ev d (0, 0) MX5_with [.long y10, .int x_6, .int x13] h12 (fun r14 h15 => ∃ y16 : Int64, r14 = some (.long y16) ∧ (∃ h17 : mH, m_ls h15 r_4 x_5 y16 = some h17 ∧ Wm (d + 1) b JX1_narrowed 28 [some (.ref r_0), some (.int x_1), some (.long y_2), none, some (.ref r_4), some (.int x_5), some (.int (x_6 + 1)), some (.int (x_7 + 1)), none] [] h17 Q)))))))))))))) : Wm (d + 1) b JX1_narrowed 28 [some (.ref r_0), some (.int x_1), some (.long y_2), none, some (.ref r_4), some (.int x_5), some (.int x_6), some (.int x_7), none] [] h Q := by
  refine m_iload dX1_narrowed_28 rfl ?_
  refine m_aload_n dX1_narrowed_30 rfl ?_
  obtain ⟨x1, e, hF⟩ := hF
  refine m_get fg_X1_7 dX1_narrowed_31 e ?_
  refine m_icmp_ge 99 dX1_narrowed_34 (by decide) (fun c => ?_) (fun c => ?_)
  · replace hF := hF.1 c
    refine m_iinc (v := x_5 + 1) (ls2 := [some (.ref r_0), some (.int x_1), some (.long y_2), none, some (.ref r_4), some (.int (x_5 + 1)), some (.int x_6), some (.int x_7), none]) dX1_narrowed_99 (by decide) rfl (congrArg (_ + ·) ki_1) rfl ?_
    refine m_goto 12 dX1_narrowed_102 (by decide) ?_
    refine m_wk [6, 7] rfl ?_
    exact hF
  · replace hF := hF.2 c
    refine m_iload_n dX1_narrowed_37 rfl ?_
    refine m_iload dX1_narrowed_38 rfl ?_
    refine m_ishr dX1_narrowed_40 ?_
    refine m_iconst dX1_narrowed_41 ki_1 ?_
    refine m_iand dX1_narrowed_42 ?_
    refine m_if_eq 93 dX1_narrowed_43 (by decide) (fun c => ?_) (fun c => ?_)
    · replace hF := hF.1 c
      refine m_iinc (v := x_7 + 1) (ls2 := [some (.ref r_0), some (.int x_1), some (.long y_2), none, some (.ref r_4), some (.int x_5), some (.int x_6), some (.int (x_7 + 1)), none]) dX1_narrowed_93 (by decide) rfl (congrArg (_ + ·) ki_1) rfl ?_
      refine m_goto 28 dX1_narrowed_96 (by decide) ?_
      exact hF
    · replace hF := hF.2 c
      refine m_lload_n dX1_narrowed_46 rfl ?_
      refine m_aload_n dX1_narrowed_47 rfl ?_
      obtain ⟨r2, e, hF⟩ := hF
      refine m_get fg_X1_13 dX1_narrowed_48 e ?_
      refine m_iload dX1_narrowed_51 rfl ?_
      obtain ⟨y3, e, hF⟩ := hF
      refine m_lald dX1_narrowed_53 e ?_
      refine m_iload dX1_narrowed_54 rfl ?_
      refine m_static (as := [.long y3, .int x_7]) (rest := [.long y_2]) cs_X1_75 dX1_narrowed_56 rfl rfl (Nat.le_of_ble_eq_true rfl) (Nat.le_of_eq (Nat.zero_add _)) (Nat.le_of_eq (Nat.zero_add _)) (b1 := (0, 0)) (b2 := b) (Ev.mono hF ?_)
      intro r4 h5 hF
      obtain ⟨x6, rfl, hF⟩ := hF
      refine m_static (as := [.long y_2, .int x6]) (rest := []) cs_X1_75 dX1_narrowed_59 rfl rfl (Nat.le_of_ble_eq_true rfl) (Nat.le_of_eq (Nat.zero_add _)) (Nat.le_of_eq (Nat.zero_add _)) (b1 := (0, 0)) (b2 := b) (Ev.mono hF ?_)
      intro r7 h8 hF
      obtain ⟨x9, rfl, hF⟩ := hF
      refine m_istore (ls2 := [some (.ref r_0), some (.int x_1), some (.long y_2), none, some (.ref r_4), some (.int x_5), some (.int x_6), some (.int x_7), some (.int x9)]) dX1_narrowed_62 (by decide) rfl ?_
      refine m_aload dX1_narrowed_64 rfl ?_
      refine m_iload dX1_narrowed_66 rfl ?_
      refine m_aload dX1_narrowed_68 rfl ?_
      refine m_iload dX1_narrowed_70 rfl ?_
      obtain ⟨y10, e, hF⟩ := hF
      refine m_lald dX1_narrowed_72 e ?_
      refine m_iload dX1_narrowed_73 rfl ?_
      refine m_iload_n dX1_narrowed_75 rfl ?_
      refine m_iconst dX1_narrowed_76 ki_1 ?_
      refine m_iload dX1_narrowed_77 rfl ?_
      refine m_ishl dX1_narrowed_79 ?_
      refine m_iconst dX1_narrowed_80 ki_1 ?_
      refine m_isub dX1_narrowed_81 ?_
      refine m_iand dX1_narrowed_82 ?_
      refine m_static (as := [.int (x_1 &&& ((1 <<< (x9 &&& 31)) - 1))]) (rest := [.int x_6, .long y10, .int x_5, .ref r_4]) cs_X1_101 dX1_narrowed_83 rfl rfl (Nat.le_of_ble_eq_true rfl) (Nat.le_of_eq (Nat.zero_add _)) (Nat.le_of_eq (Nat.zero_add _)) (b1 := (0, 0)) (b2 := b) (Ev.mono hF ?_)
      intro r11 h12 hF
      obtain ⟨x13, rfl, hF⟩ := hF
      refine m_static (as := [.long y10, .int x_6, .int x13]) (rest := [.int x_5, .ref r_4]) cs_X1_121 dX1_narrowed_86 rfl rfl (Nat.le_of_ble_eq_true rfl) (Nat.le_of_eq (Nat.zero_add _)) (Nat.le_of_eq (Nat.zero_add _)) (b1 := (0, 0)) (b2 := b) (Ev.mono hF ?_)
      intro r14 h15 hF
      obtain ⟨y16, rfl, hF⟩ := hF
      obtain ⟨h17, e, hF⟩ := hF
      refine m_last dX1_narrowed_89 e ?_
      refine m_iinc (v := x_6 + 1) (ls2 := [some (.ref r_0), some (.int x_1), some (.long y_2), none, some (.ref r_4), some (.int x_5), some (.int (x_6 + 1)), some (.int x_7), some (.int x9)]) dX1_narrowed_90 (by decide) rfl (congrArg (_ + ·) ki_1) rfl ?_
      refine m_iinc (v := x_7 + 1) (ls2 := [some (.ref r_0), some (.int x_1), some (.long y_2), none, some (.ref r_4), some (.int x_5), some (.int (x_6 + 1)), some (.int (x_7 + 1)), some (.int x9)]) dX1_narrowed_93 (by decide) rfl (congrArg (_ + ·) ki_1) rfl ?_
      refine m_goto 28 dX1_narrowed_96 (by decide) ?_
      refine m_wk [8] rfl ?_
      exact hF
theorem en_X1_narrowed {d : Nat} {b : Nat × Nat} {r_0 : Nat} {x_1 : Int32} {y_2 : Int64} {h : mH} {K : Option Value → mH → Prop} (hk : Wm (d + 1) b JX1_narrowed 0 [some (.ref r_0), some (.int x_1), some (.long y_2), none, none, none, none, none, none] [] h (fun r h' => h'.1 0 = h.1 0 ∧ K r h')) : Ev (d + 1) b MX1_narrowed [.ref r_0, .int x_1, .long y_2] h K :=
  m_met pn_X1 nl_X1 (fun _ => Nat.le_of_ble_eq_true rfl) hk
theorem bk_X1_ledPast_0 {d : Nat} {b : Nat × Nat} (r_0 : Nat) (x_1 : Int32) (x_2 : Int32) {h : mH} {Q : Option Value → mH → Prop} (hF : (∃ r1 : Nat, m_fld h r_0 [0, 1, 4, 8, 9] 1 = some (.ref r1) ∧ (∃ r2 : Nat, m_fld h r_0 [0, 1, 4, 8, 9] 1 = some (.ref r2) ∧ (∃ n3 : Nat, m_len h r2 = some n3 ∧ (∃ b7 : Nat × Nat, b7.1 ≤ b.1 ∧ b7.2 ≤ b.2 ∧ Ev d b7 MJ7_copyOf_c38d5 [.ref r1, .int (nI n3)] h (fun r4 h5 => ∃ q6 : Nat, r4 = some (.ref q6) ∧ ((x_2 = 0 → (∃ x8 : Int32, m_fld h5 r_0 [0, 1, 4, 8, 9] 0 = some (.int x8) ∧ Ev d (0, 0) MX5_leadBack [.ref q6, .int x_1, .int x8] h5 (fun r9 h10 => r9 = none ∧ (∃ x11 : Int32, m_fld h10 r_0 [0, 1, 4, 8, 9] 0 = some (.int x11) ∧ (∃ b15 : Nat × Nat, b15.1 ≤ b.1 - b7.1 ∧ b15.2 ≤ b.2 - b7.2 ∧ Ev d b15 MX1_of [.int x11, .ref q6] h10 (fun r12 h13 => ∃ q14 : Nat, r12 = some (.ref q14) ∧ Q (some (.ref q14)) h13)))))) ∧ (¬ (x_2 = 0) → (∃ x16 : Int32, m_fld h5 r_0 [0, 1, 4, 8, 9] 0 = some (.int x16) ∧ Ev d (0, 0) MX5_leadForward [.ref q6, .int x_1, .int x16] h5 (fun r17 h18 => r17 = none ∧ (∃ x19 : Int32, m_fld h18 r_0 [0, 1, 4, 8, 9] 0 = some (.int x19) ∧ (∃ b23 : Nat × Nat, b23.1 ≤ b.1 - b7.1 ∧ b23.2 ≤ b.2 - b7.2 ∧ Ev d b23 MX1_of [.int x19, .ref q6] h18 (fun r20 h21 => ∃ q22 : Nat, r20 = some (.ref q22) ∧ Q (some (.ref q22)) h21))))))))))))) : Wm (d + 1) b JX1_ledPast 0 [some (.ref r_0), some (.int x_1), some (.int x_2), none] [] h Q := by
  refine m_aload_n dX1_ledPast_0 rfl ?_
  obtain ⟨r1, e, hF⟩ := hF
  refine m_get fg_X1_13 dX1_ledPast_1 e ?_
  refine m_aload_n dX1_ledPast_4 rfl ?_
  obtain ⟨r2, e, hF⟩ := hF
  refine m_get fg_X1_13 dX1_ledPast_5 e ?_
  obtain ⟨n3, e, hF⟩ := hF
  refine m_alen dX1_ledPast_8 e ?_
  obtain ⟨b7, g1, g2, hF⟩ := hF
  refine m_static (as := [.ref r1, .int (nI n3)]) (rest := []) cs_X1_125 dX1_ledPast_9 rfl rfl (Nat.le_of_ble_eq_true rfl) (Nat.le_of_eq (Nat.add_sub_cancel' g1)) (Nat.le_of_eq (Nat.add_sub_cancel' g2)) (b1 := b7) (b2 := (b.1 - b7.1, b.2 - b7.2)) (Ev.mono hF ?_)
  intro r4 h5 hF
  obtain ⟨q6, rfl, hF⟩ := hF
  refine m_astore_n (ls2 := [some (.ref r_0), some (.int x_1), some (.int x_2), some (.ref q6)]) dX1_ledPast_12 (by decide) rfl ?_
  refine m_iload_n dX1_ledPast_13 rfl ?_
  refine m_if_eq 29 dX1_ledPast_14 (by decide) (fun c => ?_) (fun c => ?_)
  · replace hF := hF.1 c
    refine m_aload_n dX1_ledPast_29 rfl ?_
    refine m_iload_n dX1_ledPast_30 rfl ?_
    refine m_aload_n dX1_ledPast_31 rfl ?_
    obtain ⟨x8, e, hF⟩ := hF
    refine m_get fg_X1_7 dX1_ledPast_32 e ?_
    refine m_static (as := [.ref q6, .int x_1, .int x8]) (rest := []) cs_X1_135 dX1_ledPast_35 rfl rfl (Nat.le_of_ble_eq_true rfl) (Nat.le_of_eq (Nat.zero_add _)) (Nat.le_of_eq (Nat.zero_add _)) (b1 := (0, 0)) (b2 := (b.1 - b7.1, b.2 - b7.2)) (Ev.mono hF ?_)
    intro r9 h10 hF
    obtain ⟨rfl, hF⟩ := hF
    refine m_aload_n dX1_ledPast_38 rfl ?_
    obtain ⟨x11, e, hF⟩ := hF
    refine m_get fg_X1_7 dX1_ledPast_39 e ?_
    refine m_aload_n dX1_ledPast_42 rfl ?_
    obtain ⟨b15, g1, g2, hF⟩ := hF
    refine m_static (as := [.int x11, .ref q6]) (rest := []) cs_X1_110 dX1_ledPast_43 rfl rfl (Nat.le_of_ble_eq_true rfl) (Nat.le_of_eq (Nat.add_sub_cancel' g1)) (Nat.le_of_eq (Nat.add_sub_cancel' g2)) (b1 := b15) (b2 := (b.1 - b7.1 - b15.1, b.2 - b7.2 - b15.2)) (Ev.mono hF ?_)
    intro r12 h13 hF
    obtain ⟨q14, rfl, hF⟩ := hF
    exact m_areturn dX1_ledPast_46 trivial hF
  · replace hF := hF.2 c
    refine m_aload_n dX1_ledPast_17 rfl ?_
    refine m_iload_n dX1_ledPast_18 rfl ?_
    refine m_aload_n dX1_ledPast_19 rfl ?_
    obtain ⟨x16, e, hF⟩ := hF
    refine m_get fg_X1_7 dX1_ledPast_20 e ?_
    refine m_static (as := [.ref q6, .int x_1, .int x16]) (rest := []) cs_X1_131 dX1_ledPast_23 rfl rfl (Nat.le_of_ble_eq_true rfl) (Nat.le_of_eq (Nat.zero_add _)) (Nat.le_of_eq (Nat.zero_add _)) (b1 := (0, 0)) (b2 := (b.1 - b7.1, b.2 - b7.2)) (Ev.mono hF ?_)
    intro r17 h18 hF
    obtain ⟨rfl, hF⟩ := hF
    refine m_goto 38 dX1_ledPast_26 (by decide) ?_
    refine m_aload_n dX1_ledPast_38 rfl ?_
    obtain ⟨x19, e, hF⟩ := hF
    refine m_get fg_X1_7 dX1_ledPast_39 e ?_
    refine m_aload_n dX1_ledPast_42 rfl ?_
    obtain ⟨b23, g1, g2, hF⟩ := hF
    refine m_static (as := [.int x19, .ref q6]) (rest := []) cs_X1_110 dX1_ledPast_43 rfl rfl (Nat.le_of_ble_eq_true rfl) (Nat.le_of_eq (Nat.add_sub_cancel' g1)) (Nat.le_of_eq (Nat.add_sub_cancel' g2)) (b1 := b23) (b2 := (b.1 - b7.1 - b23.1, b.2 - b7.2 - b23.2)) (Ev.mono hF ?_)
    intro r20 h21 hF
    obtain ⟨q22, rfl, hF⟩ := hF
    exact m_areturn dX1_ledPast_46 trivial hF
theorem en_X1_ledPast {d : Nat} {b : Nat × Nat} {r_0 : Nat} {x_1 : Int32} {x_2 : Int32} {h : mH} {K : Option Value → mH → Prop} (hk : Wm (d + 1) b JX1_ledPast 0 [some (.ref r_0), some (.int x_1), some (.int x_2), none] [] h (fun r h' => h'.1 0 = h.1 0 ∧ K r h')) : Ev (d + 1) b MX1_ledPast [.ref r_0, .int x_1, .int x_2] h K :=
  m_met pn_X1 nl_X1 (fun _ => Nat.le_of_ble_eq_true rfl) hk
theorem bk_X1_mirror_0 {d : Nat} {b : Nat × Nat} (r_0 : Nat) {h : mH} {Q : Option Value → mH → Prop} (hF : (∃ r1 : Nat, m_fld h r_0 [0, 1, 4, 8, 9] 1 = some (.ref r1) ∧ (∃ n2 : Nat, m_len h r1 = some n2 ∧ (∃ n3 : Nat, ¬ (nI n2) < 0 ∧ (nI n2).toNatClampNeg = n3 ∧ n3 ≤ 100000 ∧ 1 ≤ b.1 ∧ n3 ≤ b.2 ∧ ∀ h4 : mH, h4 = (m_up h.1 h.2 (.inl (1, n3, .inr (.inl fun _ => 0))), h.2 + 1) → Wm (d + 1) (b.1 - 1, b.2 - n3) JX1_mirror 12 [some (.ref r_0), some (.int (nI n2)), some (.ref h.2), some (.int 0)] [] h4 Q)))) : Wm (d + 1) b JX1_mirror 0 [some (.ref r_0), none, none, none] [] h Q := by
  refine m_aload_n dX1_mirror_0 rfl ?_
  obtain ⟨r1, e, hF⟩ := hF
  refine m_get fg_X1_13 dX1_mirror_1 e ?_
  obtain ⟨n2, e, hF⟩ := hF
  refine m_alen dX1_mirror_4 e ?_
  refine m_istore_n (ls2 := [some (.ref r_0), some (.int (nI n2)), none, none]) dX1_mirror_5 (by decide) rfl ?_
  refine m_iload_n dX1_mirror_6 rfl ?_
  obtain ⟨n3, e1, e2, e3, e4, e5, hF⟩ := hF
  refine m_newarr (t := 1) (b2 := (b.1 - 1, b.2 - n3)) dX1_mirror_7 e1 e2 e3 (Or.inr (Or.inl ⟨rfl, rfl, rfl⟩)) ac_long (Nat.le_of_eq (Nat.sub_add_cancel e4)) (Nat.le_of_eq (Nat.sub_add_cancel e5)) ?_
  replace hF := hF _ rfl
  generalize (m_up h.1 h.2 (.inl (1, n3, .inr (.inl fun _ => 0))), h.2 + 1) = h4 at hF ⊢
  refine m_astore_n (ls2 := [some (.ref r_0), some (.int (nI n2)), some (.ref h.2), none]) dX1_mirror_9 (by decide) rfl ?_
  refine m_iconst dX1_mirror_10 ki_0 ?_
  refine m_istore_n (ls2 := [some (.ref r_0), some (.int (nI n2)), some (.ref h.2), some (.int 0)]) dX1_mirror_11 (by decide) rfl ?_
  exact hF
theorem bk_X1_mirror_12 {d : Nat} {b : Nat × Nat} (r_0 : Nat) (x_1 : Int32) (r_2 : Nat) (x_3 : Int32) {h : mH} {Q : Option Value → mH → Prop} (hF : ((x_1 ≤ x_3 → (∃ x1 : Int32, m_fld h r_0 [0, 1, 4, 8, 9] 0 = some (.int x1) ∧ (∃ b5 : Nat × Nat, b5.1 ≤ b.1 ∧ b5.2 ≤ b.2 ∧ Ev d b5 MX1_of [.int x1, .ref r_2] h (fun r2 h3 => ∃ q4 : Nat, r2 = some (.ref q4) ∧ Q (some (.ref q4)) h3)))) ∧ (¬ (x_1 ≤ x_3) → (∃ r6 : Nat, m_fld h r_0 [0, 1, 4, 8, 9] 1 = some (.ref r6) ∧ (∃ y7 : Int64, m_ll h r6 ((x_1 - 1) - x_3) = some y7 ∧ (∃ x8 : Int32, m_fld h r_0 [0, 1, 4, 8, 9] 0 = some (.int x8) ∧ Ev d (0, 0) MX5_inverse [.long y7, .int x8] h (fun r9 h10 => ∃ y11 : Int64, r9 = some (.long y11) ∧ (∃ h12 : mH, m_ls h10 r_2 x_3 y11 = some h12 ∧ Wm (d + 1) b JX1_mirror 12 [some (.ref r_0), some (.int x_1), some (.ref r_2), some (.int (x_3 + 1))] [] h12 Q)))))))) : Wm (d + 1) b JX1_mirror 12 [some (.ref r_0), some (.int x_1), some (.ref r_2), some (.int x_3)] [] h Q := by
  refine m_iload_n dX1_mirror_12 rfl ?_
  refine m_iload_n dX1_mirror_13 rfl ?_
  refine m_icmp_ge 43 dX1_mirror_14 (by decide) (fun c => ?_) (fun c => ?_)
  · replace hF := hF.1 c
    refine m_aload_n dX1_mirror_43 rfl ?_
    obtain ⟨x1, e, hF⟩ := hF
    refine m_get fg_X1_7 dX1_mirror_44 e ?_
    refine m_aload_n dX1_mirror_47 rfl ?_
    obtain ⟨b5, g1, g2, hF⟩ := hF
    refine m_static (as := [.int x1, .ref r_2]) (rest := []) cs_X1_110 dX1_mirror_48 rfl rfl (Nat.le_of_ble_eq_true rfl) (Nat.le_of_eq (Nat.add_sub_cancel' g1)) (Nat.le_of_eq (Nat.add_sub_cancel' g2)) (b1 := b5) (b2 := (b.1 - b5.1, b.2 - b5.2)) (Ev.mono hF ?_)
    intro r2 h3 hF
    obtain ⟨q4, rfl, hF⟩ := hF
    exact m_areturn dX1_mirror_51 trivial hF
  · replace hF := hF.2 c
    refine m_aload_n dX1_mirror_17 rfl ?_
    refine m_iload_n dX1_mirror_18 rfl ?_
    refine m_aload_n dX1_mirror_19 rfl ?_
    obtain ⟨r6, e, hF⟩ := hF
    refine m_get fg_X1_13 dX1_mirror_20 e ?_
    refine m_iload_n dX1_mirror_23 rfl ?_
    refine m_iconst dX1_mirror_24 ki_1 ?_
    refine m_isub dX1_mirror_25 ?_
    refine m_iload_n dX1_mirror_26 rfl ?_
    refine m_isub dX1_mirror_27 ?_
    obtain ⟨y7, e, hF⟩ := hF
    refine m_lald dX1_mirror_28 e ?_
    refine m_aload_n dX1_mirror_29 rfl ?_
    obtain ⟨x8, e, hF⟩ := hF
    refine m_get fg_X1_7 dX1_mirror_30 e ?_
    refine m_static (as := [.long y7, .int x8]) (rest := [.int x_3, .ref r_2]) cs_X1_78 dX1_mirror_33 rfl rfl (Nat.le_of_ble_eq_true rfl) (Nat.le_of_eq (Nat.zero_add _)) (Nat.le_of_eq (Nat.zero_add _)) (b1 := (0, 0)) (b2 := b) (Ev.mono hF ?_)
    intro r9 h10 hF
    obtain ⟨y11, rfl, hF⟩ := hF
    obtain ⟨h12, e, hF⟩ := hF
    refine m_last dX1_mirror_36 e ?_
    refine m_iinc (v := x_3 + 1) (ls2 := [some (.ref r_0), some (.int x_1), some (.ref r_2), some (.int (x_3 + 1))]) dX1_mirror_37 (by decide) rfl (congrArg (_ + ·) ki_1) rfl ?_
    refine m_goto 12 dX1_mirror_40 (by decide) ?_
    exact hF
theorem en_X1_mirror {d : Nat} {b : Nat × Nat} {r_0 : Nat} {h : mH} {K : Option Value → mH → Prop} (hk : Wm (d + 1) b JX1_mirror 0 [some (.ref r_0), none, none, none] [] h (fun r h' => h'.1 0 = h.1 0 ∧ K r h')) : Ev (d + 1) b MX1_mirror [.ref r_0] h K :=
  m_met pn_X1 nl_X1 (fun _ => Nat.le_of_ble_eq_true rfl) hk
theorem bk_X1_laidOver_0 {d : Nat} {b : Nat × Nat} (r_0 : Nat) (r_1 : Nat) {h : mH} {Q : Option Value → mH → Prop} (hF : (∃ r1 : Nat, m_fld h r_0 [0, 1, 4, 8, 9] 1 = some (.ref r1) ∧ (∃ n2 : Nat, m_len h r1 = some n2 ∧ (∃ n3 : Nat, ¬ (nI n2) < 0 ∧ (nI n2).toNatClampNeg = n3 ∧ n3 ≤ 100000 ∧ 1 ≤ b.1 ∧ n3 ≤ b.2 ∧ ∀ h4 : mH, h4 = (m_up h.1 h.2 (.inl (1, n3, .inr (.inl fun _ => 0))), h.2 + 1) → Wm (d + 1) (b.1 - 1, b.2 - n3) JX1_laidOver 10 [some (.ref r_0), some (.ref r_1), some (.ref h.2), some (.int 0), none, none, none] [] h4 Q)))) : Wm (d + 1) b JX1_laidOver 0 [some (.ref r_0), some (.ref r_1), none, none, none, none, none] [] h Q := by
  refine m_aload_n dX1_laidOver_0 rfl ?_
  obtain ⟨r1, e, hF⟩ := hF
  refine m_get fg_X1_13 dX1_laidOver_1 e ?_
  obtain ⟨n2, e, hF⟩ := hF
  refine m_alen dX1_laidOver_4 e ?_
  obtain ⟨n3, e1, e2, e3, e4, e5, hF⟩ := hF
  refine m_newarr (t := 1) (b2 := (b.1 - 1, b.2 - n3)) dX1_laidOver_5 e1 e2 e3 (Or.inr (Or.inl ⟨rfl, rfl, rfl⟩)) ac_long (Nat.le_of_eq (Nat.sub_add_cancel e4)) (Nat.le_of_eq (Nat.sub_add_cancel e5)) ?_
  replace hF := hF _ rfl
  generalize (m_up h.1 h.2 (.inl (1, n3, .inr (.inl fun _ => 0))), h.2 + 1) = h4 at hF ⊢
  refine m_astore_n (ls2 := [some (.ref r_0), some (.ref r_1), some (.ref h.2), none, none, none, none]) dX1_laidOver_7 (by decide) rfl ?_
  refine m_iconst dX1_laidOver_8 ki_0 ?_
  refine m_istore_n (ls2 := [some (.ref r_0), some (.ref r_1), some (.ref h.2), some (.int 0), none, none, none]) dX1_laidOver_9 (by decide) rfl ?_
  exact hF
theorem bk_X1_laidOver_10 {d : Nat} {b : Nat × Nat} (r_0 : Nat) (r_1 : Nat) (r_2 : Nat) (x_3 : Int32) {h : mH} {Q : Option Value → mH → Prop} (hF : (∃ r1 : Nat, m_fld h r_0 [0, 1, 4, 8, 9] 1 = some (.ref r1) ∧ (∃ n2 : Nat, m_len h r1 = some n2 ∧ (((nI n2) ≤ x_3 → (∃ x3 : Int32, m_fld h r_0 [0, 1, 4, 8, 9] 0 = some (.int x3) ∧ (∃ x4 : Int32, m_fld h r_1 [0, 1, 4, 8, 9] 0 = some (.int x4) ∧ (∃ b8 : Nat × Nat, b8.1 ≤ b.1 ∧ b8.2 ≤ b.2 ∧ Ev d b8 MX1_of [.int (x3 * x4), .ref r_2] h (fun r5 h6 => ∃ q7 : Nat, r5 = some (.ref q7) ∧ Q (some (.ref q7)) h6))))) ∧ (¬ ((nI n2) ≤ x_3) → Wm (d + 1) b JX1_laidOver 22 [some (.ref r_0), some (.ref r_1), some (.ref r_2), some (.int x_3), some (.int 0), none, none] [] h Q))))) : Wm (d + 1) b JX1_laidOver 10 [some (.ref r_0), some (.ref r_1), some (.ref r_2), some (.int x_3), none, none, none] [] h Q := by
  refine m_iload_n dX1_laidOver_10 rfl ?_
  refine m_aload_n dX1_laidOver_11 rfl ?_
  obtain ⟨r1, e, hF⟩ := hF
  refine m_get fg_X1_13 dX1_laidOver_12 e ?_
  obtain ⟨n2, e, hF⟩ := hF
  refine m_alen dX1_laidOver_15 e ?_
  refine m_icmp_ge 111 dX1_laidOver_16 (by decide) (fun c => ?_) (fun c => ?_)
  · replace hF := hF.1 c
    refine m_aload_n dX1_laidOver_111 rfl ?_
    obtain ⟨x3, e, hF⟩ := hF
    refine m_get fg_X1_7 dX1_laidOver_112 e ?_
    refine m_aload_n dX1_laidOver_115 rfl ?_
    obtain ⟨x4, e, hF⟩ := hF
    refine m_get fg_X1_7 dX1_laidOver_116 e ?_
    refine m_imul dX1_laidOver_119 ?_
    refine m_aload_n dX1_laidOver_120 rfl ?_
    obtain ⟨b8, g1, g2, hF⟩ := hF
    refine m_static (as := [.int (x3 * x4), .ref r_2]) (rest := []) cs_X1_110 dX1_laidOver_121 rfl rfl (Nat.le_of_ble_eq_true rfl) (Nat.le_of_eq (Nat.add_sub_cancel' g1)) (Nat.le_of_eq (Nat.add_sub_cancel' g2)) (b1 := b8) (b2 := (b.1 - b8.1, b.2 - b8.2)) (Ev.mono hF ?_)
    intro r5 h6 hF
    obtain ⟨q7, rfl, hF⟩ := hF
    exact m_areturn dX1_laidOver_124 trivial hF
  · replace hF := hF.2 c
    refine m_iconst dX1_laidOver_19 ki_0 ?_
    refine m_istore (ls2 := [some (.ref r_0), some (.ref r_1), some (.ref r_2), some (.int x_3), some (.int 0), none, none]) dX1_laidOver_20 (by decide) rfl ?_
    exact hF
theorem bk_X1_laidOver_22 {d : Nat} {b : Nat × Nat} (r_0 : Nat) (r_1 : Nat) (r_2 : Nat) (x_3 : Int32) (x_4 : Int32) {h : mH} {Q : Option Value → mH → Prop} (hF : (∃ x1 : Int32, m_fld h r_0 [0, 1, 4, 8, 9] 0 = some (.int x1) ∧ ((x1 ≤ x_4 → Wm (d + 1) b JX1_laidOver 10 [some (.ref r_0), some (.ref r_1), some (.ref r_2), some (.int (x_3 + 1)), none, none, none] [] h Q) ∧ (¬ (x1 ≤ x_4) → Wm (d + 1) b JX1_laidOver 34 [some (.ref r_0), some (.ref r_1), some (.ref r_2), some (.int x_3), some (.int x_4), some (.int 0), none] [] h Q)))) : Wm (d + 1) b JX1_laidOver 22 [some (.ref r_0), some (.ref r_1), some (.ref r_2), some (.int x_3), some (.int x_4), none, none] [] h Q := by
  refine m_iload dX1_laidOver_22 rfl ?_
  refine m_aload_n dX1_laidOver_24 rfl ?_
  obtain ⟨x1, e, hF⟩ := hF
  refine m_get fg_X1_7 dX1_laidOver_25 e ?_
  refine m_icmp_ge 105 dX1_laidOver_28 (by decide) (fun c => ?_) (fun c => ?_)
  · replace hF := hF.1 c
    refine m_iinc (v := x_3 + 1) (ls2 := [some (.ref r_0), some (.ref r_1), some (.ref r_2), some (.int (x_3 + 1)), some (.int x_4), none, none]) dX1_laidOver_105 (by decide) rfl (congrArg (_ + ·) ki_1) rfl ?_
    refine m_goto 10 dX1_laidOver_108 (by decide) ?_
    refine m_wk [4] rfl ?_
    exact hF
  · replace hF := hF.2 c
    refine m_iconst dX1_laidOver_31 ki_0 ?_
    refine m_istore (ls2 := [some (.ref r_0), some (.ref r_1), some (.ref r_2), some (.int x_3), some (.int x_4), some (.int 0), none]) dX1_laidOver_32 (by decide) rfl ?_
    exact hF
theorem bk_X1_laidOver_34 {d : Nat} {b : Nat × Nat} (r_0 : Nat) (r_1 : Nat) (r_2 : Nat) (x_3 : Int32) (x_4 : Int32) (x_5 : Int32) {h : mH} {Q : Option Value → mH → Prop} (hF : (∃ x1 : Int32, m_fld h r_1 [0, 1, 4, 8, 9] 0 = some (.int x1) ∧ ((x1 ≤ x_5 → Wm (d + 1) b JX1_laidOver 22 [some (.ref r_0), some (.ref r_1), some (.ref r_2), some (.int x_3), some (.int (x_4 + 1)), none, none] [] h Q) ∧ (¬ (x1 ≤ x_5) → (∃ r2 : Nat, m_fld h r_0 [0, 1, 4, 8, 9] 1 = some (.ref r2) ∧ (∃ y3 : Int64, m_ll h r2 x_3 = some y3 ∧ Ev d (0, 0) MX5_at [.long y3, .int x_4] h (fun r4 h5 => ∃ x6 : Int32, r4 = some (.int x6) ∧ (∃ x7 : Int32, m_fld h5 r_1 [0, 1, 4, 8, 9] 0 = some (.int x7) ∧ (∃ (c20 : Nat) (fs21 : List Value), (h5).1 r_1 = .inr (c20, fs21) ∧ c20 ∈ [0, 1, 4, 8, 9] ∧ Ev d (0, 0) MX1_turnAt [.ref r_1, .int x_3] h5 (fun r8 h9 => ∃ y10 : Int64, r8 = some (.long y10) ∧ Ev d (0, 0) MX5_at [.long y10, .int x_5] h9 (fun r11 h12 => ∃ x13 : Int32, r11 = some (.int x13) ∧ (∃ y14 : Int64, m_ll h12 r_2 x_3 = some y14 ∧ (∃ x15 : Int32, m_fld h12 r_1 [0, 1, 4, 8, 9] 0 = some (.int x15) ∧ Ev d (0, 0) MX5_with [.long y14, .int ((x_4 * x15) + x_5), .int ((x6 * x7) + x13)] h12 (fun r16 h17 => ∃ y18 : Int64, r16 = some (.long y18) ∧ (∃ h19 : mH, m_ls h17 r_2 x_3 y18 = some h19 ∧ Wm (d + 1) b JX1_laidOver 34 [some (.ref r_0), some (.ref r_1), some (.ref r_2), some (.int x_3), some (.int x_4), some (.int (x_5 + 1)), none] [] h19 Q))))))))))))))) : Wm (d + 1) b JX1_laidOver 34 [some (.ref r_0), some (.ref r_1), some (.ref r_2), some (.int x_3), some (.int x_4), some (.int x_5), none] [] h Q := by
  refine m_iload dX1_laidOver_34 rfl ?_
  refine m_aload_n dX1_laidOver_36 rfl ?_
  obtain ⟨x1, e, hF⟩ := hF
  refine m_get fg_X1_7 dX1_laidOver_37 e ?_
  refine m_icmp_ge 99 dX1_laidOver_40 (by decide) (fun c => ?_) (fun c => ?_)
  · replace hF := hF.1 c
    refine m_iinc (v := x_4 + 1) (ls2 := [some (.ref r_0), some (.ref r_1), some (.ref r_2), some (.int x_3), some (.int (x_4 + 1)), some (.int x_5), none]) dX1_laidOver_99 (by decide) rfl (congrArg (_ + ·) ki_1) rfl ?_
    refine m_goto 22 dX1_laidOver_102 (by decide) ?_
    refine m_wk [5] rfl ?_
    exact hF
  · replace hF := hF.2 c
    refine m_aload_n dX1_laidOver_43 rfl ?_
    obtain ⟨r2, e, hF⟩ := hF
    refine m_get fg_X1_13 dX1_laidOver_44 e ?_
    refine m_iload_n dX1_laidOver_47 rfl ?_
    obtain ⟨y3, e, hF⟩ := hF
    refine m_lald dX1_laidOver_48 e ?_
    refine m_iload dX1_laidOver_49 rfl ?_
    refine m_static (as := [.long y3, .int x_4]) (rest := []) cs_X1_75 dX1_laidOver_51 rfl rfl (Nat.le_of_ble_eq_true rfl) (Nat.le_of_eq (Nat.zero_add _)) (Nat.le_of_eq (Nat.zero_add _)) (b1 := (0, 0)) (b2 := b) (Ev.mono hF ?_)
    intro r4 h5 hF
    obtain ⟨x6, rfl, hF⟩ := hF
    refine m_aload_n dX1_laidOver_54 rfl ?_
    obtain ⟨x7, e, hF⟩ := hF
    refine m_get fg_X1_7 dX1_laidOver_55 e ?_
    refine m_imul dX1_laidOver_58 ?_
    refine m_aload_n dX1_laidOver_59 rfl ?_
    refine m_iload_n dX1_laidOver_60 rfl ?_
    obtain ⟨c20, fs21, e, hc, hF⟩ := hF
    refine m_virtual (as := [.int x_3]) (rest := [.int (x6 * x7)]) (cw_X1_72 _ hc) e dX1_laidOver_61 rfl rfl (Nat.le_of_ble_eq_true rfl) (Nat.le_of_eq (Nat.zero_add _)) (Nat.le_of_eq (Nat.zero_add _)) (b1 := (0, 0)) (b2 := b) (Ev.mono hF ?_)
    intro r8 h9 hF
    obtain ⟨y10, rfl, hF⟩ := hF
    refine m_iload dX1_laidOver_64 rfl ?_
    refine m_static (as := [.long y10, .int x_5]) (rest := [.int (x6 * x7)]) cs_X1_75 dX1_laidOver_66 rfl rfl (Nat.le_of_ble_eq_true rfl) (Nat.le_of_eq (Nat.zero_add _)) (Nat.le_of_eq (Nat.zero_add _)) (b1 := (0, 0)) (b2 := b) (Ev.mono hF ?_)
    intro r11 h12 hF
    obtain ⟨x13, rfl, hF⟩ := hF
    refine m_iadd dX1_laidOver_69 ?_
    refine m_istore (ls2 := [some (.ref r_0), some (.ref r_1), some (.ref r_2), some (.int x_3), some (.int x_4), some (.int x_5), some (.int ((x6 * x7) + x13))]) dX1_laidOver_70 (by decide) rfl ?_
    refine m_aload_n dX1_laidOver_72 rfl ?_
    refine m_iload_n dX1_laidOver_73 rfl ?_
    refine m_aload_n dX1_laidOver_74 rfl ?_
    refine m_iload_n dX1_laidOver_75 rfl ?_
    obtain ⟨y14, e, hF⟩ := hF
    refine m_lald dX1_laidOver_76 e ?_
    refine m_iload dX1_laidOver_77 rfl ?_
    refine m_aload_n dX1_laidOver_79 rfl ?_
    obtain ⟨x15, e, hF⟩ := hF
    refine m_get fg_X1_7 dX1_laidOver_80 e ?_
    refine m_imul dX1_laidOver_83 ?_
    refine m_iload dX1_laidOver_84 rfl ?_
    refine m_iadd dX1_laidOver_86 ?_
    refine m_iload dX1_laidOver_87 rfl ?_
    refine m_static (as := [.long y14, .int ((x_4 * x15) + x_5), .int ((x6 * x7) + x13)]) (rest := [.int x_3, .ref r_2]) cs_X1_121 dX1_laidOver_89 rfl rfl (Nat.le_of_ble_eq_true rfl) (Nat.le_of_eq (Nat.zero_add _)) (Nat.le_of_eq (Nat.zero_add _)) (b1 := (0, 0)) (b2 := b) (Ev.mono hF ?_)
    intro r16 h17 hF
    obtain ⟨y18, rfl, hF⟩ := hF
    obtain ⟨h19, e, hF⟩ := hF
    refine m_last dX1_laidOver_92 e ?_
    refine m_iinc (v := x_5 + 1) (ls2 := [some (.ref r_0), some (.ref r_1), some (.ref r_2), some (.int x_3), some (.int x_4), some (.int (x_5 + 1)), some (.int ((x6 * x7) + x13))]) dX1_laidOver_93 (by decide) rfl (congrArg (_ + ·) ki_1) rfl ?_
    refine m_goto 34 dX1_laidOver_96 (by decide) ?_
    refine m_wk [6] rfl ?_
    exact hF
theorem en_X1_laidOver {d : Nat} {b : Nat × Nat} {r_0 : Nat} {r_1 : Nat} {h : mH} {K : Option Value → mH → Prop} (hk : Wm (d + 1) b JX1_laidOver 0 [some (.ref r_0), some (.ref r_1), none, none, none, none, none] [] h (fun r h' => h'.1 0 = h.1 0 ∧ K r h')) : Ev (d + 1) b MX1_laidOver [.ref r_0, .ref r_1] h K :=
  m_met pn_X1 nl_X1 (fun _ => Nat.le_of_ble_eq_true rfl) hk
theorem bk_X4_init_0 {d : Nat} (r_0 : Nat) (x_1 : Int32) (r_2 : Nat) (x_3 : Int32) {h : mH} {Q : Option Value → mH → Prop} (hF : Ev d (0, 0) MX0_init [.ref r_0, .int x_1, .ref r_2, .int x_3] h (fun r1 h2 => r1 = none ∧ Q none h2)) : Wm (d + 1) (0, 0) JX4_init 0 [some (.ref r_0), some (.int x_1), some (.ref r_2), some (.int x_3)] [] h Q := by
  refine m_aload_n dX4_init_0 rfl ?_
  refine m_iload_n dX4_init_1 rfl ?_
  refine m_aload_n dX4_init_2 rfl ?_
  refine m_iload_n dX4_init_3 rfl ?_
  refine m_special (as := [.int x_1, .ref r_2, .int x_3]) (rest := []) ci_X4_1 dX4_init_4 rfl rfl (Nat.le_of_ble_eq_true rfl) (Nat.le_of_eq (Nat.zero_add _)) (Nat.le_of_eq (Nat.zero_add _)) (b1 := (0, 0)) (b2 := (0, 0)) (Ev.mono hF ?_)
  intro r1 h2 hF
  obtain ⟨rfl, hF⟩ := hF
  exact m_return dX4_init_7 trivial hF
theorem en_X4_init {d : Nat} {r_0 : Nat} {x_1 : Int32} {r_2 : Nat} {x_3 : Int32} {h : mH} {K : Option Value → mH → Prop} (hk : Wm (d + 1) (0, 0) JX4_init 0 [some (.ref r_0), some (.int x_1), some (.ref r_2), some (.int x_3)] [] h (fun r h' => h'.1 0 = h.1 0 ∧ K r h')) : Ev (d + 1) (0, 0) MX4_init [.ref r_0, .int x_1, .ref r_2, .int x_3] h K :=
  m_met pn_X4 nl_X4 (fun _ => Nat.le_of_ble_eq_true rfl) hk
theorem bk_X4_kindNumber_0 {d : Nat} (r_0 : Nat) {h : mH} {Q : Option Value → mH → Prop} (hF : Q (some (.int 4)) h) : Wm d (0, 0) JX4_kindNumber 0 [some (.ref r_0)] [] h Q := by
  refine m_iconst dX4_kindNumber_0 ki_4 ?_
  exact m_ireturn dX4_kindNumber_1 trivial hF
theorem en_X4_kindNumber {d : Nat} {r_0 : Nat} {h : mH} {K : Option Value → mH → Prop} (hk : Wm d (0, 0) JX4_kindNumber 0 [some (.ref r_0)] [] h (fun r h' => h'.1 0 = h.1 0 ∧ K r h')) : Ev d (0, 0) MX4_kindNumber [.ref r_0] h K :=
  m_met pn_X4 nl_X4 (fun _ => Nat.le_of_ble_eq_true rfl) hk
theorem bk_X4_sizeAsked_0 {d : Nat} (r_0 : Nat) (r_1 : Nat) {h : mH} {Q : Option Value → mH → Prop} (hF : (∃ fs12 : List Value, (h).1 r_1 = .inr (6, fs12) ∧ Ev d (0, 0) MX7_add [.ref r_1, .int 14] h (fun r1 h2 => r1 = none ∧ (∃ (c10 : Nat) (fs11 : List Value), (h2).1 r_0 = .inr (c10, fs11) ∧ c10 < 12 ∧ Ev d (0, 0) MX0_sizeAsked [.ref r_0, .ref r_1] h2 (fun r3 h4 => ∃ x5 : Int32, r3 = some (.int x5) ∧ (∃ fs9 : List Value, (h4).1 r_0 = .inr (4, fs9) ∧ Ev d (0, 0) MX4_markAsked [.ref r_0, .ref r_1] h4 (fun r6 h7 => ∃ x8 : Int32, r6 = some (.int x8) ∧ Q (some (.int (x5 + x8))) h7))))))) : Wm (d + 1) (0, 0) JX4_sizeAsked 0 [some (.ref r_0), some (.ref r_1), none] [] h Q := by
  refine m_aload_n dX4_sizeAsked_0 rfl ?_
  refine m_bipush dX4_sizeAsked_1 kb_14 ?_
  obtain ⟨fs12, e, hF⟩ := hF
  refine m_virtual (as := [.int 14]) (rest := []) cv_X4_7_6 e dX4_sizeAsked_3 rfl rfl (Nat.le_of_ble_eq_true rfl) (Nat.le_of_eq (Nat.zero_add _)) (Nat.le_of_eq (Nat.zero_add _)) (b1 := (0, 0)) (b2 := (0, 0)) (Ev.mono hF ?_)
  intro r1 h2 hF
  obtain ⟨rfl, hF⟩ := hF
  refine m_aload_n dX4_sizeAsked_6 rfl ?_
  refine m_aload_n dX4_sizeAsked_7 rfl ?_
  obtain ⟨c10, fs11, e, hc, hF⟩ := hF
  refine m_super (as := [.ref r_1]) (rest := []) cu_X4_13 e (Nat.lt_of_lt_of_le hc (by decide)) dX4_sizeAsked_8 rfl rfl (Nat.le_of_ble_eq_true rfl) (Nat.le_of_eq (Nat.zero_add _)) (Nat.le_of_eq (Nat.zero_add _)) (b1 := (0, 0)) (b2 := (0, 0)) (Ev.mono hF ?_)
  intro r3 h4 hF
  obtain ⟨x5, rfl, hF⟩ := hF
  refine m_istore_n (ls2 := [some (.ref r_0), some (.ref r_1), some (.int x5)]) dX4_sizeAsked_11 (by decide) rfl ?_
  refine m_iload_n dX4_sizeAsked_12 rfl ?_
  refine m_aload_n dX4_sizeAsked_13 rfl ?_
  refine m_aload_n dX4_sizeAsked_14 rfl ?_
  obtain ⟨fs9, e, hF⟩ := hF
  refine m_virtual (as := [.ref r_1]) (rest := [.int x5]) cv_X4_17_4 e dX4_sizeAsked_15 rfl rfl (Nat.le_of_ble_eq_true rfl) (Nat.le_of_eq (Nat.zero_add _)) (Nat.le_of_eq (Nat.zero_add _)) (b1 := (0, 0)) (b2 := (0, 0)) (Ev.mono hF ?_)
  intro r6 h7 hF
  obtain ⟨x8, rfl, hF⟩ := hF
  refine m_iadd dX4_sizeAsked_18 ?_
  exact m_ireturn dX4_sizeAsked_19 trivial hF
theorem en_X4_sizeAsked {d : Nat} {r_0 : Nat} {r_1 : Nat} {h : mH} {K : Option Value → mH → Prop} (hk : Wm (d + 1) (0, 0) JX4_sizeAsked 0 [some (.ref r_0), some (.ref r_1), none] [] h (fun r h' => h'.1 0 = h.1 0 ∧ K r h')) : Ev (d + 1) (0, 0) MX4_sizeAsked [.ref r_0, .ref r_1] h K :=
  m_met pn_X4 nl_X4 (fun _ => Nat.le_of_ble_eq_true rfl) hk
theorem bk_X4_markAsked_0 {d : Nat} (r_0 : Nat) (r_1 : Nat) {h : mH} {Q : Option Value → mH → Prop} (hF : (∃ fs12 : List Value, (h).1 r_1 = .inr (6, fs12) ∧ Ev d (0, 0) MX7_add [.ref r_1, .int 22] h (fun r1 h2 => r1 = none ∧ (∃ (c10 : Nat) (fs11 : List Value), (h2).1 r_0 = .inr (c10, fs11) ∧ c10 < 12 ∧ Ev d (0, 0) MX10_markAsked [.ref r_0, .ref r_1] h2 (fun r3 h4 => ∃ x5 : Int32, r3 = some (.int x5) ∧ (∃ fs9 : List Value, (h4).1 r_0 = .inr (4, fs9) ∧ Ev d (0, 0) MX1_rounds [.ref r_0, .int 2] h4 (fun r6 h7 => ∃ x8 : Int32, r6 = some (.int x8) ∧ Q (some (.int (x5 + x8))) h7))))))) : Wm (d + 1) (0, 0) JX4_markAsked 0 [some (.ref r_0), some (.ref r_1)] [] h Q := by
  refine m_aload_n dX4_markAsked_0 rfl ?_
  refine m_bipush dX4_markAsked_1 kb_22 ?_
  obtain ⟨fs12, e, hF⟩ := hF
  refine m_virtual (as := [.int 22]) (rest := []) cv_X4_7_6 e dX4_markAsked_3 rfl rfl (Nat.le_of_ble_eq_true rfl) (Nat.le_of_eq (Nat.zero_add _)) (Nat.le_of_eq (Nat.zero_add _)) (b1 := (0, 0)) (b2 := (0, 0)) (Ev.mono hF ?_)
  intro r1 h2 hF
  obtain ⟨rfl, hF⟩ := hF
  refine m_aload_n dX4_markAsked_6 rfl ?_
  refine m_aload_n dX4_markAsked_7 rfl ?_
  obtain ⟨c10, fs11, e, hc, hF⟩ := hF
  refine m_super (as := [.ref r_1]) (rest := []) cu_X4_22 e (Nat.lt_of_lt_of_le hc (by decide)) dX4_markAsked_8 rfl rfl (Nat.le_of_ble_eq_true rfl) (Nat.le_of_eq (Nat.zero_add _)) (Nat.le_of_eq (Nat.zero_add _)) (b1 := (0, 0)) (b2 := (0, 0)) (Ev.mono hF ?_)
  intro r3 h4 hF
  obtain ⟨x5, rfl, hF⟩ := hF
  refine m_aload_n dX4_markAsked_11 rfl ?_
  refine m_iconst dX4_markAsked_12 ki_2 ?_
  obtain ⟨fs9, e, hF⟩ := hF
  refine m_virtual (as := [.int 2]) (rest := [.int x5]) cv_X4_23_4 e dX4_markAsked_13 rfl rfl (Nat.le_of_ble_eq_true rfl) (Nat.le_of_eq (Nat.zero_add _)) (Nat.le_of_eq (Nat.zero_add _)) (b1 := (0, 0)) (b2 := (0, 0)) (Ev.mono hF ?_)
  intro r6 h7 hF
  obtain ⟨x8, rfl, hF⟩ := hF
  refine m_iadd dX4_markAsked_16 ?_
  exact m_ireturn dX4_markAsked_17 trivial hF
theorem en_X4_markAsked {d : Nat} {r_0 : Nat} {r_1 : Nat} {h : mH} {K : Option Value → mH → Prop} (hk : Wm (d + 1) (0, 0) JX4_markAsked 0 [some (.ref r_0), some (.ref r_1)] [] h (fun r h' => h'.1 0 = h.1 0 ∧ K r h')) : Ev (d + 1) (0, 0) MX4_markAsked [.ref r_0, .ref r_1] h K :=
  m_met pn_X4 nl_X4 (fun _ => Nat.le_of_ble_eq_true rfl) hk
theorem bk_X9_init_0 {d : Nat} (r_0 : Nat) (x_1 : Int32) (r_2 : Nat) (x_3 : Int32) {h : mH} {Q : Option Value → mH → Prop} (hF : Ev d (0, 0) MX1_init [.ref r_0, .int x_1, .ref r_2, .int x_3] h (fun r1 h2 => r1 = none ∧ Q none h2)) : Wm (d + 1) (0, 0) JX9_init 0 [some (.ref r_0), some (.int x_1), some (.ref r_2), some (.int x_3)] [] h Q := by
  refine m_aload_n dX9_init_0 rfl ?_
  refine m_iload_n dX9_init_1 rfl ?_
  refine m_aload_n dX9_init_2 rfl ?_
  refine m_iload_n dX9_init_3 rfl ?_
  refine m_special (as := [.int x_1, .ref r_2, .int x_3]) (rest := []) ci_X9_1 dX9_init_4 rfl rfl (Nat.le_of_ble_eq_true rfl) (Nat.le_of_eq (Nat.zero_add _)) (Nat.le_of_eq (Nat.zero_add _)) (b1 := (0, 0)) (b2 := (0, 0)) (Ev.mono hF ?_)
  intro r1 h2 hF
  obtain ⟨rfl, hF⟩ := hF
  exact m_return dX9_init_7 trivial hF
theorem en_X9_init {d : Nat} {r_0 : Nat} {x_1 : Int32} {r_2 : Nat} {x_3 : Int32} {h : mH} {K : Option Value → mH → Prop} (hk : Wm (d + 1) (0, 0) JX9_init 0 [some (.ref r_0), some (.int x_1), some (.ref r_2), some (.int x_3)] [] h (fun r h' => h'.1 0 = h.1 0 ∧ K r h')) : Ev (d + 1) (0, 0) MX9_init [.ref r_0, .int x_1, .ref r_2, .int x_3] h K :=
  m_met pn_X9 nl_X9 (fun _ => Nat.le_of_ble_eq_true rfl) hk
theorem bk_X9_kindNumber_0 {d : Nat} (r_0 : Nat) {h : mH} {Q : Option Value → mH → Prop} (hF : Q (some (.int 1)) h) : Wm d (0, 0) JX9_kindNumber 0 [some (.ref r_0)] [] h Q := by
  refine m_iconst dX9_kindNumber_0 ki_1 ?_
  exact m_ireturn dX9_kindNumber_1 trivial hF
theorem en_X9_kindNumber {d : Nat} {r_0 : Nat} {h : mH} {K : Option Value → mH → Prop} (hk : Wm d (0, 0) JX9_kindNumber 0 [some (.ref r_0)] [] h (fun r h' => h'.1 0 = h.1 0 ∧ K r h')) : Ev d (0, 0) MX9_kindNumber [.ref r_0] h K :=
  m_met pn_X9 nl_X9 (fun _ => Nat.le_of_ble_eq_true rfl) hk
theorem bk_X9_sizeAsked_0 {d : Nat} (r_0 : Nat) (r_1 : Nat) {h : mH} {Q : Option Value → mH → Prop} (hF : (∃ fs10 : List Value, (h).1 r_1 = .inr (6, fs10) ∧ Ev d (0, 0) MX7_add [.ref r_1, .int 11] h (fun r1 h2 => r1 = none ∧ (∃ (c8 : Nat) (fs9 : List Value), (h2).1 r_0 = .inr (c8, fs9) ∧ c8 < 12 ∧ Ev d (0, 0) MX1_sizeAsked [.ref r_0, .ref r_1] h2 (fun r3 h4 => ∃ x5 : Int32, r3 = some (.int x5) ∧ (∃ r6 : Nat, m_fld h4 r_0 [8] 1 = some (.ref r6) ∧ (∃ n7 : Nat, m_len h4 r6 = some n7 ∧ Q (some (.int (x5 + (nI n7)))) h4))))))) : Wm (d + 1) (0, 0) JX9_sizeAsked 0 [some (.ref r_0), some (.ref r_1)] [] h Q := by
  refine m_aload_n dX9_sizeAsked_0 rfl ?_
  refine m_bipush dX9_sizeAsked_1 kb_11 ?_
  obtain ⟨fs10, e, hF⟩ := hF
  refine m_virtual (as := [.int 11]) (rest := []) cv_X9_7_6 e dX9_sizeAsked_3 rfl rfl (Nat.le_of_ble_eq_true rfl) (Nat.le_of_eq (Nat.zero_add _)) (Nat.le_of_eq (Nat.zero_add _)) (b1 := (0, 0)) (b2 := (0, 0)) (Ev.mono hF ?_)
  intro r1 h2 hF
  obtain ⟨rfl, hF⟩ := hF
  refine m_aload_n dX9_sizeAsked_6 rfl ?_
  refine m_aload_n dX9_sizeAsked_7 rfl ?_
  obtain ⟨c8, fs9, e, hc, hF⟩ := hF
  refine m_super (as := [.ref r_1]) (rest := []) cu_X9_13 e (Nat.lt_of_lt_of_le hc (by decide)) dX9_sizeAsked_8 rfl rfl (Nat.le_of_ble_eq_true rfl) (Nat.le_of_eq (Nat.zero_add _)) (Nat.le_of_eq (Nat.zero_add _)) (b1 := (0, 0)) (b2 := (0, 0)) (Ev.mono hF ?_)
  intro r3 h4 hF
  obtain ⟨x5, rfl, hF⟩ := hF
  refine m_aload_n dX9_sizeAsked_11 rfl ?_
  obtain ⟨r6, e, hF⟩ := hF
  refine m_get fg_X9_17 dX9_sizeAsked_12 e ?_
  obtain ⟨n7, e, hF⟩ := hF
  refine m_alen dX9_sizeAsked_15 e ?_
  refine m_iadd dX9_sizeAsked_16 ?_
  exact m_ireturn dX9_sizeAsked_17 trivial hF
theorem en_X9_sizeAsked {d : Nat} {r_0 : Nat} {r_1 : Nat} {h : mH} {K : Option Value → mH → Prop} (hk : Wm (d + 1) (0, 0) JX9_sizeAsked 0 [some (.ref r_0), some (.ref r_1)] [] h (fun r h' => h'.1 0 = h.1 0 ∧ K r h')) : Ev (d + 1) (0, 0) MX9_sizeAsked [.ref r_0, .ref r_1] h K :=
  m_met pn_X9 nl_X9 (fun _ => Nat.le_of_ble_eq_true rfl) hk
theorem bk_X10_init_0 {d : Nat} (r_0 : Nat) (x_1 : Int32) (r_2 : Nat) (x_3 : Int32) {h : mH} {Q : Option Value → mH → Prop} (hF : Ev d (0, 0) MX1_init [.ref r_0, .int x_1, .ref r_2, .int x_3] h (fun r1 h2 => r1 = none ∧ Q none h2)) : Wm (d + 1) (0, 0) JX10_init 0 [some (.ref r_0), some (.int x_1), some (.ref r_2), some (.int x_3)] [] h Q := by
  refine m_aload_n dX10_init_0 rfl ?_
  refine m_iload_n dX10_init_1 rfl ?_
  refine m_aload_n dX10_init_2 rfl ?_
  refine m_iload_n dX10_init_3 rfl ?_
  refine m_special (as := [.int x_1, .ref r_2, .int x_3]) (rest := []) ci_X10_1 dX10_init_4 rfl rfl (Nat.le_of_ble_eq_true rfl) (Nat.le_of_eq (Nat.zero_add _)) (Nat.le_of_eq (Nat.zero_add _)) (b1 := (0, 0)) (b2 := (0, 0)) (Ev.mono hF ?_)
  intro r1 h2 hF
  obtain ⟨rfl, hF⟩ := hF
  exact m_return dX10_init_7 trivial hF
theorem en_X10_init {d : Nat} {r_0 : Nat} {x_1 : Int32} {r_2 : Nat} {x_3 : Int32} {h : mH} {K : Option Value → mH → Prop} (hk : Wm (d + 1) (0, 0) JX10_init 0 [some (.ref r_0), some (.int x_1), some (.ref r_2), some (.int x_3)] [] h (fun r h' => h'.1 0 = h.1 0 ∧ K r h')) : Ev (d + 1) (0, 0) MX10_init [.ref r_0, .int x_1, .ref r_2, .int x_3] h K :=
  m_met pn_X10 nl_X10 (fun _ => Nat.le_of_ble_eq_true rfl) hk
theorem bk_X10_kindNumber_0 {d : Nat} (r_0 : Nat) {h : mH} {Q : Option Value → mH → Prop} (hF : Q (some (.int 2)) h) : Wm d (0, 0) JX10_kindNumber 0 [some (.ref r_0)] [] h Q := by
  refine m_iconst dX10_kindNumber_0 ki_2 ?_
  exact m_ireturn dX10_kindNumber_1 trivial hF
theorem en_X10_kindNumber {d : Nat} {r_0 : Nat} {h : mH} {K : Option Value → mH → Prop} (hk : Wm d (0, 0) JX10_kindNumber 0 [some (.ref r_0)] [] h (fun r h' => h'.1 0 = h.1 0 ∧ K r h')) : Ev d (0, 0) MX10_kindNumber [.ref r_0] h K :=
  m_met pn_X10 nl_X10 (fun _ => Nat.le_of_ble_eq_true rfl) hk
theorem bk_X10_sizeAsked_0 {d : Nat} (r_0 : Nat) (r_1 : Nat) {h : mH} {Q : Option Value → mH → Prop} (hF : (∃ fs13 : List Value, (h).1 r_1 = .inr (6, fs13) ∧ Ev d (0, 0) MX7_add [.ref r_1, .int 12] h (fun r1 h2 => r1 = none ∧ (∃ (c11 : Nat) (fs12 : List Value), (h2).1 r_0 = .inr (c11, fs12) ∧ c11 < 12 ∧ Ev d (0, 0) MX1_sizeAsked [.ref r_0, .ref r_1] h2 (fun r3 h4 => ∃ x5 : Int32, r3 = some (.int x5) ∧ (∃ (c9 : Nat) (fs10 : List Value), (h4).1 r_0 = .inr (c9, fs10) ∧ c9 ∈ [0, 4, 9] ∧ Ev d (0, 0) MX1_rounds [.ref r_0, .int 0] h4 (fun r6 h7 => ∃ x8 : Int32, r6 = some (.int x8) ∧ Q (some (.int (x5 + x8))) h7))))))) : Wm (d + 1) (0, 0) JX10_sizeAsked 0 [some (.ref r_0), some (.ref r_1)] [] h Q := by
  refine m_aload_n dX10_sizeAsked_0 rfl ?_
  refine m_bipush dX10_sizeAsked_1 kb_12 ?_
  obtain ⟨fs13, e, hF⟩ := hF
  refine m_virtual (as := [.int 12]) (rest := []) cv_X10_7_6 e dX10_sizeAsked_3 rfl rfl (Nat.le_of_ble_eq_true rfl) (Nat.le_of_eq (Nat.zero_add _)) (Nat.le_of_eq (Nat.zero_add _)) (b1 := (0, 0)) (b2 := (0, 0)) (Ev.mono hF ?_)
  intro r1 h2 hF
  obtain ⟨rfl, hF⟩ := hF
  refine m_aload_n dX10_sizeAsked_6 rfl ?_
  refine m_aload_n dX10_sizeAsked_7 rfl ?_
  obtain ⟨c11, fs12, e, hc, hF⟩ := hF
  refine m_super (as := [.ref r_1]) (rest := []) cu_X10_13 e (Nat.lt_of_lt_of_le hc (by decide)) dX10_sizeAsked_8 rfl rfl (Nat.le_of_ble_eq_true rfl) (Nat.le_of_eq (Nat.zero_add _)) (Nat.le_of_eq (Nat.zero_add _)) (b1 := (0, 0)) (b2 := (0, 0)) (Ev.mono hF ?_)
  intro r3 h4 hF
  obtain ⟨x5, rfl, hF⟩ := hF
  refine m_aload_n dX10_sizeAsked_11 rfl ?_
  refine m_iconst dX10_sizeAsked_12 ki_0 ?_
  obtain ⟨c9, fs10, e, hc, hF⟩ := hF
  refine m_virtual (as := [.int 0]) (rest := [.int x5]) (cw_X10_17 _ hc) e dX10_sizeAsked_13 rfl rfl (Nat.le_of_ble_eq_true rfl) (Nat.le_of_eq (Nat.zero_add _)) (Nat.le_of_eq (Nat.zero_add _)) (b1 := (0, 0)) (b2 := (0, 0)) (Ev.mono hF ?_)
  intro r6 h7 hF
  obtain ⟨x8, rfl, hF⟩ := hF
  refine m_iadd dX10_sizeAsked_16 ?_
  exact m_ireturn dX10_sizeAsked_17 trivial hF
theorem en_X10_sizeAsked {d : Nat} {r_0 : Nat} {r_1 : Nat} {h : mH} {K : Option Value → mH → Prop} (hk : Wm (d + 1) (0, 0) JX10_sizeAsked 0 [some (.ref r_0), some (.ref r_1)] [] h (fun r h' => h'.1 0 = h.1 0 ∧ K r h')) : Ev (d + 1) (0, 0) MX10_sizeAsked [.ref r_0, .ref r_1] h K :=
  m_met pn_X10 nl_X10 (fun _ => Nat.le_of_ble_eq_true rfl) hk
theorem bk_X10_markAsked_0 {d : Nat} (r_0 : Nat) (r_1 : Nat) {h : mH} {Q : Option Value → mH → Prop} (hF : (∃ fs8 : List Value, (h).1 r_1 = .inr (6, fs8) ∧ Ev d (0, 0) MX7_add [.ref r_1, .int 21] h (fun r1 h2 => r1 = none ∧ (∃ (c6 : Nat) (fs7 : List Value), (h2).1 r_0 = .inr (c6, fs7) ∧ c6 < 12 ∧ Ev d (0, 0) MX1_markAsked [.ref r_0, .ref r_1] h2 (fun r3 h4 => ∃ x5 : Int32, r3 = some (.int x5) ∧ Q (some (.int (x5 + 100))) h4))))) : Wm (d + 1) (0, 0) JX10_markAsked 0 [some (.ref r_0), some (.ref r_1)] [] h Q := by
  refine m_aload_n dX10_markAsked_0 rfl ?_
  refine m_bipush dX10_markAsked_1 kb_21 ?_
  obtain ⟨fs8, e, hF⟩ := hF
  refine m_virtual (as := [.int 21]) (rest := []) cv_X10_7_6 e dX10_markAsked_3 rfl rfl (Nat.le_of_ble_eq_true rfl) (Nat.le_of_eq (Nat.zero_add _)) (Nat.le_of_eq (Nat.zero_add _)) (b1 := (0, 0)) (b2 := (0, 0)) (Ev.mono hF ?_)
  intro r1 h2 hF
  obtain ⟨rfl, hF⟩ := hF
  refine m_aload_n dX10_markAsked_6 rfl ?_
  refine m_aload_n dX10_markAsked_7 rfl ?_
  obtain ⟨c6, fs7, e, hc, hF⟩ := hF
  refine m_super (as := [.ref r_1]) (rest := []) cu_X10_23 e (Nat.lt_of_lt_of_le hc (by decide)) dX10_markAsked_8 rfl rfl (Nat.le_of_ble_eq_true rfl) (Nat.le_of_eq (Nat.zero_add _)) (Nat.le_of_eq (Nat.zero_add _)) (b1 := (0, 0)) (b2 := (0, 0)) (Ev.mono hF ?_)
  intro r3 h4 hF
  obtain ⟨x5, rfl, hF⟩ := hF
  refine m_bipush dX10_markAsked_11 kb_100 ?_
  refine m_iadd dX10_markAsked_13 ?_
  exact m_ireturn dX10_markAsked_14 trivial hF
theorem en_X10_markAsked {d : Nat} {r_0 : Nat} {r_1 : Nat} {h : mH} {K : Option Value → mH → Prop} (hk : Wm (d + 1) (0, 0) JX10_markAsked 0 [some (.ref r_0), some (.ref r_1)] [] h (fun r h' => h'.1 0 = h.1 0 ∧ K r h')) : Ev (d + 1) (0, 0) MX10_markAsked [.ref r_0, .ref r_1] h K :=
  m_met pn_X10 nl_X10 (fun _ => Nat.le_of_ble_eq_true rfl) hk

theorem bk_X2_init_0 {d : Nat} {b : Nat × Nat} (r_0 : Nat) {h : mH} {Q : Option Value → mH → Prop} (hF : (∃ n1 : Nat, ¬ (66 : Int32) < 0 ∧ (66 : Int32).toNatClampNeg = n1 ∧ n1 ≤ 100000 ∧ 1 ≤ b.1 ∧ n1 ≤ b.2 ∧ ∀ h2 : mH, h2 = (m_up h.1 h.2 (.inl (1, n1, .inr (.inl fun _ => 0))), h.2 + 1) → (∃ h3 : mH, m_put h2 r_0 2 0 (.ref h.2) = some h3 ∧ (∃ n4 : Nat, ¬ (144 : Int32) < 0 ∧ (144 : Int32).toNatClampNeg = n4 ∧ n4 ≤ 100000 ∧ 1 ≤ b.1 - 1 ∧ n4 ≤ b.2 - n1 ∧ ∀ h5 : mH, h5 = (m_up h3.1 h3.2 (.inl (1, n4, .inr (.inl fun _ => 0))), h3.2 + 1) → (∃ h6 : mH, m_put h5 r_0 2 1 (.ref h3.2) = some h6 ∧ Q none h6))))) : Wm (d + 1) b JX2_init 0 [some (.ref r_0)] [] h Q := by
  refine m_aload_n dX2_init_0 rfl ?_
  refine m_objinit ol_X2_3 oi_1 oi_2 dX2_init_1 (Nat.le_of_ble_eq_true rfl) ?_
  refine m_aload_n dX2_init_4 rfl ?_
  refine m_bipush dX2_init_5 kb_66 ?_
  obtain ⟨n1, e1, e2, e3, e4, e5, hF⟩ := hF
  refine m_newarr (t := 1) (b2 := (b.1 - 1, b.2 - n1)) dX2_init_7 e1 e2 e3 (Or.inr (Or.inl ⟨rfl, rfl, rfl⟩)) ac_long (Nat.le_of_eq (Nat.sub_add_cancel e4)) (Nat.le_of_eq (Nat.sub_add_cancel e5)) ?_
  replace hF := hF _ rfl
  generalize (m_up h.1 h.2 (.inl (1, n1, .inr (.inl fun _ => 0))), h.2 + 1) = h2 at hF ⊢
  obtain ⟨h3, e, hF⟩ := hF
  refine m_putfF fp_X2_11_2 rfl dX2_init_9 trivial e ?_
  refine m_aload_n dX2_init_12 rfl ?_
  refine m_sipush dX2_init_13 ks_144 ?_
  obtain ⟨n4, e1, e2, e3, e4, e5, hF⟩ := hF
  refine m_newarr (t := 1) (b2 := (b.1 - 1 - 1, b.2 - n1 - n4)) dX2_init_16 e1 e2 e3 (Or.inr (Or.inl ⟨rfl, rfl, rfl⟩)) ac_long (Nat.le_of_eq (Nat.sub_add_cancel e4)) (Nat.le_of_eq (Nat.sub_add_cancel e5)) ?_
  replace hF := hF _ rfl
  generalize (m_up h3.1 h3.2 (.inl (1, n4, .inr (.inl fun _ => 0))), h3.2 + 1) = h5 at hF ⊢
  obtain ⟨h6, e, hF⟩ := hF
  refine m_putfF fp_X2_15_2 rfl dX2_init_18 trivial e ?_
  exact m_return dX2_init_21 trivial hF
theorem en_X2_init {d : Nat} {b : Nat × Nat} {r_0 : Nat} {h : mH} {K : Option Value → mH → Prop} (hk : Wm (d + 1) b JX2_init 0 [some (.ref r_0)] [] h (fun r h' => h'.1 0 = h.1 0 ∧ K r h')) : Ev (d + 1) b MX2_init [.ref r_0] h K :=
  m_met pn_X2 nl_X2 (fun _ => Nat.le_of_ble_eq_true rfl) hk
theorem bk_X2_orders_0 {d : Nat} (r_0 : Nat) (r_1 : Nat) {h : mH} {Q : Option Value → mH → Prop} (hF : (∃ x1 : Int32, m_fld h r_1 [0, 1, 4, 8, 9] 0 = some (.int x1) ∧ (∃ h2 : mH, m_put h r_0 2 2 (.int 0) = some h2 ∧ (∃ r3 : Nat, m_fld h2 r_0 [2] 1 = some (.ref r3) ∧ Ev d (0, 0) MJ7_fill_d0a16 [.ref r3, .long 0] h2 (fun r4 h5 => r4 = none ∧ Wm (d + 1) (0, 0) JX2_orders 20 [some (.ref r_0), some (.ref r_1), some (.int x1), some (.int 0), none] [] h5 Q))))) : Wm (d + 1) (0, 0) JX2_orders 0 [some (.ref r_0), some (.ref r_1), none, none, none] [] h Q := by
  refine m_aload_n dX2_orders_0 rfl ?_
  obtain ⟨x1, e, hF⟩ := hF
  refine m_get fg_X2_18 dX2_orders_1 e ?_
  refine m_istore_n (ls2 := [some (.ref r_0), some (.ref r_1), some (.int x1), none, none]) dX2_orders_4 (by decide) rfl ?_
  refine m_aload_n dX2_orders_5 rfl ?_
  refine m_iconst dX2_orders_6 ki_0 ?_
  obtain ⟨h2, e, hF⟩ := hF
  refine m_putf fp_X2_24_2 dX2_orders_7 trivial e ?_
  refine m_aload_n dX2_orders_10 rfl ?_
  obtain ⟨r3, e, hF⟩ := hF
  refine m_get fg_X2_15 dX2_orders_11 e ?_
  refine m_lconst dX2_orders_14 kl_0 ?_
  refine m_static (as := [.ref r3, .long 0]) (rest := []) cs_X2_27 dX2_orders_15 rfl rfl (Nat.le_of_ble_eq_true rfl) (Nat.le_of_eq (Nat.zero_add _)) (Nat.le_of_eq (Nat.zero_add _)) (b1 := (0, 0)) (b2 := (0, 0)) (Ev.mono hF ?_)
  intro r4 h5 hF
  obtain ⟨rfl, hF⟩ := hF
  refine m_iconst dX2_orders_18 ki_0 ?_
  refine m_istore_n (ls2 := [some (.ref r_0), some (.ref r_1), some (.int x1), some (.int 0), none]) dX2_orders_19 (by decide) rfl ?_
  exact hF
theorem bk_X2_orders_20 {d : Nat} (r_0 : Nat) (r_1 : Nat) (x_2 : Int32) (x_3 : Int32) {h : mH} {Q : Option Value → mH → Prop} (hF : (∃ r1 : Nat, m_fld h r_1 [0, 1, 4, 8, 9] 1 = some (.ref r1) ∧ (∃ n2 : Nat, m_len h r1 = some n2 ∧ (((nI n2) ≤ x_3 → Wm (d + 1) (0, 0) JX2_orders 48 [some (.ref r_0), none, some (.int x_2), some (.int 0), none] [] h Q) ∧ (¬ ((nI n2) ≤ x_3) → (∃ r3 : Nat, m_fld h r_1 [0, 1, 4, 8, 9] 1 = some (.ref r3) ∧ (∃ y4 : Int64, m_ll h r3 x_3 = some y4 ∧ (∃ fs7 : List Value, (h).1 r_0 = .inr (2, fs7) ∧ Ev d (0, 0) MX2_sift [.ref r_0, .long y4, .int x_2] h (fun r5 h6 => r5 = none ∧ Wm (d + 1) (0, 0) JX2_orders 20 [some (.ref r_0), some (.ref r_1), some (.int x_2), some (.int (x_3 + 1)), none] [] h6 Q))))))))) : Wm (d + 1) (0, 0) JX2_orders 20 [some (.ref r_0), some (.ref r_1), some (.int x_2), some (.int x_3), none] [] h Q := by
  refine m_iload_n dX2_orders_20 rfl ?_
  refine m_aload_n dX2_orders_21 rfl ?_
  obtain ⟨r1, e, hF⟩ := hF
  refine m_get fg_X2_33 dX2_orders_22 e ?_
  obtain ⟨n2, e, hF⟩ := hF
  refine m_alen dX2_orders_25 e ?_
  refine m_icmp_ge 46 dX2_orders_26 (by decide) (fun c => ?_) (fun c => ?_)
  · replace hF := hF.1 c
    refine m_iconst dX2_orders_46 ki_0 ?_
    refine m_istore_n (ls2 := [some (.ref r_0), some (.ref r_1), some (.int x_2), some (.int 0), none]) dX2_orders_47 (by decide) rfl ?_
    refine m_wk [1] rfl ?_
    exact hF
  · replace hF := hF.2 c
    refine m_aload_n dX2_orders_29 rfl ?_
    refine m_aload_n dX2_orders_30 rfl ?_
    obtain ⟨r3, e, hF⟩ := hF
    refine m_get fg_X2_33 dX2_orders_31 e ?_
    refine m_iload_n dX2_orders_34 rfl ?_
    obtain ⟨y4, e, hF⟩ := hF
    refine m_lald dX2_orders_35 e ?_
    refine m_iload_n dX2_orders_36 rfl ?_
    obtain ⟨fs7, e, hF⟩ := hF
    refine m_virtual (as := [.long y4, .int x_2]) (rest := []) cv_X2_36_2 e dX2_orders_37 rfl rfl (Nat.le_of_ble_eq_true rfl) (Nat.le_of_eq (Nat.zero_add _)) (Nat.le_of_eq (Nat.zero_add _)) (b1 := (0, 0)) (b2 := (0, 0)) (Ev.mono hF ?_)
    intro r5 h6 hF
    obtain ⟨rfl, hF⟩ := hF
    refine m_iinc (v := x_3 + 1) (ls2 := [some (.ref r_0), some (.ref r_1), some (.int x_2), some (.int (x_3 + 1)), none]) dX2_orders_40 (by decide) rfl (congrArg (_ + ·) ki_1) rfl ?_
    refine m_goto 20 dX2_orders_43 (by decide) ?_
    exact hF
theorem bk_X2_orders_48 {d : Nat} (r_0 : Nat) (x_2 : Int32) (x_3 : Int32) {h : mH} {Q : Option Value → mH → Prop} (hF : (∃ x1 : Int32, m_fld h r_0 [2] 2 = some (.int x1) ∧ ((x1 ≤ x_3 → (∃ fs5 : List Value, (h).1 r_0 = .inr (2, fs5) ∧ Ev d (0, 0) MX2_product [.ref r_0, .int x_2] h (fun r2 h3 => ∃ x4 : Int32, r2 = some (.int x4) ∧ Q (some (.int x4)) h3))) ∧ (¬ (x1 ≤ x_3) → ((66 ≤ x_3 → (∃ fs9 : List Value, (h).1 r_0 = .inr (2, fs9) ∧ Ev d (0, 0) MX2_product [.ref r_0, .int x_2] h (fun r6 h7 => ∃ x8 : Int32, r6 = some (.int x8) ∧ Q (some (.int x8)) h7))) ∧ (¬ (66 ≤ x_3) → Wm (d + 1) (0, 0) JX2_orders 65 [some (.ref r_0), none, some (.int x_2), some (.int x_3), some (.int 0)] [] h Q)))))) : Wm (d + 1) (0, 0) JX2_orders 48 [some (.ref r_0), none, some (.int x_2), some (.int x_3), none] [] h Q := by
  refine m_iload_n dX2_orders_48 rfl ?_
  refine m_aload_n dX2_orders_49 rfl ?_
  obtain ⟨x1, e, hF⟩ := hF
  refine m_get fg_X2_24 dX2_orders_50 e ?_
  refine m_icmp_ge 127 dX2_orders_53 (by decide) (fun c => ?_) (fun c => ?_)
  · replace hF := hF.1 c
    refine m_aload_n dX2_orders_127 rfl ?_
    refine m_iload_n dX2_orders_128 rfl ?_
    obtain ⟨fs5, e, hF⟩ := hF
    refine m_virtual (as := [.int x_2]) (rest := []) cv_X2_46_2 e dX2_orders_129 rfl rfl (Nat.le_of_ble_eq_true rfl) (Nat.le_of_eq (Nat.zero_add _)) (Nat.le_of_eq (Nat.zero_add _)) (b1 := (0, 0)) (b2 := (0, 0)) (Ev.mono hF ?_)
    intro r2 h3 hF
    obtain ⟨x4, rfl, hF⟩ := hF
    exact m_ireturn dX2_orders_132 trivial hF
  · replace hF := hF.2 c
    refine m_iload_n dX2_orders_56 rfl ?_
    refine m_bipush dX2_orders_57 kb_66 ?_
    refine m_icmp_ge 127 dX2_orders_59 (by decide) (fun c => ?_) (fun c => ?_)
    · replace hF := hF.1 c
      refine m_aload_n dX2_orders_127 rfl ?_
      refine m_iload_n dX2_orders_128 rfl ?_
      obtain ⟨fs9, e, hF⟩ := hF
      refine m_virtual (as := [.int x_2]) (rest := []) cv_X2_46_2 e dX2_orders_129 rfl rfl (Nat.le_of_ble_eq_true rfl) (Nat.le_of_eq (Nat.zero_add _)) (Nat.le_of_eq (Nat.zero_add _)) (b1 := (0, 0)) (b2 := (0, 0)) (Ev.mono hF ?_)
      intro r6 h7 hF
      obtain ⟨x8, rfl, hF⟩ := hF
      exact m_ireturn dX2_orders_132 trivial hF
    · replace hF := hF.2 c
      refine m_iconst dX2_orders_62 ki_0 ?_
      refine m_istore (ls2 := [some (.ref r_0), none, some (.int x_2), some (.int x_3), some (.int 0)]) dX2_orders_63 (by decide) rfl ?_
      exact hF
theorem bk_X2_orders_65 {d : Nat} (r_0 : Nat) (x_2 : Int32) (x_3 : Int32) (x_4 : Int32) {h : mH} {Q : Option Value → mH → Prop} (hF : ((x_3 < x_4 → Wm (d + 1) (0, 0) JX2_orders 48 [some (.ref r_0), none, some (.int x_2), some (.int (x_3 + 1)), none] [] h Q) ∧ (¬ (x_3 < x_4) → (∃ r1 : Nat, m_fld h r_0 [2] 0 = some (.ref r1) ∧ (∃ y2 : Int64, m_ll h r1 x_3 = some y2 ∧ (∃ r3 : Nat, m_fld h r_0 [2] 0 = some (.ref r3) ∧ (∃ y4 : Int64, m_ll h r3 x_4 = some y4 ∧ Ev d (0, 0) MX5_behind [.long y2, .long y4, .int x_2] h (fun r5 h6 => ∃ y7 : Int64, r5 = some (.long y7) ∧ (∃ fs20 : List Value, (h6).1 r_0 = .inr (2, fs20) ∧ Ev d (0, 0) MX2_sift [.ref r_0, .long y7, .int x_2] h6 (fun r8 h9 => r8 = none ∧ (∃ r10 : Nat, m_fld h9 r_0 [2] 0 = some (.ref r10) ∧ (∃ y11 : Int64, m_ll h9 r10 x_4 = some y11 ∧ (∃ r12 : Nat, m_fld h9 r_0 [2] 0 = some (.ref r12) ∧ (∃ y13 : Int64, m_ll h9 r12 x_3 = some y13 ∧ Ev d (0, 0) MX5_behind [.long y11, .long y13, .int x_2] h9 (fun r14 h15 => ∃ y16 : Int64, r14 = some (.long y16) ∧ (∃ fs19 : List Value, (h15).1 r_0 = .inr (2, fs19) ∧ Ev d (0, 0) MX2_sift [.ref r_0, .long y16, .int x_2] h15 (fun r17 h18 => r17 = none ∧ Wm (d + 1) (0, 0) JX2_orders 65 [some (.ref r_0), none, some (.int x_2), some (.int x_3), some (.int (x_4 + 1))] [] h18 Q))))))))))))))))) : Wm (d + 1) (0, 0) JX2_orders 65 [some (.ref r_0), none, some (.int x_2), some (.int x_3), some (.int x_4)] [] h Q := by
  refine m_iload dX2_orders_65 rfl ?_
  refine m_iload_n dX2_orders_67 rfl ?_
  refine m_icmp_gt 121 dX2_orders_68 (by decide) (fun c => ?_) (fun c => ?_)
  · replace hF := hF.1 c
    refine m_iinc (v := x_3 + 1) (ls2 := [some (.ref r_0), none, some (.int x_2), some (.int (x_3 + 1)), some (.int x_4)]) dX2_orders_121 (by decide) rfl (congrArg (_ + ·) ki_1) rfl ?_
    refine m_goto 48 dX2_orders_124 (by decide) ?_
    refine m_wk [4] rfl ?_
    exact hF
  · replace hF := hF.2 c
    refine m_aload_n dX2_orders_71 rfl ?_
    refine m_aload_n dX2_orders_72 rfl ?_
    obtain ⟨r1, e, hF⟩ := hF
    refine m_get fg_X2_11 dX2_orders_73 e ?_
    refine m_iload_n dX2_orders_76 rfl ?_
    obtain ⟨y2, e, hF⟩ := hF
    refine m_lald dX2_orders_77 e ?_
    refine m_aload_n dX2_orders_78 rfl ?_
    obtain ⟨r3, e, hF⟩ := hF
    refine m_get fg_X2_11 dX2_orders_79 e ?_
    refine m_iload dX2_orders_82 rfl ?_
    obtain ⟨y4, e, hF⟩ := hF
    refine m_lald dX2_orders_84 e ?_
    refine m_iload_n dX2_orders_85 rfl ?_
    refine m_static (as := [.long y2, .long y4, .int x_2]) (rest := [.ref r_0]) cs_X2_40 dX2_orders_86 rfl rfl (Nat.le_of_ble_eq_true rfl) (Nat.le_of_eq (Nat.zero_add _)) (Nat.le_of_eq (Nat.zero_add _)) (b1 := (0, 0)) (b2 := (0, 0)) (Ev.mono hF ?_)
    intro r5 h6 hF
    obtain ⟨y7, rfl, hF⟩ := hF
    refine m_iload_n dX2_orders_89 rfl ?_
    obtain ⟨fs20, e, hF⟩ := hF
    refine m_virtual (as := [.long y7, .int x_2]) (rest := []) cv_X2_36_2 e dX2_orders_90 rfl rfl (Nat.le_of_ble_eq_true rfl) (Nat.le_of_eq (Nat.zero_add _)) (Nat.le_of_eq (Nat.zero_add _)) (b1 := (0, 0)) (b2 := (0, 0)) (Ev.mono hF ?_)
    intro r8 h9 hF
    obtain ⟨rfl, hF⟩ := hF
    refine m_aload_n dX2_orders_93 rfl ?_
    refine m_aload_n dX2_orders_94 rfl ?_
    obtain ⟨r10, e, hF⟩ := hF
    refine m_get fg_X2_11 dX2_orders_95 e ?_
    refine m_iload dX2_orders_98 rfl ?_
    obtain ⟨y11, e, hF⟩ := hF
    refine m_lald dX2_orders_100 e ?_
    refine m_aload_n dX2_orders_101 rfl ?_
    obtain ⟨r12, e, hF⟩ := hF
    refine m_get fg_X2_11 dX2_orders_102 e ?_
    refine m_iload_n dX2_orders_105 rfl ?_
    obtain ⟨y13, e, hF⟩ := hF
    refine m_lald dX2_orders_106 e ?_
    refine m_iload_n dX2_orders_107 rfl ?_
    refine m_static (as := [.long y11, .long y13, .int x_2]) (rest := [.ref r_0]) cs_X2_40 dX2_orders_108 rfl rfl (Nat.le_of_ble_eq_true rfl) (Nat.le_of_eq (Nat.zero_add _)) (Nat.le_of_eq (Nat.zero_add _)) (b1 := (0, 0)) (b2 := (0, 0)) (Ev.mono hF ?_)
    intro r14 h15 hF
    obtain ⟨y16, rfl, hF⟩ := hF
    refine m_iload_n dX2_orders_111 rfl ?_
    obtain ⟨fs19, e, hF⟩ := hF
    refine m_virtual (as := [.long y16, .int x_2]) (rest := []) cv_X2_36_2 e dX2_orders_112 rfl rfl (Nat.le_of_ble_eq_true rfl) (Nat.le_of_eq (Nat.zero_add _)) (Nat.le_of_eq (Nat.zero_add _)) (b1 := (0, 0)) (b2 := (0, 0)) (Ev.mono hF ?_)
    intro r17 h18 hF
    obtain ⟨rfl, hF⟩ := hF
    refine m_iinc (v := x_4 + 1) (ls2 := [some (.ref r_0), none, some (.int x_2), some (.int x_3), some (.int (x_4 + 1))]) dX2_orders_115 (by decide) rfl (congrArg (_ + ·) ki_1) rfl ?_
    refine m_goto 65 dX2_orders_118 (by decide) ?_
    exact hF
theorem en_X2_orders {d : Nat} {r_0 : Nat} {r_1 : Nat} {h : mH} {K : Option Value → mH → Prop} (hk : Wm (d + 1) (0, 0) JX2_orders 0 [some (.ref r_0), some (.ref r_1), none, none, none] [] h (fun r h' => h'.1 0 = h.1 0 ∧ K r h')) : Ev (d + 1) (0, 0) MX2_orders [.ref r_0, .ref r_1] h K :=
  m_met pn_X2 nl_X2 (fun _ => Nat.le_of_ble_eq_true rfl) hk
theorem bk_X2_sift_0 {d : Nat} (r_0 : Nat) (y_1 : Int64) (x_3 : Int32) {h : mH} {Q : Option Value → mH → Prop} (hF : Wm (d + 1) (0, 0) JX2_sift 6 [some (.ref r_0), none, none, some (.int x_3), some (.long y_1), none, some (.int 0), none, none] [] h Q) : Wm (d + 1) (0, 0) JX2_sift 0 [some (.ref r_0), some (.long y_1), none, some (.int x_3), none, none, none, none, none] [] h Q := by
  refine m_lload_n dX2_sift_0 rfl ?_
  refine m_lstore (ls2 := [some (.ref r_0), some (.long y_1), none, some (.int x_3), some (.long y_1), none, none, none, none]) dX2_sift_1 (by decide) rfl ?_
  refine m_iconst dX2_sift_3 ki_0 ?_
  refine m_istore (ls2 := [some (.ref r_0), some (.long y_1), none, some (.int x_3), some (.long y_1), none, some (.int 0), none, none]) dX2_sift_4 (by decide) rfl ?_
  refine m_wk [1] rfl ?_
  exact hF
theorem bk_X2_sift_6 {d : Nat} (r_0 : Nat) (x_3 : Int32) (y_4 : Int64) (x_6 : Int32) {h : mH} {Q : Option Value → mH → Prop} (hF : ((x_3 ≤ x_6 → Q none h) ∧ (¬ (x_3 ≤ x_6) → Ev d (0, 0) MX5_at [.long y_4, .int x_6] h (fun r1 h2 => ∃ x3 : Int32, r1 = some (.int x3) ∧ ((¬ x3 = x_6 → (∃ r4 : Nat, m_fld h2 r_0 [2] 1 = some (.ref r4) ∧ (∃ n5 : Nat, m_len h2 r4 = some n5 ∧ (((nI n5) ≤ ((x_6 * 12) + x3) → Q none h2) ∧ (¬ ((nI n5) ≤ ((x_6 * 12) + x3)) → (∃ x6 : Int32, m_fld h2 r_0 [2] 2 = some (.int x6) ∧ (∃ r7 : Nat, m_fld h2 r_0 [2] 0 = some (.ref r7) ∧ (∃ n8 : Nat, m_len h2 r7 = some n8 ∧ ((x6 < (nI n8) → (∃ r9 : Nat, m_fld h2 r_0 [2] 1 = some (.ref r9) ∧ (∃ y10 : Int64, m_ll h2 r9 ((x_6 * 12) + x3) = some y10 ∧ ((¬ (lg_cmp y10 0) = 0 → (∃ r11 : Nat, m_fld h2 r_0 [2] 1 = some (.ref r11) ∧ (∃ y12 : Int64, m_ll h2 r11 ((x_6 * 12) + x3) = some y12 ∧ Ev d (0, 0) MX5_behind [.long y_4, .long y12, .int x_3] h2 (fun r13 h14 => ∃ y15 : Int64, r13 = some (.long y15) ∧ Wm (d + 1) (0, 0) JX2_sift 6 [some (.ref r_0), none, none, some (.int x_3), some (.long y15), none, some (.int (x_6 + 1)), none, none] [] h14 Q)))) ∧ ((lg_cmp y10 0) = 0 → (∃ r16 : Nat, m_fld h2 r_0 [2] 1 = some (.ref r16) ∧ Ev d (0, 0) MX5_inverse [.long y_4, .int x_3] h2 (fun r17 h18 => ∃ y19 : Int64, r17 = some (.long y19) ∧ (∃ h20 : mH, m_ls h18 r16 ((x_6 * 12) + x3) y19 = some h20 ∧ (∃ r21 : Nat, m_fld h20 r_0 [2] 0 = some (.ref r21) ∧ (∃ x22 : Int32, m_fld h20 r_0 [2] 2 = some (.int x22) ∧ (∃ h23 : mH, m_ls h20 r21 x22 y_4 = some h23 ∧ (∃ x24 : Int32, m_fld h23 r_0 [2] 2 = some (.int x24) ∧ (∃ h25 : mH, m_put h23 r_0 2 2 (.int (x24 + 1)) = some h25 ∧ Q none h25))))))))))))) ∧ (¬ (x6 < (nI n8)) → (∃ r26 : Nat, m_fld h2 r_0 [2] 1 = some (.ref r26) ∧ (∃ y27 : Int64, m_ll h2 r26 ((x_6 * 12) + x3) = some y27 ∧ ((¬ (lg_cmp y27 0) = 0 → (∃ r28 : Nat, m_fld h2 r_0 [2] 1 = some (.ref r28) ∧ (∃ y29 : Int64, m_ll h2 r28 ((x_6 * 12) + x3) = some y29 ∧ ((¬ (lg_cmp y29 0) = 0 → (∃ r30 : Nat, m_fld h2 r_0 [2] 1 = some (.ref r30) ∧ (∃ y31 : Int64, m_ll h2 r30 ((x_6 * 12) + x3) = some y31 ∧ Ev d (0, 0) MX5_behind [.long y_4, .long y31, .int x_3] h2 (fun r32 h33 => ∃ y34 : Int64, r32 = some (.long y34) ∧ Wm (d + 1) (0, 0) JX2_sift 6 [some (.ref r_0), none, none, some (.int x_3), some (.long y34), none, some (.int (x_6 + 1)), none, none] [] h33 Q)))) ∧ ((lg_cmp y29 0) = 0 → (∃ r35 : Nat, m_fld h2 r_0 [2] 1 = some (.ref r35) ∧ Ev d (0, 0) MX5_inverse [.long y_4, .int x_3] h2 (fun r36 h37 => ∃ y38 : Int64, r36 = some (.long y38) ∧ (∃ h39 : mH, m_ls h37 r35 ((x_6 * 12) + x3) y38 = some h39 ∧ (∃ r40 : Nat, m_fld h39 r_0 [2] 0 = some (.ref r40) ∧ (∃ x41 : Int32, m_fld h39 r_0 [2] 2 = some (.int x41) ∧ (∃ h42 : mH, m_ls h39 r40 x41 y_4 = some h42 ∧ (∃ x43 : Int32, m_fld h42 r_0 [2] 2 = some (.int x43) ∧ (∃ h44 : mH, m_put h42 r_0 2 2 (.int (x43 + 1)) = some h44 ∧ Q none h44))))))))))))) ∧ ((lg_cmp y27 0) = 0 → Q none h2)))))))))))))) ∧ (x3 = x_6 → Wm (d + 1) (0, 0) JX2_sift 6 [some (.ref r_0), none, none, some (.int x_3), some (.long y_4), none, some (.int (x_6 + 1)), none, none] [] h2 Q)))))) : Wm (d + 1) (0, 0) JX2_sift 6 [some (.ref r_0), none, none, some (.int x_3), some (.long y_4), none, some (.int x_6), none, none] [] h Q := by
  refine m_iload dX2_sift_6 rfl ?_
  refine m_iload_n dX2_sift_8 rfl ?_
  refine m_icmp_ge 144 dX2_sift_9 (by decide) (fun c => ?_) (fun c => ?_)
  · replace hF := hF.1 c
    exact m_return dX2_sift_144 trivial hF
  · replace hF := hF.2 c
    refine m_lload dX2_sift_12 rfl ?_
    refine m_iload dX2_sift_14 rfl ?_
    refine m_static (as := [.long y_4, .int x_6]) (rest := []) cs_X2_50 dX2_sift_16 rfl rfl (Nat.le_of_ble_eq_true rfl) (Nat.le_of_eq (Nat.zero_add _)) (Nat.le_of_eq (Nat.zero_add _)) (b1 := (0, 0)) (b2 := (0, 0)) (Ev.mono hF ?_)
    intro r1 h2 hF
    obtain ⟨x3, rfl, hF⟩ := hF
    refine m_istore (ls2 := [some (.ref r_0), none, none, some (.int x_3), some (.long y_4), none, some (.int x_6), some (.int x3), none]) dX2_sift_19 (by decide) rfl ?_
    refine m_iload dX2_sift_21 rfl ?_
    refine m_iload dX2_sift_23 rfl ?_
    refine m_icmp_ne 31 dX2_sift_25 (by decide) (fun c => ?_) (fun c => ?_)
    · replace hF := hF.1 c
      refine m_iload dX2_sift_31 rfl ?_
      refine m_bipush dX2_sift_33 kb_12 ?_
      refine m_imul dX2_sift_35 ?_
      refine m_iload dX2_sift_36 rfl ?_
      refine m_iadd dX2_sift_38 ?_
      refine m_istore (ls2 := [some (.ref r_0), none, none, some (.int x_3), some (.long y_4), none, some (.int x_6), some (.int x3), some (.int ((x_6 * 12) + x3))]) dX2_sift_39 (by decide) rfl ?_
      refine m_iload dX2_sift_41 rfl ?_
      refine m_aload_n dX2_sift_43 rfl ?_
      obtain ⟨r4, e, hF⟩ := hF
      refine m_get fg_X2_15 dX2_sift_44 e ?_
      obtain ⟨n5, e, hF⟩ := hF
      refine m_alen dX2_sift_47 e ?_
      refine m_icmp_ge 75 dX2_sift_48 (by decide) (fun c => ?_) (fun c => ?_)
      · replace hF := hF.1 c
        exact m_return dX2_sift_75 trivial hF
      · replace hF := hF.2 c
        refine m_aload_n dX2_sift_51 rfl ?_
        obtain ⟨x6, e, hF⟩ := hF
        refine m_get fg_X2_24 dX2_sift_52 e ?_
        refine m_aload_n dX2_sift_55 rfl ?_
        obtain ⟨r7, e, hF⟩ := hF
        refine m_get fg_X2_11 dX2_sift_56 e ?_
        obtain ⟨n8, e, hF⟩ := hF
        refine m_alen dX2_sift_59 e ?_
        refine m_icmp_lt 76 dX2_sift_60 (by decide) (fun c => ?_) (fun c => ?_)
        · replace hF := hF.1 c
          refine m_aload_n dX2_sift_76 rfl ?_
          obtain ⟨r9, e, hF⟩ := hF
          refine m_get fg_X2_15 dX2_sift_77 e ?_
          refine m_iload dX2_sift_80 rfl ?_
          obtain ⟨y10, e, hF⟩ := hF
          refine m_lald dX2_sift_82 e ?_
          refine m_lconst dX2_sift_83 kl_0 ?_
          refine m_lcmp dX2_sift_84 ?_
          refine m_if_ne 123 dX2_sift_85 (by decide) (fun c => ?_) (fun c => ?_)
          · replace hF := hF.1 c
            refine m_lload dX2_sift_123 rfl ?_
            refine m_aload_n dX2_sift_125 rfl ?_
            obtain ⟨r11, e, hF⟩ := hF
            refine m_get fg_X2_15 dX2_sift_126 e ?_
            refine m_iload dX2_sift_129 rfl ?_
            obtain ⟨y12, e, hF⟩ := hF
            refine m_lald dX2_sift_131 e ?_
            refine m_iload_n dX2_sift_132 rfl ?_
            refine m_static (as := [.long y_4, .long y12, .int x_3]) (rest := []) cs_X2_40 dX2_sift_133 rfl rfl (Nat.le_of_ble_eq_true rfl) (Nat.le_of_eq (Nat.zero_add _)) (Nat.le_of_eq (Nat.zero_add _)) (b1 := (0, 0)) (b2 := (0, 0)) (Ev.mono hF ?_)
            intro r13 h14 hF
            obtain ⟨y15, rfl, hF⟩ := hF
            refine m_lstore (ls2 := [some (.ref r_0), none, none, some (.int x_3), some (.long y15), none, some (.int x_6), some (.int x3), some (.int ((x_6 * 12) + x3))]) dX2_sift_136 (by decide) rfl ?_
            refine m_iinc (v := x_6 + 1) (ls2 := [some (.ref r_0), none, none, some (.int x_3), some (.long y15), none, some (.int (x_6 + 1)), some (.int x3), some (.int ((x_6 * 12) + x3))]) dX2_sift_138 (by decide) rfl (congrArg (_ + ·) ki_1) rfl ?_
            refine m_goto 6 dX2_sift_141 (by decide) ?_
            refine m_wk [7, 8] rfl ?_
            exact hF
          · replace hF := hF.2 c
            refine m_aload_n dX2_sift_88 rfl ?_
            obtain ⟨r16, e, hF⟩ := hF
            refine m_get fg_X2_15 dX2_sift_89 e ?_
            refine m_iload dX2_sift_92 rfl ?_
            refine m_lload dX2_sift_94 rfl ?_
            refine m_iload_n dX2_sift_96 rfl ?_
            refine m_static (as := [.long y_4, .int x_3]) (rest := [.int ((x_6 * 12) + x3), .ref r16]) cs_X2_54 dX2_sift_97 rfl rfl (Nat.le_of_ble_eq_true rfl) (Nat.le_of_eq (Nat.zero_add _)) (Nat.le_of_eq (Nat.zero_add _)) (b1 := (0, 0)) (b2 := (0, 0)) (Ev.mono hF ?_)
            intro r17 h18 hF
            obtain ⟨y19, rfl, hF⟩ := hF
            obtain ⟨h20, e, hF⟩ := hF
            refine m_last dX2_sift_100 e ?_
            refine m_aload_n dX2_sift_101 rfl ?_
            obtain ⟨r21, e, hF⟩ := hF
            refine m_get fg_X2_11 dX2_sift_102 e ?_
            refine m_aload_n dX2_sift_105 rfl ?_
            obtain ⟨x22, e, hF⟩ := hF
            refine m_get fg_X2_24 dX2_sift_106 e ?_
            refine m_lload dX2_sift_109 rfl ?_
            obtain ⟨h23, e, hF⟩ := hF
            refine m_last dX2_sift_111 e ?_
            refine m_aload_n dX2_sift_112 rfl ?_
            refine m_dup dX2_sift_113 rfl ?_
            obtain ⟨x24, e, hF⟩ := hF
            refine m_get fg_X2_24 dX2_sift_114 e ?_
            refine m_iconst dX2_sift_117 ki_1 ?_
            refine m_iadd dX2_sift_118 ?_
            obtain ⟨h25, e, hF⟩ := hF
            refine m_putf fp_X2_24_2 dX2_sift_119 trivial e ?_
            exact m_return dX2_sift_122 trivial hF
        · replace hF := hF.2 c
          refine m_aload_n dX2_sift_63 rfl ?_
          obtain ⟨r26, e, hF⟩ := hF
          refine m_get fg_X2_15 dX2_sift_64 e ?_
          refine m_iload dX2_sift_67 rfl ?_
          obtain ⟨y27, e, hF⟩ := hF
          refine m_lald dX2_sift_69 e ?_
          refine m_lconst dX2_sift_70 kl_0 ?_
          refine m_lcmp dX2_sift_71 ?_
          refine m_if_ne 76 dX2_sift_72 (by decide) (fun c => ?_) (fun c => ?_)
          · replace hF := hF.1 c
            refine m_aload_n dX2_sift_76 rfl ?_
            obtain ⟨r28, e, hF⟩ := hF
            refine m_get fg_X2_15 dX2_sift_77 e ?_
            refine m_iload dX2_sift_80 rfl ?_
            obtain ⟨y29, e, hF⟩ := hF
            refine m_lald dX2_sift_82 e ?_
            refine m_lconst dX2_sift_83 kl_0 ?_
            refine m_lcmp dX2_sift_84 ?_
            refine m_if_ne 123 dX2_sift_85 (by decide) (fun c => ?_) (fun c => ?_)
            · replace hF := hF.1 c
              refine m_lload dX2_sift_123 rfl ?_
              refine m_aload_n dX2_sift_125 rfl ?_
              obtain ⟨r30, e, hF⟩ := hF
              refine m_get fg_X2_15 dX2_sift_126 e ?_
              refine m_iload dX2_sift_129 rfl ?_
              obtain ⟨y31, e, hF⟩ := hF
              refine m_lald dX2_sift_131 e ?_
              refine m_iload_n dX2_sift_132 rfl ?_
              refine m_static (as := [.long y_4, .long y31, .int x_3]) (rest := []) cs_X2_40 dX2_sift_133 rfl rfl (Nat.le_of_ble_eq_true rfl) (Nat.le_of_eq (Nat.zero_add _)) (Nat.le_of_eq (Nat.zero_add _)) (b1 := (0, 0)) (b2 := (0, 0)) (Ev.mono hF ?_)
              intro r32 h33 hF
              obtain ⟨y34, rfl, hF⟩ := hF
              refine m_lstore (ls2 := [some (.ref r_0), none, none, some (.int x_3), some (.long y34), none, some (.int x_6), some (.int x3), some (.int ((x_6 * 12) + x3))]) dX2_sift_136 (by decide) rfl ?_
              refine m_iinc (v := x_6 + 1) (ls2 := [some (.ref r_0), none, none, some (.int x_3), some (.long y34), none, some (.int (x_6 + 1)), some (.int x3), some (.int ((x_6 * 12) + x3))]) dX2_sift_138 (by decide) rfl (congrArg (_ + ·) ki_1) rfl ?_
              refine m_goto 6 dX2_sift_141 (by decide) ?_
              refine m_wk [7, 8] rfl ?_
              exact hF
            · replace hF := hF.2 c
              refine m_aload_n dX2_sift_88 rfl ?_
              obtain ⟨r35, e, hF⟩ := hF
              refine m_get fg_X2_15 dX2_sift_89 e ?_
              refine m_iload dX2_sift_92 rfl ?_
              refine m_lload dX2_sift_94 rfl ?_
              refine m_iload_n dX2_sift_96 rfl ?_
              refine m_static (as := [.long y_4, .int x_3]) (rest := [.int ((x_6 * 12) + x3), .ref r35]) cs_X2_54 dX2_sift_97 rfl rfl (Nat.le_of_ble_eq_true rfl) (Nat.le_of_eq (Nat.zero_add _)) (Nat.le_of_eq (Nat.zero_add _)) (b1 := (0, 0)) (b2 := (0, 0)) (Ev.mono hF ?_)
              intro r36 h37 hF
              obtain ⟨y38, rfl, hF⟩ := hF
              obtain ⟨h39, e, hF⟩ := hF
              refine m_last dX2_sift_100 e ?_
              refine m_aload_n dX2_sift_101 rfl ?_
              obtain ⟨r40, e, hF⟩ := hF
              refine m_get fg_X2_11 dX2_sift_102 e ?_
              refine m_aload_n dX2_sift_105 rfl ?_
              obtain ⟨x41, e, hF⟩ := hF
              refine m_get fg_X2_24 dX2_sift_106 e ?_
              refine m_lload dX2_sift_109 rfl ?_
              obtain ⟨h42, e, hF⟩ := hF
              refine m_last dX2_sift_111 e ?_
              refine m_aload_n dX2_sift_112 rfl ?_
              refine m_dup dX2_sift_113 rfl ?_
              obtain ⟨x43, e, hF⟩ := hF
              refine m_get fg_X2_24 dX2_sift_114 e ?_
              refine m_iconst dX2_sift_117 ki_1 ?_
              refine m_iadd dX2_sift_118 ?_
              obtain ⟨h44, e, hF⟩ := hF
              refine m_putf fp_X2_24_2 dX2_sift_119 trivial e ?_
              exact m_return dX2_sift_122 trivial hF
          · replace hF := hF.2 c
            exact m_return dX2_sift_75 trivial hF
    · replace hF := hF.2 c
      refine m_goto 138 dX2_sift_28 (by decide) ?_
      refine m_iinc (v := x_6 + 1) (ls2 := [some (.ref r_0), none, none, some (.int x_3), some (.long y_4), none, some (.int (x_6 + 1)), some (.int x3), none]) dX2_sift_138 (by decide) rfl (congrArg (_ + ·) ki_1) rfl ?_
      refine m_goto 6 dX2_sift_141 (by decide) ?_
      refine m_wk [7] rfl ?_
      exact hF
theorem en_X2_sift {d : Nat} {r_0 : Nat} {y_1 : Int64} {x_3 : Int32} {h : mH} {K : Option Value → mH → Prop} (hk : Wm (d + 1) (0, 0) JX2_sift 0 [some (.ref r_0), some (.long y_1), none, some (.int x_3), none, none, none, none, none] [] h (fun r h' => h'.1 0 = h.1 0 ∧ K r h')) : Ev (d + 1) (0, 0) MX2_sift [.ref r_0, .long y_1, .int x_3] h K :=
  m_met pn_X2 nl_X2 (fun _ => Nat.le_of_ble_eq_true rfl) hk
theorem bk_X2_product_0 {d : Nat} (r_0 : Nat) (x_1 : Int32) {h : mH} {Q : Option Value → mH → Prop} (hF : Wm d (0, 0) JX2_product 4 [some (.ref r_0), some (.int x_1), some (.int 1), some (.int 0), none, none] [] h Q) : Wm d (0, 0) JX2_product 0 [some (.ref r_0), some (.int x_1), none, none, none, none] [] h Q := by
  refine m_iconst dX2_product_0 ki_1 ?_
  refine m_istore_n (ls2 := [some (.ref r_0), some (.int x_1), some (.int 1), none, none, none]) dX2_product_1 (by decide) rfl ?_
  refine m_iconst dX2_product_2 ki_0 ?_
  refine m_istore_n (ls2 := [some (.ref r_0), some (.int x_1), some (.int 1), some (.int 0), none, none]) dX2_product_3 (by decide) rfl ?_
  exact hF
theorem bk_X2_product_4 {d : Nat} (r_0 : Nat) (x_1 : Int32) (x_2 : Int32) (x_3 : Int32) {h : mH} {Q : Option Value → mH → Prop} (hF : ((x_1 ≤ x_3 → Q (some (.int x_2)) h) ∧ (¬ (x_1 ≤ x_3) → Wm d (0, 0) JX2_product 17 [some (.ref r_0), some (.int x_1), some (.int x_2), some (.int x_3), some (.int 1), some (.int (x_3 + 1))] [] h Q))) : Wm d (0, 0) JX2_product 4 [some (.ref r_0), some (.int x_1), some (.int x_2), some (.int x_3), none, none] [] h Q := by
  refine m_iload_n dX2_product_4 rfl ?_
  refine m_iload_n dX2_product_5 rfl ?_
  refine m_icmp_ge 60 dX2_product_6 (by decide) (fun c => ?_) (fun c => ?_)
  · replace hF := hF.1 c
    refine m_iload_n dX2_product_60 rfl ?_
    exact m_ireturn dX2_product_61 trivial hF
  · replace hF := hF.2 c
    refine m_iconst dX2_product_9 ki_1 ?_
    refine m_istore (ls2 := [some (.ref r_0), some (.int x_1), some (.int x_2), some (.int x_3), some (.int 1), none]) dX2_product_10 (by decide) rfl ?_
    refine m_iload_n dX2_product_12 rfl ?_
    refine m_iconst dX2_product_13 ki_1 ?_
    refine m_iadd dX2_product_14 ?_
    refine m_istore (ls2 := [some (.ref r_0), some (.int x_1), some (.int x_2), some (.int x_3), some (.int 1), some (.int (x_3 + 1))]) dX2_product_15 (by decide) rfl ?_
    exact hF
theorem bk_X2_product_17 {d : Nat} (r_0 : Nat) (x_1 : Int32) (x_2 : Int32) (x_3 : Int32) (x_4 : Int32) (x_5 : Int32) {h : mH} {Q : Option Value → mH → Prop} (hF : ((x_1 ≤ x_5 → Wm d (0, 0) JX2_product 4 [some (.ref r_0), some (.int x_1), some (.int (x_2 * x_4)), some (.int (x_3 + 1)), none, none] [] h Q) ∧ (¬ (x_1 ≤ x_5) → (∃ r1 : Nat, m_fld h r_0 [2] 1 = some (.ref r1) ∧ (∃ y2 : Int64, m_ll h r1 ((x_3 * 12) + x_5) = some y2 ∧ (((lg_cmp y2 0) = 0 → Wm d (0, 0) JX2_product 17 [some (.ref r_0), some (.int x_1), some (.int x_2), some (.int x_3), some (.int x_4), some (.int (x_5 + 1))] [] h Q) ∧ (¬ ((lg_cmp y2 0) = 0) → Wm d (0, 0) JX2_product 17 [some (.ref r_0), some (.int x_1), some (.int x_2), some (.int x_3), some (.int (x_4 + 1)), some (.int (x_5 + 1))] [] h Q))))))) : Wm d (0, 0) JX2_product 17 [some (.ref r_0), some (.int x_1), some (.int x_2), some (.int x_3), some (.int x_4), some (.int x_5)] [] h Q := by
  refine m_iload dX2_product_17 rfl ?_
  refine m_iload_n dX2_product_19 rfl ?_
  refine m_icmp_ge 49 dX2_product_20 (by decide) (fun c => ?_) (fun c => ?_)
  · replace hF := hF.1 c
    refine m_iload_n dX2_product_49 rfl ?_
    refine m_iload dX2_product_50 rfl ?_
    refine m_imul dX2_product_52 ?_
    refine m_istore_n (ls2 := [some (.ref r_0), some (.int x_1), some (.int (x_2 * x_4)), some (.int x_3), some (.int x_4), some (.int x_5)]) dX2_product_53 (by decide) rfl ?_
    refine m_iinc (v := x_3 + 1) (ls2 := [some (.ref r_0), some (.int x_1), some (.int (x_2 * x_4)), some (.int (x_3 + 1)), some (.int x_4), some (.int x_5)]) dX2_product_54 (by decide) rfl (congrArg (_ + ·) ki_1) rfl ?_
    refine m_goto 4 dX2_product_57 (by decide) ?_
    refine m_wk [4, 5] rfl ?_
    exact hF
  · replace hF := hF.2 c
    refine m_aload_n dX2_product_23 rfl ?_
    obtain ⟨r1, e, hF⟩ := hF
    refine m_get fg_X2_15 dX2_product_24 e ?_
    refine m_iload_n dX2_product_27 rfl ?_
    refine m_bipush dX2_product_28 kb_12 ?_
    refine m_imul dX2_product_30 ?_
    refine m_iload dX2_product_31 rfl ?_
    refine m_iadd dX2_product_33 ?_
    obtain ⟨y2, e, hF⟩ := hF
    refine m_lald dX2_product_34 e ?_
    refine m_lconst dX2_product_35 kl_0 ?_
    refine m_lcmp dX2_product_36 ?_
    refine m_if_eq 43 dX2_product_37 (by decide) (fun c => ?_) (fun c => ?_)
    · replace hF := hF.1 c
      refine m_iinc (v := x_5 + 1) (ls2 := [some (.ref r_0), some (.int x_1), some (.int x_2), some (.int x_3), some (.int x_4), some (.int (x_5 + 1))]) dX2_product_43 (by decide) rfl (congrArg (_ + ·) ki_1) rfl ?_
      refine m_goto 17 dX2_product_46 (by decide) ?_
      exact hF
    · replace hF := hF.2 c
      refine m_iinc (v := x_4 + 1) (ls2 := [some (.ref r_0), some (.int x_1), some (.int x_2), some (.int x_3), some (.int (x_4 + 1)), some (.int x_5)]) dX2_product_40 (by decide) rfl (congrArg (_ + ·) ki_1) rfl ?_
      refine m_iinc (v := x_5 + 1) (ls2 := [some (.ref r_0), some (.int x_1), some (.int x_2), some (.int x_3), some (.int (x_4 + 1)), some (.int (x_5 + 1))]) dX2_product_43 (by decide) rfl (congrArg (_ + ·) ki_1) rfl ?_
      refine m_goto 17 dX2_product_46 (by decide) ?_
      exact hF
theorem en_X2_product {d : Nat} {r_0 : Nat} {x_1 : Int32} {h : mH} {K : Option Value → mH → Prop} (hk : Wm d (0, 0) JX2_product 0 [some (.ref r_0), some (.int x_1), none, none, none, none] [] h (fun r h' => h'.1 0 = h.1 0 ∧ K r h')) : Ev d (0, 0) MX2_product [.ref r_0, .int x_1] h K :=
  m_met pn_X2 nl_X2 (fun _ => Nat.le_of_ble_eq_true rfl) hk
theorem bk_X3_init_0 {d : Nat} {b : Nat × Nat} (r_0 : Nat) {h : mH} {Q : Option Value → mH → Prop} (hF : (∃ n1 : Nat, ¬ (8 : Int32) < 0 ∧ (8 : Int32).toNatClampNeg = n1 ∧ n1 ≤ 100000 ∧ 1 ≤ b.1 ∧ n1 ≤ b.2 ∧ ∀ h2 : mH, h2 = (m_up h.1 h.2 (.inl (1, n1, .inr (.inl fun _ => 0))), h.2 + 1) → (∃ h3 : mH, m_put h2 r_0 3 0 (.ref h.2) = some h3 ∧ Q none h3))) : Wm (d + 1) b JX3_init 0 [some (.ref r_0)] [] h Q := by
  refine m_aload_n dX3_init_0 rfl ?_
  refine m_objinit ol_X3_3 oi_1 oi_2 dX3_init_1 (Nat.le_of_ble_eq_true rfl) ?_
  refine m_aload_n dX3_init_4 rfl ?_
  refine m_bipush dX3_init_5 kb_8 ?_
  obtain ⟨n1, e1, e2, e3, e4, e5, hF⟩ := hF
  refine m_newarr (t := 1) (b2 := (b.1 - 1, b.2 - n1)) dX3_init_7 e1 e2 e3 (Or.inr (Or.inl ⟨rfl, rfl, rfl⟩)) ac_long (Nat.le_of_eq (Nat.sub_add_cancel e4)) (Nat.le_of_eq (Nat.sub_add_cancel e5)) ?_
  replace hF := hF _ rfl
  generalize (m_up h.1 h.2 (.inl (1, n1, .inr (.inl fun _ => 0))), h.2 + 1) = h2 at hF ⊢
  obtain ⟨h3, e, hF⟩ := hF
  refine m_putfF fp_X3_9_3 rfl dX3_init_9 trivial e ?_
  exact m_return dX3_init_12 trivial hF
theorem en_X3_init {d : Nat} {b : Nat × Nat} {r_0 : Nat} {h : mH} {K : Option Value → mH → Prop} (hk : Wm (d + 1) b JX3_init 0 [some (.ref r_0)] [] h (fun r h' => h'.1 0 = h.1 0 ∧ K r h')) : Ev (d + 1) b MX3_init [.ref r_0] h K :=
  m_met pn_X3 nl_X3 (fun _ => Nat.le_of_ble_eq_true rfl) hk
theorem bk_X3_find_0 {d : Nat} (r_0 : Nat) (r_1 : Nat) (x_2 : Int32) {h : mH} {Q : Option Value → mH → Prop} (hF : (∃ n1 : Nat, m_len h r_1 = some n1 ∧ (((nI n1) < 1 → Q none h) ∧ (¬ ((nI n1) < 1) → (∃ n2 : Nat, m_len h r_1 = some n2 ∧ (∃ r3 : Nat, m_fld h r_0 [3] 0 = some (.ref r3) ∧ (∃ n4 : Nat, m_len h r3 = some n4 ∧ (((nI n2) ≤ (nI n4) → Ev d (0, 0) MX5_still [.int x_2] h (fun r5 h6 => ∃ y7 : Int64, r5 = some (.long y7) ∧ Wm (d + 1) (0, 0) JX3_find 28 [some (.ref r_0), some (.ref r_1), some (.int x_2), some (.long y7), none, some (.long 0), none, some (.int 0), none] [] h6 Q)) ∧ (¬ ((nI n2) ≤ (nI n4)) → Q none h))))))))) : Wm (d + 1) (0, 0) JX3_find 0 [some (.ref r_0), some (.ref r_1), some (.int x_2), none, none, none, none, none, none] [] h Q := by
  refine m_aload_n dX3_find_0 rfl ?_
  obtain ⟨n1, e, hF⟩ := hF
  refine m_alen dX3_find_1 e ?_
  refine m_iconst dX3_find_2 ki_1 ?_
  refine m_icmp_lt 16 dX3_find_3 (by decide) (fun c => ?_) (fun c => ?_)
  · replace hF := hF.1 c
    exact m_return dX3_find_16 trivial hF
  · replace hF := hF.2 c
    refine m_aload_n dX3_find_6 rfl ?_
    obtain ⟨n2, e, hF⟩ := hF
    refine m_alen dX3_find_7 e ?_
    refine m_aload_n dX3_find_8 rfl ?_
    obtain ⟨r3, e, hF⟩ := hF
    refine m_get fg_X3_9 dX3_find_9 e ?_
    obtain ⟨n4, e, hF⟩ := hF
    refine m_alen dX3_find_12 e ?_
    refine m_icmp_le 17 dX3_find_13 (by decide) (fun c => ?_) (fun c => ?_)
    · replace hF := hF.1 c
      refine m_iload_n dX3_find_17 rfl ?_
      refine m_static (as := [.int x_2]) (rest := []) cs_X3_15 dX3_find_18 rfl rfl (Nat.le_of_ble_eq_true rfl) (Nat.le_of_eq (Nat.zero_add _)) (Nat.le_of_eq (Nat.zero_add _)) (b1 := (0, 0)) (b2 := (0, 0)) (Ev.mono hF ?_)
      intro r5 h6 hF
      obtain ⟨y7, rfl, hF⟩ := hF
      refine m_lstore_n (ls2 := [some (.ref r_0), some (.ref r_1), some (.int x_2), some (.long y7), none, none, none, none, none]) dX3_find_21 (by decide) rfl ?_
      refine m_lconst dX3_find_22 kl_0 ?_
      refine m_lstore (ls2 := [some (.ref r_0), some (.ref r_1), some (.int x_2), some (.long y7), none, some (.long 0), none, none, none]) dX3_find_23 (by decide) rfl ?_
      refine m_iconst dX3_find_25 ki_0 ?_
      refine m_istore (ls2 := [some (.ref r_0), some (.ref r_1), some (.int x_2), some (.long y7), none, some (.long 0), none, some (.int 0), none]) dX3_find_26 (by decide) rfl ?_
      exact hF
    · replace hF := hF.2 c
      exact m_return dX3_find_16 trivial hF
theorem bk_X3_find_28 {d : Nat} (r_0 : Nat) (r_1 : Nat) (x_2 : Int32) (y_3 : Int64) (y_5 : Int64) (x_7 : Int32) {h : mH} {Q : Option Value → mH → Prop} (hF : ((x_2 ≤ x_7 → Ev d (0, 0) MX5_withFirst [.long y_3, .int x_2] h (fun r1 h2 => ∃ x3 : Int32, r1 = some (.int x3) ∧ (∃ h4 : mH, m_put h2 r_0 3 1 (.int x3) = some h4 ∧ Q none h4))) ∧ (¬ (x_2 ≤ x_7) → Ev d (0, 0) MX5_at [.long y_3, .int x_7] h (fun r5 h6 => ∃ x7 : Int32, r5 = some (.int x7) ∧ ((¬ x7 = x_7 → Wm (d + 1) (0, 0) JX3_find 28 [some (.ref r_0), some (.ref r_1), some (.int x_2), some (.long y_3), none, some (.long y_5), none, some (.int (x_7 + 1)), none] [] h6 Q) ∧ (x7 = x_7 → (∃ fs27 : List Value, (h6).1 r_0 = .inr (3, fs27) ∧ Ev d (0, 0) MX3_numberFrom [.ref r_0, .int x_7, .ref r_1, .int x_2] h6 (fun r8 h9 => ∃ x10 : Int32, r8 = some (.int x10) ∧ ((¬ x10 = 0 → ((¬ x_7 = 0 → (∃ fs22 : List Value, (h9).1 r_0 = .inr (3, fs22) ∧ Ev d (0, 0) MX3_againstLeast [.ref r_0, .ref r_1, .int x_2] h9 (fun r11 h12 => ∃ x13 : Int32, r11 = some (.int x13) ∧ ((0 ≤ x13 → ((¬ x13 = 0 → Wm (d + 1) (0, 0) JX3_find 28 [some (.ref r_0), some (.ref r_1), some (.int x_2), some (.long y_3), none, some (.long y_5), none, some (.int (x_7 + 1)), none] [] h12 Q) ∧ (x13 = 0 → (∃ y14 : Int64, m_fld h12 r_0 [3] 3 = some (.long y14) ∧ Ev d (0, 0) MX5_mergedAlong [.long y_3, .long y_5, .long y14, .int x_2] h12 (fun r15 h16 => ∃ y17 : Int64, r15 = some (.long y17) ∧ Wm (d + 1) (0, 0) JX3_find 28 [some (.ref r_0), some (.ref r_1), some (.int x_2), some (.long y17), none, some (.long y_5), none, some (.int (x_7 + 1)), none] [] h16 Q))))) ∧ (¬ (0 ≤ x13) → (∃ fs21 : List Value, (h12).1 r_0 = .inr (3, fs21) ∧ Ev d (0, 0) MX3_keepAsLeast [.ref r_0, .ref r_1, .int x_2] h12 (fun r18 h19 => r18 = none ∧ (∃ y20 : Int64, m_fld h19 r_0 [3] 3 = some (.long y20) ∧ Wm (d + 1) (0, 0) JX3_find 28 [some (.ref r_0), some (.ref r_1), some (.int x_2), some (.long y_3), none, some (.long y20), none, some (.int (x_7 + 1)), none] [] h19 Q)))))))) ∧ (x_7 = 0 → (∃ fs26 : List Value, (h9).1 r_0 = .inr (3, fs26) ∧ Ev d (0, 0) MX3_keepAsLeast [.ref r_0, .ref r_1, .int x_2] h9 (fun r23 h24 => r23 = none ∧ (∃ y25 : Int64, m_fld h24 r_0 [3] 3 = some (.long y25) ∧ Wm (d + 1) (0, 0) JX3_find 28 [some (.ref r_0), some (.ref r_1), some (.int x_2), some (.long y_3), none, some (.long y25), none, some (.int (x_7 + 1)), none] [] h24 Q)))))) ∧ (x10 = 0 → Wm (d + 1) (0, 0) JX3_find 28 [some (.ref r_0), some (.ref r_1), some (.int x_2), some (.long y_3), none, some (.long y_5), none, some (.int (x_7 + 1)), none] [] h9 Q)))))))))) : Wm (d + 1) (0, 0) JX3_find 28 [some (.ref r_0), some (.ref r_1), some (.int x_2), some (.long y_3), none, some (.long y_5), none, some (.int x_7), none] [] h Q := by
  refine m_iload dX3_find_28 rfl ?_
  refine m_iload_n dX3_find_30 rfl ?_
  refine m_icmp_ge 119 dX3_find_31 (by decide) (fun c => ?_) (fun c => ?_)
  · replace hF := hF.1 c
    refine m_aload_n dX3_find_119 rfl ?_
    refine m_lload_n dX3_find_120 rfl ?_
    refine m_iload_n dX3_find_121 rfl ?_
    refine m_static (as := [.long y_3, .int x_2]) (rest := [.ref r_0]) cs_X3_45 dX3_find_122 rfl rfl (Nat.le_of_ble_eq_true rfl) (Nat.le_of_eq (Nat.zero_add _)) (Nat.le_of_eq (Nat.zero_add _)) (b1 := (0, 0)) (b2 := (0, 0)) (Ev.mono hF ?_)
    intro r1 h2 hF
    obtain ⟨x3, rfl, hF⟩ := hF
    obtain ⟨h4, e, hF⟩ := hF
    refine m_putf fp_X3_48_3 dX3_find_125 trivial e ?_
    exact m_return dX3_find_128 trivial hF
  · replace hF := hF.2 c
    refine m_lload_n dX3_find_34 rfl ?_
    refine m_iload dX3_find_35 rfl ?_
    refine m_static (as := [.long y_3, .int x_7]) (rest := []) cs_X3_21 dX3_find_37 rfl rfl (Nat.le_of_ble_eq_true rfl) (Nat.le_of_eq (Nat.zero_add _)) (Nat.le_of_eq (Nat.zero_add _)) (b1 := (0, 0)) (b2 := (0, 0)) (Ev.mono hF ?_)
    intro r5 h6 hF
    obtain ⟨x7, rfl, hF⟩ := hF
    refine m_iload dX3_find_40 rfl ?_
    refine m_icmp_ne 113 dX3_find_42 (by decide) (fun c => ?_) (fun c => ?_)
    · replace hF := hF.1 c
      refine m_iinc (v := x_7 + 1) (ls2 := [some (.ref r_0), some (.ref r_1), some (.int x_2), some (.long y_3), none, some (.long y_5), none, some (.int (x_7 + 1)), none]) dX3_find_113 (by decide) rfl (congrArg (_ + ·) ki_1) rfl ?_
      refine m_goto 28 dX3_find_116 (by decide) ?_
      exact hF
    · replace hF := hF.2 c
      refine m_aload_n dX3_find_45 rfl ?_
      refine m_iload dX3_find_46 rfl ?_
      refine m_aload_n dX3_find_48 rfl ?_
      refine m_iload_n dX3_find_49 rfl ?_
      obtain ⟨fs27, e, hF⟩ := hF
      refine m_virtual (as := [.int x_7, .ref r_1, .int x_2]) (rest := []) cv_X3_25_3 e dX3_find_50 rfl rfl (Nat.le_of_ble_eq_true rfl) (Nat.le_of_eq (Nat.zero_add _)) (Nat.le_of_eq (Nat.zero_add _)) (b1 := (0, 0)) (b2 := (0, 0)) (Ev.mono hF ?_)
      intro r8 h9 hF
      obtain ⟨x10, rfl, hF⟩ := hF
      refine m_if_ne 59 dX3_find_53 (by decide) (fun c => ?_) (fun c => ?_)
      · replace hF := hF.1 c
        refine m_iload dX3_find_59 rfl ?_
        refine m_if_ne 68 dX3_find_61 (by decide) (fun c => ?_) (fun c => ?_)
        · replace hF := hF.1 c
          refine m_aload_n dX3_find_68 rfl ?_
          refine m_aload_n dX3_find_69 rfl ?_
          refine m_iload_n dX3_find_70 rfl ?_
          obtain ⟨fs22, e, hF⟩ := hF
          refine m_virtual (as := [.ref r_1, .int x_2]) (rest := []) cv_X3_29_3 e dX3_find_71 rfl rfl (Nat.le_of_ble_eq_true rfl) (Nat.le_of_eq (Nat.zero_add _)) (Nat.le_of_eq (Nat.zero_add _)) (b1 := (0, 0)) (b2 := (0, 0)) (Ev.mono hF ?_)
          intro r11 h12 hF
          obtain ⟨x13, rfl, hF⟩ := hF
          refine m_istore (ls2 := [some (.ref r_0), some (.ref r_1), some (.int x_2), some (.long y_3), none, some (.long y_5), none, some (.int x_7), some (.int x13)]) dX3_find_74 (by decide) rfl ?_
          refine m_iload dX3_find_76 rfl ?_
          refine m_if_ge 96 dX3_find_78 (by decide) (fun c => ?_) (fun c => ?_)
          · replace hF := hF.1 c
            refine m_iload dX3_find_96 rfl ?_
            refine m_if_ne 113 dX3_find_98 (by decide) (fun c => ?_) (fun c => ?_)
            · replace hF := hF.1 c
              refine m_iinc (v := x_7 + 1) (ls2 := [some (.ref r_0), some (.ref r_1), some (.int x_2), some (.long y_3), none, some (.long y_5), none, some (.int (x_7 + 1)), some (.int x13)]) dX3_find_113 (by decide) rfl (congrArg (_ + ·) ki_1) rfl ?_
              refine m_goto 28 dX3_find_116 (by decide) ?_
              refine m_wk [8] rfl ?_
              exact hF
            · replace hF := hF.2 c
              refine m_lload_n dX3_find_101 rfl ?_
              refine m_lload dX3_find_102 rfl ?_
              refine m_aload_n dX3_find_104 rfl ?_
              obtain ⟨y14, e, hF⟩ := hF
              refine m_get fg_X3_37 dX3_find_105 e ?_
              refine m_iload_n dX3_find_108 rfl ?_
              refine m_static (as := [.long y_3, .long y_5, .long y14, .int x_2]) (rest := []) cs_X3_41 dX3_find_109 rfl rfl (Nat.le_of_ble_eq_true rfl) (Nat.le_of_eq (Nat.zero_add _)) (Nat.le_of_eq (Nat.zero_add _)) (b1 := (0, 0)) (b2 := (0, 0)) (Ev.mono hF ?_)
              intro r15 h16 hF
              obtain ⟨y17, rfl, hF⟩ := hF
              refine m_lstore_n (ls2 := [some (.ref r_0), some (.ref r_1), some (.int x_2), some (.long y17), none, some (.long y_5), none, some (.int x_7), some (.int x13)]) dX3_find_112 (by decide) rfl ?_
              refine m_iinc (v := x_7 + 1) (ls2 := [some (.ref r_0), some (.ref r_1), some (.int x_2), some (.long y17), none, some (.long y_5), none, some (.int (x_7 + 1)), some (.int x13)]) dX3_find_113 (by decide) rfl (congrArg (_ + ·) ki_1) rfl ?_
              refine m_goto 28 dX3_find_116 (by decide) ?_
              refine m_wk [8] rfl ?_
              exact hF
          · replace hF := hF.2 c
            refine m_aload_n dX3_find_81 rfl ?_
            refine m_aload_n dX3_find_82 rfl ?_
            refine m_iload_n dX3_find_83 rfl ?_
            obtain ⟨fs21, e, hF⟩ := hF
            refine m_virtual (as := [.ref r_1, .int x_2]) (rest := []) cv_X3_33_3 e dX3_find_84 rfl rfl (Nat.le_of_ble_eq_true rfl) (Nat.le_of_eq (Nat.zero_add _)) (Nat.le_of_eq (Nat.zero_add _)) (b1 := (0, 0)) (b2 := (0, 0)) (Ev.mono hF ?_)
            intro r18 h19 hF
            obtain ⟨rfl, hF⟩ := hF
            refine m_aload_n dX3_find_87 rfl ?_
            obtain ⟨y20, e, hF⟩ := hF
            refine m_get fg_X3_37 dX3_find_88 e ?_
            refine m_lstore (ls2 := [some (.ref r_0), some (.ref r_1), some (.int x_2), some (.long y_3), none, some (.long y20), none, some (.int x_7), some (.int x13)]) dX3_find_91 (by decide) rfl ?_
            refine m_goto 113 dX3_find_93 (by decide) ?_
            refine m_iinc (v := x_7 + 1) (ls2 := [some (.ref r_0), some (.ref r_1), some (.int x_2), some (.long y_3), none, some (.long y20), none, some (.int (x_7 + 1)), some (.int x13)]) dX3_find_113 (by decide) rfl (congrArg (_ + ·) ki_1) rfl ?_
            refine m_goto 28 dX3_find_116 (by decide) ?_
            refine m_wk [8] rfl ?_
            exact hF
        · replace hF := hF.2 c
          refine m_iconst dX3_find_64 ki_m1 ?_
          refine m_goto 74 dX3_find_65 (by decide) ?_
          refine m_istore (ls2 := [some (.ref r_0), some (.ref r_1), some (.int x_2), some (.long y_3), none, some (.long y_5), none, some (.int x_7), some (.int (-1))]) dX3_find_74 (by decide) rfl ?_
          refine m_iload dX3_find_76 rfl ?_
          refine m_if_ge 96 dX3_find_78 (by decide) (fun c => absurd c (by decide)) (fun _ => ?_)
          refine m_aload_n dX3_find_81 rfl ?_
          refine m_aload_n dX3_find_82 rfl ?_
          refine m_iload_n dX3_find_83 rfl ?_
          obtain ⟨fs26, e, hF⟩ := hF
          refine m_virtual (as := [.ref r_1, .int x_2]) (rest := []) cv_X3_33_3 e dX3_find_84 rfl rfl (Nat.le_of_ble_eq_true rfl) (Nat.le_of_eq (Nat.zero_add _)) (Nat.le_of_eq (Nat.zero_add _)) (b1 := (0, 0)) (b2 := (0, 0)) (Ev.mono hF ?_)
          intro r23 h24 hF
          obtain ⟨rfl, hF⟩ := hF
          refine m_aload_n dX3_find_87 rfl ?_
          obtain ⟨y25, e, hF⟩ := hF
          refine m_get fg_X3_37 dX3_find_88 e ?_
          refine m_lstore (ls2 := [some (.ref r_0), some (.ref r_1), some (.int x_2), some (.long y_3), none, some (.long y25), none, some (.int x_7), some (.int (-1))]) dX3_find_91 (by decide) rfl ?_
          refine m_goto 113 dX3_find_93 (by decide) ?_
          refine m_iinc (v := x_7 + 1) (ls2 := [some (.ref r_0), some (.ref r_1), some (.int x_2), some (.long y_3), none, some (.long y25), none, some (.int (x_7 + 1)), some (.int (-1))]) dX3_find_113 (by decide) rfl (congrArg (_ + ·) ki_1) rfl ?_
          refine m_goto 28 dX3_find_116 (by decide) ?_
          refine m_wk [8] rfl ?_
          exact hF
      · replace hF := hF.2 c
        refine m_goto 113 dX3_find_56 (by decide) ?_
        refine m_iinc (v := x_7 + 1) (ls2 := [some (.ref r_0), some (.ref r_1), some (.int x_2), some (.long y_3), none, some (.long y_5), none, some (.int (x_7 + 1)), none]) dX3_find_113 (by decide) rfl (congrArg (_ + ·) ki_1) rfl ?_
        refine m_goto 28 dX3_find_116 (by decide) ?_
        exact hF
theorem en_X3_find {d : Nat} {r_0 : Nat} {r_1 : Nat} {x_2 : Int32} {h : mH} {K : Option Value → mH → Prop} (hk : Wm (d + 1) (0, 0) JX3_find 0 [some (.ref r_0), some (.ref r_1), some (.int x_2), none, none, none, none, none, none] [] h (fun r h' => h'.1 0 = h.1 0 ∧ K r h')) : Ev (d + 1) (0, 0) MX3_find [.ref r_0, .ref r_1, .int x_2] h K :=
  m_met pn_X3 nl_X3 (fun _ => Nat.le_of_ble_eq_true rfl) hk
theorem bk_X3_numberFrom_0 {d : Nat} (r_0 : Nat) (x_1 : Int32) (r_2 : Nat) (x_3 : Int32) {h : mH} {Q : Option Value → mH → Prop} (hF : (∃ h1 : mH, m_put h r_0 3 2 (.long 0) = some h1 ∧ Ev d (0, 0) MX5_with [.long 0, .int 0, .int x_1] h1 (fun r2 h3 => ∃ y4 : Int64, r2 = some (.long y4) ∧ (∃ h5 : mH, m_put h3 r_0 3 3 (.long y4) = some h5 ∧ ((x_1 ≤ 0 → Wm (d + 1) (0, 0) JX3_numberFrom 37 [some (.ref r_0), none, some (.ref r_2), some (.int x_3), some (.int (1 <<< (x_1 &&& 31))), some (.int 1), some (.int 0), some (.int 0), none, none, none, none] [] h5 Q) ∧ (¬ (x_1 ≤ 0) → Wm (d + 1) (0, 0) JX3_numberFrom 37 [some (.ref r_0), none, some (.ref r_2), some (.int x_3), some (.int (1 <<< (x_1 &&& 31))), some (.int 1), some (.int 1), some (.int 0), none, none, none, none] [] h5 Q)))))) : Wm (d + 1) (0, 0) JX3_numberFrom 0 [some (.ref r_0), some (.int x_1), some (.ref r_2), some (.int x_3), none, none, none, none, none, none, none, none] [] h Q := by
  refine m_aload_n dX3_numberFrom_0 rfl ?_
  refine m_lconst dX3_numberFrom_1 kl_0 ?_
  obtain ⟨h1, e, hF⟩ := hF
  refine m_putf fp_X3_52_3 dX3_numberFrom_2 trivial e ?_
  refine m_aload_n dX3_numberFrom_5 rfl ?_
  refine m_lconst dX3_numberFrom_6 kl_0 ?_
  refine m_iconst dX3_numberFrom_7 ki_0 ?_
  refine m_iload_n dX3_numberFrom_8 rfl ?_
  refine m_static (as := [.long 0, .int 0, .int x_1]) (rest := [.ref r_0]) cs_X3_55 dX3_numberFrom_9 rfl rfl (Nat.le_of_ble_eq_true rfl) (Nat.le_of_eq (Nat.zero_add _)) (Nat.le_of_eq (Nat.zero_add _)) (b1 := (0, 0)) (b2 := (0, 0)) (Ev.mono hF ?_)
  intro r2 h3 hF
  obtain ⟨y4, rfl, hF⟩ := hF
  obtain ⟨h5, e, hF⟩ := hF
  refine m_putf fp_X3_37_3 dX3_numberFrom_12 trivial e ?_
  refine m_iconst dX3_numberFrom_15 ki_1 ?_
  refine m_iload_n dX3_numberFrom_16 rfl ?_
  refine m_ishl dX3_numberFrom_17 ?_
  refine m_istore (ls2 := [some (.ref r_0), some (.int x_1), some (.ref r_2), some (.int x_3), some (.int (1 <<< (x_1 &&& 31))), none, none, none, none, none, none, none]) dX3_numberFrom_18 (by decide) rfl ?_
  refine m_iconst dX3_numberFrom_20 ki_1 ?_
  refine m_istore (ls2 := [some (.ref r_0), some (.int x_1), some (.ref r_2), some (.int x_3), some (.int (1 <<< (x_1 &&& 31))), some (.int 1), none, none, none, none, none, none]) dX3_numberFrom_21 (by decide) rfl ?_
  refine m_iload_n dX3_numberFrom_23 rfl ?_
  refine m_if_le 31 dX3_numberFrom_24 (by decide) (fun c => ?_) (fun c => ?_)
  · replace hF := hF.1 c
    refine m_iconst dX3_numberFrom_31 ki_0 ?_
    refine m_istore (ls2 := [some (.ref r_0), some (.int x_1), some (.ref r_2), some (.int x_3), some (.int (1 <<< (x_1 &&& 31))), some (.int 1), some (.int 0), none, none, none, none, none]) dX3_numberFrom_32 (by decide) rfl ?_
    refine m_iconst dX3_numberFrom_34 ki_0 ?_
    refine m_istore (ls2 := [some (.ref r_0), some (.int x_1), some (.ref r_2), some (.int x_3), some (.int (1 <<< (x_1 &&& 31))), some (.int 1), some (.int 0), some (.int 0), none, none, none, none]) dX3_numberFrom_35 (by decide) rfl ?_
    refine m_wk [1] rfl ?_
    exact hF
  · replace hF := hF.2 c
    refine m_iconst dX3_numberFrom_27 ki_1 ?_
    refine m_goto 32 dX3_numberFrom_28 (by decide) ?_
    refine m_istore (ls2 := [some (.ref r_0), some (.int x_1), some (.ref r_2), some (.int x_3), some (.int (1 <<< (x_1 &&& 31))), some (.int 1), some (.int 1), none, none, none, none, none]) dX3_numberFrom_32 (by decide) rfl ?_
    refine m_iconst dX3_numberFrom_34 ki_0 ?_
    refine m_istore (ls2 := [some (.ref r_0), some (.int x_1), some (.ref r_2), some (.int x_3), some (.int (1 <<< (x_1 &&& 31))), some (.int 1), some (.int 1), some (.int 0), none, none, none, none]) dX3_numberFrom_35 (by decide) rfl ?_
    refine m_wk [1] rfl ?_
    exact hF
theorem bk_X3_numberFrom_37 {d : Nat} (r_0 : Nat) (r_2 : Nat) (x_3 : Int32) (x_4 : Int32) (x_5 : Int32) (x_6 : Int32) (x_7 : Int32) {h : mH} {Q : Option Value → mH → Prop} (hF : ((x_5 ≤ x_7 → Q (some (.int 1)) h) ∧ (¬ (x_5 ≤ x_7) → ((x_3 ≤ x_5 → Q (some (.int 1)) h) ∧ (¬ (x_3 ≤ x_5) → (∃ y1 : Int64, m_fld h r_0 [3] 3 = some (.long y1) ∧ Ev d (0, 0) MX5_at [.long y1, .int x_7] h (fun r2 h3 => ∃ x4 : Int32, r2 = some (.int x4) ∧ Wm (d + 1) (0, 0) JX3_numberFrom 64 [some (.ref r_0), none, some (.ref r_2), some (.int x_3), some (.int x_4), some (.int x_5), some (.int x_6), some (.int x_7), some (.int x4), some (.int 0), none, none] [] h3 Q))))))) : Wm (d + 1) (0, 0) JX3_numberFrom 37 [some (.ref r_0), none, some (.ref r_2), some (.int x_3), some (.int x_4), some (.int x_5), some (.int x_6), some (.int x_7), none, none, none, none] [] h Q := by
  refine m_iload dX3_numberFrom_37 rfl ?_
  refine m_iload dX3_numberFrom_39 rfl ?_
  refine m_icmp_ge 198 dX3_numberFrom_41 (by decide) (fun c => ?_) (fun c => ?_)
  · replace hF := hF.1 c
    refine m_iconst dX3_numberFrom_198 ki_1 ?_
    exact m_ireturn dX3_numberFrom_199 (Or.inr rfl) hF
  · replace hF := hF.2 c
    refine m_iload dX3_numberFrom_44 rfl ?_
    refine m_iload_n dX3_numberFrom_46 rfl ?_
    refine m_icmp_ge 198 dX3_numberFrom_47 (by decide) (fun c => ?_) (fun c => ?_)
    · replace hF := hF.1 c
      refine m_iconst dX3_numberFrom_198 ki_1 ?_
      exact m_ireturn dX3_numberFrom_199 (Or.inr rfl) hF
    · replace hF := hF.2 c
      refine m_aload_n dX3_numberFrom_50 rfl ?_
      obtain ⟨y1, e, hF⟩ := hF
      refine m_get fg_X3_37 dX3_numberFrom_51 e ?_
      refine m_iload dX3_numberFrom_54 rfl ?_
      refine m_static (as := [.long y1, .int x_7]) (rest := []) cs_X3_21 dX3_numberFrom_56 rfl rfl (Nat.le_of_ble_eq_true rfl) (Nat.le_of_eq (Nat.zero_add _)) (Nat.le_of_eq (Nat.zero_add _)) (b1 := (0, 0)) (b2 := (0, 0)) (Ev.mono hF ?_)
      intro r2 h3 hF
      obtain ⟨x4, rfl, hF⟩ := hF
      refine m_istore (ls2 := [some (.ref r_0), none, some (.ref r_2), some (.int x_3), some (.int x_4), some (.int x_5), some (.int x_6), some (.int x_7), some (.int x4), none, none, none]) dX3_numberFrom_59 (by decide) rfl ?_
      refine m_iconst dX3_numberFrom_61 ki_0 ?_
      refine m_istore (ls2 := [some (.ref r_0), none, some (.ref r_2), some (.int x_3), some (.int x_4), some (.int x_5), some (.int x_6), some (.int x_7), some (.int x4), some (.int 0), none, none]) dX3_numberFrom_62 (by decide) rfl ?_
      exact hF
theorem bk_X3_numberFrom_64 {d : Nat} (r_0 : Nat) (r_2 : Nat) (x_3 : Int32) (x_4 : Int32) (x_5 : Int32) (x_6 : Int32) (x_7 : Int32) (x_8 : Int32) (x_9 : Int32) {h : mH} {Q : Option Value → mH → Prop} (hF : (∃ n1 : Nat, m_len h r_2 = some n1 ∧ (((nI n1) ≤ x_9 → Wm (d + 1) (0, 0) JX3_numberFrom 37 [some (.ref r_0), none, some (.ref r_2), some (.int x_3), some (.int x_4), some (.int x_5), some (.int x_6), some (.int (x_7 + 1)), none, none, none, none] [] h Q) ∧ (¬ ((nI n1) ≤ x_9) → (∃ y2 : Int64, m_ll h r_2 x_9 = some y2 ∧ Ev d (0, 0) MX5_at [.long y2, .int x_8] h (fun r3 h4 => ∃ x5 : Int32, r3 = some (.int x5) ∧ ((¬ ((x_4 >>> (x5 &&& 31)) &&& 1) = 0 → ((x_6 = 0 → Wm (d + 1) (0, 0) JX3_numberFrom 64 [some (.ref r_0), none, some (.ref r_2), some (.int x_3), some (.int x_4), some (.int x_5), some (.int x_6), some (.int x_7), some (.int x_8), some (.int (x_9 + 1)), none, none] [] h4 Q) ∧ (¬ (x_6 = 0) → ((¬ x_9 = 0 → Wm (d + 1) (0, 0) JX3_numberFrom 64 [some (.ref r_0), none, some (.ref r_2), some (.int x_3), some (.int x_4), some (.int x_5), some (.int x_6), some (.int x_7), some (.int x_8), some (.int (x_9 + 1)), none, none] [] h4 Q) ∧ (x_9 = 0 → (∃ y6 : Int64, m_fld h4 r_0 [3] 2 = some (.long y6) ∧ Ev d (0, 0) MX5_at [.long y6, .int x5] h4 (fun r7 h8 => ∃ x9 : Int32, r7 = some (.int x9) ∧ (∃ r10 : Nat, m_fld h8 r_0 [3] 0 = some (.ref r10) ∧ (∃ y11 : Int64, m_ll h8 r10 0 = some y11 ∧ Ev d (0, 0) MX5_at [.long y11, .int x_7] h8 (fun r12 h13 => ∃ x14 : Int32, r12 = some (.int x14) ∧ (((x9 - x14) ≤ 0 → ((¬ (x9 - x14) = 0 → Wm (d + 1) (0, 0) JX3_numberFrom 64 [some (.ref r_0), none, some (.ref r_2), some (.int x_3), some (.int x_4), some (.int x_5), some (.int 0), some (.int x_7), some (.int x_8), some (.int (x_9 + 1)), none, none] [] h13 Q) ∧ ((x9 - x14) = 0 → Wm (d + 1) (0, 0) JX3_numberFrom 64 [some (.ref r_0), none, some (.ref r_2), some (.int x_3), some (.int x_4), some (.int x_5), some (.int 1), some (.int x_7), some (.int x_8), some (.int (x_9 + 1)), none, none] [] h13 Q))) ∧ (¬ ((x9 - x14) ≤ 0) → Q (some (.int 0)) h13)))))))))))) ∧ (((x_4 >>> (x5 &&& 31)) &&& 1) = 0 → (∃ y15 : Int64, m_fld h4 r_0 [3] 2 = some (.long y15) ∧ Ev d (0, 0) MX5_with [.long y15, .int x5, .int x_5] h4 (fun r16 h17 => ∃ y18 : Int64, r16 = some (.long y18) ∧ (∃ h19 : mH, m_put h17 r_0 3 2 (.long y18) = some h19 ∧ (∃ y20 : Int64, m_fld h19 r_0 [3] 3 = some (.long y20) ∧ Ev d (0, 0) MX5_with [.long y20, .int x_5, .int x5] h19 (fun r21 h22 => ∃ y23 : Int64, r21 = some (.long y23) ∧ (∃ h24 : mH, m_put h22 r_0 3 3 (.long y23) = some h24 ∧ ((x_6 = 0 → Wm (d + 1) (0, 0) JX3_numberFrom 64 [some (.ref r_0), none, some (.ref r_2), some (.int x_3), some (.int (x_4 ||| (1 <<< (x5 &&& 31)))), some (.int (x_5 + 1)), some (.int x_6), some (.int x_7), some (.int x_8), some (.int (x_9 + 1)), none, none] [] h24 Q) ∧ (¬ (x_6 = 0) → ((¬ x_9 = 0 → Wm (d + 1) (0, 0) JX3_numberFrom 64 [some (.ref r_0), none, some (.ref r_2), some (.int x_3), some (.int (x_4 ||| (1 <<< (x5 &&& 31)))), some (.int (x_5 + 1)), some (.int x_6), some (.int x_7), some (.int x_8), some (.int (x_9 + 1)), none, none] [] h24 Q) ∧ (x_9 = 0 → (∃ y25 : Int64, m_fld h24 r_0 [3] 2 = some (.long y25) ∧ Ev d (0, 0) MX5_at [.long y25, .int x5] h24 (fun r26 h27 => ∃ x28 : Int32, r26 = some (.int x28) ∧ (∃ r29 : Nat, m_fld h27 r_0 [3] 0 = some (.ref r29) ∧ (∃ y30 : Int64, m_ll h27 r29 0 = some y30 ∧ Ev d (0, 0) MX5_at [.long y30, .int x_7] h27 (fun r31 h32 => ∃ x33 : Int32, r31 = some (.int x33) ∧ (((x28 - x33) ≤ 0 → ((¬ (x28 - x33) = 0 → Wm (d + 1) (0, 0) JX3_numberFrom 64 [some (.ref r_0), none, some (.ref r_2), some (.int x_3), some (.int (x_4 ||| (1 <<< (x5 &&& 31)))), some (.int (x_5 + 1)), some (.int 0), some (.int x_7), some (.int x_8), some (.int (x_9 + 1)), none, none] [] h32 Q) ∧ ((x28 - x33) = 0 → Wm (d + 1) (0, 0) JX3_numberFrom 64 [some (.ref r_0), none, some (.ref r_2), some (.int x_3), some (.int (x_4 ||| (1 <<< (x5 &&& 31)))), some (.int (x_5 + 1)), some (.int 1), some (.int x_7), some (.int x_8), some (.int (x_9 + 1)), none, none] [] h32 Q))) ∧ (¬ ((x28 - x33) ≤ 0) → Q (some (.int 0)) h32))))))))))))))))))))))))) : Wm (d + 1) (0, 0) JX3_numberFrom 64 [some (.ref r_0), none, some (.ref r_2), some (.int x_3), some (.int x_4), some (.int x_5), some (.int x_6), some (.int x_7), some (.int x_8), some (.int x_9), none, none] [] h Q := by
  refine m_iload dX3_numberFrom_64 rfl ?_
  refine m_aload_n dX3_numberFrom_66 rfl ?_
  obtain ⟨n1, e, hF⟩ := hF
  refine m_alen dX3_numberFrom_67 e ?_
  refine m_icmp_ge 192 dX3_numberFrom_68 (by decide) (fun c => ?_) (fun c => ?_)
  · replace hF := hF.1 c
    refine m_iinc (v := x_7 + 1) (ls2 := [some (.ref r_0), none, some (.ref r_2), some (.int x_3), some (.int x_4), some (.int x_5), some (.int x_6), some (.int (x_7 + 1)), some (.int x_8), some (.int x_9), none, none]) dX3_numberFrom_192 (by decide) rfl (congrArg (_ + ·) ki_1) rfl ?_
    refine m_goto 37 dX3_numberFrom_195 (by decide) ?_
    refine m_wk [8, 9] rfl ?_
    exact hF
  · replace hF := hF.2 c
    refine m_aload_n dX3_numberFrom_71 rfl ?_
    refine m_iload dX3_numberFrom_72 rfl ?_
    obtain ⟨y2, e, hF⟩ := hF
    refine m_lald dX3_numberFrom_74 e ?_
    refine m_iload dX3_numberFrom_75 rfl ?_
    refine m_static (as := [.long y2, .int x_8]) (rest := []) cs_X3_21 dX3_numberFrom_77 rfl rfl (Nat.le_of_ble_eq_true rfl) (Nat.le_of_eq (Nat.zero_add _)) (Nat.le_of_eq (Nat.zero_add _)) (b1 := (0, 0)) (b2 := (0, 0)) (Ev.mono hF ?_)
    intro r3 h4 hF
    obtain ⟨x5, rfl, hF⟩ := hF
    refine m_istore (ls2 := [some (.ref r_0), none, some (.ref r_2), some (.int x_3), some (.int x_4), some (.int x_5), some (.int x_6), some (.int x_7), some (.int x_8), some (.int x_9), some (.int x5), none]) dX3_numberFrom_80 (by decide) rfl ?_
    refine m_iload dX3_numberFrom_82 rfl ?_
    refine m_iload dX3_numberFrom_84 rfl ?_
    refine m_ishr dX3_numberFrom_86 ?_
    refine m_iconst dX3_numberFrom_87 ki_1 ?_
    refine m_iand dX3_numberFrom_88 ?_
    refine m_if_ne 134 dX3_numberFrom_89 (by decide) (fun c => ?_) (fun c => ?_)
    · replace hF := hF.1 c
      refine m_iload dX3_numberFrom_134 rfl ?_
      refine m_if_eq 186 dX3_numberFrom_136 (by decide) (fun c => ?_) (fun c => ?_)
      · replace hF := hF.1 c
        refine m_iinc (v := x_9 + 1) (ls2 := [some (.ref r_0), none, some (.ref r_2), some (.int x_3), some (.int x_4), some (.int x_5), some (.int x_6), some (.int x_7), some (.int x_8), some (.int (x_9 + 1)), some (.int x5), none]) dX3_numberFrom_186 (by decide) rfl (congrArg (_ + ·) ki_1) rfl ?_
        refine m_goto 64 dX3_numberFrom_189 (by decide) ?_
        refine m_wk [10] rfl ?_
        exact hF
      · replace hF := hF.2 c
        refine m_iload dX3_numberFrom_139 rfl ?_
        refine m_if_ne 186 dX3_numberFrom_141 (by decide) (fun c => ?_) (fun c => ?_)
        · replace hF := hF.1 c
          refine m_iinc (v := x_9 + 1) (ls2 := [some (.ref r_0), none, some (.ref r_2), some (.int x_3), some (.int x_4), some (.int x_5), some (.int x_6), some (.int x_7), some (.int x_8), some (.int (x_9 + 1)), some (.int x5), none]) dX3_numberFrom_186 (by decide) rfl (congrArg (_ + ·) ki_1) rfl ?_
          refine m_goto 64 dX3_numberFrom_189 (by decide) ?_
          refine m_wk [10] rfl ?_
          exact hF
        · replace hF := hF.2 c
          refine m_aload_n dX3_numberFrom_144 rfl ?_
          obtain ⟨y6, e, hF⟩ := hF
          refine m_get fg_X3_52 dX3_numberFrom_145 e ?_
          refine m_iload dX3_numberFrom_148 rfl ?_
          refine m_static (as := [.long y6, .int x5]) (rest := []) cs_X3_21 dX3_numberFrom_150 rfl rfl (Nat.le_of_ble_eq_true rfl) (Nat.le_of_eq (Nat.zero_add _)) (Nat.le_of_eq (Nat.zero_add _)) (b1 := (0, 0)) (b2 := (0, 0)) (Ev.mono hF ?_)
          intro r7 h8 hF
          obtain ⟨x9, rfl, hF⟩ := hF
          refine m_aload_n dX3_numberFrom_153 rfl ?_
          obtain ⟨r10, e, hF⟩ := hF
          refine m_get fg_X3_9 dX3_numberFrom_154 e ?_
          refine m_iconst dX3_numberFrom_157 ki_0 ?_
          obtain ⟨y11, e, hF⟩ := hF
          refine m_lald dX3_numberFrom_158 e ?_
          refine m_iload dX3_numberFrom_159 rfl ?_
          refine m_static (as := [.long y11, .int x_7]) (rest := [.int x9]) cs_X3_21 dX3_numberFrom_161 rfl rfl (Nat.le_of_ble_eq_true rfl) (Nat.le_of_eq (Nat.zero_add _)) (Nat.le_of_eq (Nat.zero_add _)) (b1 := (0, 0)) (b2 := (0, 0)) (Ev.mono hF ?_)
          intro r12 h13 hF
          obtain ⟨x14, rfl, hF⟩ := hF
          refine m_isub dX3_numberFrom_164 ?_
          refine m_istore (ls2 := [some (.ref r_0), none, some (.ref r_2), some (.int x_3), some (.int x_4), some (.int x_5), some (.int x_6), some (.int x_7), some (.int x_8), some (.int x_9), some (.int x5), some (.int (x9 - x14))]) dX3_numberFrom_165 (by decide) rfl ?_
          refine m_iload dX3_numberFrom_167 rfl ?_
          refine m_if_le 174 dX3_numberFrom_169 (by decide) (fun c => ?_) (fun c => ?_)
          · replace hF := hF.1 c
            refine m_iload dX3_numberFrom_174 rfl ?_
            refine m_if_ne 183 dX3_numberFrom_176 (by decide) (fun c => ?_) (fun c => ?_)
            · replace hF := hF.1 c
              refine m_iconst dX3_numberFrom_183 ki_0 ?_
              refine m_istore (ls2 := [some (.ref r_0), none, some (.ref r_2), some (.int x_3), some (.int x_4), some (.int x_5), some (.int 0), some (.int x_7), some (.int x_8), some (.int x_9), some (.int x5), some (.int (x9 - x14))]) dX3_numberFrom_184 (by decide) rfl ?_
              refine m_iinc (v := x_9 + 1) (ls2 := [some (.ref r_0), none, some (.ref r_2), some (.int x_3), some (.int x_4), some (.int x_5), some (.int 0), some (.int x_7), some (.int x_8), some (.int (x_9 + 1)), some (.int x5), some (.int (x9 - x14))]) dX3_numberFrom_186 (by decide) rfl (congrArg (_ + ·) ki_1) rfl ?_
              refine m_goto 64 dX3_numberFrom_189 (by decide) ?_
              refine m_wk [10, 11] rfl ?_
              exact hF
            · replace hF := hF.2 c
              refine m_iconst dX3_numberFrom_179 ki_1 ?_
              refine m_goto 184 dX3_numberFrom_180 (by decide) ?_
              refine m_istore (ls2 := [some (.ref r_0), none, some (.ref r_2), some (.int x_3), some (.int x_4), some (.int x_5), some (.int 1), some (.int x_7), some (.int x_8), some (.int x_9), some (.int x5), some (.int (x9 - x14))]) dX3_numberFrom_184 (by decide) rfl ?_
              refine m_iinc (v := x_9 + 1) (ls2 := [some (.ref r_0), none, some (.ref r_2), some (.int x_3), some (.int x_4), some (.int x_5), some (.int 1), some (.int x_7), some (.int x_8), some (.int (x_9 + 1)), some (.int x5), some (.int (x9 - x14))]) dX3_numberFrom_186 (by decide) rfl (congrArg (_ + ·) ki_1) rfl ?_
              refine m_goto 64 dX3_numberFrom_189 (by decide) ?_
              refine m_wk [10, 11] rfl ?_
              exact hF
          · replace hF := hF.2 c
            refine m_iconst dX3_numberFrom_172 ki_0 ?_
            exact m_ireturn dX3_numberFrom_173 (Or.inl rfl) hF
    · replace hF := hF.2 c
      refine m_iload dX3_numberFrom_92 rfl ?_
      refine m_iconst dX3_numberFrom_94 ki_1 ?_
      refine m_iload dX3_numberFrom_95 rfl ?_
      refine m_ishl dX3_numberFrom_97 ?_
      refine m_ior dX3_numberFrom_98 ?_
      refine m_istore (ls2 := [some (.ref r_0), none, some (.ref r_2), some (.int x_3), some (.int (x_4 ||| (1 <<< (x5 &&& 31)))), some (.int x_5), some (.int x_6), some (.int x_7), some (.int x_8), some (.int x_9), some (.int x5), none]) dX3_numberFrom_99 (by decide) rfl ?_
      refine m_aload_n dX3_numberFrom_101 rfl ?_
      refine m_aload_n dX3_numberFrom_102 rfl ?_
      obtain ⟨y15, e, hF⟩ := hF
      refine m_get fg_X3_52 dX3_numberFrom_103 e ?_
      refine m_iload dX3_numberFrom_106 rfl ?_
      refine m_iload dX3_numberFrom_108 rfl ?_
      refine m_static (as := [.long y15, .int x5, .int x_5]) (rest := [.ref r_0]) cs_X3_55 dX3_numberFrom_110 rfl rfl (Nat.le_of_ble_eq_true rfl) (Nat.le_of_eq (Nat.zero_add _)) (Nat.le_of_eq (Nat.zero_add _)) (b1 := (0, 0)) (b2 := (0, 0)) (Ev.mono hF ?_)
      intro r16 h17 hF
      obtain ⟨y18, rfl, hF⟩ := hF
      obtain ⟨h19, e, hF⟩ := hF
      refine m_putf fp_X3_52_3 dX3_numberFrom_113 trivial e ?_
      refine m_aload_n dX3_numberFrom_116 rfl ?_
      refine m_aload_n dX3_numberFrom_117 rfl ?_
      obtain ⟨y20, e, hF⟩ := hF
      refine m_get fg_X3_37 dX3_numberFrom_118 e ?_
      refine m_iload dX3_numberFrom_121 rfl ?_
      refine m_iload dX3_numberFrom_123 rfl ?_
      refine m_static (as := [.long y20, .int x_5, .int x5]) (rest := [.ref r_0]) cs_X3_55 dX3_numberFrom_125 rfl rfl (Nat.le_of_ble_eq_true rfl) (Nat.le_of_eq (Nat.zero_add _)) (Nat.le_of_eq (Nat.zero_add _)) (b1 := (0, 0)) (b2 := (0, 0)) (Ev.mono hF ?_)
      intro r21 h22 hF
      obtain ⟨y23, rfl, hF⟩ := hF
      obtain ⟨h24, e, hF⟩ := hF
      refine m_putf fp_X3_37_3 dX3_numberFrom_128 trivial e ?_
      refine m_iinc (v := x_5 + 1) (ls2 := [some (.ref r_0), none, some (.ref r_2), some (.int x_3), some (.int (x_4 ||| (1 <<< (x5 &&& 31)))), some (.int (x_5 + 1)), some (.int x_6), some (.int x_7), some (.int x_8), some (.int x_9), some (.int x5), none]) dX3_numberFrom_131 (by decide) rfl (congrArg (_ + ·) ki_1) rfl ?_
      refine m_iload dX3_numberFrom_134 rfl ?_
      refine m_if_eq 186 dX3_numberFrom_136 (by decide) (fun c => ?_) (fun c => ?_)
      · replace hF := hF.1 c
        refine m_iinc (v := x_9 + 1) (ls2 := [some (.ref r_0), none, some (.ref r_2), some (.int x_3), some (.int (x_4 ||| (1 <<< (x5 &&& 31)))), some (.int (x_5 + 1)), some (.int x_6), some (.int x_7), some (.int x_8), some (.int (x_9 + 1)), some (.int x5), none]) dX3_numberFrom_186 (by decide) rfl (congrArg (_ + ·) ki_1) rfl ?_
        refine m_goto 64 dX3_numberFrom_189 (by decide) ?_
        refine m_wk [10] rfl ?_
        exact hF
      · replace hF := hF.2 c
        refine m_iload dX3_numberFrom_139 rfl ?_
        refine m_if_ne 186 dX3_numberFrom_141 (by decide) (fun c => ?_) (fun c => ?_)
        · replace hF := hF.1 c
          refine m_iinc (v := x_9 + 1) (ls2 := [some (.ref r_0), none, some (.ref r_2), some (.int x_3), some (.int (x_4 ||| (1 <<< (x5 &&& 31)))), some (.int (x_5 + 1)), some (.int x_6), some (.int x_7), some (.int x_8), some (.int (x_9 + 1)), some (.int x5), none]) dX3_numberFrom_186 (by decide) rfl (congrArg (_ + ·) ki_1) rfl ?_
          refine m_goto 64 dX3_numberFrom_189 (by decide) ?_
          refine m_wk [10] rfl ?_
          exact hF
        · replace hF := hF.2 c
          refine m_aload_n dX3_numberFrom_144 rfl ?_
          obtain ⟨y25, e, hF⟩ := hF
          refine m_get fg_X3_52 dX3_numberFrom_145 e ?_
          refine m_iload dX3_numberFrom_148 rfl ?_
          refine m_static (as := [.long y25, .int x5]) (rest := []) cs_X3_21 dX3_numberFrom_150 rfl rfl (Nat.le_of_ble_eq_true rfl) (Nat.le_of_eq (Nat.zero_add _)) (Nat.le_of_eq (Nat.zero_add _)) (b1 := (0, 0)) (b2 := (0, 0)) (Ev.mono hF ?_)
          intro r26 h27 hF
          obtain ⟨x28, rfl, hF⟩ := hF
          refine m_aload_n dX3_numberFrom_153 rfl ?_
          obtain ⟨r29, e, hF⟩ := hF
          refine m_get fg_X3_9 dX3_numberFrom_154 e ?_
          refine m_iconst dX3_numberFrom_157 ki_0 ?_
          obtain ⟨y30, e, hF⟩ := hF
          refine m_lald dX3_numberFrom_158 e ?_
          refine m_iload dX3_numberFrom_159 rfl ?_
          refine m_static (as := [.long y30, .int x_7]) (rest := [.int x28]) cs_X3_21 dX3_numberFrom_161 rfl rfl (Nat.le_of_ble_eq_true rfl) (Nat.le_of_eq (Nat.zero_add _)) (Nat.le_of_eq (Nat.zero_add _)) (b1 := (0, 0)) (b2 := (0, 0)) (Ev.mono hF ?_)
          intro r31 h32 hF
          obtain ⟨x33, rfl, hF⟩ := hF
          refine m_isub dX3_numberFrom_164 ?_
          refine m_istore (ls2 := [some (.ref r_0), none, some (.ref r_2), some (.int x_3), some (.int (x_4 ||| (1 <<< (x5 &&& 31)))), some (.int (x_5 + 1)), some (.int x_6), some (.int x_7), some (.int x_8), some (.int x_9), some (.int x5), some (.int (x28 - x33))]) dX3_numberFrom_165 (by decide) rfl ?_
          refine m_iload dX3_numberFrom_167 rfl ?_
          refine m_if_le 174 dX3_numberFrom_169 (by decide) (fun c => ?_) (fun c => ?_)
          · replace hF := hF.1 c
            refine m_iload dX3_numberFrom_174 rfl ?_
            refine m_if_ne 183 dX3_numberFrom_176 (by decide) (fun c => ?_) (fun c => ?_)
            · replace hF := hF.1 c
              refine m_iconst dX3_numberFrom_183 ki_0 ?_
              refine m_istore (ls2 := [some (.ref r_0), none, some (.ref r_2), some (.int x_3), some (.int (x_4 ||| (1 <<< (x5 &&& 31)))), some (.int (x_5 + 1)), some (.int 0), some (.int x_7), some (.int x_8), some (.int x_9), some (.int x5), some (.int (x28 - x33))]) dX3_numberFrom_184 (by decide) rfl ?_
              refine m_iinc (v := x_9 + 1) (ls2 := [some (.ref r_0), none, some (.ref r_2), some (.int x_3), some (.int (x_4 ||| (1 <<< (x5 &&& 31)))), some (.int (x_5 + 1)), some (.int 0), some (.int x_7), some (.int x_8), some (.int (x_9 + 1)), some (.int x5), some (.int (x28 - x33))]) dX3_numberFrom_186 (by decide) rfl (congrArg (_ + ·) ki_1) rfl ?_
              refine m_goto 64 dX3_numberFrom_189 (by decide) ?_
              refine m_wk [10, 11] rfl ?_
              exact hF
            · replace hF := hF.2 c
              refine m_iconst dX3_numberFrom_179 ki_1 ?_
              refine m_goto 184 dX3_numberFrom_180 (by decide) ?_
              refine m_istore (ls2 := [some (.ref r_0), none, some (.ref r_2), some (.int x_3), some (.int (x_4 ||| (1 <<< (x5 &&& 31)))), some (.int (x_5 + 1)), some (.int 1), some (.int x_7), some (.int x_8), some (.int x_9), some (.int x5), some (.int (x28 - x33))]) dX3_numberFrom_184 (by decide) rfl ?_
              refine m_iinc (v := x_9 + 1) (ls2 := [some (.ref r_0), none, some (.ref r_2), some (.int x_3), some (.int (x_4 ||| (1 <<< (x5 &&& 31)))), some (.int (x_5 + 1)), some (.int 1), some (.int x_7), some (.int x_8), some (.int (x_9 + 1)), some (.int x5), some (.int (x28 - x33))]) dX3_numberFrom_186 (by decide) rfl (congrArg (_ + ·) ki_1) rfl ?_
              refine m_goto 64 dX3_numberFrom_189 (by decide) ?_
              refine m_wk [10, 11] rfl ?_
              exact hF
          · replace hF := hF.2 c
            refine m_iconst dX3_numberFrom_172 ki_0 ?_
            exact m_ireturn dX3_numberFrom_173 (Or.inl rfl) hF
theorem en_X3_numberFrom {d : Nat} {r_0 : Nat} {x_1 : Int32} {r_2 : Nat} {x_3 : Int32} {h : mH} {K : Option Value → mH → Prop} (hk : Wm (d + 1) (0, 0) JX3_numberFrom 0 [some (.ref r_0), some (.int x_1), some (.ref r_2), some (.int x_3), none, none, none, none, none, none, none, none] [] h (fun r h' => h'.1 0 = h.1 0 ∧ K r h')) : Ev (d + 1) (0, 0) MX3_numberFrom [.ref r_0, .int x_1, .ref r_2, .int x_3] h K :=
  m_met pn_X3 nl_X3 (fun _ => Nat.le_of_ble_eq_true rfl) hk
theorem bk_X3_renamed_0 {d : Nat} (r_0 : Nat) (y_1 : Int64) (x_3 : Int32) {h : mH} {Q : Option Value → mH → Prop} (hF : Wm (d + 1) (0, 0) JX3_renamed 6 [some (.ref r_0), some (.long y_1), none, some (.int x_3), some (.long 0), none, some (.int 0), none] [] h Q) : Wm (d + 1) (0, 0) JX3_renamed 0 [some (.ref r_0), some (.long y_1), none, some (.int x_3), none, none, none, none] [] h Q := by
  refine m_lconst dX3_renamed_0 kl_0 ?_
  refine m_lstore (ls2 := [some (.ref r_0), some (.long y_1), none, some (.int x_3), some (.long 0), none, none, none]) dX3_renamed_1 (by decide) rfl ?_
  refine m_iconst dX3_renamed_3 ki_0 ?_
  refine m_istore (ls2 := [some (.ref r_0), some (.long y_1), none, some (.int x_3), some (.long 0), none, some (.int 0), none]) dX3_renamed_4 (by decide) rfl ?_
  exact hF
theorem bk_X3_renamed_6 {d : Nat} (r_0 : Nat) (y_1 : Int64) (x_3 : Int32) (y_4 : Int64) (x_6 : Int32) {h : mH} {Q : Option Value → mH → Prop} (hF : ((x_3 ≤ x_6 → Q (some (.long y_4)) h) ∧ (¬ (x_3 ≤ x_6) → (∃ y1 : Int64, m_fld h r_0 [3] 3 = some (.long y1) ∧ Ev d (0, 0) MX5_at [.long y1, .int x_6] h (fun r2 h3 => ∃ x4 : Int32, r2 = some (.int x4) ∧ Ev d (0, 0) MX5_at [.long y_1, .int x4] h3 (fun r5 h6 => ∃ x7 : Int32, r5 = some (.int x7) ∧ (∃ y8 : Int64, m_fld h6 r_0 [3] 2 = some (.long y8) ∧ Ev d (0, 0) MX5_at [.long y8, .int x7] h6 (fun r9 h10 => ∃ x11 : Int32, r9 = some (.int x11) ∧ Ev d (0, 0) MX5_with [.long y_4, .int x_6, .int x11] h10 (fun r12 h13 => ∃ y14 : Int64, r12 = some (.long y14) ∧ Wm (d + 1) (0, 0) JX3_renamed 6 [some (.ref r_0), some (.long y_1), none, some (.int x_3), some (.long y14), none, some (.int (x_6 + 1)), none] [] h13 Q))))))))) : Wm (d + 1) (0, 0) JX3_renamed 6 [some (.ref r_0), some (.long y_1), none, some (.int x_3), some (.long y_4), none, some (.int x_6), none] [] h Q := by
  refine m_iload dX3_renamed_6 rfl ?_
  refine m_iload_n dX3_renamed_8 rfl ?_
  refine m_icmp_ge 51 dX3_renamed_9 (by decide) (fun c => ?_) (fun c => ?_)
  · replace hF := hF.1 c
    refine m_lload dX3_renamed_51 rfl ?_
    exact m_lreturn dX3_renamed_53 trivial hF
  · replace hF := hF.2 c
    refine m_lload_n dX3_renamed_12 rfl ?_
    refine m_aload_n dX3_renamed_13 rfl ?_
    obtain ⟨y1, e, hF⟩ := hF
    refine m_get fg_X3_37 dX3_renamed_14 e ?_
    refine m_iload dX3_renamed_17 rfl ?_
    refine m_static (as := [.long y1, .int x_6]) (rest := [.long y_1]) cs_X3_21 dX3_renamed_19 rfl rfl (Nat.le_of_ble_eq_true rfl) (Nat.le_of_eq (Nat.zero_add _)) (Nat.le_of_eq (Nat.zero_add _)) (b1 := (0, 0)) (b2 := (0, 0)) (Ev.mono hF ?_)
    intro r2 h3 hF
    obtain ⟨x4, rfl, hF⟩ := hF
    refine m_static (as := [.long y_1, .int x4]) (rest := []) cs_X3_21 dX3_renamed_22 rfl rfl (Nat.le_of_ble_eq_true rfl) (Nat.le_of_eq (Nat.zero_add _)) (Nat.le_of_eq (Nat.zero_add _)) (b1 := (0, 0)) (b2 := (0, 0)) (Ev.mono hF ?_)
    intro r5 h6 hF
    obtain ⟨x7, rfl, hF⟩ := hF
    refine m_istore (ls2 := [some (.ref r_0), some (.long y_1), none, some (.int x_3), some (.long y_4), none, some (.int x_6), some (.int x7)]) dX3_renamed_25 (by decide) rfl ?_
    refine m_lload dX3_renamed_27 rfl ?_
    refine m_iload dX3_renamed_29 rfl ?_
    refine m_aload_n dX3_renamed_31 rfl ?_
    obtain ⟨y8, e, hF⟩ := hF
    refine m_get fg_X3_52 dX3_renamed_32 e ?_
    refine m_iload dX3_renamed_35 rfl ?_
    refine m_static (as := [.long y8, .int x7]) (rest := [.int x_6, .long y_4]) cs_X3_21 dX3_renamed_37 rfl rfl (Nat.le_of_ble_eq_true rfl) (Nat.le_of_eq (Nat.zero_add _)) (Nat.le_of_eq (Nat.zero_add _)) (b1 := (0, 0)) (b2 := (0, 0)) (Ev.mono hF ?_)
    intro r9 h10 hF
    obtain ⟨x11, rfl, hF⟩ := hF
    refine m_static (as := [.long y_4, .int x_6, .int x11]) (rest := []) cs_X3_55 dX3_renamed_40 rfl rfl (Nat.le_of_ble_eq_true rfl) (Nat.le_of_eq (Nat.zero_add _)) (Nat.le_of_eq (Nat.zero_add _)) (b1 := (0, 0)) (b2 := (0, 0)) (Ev.mono hF ?_)
    intro r12 h13 hF
    obtain ⟨y14, rfl, hF⟩ := hF
    refine m_lstore (ls2 := [some (.ref r_0), some (.long y_1), none, some (.int x_3), some (.long y14), none, some (.int x_6), some (.int x7)]) dX3_renamed_43 (by decide) rfl ?_
    refine m_iinc (v := x_6 + 1) (ls2 := [some (.ref r_0), some (.long y_1), none, some (.int x_3), some (.long y14), none, some (.int (x_6 + 1)), some (.int x7)]) dX3_renamed_45 (by decide) rfl (congrArg (_ + ·) ki_1) rfl ?_
    refine m_goto 6 dX3_renamed_48 (by decide) ?_
    refine m_wk [7] rfl ?_
    exact hF
theorem en_X3_renamed {d : Nat} {r_0 : Nat} {y_1 : Int64} {x_3 : Int32} {h : mH} {K : Option Value → mH → Prop} (hk : Wm (d + 1) (0, 0) JX3_renamed 0 [some (.ref r_0), some (.long y_1), none, some (.int x_3), none, none, none, none] [] h (fun r h' => h'.1 0 = h.1 0 ∧ K r h')) : Ev (d + 1) (0, 0) MX3_renamed [.ref r_0, .long y_1, .int x_3] h K :=
  m_met pn_X3 nl_X3 (fun _ => Nat.le_of_ble_eq_true rfl) hk
theorem bk_X3_againstLeast_0 {d : Nat} (r_0 : Nat) (r_1 : Nat) (x_2 : Int32) {h : mH} {Q : Option Value → mH → Prop} (hF : Wm (d + 1) (0, 0) JX3_againstLeast 2 [some (.ref r_0), some (.ref r_1), some (.int x_2), some (.int 0), none] [] h Q) : Wm (d + 1) (0, 0) JX3_againstLeast 0 [some (.ref r_0), some (.ref r_1), some (.int x_2), none, none] [] h Q := by
  refine m_iconst dX3_againstLeast_0 ki_0 ?_
  refine m_istore_n (ls2 := [some (.ref r_0), some (.ref r_1), some (.int x_2), some (.int 0), none]) dX3_againstLeast_1 (by decide) rfl ?_
  exact hF
theorem bk_X3_againstLeast_2 {d : Nat} (r_0 : Nat) (r_1 : Nat) (x_2 : Int32) (x_3 : Int32) {h : mH} {Q : Option Value → mH → Prop} (hF : (∃ n1 : Nat, m_len h r_1 = some n1 ∧ (((nI n1) ≤ x_3 → Q (some (.int 0)) h) ∧ (¬ ((nI n1) ≤ x_3) → (∃ y2 : Int64, m_ll h r_1 x_3 = some y2 ∧ (∃ fs11 : List Value, (h).1 r_0 = .inr (3, fs11) ∧ Ev d (0, 0) MX3_renamed [.ref r_0, .long y2, .int x_2] h (fun r3 h4 => ∃ y5 : Int64, r3 = some (.long y5) ∧ (∃ r6 : Nat, m_fld h4 r_0 [3] 0 = some (.ref r6) ∧ (∃ y7 : Int64, m_ll h4 r6 x_3 = some y7 ∧ Ev d (0, 0) MJ13_compare_74951 [.long y5, .long y7] h4 (fun r8 h9 => ∃ x10 : Int32, r8 = some (.int x10) ∧ ((x10 = 0 → Wm (d + 1) (0, 0) JX3_againstLeast 2 [some (.ref r_0), some (.ref r_1), some (.int x_2), some (.int (x_3 + 1)), none] [] h9 Q) ∧ (¬ (x10 = 0) → Q (some (.int x10)) h9)))))))))))) : Wm (d + 1) (0, 0) JX3_againstLeast 2 [some (.ref r_0), some (.ref r_1), some (.int x_2), some (.int x_3), none] [] h Q := by
  refine m_iload_n dX3_againstLeast_2 rfl ?_
  refine m_aload_n dX3_againstLeast_3 rfl ?_
  obtain ⟨n1, e, hF⟩ := hF
  refine m_alen dX3_againstLeast_4 e ?_
  refine m_icmp_ge 41 dX3_againstLeast_5 (by decide) (fun c => ?_) (fun c => ?_)
  · replace hF := hF.1 c
    refine m_iconst dX3_againstLeast_41 ki_0 ?_
    exact m_ireturn dX3_againstLeast_42 trivial hF
  · replace hF := hF.2 c
    refine m_aload_n dX3_againstLeast_8 rfl ?_
    refine m_aload_n dX3_againstLeast_9 rfl ?_
    refine m_iload_n dX3_againstLeast_10 rfl ?_
    obtain ⟨y2, e, hF⟩ := hF
    refine m_lald dX3_againstLeast_11 e ?_
    refine m_iload_n dX3_againstLeast_12 rfl ?_
    obtain ⟨fs11, e, hF⟩ := hF
    refine m_virtual (as := [.long y2, .int x_2]) (rest := []) cv_X3_59_3 e dX3_againstLeast_13 rfl rfl (Nat.le_of_ble_eq_true rfl) (Nat.le_of_eq (Nat.zero_add _)) (Nat.le_of_eq (Nat.zero_add _)) (b1 := (0, 0)) (b2 := (0, 0)) (Ev.mono hF ?_)
    intro r3 h4 hF
    obtain ⟨y5, rfl, hF⟩ := hF
    refine m_aload_n dX3_againstLeast_16 rfl ?_
    obtain ⟨r6, e, hF⟩ := hF
    refine m_get fg_X3_9 dX3_againstLeast_17 e ?_
    refine m_iload_n dX3_againstLeast_20 rfl ?_
    obtain ⟨y7, e, hF⟩ := hF
    refine m_lald dX3_againstLeast_21 e ?_
    refine m_static (as := [.long y5, .long y7]) (rest := []) cs_X3_63 dX3_againstLeast_22 rfl rfl (Nat.le_of_ble_eq_true rfl) (Nat.le_of_eq (Nat.zero_add _)) (Nat.le_of_eq (Nat.zero_add _)) (b1 := (0, 0)) (b2 := (0, 0)) (Ev.mono hF ?_)
    intro r8 h9 hF
    obtain ⟨x10, rfl, hF⟩ := hF
    refine m_istore (ls2 := [some (.ref r_0), some (.ref r_1), some (.int x_2), some (.int x_3), some (.int x10)]) dX3_againstLeast_25 (by decide) rfl ?_
    refine m_iload dX3_againstLeast_27 rfl ?_
    refine m_if_eq 35 dX3_againstLeast_29 (by decide) (fun c => ?_) (fun c => ?_)
    · replace hF := hF.1 c
      refine m_iinc (v := x_3 + 1) (ls2 := [some (.ref r_0), some (.ref r_1), some (.int x_2), some (.int (x_3 + 1)), some (.int x10)]) dX3_againstLeast_35 (by decide) rfl (congrArg (_ + ·) ki_1) rfl ?_
      refine m_goto 2 dX3_againstLeast_38 (by decide) ?_
      refine m_wk [4] rfl ?_
      exact hF
    · replace hF := hF.2 c
      refine m_iload dX3_againstLeast_32 rfl ?_
      exact m_ireturn dX3_againstLeast_34 trivial hF
theorem en_X3_againstLeast {d : Nat} {r_0 : Nat} {r_1 : Nat} {x_2 : Int32} {h : mH} {K : Option Value → mH → Prop} (hk : Wm (d + 1) (0, 0) JX3_againstLeast 0 [some (.ref r_0), some (.ref r_1), some (.int x_2), none, none] [] h (fun r h' => h'.1 0 = h.1 0 ∧ K r h')) : Ev (d + 1) (0, 0) MX3_againstLeast [.ref r_0, .ref r_1, .int x_2] h K :=
  m_met pn_X3 nl_X3 (fun _ => Nat.le_of_ble_eq_true rfl) hk
theorem bk_X3_keepAsLeast_0 {d : Nat} (r_0 : Nat) (r_1 : Nat) (x_2 : Int32) {h : mH} {Q : Option Value → mH → Prop} (hF : Wm (d + 1) (0, 0) JX3_keepAsLeast 2 [some (.ref r_0), some (.ref r_1), some (.int x_2), some (.int 0)] [] h Q) : Wm (d + 1) (0, 0) JX3_keepAsLeast 0 [some (.ref r_0), some (.ref r_1), some (.int x_2), none] [] h Q := by
  refine m_iconst dX3_keepAsLeast_0 ki_0 ?_
  refine m_istore_n (ls2 := [some (.ref r_0), some (.ref r_1), some (.int x_2), some (.int 0)]) dX3_keepAsLeast_1 (by decide) rfl ?_
  exact hF
theorem bk_X3_keepAsLeast_2 {d : Nat} (r_0 : Nat) (r_1 : Nat) (x_2 : Int32) (x_3 : Int32) {h : mH} {Q : Option Value → mH → Prop} (hF : (∃ n1 : Nat, m_len h r_1 = some n1 ∧ (((nI n1) ≤ x_3 → Q none h) ∧ (¬ ((nI n1) ≤ x_3) → (∃ r2 : Nat, m_fld h r_0 [3] 0 = some (.ref r2) ∧ (∃ y3 : Int64, m_ll h r_1 x_3 = some y3 ∧ (∃ fs8 : List Value, (h).1 r_0 = .inr (3, fs8) ∧ Ev d (0, 0) MX3_renamed [.ref r_0, .long y3, .int x_2] h (fun r4 h5 => ∃ y6 : Int64, r4 = some (.long y6) ∧ (∃ h7 : mH, m_ls h5 r2 x_3 y6 = some h7 ∧ Wm (d + 1) (0, 0) JX3_keepAsLeast 2 [some (.ref r_0), some (.ref r_1), some (.int x_2), some (.int (x_3 + 1))] [] h7 Q))))))))) : Wm (d + 1) (0, 0) JX3_keepAsLeast 2 [some (.ref r_0), some (.ref r_1), some (.int x_2), some (.int x_3)] [] h Q := by
  refine m_iload_n dX3_keepAsLeast_2 rfl ?_
  refine m_aload_n dX3_keepAsLeast_3 rfl ?_
  obtain ⟨n1, e, hF⟩ := hF
  refine m_alen dX3_keepAsLeast_4 e ?_
  refine m_icmp_ge 28 dX3_keepAsLeast_5 (by decide) (fun c => ?_) (fun c => ?_)
  · replace hF := hF.1 c
    exact m_return dX3_keepAsLeast_28 trivial hF
  · replace hF := hF.2 c
    refine m_aload_n dX3_keepAsLeast_8 rfl ?_
    obtain ⟨r2, e, hF⟩ := hF
    refine m_get fg_X3_9 dX3_keepAsLeast_9 e ?_
    refine m_iload_n dX3_keepAsLeast_12 rfl ?_
    refine m_aload_n dX3_keepAsLeast_13 rfl ?_
    refine m_aload_n dX3_keepAsLeast_14 rfl ?_
    refine m_iload_n dX3_keepAsLeast_15 rfl ?_
    obtain ⟨y3, e, hF⟩ := hF
    refine m_lald dX3_keepAsLeast_16 e ?_
    refine m_iload_n dX3_keepAsLeast_17 rfl ?_
    obtain ⟨fs8, e, hF⟩ := hF
    refine m_virtual (as := [.long y3, .int x_2]) (rest := [.int x_3, .ref r2]) cv_X3_59_3 e dX3_keepAsLeast_18 rfl rfl (Nat.le_of_ble_eq_true rfl) (Nat.le_of_eq (Nat.zero_add _)) (Nat.le_of_eq (Nat.zero_add _)) (b1 := (0, 0)) (b2 := (0, 0)) (Ev.mono hF ?_)
    intro r4 h5 hF
    obtain ⟨y6, rfl, hF⟩ := hF
    obtain ⟨h7, e, hF⟩ := hF
    refine m_last dX3_keepAsLeast_21 e ?_
    refine m_iinc (v := x_3 + 1) (ls2 := [some (.ref r_0), some (.ref r_1), some (.int x_2), some (.int (x_3 + 1))]) dX3_keepAsLeast_22 (by decide) rfl (congrArg (_ + ·) ki_1) rfl ?_
    refine m_goto 2 dX3_keepAsLeast_25 (by decide) ?_
    exact hF
theorem en_X3_keepAsLeast {d : Nat} {r_0 : Nat} {r_1 : Nat} {x_2 : Int32} {h : mH} {K : Option Value → mH → Prop} (hk : Wm (d + 1) (0, 0) JX3_keepAsLeast 0 [some (.ref r_0), some (.ref r_1), some (.int x_2), none] [] h (fun r h' => h'.1 0 = h.1 0 ∧ K r h')) : Ev (d + 1) (0, 0) MX3_keepAsLeast [.ref r_0, .ref r_1, .int x_2] h K :=
  m_met pn_X3 nl_X3 (fun _ => Nat.le_of_ble_eq_true rfl) hk
theorem bk_X6_init_0 {d : Nat} {b : Nat × Nat} (r_0 : Nat) {h : mH} {Q : Option Value → mH → Prop} (hF : (1 ≤ b.1 ∧ 4 ≤ b.2 ∧ ∀ h1 : mH, h1 = (m_up h.1 h.2 (.inr (3, [.null, .int 0, .long 0, .long 0])), h.2 + 1) → (∃ b4 : Nat × Nat, b4.1 ≤ b.1 - 1 ∧ b4.2 ≤ b.2 - 4 ∧ Ev d b4 MX3_init [.ref h.2] h1 (fun r2 h3 => r2 = none ∧ (∃ h5 : mH, m_put h3 r_0 5 0 (.ref h.2) = some h5 ∧ (∃ n6 : Nat, ¬ (2400 : Int32) < 0 ∧ (2400 : Int32).toNatClampNeg = n6 ∧ n6 ≤ 100000 ∧ 1 ≤ b.1 - 1 - b4.1 ∧ n6 ≤ b.2 - 4 - b4.2 ∧ ∀ h7 : mH, h7 = (m_up h5.1 h5.2 (.inl (1, n6, .inr (.inl fun _ => 0))), h5.2 + 1) → (∃ h8 : mH, m_put h7 r_0 5 1 (.ref h5.2) = some h8 ∧ Q none h8))))))) : Wm (d + 1) b JX6_init 0 [some (.ref r_0)] [] h Q := by
  refine m_aload_n dX6_init_0 rfl ?_
  refine m_objinit ol_X6_3 oi_1 oi_2 dX6_init_1 (Nat.le_of_ble_eq_true rfl) ?_
  refine m_aload_n dX6_init_4 rfl ?_
  obtain ⟨e4, e5, hF⟩ := hF
  refine m_newobj (b2 := (b.1 - 1, b.2 - 4)) nw_X6_9 dX6_init_5 (Nat.le_of_eq (Nat.sub_add_cancel e4)) (Nat.le_of_eq (Nat.sub_add_cancel e5)) ?_
  replace hF := hF _ rfl
  generalize (m_up h.1 h.2 (.inr (3, [.null, .int 0, .long 0, .long 0])), h.2 + 1) = h1 at hF ⊢
  refine m_dup dX6_init_8 rfl ?_
  obtain ⟨b4, g1, g2, hF⟩ := hF
  refine m_special (as := []) (rest := [.ref h.2, .ref r_0]) ci_X6_11 dX6_init_9 rfl rfl (Nat.le_of_ble_eq_true rfl) (Nat.le_of_eq (Nat.add_sub_cancel' g1)) (Nat.le_of_eq (Nat.add_sub_cancel' g2)) (b1 := b4) (b2 := (b.1 - 1 - b4.1, b.2 - 4 - b4.2)) (Ev.mono hF ?_)
  intro r2 h3 hF
  obtain ⟨rfl, hF⟩ := hF
  obtain ⟨h5, e, hF⟩ := hF
  refine m_putfF fp_X6_12_5 rfl dX6_init_12 trivial e ?_
  refine m_aload_n dX6_init_15 rfl ?_
  refine m_sipush dX6_init_16 ks_2400 ?_
  obtain ⟨n6, e1, e2, e3, e4, e5, hF⟩ := hF
  refine m_newarr (t := 1) (b2 := (b.1 - 1 - b4.1 - 1, b.2 - 4 - b4.2 - n6)) dX6_init_19 e1 e2 e3 (Or.inr (Or.inl ⟨rfl, rfl, rfl⟩)) ac_long (Nat.le_of_eq (Nat.sub_add_cancel e4)) (Nat.le_of_eq (Nat.sub_add_cancel e5)) ?_
  replace hF := hF _ rfl
  generalize (m_up h5.1 h5.2 (.inl (1, n6, .inr (.inl fun _ => 0))), h5.2 + 1) = h7 at hF ⊢
  obtain ⟨h8, e, hF⟩ := hF
  refine m_putfF fp_X6_18_5 rfl dX6_init_21 trivial e ?_
  exact m_return dX6_init_24 trivial hF
theorem en_X6_init {d : Nat} {b : Nat × Nat} {r_0 : Nat} {h : mH} {K : Option Value → mH → Prop} (hk : Wm (d + 1) b JX6_init 0 [some (.ref r_0)] [] h (fun r h' => h'.1 0 = h.1 0 ∧ K r h')) : Ev (d + 1) b MX6_init [.ref r_0] h K :=
  m_met pn_X6 nl_X6 (fun _ => Nat.le_of_ble_eq_true rfl) hk
theorem bk_X6_walk_0 {d : Nat} {b : Nat × Nat} (r_0 : Nat) (r_1 : Nat) {h : mH} {Q : Option Value → mH → Prop} (hF : (∃ r1 : Nat, m_fld h r_1 [0, 1, 4, 8, 9] 1 = some (.ref r1) ∧ (∃ n2 : Nat, m_len h r1 = some n2 ∧ (∃ n3 : Nat, ¬ (nI n2) < 0 ∧ (nI n2).toNatClampNeg = n3 ∧ n3 ≤ 100000 ∧ 1 ≤ b.1 ∧ n3 ≤ b.2 ∧ ∀ h4 : mH, h4 = (m_up h.1 h.2 (.inl (1, n3, .inr (.inl fun _ => 0))), h.2 + 1) → (∃ h5 : mH, m_put h4 r_0 5 2 (.int 0) = some h5 ∧ (∃ r6 : Nat, m_fld h5 r_0 [5] 0 = some (.ref r6) ∧ (∃ r7 : Nat, m_fld h5 r_1 [0, 1, 4, 8, 9] 1 = some (.ref r7) ∧ (∃ x8 : Int32, m_fld h5 r_1 [0, 1, 4, 8, 9] 0 = some (.int x8) ∧ (∃ fs14 : List Value, (h5).1 r6 = .inr (3, fs14) ∧ Ev d (0, 0) MX3_find [.ref r6, .ref r7, .int x8] h5 (fun r9 h10 => r9 = none ∧ (∃ fs13 : List Value, (h10).1 r_0 = .inr (5, fs13) ∧ Ev d (0, 0) MX6_keep [.ref r_0, .int (nI n2)] h10 (fun r11 h12 => r11 = none ∧ Wm (d + 1) (b.1 - 1, b.2 - n3) JX6_walk 38 [some (.ref r_0), some (.ref r_1), some (.int (nI n2)), some (.ref h.2), some (.int 0), none] [] h12 Q)))))))))))) : Wm (d + 1) b JX6_walk 0 [some (.ref r_0), some (.ref r_1), none, none, none, none] [] h Q := by
  refine m_aload_n dX6_walk_0 rfl ?_
  obtain ⟨r1, e, hF⟩ := hF
  refine m_get fg_X6_22 dX6_walk_1 e ?_
  obtain ⟨n2, e, hF⟩ := hF
  refine m_alen dX6_walk_4 e ?_
  refine m_istore_n (ls2 := [some (.ref r_0), some (.ref r_1), some (.int (nI n2)), none, none, none]) dX6_walk_5 (by decide) rfl ?_
  refine m_iload_n dX6_walk_6 rfl ?_
  obtain ⟨n3, e1, e2, e3, e4, e5, hF⟩ := hF
  refine m_newarr (t := 1) (b2 := (b.1 - 1, b.2 - n3)) dX6_walk_7 e1 e2 e3 (Or.inr (Or.inl ⟨rfl, rfl, rfl⟩)) ac_long (Nat.le_of_eq (Nat.sub_add_cancel e4)) (Nat.le_of_eq (Nat.sub_add_cancel e5)) ?_
  replace hF := hF _ rfl
  generalize (m_up h.1 h.2 (.inl (1, n3, .inr (.inl fun _ => 0))), h.2 + 1) = h4 at hF ⊢
  refine m_astore_n (ls2 := [some (.ref r_0), some (.ref r_1), some (.int (nI n2)), some (.ref h.2), none, none]) dX6_walk_9 (by decide) rfl ?_
  refine m_aload_n dX6_walk_10 rfl ?_
  refine m_iconst dX6_walk_11 ki_0 ?_
  obtain ⟨h5, e, hF⟩ := hF
  refine m_putf fp_X6_27_5 dX6_walk_12 trivial e ?_
  refine m_aload_n dX6_walk_15 rfl ?_
  obtain ⟨r6, e, hF⟩ := hF
  refine m_get fg_X6_12 dX6_walk_16 e ?_
  refine m_aload_n dX6_walk_19 rfl ?_
  obtain ⟨r7, e, hF⟩ := hF
  refine m_get fg_X6_22 dX6_walk_20 e ?_
  refine m_aload_n dX6_walk_23 rfl ?_
  obtain ⟨x8, e, hF⟩ := hF
  refine m_get fg_X6_31 dX6_walk_24 e ?_
  obtain ⟨fs14, e, hF⟩ := hF
  refine m_virtual (as := [.ref r7, .int x8]) (rest := []) cv_X6_34_3 e dX6_walk_27 rfl rfl (Nat.le_of_ble_eq_true rfl) (Nat.le_of_eq (Nat.zero_add _)) (Nat.le_of_eq (Nat.zero_add _)) (b1 := (0, 0)) (b2 := (b.1 - 1, b.2 - n3)) (Ev.mono hF ?_)
  intro r9 h10 hF
  obtain ⟨rfl, hF⟩ := hF
  refine m_aload_n dX6_walk_30 rfl ?_
  refine m_iload_n dX6_walk_31 rfl ?_
  obtain ⟨fs13, e, hF⟩ := hF
  refine m_virtual (as := [.int (nI n2)]) (rest := []) cv_X6_38_5 e dX6_walk_32 rfl rfl (Nat.le_of_ble_eq_true rfl) (Nat.le_of_eq (Nat.zero_add _)) (Nat.le_of_eq (Nat.zero_add _)) (b1 := (0, 0)) (b2 := (b.1 - 1, b.2 - n3)) (Ev.mono hF ?_)
  intro r11 h12 hF
  obtain ⟨rfl, hF⟩ := hF
  refine m_iconst dX6_walk_35 ki_0 ?_
  refine m_istore (ls2 := [some (.ref r_0), some (.ref r_1), some (.int (nI n2)), some (.ref h.2), some (.int 0), none]) dX6_walk_36 (by decide) rfl ?_
  exact hF
theorem bk_X6_walk_38 {d : Nat} {b : Nat × Nat} (r_0 : Nat) (r_1 : Nat) (x_2 : Int32) (r_3 : Nat) (x_4 : Int32) {h : mH} {Q : Option Value → mH → Prop} (hF : (∃ x1 : Int32, m_fld h r_0 [5] 2 = some (.int x1) ∧ ((x1 ≤ x_4 → (∃ x2 : Int32, m_fld h r_0 [5] 2 = some (.int x2) ∧ Q (some (.int x2)) h)) ∧ (¬ (x1 ≤ x_4) → ((300 ≤ x_4 → (∃ x3 : Int32, m_fld h r_0 [5] 2 = some (.int x3) ∧ Q (some (.int x3)) h)) ∧ (¬ (300 ≤ x_4) → Wm (d + 1) b JX6_walk 58 [some (.ref r_0), some (.ref r_1), some (.int x_2), some (.ref r_3), some (.int x_4), some (.int 0)] [] h Q)))))) : Wm (d + 1) b JX6_walk 38 [some (.ref r_0), some (.ref r_1), some (.int x_2), some (.ref r_3), some (.int x_4), none] [] h Q := by
  refine m_iload dX6_walk_38 rfl ?_
  refine m_aload_n dX6_walk_40 rfl ?_
  obtain ⟨x1, e, hF⟩ := hF
  refine m_get fg_X6_27 dX6_walk_41 e ?_
  refine m_icmp_ge 143 dX6_walk_44 (by decide) (fun c => ?_) (fun c => ?_)
  · replace hF := hF.1 c
    refine m_aload_n dX6_walk_143 rfl ?_
    obtain ⟨x2, e, hF⟩ := hF
    refine m_get fg_X6_27 dX6_walk_144 e ?_
    exact m_ireturn dX6_walk_147 trivial hF
  · replace hF := hF.2 c
    refine m_iload dX6_walk_47 rfl ?_
    refine m_sipush dX6_walk_49 ks_300 ?_
    refine m_icmp_ge 143 dX6_walk_52 (by decide) (fun c => ?_) (fun c => ?_)
    · replace hF := hF.1 c
      refine m_aload_n dX6_walk_143 rfl ?_
      obtain ⟨x3, e, hF⟩ := hF
      refine m_get fg_X6_27 dX6_walk_144 e ?_
      exact m_ireturn dX6_walk_147 trivial hF
    · replace hF := hF.2 c
      refine m_iconst dX6_walk_55 ki_0 ?_
      refine m_istore (ls2 := [some (.ref r_0), some (.ref r_1), some (.int x_2), some (.ref r_3), some (.int x_4), some (.int 0)]) dX6_walk_56 (by decide) rfl ?_
      exact hF
theorem bk_X6_walk_58 {d : Nat} {b : Nat × Nat} (r_0 : Nat) (r_1 : Nat) (x_2 : Int32) (r_3 : Nat) (x_4 : Int32) (x_5 : Int32) {h : mH} {Q : Option Value → mH → Prop} (hF : (((x_2 - 1) ≤ x_5 → Wm (d + 1) b JX6_walk 38 [some (.ref r_0), some (.ref r_1), some (.int x_2), some (.ref r_3), some (.int (x_4 + 1)), none] [] h Q) ∧ (¬ ((x_2 - 1) ≤ x_5) → (∃ r1 : Nat, m_fld h r_0 [5] 1 = some (.ref r1) ∧ (∃ (n2 n3 k4 k5 k6 : Nat) (f7 f8 : Nat → Int64), (h).1 r1 = .inl (1, n2, .inr (.inl f7)) ∧ (h).1 r_3 = .inl (1, n3, .inr (.inl f8)) ∧ (x_4 * 8) = nI k4 ∧ 0 = nI k5 ∧ x_2 = nI k6 ∧ k4 + k6 ≤ n2 ∧ k5 + k6 ≤ n3 ∧ n2 < 100000 ∧ n3 < 100000 ∧ ∀ h9 : mH, h9 = (m_up h.1 r_3 (.inl (1, n3, .inr (.inl (va_cpy f7 f8 k4 k5 k6)))), h.2) → (∃ x10 : Int32, m_fld h9 r_1 [0, 1, 4, 8, 9] 0 = some (.int x10) ∧ Ev d (0, 0) MX5_leadForward [.ref r_3, .int x_5, .int x10] h9 (fun r11 h12 => r11 = none ∧ (∃ r13 : Nat, m_fld h12 r_0 [5] 0 = some (.ref r13) ∧ (∃ x14 : Int32, m_fld h12 r_1 [0, 1, 4, 8, 9] 0 = some (.int x14) ∧ (∃ fs25 : List Value, (h12).1 r13 = .inr (3, fs25) ∧ Ev d (0, 0) MX3_find [.ref r13, .ref r_3, .int x14] h12 (fun r15 h16 => r15 = none ∧ (∃ fs24 : List Value, (h16).1 r_0 = .inr (5, fs24) ∧ Ev d (0, 0) MX6_known [.ref r_0, .int x_2] h16 (fun r17 h18 => ∃ x19 : Int32, r17 = some (.int x19) ∧ ((x19 = 0 → (∃ x20 : Int32, m_fld h18 r_0 [5] 2 = some (.int x20) ∧ ((x20 < 300 → (∃ fs23 : List Value, (h18).1 r_0 = .inr (5, fs23) ∧ Ev d (0, 0) MX6_keep [.ref r_0, .int x_2] h18 (fun r21 h22 => r21 = none ∧ Wm (d + 1) b JX6_walk 58 [some (.ref r_0), some (.ref r_1), some (.int x_2), some (.ref r_3), some (.int x_4), some (.int (x_5 + 1))] [] h22 Q))) ∧ (¬ (x20 < 300) → Q (some (.int (-1))) h18)))) ∧ (¬ (x19 = 0) → Wm (d + 1) b JX6_walk 58 [some (.ref r_0), some (.ref r_1), some (.int x_2), some (.ref r_3), some (.int x_4), some (.int (x_5 + 1))] [] h18 Q))))))))))))))) : Wm (d + 1) b JX6_walk 58 [some (.ref r_0), some (.ref r_1), some (.int x_2), some (.ref r_3), some (.int x_4), some (.int x_5)] [] h Q := by
  refine m_iload dX6_walk_58 rfl ?_
  refine m_iload_n dX6_walk_60 rfl ?_
  refine m_iconst dX6_walk_61 ki_1 ?_
  refine m_isub dX6_walk_62 ?_
  refine m_icmp_ge 137 dX6_walk_63 (by decide) (fun c => ?_) (fun c => ?_)
  · replace hF := hF.1 c
    refine m_iinc (v := x_4 + 1) (ls2 := [some (.ref r_0), some (.ref r_1), some (.int x_2), some (.ref r_3), some (.int (x_4 + 1)), some (.int x_5)]) dX6_walk_137 (by decide) rfl (congrArg (_ + ·) ki_1) rfl ?_
    refine m_goto 38 dX6_walk_140 (by decide) ?_
    refine m_wk [5] rfl ?_
    exact hF
  · replace hF := hF.2 c
    refine m_aload_n dX6_walk_66 rfl ?_
    obtain ⟨r1, e, hF⟩ := hF
    refine m_get fg_X6_18 dX6_walk_67 e ?_
    refine m_iload dX6_walk_70 rfl ?_
    refine m_bipush dX6_walk_72 kb_8 ?_
    refine m_imul dX6_walk_74 ?_
    refine m_aload_n dX6_walk_75 rfl ?_
    refine m_iconst dX6_walk_76 ki_0 ?_
    refine m_iload_n dX6_walk_77 rfl ?_
    obtain ⟨n2, n3, k4, k5, k6, f7, f8, ea, eb, es, ed, en, e4, e5, e6, e7, hF⟩ := hF
    refine m_copyeq es ed en ?_
    refine m_acopyL al_X6_42 ap_1 ap_2 ap_3 dX6_walk_78 ea eb e4 e5 e6 e7 (Nat.le_of_ble_eq_true rfl) ?_
    replace hF := hF _ rfl
    generalize (m_up h.1 r_3 (.inl (1, n3, .inr (.inl (va_cpy f7 f8 k4 k5 k6)))), h.2) = h9 at hF ⊢
    refine m_aload_n dX6_walk_81 rfl ?_
    refine m_iload dX6_walk_82 rfl ?_
    refine m_aload_n dX6_walk_84 rfl ?_
    obtain ⟨x10, e, hF⟩ := hF
    refine m_get fg_X6_31 dX6_walk_85 e ?_
    refine m_static (as := [.ref r_3, .int x_5, .int x10]) (rest := []) cs_X6_48 dX6_walk_88 rfl rfl (Nat.le_of_ble_eq_true rfl) (Nat.le_of_eq (Nat.zero_add _)) (Nat.le_of_eq (Nat.zero_add _)) (b1 := (0, 0)) (b2 := b) (Ev.mono hF ?_)
    intro r11 h12 hF
    obtain ⟨rfl, hF⟩ := hF
    refine m_aload_n dX6_walk_91 rfl ?_
    obtain ⟨r13, e, hF⟩ := hF
    refine m_get fg_X6_12 dX6_walk_92 e ?_
    refine m_aload_n dX6_walk_95 rfl ?_
    refine m_aload_n dX6_walk_96 rfl ?_
    obtain ⟨x14, e, hF⟩ := hF
    refine m_get fg_X6_31 dX6_walk_97 e ?_
    obtain ⟨fs25, e, hF⟩ := hF
    refine m_virtual (as := [.ref r_3, .int x14]) (rest := []) cv_X6_34_3 e dX6_walk_100 rfl rfl (Nat.le_of_ble_eq_true rfl) (Nat.le_of_eq (Nat.zero_add _)) (Nat.le_of_eq (Nat.zero_add _)) (b1 := (0, 0)) (b2 := b) (Ev.mono hF ?_)
    intro r15 h16 hF
    obtain ⟨rfl, hF⟩ := hF
    refine m_aload_n dX6_walk_103 rfl ?_
    refine m_iload_n dX6_walk_104 rfl ?_
    obtain ⟨fs24, e, hF⟩ := hF
    refine m_virtual (as := [.int x_2]) (rest := []) cv_X6_54_5 e dX6_walk_105 rfl rfl (Nat.le_of_ble_eq_true rfl) (Nat.le_of_eq (Nat.zero_add _)) (Nat.le_of_eq (Nat.zero_add _)) (b1 := (0, 0)) (b2 := b) (Ev.mono hF ?_)
    intro r17 h18 hF
    obtain ⟨x19, rfl, hF⟩ := hF
    refine m_if_eq 114 dX6_walk_108 (by decide) (fun c => ?_) (fun c => ?_)
    · replace hF := hF.1 c
      refine m_aload_n dX6_walk_114 rfl ?_
      obtain ⟨x20, e, hF⟩ := hF
      refine m_get fg_X6_27 dX6_walk_115 e ?_
      refine m_sipush dX6_walk_118 ks_300 ?_
      refine m_icmp_lt 126 dX6_walk_121 (by decide) (fun c => ?_) (fun c => ?_)
      · replace hF := hF.1 c
        refine m_aload_n dX6_walk_126 rfl ?_
        refine m_iload_n dX6_walk_127 rfl ?_
        obtain ⟨fs23, e, hF⟩ := hF
        refine m_virtual (as := [.int x_2]) (rest := []) cv_X6_38_5 e dX6_walk_128 rfl rfl (Nat.le_of_ble_eq_true rfl) (Nat.le_of_eq (Nat.zero_add _)) (Nat.le_of_eq (Nat.zero_add _)) (b1 := (0, 0)) (b2 := b) (Ev.mono hF ?_)
        intro r21 h22 hF
        obtain ⟨rfl, hF⟩ := hF
        refine m_iinc (v := x_5 + 1) (ls2 := [some (.ref r_0), some (.ref r_1), some (.int x_2), some (.ref r_3), some (.int x_4), some (.int (x_5 + 1))]) dX6_walk_131 (by decide) rfl (congrArg (_ + ·) ki_1) rfl ?_
        refine m_goto 58 dX6_walk_134 (by decide) ?_
        exact hF
      · replace hF := hF.2 c
        refine m_iconst dX6_walk_124 ki_m1 ?_
        exact m_ireturn dX6_walk_125 trivial hF
    · replace hF := hF.2 c
      refine m_goto 131 dX6_walk_111 (by decide) ?_
      refine m_iinc (v := x_5 + 1) (ls2 := [some (.ref r_0), some (.ref r_1), some (.int x_2), some (.ref r_3), some (.int x_4), some (.int (x_5 + 1))]) dX6_walk_131 (by decide) rfl (congrArg (_ + ·) ki_1) rfl ?_
      refine m_goto 58 dX6_walk_134 (by decide) ?_
      exact hF
theorem en_X6_walk {d : Nat} {b : Nat × Nat} {r_0 : Nat} {r_1 : Nat} {h : mH} {K : Option Value → mH → Prop} (hk : Wm (d + 1) b JX6_walk 0 [some (.ref r_0), some (.ref r_1), none, none, none, none] [] h (fun r h' => h'.1 0 = h.1 0 ∧ K r h')) : Ev (d + 1) b MX6_walk [.ref r_0, .ref r_1] h K :=
  m_met pn_X6 nl_X6 (fun _ => Nat.le_of_ble_eq_true rfl) hk
theorem bk_X6_keep_0 {d : Nat} (r_0 : Nat) (x_1 : Int32) {h : mH} {Q : Option Value → mH → Prop} (hF : (∃ x1 : Int32, m_fld h r_0 [5] 2 = some (.int x1) ∧ ((300 ≤ x1 → Q none h) ∧ (¬ (300 ≤ x1) → ((8 < x_1 → Q none h) ∧ (¬ (8 < x_1) → (∃ r2 : Nat, m_fld h r_0 [5] 0 = some (.ref r2) ∧ (∃ r3 : Nat, m_fld h r2 [3] 0 = some (.ref r3) ∧ (∃ r4 : Nat, m_fld h r_0 [5] 1 = some (.ref r4) ∧ (∃ x5 : Int32, m_fld h r_0 [5] 2 = some (.int x5) ∧ (∃ (n6 n7 k8 k9 k10 : Nat) (f11 f12 : Nat → Int64), (h).1 r3 = .inl (1, n6, .inr (.inl f11)) ∧ (h).1 r4 = .inl (1, n7, .inr (.inl f12)) ∧ 0 = nI k8 ∧ (x5 * 8) = nI k9 ∧ x_1 = nI k10 ∧ k8 + k10 ≤ n6 ∧ k9 + k10 ≤ n7 ∧ n6 < 100000 ∧ n7 < 100000 ∧ ∀ h13 : mH, h13 = (m_up h.1 r4 (.inl (1, n7, .inr (.inl (va_cpy f11 f12 k8 k9 k10)))), h.2) → (∃ x14 : Int32, m_fld h13 r_0 [5] 2 = some (.int x14) ∧ (∃ h15 : mH, m_put h13 r_0 5 2 (.int (x14 + 1)) = some h15 ∧ Q none h15))))))))))))) : Wm (d + 1) (0, 0) JX6_keep 0 [some (.ref r_0), some (.int x_1)] [] h Q := by
  refine m_aload_n dX6_keep_0 rfl ?_
  obtain ⟨x1, e, hF⟩ := hF
  refine m_get fg_X6_27 dX6_keep_1 e ?_
  refine m_sipush dX6_keep_4 ks_300 ?_
  refine m_icmp_ge 49 dX6_keep_7 (by decide) (fun c => ?_) (fun c => ?_)
  · replace hF := hF.1 c
    exact m_return dX6_keep_49 trivial hF
  · replace hF := hF.2 c
    refine m_iload_n dX6_keep_10 rfl ?_
    refine m_bipush dX6_keep_11 kb_8 ?_
    refine m_icmp_gt 49 dX6_keep_13 (by decide) (fun c => ?_) (fun c => ?_)
    · replace hF := hF.1 c
      exact m_return dX6_keep_49 trivial hF
    · replace hF := hF.2 c
      refine m_aload_n dX6_keep_16 rfl ?_
      obtain ⟨r2, e, hF⟩ := hF
      refine m_get fg_X6_12 dX6_keep_17 e ?_
      obtain ⟨r3, e, hF⟩ := hF
      refine m_get fg_X6_58 dX6_keep_20 e ?_
      refine m_iconst dX6_keep_23 ki_0 ?_
      refine m_aload_n dX6_keep_24 rfl ?_
      obtain ⟨r4, e, hF⟩ := hF
      refine m_get fg_X6_18 dX6_keep_25 e ?_
      refine m_aload_n dX6_keep_28 rfl ?_
      obtain ⟨x5, e, hF⟩ := hF
      refine m_get fg_X6_27 dX6_keep_29 e ?_
      refine m_bipush dX6_keep_32 kb_8 ?_
      refine m_imul dX6_keep_34 ?_
      refine m_iload_n dX6_keep_35 rfl ?_
      obtain ⟨n6, n7, k8, k9, k10, f11, f12, ea, eb, es, ed, en, e4, e5, e6, e7, hF⟩ := hF
      refine m_copyeq es ed en ?_
      refine m_acopyL al_X6_42 ap_1 ap_2 ap_3 dX6_keep_36 ea eb e4 e5 e6 e7 (Nat.le_of_ble_eq_true rfl) ?_
      replace hF := hF _ rfl
      generalize (m_up h.1 r4 (.inl (1, n7, .inr (.inl (va_cpy f11 f12 k8 k9 k10)))), h.2) = h13 at hF ⊢
      refine m_aload_n dX6_keep_39 rfl ?_
      refine m_dup dX6_keep_40 rfl ?_
      obtain ⟨x14, e, hF⟩ := hF
      refine m_get fg_X6_27 dX6_keep_41 e ?_
      refine m_iconst dX6_keep_44 ki_1 ?_
      refine m_iadd dX6_keep_45 ?_
      obtain ⟨h15, e, hF⟩ := hF
      refine m_putf fp_X6_27_5 dX6_keep_46 trivial e ?_
      exact m_return dX6_keep_49 trivial hF
theorem en_X6_keep {d : Nat} {r_0 : Nat} {x_1 : Int32} {h : mH} {K : Option Value → mH → Prop} (hk : Wm (d + 1) (0, 0) JX6_keep 0 [some (.ref r_0), some (.int x_1)] [] h (fun r h' => h'.1 0 = h.1 0 ∧ K r h')) : Ev (d + 1) (0, 0) MX6_keep [.ref r_0, .int x_1] h K :=
  m_met pn_X6 nl_X6 (fun _ => Nat.le_of_ble_eq_true rfl) hk
theorem bk_X6_known_0 {d : Nat} (r_0 : Nat) (x_1 : Int32) {h : mH} {Q : Option Value → mH → Prop} (hF : Wm (d + 1) (0, 0) JX6_known 2 [some (.ref r_0), some (.int x_1), some (.int 0)] [] h Q) : Wm (d + 1) (0, 0) JX6_known 0 [some (.ref r_0), some (.int x_1), none] [] h Q := by
  refine m_iconst dX6_known_0 ki_0 ?_
  refine m_istore_n (ls2 := [some (.ref r_0), some (.int x_1), some (.int 0)]) dX6_known_1 (by decide) rfl ?_
  exact hF
theorem bk_X6_known_2 {d : Nat} (r_0 : Nat) (x_1 : Int32) (x_2 : Int32) {h : mH} {Q : Option Value → mH → Prop} (hF : (∃ x1 : Int32, m_fld h r_0 [5] 2 = some (.int x1) ∧ ((x1 ≤ x_2 → Q (some (.int 0)) h) ∧ (¬ (x1 ≤ x_2) → (∃ fs5 : List Value, (h).1 r_0 = .inr (5, fs5) ∧ Ev d (0, 0) MX6_isLeastAt [.ref r_0, .int (x_2 * 8), .int x_1] h (fun r2 h3 => ∃ x4 : Int32, r2 = some (.int x4) ∧ ((x4 = 0 → Wm (d + 1) (0, 0) JX6_known 2 [some (.ref r_0), some (.int x_1), some (.int (x_2 + 1))] [] h3 Q) ∧ (¬ (x4 = 0) → Q (some (.int 1)) h3)))))))) : Wm (d + 1) (0, 0) JX6_known 2 [some (.ref r_0), some (.int x_1), some (.int x_2)] [] h Q := by
  refine m_iload_n dX6_known_2 rfl ?_
  refine m_aload_n dX6_known_3 rfl ?_
  obtain ⟨x1, e, hF⟩ := hF
  refine m_get fg_X6_27 dX6_known_4 e ?_
  refine m_icmp_ge 30 dX6_known_7 (by decide) (fun c => ?_) (fun c => ?_)
  · replace hF := hF.1 c
    refine m_iconst dX6_known_30 ki_0 ?_
    exact m_ireturn dX6_known_31 (Or.inl rfl) hF
  · replace hF := hF.2 c
    refine m_aload_n dX6_known_10 rfl ?_
    refine m_iload_n dX6_known_11 rfl ?_
    refine m_bipush dX6_known_12 kb_8 ?_
    refine m_imul dX6_known_14 ?_
    refine m_iload_n dX6_known_15 rfl ?_
    obtain ⟨fs5, e, hF⟩ := hF
    refine m_virtual (as := [.int (x_2 * 8), .int x_1]) (rest := []) cv_X6_61_5 e dX6_known_16 rfl rfl (Nat.le_of_ble_eq_true rfl) (Nat.le_of_eq (Nat.zero_add _)) (Nat.le_of_eq (Nat.zero_add _)) (b1 := (0, 0)) (b2 := (0, 0)) (Ev.mono hF ?_)
    intro r2 h3 hF
    obtain ⟨x4, rfl, hF⟩ := hF
    refine m_if_eq 24 dX6_known_19 (by decide) (fun c => ?_) (fun c => ?_)
    · replace hF := hF.1 c
      refine m_iinc (v := x_2 + 1) (ls2 := [some (.ref r_0), some (.int x_1), some (.int (x_2 + 1))]) dX6_known_24 (by decide) rfl (congrArg (_ + ·) ki_1) rfl ?_
      refine m_goto 2 dX6_known_27 (by decide) ?_
      exact hF
    · replace hF := hF.2 c
      refine m_iconst dX6_known_22 ki_1 ?_
      exact m_ireturn dX6_known_23 (Or.inr rfl) hF
theorem en_X6_known {d : Nat} {r_0 : Nat} {x_1 : Int32} {h : mH} {K : Option Value → mH → Prop} (hk : Wm (d + 1) (0, 0) JX6_known 0 [some (.ref r_0), some (.int x_1), none] [] h (fun r h' => h'.1 0 = h.1 0 ∧ K r h')) : Ev (d + 1) (0, 0) MX6_known [.ref r_0, .int x_1] h K :=
  m_met pn_X6 nl_X6 (fun _ => Nat.le_of_ble_eq_true rfl) hk
theorem bk_X6_isLeastAt_0 {d : Nat} (r_0 : Nat) (x_1 : Int32) (x_2 : Int32) {h : mH} {Q : Option Value → mH → Prop} (hF : Wm d (0, 0) JX6_isLeastAt 2 [some (.ref r_0), some (.int x_1), some (.int x_2), some (.int 0)] [] h Q) : Wm d (0, 0) JX6_isLeastAt 0 [some (.ref r_0), some (.int x_1), some (.int x_2), none] [] h Q := by
  refine m_iconst dX6_isLeastAt_0 ki_0 ?_
  refine m_istore_n (ls2 := [some (.ref r_0), some (.int x_1), some (.int x_2), some (.int 0)]) dX6_isLeastAt_1 (by decide) rfl ?_
  exact hF
theorem bk_X6_isLeastAt_2 {d : Nat} (r_0 : Nat) (x_1 : Int32) (x_2 : Int32) (x_3 : Int32) {h : mH} {Q : Option Value → mH → Prop} (hF : ((x_2 ≤ x_3 → Q (some (.int 1)) h) ∧ (¬ (x_2 ≤ x_3) → (∃ r1 : Nat, m_fld h r_0 [5] 1 = some (.ref r1) ∧ (∃ y2 : Int64, m_ll h r1 (x_1 + x_3) = some y2 ∧ (∃ r3 : Nat, m_fld h r_0 [5] 0 = some (.ref r3) ∧ (∃ r4 : Nat, m_fld h r3 [3] 0 = some (.ref r4) ∧ (∃ y5 : Int64, m_ll h r4 x_3 = some y5 ∧ (((lg_cmp y2 y5) = 0 → Wm d (0, 0) JX6_isLeastAt 2 [some (.ref r_0), some (.int x_1), some (.int x_2), some (.int (x_3 + 1))] [] h Q) ∧ (¬ ((lg_cmp y2 y5) = 0) → Q (some (.int 0)) h)))))))))) : Wm d (0, 0) JX6_isLeastAt 2 [some (.ref r_0), some (.int x_1), some (.int x_2), some (.int x_3)] [] h Q := by
  refine m_iload_n dX6_isLeastAt_2 rfl ?_
  refine m_iload_n dX6_isLeastAt_3 rfl ?_
  refine m_icmp_ge 36 dX6_isLeastAt_4 (by decide) (fun c => ?_) (fun c => ?_)
  · replace hF := hF.1 c
    refine m_iconst dX6_isLeastAt_36 ki_1 ?_
    exact m_ireturn dX6_isLeastAt_37 (Or.inr rfl) hF
  · replace hF := hF.2 c
    refine m_aload_n dX6_isLeastAt_7 rfl ?_
    obtain ⟨r1, e, hF⟩ := hF
    refine m_get fg_X6_18 dX6_isLeastAt_8 e ?_
    refine m_iload_n dX6_isLeastAt_11 rfl ?_
    refine m_iload_n dX6_isLeastAt_12 rfl ?_
    refine m_iadd dX6_isLeastAt_13 ?_
    obtain ⟨y2, e, hF⟩ := hF
    refine m_lald dX6_isLeastAt_14 e ?_
    refine m_aload_n dX6_isLeastAt_15 rfl ?_
    obtain ⟨r3, e, hF⟩ := hF
    refine m_get fg_X6_12 dX6_isLeastAt_16 e ?_
    obtain ⟨r4, e, hF⟩ := hF
    refine m_get fg_X6_58 dX6_isLeastAt_19 e ?_
    refine m_iload_n dX6_isLeastAt_22 rfl ?_
    obtain ⟨y5, e, hF⟩ := hF
    refine m_lald dX6_isLeastAt_23 e ?_
    refine m_lcmp dX6_isLeastAt_24 ?_
    refine m_if_eq 30 dX6_isLeastAt_25 (by decide) (fun c => ?_) (fun c => ?_)
    · replace hF := hF.1 c
      refine m_iinc (v := x_3 + 1) (ls2 := [some (.ref r_0), some (.int x_1), some (.int x_2), some (.int (x_3 + 1))]) dX6_isLeastAt_30 (by decide) rfl (congrArg (_ + ·) ki_1) rfl ?_
      refine m_goto 2 dX6_isLeastAt_33 (by decide) ?_
      exact hF
    · replace hF := hF.2 c
      refine m_iconst dX6_isLeastAt_28 ki_0 ?_
      exact m_ireturn dX6_isLeastAt_29 (Or.inl rfl) hF
theorem en_X6_isLeastAt {d : Nat} {r_0 : Nat} {x_1 : Int32} {x_2 : Int32} {h : mH} {K : Option Value → mH → Prop} (hk : Wm d (0, 0) JX6_isLeastAt 0 [some (.ref r_0), some (.int x_1), some (.int x_2), none] [] h (fun r h' => h'.1 0 = h.1 0 ∧ K r h')) : Ev d (0, 0) MX6_isLeastAt [.ref r_0, .int x_1, .int x_2] h K :=
  m_met pn_X6 nl_X6 (fun _ => Nat.le_of_ble_eq_true rfl) hk

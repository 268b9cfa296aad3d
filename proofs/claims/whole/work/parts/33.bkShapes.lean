theorem bk_X8_init_0 {d : Nat} {b : Nat × Nat} (r_0 : Nat) {h : mH} {Q : Option Value → mH → Prop} (hF : (∃ n1 : Nat, ¬ (42 : Int32) < 0 ∧ (42 : Int32).toNatClampNeg = n1 ∧ n1 ≤ 100000 ∧ 1 ≤ b.1 ∧ n1 ≤ b.2 ∧ ∀ h2 : mH, h2 = (m_up h.1 h.2 (.inl (1, n1, .inr (.inl fun _ => 0))), h.2 + 1) → (∃ h3 : mH, m_put h2 r_0 7 0 (.ref h.2) = some h3 ∧ (∃ n4 : Nat, ¬ (420 : Int32) < 0 ∧ (420 : Int32).toNatClampNeg = n4 ∧ n4 ≤ 100000 ∧ 1 ≤ b.1 - 1 ∧ n4 ≤ b.2 - n1 ∧ ∀ h5 : mH, h5 = (m_up h3.1 h3.2 (.inl (1, n4, .inr (.inl fun _ => 0))), h3.2 + 1) → (∃ h6 : mH, m_put h5 r_0 7 1 (.ref h3.2) = some h6 ∧ Q none h6))))) : Wm (d + 1) b JX8_init 0 [some (.ref r_0)] [] h Q := by
  refine m_aload_n dX8_init_0 rfl ?_
  refine m_objinit ol_X8_3 oi_1 oi_2 dX8_init_1 (Nat.le_of_ble_eq_true rfl) ?_
  refine m_aload_n dX8_init_4 rfl ?_
  refine m_bipush dX8_init_5 kb_42 ?_
  obtain ⟨n1, e1, e2, e3, e4, e5, hF⟩ := hF
  refine m_newarr (t := 1) (b2 := (b.1 - 1, b.2 - n1)) dX8_init_7 e1 e2 e3 (Or.inr (Or.inl ⟨rfl, rfl, rfl⟩)) ac_long (Nat.le_of_eq (Nat.sub_add_cancel e4)) (Nat.le_of_eq (Nat.sub_add_cancel e5)) ?_
  replace hF := hF _ rfl
  generalize (m_up h.1 h.2 (.inl (1, n1, .inr (.inl fun _ => 0))), h.2 + 1) = h2 at hF ⊢
  obtain ⟨h3, e, hF⟩ := hF
  refine m_putfF fp_X8_11_7 rfl dX8_init_9 trivial e ?_
  refine m_aload_n dX8_init_12 rfl ?_
  refine m_sipush dX8_init_13 ks_420 ?_
  obtain ⟨n4, e1, e2, e3, e4, e5, hF⟩ := hF
  refine m_newarr (t := 1) (b2 := (b.1 - 1 - 1, b.2 - n1 - n4)) dX8_init_16 e1 e2 e3 (Or.inr (Or.inl ⟨rfl, rfl, rfl⟩)) ac_long (Nat.le_of_eq (Nat.sub_add_cancel e4)) (Nat.le_of_eq (Nat.sub_add_cancel e5)) ?_
  replace hF := hF _ rfl
  generalize (m_up h3.1 h3.2 (.inl (1, n4, .inr (.inl fun _ => 0))), h3.2 + 1) = h5 at hF ⊢
  obtain ⟨h6, e, hF⟩ := hF
  refine m_putfF fp_X8_15_7 rfl dX8_init_18 trivial e ?_
  exact m_return dX8_init_21 trivial hF
theorem en_X8_init {d : Nat} {b : Nat × Nat} {r_0 : Nat} {h : mH} {K : Option Value → mH → Prop} (hk : Wm (d + 1) b JX8_init 0 [some (.ref r_0)] [] h (fun r h' => h'.1 0 = h.1 0 ∧ K r h')) : Ev (d + 1) b MX8_init [.ref r_0] h K :=
  m_met pn_X8 nl_X8 (fun _ => Nat.le_of_ble_eq_true rfl) hk
theorem bk_X8_one_0 {d : Nat} (x_0 : Int32) {h : mH} {Q : Option Value → mH → Prop} (hF : Q (some (.long (1 <<< ((4 * (x_0 - 1)).toInt64 &&& 63)))) h) : Wm d (0, 0) JX8_one 0 [some (.int x_0)] [] h Q := by
  refine m_lconst dX8_one_0 kl_1 ?_
  refine m_iconst dX8_one_1 ki_4 ?_
  refine m_iload_n dX8_one_2 rfl ?_
  refine m_iconst dX8_one_3 ki_1 ?_
  refine m_isub dX8_one_4 ?_
  refine m_imul dX8_one_5 ?_
  refine m_lshl dX8_one_6 ?_
  exact m_lreturn dX8_one_7 trivial hF
theorem en_X8_one {d : Nat} {x_0 : Int32} {h : mH} {K : Option Value → mH → Prop} (hk : Wm d (0, 0) JX8_one 0 [some (.int x_0)] [] h (fun r h' => h'.1 0 = h.1 0 ∧ K r h')) : Ev d (0, 0) MX8_one [.int x_0] h K :=
  m_met pn_X8 nl_X8 (fun _ => Nat.le_of_ble_eq_true rfl) hk
theorem bk_X8_times_0 {d : Nat} (y_0 : Int64) (x_2 : Int32) {h : mH} {Q : Option Value → mH → Prop} (hF : Q (some (.int ((((y_0.toUInt64 >>> ((4 * (x_2 - 1)).toInt64.toUInt64 &&& Int64.toUInt64 63)).toInt64).toInt32) &&& 15))) h) : Wm d (0, 0) JX8_times 0 [some (.long y_0), none, some (.int x_2)] [] h Q := by
  refine m_lload_n dX8_times_0 rfl ?_
  refine m_iconst dX8_times_1 ki_4 ?_
  refine m_iload_n dX8_times_2 rfl ?_
  refine m_iconst dX8_times_3 ki_1 ?_
  refine m_isub dX8_times_4 ?_
  refine m_imul dX8_times_5 ?_
  refine m_lushr dX8_times_6 ?_
  refine m_l2i dX8_times_7 ?_
  refine m_bipush dX8_times_8 kb_15 ?_
  refine m_iand dX8_times_10 ?_
  exact m_ireturn dX8_times_11 trivial hF
theorem en_X8_times {d : Nat} {y_0 : Int64} {x_2 : Int32} {h : mH} {K : Option Value → mH → Prop} (hk : Wm d (0, 0) JX8_times 0 [some (.long y_0), none, some (.int x_2)] [] h (fun r h' => h'.1 0 = h.1 0 ∧ K r h')) : Ev d (0, 0) MX8_times [.long y_0, .int x_2] h K :=
  m_met pn_X8 nl_X8 (fun _ => Nat.le_of_ble_eq_true rfl) hk
theorem bk_X8_lengthsOf_0 {d : Nat} (y_0 : Int64) (x_2 : Int32) {h : mH} {Q : Option Value → mH → Prop} (hF : Wm (d + 1) (0, 0) JX8_lengthsOf 8 [some (.long y_0), none, some (.int x_2), some (.long 0), none, some (.int 0), some (.int 0), none, none, none] [] h Q) : Wm (d + 1) (0, 0) JX8_lengthsOf 0 [some (.long y_0), none, some (.int x_2), none, none, none, none, none, none, none] [] h Q := by
  refine m_lconst dX8_lengthsOf_0 kl_0 ?_
  refine m_lstore_n (ls2 := [some (.long y_0), none, some (.int x_2), some (.long 0), none, none, none, none, none, none]) dX8_lengthsOf_1 (by decide) rfl ?_
  refine m_iconst dX8_lengthsOf_2 ki_0 ?_
  refine m_istore (ls2 := [some (.long y_0), none, some (.int x_2), some (.long 0), none, some (.int 0), none, none, none, none]) dX8_lengthsOf_3 (by decide) rfl ?_
  refine m_iconst dX8_lengthsOf_5 ki_0 ?_
  refine m_istore (ls2 := [some (.long y_0), none, some (.int x_2), some (.long 0), none, some (.int 0), some (.int 0), none, none, none]) dX8_lengthsOf_6 (by decide) rfl ?_
  exact hF
theorem bk_X8_lengthsOf_8 {d : Nat} (y_0 : Int64) (x_2 : Int32) (y_3 : Int64) (x_5 : Int32) (x_6 : Int32) {h : mH} {Q : Option Value → mH → Prop} (hF : ((x_2 ≤ x_6 → Q (some (.long y_3)) h) ∧ (¬ (x_2 ≤ x_6) → Wm (d + 1) (0, 0) JX8_lengthsOf 24 [some (.long y_0), none, some (.int x_2), some (.long y_3), none, some (.int x_5), some (.int x_6), some (.int 0), some (.int x_6), some (.int 0)] [] h Q))) : Wm (d + 1) (0, 0) JX8_lengthsOf 8 [some (.long y_0), none, some (.int x_2), some (.long y_3), none, some (.int x_5), some (.int x_6), none, none, none] [] h Q := by
  refine m_iload dX8_lengthsOf_8 rfl ?_
  refine m_iload_n dX8_lengthsOf_10 rfl ?_
  refine m_icmp_ge 85 dX8_lengthsOf_11 (by decide) (fun c => ?_) (fun c => ?_)
  · replace hF := hF.1 c
    refine m_lload_n dX8_lengthsOf_85 rfl ?_
    exact m_lreturn dX8_lengthsOf_86 trivial hF
  · replace hF := hF.2 c
    refine m_iconst dX8_lengthsOf_14 ki_0 ?_
    refine m_istore (ls2 := [some (.long y_0), none, some (.int x_2), some (.long y_3), none, some (.int x_5), some (.int x_6), some (.int 0), none, none]) dX8_lengthsOf_15 (by decide) rfl ?_
    refine m_iload dX8_lengthsOf_17 rfl ?_
    refine m_istore (ls2 := [some (.long y_0), none, some (.int x_2), some (.long y_3), none, some (.int x_5), some (.int x_6), some (.int 0), some (.int x_6), none]) dX8_lengthsOf_19 (by decide) rfl ?_
    refine m_iconst dX8_lengthsOf_21 ki_0 ?_
    refine m_istore (ls2 := [some (.long y_0), none, some (.int x_2), some (.long y_3), none, some (.int x_5), some (.int x_6), some (.int 0), some (.int x_6), some (.int 0)]) dX8_lengthsOf_22 (by decide) rfl ?_
    exact hF
theorem bk_X8_lengthsOf_24 {d : Nat} (y_0 : Int64) (x_2 : Int32) (y_3 : Int64) (x_5 : Int32) (x_6 : Int32) (x_7 : Int32) (x_8 : Int32) (x_9 : Int32) {h : mH} {Q : Option Value → mH → Prop} (hF : ((x_2 ≤ x_9 → ((x_7 ≤ 0 → Wm (d + 1) (0, 0) JX8_lengthsOf 8 [some (.long y_0), none, some (.int x_2), some (.long y_3), none, some (.int x_5), some (.int (x_6 + 1)), none, none, none] [] h Q) ∧ (¬ (x_7 ≤ 0) → Ev d (0, 0) MX8_one [.int x_7] h (fun r1 h2 => ∃ y3 : Int64, r1 = some (.long y3) ∧ Wm (d + 1) (0, 0) JX8_lengthsOf 8 [some (.long y_0), none, some (.int x_2), some (.long (y_3 + y3)), none, some (.int x_5), some (.int (x_6 + 1)), none, none, none] [] h2 Q)))) ∧ (¬ (x_2 ≤ x_9) → ((¬ ((x_5 >>> (x_8 &&& 31)) &&& 1) = 0 → ((x_7 ≤ 0 → Wm (d + 1) (0, 0) JX8_lengthsOf 8 [some (.long y_0), none, some (.int x_2), some (.long y_3), none, some (.int x_5), some (.int (x_6 + 1)), none, none, none] [] h Q) ∧ (¬ (x_7 ≤ 0) → Ev d (0, 0) MX8_one [.int x_7] h (fun r4 h5 => ∃ y6 : Int64, r4 = some (.long y6) ∧ Wm (d + 1) (0, 0) JX8_lengthsOf 8 [some (.long y_0), none, some (.int x_2), some (.long (y_3 + y6)), none, some (.int x_5), some (.int (x_6 + 1)), none, none, none] [] h5 Q)))) ∧ (((x_5 >>> (x_8 &&& 31)) &&& 1) = 0 → Ev d (0, 0) MX5_at [.long y_0, .int x_8] h (fun r7 h8 => ∃ x9 : Int32, r7 = some (.int x9) ∧ Wm (d + 1) (0, 0) JX8_lengthsOf 24 [some (.long y_0), none, some (.int x_2), some (.long y_3), none, some (.int (x_5 ||| (1 <<< (x_8 &&& 31)))), some (.int x_6), some (.int (x_7 + 1)), some (.int x9), some (.int (x_9 + 1))] [] h8 Q)))))) : Wm (d + 1) (0, 0) JX8_lengthsOf 24 [some (.long y_0), none, some (.int x_2), some (.long y_3), none, some (.int x_5), some (.int x_6), some (.int x_7), some (.int x_8), some (.int x_9)] [] h Q := by
  refine m_iload dX8_lengthsOf_24 rfl ?_
  refine m_iload_n dX8_lengthsOf_26 rfl ?_
  refine m_icmp_ge 66 dX8_lengthsOf_27 (by decide) (fun c => ?_) (fun c => ?_)
  · replace hF := hF.1 c
    refine m_iload dX8_lengthsOf_66 rfl ?_
    refine m_if_le 79 dX8_lengthsOf_68 (by decide) (fun c => ?_) (fun c => ?_)
    · replace hF := hF.1 c
      refine m_iinc (v := x_6 + 1) (ls2 := [some (.long y_0), none, some (.int x_2), some (.long y_3), none, some (.int x_5), some (.int (x_6 + 1)), some (.int x_7), some (.int x_8), some (.int x_9)]) dX8_lengthsOf_79 (by decide) rfl (congrArg (_ + ·) ki_1) rfl ?_
      refine m_goto 8 dX8_lengthsOf_82 (by decide) ?_
      refine m_wk [7, 8, 9] rfl ?_
      exact hF
    · replace hF := hF.2 c
      refine m_lload_n dX8_lengthsOf_71 rfl ?_
      refine m_iload dX8_lengthsOf_72 rfl ?_
      refine m_static (as := [.int x_7]) (rest := [.long y_3]) cs_X8_24 dX8_lengthsOf_74 rfl rfl (Nat.le_of_ble_eq_true rfl) (Nat.le_of_eq (Nat.zero_add _)) (Nat.le_of_eq (Nat.zero_add _)) (b1 := (0, 0)) (b2 := (0, 0)) (Ev.mono hF ?_)
      intro r1 h2 hF
      obtain ⟨y3, rfl, hF⟩ := hF
      refine m_ladd dX8_lengthsOf_77 ?_
      refine m_lstore_n (ls2 := [some (.long y_0), none, some (.int x_2), some (.long (y_3 + y3)), none, some (.int x_5), some (.int x_6), some (.int x_7), some (.int x_8), some (.int x_9)]) dX8_lengthsOf_78 (by decide) rfl ?_
      refine m_iinc (v := x_6 + 1) (ls2 := [some (.long y_0), none, some (.int x_2), some (.long (y_3 + y3)), none, some (.int x_5), some (.int (x_6 + 1)), some (.int x_7), some (.int x_8), some (.int x_9)]) dX8_lengthsOf_79 (by decide) rfl (congrArg (_ + ·) ki_1) rfl ?_
      refine m_goto 8 dX8_lengthsOf_82 (by decide) ?_
      refine m_wk [7, 8, 9] rfl ?_
      exact hF
  · replace hF := hF.2 c
    refine m_iload dX8_lengthsOf_30 rfl ?_
    refine m_iload dX8_lengthsOf_32 rfl ?_
    refine m_ishr dX8_lengthsOf_34 ?_
    refine m_iconst dX8_lengthsOf_35 ki_1 ?_
    refine m_iand dX8_lengthsOf_36 ?_
    refine m_if_ne 66 dX8_lengthsOf_37 (by decide) (fun c => ?_) (fun c => ?_)
    · replace hF := hF.1 c
      refine m_iload dX8_lengthsOf_66 rfl ?_
      refine m_if_le 79 dX8_lengthsOf_68 (by decide) (fun c => ?_) (fun c => ?_)
      · replace hF := hF.1 c
        refine m_iinc (v := x_6 + 1) (ls2 := [some (.long y_0), none, some (.int x_2), some (.long y_3), none, some (.int x_5), some (.int (x_6 + 1)), some (.int x_7), some (.int x_8), some (.int x_9)]) dX8_lengthsOf_79 (by decide) rfl (congrArg (_ + ·) ki_1) rfl ?_
        refine m_goto 8 dX8_lengthsOf_82 (by decide) ?_
        refine m_wk [7, 8, 9] rfl ?_
        exact hF
      · replace hF := hF.2 c
        refine m_lload_n dX8_lengthsOf_71 rfl ?_
        refine m_iload dX8_lengthsOf_72 rfl ?_
        refine m_static (as := [.int x_7]) (rest := [.long y_3]) cs_X8_24 dX8_lengthsOf_74 rfl rfl (Nat.le_of_ble_eq_true rfl) (Nat.le_of_eq (Nat.zero_add _)) (Nat.le_of_eq (Nat.zero_add _)) (b1 := (0, 0)) (b2 := (0, 0)) (Ev.mono hF ?_)
        intro r4 h5 hF
        obtain ⟨y6, rfl, hF⟩ := hF
        refine m_ladd dX8_lengthsOf_77 ?_
        refine m_lstore_n (ls2 := [some (.long y_0), none, some (.int x_2), some (.long (y_3 + y6)), none, some (.int x_5), some (.int x_6), some (.int x_7), some (.int x_8), some (.int x_9)]) dX8_lengthsOf_78 (by decide) rfl ?_
        refine m_iinc (v := x_6 + 1) (ls2 := [some (.long y_0), none, some (.int x_2), some (.long (y_3 + y6)), none, some (.int x_5), some (.int (x_6 + 1)), some (.int x_7), some (.int x_8), some (.int x_9)]) dX8_lengthsOf_79 (by decide) rfl (congrArg (_ + ·) ki_1) rfl ?_
        refine m_goto 8 dX8_lengthsOf_82 (by decide) ?_
        refine m_wk [7, 8, 9] rfl ?_
        exact hF
    · replace hF := hF.2 c
      refine m_iload dX8_lengthsOf_40 rfl ?_
      refine m_iconst dX8_lengthsOf_42 ki_1 ?_
      refine m_iload dX8_lengthsOf_43 rfl ?_
      refine m_ishl dX8_lengthsOf_45 ?_
      refine m_ior dX8_lengthsOf_46 ?_
      refine m_istore (ls2 := [some (.long y_0), none, some (.int x_2), some (.long y_3), none, some (.int (x_5 ||| (1 <<< (x_8 &&& 31)))), some (.int x_6), some (.int x_7), some (.int x_8), some (.int x_9)]) dX8_lengthsOf_47 (by decide) rfl ?_
      refine m_lload_n dX8_lengthsOf_49 rfl ?_
      refine m_iload dX8_lengthsOf_50 rfl ?_
      refine m_static (as := [.long y_0, .int x_8]) (rest := []) cs_X8_18 dX8_lengthsOf_52 rfl rfl (Nat.le_of_ble_eq_true rfl) (Nat.le_of_eq (Nat.zero_add _)) (Nat.le_of_eq (Nat.zero_add _)) (b1 := (0, 0)) (b2 := (0, 0)) (Ev.mono hF ?_)
      intro r7 h8 hF
      obtain ⟨x9, rfl, hF⟩ := hF
      refine m_istore (ls2 := [some (.long y_0), none, some (.int x_2), some (.long y_3), none, some (.int (x_5 ||| (1 <<< (x_8 &&& 31)))), some (.int x_6), some (.int x_7), some (.int x9), some (.int x_9)]) dX8_lengthsOf_55 (by decide) rfl ?_
      refine m_iinc (v := x_7 + 1) (ls2 := [some (.long y_0), none, some (.int x_2), some (.long y_3), none, some (.int (x_5 ||| (1 <<< (x_8 &&& 31)))), some (.int x_6), some (.int (x_7 + 1)), some (.int x9), some (.int x_9)]) dX8_lengthsOf_57 (by decide) rfl (congrArg (_ + ·) ki_1) rfl ?_
      refine m_iinc (v := x_9 + 1) (ls2 := [some (.long y_0), none, some (.int x_2), some (.long y_3), none, some (.int (x_5 ||| (1 <<< (x_8 &&& 31)))), some (.int x_6), some (.int (x_7 + 1)), some (.int x9), some (.int (x_9 + 1))]) dX8_lengthsOf_60 (by decide) rfl (congrArg (_ + ·) ki_1) rfl ?_
      refine m_goto 24 dX8_lengthsOf_63 (by decide) ?_
      exact hF
theorem en_X8_lengthsOf {d : Nat} {y_0 : Int64} {x_2 : Int32} {h : mH} {K : Option Value → mH → Prop} (hk : Wm (d + 1) (0, 0) JX8_lengthsOf 0 [some (.long y_0), none, some (.int x_2), none, none, none, none, none, none, none] [] h (fun r h' => h'.1 0 = h.1 0 ∧ K r h')) : Ev (d + 1) (0, 0) MX8_lengthsOf [.long y_0, .int x_2] h K :=
  m_met pn_X8 nl_X8 (fun _ => Nat.le_of_ble_eq_true rfl) hk
theorem bk_X8_total_0 {d : Nat} (y_0 : Int64) {h : mH} {Q : Option Value → mH → Prop} (hF : Wm (d + 1) (0, 0) JX8_total 4 [some (.long y_0), none, some (.int 0), some (.int 1)] [] h Q) : Wm (d + 1) (0, 0) JX8_total 0 [some (.long y_0), none, none, none] [] h Q := by
  refine m_iconst dX8_total_0 ki_0 ?_
  refine m_istore_n (ls2 := [some (.long y_0), none, some (.int 0), none]) dX8_total_1 (by decide) rfl ?_
  refine m_iconst dX8_total_2 ki_1 ?_
  refine m_istore_n (ls2 := [some (.long y_0), none, some (.int 0), some (.int 1)]) dX8_total_3 (by decide) rfl ?_
  exact hF
theorem bk_X8_total_4 {d : Nat} (y_0 : Int64) (x_2 : Int32) (x_3 : Int32) {h : mH} {Q : Option Value → mH → Prop} (hF : ((12 < x_3 → Q (some (.int x_2)) h) ∧ (¬ (12 < x_3) → Ev d (0, 0) MX8_times [.long y_0, .int x_3] h (fun r1 h2 => ∃ x3 : Int32, r1 = some (.int x3) ∧ Wm (d + 1) (0, 0) JX8_total 4 [some (.long y_0), none, some (.int (x_2 + x3)), some (.int (x_3 + 1))] [] h2 Q)))) : Wm (d + 1) (0, 0) JX8_total 4 [some (.long y_0), none, some (.int x_2), some (.int x_3)] [] h Q := by
  refine m_iload_n dX8_total_4 rfl ?_
  refine m_bipush dX8_total_5 kb_12 ?_
  refine m_icmp_gt 24 dX8_total_7 (by decide) (fun c => ?_) (fun c => ?_)
  · replace hF := hF.1 c
    refine m_iload_n dX8_total_24 rfl ?_
    exact m_ireturn dX8_total_25 trivial hF
  · replace hF := hF.2 c
    refine m_iload_n dX8_total_10 rfl ?_
    refine m_lload_n dX8_total_11 rfl ?_
    refine m_iload_n dX8_total_12 rfl ?_
    refine m_static (as := [.long y_0, .int x_3]) (rest := [.int x_2]) cs_X8_28 dX8_total_13 rfl rfl (Nat.le_of_ble_eq_true rfl) (Nat.le_of_eq (Nat.zero_add _)) (Nat.le_of_eq (Nat.zero_add _)) (b1 := (0, 0)) (b2 := (0, 0)) (Ev.mono hF ?_)
    intro r1 h2 hF
    obtain ⟨x3, rfl, hF⟩ := hF
    refine m_iadd dX8_total_16 ?_
    refine m_istore_n (ls2 := [some (.long y_0), none, some (.int (x_2 + x3)), some (.int x_3)]) dX8_total_17 (by decide) rfl ?_
    refine m_iinc (v := x_3 + 1) (ls2 := [some (.long y_0), none, some (.int (x_2 + x3)), some (.int (x_3 + 1))]) dX8_total_18 (by decide) rfl (congrArg (_ + ·) ki_1) rfl ?_
    refine m_goto 4 dX8_total_21 (by decide) ?_
    exact hF
theorem en_X8_total {d : Nat} {y_0 : Int64} {h : mH} {K : Option Value → mH → Prop} (hk : Wm (d + 1) (0, 0) JX8_total 0 [some (.long y_0), none, none, none] [] h (fun r h' => h'.1 0 = h.1 0 ∧ K r h')) : Ev (d + 1) (0, 0) MX8_total [.long y_0] h K :=
  m_met pn_X8 nl_X8 (fun _ => Nat.le_of_ble_eq_true rfl) hk
theorem bk_X8_lengthAt_0 {d : Nat} (y_0 : Int64) (x_2 : Int32) {h : mH} {Q : Option Value → mH → Prop} (hF : ((0 ≤ x_2 → Wm (d + 1) (0, 0) JX8_lengthAt 13 [some (.long y_0), none, some (.int x_2), some (.int 0), some (.int 12)] [] h Q) ∧ (¬ (0 ≤ x_2) → Q (some (.int (-1000000))) h))) : Wm (d + 1) (0, 0) JX8_lengthAt 0 [some (.long y_0), none, some (.int x_2), none, none] [] h Q := by
  refine m_iload_n dX8_lengthAt_0 rfl ?_
  refine m_if_ge 7 dX8_lengthAt_1 (by decide) (fun c => ?_) (fun c => ?_)
  · replace hF := hF.1 c
    refine m_iconst dX8_lengthAt_7 ki_0 ?_
    refine m_istore_n (ls2 := [some (.long y_0), none, some (.int x_2), some (.int 0), none]) dX8_lengthAt_8 (by decide) rfl ?_
    refine m_bipush dX8_lengthAt_9 kb_12 ?_
    refine m_istore (ls2 := [some (.long y_0), none, some (.int x_2), some (.int 0), some (.int 12)]) dX8_lengthAt_11 (by decide) rfl ?_
    exact hF
  · replace hF := hF.2 c
    refine m_ldc dX8_lengthAt_4 kc_X8_31 ?_
    exact m_ireturn dX8_lengthAt_6 trivial hF
theorem bk_X8_lengthAt_13 {d : Nat} (y_0 : Int64) (x_2 : Int32) (x_3 : Int32) (x_4 : Int32) {h : mH} {Q : Option Value → mH → Prop} (hF : ((x_4 < 1 → Q (some (.int (-1000000))) h) ∧ (¬ (x_4 < 1) → Ev d (0, 0) MX8_times [.long y_0, .int x_4] h (fun r1 h2 => ∃ x3 : Int32, r1 = some (.int x3) ∧ (((x_3 + x3) ≤ x_2 → Wm (d + 1) (0, 0) JX8_lengthAt 13 [some (.long y_0), none, some (.int x_2), some (.int (x_3 + x3)), some (.int (x_4 + (-1)))] [] h2 Q) ∧ (¬ ((x_3 + x3) ≤ x_2) → Q (some (.int x_4)) h2)))))) : Wm (d + 1) (0, 0) JX8_lengthAt 13 [some (.long y_0), none, some (.int x_2), some (.int x_3), some (.int x_4)] [] h Q := by
  refine m_iload dX8_lengthAt_13 rfl ?_
  refine m_iconst dX8_lengthAt_15 ki_1 ?_
  refine m_icmp_lt 42 dX8_lengthAt_16 (by decide) (fun c => ?_) (fun c => ?_)
  · replace hF := hF.1 c
    refine m_ldc dX8_lengthAt_42 kc_X8_31 ?_
    exact m_ireturn dX8_lengthAt_44 trivial hF
  · replace hF := hF.2 c
    refine m_iload_n dX8_lengthAt_19 rfl ?_
    refine m_lload_n dX8_lengthAt_20 rfl ?_
    refine m_iload dX8_lengthAt_21 rfl ?_
    refine m_static (as := [.long y_0, .int x_4]) (rest := [.int x_3]) cs_X8_28 dX8_lengthAt_23 rfl rfl (Nat.le_of_ble_eq_true rfl) (Nat.le_of_eq (Nat.zero_add _)) (Nat.le_of_eq (Nat.zero_add _)) (b1 := (0, 0)) (b2 := (0, 0)) (Ev.mono hF ?_)
    intro r1 h2 hF
    obtain ⟨x3, rfl, hF⟩ := hF
    refine m_iadd dX8_lengthAt_26 ?_
    refine m_istore_n (ls2 := [some (.long y_0), none, some (.int x_2), some (.int (x_3 + x3)), some (.int x_4)]) dX8_lengthAt_27 (by decide) rfl ?_
    refine m_iload_n dX8_lengthAt_28 rfl ?_
    refine m_iload_n dX8_lengthAt_29 rfl ?_
    refine m_icmp_ge 36 dX8_lengthAt_30 (by decide) (fun c => ?_) (fun c => ?_)
    · replace hF := hF.1 c
      refine m_iinc (v := x_4 + (-1)) (ls2 := [some (.long y_0), none, some (.int x_2), some (.int (x_3 + x3)), some (.int (x_4 + (-1)))]) dX8_lengthAt_36 (by decide) rfl (congrArg (_ + ·) ki_m1) rfl ?_
      refine m_goto 13 dX8_lengthAt_39 (by decide) ?_
      exact hF
    · replace hF := hF.2 c
      refine m_iload dX8_lengthAt_33 rfl ?_
      exact m_ireturn dX8_lengthAt_35 trivial hF
theorem en_X8_lengthAt {d : Nat} {y_0 : Int64} {x_2 : Int32} {h : mH} {K : Option Value → mH → Prop} (hk : Wm (d + 1) (0, 0) JX8_lengthAt 0 [some (.long y_0), none, some (.int x_2), none, none] [] h (fun r h' => h'.1 0 = h.1 0 ∧ K r h')) : Ev (d + 1) (0, 0) MX8_lengthAt [.long y_0, .int x_2] h K :=
  m_met pn_X8 nl_X8 (fun _ => Nat.le_of_ble_eq_true rfl) hk
theorem bk_X8_lacks_0 {d : Nat} (r_0 : Nat) (x_1 : Int32) {h : mH} {Q : Option Value → mH → Prop} (hF : ((x_1 < 0 → Q (some (.int 1)) h) ∧ (¬ (x_1 < 0) → (∃ x1 : Int32, m_fld h r_0 [7] 3 = some (.int x1) ∧ ((x_1 < x1 → Q (some (.int 0)) h) ∧ (¬ (x_1 < x1) → Q (some (.int 1)) h)))))) : Wm d (0, 0) JX8_lacks 0 [some (.ref r_0), some (.int x_1)] [] h Q := by
  refine m_iload_n dX8_lacks_0 rfl ?_
  refine m_if_lt 12 dX8_lacks_1 (by decide) (fun c => ?_) (fun c => ?_)
  · replace hF := hF.1 c
    refine m_iconst dX8_lacks_12 ki_1 ?_
    refine m_goto 17 dX8_lacks_13 (by decide) ?_
    exact m_ireturn dX8_lacks_17 (Or.inr rfl) hF
  · replace hF := hF.2 c
    refine m_iload_n dX8_lacks_4 rfl ?_
    refine m_aload_n dX8_lacks_5 rfl ?_
    obtain ⟨x1, e, hF⟩ := hF
    refine m_get fg_X8_32 dX8_lacks_6 e ?_
    refine m_icmp_lt 16 dX8_lacks_9 (by decide) (fun c => ?_) (fun c => ?_)
    · replace hF := hF.1 c
      refine m_iconst dX8_lacks_16 ki_0 ?_
      exact m_ireturn dX8_lacks_17 (Or.inl rfl) hF
    · replace hF := hF.2 c
      refine m_iconst dX8_lacks_12 ki_1 ?_
      refine m_goto 17 dX8_lacks_13 (by decide) ?_
      exact m_ireturn dX8_lacks_17 (Or.inr rfl) hF
theorem en_X8_lacks {d : Nat} {r_0 : Nat} {x_1 : Int32} {h : mH} {K : Option Value → mH → Prop} (hk : Wm d (0, 0) JX8_lacks 0 [some (.ref r_0), some (.int x_1)] [] h (fun r h' => h'.1 0 = h.1 0 ∧ K r h')) : Ev d (0, 0) MX8_lacks [.ref r_0, .int x_1] h K :=
  m_met pn_X8 nl_X8 (fun _ => Nat.le_of_ble_eq_true rfl) hk
theorem bk_X8_lengthsAt_0 {d : Nat} (r_0 : Nat) (x_1 : Int32) {h : mH} {Q : Option Value → mH → Prop} (hF : (∃ fs6 : List Value, (h).1 r_0 = .inr (7, fs6) ∧ Ev d (0, 0) MX8_lacks [.ref r_0, .int x_1] h (fun r1 h2 => ∃ x3 : Int32, r1 = some (.int x3) ∧ ((x3 = 0 → (∃ r4 : Nat, m_fld h2 r_0 [7] 0 = some (.ref r4) ∧ (∃ y5 : Int64, m_ll h2 r4 x_1 = some y5 ∧ Q (some (.long y5)) h2))) ∧ (¬ (x3 = 0) → Q (some (.long 0)) h2))))) : Wm (d + 1) (0, 0) JX8_lengthsAt 0 [some (.ref r_0), some (.int x_1)] [] h Q := by
  refine m_aload_n dX8_lengthsAt_0 rfl ?_
  refine m_iload_n dX8_lengthsAt_1 rfl ?_
  obtain ⟨fs6, e, hF⟩ := hF
  refine m_virtual (as := [.int x_1]) (rest := []) cv_X8_36_7 e dX8_lengthsAt_2 rfl rfl (Nat.le_of_ble_eq_true rfl) (Nat.le_of_eq (Nat.zero_add _)) (Nat.le_of_eq (Nat.zero_add _)) (b1 := (0, 0)) (b2 := (0, 0)) (Ev.mono hF ?_)
  intro r1 h2 hF
  obtain ⟨x3, rfl, hF⟩ := hF
  refine m_if_eq 12 dX8_lengthsAt_5 (by decide) (fun c => ?_) (fun c => ?_)
  · replace hF := hF.1 c
    refine m_aload_n dX8_lengthsAt_12 rfl ?_
    obtain ⟨r4, e, hF⟩ := hF
    refine m_get fg_X8_11 dX8_lengthsAt_13 e ?_
    refine m_iload_n dX8_lengthsAt_16 rfl ?_
    obtain ⟨y5, e, hF⟩ := hF
    refine m_lald dX8_lengthsAt_17 e ?_
    exact m_lreturn dX8_lengthsAt_18 trivial hF
  · replace hF := hF.2 c
    refine m_lconst dX8_lengthsAt_8 kl_0 ?_
    refine m_goto 18 dX8_lengthsAt_9 (by decide) ?_
    exact m_lreturn dX8_lengthsAt_18 trivial hF
theorem en_X8_lengthsAt {d : Nat} {r_0 : Nat} {x_1 : Int32} {h : mH} {K : Option Value → mH → Prop} (hk : Wm (d + 1) (0, 0) JX8_lengthsAt 0 [some (.ref r_0), some (.int x_1)] [] h (fun r h' => h'.1 0 = h.1 0 ∧ K r h')) : Ev (d + 1) (0, 0) MX8_lengthsAt [.ref r_0, .int x_1] h K :=
  m_met pn_X8 nl_X8 (fun _ => Nat.le_of_ble_eq_true rfl) hk
theorem bk_X8_rowsOf_0 {d : Nat} (r_0 : Nat) (x_1 : Int32) (x_2 : Int32) {h : mH} {Q : Option Value → mH → Prop} (hF : (∃ fs6 : List Value, (h).1 r_0 = .inr (7, fs6) ∧ Ev d (0, 0) MX8_lacks [.ref r_0, .int x_2] h (fun r1 h2 => ∃ x3 : Int32, r1 = some (.int x3) ∧ ((¬ x3 = 0 → Q (some (.long 0)) h2) ∧ (x3 = 0 → ((x_1 < 0 → Q (some (.long 0)) h2) ∧ (¬ (x_1 < 0) → ((x_1 ≤ 9 → (∃ r4 : Nat, m_fld h2 r_0 [7] 1 = some (.ref r4) ∧ (∃ y5 : Int64, m_ll h2 r4 ((x_1 * 42) + x_2) = some y5 ∧ Q (some (.long y5)) h2))) ∧ (¬ (x_1 ≤ 9) → Q (some (.long 0)) h2))))))))) : Wm (d + 1) (0, 0) JX8_rowsOf 0 [some (.ref r_0), some (.int x_1), some (.int x_2)] [] h Q := by
  refine m_aload_n dX8_rowsOf_0 rfl ?_
  refine m_iload_n dX8_rowsOf_1 rfl ?_
  obtain ⟨fs6, e, hF⟩ := hF
  refine m_virtual (as := [.int x_2]) (rest := []) cv_X8_36_7 e dX8_rowsOf_2 rfl rfl (Nat.le_of_ble_eq_true rfl) (Nat.le_of_eq (Nat.zero_add _)) (Nat.le_of_eq (Nat.zero_add _)) (b1 := (0, 0)) (b2 := (0, 0)) (Ev.mono hF ?_)
  intro r1 h2 hF
  obtain ⟨x3, rfl, hF⟩ := hF
  refine m_if_ne 18 dX8_rowsOf_5 (by decide) (fun c => ?_) (fun c => ?_)
  · replace hF := hF.1 c
    refine m_lconst dX8_rowsOf_18 kl_0 ?_
    refine m_goto 33 dX8_rowsOf_19 (by decide) ?_
    exact m_lreturn dX8_rowsOf_33 trivial hF
  · replace hF := hF.2 c
    refine m_iload_n dX8_rowsOf_8 rfl ?_
    refine m_if_lt 18 dX8_rowsOf_9 (by decide) (fun c => ?_) (fun c => ?_)
    · replace hF := hF.1 c
      refine m_lconst dX8_rowsOf_18 kl_0 ?_
      refine m_goto 33 dX8_rowsOf_19 (by decide) ?_
      exact m_lreturn dX8_rowsOf_33 trivial hF
    · replace hF := hF.2 c
      refine m_iload_n dX8_rowsOf_12 rfl ?_
      refine m_bipush dX8_rowsOf_13 kb_9 ?_
      refine m_icmp_le 22 dX8_rowsOf_15 (by decide) (fun c => ?_) (fun c => ?_)
      · replace hF := hF.1 c
        refine m_aload_n dX8_rowsOf_22 rfl ?_
        obtain ⟨r4, e, hF⟩ := hF
        refine m_get fg_X8_15 dX8_rowsOf_23 e ?_
        refine m_iload_n dX8_rowsOf_26 rfl ?_
        refine m_bipush dX8_rowsOf_27 kb_42 ?_
        refine m_imul dX8_rowsOf_29 ?_
        refine m_iload_n dX8_rowsOf_30 rfl ?_
        refine m_iadd dX8_rowsOf_31 ?_
        obtain ⟨y5, e, hF⟩ := hF
        refine m_lald dX8_rowsOf_32 e ?_
        exact m_lreturn dX8_rowsOf_33 trivial hF
      · replace hF := hF.2 c
        refine m_lconst dX8_rowsOf_18 kl_0 ?_
        refine m_goto 33 dX8_rowsOf_19 (by decide) ?_
        exact m_lreturn dX8_rowsOf_33 trivial hF
theorem en_X8_rowsOf {d : Nat} {r_0 : Nat} {x_1 : Int32} {x_2 : Int32} {h : mH} {K : Option Value → mH → Prop} (hk : Wm (d + 1) (0, 0) JX8_rowsOf 0 [some (.ref r_0), some (.int x_1), some (.int x_2)] [] h (fun r h' => h'.1 0 = h.1 0 ∧ K r h')) : Ev (d + 1) (0, 0) MX8_rowsOf [.ref r_0, .int x_1, .int x_2] h K :=
  m_met pn_X8 nl_X8 (fun _ => Nat.le_of_ble_eq_true rfl) hk
theorem bk_X8_prepare_0 {d : Nat} (r_0 : Nat) (x_1 : Int32) {h : mH} {Q : Option Value → mH → Prop} (hF : (∃ x1 : Int32, m_fld h r_0 [7] 2 = some (.int x1) ∧ ((x_1 = x1 → Q none h) ∧ (¬ (x_1 = x1) → ((x_1 < 1 → Q none h) ∧ (¬ (x_1 < 1) → ((x_1 ≤ 10 → (∃ h2 : mH, m_put h r_0 7 2 (.int x_1) = some h2 ∧ (∃ fs12 : List Value, (h2).1 r_0 = .inr (7, fs12) ∧ Ev d (0, 0) MX8_listAll [.ref r_0, .int x_1] h2 (fun r3 h4 => r3 = none ∧ (∃ r5 : Nat, m_fld h4 r_0 [7] 1 = some (.ref r5) ∧ Ev d (0, 0) MJ7_fill_d0a16 [.ref r5, .long 0] h4 (fun r6 h7 => r6 = none ∧ (∃ x8 : Int32, m_fld h7 r_0 [7] 3 = some (.int x8) ∧ ((x8 ≤ 0 → Wm (d + 1) (0, 0) JX8_prepare 59 [some (.ref r_0), some (.int x_1), some (.int 1), none] [] h7 Q) ∧ (¬ (x8 ≤ 0) → (∃ r9 : Nat, m_fld h7 r_0 [7] 1 = some (.ref r9) ∧ (∃ x10 : Int32, m_fld h7 r_0 [7] 3 = some (.int x10) ∧ (∃ h11 : mH, m_ls h7 r9 (x10 - 1) 1 = some h11 ∧ Wm (d + 1) (0, 0) JX8_prepare 59 [some (.ref r_0), some (.int x_1), some (.int 1), none] [] h11 Q)))))))))))) ∧ (¬ (x_1 ≤ 10) → Q none h)))))))) : Wm (d + 1) (0, 0) JX8_prepare 0 [some (.ref r_0), some (.int x_1), none, none] [] h Q := by
  refine m_iload_n dX8_prepare_0 rfl ?_
  refine m_aload_n dX8_prepare_1 rfl ?_
  obtain ⟨x1, e, hF⟩ := hF
  refine m_get fg_X8_40 dX8_prepare_2 e ?_
  refine m_icmp_eq 19 dX8_prepare_5 (by decide) (fun c => ?_) (fun c => ?_)
  · replace hF := hF.1 c
    exact m_return dX8_prepare_19 trivial hF
  · replace hF := hF.2 c
    refine m_iload_n dX8_prepare_8 rfl ?_
    refine m_iconst dX8_prepare_9 ki_1 ?_
    refine m_icmp_lt 19 dX8_prepare_10 (by decide) (fun c => ?_) (fun c => ?_)
    · replace hF := hF.1 c
      exact m_return dX8_prepare_19 trivial hF
    · replace hF := hF.2 c
      refine m_iload_n dX8_prepare_13 rfl ?_
      refine m_bipush dX8_prepare_14 kb_10 ?_
      refine m_icmp_le 20 dX8_prepare_16 (by decide) (fun c => ?_) (fun c => ?_)
      · replace hF := hF.1 c
        refine m_aload_n dX8_prepare_20 rfl ?_
        refine m_iload_n dX8_prepare_21 rfl ?_
        obtain ⟨h2, e, hF⟩ := hF
        refine m_putf fp_X8_40_7 dX8_prepare_22 trivial e ?_
        refine m_aload_n dX8_prepare_25 rfl ?_
        refine m_iload_n dX8_prepare_26 rfl ?_
        obtain ⟨fs12, e, hF⟩ := hF
        refine m_virtual (as := [.int x_1]) (rest := []) cv_X8_43_7 e dX8_prepare_27 rfl rfl (Nat.le_of_ble_eq_true rfl) (Nat.le_of_eq (Nat.zero_add _)) (Nat.le_of_eq (Nat.zero_add _)) (b1 := (0, 0)) (b2 := (0, 0)) (Ev.mono hF ?_)
        intro r3 h4 hF
        obtain ⟨rfl, hF⟩ := hF
        refine m_aload_n dX8_prepare_30 rfl ?_
        obtain ⟨r5, e, hF⟩ := hF
        refine m_get fg_X8_15 dX8_prepare_31 e ?_
        refine m_lconst dX8_prepare_34 kl_0 ?_
        refine m_static (as := [.ref r5, .long 0]) (rest := []) cs_X8_47 dX8_prepare_35 rfl rfl (Nat.le_of_ble_eq_true rfl) (Nat.le_of_eq (Nat.zero_add _)) (Nat.le_of_eq (Nat.zero_add _)) (b1 := (0, 0)) (b2 := (0, 0)) (Ev.mono hF ?_)
        intro r6 h7 hF
        obtain ⟨rfl, hF⟩ := hF
        refine m_aload_n dX8_prepare_38 rfl ?_
        obtain ⟨x8, e, hF⟩ := hF
        refine m_get fg_X8_32 dX8_prepare_39 e ?_
        refine m_if_le 57 dX8_prepare_42 (by decide) (fun c => ?_) (fun c => ?_)
        · replace hF := hF.1 c
          refine m_iconst dX8_prepare_57 ki_1 ?_
          refine m_istore_n (ls2 := [some (.ref r_0), some (.int x_1), some (.int 1), none]) dX8_prepare_58 (by decide) rfl ?_
          exact hF
        · replace hF := hF.2 c
          refine m_aload_n dX8_prepare_45 rfl ?_
          obtain ⟨r9, e, hF⟩ := hF
          refine m_get fg_X8_15 dX8_prepare_46 e ?_
          refine m_aload_n dX8_prepare_49 rfl ?_
          obtain ⟨x10, e, hF⟩ := hF
          refine m_get fg_X8_32 dX8_prepare_50 e ?_
          refine m_iconst dX8_prepare_53 ki_1 ?_
          refine m_isub dX8_prepare_54 ?_
          refine m_lconst dX8_prepare_55 kl_1 ?_
          obtain ⟨h11, e, hF⟩ := hF
          refine m_last dX8_prepare_56 e ?_
          refine m_iconst dX8_prepare_57 ki_1 ?_
          refine m_istore_n (ls2 := [some (.ref r_0), some (.int x_1), some (.int 1), none]) dX8_prepare_58 (by decide) rfl ?_
          exact hF
      · replace hF := hF.2 c
        exact m_return dX8_prepare_19 trivial hF
theorem bk_X8_prepare_59 {d : Nat} (r_0 : Nat) (x_1 : Int32) (x_2 : Int32) {h : mH} {Q : Option Value → mH → Prop} (hF : ((9 < x_2 → Q none h) ∧ (¬ (9 < x_2) → Wm (d + 1) (0, 0) JX8_prepare 67 [some (.ref r_0), some (.int x_1), some (.int x_2), some (.int 0)] [] h Q))) : Wm (d + 1) (0, 0) JX8_prepare 59 [some (.ref r_0), some (.int x_1), some (.int x_2), none] [] h Q := by
  refine m_iload_n dX8_prepare_59 rfl ?_
  refine m_bipush dX8_prepare_60 kb_9 ?_
  refine m_icmp_gt 112 dX8_prepare_62 (by decide) (fun c => ?_) (fun c => ?_)
  · replace hF := hF.1 c
    exact m_return dX8_prepare_112 trivial hF
  · replace hF := hF.2 c
    refine m_iconst dX8_prepare_65 ki_0 ?_
    refine m_istore_n (ls2 := [some (.ref r_0), some (.int x_1), some (.int x_2), some (.int 0)]) dX8_prepare_66 (by decide) rfl ?_
    exact hF
theorem bk_X8_prepare_67 {d : Nat} (r_0 : Nat) (x_1 : Int32) (x_2 : Int32) (x_3 : Int32) {h : mH} {Q : Option Value → mH → Prop} (hF : (∃ x1 : Int32, m_fld h r_0 [7] 3 = some (.int x1) ∧ ((x1 ≤ x_3 → Wm (d + 1) (0, 0) JX8_prepare 59 [some (.ref r_0), some (.int x_1), some (.int (x_2 + 1)), none] [] h Q) ∧ (¬ (x1 ≤ x_3) → (∃ r2 : Nat, m_fld h r_0 [7] 1 = some (.ref r2) ∧ (∃ r3 : Nat, m_fld h r_0 [7] 0 = some (.ref r3) ∧ (∃ y4 : Int64, m_ll h r3 x_3 = some y4 ∧ (∃ fs9 : List Value, (h).1 r_0 = .inr (7, fs9) ∧ Ev d (0, 0) MX8_cutAndJoined [.ref r_0, .long y4, .int (x_2 - 1), .int x_1] h (fun r5 h6 => ∃ y7 : Int64, r5 = some (.long y7) ∧ (∃ h8 : mH, m_ls h6 r2 ((x_2 * 42) + x_3) y7 = some h8 ∧ Wm (d + 1) (0, 0) JX8_prepare 67 [some (.ref r_0), some (.int x_1), some (.int x_2), some (.int (x_3 + 1))] [] h8 Q)))))))))) : Wm (d + 1) (0, 0) JX8_prepare 67 [some (.ref r_0), some (.int x_1), some (.int x_2), some (.int x_3)] [] h Q := by
  refine m_iload_n dX8_prepare_67 rfl ?_
  refine m_aload_n dX8_prepare_68 rfl ?_
  obtain ⟨x1, e, hF⟩ := hF
  refine m_get fg_X8_32 dX8_prepare_69 e ?_
  refine m_icmp_ge 106 dX8_prepare_72 (by decide) (fun c => ?_) (fun c => ?_)
  · replace hF := hF.1 c
    refine m_iinc (v := x_2 + 1) (ls2 := [some (.ref r_0), some (.int x_1), some (.int (x_2 + 1)), some (.int x_3)]) dX8_prepare_106 (by decide) rfl (congrArg (_ + ·) ki_1) rfl ?_
    refine m_goto 59 dX8_prepare_109 (by decide) ?_
    refine m_wk [3] rfl ?_
    exact hF
  · replace hF := hF.2 c
    refine m_aload_n dX8_prepare_75 rfl ?_
    obtain ⟨r2, e, hF⟩ := hF
    refine m_get fg_X8_15 dX8_prepare_76 e ?_
    refine m_iload_n dX8_prepare_79 rfl ?_
    refine m_bipush dX8_prepare_80 kb_42 ?_
    refine m_imul dX8_prepare_82 ?_
    refine m_iload_n dX8_prepare_83 rfl ?_
    refine m_iadd dX8_prepare_84 ?_
    refine m_aload_n dX8_prepare_85 rfl ?_
    refine m_aload_n dX8_prepare_86 rfl ?_
    obtain ⟨r3, e, hF⟩ := hF
    refine m_get fg_X8_11 dX8_prepare_87 e ?_
    refine m_iload_n dX8_prepare_90 rfl ?_
    obtain ⟨y4, e, hF⟩ := hF
    refine m_lald dX8_prepare_91 e ?_
    refine m_iload_n dX8_prepare_92 rfl ?_
    refine m_iconst dX8_prepare_93 ki_1 ?_
    refine m_isub dX8_prepare_94 ?_
    refine m_iload_n dX8_prepare_95 rfl ?_
    obtain ⟨fs9, e, hF⟩ := hF
    refine m_virtual (as := [.long y4, .int (x_2 - 1), .int x_1]) (rest := [.int ((x_2 * 42) + x_3), .ref r2]) cv_X8_53_7 e dX8_prepare_96 rfl rfl (Nat.le_of_ble_eq_true rfl) (Nat.le_of_eq (Nat.zero_add _)) (Nat.le_of_eq (Nat.zero_add _)) (b1 := (0, 0)) (b2 := (0, 0)) (Ev.mono hF ?_)
    intro r5 h6 hF
    obtain ⟨y7, rfl, hF⟩ := hF
    obtain ⟨h8, e, hF⟩ := hF
    refine m_last dX8_prepare_99 e ?_
    refine m_iinc (v := x_3 + 1) (ls2 := [some (.ref r_0), some (.int x_1), some (.int x_2), some (.int (x_3 + 1))]) dX8_prepare_100 (by decide) rfl (congrArg (_ + ·) ki_1) rfl ?_
    refine m_goto 67 dX8_prepare_103 (by decide) ?_
    exact hF
theorem en_X8_prepare {d : Nat} {r_0 : Nat} {x_1 : Int32} {h : mH} {K : Option Value → mH → Prop} (hk : Wm (d + 1) (0, 0) JX8_prepare 0 [some (.ref r_0), some (.int x_1), none, none] [] h (fun r h' => h'.1 0 = h.1 0 ∧ K r h')) : Ev (d + 1) (0, 0) MX8_prepare [.ref r_0, .int x_1] h K :=
  m_met pn_X8 nl_X8 (fun _ => Nat.le_of_ble_eq_true rfl) hk
theorem bk_X8_listAll_0 {d : Nat} (r_0 : Nat) (x_1 : Int32) {h : mH} {Q : Option Value → mH → Prop} (hF : Ev d (0, 0) MX8_one [.int x_1] h (fun r1 h2 => ∃ y3 : Int64, r1 = some (.long y3) ∧ (∃ h4 : mH, m_put h2 r_0 7 3 (.int 0) = some h4 ∧ Wm (d + 1) (0, 0) JX8_listAll 13 [some (.ref r_0), some (.int x_1), some (.long y3), none, some (.int 0)] [] h4 Q))) : Wm (d + 1) (0, 0) JX8_listAll 0 [some (.ref r_0), some (.int x_1), none, none, none] [] h Q := by
  refine m_iload_n dX8_listAll_0 rfl ?_
  refine m_static (as := [.int x_1]) (rest := []) cs_X8_24 dX8_listAll_1 rfl rfl (Nat.le_of_ble_eq_true rfl) (Nat.le_of_eq (Nat.zero_add _)) (Nat.le_of_eq (Nat.zero_add _)) (b1 := (0, 0)) (b2 := (0, 0)) (Ev.mono hF ?_)
  intro r1 h2 hF
  obtain ⟨y3, rfl, hF⟩ := hF
  refine m_lstore_n (ls2 := [some (.ref r_0), some (.int x_1), some (.long y3), none, none]) dX8_listAll_4 (by decide) rfl ?_
  refine m_aload_n dX8_listAll_5 rfl ?_
  refine m_iconst dX8_listAll_6 ki_0 ?_
  obtain ⟨h4, e, hF⟩ := hF
  refine m_putf fp_X8_32_7 dX8_listAll_7 trivial e ?_
  refine m_iconst dX8_listAll_10 ki_0 ?_
  refine m_istore (ls2 := [some (.ref r_0), some (.int x_1), some (.long y3), none, some (.int 0)]) dX8_listAll_11 (by decide) rfl ?_
  exact hF
theorem bk_X8_listAll_13 {d : Nat} (r_0 : Nat) (x_1 : Int32) (y_2 : Int64) (x_4 : Int32) {h : mH} {Q : Option Value → mH → Prop} (hF : ((42 ≤ x_4 → Q none h) ∧ (¬ (42 ≤ x_4) → (((lg_cmp y_2 0) = 0 → Q none h) ∧ (¬ ((lg_cmp y_2 0) = 0) → (∃ r1 : Nat, m_fld h r_0 [7] 0 = some (.ref r1) ∧ (∃ h2 : mH, m_ls h r1 x_4 y_2 = some h2 ∧ (∃ x3 : Int32, m_fld h2 r_0 [7] 3 = some (.int x3) ∧ (∃ h4 : mH, m_put h2 r_0 7 3 (.int (x3 + 1)) = some h4 ∧ (∃ fs8 : List Value, (h4).1 r_0 = .inr (7, fs8) ∧ Ev d (0, 0) MX8_nextBelow [.ref r_0, .long y_2, .int x_1] h4 (fun r5 h6 => ∃ y7 : Int64, r5 = some (.long y7) ∧ Wm (d + 1) (0, 0) JX8_listAll 13 [some (.ref r_0), some (.int x_1), some (.long y7), none, some (.int (x_4 + 1))] [] h6 Q))))))))))) : Wm (d + 1) (0, 0) JX8_listAll 13 [some (.ref r_0), some (.int x_1), some (.long y_2), none, some (.int x_4)] [] h Q := by
  refine m_iload dX8_listAll_13 rfl ?_
  refine m_bipush dX8_listAll_15 kb_42 ?_
  refine m_icmp_ge 57 dX8_listAll_17 (by decide) (fun c => ?_) (fun c => ?_)
  · replace hF := hF.1 c
    exact m_return dX8_listAll_57 trivial hF
  · replace hF := hF.2 c
    refine m_lload_n dX8_listAll_20 rfl ?_
    refine m_lconst dX8_listAll_21 kl_0 ?_
    refine m_lcmp dX8_listAll_22 ?_
    refine m_if_eq 57 dX8_listAll_23 (by decide) (fun c => ?_) (fun c => ?_)
    · replace hF := hF.1 c
      exact m_return dX8_listAll_57 trivial hF
    · replace hF := hF.2 c
      refine m_aload_n dX8_listAll_26 rfl ?_
      obtain ⟨r1, e, hF⟩ := hF
      refine m_get fg_X8_11 dX8_listAll_27 e ?_
      refine m_iload dX8_listAll_30 rfl ?_
      refine m_lload_n dX8_listAll_32 rfl ?_
      obtain ⟨h2, e, hF⟩ := hF
      refine m_last dX8_listAll_33 e ?_
      refine m_aload_n dX8_listAll_34 rfl ?_
      refine m_dup dX8_listAll_35 rfl ?_
      obtain ⟨x3, e, hF⟩ := hF
      refine m_get fg_X8_32 dX8_listAll_36 e ?_
      refine m_iconst dX8_listAll_39 ki_1 ?_
      refine m_iadd dX8_listAll_40 ?_
      obtain ⟨h4, e, hF⟩ := hF
      refine m_putf fp_X8_32_7 dX8_listAll_41 trivial e ?_
      refine m_aload_n dX8_listAll_44 rfl ?_
      refine m_lload_n dX8_listAll_45 rfl ?_
      refine m_iload_n dX8_listAll_46 rfl ?_
      obtain ⟨fs8, e, hF⟩ := hF
      refine m_virtual (as := [.long y_2, .int x_1]) (rest := []) cv_X8_57_7 e dX8_listAll_47 rfl rfl (Nat.le_of_ble_eq_true rfl) (Nat.le_of_eq (Nat.zero_add _)) (Nat.le_of_eq (Nat.zero_add _)) (b1 := (0, 0)) (b2 := (0, 0)) (Ev.mono hF ?_)
      intro r5 h6 hF
      obtain ⟨y7, rfl, hF⟩ := hF
      refine m_lstore_n (ls2 := [some (.ref r_0), some (.int x_1), some (.long y7), none, some (.int x_4)]) dX8_listAll_50 (by decide) rfl ?_
      refine m_iinc (v := x_4 + 1) (ls2 := [some (.ref r_0), some (.int x_1), some (.long y7), none, some (.int (x_4 + 1))]) dX8_listAll_51 (by decide) rfl (congrArg (_ + ·) ki_1) rfl ?_
      refine m_goto 13 dX8_listAll_54 (by decide) ?_
      exact hF
theorem en_X8_listAll {d : Nat} {r_0 : Nat} {x_1 : Int32} {h : mH} {K : Option Value → mH → Prop} (hk : Wm (d + 1) (0, 0) JX8_listAll 0 [some (.ref r_0), some (.int x_1), none, none, none] [] h (fun r h' => h'.1 0 = h.1 0 ∧ K r h')) : Ev (d + 1) (0, 0) MX8_listAll [.ref r_0, .int x_1] h K :=
  m_met pn_X8 nl_X8 (fun _ => Nat.le_of_ble_eq_true rfl) hk
theorem bk_X8_nextBelow_0 {d : Nat} (r_0 : Nat) (y_1 : Int64) (x_3 : Int32) {h : mH} {Q : Option Value → mH → Prop} (hF : Ev d (0, 0) MX8_times [.long y_1, .int 1] h (fun r1 h2 => ∃ x3 : Int32, r1 = some (.int x3) ∧ Wm (d + 1) (0, 0) JX8_nextBelow 10 [none, some (.long y_1), none, some (.int x_3), some (.int x3), some (.int 2), none, none, none, none] [] h2 Q)) : Wm (d + 1) (0, 0) JX8_nextBelow 0 [some (.ref r_0), some (.long y_1), none, some (.int x_3), none, none, none, none, none, none] [] h Q := by
  refine m_lload_n dX8_nextBelow_0 rfl ?_
  refine m_iconst dX8_nextBelow_1 ki_1 ?_
  refine m_static (as := [.long y_1, .int 1]) (rest := []) cs_X8_28 dX8_nextBelow_2 rfl rfl (Nat.le_of_ble_eq_true rfl) (Nat.le_of_eq (Nat.zero_add _)) (Nat.le_of_eq (Nat.zero_add _)) (b1 := (0, 0)) (b2 := (0, 0)) (Ev.mono hF ?_)
  intro r1 h2 hF
  obtain ⟨x3, rfl, hF⟩ := hF
  refine m_istore (ls2 := [some (.ref r_0), some (.long y_1), none, some (.int x_3), some (.int x3), none, none, none, none, none]) dX8_nextBelow_5 (by decide) rfl ?_
  refine m_iconst dX8_nextBelow_7 ki_2 ?_
  refine m_istore (ls2 := [some (.ref r_0), some (.long y_1), none, some (.int x_3), some (.int x3), some (.int 2), none, none, none, none]) dX8_nextBelow_8 (by decide) rfl ?_
  refine m_wk [0] rfl ?_
  exact hF
theorem bk_X8_nextBelow_10 {d : Nat} (y_1 : Int64) (x_3 : Int32) (x_4 : Int32) (x_5 : Int32) {h : mH} {Q : Option Value → mH → Prop} (hF : ((x_3 < x_5 → Q (some (.long 0)) h) ∧ (¬ (x_3 < x_5) → Ev d (0, 0) MX8_times [.long y_1, .int x_5] h (fun r1 h2 => ∃ x3 : Int32, r1 = some (.int x3) ∧ ((x3 ≤ 0 → Wm (d + 1) (0, 0) JX8_nextBelow 10 [none, some (.long y_1), none, some (.int x_3), some (.int x_4), some (.int (x_5 + 1)), none, none, none, none] [] h2 Q) ∧ (¬ (x3 ≤ 0) → (¬ (x_5 - 1) = 0 ∧ Ev d (0, 0) MX8_one [.int x_5] h2 (fun r4 h5 => ∃ y6 : Int64, r4 = some (.long y6) ∧ Ev d (0, 0) MX8_one [.int 1] h5 (fun r7 h8 => ∃ y9 : Int64, r7 = some (.long y9) ∧ (¬ (x_5 - 1) = 0 ∧ Ev d (0, 0) MX8_one [.int (x_5 - 1)] h8 (fun r10 h11 => ∃ y12 : Int64, r10 = some (.long y12) ∧ ((((x_5 + x_4) - (x_5 + x_4) / (x_5 - 1) * (x_5 - 1)) ≤ 0 → Q (some (.long (((y_1 - y6) - (x_4.toInt64 * y9)) + ((((x_5 + x_4) / (x_5 - 1)).toInt64) * y12)))) h11) ∧ (¬ (((x_5 + x_4) - (x_5 + x_4) / (x_5 - 1) * (x_5 - 1)) ≤ 0) → Ev d (0, 0) MX8_one [.int ((x_5 + x_4) - (x_5 + x_4) / (x_5 - 1) * (x_5 - 1))] h11 (fun r13 h14 => ∃ y15 : Int64, r13 = some (.long y15) ∧ Q (some (.long ((((y_1 - y6) - (x_4.toInt64 * y9)) + ((((x_5 + x_4) / (x_5 - 1)).toInt64) * y12)) + y15))) h14)))))))))))))) : Wm (d + 1) (0, 0) JX8_nextBelow 10 [none, some (.long y_1), none, some (.int x_3), some (.int x_4), some (.int x_5), none, none, none, none] [] h Q := by
  refine m_iload dX8_nextBelow_10 rfl ?_
  refine m_iload_n dX8_nextBelow_12 rfl ?_
  refine m_icmp_gt 105 dX8_nextBelow_13 (by decide) (fun c => ?_) (fun c => ?_)
  · replace hF := hF.1 c
    refine m_lconst dX8_nextBelow_105 kl_0 ?_
    exact m_lreturn dX8_nextBelow_106 trivial hF
  · replace hF := hF.2 c
    refine m_lload_n dX8_nextBelow_16 rfl ?_
    refine m_iload dX8_nextBelow_17 rfl ?_
    refine m_static (as := [.long y_1, .int x_5]) (rest := []) cs_X8_28 dX8_nextBelow_19 rfl rfl (Nat.le_of_ble_eq_true rfl) (Nat.le_of_eq (Nat.zero_add _)) (Nat.le_of_eq (Nat.zero_add _)) (b1 := (0, 0)) (b2 := (0, 0)) (Ev.mono hF ?_)
    intro r1 h2 hF
    obtain ⟨x3, rfl, hF⟩ := hF
    refine m_if_le 99 dX8_nextBelow_22 (by decide) (fun c => ?_) (fun c => ?_)
    · replace hF := hF.1 c
      refine m_iinc (v := x_5 + 1) (ls2 := [none, some (.long y_1), none, some (.int x_3), some (.int x_4), some (.int (x_5 + 1)), none, none, none, none]) dX8_nextBelow_99 (by decide) rfl (congrArg (_ + ·) ki_1) rfl ?_
      refine m_goto 10 dX8_nextBelow_102 (by decide) ?_
      exact hF
    · replace hF := hF.2 c
      refine m_iload dX8_nextBelow_25 rfl ?_
      refine m_iload dX8_nextBelow_27 rfl ?_
      refine m_iadd dX8_nextBelow_29 ?_
      refine m_istore (ls2 := [none, some (.long y_1), none, some (.int x_3), some (.int x_4), some (.int x_5), some (.int (x_5 + x_4)), none, none, none]) dX8_nextBelow_30 (by decide) rfl ?_
      refine m_iload dX8_nextBelow_32 rfl ?_
      refine m_iload dX8_nextBelow_34 rfl ?_
      refine m_iconst dX8_nextBelow_36 ki_1 ?_
      refine m_isub dX8_nextBelow_37 ?_
      obtain ⟨hne, hF⟩ := hF
      refine m_irem dX8_nextBelow_38 hne ?_
      refine m_istore (ls2 := [none, some (.long y_1), none, some (.int x_3), some (.int x_4), some (.int x_5), some (.int (x_5 + x_4)), some (.int ((x_5 + x_4) - (x_5 + x_4) / (x_5 - 1) * (x_5 - 1))), none, none]) dX8_nextBelow_39 (by decide) rfl ?_
      refine m_lload_n dX8_nextBelow_41 rfl ?_
      refine m_iload dX8_nextBelow_42 rfl ?_
      refine m_static (as := [.int x_5]) (rest := [.long y_1]) cs_X8_24 dX8_nextBelow_44 rfl rfl (Nat.le_of_ble_eq_true rfl) (Nat.le_of_eq (Nat.zero_add _)) (Nat.le_of_eq (Nat.zero_add _)) (b1 := (0, 0)) (b2 := (0, 0)) (Ev.mono hF ?_)
      intro r4 h5 hF
      obtain ⟨y6, rfl, hF⟩ := hF
      refine m_lsub dX8_nextBelow_47 ?_
      refine m_iload dX8_nextBelow_48 rfl ?_
      refine m_i2l dX8_nextBelow_50 ?_
      refine m_iconst dX8_nextBelow_51 ki_1 ?_
      refine m_static (as := [.int 1]) (rest := [.long x_4.toInt64, .long (y_1 - y6)]) cs_X8_24 dX8_nextBelow_52 rfl rfl (Nat.le_of_ble_eq_true rfl) (Nat.le_of_eq (Nat.zero_add _)) (Nat.le_of_eq (Nat.zero_add _)) (b1 := (0, 0)) (b2 := (0, 0)) (Ev.mono hF ?_)
      intro r7 h8 hF
      obtain ⟨y9, rfl, hF⟩ := hF
      refine m_lmul dX8_nextBelow_55 ?_
      refine m_lsub dX8_nextBelow_56 ?_
      refine m_lstore (ls2 := [none, some (.long y_1), none, some (.int x_3), some (.int x_4), some (.int x_5), some (.int (x_5 + x_4)), some (.int ((x_5 + x_4) - (x_5 + x_4) / (x_5 - 1) * (x_5 - 1))), some (.long ((y_1 - y6) - (x_4.toInt64 * y9))), none]) dX8_nextBelow_57 (by decide) rfl ?_
      refine m_lload dX8_nextBelow_59 rfl ?_
      refine m_iload dX8_nextBelow_61 rfl ?_
      refine m_iload dX8_nextBelow_63 rfl ?_
      refine m_iconst dX8_nextBelow_65 ki_1 ?_
      refine m_isub dX8_nextBelow_66 ?_
      obtain ⟨hne, hF⟩ := hF
      refine m_idiv dX8_nextBelow_67 hne ?_
      refine m_i2l dX8_nextBelow_68 ?_
      refine m_iload dX8_nextBelow_69 rfl ?_
      refine m_iconst dX8_nextBelow_71 ki_1 ?_
      refine m_isub dX8_nextBelow_72 ?_
      refine m_static (as := [.int (x_5 - 1)]) (rest := [.long (((x_5 + x_4) / (x_5 - 1)).toInt64), .long ((y_1 - y6) - (x_4.toInt64 * y9))]) cs_X8_24 dX8_nextBelow_73 rfl rfl (Nat.le_of_ble_eq_true rfl) (Nat.le_of_eq (Nat.zero_add _)) (Nat.le_of_eq (Nat.zero_add _)) (b1 := (0, 0)) (b2 := (0, 0)) (Ev.mono hF ?_)
      intro r10 h11 hF
      obtain ⟨y12, rfl, hF⟩ := hF
      refine m_lmul dX8_nextBelow_76 ?_
      refine m_ladd dX8_nextBelow_77 ?_
      refine m_lstore (ls2 := [none, some (.long y_1), none, some (.int x_3), some (.int x_4), some (.int x_5), some (.int (x_5 + x_4)), some (.int ((x_5 + x_4) - (x_5 + x_4) / (x_5 - 1) * (x_5 - 1))), some (.long (((y_1 - y6) - (x_4.toInt64 * y9)) + ((((x_5 + x_4) / (x_5 - 1)).toInt64) * y12))), none]) dX8_nextBelow_78 (by decide) rfl ?_
      refine m_iload dX8_nextBelow_80 rfl ?_
      refine m_if_le 96 dX8_nextBelow_82 (by decide) (fun c => ?_) (fun c => ?_)
      · replace hF := hF.1 c
        refine m_lload dX8_nextBelow_96 rfl ?_
        exact m_lreturn dX8_nextBelow_98 trivial hF
      · replace hF := hF.2 c
        refine m_lload dX8_nextBelow_85 rfl ?_
        refine m_iload dX8_nextBelow_87 rfl ?_
        refine m_static (as := [.int ((x_5 + x_4) - (x_5 + x_4) / (x_5 - 1) * (x_5 - 1))]) (rest := [.long (((y_1 - y6) - (x_4.toInt64 * y9)) + ((((x_5 + x_4) / (x_5 - 1)).toInt64) * y12))]) cs_X8_24 dX8_nextBelow_89 rfl rfl (Nat.le_of_ble_eq_true rfl) (Nat.le_of_eq (Nat.zero_add _)) (Nat.le_of_eq (Nat.zero_add _)) (b1 := (0, 0)) (b2 := (0, 0)) (Ev.mono hF ?_)
        intro r13 h14 hF
        obtain ⟨y15, rfl, hF⟩ := hF
        refine m_ladd dX8_nextBelow_92 ?_
        refine m_goto 98 dX8_nextBelow_93 (by decide) ?_
        exact m_lreturn dX8_nextBelow_98 trivial hF
theorem en_X8_nextBelow {d : Nat} {r_0 : Nat} {y_1 : Int64} {x_3 : Int32} {h : mH} {K : Option Value → mH → Prop} (hk : Wm (d + 1) (0, 0) JX8_nextBelow 0 [some (.ref r_0), some (.long y_1), none, some (.int x_3), none, none, none, none, none, none] [] h (fun r h' => h'.1 0 = h.1 0 ∧ K r h')) : Ev (d + 1) (0, 0) MX8_nextBelow [.ref r_0, .long y_1, .int x_3] h K :=
  m_met pn_X8 nl_X8 (fun _ => Nat.le_of_ble_eq_true rfl) hk
theorem bk_X8_cutAndJoined_0 {d : Nat} (r_0 : Nat) (y_1 : Int64) (x_3 : Int32) (x_4 : Int32) {h : mH} {Q : Option Value → mH → Prop} (hF : Wm (d + 1) (0, 0) JX8_cutAndJoined 6 [some (.ref r_0), some (.long y_1), none, some (.int x_3), some (.int x_4), some (.long 0), none, some (.int 1), none, none, none, none, none] [] h Q) : Wm (d + 1) (0, 0) JX8_cutAndJoined 0 [some (.ref r_0), some (.long y_1), none, some (.int x_3), some (.int x_4), none, none, none, none, none, none, none, none] [] h Q := by
  refine m_lconst dX8_cutAndJoined_0 kl_0 ?_
  refine m_lstore (ls2 := [some (.ref r_0), some (.long y_1), none, some (.int x_3), some (.int x_4), some (.long 0), none, none, none, none, none, none, none]) dX8_cutAndJoined_1 (by decide) rfl ?_
  refine m_iconst dX8_cutAndJoined_3 ki_1 ?_
  refine m_istore (ls2 := [some (.ref r_0), some (.long y_1), none, some (.int x_3), some (.int x_4), some (.long 0), none, some (.int 1), none, none, none, none, none]) dX8_cutAndJoined_4 (by decide) rfl ?_
  exact hF
theorem bk_X8_cutAndJoined_6 {d : Nat} (r_0 : Nat) (y_1 : Int64) (x_3 : Int32) (x_4 : Int32) (y_5 : Int64) (x_7 : Int32) {h : mH} {Q : Option Value → mH → Prop} (hF : ((x_4 < x_7 → Q (some (.long y_5)) h) ∧ (¬ (x_4 < x_7) → Ev d (0, 0) MX8_times [.long y_1, .int x_7] h (fun r1 h2 => ∃ x3 : Int32, r1 = some (.int x3) ∧ ((¬ x3 = 0 → (∃ fs7 : List Value, (h2).1 r_0 = .inr (7, fs7) ∧ Ev d (0, 0) MX8_cut [.ref r_0, .long y_1, .int x_7, .int x_3] h2 (fun r4 h5 => ∃ y6 : Int64, r4 = some (.long y6) ∧ Wm (d + 1) (0, 0) JX8_cutAndJoined 50 [some (.ref r_0), some (.long y_1), none, some (.int x_3), some (.int x_4), some (.long (y_5 + (x3.toInt64 * y6))), none, some (.int x_7), some (.int x3), some (.int x_7), none, none, none] [] h5 Q))) ∧ (x3 = 0 → Wm (d + 1) (0, 0) JX8_cutAndJoined 6 [some (.ref r_0), some (.long y_1), none, some (.int x_3), some (.int x_4), some (.long y_5), none, some (.int (x_7 + 1)), none, none, none, none, none] [] h2 Q)))))) : Wm (d + 1) (0, 0) JX8_cutAndJoined 6 [some (.ref r_0), some (.long y_1), none, some (.int x_3), some (.int x_4), some (.long y_5), none, some (.int x_7), none, none, none, none, none] [] h Q := by
  refine m_iload dX8_cutAndJoined_6 rfl ?_
  refine m_iload dX8_cutAndJoined_8 rfl ?_
  refine m_icmp_gt 154 dX8_cutAndJoined_10 (by decide) (fun c => ?_) (fun c => ?_)
  · replace hF := hF.1 c
    refine m_lload dX8_cutAndJoined_154 rfl ?_
    exact m_lreturn dX8_cutAndJoined_156 trivial hF
  · replace hF := hF.2 c
    refine m_lload_n dX8_cutAndJoined_13 rfl ?_
    refine m_iload dX8_cutAndJoined_14 rfl ?_
    refine m_static (as := [.long y_1, .int x_7]) (rest := []) cs_X8_28 dX8_cutAndJoined_16 rfl rfl (Nat.le_of_ble_eq_true rfl) (Nat.le_of_eq (Nat.zero_add _)) (Nat.le_of_eq (Nat.zero_add _)) (b1 := (0, 0)) (b2 := (0, 0)) (Ev.mono hF ?_)
    intro r1 h2 hF
    obtain ⟨x3, rfl, hF⟩ := hF
    refine m_istore (ls2 := [some (.ref r_0), some (.long y_1), none, some (.int x_3), some (.int x_4), some (.long y_5), none, some (.int x_7), some (.int x3), none, none, none, none]) dX8_cutAndJoined_19 (by decide) rfl ?_
    refine m_iload dX8_cutAndJoined_21 rfl ?_
    refine m_if_ne 29 dX8_cutAndJoined_23 (by decide) (fun c => ?_) (fun c => ?_)
    · replace hF := hF.1 c
      refine m_lload dX8_cutAndJoined_29 rfl ?_
      refine m_iload dX8_cutAndJoined_31 rfl ?_
      refine m_i2l dX8_cutAndJoined_33 ?_
      refine m_aload_n dX8_cutAndJoined_34 rfl ?_
      refine m_lload_n dX8_cutAndJoined_35 rfl ?_
      refine m_iload dX8_cutAndJoined_36 rfl ?_
      refine m_iload_n dX8_cutAndJoined_38 rfl ?_
      obtain ⟨fs7, e, hF⟩ := hF
      refine m_virtual (as := [.long y_1, .int x_7, .int x_3]) (rest := [.long x3.toInt64, .long y_5]) cv_X8_61_7 e dX8_cutAndJoined_39 rfl rfl (Nat.le_of_ble_eq_true rfl) (Nat.le_of_eq (Nat.zero_add _)) (Nat.le_of_eq (Nat.zero_add _)) (b1 := (0, 0)) (b2 := (0, 0)) (Ev.mono hF ?_)
      intro r4 h5 hF
      obtain ⟨y6, rfl, hF⟩ := hF
      refine m_lmul dX8_cutAndJoined_42 ?_
      refine m_ladd dX8_cutAndJoined_43 ?_
      refine m_lstore (ls2 := [some (.ref r_0), some (.long y_1), none, some (.int x_3), some (.int x_4), some (.long (y_5 + (x3.toInt64 * y6))), none, some (.int x_7), some (.int x3), none, none, none, none]) dX8_cutAndJoined_44 (by decide) rfl ?_
      refine m_iload dX8_cutAndJoined_46 rfl ?_
      refine m_istore (ls2 := [some (.ref r_0), some (.long y_1), none, some (.int x_3), some (.int x_4), some (.long (y_5 + (x3.toInt64 * y6))), none, some (.int x_7), some (.int x3), some (.int x_7), none, none, none]) dX8_cutAndJoined_48 (by decide) rfl ?_
      exact hF
    · replace hF := hF.2 c
      refine m_goto 148 dX8_cutAndJoined_26 (by decide) ?_
      refine m_iinc (v := x_7 + 1) (ls2 := [some (.ref r_0), some (.long y_1), none, some (.int x_3), some (.int x_4), some (.long y_5), none, some (.int (x_7 + 1)), some (.int x3), none, none, none, none]) dX8_cutAndJoined_148 (by decide) rfl (congrArg (_ + ·) ki_1) rfl ?_
      refine m_goto 6 dX8_cutAndJoined_151 (by decide) ?_
      refine m_wk [8] rfl ?_
      exact hF
theorem bk_X8_cutAndJoined_50 {d : Nat} (r_0 : Nat) (y_1 : Int64) (x_3 : Int32) (x_4 : Int32) (y_5 : Int64) (x_7 : Int32) (x_8 : Int32) (x_9 : Int32) {h : mH} {Q : Option Value → mH → Prop} (hF : ((x_4 < x_9 → Wm (d + 1) (0, 0) JX8_cutAndJoined 6 [some (.ref r_0), some (.long y_1), none, some (.int x_3), some (.int x_4), some (.long y_5), none, some (.int (x_7 + 1)), none, none, none, none, none] [] h Q) ∧ (¬ (x_4 < x_9) → ((¬ x_7 = x_9 → Ev d (0, 0) MX8_times [.long y_1, .int x_9] h (fun r1 h2 => ∃ x3 : Int32, r1 = some (.int x3) ∧ (((x_8 * x3) ≤ 0 → Wm (d + 1) (0, 0) JX8_cutAndJoined 50 [some (.ref r_0), some (.long y_1), none, some (.int x_3), some (.int x_4), some (.long y_5), none, some (.int x_7), some (.int x_8), some (.int (x_9 + 1)), none, none, none] [] h2 Q) ∧ (¬ ((x_8 * x3) ≤ 0) → Ev d (0, 0) MX8_one [.int x_7] h2 (fun r4 h5 => ∃ y6 : Int64, r4 = some (.long y6) ∧ Ev d (0, 0) MX8_one [.int x_9] h5 (fun r7 h8 => ∃ y9 : Int64, r7 = some (.long y9) ∧ Ev d (0, 0) MX8_one [.int (x_7 + x_9)] h8 (fun r10 h11 => ∃ y12 : Int64, r10 = some (.long y12) ∧ (∃ fs20 : List Value, (h11).1 r_0 = .inr (7, fs20) ∧ Ev d (0, 0) MX8_indexOf [.ref r_0, .long (((y_1 - y6) - y9) + y12)] h11 (fun r13 h14 => ∃ x15 : Int32, r13 = some (.int x15) ∧ (∃ fs19 : List Value, (h14).1 r_0 = .inr (7, fs19) ∧ Ev d (0, 0) MX8_rowsOf [.ref r_0, .int x_3, .int x15] h14 (fun r16 h17 => ∃ y18 : Int64, r16 = some (.long y18) ∧ Wm (d + 1) (0, 0) JX8_cutAndJoined 50 [some (.ref r_0), some (.long y_1), none, some (.int x_3), some (.int x_4), some (.long (y_5 + (((((x_8 * x3) * x_7) * x_9).toInt64) * y18))), none, some (.int x_7), some (.int x_8), some (.int (x_9 + 1)), none, none, none] [] h17 Q))))))))))) ∧ (x_7 = x_9 → ((((x_8 * (x_8 - 1)) / 2) ≤ 0 → Wm (d + 1) (0, 0) JX8_cutAndJoined 50 [some (.ref r_0), some (.long y_1), none, some (.int x_3), some (.int x_4), some (.long y_5), none, some (.int x_7), some (.int x_8), some (.int (x_9 + 1)), none, none, none] [] h Q) ∧ (¬ (((x_8 * (x_8 - 1)) / 2) ≤ 0) → Ev d (0, 0) MX8_one [.int x_7] h (fun r21 h22 => ∃ y23 : Int64, r21 = some (.long y23) ∧ Ev d (0, 0) MX8_one [.int x_9] h22 (fun r24 h25 => ∃ y26 : Int64, r24 = some (.long y26) ∧ Ev d (0, 0) MX8_one [.int (x_7 + x_9)] h25 (fun r27 h28 => ∃ y29 : Int64, r27 = some (.long y29) ∧ (∃ fs37 : List Value, (h28).1 r_0 = .inr (7, fs37) ∧ Ev d (0, 0) MX8_indexOf [.ref r_0, .long (((y_1 - y23) - y26) + y29)] h28 (fun r30 h31 => ∃ x32 : Int32, r30 = some (.int x32) ∧ (∃ fs36 : List Value, (h31).1 r_0 = .inr (7, fs36) ∧ Ev d (0, 0) MX8_rowsOf [.ref r_0, .int x_3, .int x32] h31 (fun r33 h34 => ∃ y35 : Int64, r33 = some (.long y35) ∧ Wm (d + 1) (0, 0) JX8_cutAndJoined 50 [some (.ref r_0), some (.long y_1), none, some (.int x_3), some (.int x_4), some (.long (y_5 + ((((((x_8 * (x_8 - 1)) / 2) * x_7) * x_9).toInt64) * y35))), none, some (.int x_7), some (.int x_8), some (.int (x_9 + 1)), none, none, none] [] h34 Q)))))))))))))) : Wm (d + 1) (0, 0) JX8_cutAndJoined 50 [some (.ref r_0), some (.long y_1), none, some (.int x_3), some (.int x_4), some (.long y_5), none, some (.int x_7), some (.int x_8), some (.int x_9), none, none, none] [] h Q := by
  refine m_iload dX8_cutAndJoined_50 rfl ?_
  refine m_iload dX8_cutAndJoined_52 rfl ?_
  refine m_icmp_gt 148 dX8_cutAndJoined_54 (by decide) (fun c => ?_) (fun c => ?_)
  · replace hF := hF.1 c
    refine m_iinc (v := x_7 + 1) (ls2 := [some (.ref r_0), some (.long y_1), none, some (.int x_3), some (.int x_4), some (.long y_5), none, some (.int (x_7 + 1)), some (.int x_8), some (.int x_9), none, none, none]) dX8_cutAndJoined_148 (by decide) rfl (congrArg (_ + ·) ki_1) rfl ?_
    refine m_goto 6 dX8_cutAndJoined_151 (by decide) ?_
    refine m_wk [8, 9] rfl ?_
    exact hF
  · replace hF := hF.2 c
    refine m_iload dX8_cutAndJoined_57 rfl ?_
    refine m_iload dX8_cutAndJoined_59 rfl ?_
    refine m_icmp_ne 76 dX8_cutAndJoined_61 (by decide) (fun c => ?_) (fun c => ?_)
    · replace hF := hF.1 c
      refine m_iload dX8_cutAndJoined_76 rfl ?_
      refine m_lload_n dX8_cutAndJoined_78 rfl ?_
      refine m_iload dX8_cutAndJoined_79 rfl ?_
      refine m_static (as := [.long y_1, .int x_9]) (rest := [.int x_8]) cs_X8_28 dX8_cutAndJoined_81 rfl rfl (Nat.le_of_ble_eq_true rfl) (Nat.le_of_eq (Nat.zero_add _)) (Nat.le_of_eq (Nat.zero_add _)) (b1 := (0, 0)) (b2 := (0, 0)) (Ev.mono hF ?_)
      intro r1 h2 hF
      obtain ⟨x3, rfl, hF⟩ := hF
      refine m_imul dX8_cutAndJoined_84 ?_
      refine m_istore (ls2 := [some (.ref r_0), some (.long y_1), none, some (.int x_3), some (.int x_4), some (.long y_5), none, some (.int x_7), some (.int x_8), some (.int x_9), some (.int (x_8 * x3)), none, none]) dX8_cutAndJoined_85 (by decide) rfl ?_
      refine m_iload dX8_cutAndJoined_87 rfl ?_
      refine m_if_le 142 dX8_cutAndJoined_89 (by decide) (fun c => ?_) (fun c => ?_)
      · replace hF := hF.1 c
        refine m_iinc (v := x_9 + 1) (ls2 := [some (.ref r_0), some (.long y_1), none, some (.int x_3), some (.int x_4), some (.long y_5), none, some (.int x_7), some (.int x_8), some (.int (x_9 + 1)), some (.int (x_8 * x3)), none, none]) dX8_cutAndJoined_142 (by decide) rfl (congrArg (_ + ·) ki_1) rfl ?_
        refine m_goto 50 dX8_cutAndJoined_145 (by decide) ?_
        refine m_wk [10] rfl ?_
        exact hF
      · replace hF := hF.2 c
        refine m_lload_n dX8_cutAndJoined_92 rfl ?_
        refine m_iload dX8_cutAndJoined_93 rfl ?_
        refine m_static (as := [.int x_7]) (rest := [.long y_1]) cs_X8_24 dX8_cutAndJoined_95 rfl rfl (Nat.le_of_ble_eq_true rfl) (Nat.le_of_eq (Nat.zero_add _)) (Nat.le_of_eq (Nat.zero_add _)) (b1 := (0, 0)) (b2 := (0, 0)) (Ev.mono hF ?_)
        intro r4 h5 hF
        obtain ⟨y6, rfl, hF⟩ := hF
        refine m_lsub dX8_cutAndJoined_98 ?_
        refine m_iload dX8_cutAndJoined_99 rfl ?_
        refine m_static (as := [.int x_9]) (rest := [.long (y_1 - y6)]) cs_X8_24 dX8_cutAndJoined_101 rfl rfl (Nat.le_of_ble_eq_true rfl) (Nat.le_of_eq (Nat.zero_add _)) (Nat.le_of_eq (Nat.zero_add _)) (b1 := (0, 0)) (b2 := (0, 0)) (Ev.mono hF ?_)
        intro r7 h8 hF
        obtain ⟨y9, rfl, hF⟩ := hF
        refine m_lsub dX8_cutAndJoined_104 ?_
        refine m_iload dX8_cutAndJoined_105 rfl ?_
        refine m_iload dX8_cutAndJoined_107 rfl ?_
        refine m_iadd dX8_cutAndJoined_109 ?_
        refine m_static (as := [.int (x_7 + x_9)]) (rest := [.long ((y_1 - y6) - y9)]) cs_X8_24 dX8_cutAndJoined_110 rfl rfl (Nat.le_of_ble_eq_true rfl) (Nat.le_of_eq (Nat.zero_add _)) (Nat.le_of_eq (Nat.zero_add _)) (b1 := (0, 0)) (b2 := (0, 0)) (Ev.mono hF ?_)
        intro r10 h11 hF
        obtain ⟨y12, rfl, hF⟩ := hF
        refine m_ladd dX8_cutAndJoined_113 ?_
        refine m_lstore (ls2 := [some (.ref r_0), some (.long y_1), none, some (.int x_3), some (.int x_4), some (.long y_5), none, some (.int x_7), some (.int x_8), some (.int x_9), some (.int (x_8 * x3)), some (.long (((y_1 - y6) - y9) + y12)), none]) dX8_cutAndJoined_114 (by decide) rfl ?_
        refine m_lload dX8_cutAndJoined_116 rfl ?_
        refine m_iload dX8_cutAndJoined_118 rfl ?_
        refine m_iload dX8_cutAndJoined_120 rfl ?_
        refine m_imul dX8_cutAndJoined_122 ?_
        refine m_iload dX8_cutAndJoined_123 rfl ?_
        refine m_imul dX8_cutAndJoined_125 ?_
        refine m_i2l dX8_cutAndJoined_126 ?_
        refine m_aload_n dX8_cutAndJoined_127 rfl ?_
        refine m_iload_n dX8_cutAndJoined_128 rfl ?_
        refine m_aload_n dX8_cutAndJoined_129 rfl ?_
        refine m_lload dX8_cutAndJoined_130 rfl ?_
        obtain ⟨fs20, e, hF⟩ := hF
        refine m_virtual (as := [.long (((y_1 - y6) - y9) + y12)]) (rest := [.int x_3, .ref r_0, .long ((((x_8 * x3) * x_7) * x_9).toInt64), .long y_5]) cv_X8_64_7 e dX8_cutAndJoined_132 rfl rfl (Nat.le_of_ble_eq_true rfl) (Nat.le_of_eq (Nat.zero_add _)) (Nat.le_of_eq (Nat.zero_add _)) (b1 := (0, 0)) (b2 := (0, 0)) (Ev.mono hF ?_)
        intro r13 h14 hF
        obtain ⟨x15, rfl, hF⟩ := hF
        obtain ⟨fs19, e, hF⟩ := hF
        refine m_virtual (as := [.int x_3, .int x15]) (rest := [.long ((((x_8 * x3) * x_7) * x_9).toInt64), .long y_5]) cv_X8_68_7 e dX8_cutAndJoined_135 rfl rfl (Nat.le_of_ble_eq_true rfl) (Nat.le_of_eq (Nat.zero_add _)) (Nat.le_of_eq (Nat.zero_add _)) (b1 := (0, 0)) (b2 := (0, 0)) (Ev.mono hF ?_)
        intro r16 h17 hF
        obtain ⟨y18, rfl, hF⟩ := hF
        refine m_lmul dX8_cutAndJoined_138 ?_
        refine m_ladd dX8_cutAndJoined_139 ?_
        refine m_lstore (ls2 := [some (.ref r_0), some (.long y_1), none, some (.int x_3), some (.int x_4), some (.long (y_5 + (((((x_8 * x3) * x_7) * x_9).toInt64) * y18))), none, some (.int x_7), some (.int x_8), some (.int x_9), some (.int (x_8 * x3)), some (.long (((y_1 - y6) - y9) + y12)), none]) dX8_cutAndJoined_140 (by decide) rfl ?_
        refine m_iinc (v := x_9 + 1) (ls2 := [some (.ref r_0), some (.long y_1), none, some (.int x_3), some (.int x_4), some (.long (y_5 + (((((x_8 * x3) * x_7) * x_9).toInt64) * y18))), none, some (.int x_7), some (.int x_8), some (.int (x_9 + 1)), some (.int (x_8 * x3)), some (.long (((y_1 - y6) - y9) + y12)), none]) dX8_cutAndJoined_142 (by decide) rfl (congrArg (_ + ·) ki_1) rfl ?_
        refine m_goto 50 dX8_cutAndJoined_145 (by decide) ?_
        refine m_wk [10, 11] rfl ?_
        exact hF
    · replace hF := hF.2 c
      refine m_iload dX8_cutAndJoined_64 rfl ?_
      refine m_iload dX8_cutAndJoined_66 rfl ?_
      refine m_iconst dX8_cutAndJoined_68 ki_1 ?_
      refine m_isub dX8_cutAndJoined_69 ?_
      refine m_imul dX8_cutAndJoined_70 ?_
      refine m_iconst dX8_cutAndJoined_71 ki_2 ?_
      refine m_idiv dX8_cutAndJoined_72 (by decide) ?_
      refine m_goto 85 dX8_cutAndJoined_73 (by decide) ?_
      refine m_istore (ls2 := [some (.ref r_0), some (.long y_1), none, some (.int x_3), some (.int x_4), some (.long y_5), none, some (.int x_7), some (.int x_8), some (.int x_9), some (.int ((x_8 * (x_8 - 1)) / 2)), none, none]) dX8_cutAndJoined_85 (by decide) rfl ?_
      refine m_iload dX8_cutAndJoined_87 rfl ?_
      refine m_if_le 142 dX8_cutAndJoined_89 (by decide) (fun c => ?_) (fun c => ?_)
      · replace hF := hF.1 c
        refine m_iinc (v := x_9 + 1) (ls2 := [some (.ref r_0), some (.long y_1), none, some (.int x_3), some (.int x_4), some (.long y_5), none, some (.int x_7), some (.int x_8), some (.int (x_9 + 1)), some (.int ((x_8 * (x_8 - 1)) / 2)), none, none]) dX8_cutAndJoined_142 (by decide) rfl (congrArg (_ + ·) ki_1) rfl ?_
        refine m_goto 50 dX8_cutAndJoined_145 (by decide) ?_
        refine m_wk [10] rfl ?_
        exact hF
      · replace hF := hF.2 c
        refine m_lload_n dX8_cutAndJoined_92 rfl ?_
        refine m_iload dX8_cutAndJoined_93 rfl ?_
        refine m_static (as := [.int x_7]) (rest := [.long y_1]) cs_X8_24 dX8_cutAndJoined_95 rfl rfl (Nat.le_of_ble_eq_true rfl) (Nat.le_of_eq (Nat.zero_add _)) (Nat.le_of_eq (Nat.zero_add _)) (b1 := (0, 0)) (b2 := (0, 0)) (Ev.mono hF ?_)
        intro r21 h22 hF
        obtain ⟨y23, rfl, hF⟩ := hF
        refine m_lsub dX8_cutAndJoined_98 ?_
        refine m_iload dX8_cutAndJoined_99 rfl ?_
        refine m_static (as := [.int x_9]) (rest := [.long (y_1 - y23)]) cs_X8_24 dX8_cutAndJoined_101 rfl rfl (Nat.le_of_ble_eq_true rfl) (Nat.le_of_eq (Nat.zero_add _)) (Nat.le_of_eq (Nat.zero_add _)) (b1 := (0, 0)) (b2 := (0, 0)) (Ev.mono hF ?_)
        intro r24 h25 hF
        obtain ⟨y26, rfl, hF⟩ := hF
        refine m_lsub dX8_cutAndJoined_104 ?_
        refine m_iload dX8_cutAndJoined_105 rfl ?_
        refine m_iload dX8_cutAndJoined_107 rfl ?_
        refine m_iadd dX8_cutAndJoined_109 ?_
        refine m_static (as := [.int (x_7 + x_9)]) (rest := [.long ((y_1 - y23) - y26)]) cs_X8_24 dX8_cutAndJoined_110 rfl rfl (Nat.le_of_ble_eq_true rfl) (Nat.le_of_eq (Nat.zero_add _)) (Nat.le_of_eq (Nat.zero_add _)) (b1 := (0, 0)) (b2 := (0, 0)) (Ev.mono hF ?_)
        intro r27 h28 hF
        obtain ⟨y29, rfl, hF⟩ := hF
        refine m_ladd dX8_cutAndJoined_113 ?_
        refine m_lstore (ls2 := [some (.ref r_0), some (.long y_1), none, some (.int x_3), some (.int x_4), some (.long y_5), none, some (.int x_7), some (.int x_8), some (.int x_9), some (.int ((x_8 * (x_8 - 1)) / 2)), some (.long (((y_1 - y23) - y26) + y29)), none]) dX8_cutAndJoined_114 (by decide) rfl ?_
        refine m_lload dX8_cutAndJoined_116 rfl ?_
        refine m_iload dX8_cutAndJoined_118 rfl ?_
        refine m_iload dX8_cutAndJoined_120 rfl ?_
        refine m_imul dX8_cutAndJoined_122 ?_
        refine m_iload dX8_cutAndJoined_123 rfl ?_
        refine m_imul dX8_cutAndJoined_125 ?_
        refine m_i2l dX8_cutAndJoined_126 ?_
        refine m_aload_n dX8_cutAndJoined_127 rfl ?_
        refine m_iload_n dX8_cutAndJoined_128 rfl ?_
        refine m_aload_n dX8_cutAndJoined_129 rfl ?_
        refine m_lload dX8_cutAndJoined_130 rfl ?_
        obtain ⟨fs37, e, hF⟩ := hF
        refine m_virtual (as := [.long (((y_1 - y23) - y26) + y29)]) (rest := [.int x_3, .ref r_0, .long (((((x_8 * (x_8 - 1)) / 2) * x_7) * x_9).toInt64), .long y_5]) cv_X8_64_7 e dX8_cutAndJoined_132 rfl rfl (Nat.le_of_ble_eq_true rfl) (Nat.le_of_eq (Nat.zero_add _)) (Nat.le_of_eq (Nat.zero_add _)) (b1 := (0, 0)) (b2 := (0, 0)) (Ev.mono hF ?_)
        intro r30 h31 hF
        obtain ⟨x32, rfl, hF⟩ := hF
        obtain ⟨fs36, e, hF⟩ := hF
        refine m_virtual (as := [.int x_3, .int x32]) (rest := [.long (((((x_8 * (x_8 - 1)) / 2) * x_7) * x_9).toInt64), .long y_5]) cv_X8_68_7 e dX8_cutAndJoined_135 rfl rfl (Nat.le_of_ble_eq_true rfl) (Nat.le_of_eq (Nat.zero_add _)) (Nat.le_of_eq (Nat.zero_add _)) (b1 := (0, 0)) (b2 := (0, 0)) (Ev.mono hF ?_)
        intro r33 h34 hF
        obtain ⟨y35, rfl, hF⟩ := hF
        refine m_lmul dX8_cutAndJoined_138 ?_
        refine m_ladd dX8_cutAndJoined_139 ?_
        refine m_lstore (ls2 := [some (.ref r_0), some (.long y_1), none, some (.int x_3), some (.int x_4), some (.long (y_5 + ((((((x_8 * (x_8 - 1)) / 2) * x_7) * x_9).toInt64) * y35))), none, some (.int x_7), some (.int x_8), some (.int x_9), some (.int ((x_8 * (x_8 - 1)) / 2)), some (.long (((y_1 - y23) - y26) + y29)), none]) dX8_cutAndJoined_140 (by decide) rfl ?_
        refine m_iinc (v := x_9 + 1) (ls2 := [some (.ref r_0), some (.long y_1), none, some (.int x_3), some (.int x_4), some (.long (y_5 + ((((((x_8 * (x_8 - 1)) / 2) * x_7) * x_9).toInt64) * y35))), none, some (.int x_7), some (.int x_8), some (.int (x_9 + 1)), some (.int ((x_8 * (x_8 - 1)) / 2)), some (.long (((y_1 - y23) - y26) + y29)), none]) dX8_cutAndJoined_142 (by decide) rfl (congrArg (_ + ·) ki_1) rfl ?_
        refine m_goto 50 dX8_cutAndJoined_145 (by decide) ?_
        refine m_wk [10, 11] rfl ?_
        exact hF
theorem en_X8_cutAndJoined {d : Nat} {r_0 : Nat} {y_1 : Int64} {x_3 : Int32} {x_4 : Int32} {h : mH} {K : Option Value → mH → Prop} (hk : Wm (d + 1) (0, 0) JX8_cutAndJoined 0 [some (.ref r_0), some (.long y_1), none, some (.int x_3), some (.int x_4), none, none, none, none, none, none, none, none] [] h (fun r h' => h'.1 0 = h.1 0 ∧ K r h')) : Ev (d + 1) (0, 0) MX8_cutAndJoined [.ref r_0, .long y_1, .int x_3, .int x_4] h K :=
  m_met pn_X8 nl_X8 (fun _ => Nat.le_of_ble_eq_true rfl) hk
theorem bk_X8_cut_0 {d : Nat} (r_0 : Nat) (y_1 : Int64) (x_3 : Int32) (x_4 : Int32) {h : mH} {Q : Option Value → mH → Prop} (hF : Wm (d + 1) (0, 0) JX8_cut 6 [some (.ref r_0), some (.long y_1), none, some (.int x_3), some (.int x_4), some (.long 0), none, some (.int 1), none, none, none] [] h Q) : Wm (d + 1) (0, 0) JX8_cut 0 [some (.ref r_0), some (.long y_1), none, some (.int x_3), some (.int x_4), none, none, none, none, none, none] [] h Q := by
  refine m_lconst dX8_cut_0 kl_0 ?_
  refine m_lstore (ls2 := [some (.ref r_0), some (.long y_1), none, some (.int x_3), some (.int x_4), some (.long 0), none, none, none, none, none]) dX8_cut_1 (by decide) rfl ?_
  refine m_iconst dX8_cut_3 ki_1 ?_
  refine m_istore (ls2 := [some (.ref r_0), some (.long y_1), none, some (.int x_3), some (.int x_4), some (.long 0), none, some (.int 1), none, none, none]) dX8_cut_4 (by decide) rfl ?_
  exact hF
theorem bk_X8_cut_6 {d : Nat} (r_0 : Nat) (y_1 : Int64) (x_3 : Int32) (x_4 : Int32) (y_5 : Int64) (x_7 : Int32) {h : mH} {Q : Option Value → mH → Prop} (hF : ((x_3 < (2 * x_7) → Q (some (.long y_5)) h) ∧ (¬ (x_3 < (2 * x_7)) → ((¬ (2 * x_7) = x_3 → Ev d (0, 0) MX8_one [.int x_3] h (fun r1 h2 => ∃ y3 : Int64, r1 = some (.long y3) ∧ Ev d (0, 0) MX8_one [.int x_7] h2 (fun r4 h5 => ∃ y6 : Int64, r4 = some (.long y6) ∧ Ev d (0, 0) MX8_one [.int (x_3 - x_7)] h5 (fun r7 h8 => ∃ y9 : Int64, r7 = some (.long y9) ∧ (∃ fs17 : List Value, (h8).1 r_0 = .inr (7, fs17) ∧ Ev d (0, 0) MX8_indexOf [.ref r_0, .long (((y_1 - y3) + y6) + y9)] h8 (fun r10 h11 => ∃ x12 : Int32, r10 = some (.int x12) ∧ (∃ fs16 : List Value, (h11).1 r_0 = .inr (7, fs16) ∧ Ev d (0, 0) MX8_rowsOf [.ref r_0, .int x_4, .int x12] h11 (fun r13 h14 => ∃ y15 : Int64, r13 = some (.long y15) ∧ Wm (d + 1) (0, 0) JX8_cut 6 [some (.ref r_0), some (.long y_1), none, some (.int x_3), some (.int x_4), some (.long (y_5 + (x_3.toInt64 * y15))), none, some (.int (x_7 + 1)), none, none, none] [] h14 Q)))))))) ∧ ((2 * x_7) = x_3 → Ev d (0, 0) MX8_one [.int x_3] h (fun r18 h19 => ∃ y20 : Int64, r18 = some (.long y20) ∧ Ev d (0, 0) MX8_one [.int x_7] h19 (fun r21 h22 => ∃ y23 : Int64, r21 = some (.long y23) ∧ Ev d (0, 0) MX8_one [.int (x_3 - x_7)] h22 (fun r24 h25 => ∃ y26 : Int64, r24 = some (.long y26) ∧ (∃ fs34 : List Value, (h25).1 r_0 = .inr (7, fs34) ∧ Ev d (0, 0) MX8_indexOf [.ref r_0, .long (((y_1 - y20) + y23) + y26)] h25 (fun r27 h28 => ∃ x29 : Int32, r27 = some (.int x29) ∧ (∃ fs33 : List Value, (h28).1 r_0 = .inr (7, fs33) ∧ Ev d (0, 0) MX8_rowsOf [.ref r_0, .int x_4, .int x29] h28 (fun r30 h31 => ∃ y32 : Int64, r30 = some (.long y32) ∧ Wm (d + 1) (0, 0) JX8_cut 6 [some (.ref r_0), some (.long y_1), none, some (.int x_3), some (.int x_4), some (.long (y_5 + (x_7.toInt64 * y32))), none, some (.int (x_7 + 1)), none, none, none] [] h31 Q)))))))))))) : Wm (d + 1) (0, 0) JX8_cut 6 [some (.ref r_0), some (.long y_1), none, some (.int x_3), some (.int x_4), some (.long y_5), none, some (.int x_7), none, none, none] [] h Q := by
  refine m_iconst dX8_cut_6 ki_2 ?_
  refine m_iload dX8_cut_7 rfl ?_
  refine m_imul dX8_cut_9 ?_
  refine m_iload_n dX8_cut_10 rfl ?_
  refine m_icmp_gt 79 dX8_cut_11 (by decide) (fun c => ?_) (fun c => ?_)
  · replace hF := hF.1 c
    refine m_lload dX8_cut_79 rfl ?_
    exact m_lreturn dX8_cut_81 trivial hF
  · replace hF := hF.2 c
    refine m_iconst dX8_cut_14 ki_2 ?_
    refine m_iload dX8_cut_15 rfl ?_
    refine m_imul dX8_cut_17 ?_
    refine m_iload_n dX8_cut_18 rfl ?_
    refine m_icmp_ne 27 dX8_cut_19 (by decide) (fun c => ?_) (fun c => ?_)
    · replace hF := hF.1 c
      refine m_iload_n dX8_cut_27 rfl ?_
      refine m_istore (ls2 := [some (.ref r_0), some (.long y_1), none, some (.int x_3), some (.int x_4), some (.long y_5), none, some (.int x_7), some (.int x_3), none, none]) dX8_cut_28 (by decide) rfl ?_
      refine m_lload_n dX8_cut_30 rfl ?_
      refine m_iload_n dX8_cut_31 rfl ?_
      refine m_static (as := [.int x_3]) (rest := [.long y_1]) cs_X8_24 dX8_cut_32 rfl rfl (Nat.le_of_ble_eq_true rfl) (Nat.le_of_eq (Nat.zero_add _)) (Nat.le_of_eq (Nat.zero_add _)) (b1 := (0, 0)) (b2 := (0, 0)) (Ev.mono hF ?_)
      intro r1 h2 hF
      obtain ⟨y3, rfl, hF⟩ := hF
      refine m_lsub dX8_cut_35 ?_
      refine m_iload dX8_cut_36 rfl ?_
      refine m_static (as := [.int x_7]) (rest := [.long (y_1 - y3)]) cs_X8_24 dX8_cut_38 rfl rfl (Nat.le_of_ble_eq_true rfl) (Nat.le_of_eq (Nat.zero_add _)) (Nat.le_of_eq (Nat.zero_add _)) (b1 := (0, 0)) (b2 := (0, 0)) (Ev.mono hF ?_)
      intro r4 h5 hF
      obtain ⟨y6, rfl, hF⟩ := hF
      refine m_ladd dX8_cut_41 ?_
      refine m_iload_n dX8_cut_42 rfl ?_
      refine m_iload dX8_cut_43 rfl ?_
      refine m_isub dX8_cut_45 ?_
      refine m_static (as := [.int (x_3 - x_7)]) (rest := [.long ((y_1 - y3) + y6)]) cs_X8_24 dX8_cut_46 rfl rfl (Nat.le_of_ble_eq_true rfl) (Nat.le_of_eq (Nat.zero_add _)) (Nat.le_of_eq (Nat.zero_add _)) (b1 := (0, 0)) (b2 := (0, 0)) (Ev.mono hF ?_)
      intro r7 h8 hF
      obtain ⟨y9, rfl, hF⟩ := hF
      refine m_ladd dX8_cut_49 ?_
      refine m_lstore (ls2 := [some (.ref r_0), some (.long y_1), none, some (.int x_3), some (.int x_4), some (.long y_5), none, some (.int x_7), some (.int x_3), some (.long (((y_1 - y3) + y6) + y9)), none]) dX8_cut_50 (by decide) rfl ?_
      refine m_lload dX8_cut_52 rfl ?_
      refine m_iload dX8_cut_54 rfl ?_
      refine m_i2l dX8_cut_56 ?_
      refine m_aload_n dX8_cut_57 rfl ?_
      refine m_iload dX8_cut_58 rfl ?_
      refine m_aload_n dX8_cut_60 rfl ?_
      refine m_lload dX8_cut_61 rfl ?_
      obtain ⟨fs17, e, hF⟩ := hF
      refine m_virtual (as := [.long (((y_1 - y3) + y6) + y9)]) (rest := [.int x_4, .ref r_0, .long x_3.toInt64, .long y_5]) cv_X8_64_7 e dX8_cut_63 rfl rfl (Nat.le_of_ble_eq_true rfl) (Nat.le_of_eq (Nat.zero_add _)) (Nat.le_of_eq (Nat.zero_add _)) (b1 := (0, 0)) (b2 := (0, 0)) (Ev.mono hF ?_)
      intro r10 h11 hF
      obtain ⟨x12, rfl, hF⟩ := hF
      obtain ⟨fs16, e, hF⟩ := hF
      refine m_virtual (as := [.int x_4, .int x12]) (rest := [.long x_3.toInt64, .long y_5]) cv_X8_68_7 e dX8_cut_66 rfl rfl (Nat.le_of_ble_eq_true rfl) (Nat.le_of_eq (Nat.zero_add _)) (Nat.le_of_eq (Nat.zero_add _)) (b1 := (0, 0)) (b2 := (0, 0)) (Ev.mono hF ?_)
      intro r13 h14 hF
      obtain ⟨y15, rfl, hF⟩ := hF
      refine m_lmul dX8_cut_69 ?_
      refine m_ladd dX8_cut_70 ?_
      refine m_lstore (ls2 := [some (.ref r_0), some (.long y_1), none, some (.int x_3), some (.int x_4), some (.long (y_5 + (x_3.toInt64 * y15))), none, some (.int x_7), some (.int x_3), some (.long (((y_1 - y3) + y6) + y9)), none]) dX8_cut_71 (by decide) rfl ?_
      refine m_iinc (v := x_7 + 1) (ls2 := [some (.ref r_0), some (.long y_1), none, some (.int x_3), some (.int x_4), some (.long (y_5 + (x_3.toInt64 * y15))), none, some (.int (x_7 + 1)), some (.int x_3), some (.long (((y_1 - y3) + y6) + y9)), none]) dX8_cut_73 (by decide) rfl (congrArg (_ + ·) ki_1) rfl ?_
      refine m_goto 6 dX8_cut_76 (by decide) ?_
      refine m_wk [8, 9] rfl ?_
      exact hF
    · replace hF := hF.2 c
      refine m_iload dX8_cut_22 rfl ?_
      refine m_goto 28 dX8_cut_24 (by decide) ?_
      refine m_istore (ls2 := [some (.ref r_0), some (.long y_1), none, some (.int x_3), some (.int x_4), some (.long y_5), none, some (.int x_7), some (.int x_7), none, none]) dX8_cut_28 (by decide) rfl ?_
      refine m_lload_n dX8_cut_30 rfl ?_
      refine m_iload_n dX8_cut_31 rfl ?_
      refine m_static (as := [.int x_3]) (rest := [.long y_1]) cs_X8_24 dX8_cut_32 rfl rfl (Nat.le_of_ble_eq_true rfl) (Nat.le_of_eq (Nat.zero_add _)) (Nat.le_of_eq (Nat.zero_add _)) (b1 := (0, 0)) (b2 := (0, 0)) (Ev.mono hF ?_)
      intro r18 h19 hF
      obtain ⟨y20, rfl, hF⟩ := hF
      refine m_lsub dX8_cut_35 ?_
      refine m_iload dX8_cut_36 rfl ?_
      refine m_static (as := [.int x_7]) (rest := [.long (y_1 - y20)]) cs_X8_24 dX8_cut_38 rfl rfl (Nat.le_of_ble_eq_true rfl) (Nat.le_of_eq (Nat.zero_add _)) (Nat.le_of_eq (Nat.zero_add _)) (b1 := (0, 0)) (b2 := (0, 0)) (Ev.mono hF ?_)
      intro r21 h22 hF
      obtain ⟨y23, rfl, hF⟩ := hF
      refine m_ladd dX8_cut_41 ?_
      refine m_iload_n dX8_cut_42 rfl ?_
      refine m_iload dX8_cut_43 rfl ?_
      refine m_isub dX8_cut_45 ?_
      refine m_static (as := [.int (x_3 - x_7)]) (rest := [.long ((y_1 - y20) + y23)]) cs_X8_24 dX8_cut_46 rfl rfl (Nat.le_of_ble_eq_true rfl) (Nat.le_of_eq (Nat.zero_add _)) (Nat.le_of_eq (Nat.zero_add _)) (b1 := (0, 0)) (b2 := (0, 0)) (Ev.mono hF ?_)
      intro r24 h25 hF
      obtain ⟨y26, rfl, hF⟩ := hF
      refine m_ladd dX8_cut_49 ?_
      refine m_lstore (ls2 := [some (.ref r_0), some (.long y_1), none, some (.int x_3), some (.int x_4), some (.long y_5), none, some (.int x_7), some (.int x_7), some (.long (((y_1 - y20) + y23) + y26)), none]) dX8_cut_50 (by decide) rfl ?_
      refine m_lload dX8_cut_52 rfl ?_
      refine m_iload dX8_cut_54 rfl ?_
      refine m_i2l dX8_cut_56 ?_
      refine m_aload_n dX8_cut_57 rfl ?_
      refine m_iload dX8_cut_58 rfl ?_
      refine m_aload_n dX8_cut_60 rfl ?_
      refine m_lload dX8_cut_61 rfl ?_
      obtain ⟨fs34, e, hF⟩ := hF
      refine m_virtual (as := [.long (((y_1 - y20) + y23) + y26)]) (rest := [.int x_4, .ref r_0, .long x_7.toInt64, .long y_5]) cv_X8_64_7 e dX8_cut_63 rfl rfl (Nat.le_of_ble_eq_true rfl) (Nat.le_of_eq (Nat.zero_add _)) (Nat.le_of_eq (Nat.zero_add _)) (b1 := (0, 0)) (b2 := (0, 0)) (Ev.mono hF ?_)
      intro r27 h28 hF
      obtain ⟨x29, rfl, hF⟩ := hF
      obtain ⟨fs33, e, hF⟩ := hF
      refine m_virtual (as := [.int x_4, .int x29]) (rest := [.long x_7.toInt64, .long y_5]) cv_X8_68_7 e dX8_cut_66 rfl rfl (Nat.le_of_ble_eq_true rfl) (Nat.le_of_eq (Nat.zero_add _)) (Nat.le_of_eq (Nat.zero_add _)) (b1 := (0, 0)) (b2 := (0, 0)) (Ev.mono hF ?_)
      intro r30 h31 hF
      obtain ⟨y32, rfl, hF⟩ := hF
      refine m_lmul dX8_cut_69 ?_
      refine m_ladd dX8_cut_70 ?_
      refine m_lstore (ls2 := [some (.ref r_0), some (.long y_1), none, some (.int x_3), some (.int x_4), some (.long (y_5 + (x_7.toInt64 * y32))), none, some (.int x_7), some (.int x_7), some (.long (((y_1 - y20) + y23) + y26)), none]) dX8_cut_71 (by decide) rfl ?_
      refine m_iinc (v := x_7 + 1) (ls2 := [some (.ref r_0), some (.long y_1), none, some (.int x_3), some (.int x_4), some (.long (y_5 + (x_7.toInt64 * y32))), none, some (.int (x_7 + 1)), some (.int x_7), some (.long (((y_1 - y20) + y23) + y26)), none]) dX8_cut_73 (by decide) rfl (congrArg (_ + ·) ki_1) rfl ?_
      refine m_goto 6 dX8_cut_76 (by decide) ?_
      refine m_wk [8, 9] rfl ?_
      exact hF
theorem en_X8_cut {d : Nat} {r_0 : Nat} {y_1 : Int64} {x_3 : Int32} {x_4 : Int32} {h : mH} {K : Option Value → mH → Prop} (hk : Wm (d + 1) (0, 0) JX8_cut 0 [some (.ref r_0), some (.long y_1), none, some (.int x_3), some (.int x_4), none, none, none, none, none, none] [] h (fun r h' => h'.1 0 = h.1 0 ∧ K r h')) : Ev (d + 1) (0, 0) MX8_cut [.ref r_0, .long y_1, .int x_3, .int x_4] h K :=
  m_met pn_X8 nl_X8 (fun _ => Nat.le_of_ble_eq_true rfl) hk
theorem bk_X8_indexOf_0 {d : Nat} (r_0 : Nat) (y_1 : Int64) {h : mH} {Q : Option Value → mH → Prop} (hF : Wm d (0, 0) JX8_indexOf 2 [some (.ref r_0), some (.long y_1), none, some (.int 0)] [] h Q) : Wm d (0, 0) JX8_indexOf 0 [some (.ref r_0), some (.long y_1), none, none] [] h Q := by
  refine m_iconst dX8_indexOf_0 ki_0 ?_
  refine m_istore_n (ls2 := [some (.ref r_0), some (.long y_1), none, some (.int 0)]) dX8_indexOf_1 (by decide) rfl ?_
  exact hF
theorem bk_X8_indexOf_2 {d : Nat} (r_0 : Nat) (y_1 : Int64) (x_3 : Int32) {h : mH} {Q : Option Value → mH → Prop} (hF : (∃ x1 : Int32, m_fld h r_0 [7] 3 = some (.int x1) ∧ ((x1 ≤ x_3 → Q (some (.int (-1000000))) h) ∧ (¬ (x1 ≤ x_3) → (∃ r2 : Nat, m_fld h r_0 [7] 0 = some (.ref r2) ∧ (∃ y3 : Int64, m_ll h r2 x_3 = some y3 ∧ ((¬ (lg_cmp y3 y_1) = 0 → Wm d (0, 0) JX8_indexOf 2 [some (.ref r_0), some (.long y_1), none, some (.int (x_3 + 1))] [] h Q) ∧ ((lg_cmp y3 y_1) = 0 → Q (some (.int x_3)) h)))))))) : Wm d (0, 0) JX8_indexOf 2 [some (.ref r_0), some (.long y_1), none, some (.int x_3)] [] h Q := by
  refine m_iload_n dX8_indexOf_2 rfl ?_
  refine m_aload_n dX8_indexOf_3 rfl ?_
  obtain ⟨x1, e, hF⟩ := hF
  refine m_get fg_X8_32 dX8_indexOf_4 e ?_
  refine m_icmp_ge 29 dX8_indexOf_7 (by decide) (fun c => ?_) (fun c => ?_)
  · replace hF := hF.1 c
    refine m_ldc dX8_indexOf_29 kc_X8_31 ?_
    exact m_ireturn dX8_indexOf_31 trivial hF
  · replace hF := hF.2 c
    refine m_aload_n dX8_indexOf_10 rfl ?_
    obtain ⟨r2, e, hF⟩ := hF
    refine m_get fg_X8_11 dX8_indexOf_11 e ?_
    refine m_iload_n dX8_indexOf_14 rfl ?_
    obtain ⟨y3, e, hF⟩ := hF
    refine m_lald dX8_indexOf_15 e ?_
    refine m_lload_n dX8_indexOf_16 rfl ?_
    refine m_lcmp dX8_indexOf_17 ?_
    refine m_if_ne 23 dX8_indexOf_18 (by decide) (fun c => ?_) (fun c => ?_)
    · replace hF := hF.1 c
      refine m_iinc (v := x_3 + 1) (ls2 := [some (.ref r_0), some (.long y_1), none, some (.int (x_3 + 1))]) dX8_indexOf_23 (by decide) rfl (congrArg (_ + ·) ki_1) rfl ?_
      refine m_goto 2 dX8_indexOf_26 (by decide) ?_
      exact hF
    · replace hF := hF.2 c
      refine m_iload_n dX8_indexOf_21 rfl ?_
      exact m_ireturn dX8_indexOf_22 trivial hF
theorem en_X8_indexOf {d : Nat} {r_0 : Nat} {y_1 : Int64} {h : mH} {K : Option Value → mH → Prop} (hk : Wm d (0, 0) JX8_indexOf 0 [some (.ref r_0), some (.long y_1), none, none] [] h (fun r h' => h'.1 0 = h.1 0 ∧ K r h')) : Ev d (0, 0) MX8_indexOf [.ref r_0, .long y_1] h K :=
  m_met pn_X8 nl_X8 (fun _ => Nat.le_of_ble_eq_true rfl) hk

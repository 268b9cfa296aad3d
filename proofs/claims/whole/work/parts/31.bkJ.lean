theorem bk_J6_bitCount_0f7a4_0 {d : Nat} (x_0 : Int32) {h : mH} {Q : Option Value → mH → Prop} (hF : Q (some (.int ((((((((x_0 - (((x_0.toUInt32 >>> ((1 : Int32).toUInt32 &&& Int32.toUInt32 31)).toInt32) &&& 1431655765)) &&& 858993459) + ((((x_0 - (((x_0.toUInt32 >>> ((1 : Int32).toUInt32 &&& Int32.toUInt32 31)).toInt32) &&& 1431655765)).toUInt32 >>> ((2 : Int32).toUInt32 &&& Int32.toUInt32 31)).toInt32) &&& 858993459)) + (((((x_0 - (((x_0.toUInt32 >>> ((1 : Int32).toUInt32 &&& Int32.toUInt32 31)).toInt32) &&& 1431655765)) &&& 858993459) + ((((x_0 - (((x_0.toUInt32 >>> ((1 : Int32).toUInt32 &&& Int32.toUInt32 31)).toInt32) &&& 1431655765)).toUInt32 >>> ((2 : Int32).toUInt32 &&& Int32.toUInt32 31)).toInt32) &&& 858993459)).toUInt32 >>> ((4 : Int32).toUInt32 &&& Int32.toUInt32 31)).toInt32)) &&& 252645135) + (((((((x_0 - (((x_0.toUInt32 >>> ((1 : Int32).toUInt32 &&& Int32.toUInt32 31)).toInt32) &&& 1431655765)) &&& 858993459) + ((((x_0 - (((x_0.toUInt32 >>> ((1 : Int32).toUInt32 &&& Int32.toUInt32 31)).toInt32) &&& 1431655765)).toUInt32 >>> ((2 : Int32).toUInt32 &&& Int32.toUInt32 31)).toInt32) &&& 858993459)) + (((((x_0 - (((x_0.toUInt32 >>> ((1 : Int32).toUInt32 &&& Int32.toUInt32 31)).toInt32) &&& 1431655765)) &&& 858993459) + ((((x_0 - (((x_0.toUInt32 >>> ((1 : Int32).toUInt32 &&& Int32.toUInt32 31)).toInt32) &&& 1431655765)).toUInt32 >>> ((2 : Int32).toUInt32 &&& Int32.toUInt32 31)).toInt32) &&& 858993459)).toUInt32 >>> ((4 : Int32).toUInt32 &&& Int32.toUInt32 31)).toInt32)) &&& 252645135).toUInt32 >>> ((8 : Int32).toUInt32 &&& Int32.toUInt32 31)).toInt32)) + ((((((((x_0 - (((x_0.toUInt32 >>> ((1 : Int32).toUInt32 &&& Int32.toUInt32 31)).toInt32) &&& 1431655765)) &&& 858993459) + ((((x_0 - (((x_0.toUInt32 >>> ((1 : Int32).toUInt32 &&& Int32.toUInt32 31)).toInt32) &&& 1431655765)).toUInt32 >>> ((2 : Int32).toUInt32 &&& Int32.toUInt32 31)).toInt32) &&& 858993459)) + (((((x_0 - (((x_0.toUInt32 >>> ((1 : Int32).toUInt32 &&& Int32.toUInt32 31)).toInt32) &&& 1431655765)) &&& 858993459) + ((((x_0 - (((x_0.toUInt32 >>> ((1 : Int32).toUInt32 &&& Int32.toUInt32 31)).toInt32) &&& 1431655765)).toUInt32 >>> ((2 : Int32).toUInt32 &&& Int32.toUInt32 31)).toInt32) &&& 858993459)).toUInt32 >>> ((4 : Int32).toUInt32 &&& Int32.toUInt32 31)).toInt32)) &&& 252645135) + (((((((x_0 - (((x_0.toUInt32 >>> ((1 : Int32).toUInt32 &&& Int32.toUInt32 31)).toInt32) &&& 1431655765)) &&& 858993459) + ((((x_0 - (((x_0.toUInt32 >>> ((1 : Int32).toUInt32 &&& Int32.toUInt32 31)).toInt32) &&& 1431655765)).toUInt32 >>> ((2 : Int32).toUInt32 &&& Int32.toUInt32 31)).toInt32) &&& 858993459)) + (((((x_0 - (((x_0.toUInt32 >>> ((1 : Int32).toUInt32 &&& Int32.toUInt32 31)).toInt32) &&& 1431655765)) &&& 858993459) + ((((x_0 - (((x_0.toUInt32 >>> ((1 : Int32).toUInt32 &&& Int32.toUInt32 31)).toInt32) &&& 1431655765)).toUInt32 >>> ((2 : Int32).toUInt32 &&& Int32.toUInt32 31)).toInt32) &&& 858993459)).toUInt32 >>> ((4 : Int32).toUInt32 &&& Int32.toUInt32 31)).toInt32)) &&& 252645135).toUInt32 >>> ((8 : Int32).toUInt32 &&& Int32.toUInt32 31)).toInt32)).toUInt32 >>> ((16 : Int32).toUInt32 &&& Int32.toUInt32 31)).toInt32)) &&& 63))) h) : Wm d (0, 0) JJ6_bitCount_0f7a4 0 [some (.int x_0)] [] h Q := by
  refine m_iload_n dJ6_bitCount_0f7a4_0 rfl ?_
  refine m_iload_n dJ6_bitCount_0f7a4_1 rfl ?_
  refine m_iconst dJ6_bitCount_0f7a4_2 ki_1 ?_
  refine m_iushr dJ6_bitCount_0f7a4_3 ?_
  refine m_ldc_w dJ6_bitCount_0f7a4_4 kc_J6_265 ?_
  refine m_iand dJ6_bitCount_0f7a4_7 ?_
  refine m_isub dJ6_bitCount_0f7a4_8 ?_
  refine m_istore_n (ls2 := [some (.int (x_0 - (((x_0.toUInt32 >>> ((1 : Int32).toUInt32 &&& Int32.toUInt32 31)).toInt32) &&& 1431655765)))]) dJ6_bitCount_0f7a4_9 (by decide) rfl ?_
  refine m_iload_n dJ6_bitCount_0f7a4_10 rfl ?_
  refine m_ldc_w dJ6_bitCount_0f7a4_11 kc_J6_266 ?_
  refine m_iand dJ6_bitCount_0f7a4_14 ?_
  refine m_iload_n dJ6_bitCount_0f7a4_15 rfl ?_
  refine m_iconst dJ6_bitCount_0f7a4_16 ki_2 ?_
  refine m_iushr dJ6_bitCount_0f7a4_17 ?_
  refine m_ldc_w dJ6_bitCount_0f7a4_18 kc_J6_266 ?_
  refine m_iand dJ6_bitCount_0f7a4_21 ?_
  refine m_iadd dJ6_bitCount_0f7a4_22 ?_
  refine m_istore_n (ls2 := [some (.int (((x_0 - (((x_0.toUInt32 >>> ((1 : Int32).toUInt32 &&& Int32.toUInt32 31)).toInt32) &&& 1431655765)) &&& 858993459) + ((((x_0 - (((x_0.toUInt32 >>> ((1 : Int32).toUInt32 &&& Int32.toUInt32 31)).toInt32) &&& 1431655765)).toUInt32 >>> ((2 : Int32).toUInt32 &&& Int32.toUInt32 31)).toInt32) &&& 858993459)))]) dJ6_bitCount_0f7a4_23 (by decide) rfl ?_
  refine m_iload_n dJ6_bitCount_0f7a4_24 rfl ?_
  refine m_iload_n dJ6_bitCount_0f7a4_25 rfl ?_
  refine m_iconst dJ6_bitCount_0f7a4_26 ki_4 ?_
  refine m_iushr dJ6_bitCount_0f7a4_27 ?_
  refine m_iadd dJ6_bitCount_0f7a4_28 ?_
  refine m_ldc_w dJ6_bitCount_0f7a4_29 kc_J6_267 ?_
  refine m_iand dJ6_bitCount_0f7a4_32 ?_
  refine m_istore_n (ls2 := [some (.int (((((x_0 - (((x_0.toUInt32 >>> ((1 : Int32).toUInt32 &&& Int32.toUInt32 31)).toInt32) &&& 1431655765)) &&& 858993459) + ((((x_0 - (((x_0.toUInt32 >>> ((1 : Int32).toUInt32 &&& Int32.toUInt32 31)).toInt32) &&& 1431655765)).toUInt32 >>> ((2 : Int32).toUInt32 &&& Int32.toUInt32 31)).toInt32) &&& 858993459)) + (((((x_0 - (((x_0.toUInt32 >>> ((1 : Int32).toUInt32 &&& Int32.toUInt32 31)).toInt32) &&& 1431655765)) &&& 858993459) + ((((x_0 - (((x_0.toUInt32 >>> ((1 : Int32).toUInt32 &&& Int32.toUInt32 31)).toInt32) &&& 1431655765)).toUInt32 >>> ((2 : Int32).toUInt32 &&& Int32.toUInt32 31)).toInt32) &&& 858993459)).toUInt32 >>> ((4 : Int32).toUInt32 &&& Int32.toUInt32 31)).toInt32)) &&& 252645135))]) dJ6_bitCount_0f7a4_33 (by decide) rfl ?_
  refine m_iload_n dJ6_bitCount_0f7a4_34 rfl ?_
  refine m_iload_n dJ6_bitCount_0f7a4_35 rfl ?_
  refine m_bipush dJ6_bitCount_0f7a4_36 kb_8 ?_
  refine m_iushr dJ6_bitCount_0f7a4_38 ?_
  refine m_iadd dJ6_bitCount_0f7a4_39 ?_
  refine m_istore_n (ls2 := [some (.int ((((((x_0 - (((x_0.toUInt32 >>> ((1 : Int32).toUInt32 &&& Int32.toUInt32 31)).toInt32) &&& 1431655765)) &&& 858993459) + ((((x_0 - (((x_0.toUInt32 >>> ((1 : Int32).toUInt32 &&& Int32.toUInt32 31)).toInt32) &&& 1431655765)).toUInt32 >>> ((2 : Int32).toUInt32 &&& Int32.toUInt32 31)).toInt32) &&& 858993459)) + (((((x_0 - (((x_0.toUInt32 >>> ((1 : Int32).toUInt32 &&& Int32.toUInt32 31)).toInt32) &&& 1431655765)) &&& 858993459) + ((((x_0 - (((x_0.toUInt32 >>> ((1 : Int32).toUInt32 &&& Int32.toUInt32 31)).toInt32) &&& 1431655765)).toUInt32 >>> ((2 : Int32).toUInt32 &&& Int32.toUInt32 31)).toInt32) &&& 858993459)).toUInt32 >>> ((4 : Int32).toUInt32 &&& Int32.toUInt32 31)).toInt32)) &&& 252645135) + (((((((x_0 - (((x_0.toUInt32 >>> ((1 : Int32).toUInt32 &&& Int32.toUInt32 31)).toInt32) &&& 1431655765)) &&& 858993459) + ((((x_0 - (((x_0.toUInt32 >>> ((1 : Int32).toUInt32 &&& Int32.toUInt32 31)).toInt32) &&& 1431655765)).toUInt32 >>> ((2 : Int32).toUInt32 &&& Int32.toUInt32 31)).toInt32) &&& 858993459)) + (((((x_0 - (((x_0.toUInt32 >>> ((1 : Int32).toUInt32 &&& Int32.toUInt32 31)).toInt32) &&& 1431655765)) &&& 858993459) + ((((x_0 - (((x_0.toUInt32 >>> ((1 : Int32).toUInt32 &&& Int32.toUInt32 31)).toInt32) &&& 1431655765)).toUInt32 >>> ((2 : Int32).toUInt32 &&& Int32.toUInt32 31)).toInt32) &&& 858993459)).toUInt32 >>> ((4 : Int32).toUInt32 &&& Int32.toUInt32 31)).toInt32)) &&& 252645135).toUInt32 >>> ((8 : Int32).toUInt32 &&& Int32.toUInt32 31)).toInt32)))]) dJ6_bitCount_0f7a4_40 (by decide) rfl ?_
  refine m_iload_n dJ6_bitCount_0f7a4_41 rfl ?_
  refine m_iload_n dJ6_bitCount_0f7a4_42 rfl ?_
  refine m_bipush dJ6_bitCount_0f7a4_43 kb_16 ?_
  refine m_iushr dJ6_bitCount_0f7a4_45 ?_
  refine m_iadd dJ6_bitCount_0f7a4_46 ?_
  refine m_istore_n (ls2 := [some (.int (((((((x_0 - (((x_0.toUInt32 >>> ((1 : Int32).toUInt32 &&& Int32.toUInt32 31)).toInt32) &&& 1431655765)) &&& 858993459) + ((((x_0 - (((x_0.toUInt32 >>> ((1 : Int32).toUInt32 &&& Int32.toUInt32 31)).toInt32) &&& 1431655765)).toUInt32 >>> ((2 : Int32).toUInt32 &&& Int32.toUInt32 31)).toInt32) &&& 858993459)) + (((((x_0 - (((x_0.toUInt32 >>> ((1 : Int32).toUInt32 &&& Int32.toUInt32 31)).toInt32) &&& 1431655765)) &&& 858993459) + ((((x_0 - (((x_0.toUInt32 >>> ((1 : Int32).toUInt32 &&& Int32.toUInt32 31)).toInt32) &&& 1431655765)).toUInt32 >>> ((2 : Int32).toUInt32 &&& Int32.toUInt32 31)).toInt32) &&& 858993459)).toUInt32 >>> ((4 : Int32).toUInt32 &&& Int32.toUInt32 31)).toInt32)) &&& 252645135) + (((((((x_0 - (((x_0.toUInt32 >>> ((1 : Int32).toUInt32 &&& Int32.toUInt32 31)).toInt32) &&& 1431655765)) &&& 858993459) + ((((x_0 - (((x_0.toUInt32 >>> ((1 : Int32).toUInt32 &&& Int32.toUInt32 31)).toInt32) &&& 1431655765)).toUInt32 >>> ((2 : Int32).toUInt32 &&& Int32.toUInt32 31)).toInt32) &&& 858993459)) + (((((x_0 - (((x_0.toUInt32 >>> ((1 : Int32).toUInt32 &&& Int32.toUInt32 31)).toInt32) &&& 1431655765)) &&& 858993459) + ((((x_0 - (((x_0.toUInt32 >>> ((1 : Int32).toUInt32 &&& Int32.toUInt32 31)).toInt32) &&& 1431655765)).toUInt32 >>> ((2 : Int32).toUInt32 &&& Int32.toUInt32 31)).toInt32) &&& 858993459)).toUInt32 >>> ((4 : Int32).toUInt32 &&& Int32.toUInt32 31)).toInt32)) &&& 252645135).toUInt32 >>> ((8 : Int32).toUInt32 &&& Int32.toUInt32 31)).toInt32)) + ((((((((x_0 - (((x_0.toUInt32 >>> ((1 : Int32).toUInt32 &&& Int32.toUInt32 31)).toInt32) &&& 1431655765)) &&& 858993459) + ((((x_0 - (((x_0.toUInt32 >>> ((1 : Int32).toUInt32 &&& Int32.toUInt32 31)).toInt32) &&& 1431655765)).toUInt32 >>> ((2 : Int32).toUInt32 &&& Int32.toUInt32 31)).toInt32) &&& 858993459)) + (((((x_0 - (((x_0.toUInt32 >>> ((1 : Int32).toUInt32 &&& Int32.toUInt32 31)).toInt32) &&& 1431655765)) &&& 858993459) + ((((x_0 - (((x_0.toUInt32 >>> ((1 : Int32).toUInt32 &&& Int32.toUInt32 31)).toInt32) &&& 1431655765)).toUInt32 >>> ((2 : Int32).toUInt32 &&& Int32.toUInt32 31)).toInt32) &&& 858993459)).toUInt32 >>> ((4 : Int32).toUInt32 &&& Int32.toUInt32 31)).toInt32)) &&& 252645135) + (((((((x_0 - (((x_0.toUInt32 >>> ((1 : Int32).toUInt32 &&& Int32.toUInt32 31)).toInt32) &&& 1431655765)) &&& 858993459) + ((((x_0 - (((x_0.toUInt32 >>> ((1 : Int32).toUInt32 &&& Int32.toUInt32 31)).toInt32) &&& 1431655765)).toUInt32 >>> ((2 : Int32).toUInt32 &&& Int32.toUInt32 31)).toInt32) &&& 858993459)) + (((((x_0 - (((x_0.toUInt32 >>> ((1 : Int32).toUInt32 &&& Int32.toUInt32 31)).toInt32) &&& 1431655765)) &&& 858993459) + ((((x_0 - (((x_0.toUInt32 >>> ((1 : Int32).toUInt32 &&& Int32.toUInt32 31)).toInt32) &&& 1431655765)).toUInt32 >>> ((2 : Int32).toUInt32 &&& Int32.toUInt32 31)).toInt32) &&& 858993459)).toUInt32 >>> ((4 : Int32).toUInt32 &&& Int32.toUInt32 31)).toInt32)) &&& 252645135).toUInt32 >>> ((8 : Int32).toUInt32 &&& Int32.toUInt32 31)).toInt32)).toUInt32 >>> ((16 : Int32).toUInt32 &&& Int32.toUInt32 31)).toInt32)))]) dJ6_bitCount_0f7a4_47 (by decide) rfl ?_
  refine m_iload_n dJ6_bitCount_0f7a4_48 rfl ?_
  refine m_bipush dJ6_bitCount_0f7a4_49 kb_63 ?_
  refine m_iand dJ6_bitCount_0f7a4_51 ?_
  exact m_ireturn dJ6_bitCount_0f7a4_52 trivial hF
theorem en_J6_bitCount_0f7a4 {d : Nat} {x_0 : Int32} {h : mH} {K : Option Value → mH → Prop} (hk : Wm d (0, 0) JJ6_bitCount_0f7a4 0 [some (.int x_0)] [] h (fun r h' => h'.1 0 = h.1 0 ∧ K r h')) : Ev d (0, 0) MJ6_bitCount_0f7a4 [.int x_0] h K :=
  m_met pn_J6 nl_J6 (fun _ => Nat.le_of_ble_eq_true rfl) hk
theorem bk_J13_compare_74951_0 {d : Nat} (y_0 : Int64) (y_2 : Int64) {h : mH} {Q : Option Value → mH → Prop} (hF : ((0 ≤ (lg_cmp y_0 y_2) → ((¬ (lg_cmp y_0 y_2) = 0 → Q (some (.int 1)) h) ∧ ((lg_cmp y_0 y_2) = 0 → Q (some (.int 0)) h))) ∧ (¬ (0 ≤ (lg_cmp y_0 y_2)) → Q (some (.int (-1))) h))) : Wm d (0, 0) JJ13_compare_74951 0 [some (.long y_0), none, some (.long y_2), none] [] h Q := by
  refine m_lload_n dJ13_compare_74951_0 rfl ?_
  refine m_lload_n dJ13_compare_74951_1 rfl ?_
  refine m_lcmp dJ13_compare_74951_2 ?_
  refine m_if_ge 10 dJ13_compare_74951_3 (by decide) (fun c => ?_) (fun c => ?_)
  · replace hF := hF.1 c
    refine m_lload_n dJ13_compare_74951_10 rfl ?_
    refine m_lload_n dJ13_compare_74951_11 rfl ?_
    refine m_lcmp dJ13_compare_74951_12 ?_
    refine m_if_ne 20 dJ13_compare_74951_13 (by decide) (fun c => ?_) (fun c => ?_)
    · replace hF := hF.1 c
      refine m_iconst dJ13_compare_74951_20 ki_1 ?_
      exact m_ireturn dJ13_compare_74951_21 trivial hF
    · replace hF := hF.2 c
      refine m_iconst dJ13_compare_74951_16 ki_0 ?_
      refine m_goto 21 dJ13_compare_74951_17 (by decide) ?_
      exact m_ireturn dJ13_compare_74951_21 trivial hF
  · replace hF := hF.2 c
    refine m_iconst dJ13_compare_74951_6 ki_m1 ?_
    refine m_goto 21 dJ13_compare_74951_7 (by decide) ?_
    exact m_ireturn dJ13_compare_74951_21 trivial hF
theorem en_J13_compare_74951 {d : Nat} {y_0 : Int64} {y_2 : Int64} {h : mH} {K : Option Value → mH → Prop} (hk : Wm d (0, 0) JJ13_compare_74951 0 [some (.long y_0), none, some (.long y_2), none] [] h (fun r h' => h'.1 0 = h.1 0 ∧ K r h')) : Ev d (0, 0) MJ13_compare_74951 [.long y_0, .long y_2] h K :=
  m_met pn_J13 nl_J13 (fun _ => Nat.le_of_ble_eq_true rfl) hk
theorem bk_J7_fill_d0a16_0 {d : Nat} (r_0 : Nat) (y_1 : Int64) {h : mH} {Q : Option Value → mH → Prop} (hF : (∃ n1 : Nat, m_len h r_0 = some n1 ∧ Wm d (0, 0) JJ7_fill_d0a16 6 [some (.ref r_0), some (.long y_1), none, some (.int 0), some (.int (nI n1))] [] h Q)) : Wm d (0, 0) JJ7_fill_d0a16 0 [some (.ref r_0), some (.long y_1), none, none, none] [] h Q := by
  refine m_iconst dJ7_fill_d0a16_0 ki_0 ?_
  refine m_istore_n (ls2 := [some (.ref r_0), some (.long y_1), none, some (.int 0), none]) dJ7_fill_d0a16_1 (by decide) rfl ?_
  refine m_aload_n dJ7_fill_d0a16_2 rfl ?_
  obtain ⟨n1, e, hF⟩ := hF
  refine m_alen dJ7_fill_d0a16_3 e ?_
  refine m_istore (ls2 := [some (.ref r_0), some (.long y_1), none, some (.int 0), some (.int (nI n1))]) dJ7_fill_d0a16_4 (by decide) rfl ?_
  exact hF
theorem bk_J7_fill_d0a16_6 {d : Nat} (r_0 : Nat) (y_1 : Int64) (x_3 : Int32) (x_4 : Int32) {h : mH} {Q : Option Value → mH → Prop} (hF : ((x_4 ≤ x_3 → Q none h) ∧ (¬ (x_4 ≤ x_3) → (∃ h1 : mH, m_ls h r_0 x_3 y_1 = some h1 ∧ Wm d (0, 0) JJ7_fill_d0a16 6 [some (.ref r_0), some (.long y_1), none, some (.int (x_3 + 1)), some (.int x_4)] [] h1 Q)))) : Wm d (0, 0) JJ7_fill_d0a16 6 [some (.ref r_0), some (.long y_1), none, some (.int x_3), some (.int x_4)] [] h Q := by
  refine m_iload_n dJ7_fill_d0a16_6 rfl ?_
  refine m_iload dJ7_fill_d0a16_7 rfl ?_
  refine m_icmp_ge 22 dJ7_fill_d0a16_9 (by decide) (fun c => ?_) (fun c => ?_)
  · replace hF := hF.1 c
    exact m_return dJ7_fill_d0a16_22 trivial hF
  · replace hF := hF.2 c
    refine m_aload_n dJ7_fill_d0a16_12 rfl ?_
    refine m_iload_n dJ7_fill_d0a16_13 rfl ?_
    refine m_lload_n dJ7_fill_d0a16_14 rfl ?_
    obtain ⟨h1, e, hF⟩ := hF
    refine m_last dJ7_fill_d0a16_15 e ?_
    refine m_iinc (v := x_3 + 1) (ls2 := [some (.ref r_0), some (.long y_1), none, some (.int (x_3 + 1)), some (.int x_4)]) dJ7_fill_d0a16_16 (by decide) rfl (congrArg (_ + ·) ki_1) rfl ?_
    refine m_goto 6 dJ7_fill_d0a16_19 (by decide) ?_
    exact hF
theorem en_J7_fill_d0a16 {d : Nat} {r_0 : Nat} {y_1 : Int64} {h : mH} {K : Option Value → mH → Prop} (hk : Wm d (0, 0) JJ7_fill_d0a16 0 [some (.ref r_0), some (.long y_1), none, none, none] [] h (fun r h' => h'.1 0 = h.1 0 ∧ K r h')) : Ev d (0, 0) MJ7_fill_d0a16 [.ref r_0, .long y_1] h K :=
  m_met pn_J7 nl_J7 (fun _ => Nat.le_of_ble_eq_true rfl) hk
theorem bk_J7_fill_53178_0 {d : Nat} (r_0 : Nat) (x_1 : Int32) {h : mH} {Q : Option Value → mH → Prop} (hF : (∃ n1 : Nat, m_len h r_0 = some n1 ∧ Wm d (0, 0) JJ7_fill_53178 5 [some (.ref r_0), some (.int x_1), some (.int 0), some (.int (nI n1))] [] h Q)) : Wm d (0, 0) JJ7_fill_53178 0 [some (.ref r_0), some (.int x_1), none, none] [] h Q := by
  refine m_iconst dJ7_fill_53178_0 ki_0 ?_
  refine m_istore_n (ls2 := [some (.ref r_0), some (.int x_1), some (.int 0), none]) dJ7_fill_53178_1 (by decide) rfl ?_
  refine m_aload_n dJ7_fill_53178_2 rfl ?_
  obtain ⟨n1, e, hF⟩ := hF
  refine m_alen dJ7_fill_53178_3 e ?_
  refine m_istore_n (ls2 := [some (.ref r_0), some (.int x_1), some (.int 0), some (.int (nI n1))]) dJ7_fill_53178_4 (by decide) rfl ?_
  exact hF
theorem bk_J7_fill_53178_5 {d : Nat} (r_0 : Nat) (x_1 : Int32) (x_2 : Int32) (x_3 : Int32) {h : mH} {Q : Option Value → mH → Prop} (hF : ((x_3 ≤ x_2 → Q none h) ∧ (¬ (x_3 ≤ x_2) → (∃ h1 : mH, m_is h r_0 x_2 x_1 = some h1 ∧ Wm d (0, 0) JJ7_fill_53178 5 [some (.ref r_0), some (.int x_1), some (.int (x_2 + 1)), some (.int x_3)] [] h1 Q)))) : Wm d (0, 0) JJ7_fill_53178 5 [some (.ref r_0), some (.int x_1), some (.int x_2), some (.int x_3)] [] h Q := by
  refine m_iload_n dJ7_fill_53178_5 rfl ?_
  refine m_iload_n dJ7_fill_53178_6 rfl ?_
  refine m_icmp_ge 20 dJ7_fill_53178_7 (by decide) (fun c => ?_) (fun c => ?_)
  · replace hF := hF.1 c
    exact m_return dJ7_fill_53178_20 trivial hF
  · replace hF := hF.2 c
    refine m_aload_n dJ7_fill_53178_10 rfl ?_
    refine m_iload_n dJ7_fill_53178_11 rfl ?_
    refine m_iload_n dJ7_fill_53178_12 rfl ?_
    obtain ⟨h1, e, hF⟩ := hF
    refine m_iast dJ7_fill_53178_13 e ?_
    refine m_iinc (v := x_2 + 1) (ls2 := [some (.ref r_0), some (.int x_1), some (.int (x_2 + 1)), some (.int x_3)]) dJ7_fill_53178_14 (by decide) rfl (congrArg (_ + ·) ki_1) rfl ?_
    refine m_goto 5 dJ7_fill_53178_17 (by decide) ?_
    exact hF
theorem en_J7_fill_53178 {d : Nat} {r_0 : Nat} {x_1 : Int32} {h : mH} {K : Option Value → mH → Prop} (hk : Wm d (0, 0) JJ7_fill_53178 0 [some (.ref r_0), some (.int x_1), none, none] [] h (fun r h' => h'.1 0 = h.1 0 ∧ K r h')) : Ev d (0, 0) MJ7_fill_53178 [.ref r_0, .int x_1] h K :=
  m_met pn_J7 nl_J7 (fun _ => Nat.le_of_ble_eq_true rfl) hk
theorem bk_J7_copyOf_c38d5_0 {d : Nat} {b : Nat × Nat} (r_0 : Nat) (x_1 : Int32) {h : mH} {Q : Option Value → mH → Prop} (hF : (∃ n1 : Nat, m_len h r_0 = some n1 ∧ ((¬ x_1 = (nI n1) → (∃ n2 : Nat, ¬ x_1 < 0 ∧ x_1.toNatClampNeg = n2 ∧ n2 ≤ 100000 ∧ 1 ≤ b.1 ∧ n2 ≤ b.2 ∧ ∀ h3 : mH, h3 = (m_up h.1 h.2 (.inl (1, n2, .inr (.inl fun _ => 0))), h.2 + 1) → (∃ n4 : Nat, m_len h3 r_0 = some n4 ∧ (∃ (n5 n6 k7 k8 k9 : Nat) (f10 f11 : Nat → Int64), (h3).1 r_0 = .inl (1, n5, .inr (.inl f10)) ∧ (h3).1 h.2 = .inl (1, n6, .inr (.inl f11)) ∧ 0 = nI k7 ∧ 0 = nI k8 ∧ (if x_1 < (nI n4) then x_1 else (nI n4)) = nI k9 ∧ k7 + k9 ≤ n5 ∧ k8 + k9 ≤ n6 ∧ n5 < 100000 ∧ n6 < 100000 ∧ ∀ h12 : mH, h12 = (m_up h3.1 h.2 (.inl (1, n6, .inr (.inl (va_cpy f10 f11 k7 k8 k9)))), h3.2) → Q (some (.ref h.2)) h12)))) ∧ (x_1 = (nI n1) → (∃ (n13 : Nat) (f14 : Nat → Int64), (h).1 r_0 = .inl (1, n13, .inr (.inl f14)) ∧ 1 ≤ b.1 ∧ n13 ≤ b.2 ∧ ∀ h15 : mH, h15 = (m_up h.1 h.2 (.inl (1, n13, .inr (.inl f14))), h.2 + 1) → (∃ (n16 : Nat) (f17 : Nat → Int64), (h15).1 h.2 = .inl (1, n16, .inr (.inl f17)) ∧ Q (some (.ref h.2)) h15)))))) : Wm (d + 1) b JJ7_copyOf_c38d5 0 [some (.ref r_0), some (.int x_1), none] [] h Q := by
  refine m_iload_n dJ7_copyOf_c38d5_0 rfl ?_
  refine m_aload_n dJ7_copyOf_c38d5_1 rfl ?_
  obtain ⟨n1, e, hF⟩ := hF
  refine m_alen dJ7_copyOf_c38d5_2 e ?_
  refine m_icmp_ne 14 dJ7_copyOf_c38d5_3 (by decide) (fun c => ?_) (fun c => ?_)
  · replace hF := hF.1 c
    refine m_iload_n dJ7_copyOf_c38d5_14 rfl ?_
    obtain ⟨n2, e1, e2, e3, e4, e5, hF⟩ := hF
    refine m_newarr (t := 1) (b2 := (b.1 - 1, b.2 - n2)) dJ7_copyOf_c38d5_15 e1 e2 e3 (Or.inr (Or.inl ⟨rfl, rfl, rfl⟩)) ac_long (Nat.le_of_eq (Nat.sub_add_cancel e4)) (Nat.le_of_eq (Nat.sub_add_cancel e5)) ?_
    replace hF := hF _ rfl
    generalize (m_up h.1 h.2 (.inl (1, n2, .inr (.inl fun _ => 0))), h.2 + 1) = h3 at hF ⊢
    refine m_astore_n (ls2 := [some (.ref r_0), some (.int x_1), some (.ref h.2)]) dJ7_copyOf_c38d5_17 (by decide) rfl ?_
    refine m_aload_n dJ7_copyOf_c38d5_18 rfl ?_
    refine m_iconst dJ7_copyOf_c38d5_19 ki_0 ?_
    refine m_aload_n dJ7_copyOf_c38d5_20 rfl ?_
    refine m_iconst dJ7_copyOf_c38d5_21 ki_0 ?_
    refine m_aload_n dJ7_copyOf_c38d5_22 rfl ?_
    obtain ⟨n4, e, hF⟩ := hF
    refine m_alen dJ7_copyOf_c38d5_23 e ?_
    refine m_iload_n dJ7_copyOf_c38d5_24 rfl ?_
    refine m_mmin mm_J7_304 mmin_1 mmin_2 mmin_3 dJ7_copyOf_c38d5_25 (Nat.le_of_ble_eq_true rfl) ?_
    obtain ⟨n5, n6, k7, k8, k9, f10, f11, ea, eb, es, ed, en, e4, e5, e6, e7, hF⟩ := hF
    refine m_copyeq es ed en ?_
    refine m_acopyL al_J7_150 ap_1 ap_2 ap_3 dJ7_copyOf_c38d5_28 ea eb e4 e5 e6 e7 (Nat.le_of_ble_eq_true rfl) ?_
    replace hF := hF _ rfl
    generalize (m_up h3.1 h.2 (.inl (1, n6, .inr (.inl (va_cpy f10 f11 k7 k8 k9)))), h3.2) = h12 at hF ⊢
    refine m_aload_n dJ7_copyOf_c38d5_31 rfl ?_
    exact m_areturn dJ7_copyOf_c38d5_32 trivial hF
  · replace hF := hF.2 c
    refine m_aload_n dJ7_copyOf_c38d5_6 rfl ?_
    obtain ⟨n13, f14, e, e4, e5, hF⟩ := hF
    refine m_cloneL (b2 := (b.1 - 1, b.2 - n13)) cn_1 cn_2 cn_3 cn_4 cn_5 dJ7_copyOf_c38d5_7 e (Nat.le_of_ble_eq_true rfl) (Nat.le_of_eq (Nat.sub_add_cancel e4)) (Nat.le_of_eq (Nat.sub_add_cancel e5)) ?_
    replace hF := hF _ rfl
    generalize (m_up h.1 h.2 (.inl (1, n13, .inr (.inl f14))), h.2 + 1) = h15 at hF ⊢
    obtain ⟨n16, f17, e, hF⟩ := hF
    refine m_castJ cl_J7_320 dJ7_copyOf_c38d5_10 e ?_
    exact m_areturn dJ7_copyOf_c38d5_13 trivial hF
theorem en_J7_copyOf_c38d5 {d : Nat} {b : Nat × Nat} {r_0 : Nat} {x_1 : Int32} {h : mH} {K : Option Value → mH → Prop} (hk : Wm (d + 1) b JJ7_copyOf_c38d5 0 [some (.ref r_0), some (.int x_1), none] [] h (fun r h' => h'.1 0 = h.1 0 ∧ K r h')) : Ev (d + 1) b MJ7_copyOf_c38d5 [.ref r_0, .int x_1] h K :=
  m_met pn_J7 nl_J7 (fun _ => Nat.le_of_ble_eq_true rfl) hk
